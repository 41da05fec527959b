-- way(): both sides
theorem vu_id {V : TVw} {k j : Nat} {v : Int} (h : V k j = v) : vu V k j v = V := by
  funext a b
  rw [vu_r]
  by_cases e : a = k ∧ b = j
  · rw [if_pos e, e.1, e.2, h]
  · rw [if_neg e]
def wyV (V : TVw) (p w t : Int) (k m : Nat) (n : Int) : TVw := vu (vu (vu (vu (vu V 106 k p) 51 72 n) 107 (4 * k + m) w) 108 (4 * k + m) t) 109 k ((m : Int) + 1)
/-- what is told new: way m of row k, n rows then -/
def wyH (V : TVw) (p w t : Int) (k m : Nat) (n : Int) : Prop :=
  (k : Int) < n ∧ n ≤ 3 ∧ m < 4 ∧ ((n = V 51 72 ∧ V 106 k = p ∧ V 109 k = (m : Int)) ∨ (n = V 51 72 + 1 ∧ (k : Int) = V 51 72 ∧ m = 0)) ∧ (∀ z : Nat, (z : Int) < V 51 72 → z ≠ k → V 106 z ≠ p) ∧ (0 < V 51 72 → V 65 (V 106 0).toNat = V 65 p.toNat) ∧ fsd V p w t = true
theorem plc (V : TVw) (p : Int) : ∀ n : Nat, ∃ k, k ≤ n ∧ (k < n → V 106 k = p) ∧ ∀ z, z < k → V 106 z ≠ p
  | 0 => ⟨0, Nat.le_refl _, fun h => absurd h (Nat.lt_irrefl _), fun z h => absurd h (Nat.not_lt_zero _)⟩
  | n + 1 => by
    obtain ⟨k, h1, h2, h3⟩ := plc V p n
    by_cases e : k < n
    · exact ⟨k, by omega, fun _ => h2 e, h3⟩
    · have : k = n := by omega
      subst this
      by_cases q : V 106 k = p
      · exact ⟨k, by omega, fun _ => q, h3⟩
      · refine ⟨k + 1, by omega, fun h => absurd h (Nat.lt_irrefl _), fun z hz => ?_⟩
        by_cases y : z = k
        · subst y
          exact q
        · exact h3 z (by omega)
section
variable {σ : TM} {V : TVw} {d : Nat} {p w t : Int} {k m : Nat} {n : Int}
theorem wy_106 (z : Nat) : wyV V p w t k m n 106 z = if z = k then p else V 106 z := by
  unfold wyV
  rw [vu_k (by decide), vu_k (by decide), vu_k (by decide), vu_k (by decide), vu_at]
theorem wy_107 (z : Nat) : wyV V p w t k m n 107 z = if z = 4 * k + m then w else V 107 z := by
  unfold wyV
  rw [vu_k (by decide), vu_k (by decide), vu_at, vu_k (by decide), vu_k (by decide)]
theorem wy_108 (z : Nat) : wyV V p w t k m n 108 z = if z = 4 * k + m then t else V 108 z := by
  unfold wyV
  rw [vu_k (by decide), vu_at, vu_k (by decide), vu_k (by decide), vu_k (by decide)]
theorem wy_109 (z : Nat) : wyV V p w t k m n 109 z = if z = k then (m : Int) + 1 else V 109 z := by
  unfold wyV
  rw [vu_at, vu_k (by decide), vu_k (by decide), vu_k (by decide), vu_k (by decide)]
theorem wy_72 : wyV V p w t k m n 51 72 = n := by
  unfold wyV
  rw [vu_k (by decide), vu_k (by decide), vu_k (by decide), vu_same]
theorem wy_51 {j : Nat} (hj : j ≠ 72) : wyV V p w t k m n 51 j = V 51 j := by
  unfold wyV
  rw [vu_k (by decide), vu_k (by decide), vu_k (by decide), vu_j hj, vu_k (by decide)]
theorem wy_o {a : Nat} (b : Nat) (h1 : a ≠ 51) (h2 : a ≠ 106) (h3 : a ≠ 107) (h4 : a ≠ 108) (h5 : a ≠ 109) : wyV V p w t k m n a b = V a b := by
  unfold wyV
  rw [vu_k h5, vu_k h4, vu_k h3, vu_k h1, vu_k h2]
theorem wy_uV : Uv [4328, 27, 28, 29, 30, 106, 107, 108, 109, 7600] V (wyV V p w t k m n) := Uv.up (Uv.up (Uv.up (Uv.up (Uv.up Uv.rf rfl) rfl) rfl) rfl) rfl
theorem wy_inv (hI : Inv V) (hH : wyH V p w t k m n) : Inv (wyV V p w t k m n) := Inv.k wy_uV hI (fun i hi hd => by
  rcases (by decide : ∀ i, i < 16 → djT [4328, 27, 28, 29, 30, 106, 107, 108, 109, 7600] (idep i) = false → i = 13) i hi hd with rfl
  obtain ⟨a1, a2, a3, a4, a5⟩ := hI 13
  obtain ⟨y1, y2, y3, y4, y5, y6, y7⟩ := hH
  unfold fsd at y7
  rw [decide_eq_true_eq] at y7
  obtain ⟨s1', s2', s3', s4'⟩ := y7
  have hold : ∀ z : Nat, (z : Int) < n → z ≠ k → (z : Int) < V 51 72 := fun z hz hk => by
    rcases y4 with ⟨c1, -, -⟩ | ⟨c1, c2, -⟩ <;> omega
  have e0 : ∀ s : Nat, (s : Int) < n → (s ≠ k ∨ k ≠ 0) → V 65 (wyV V p w t k m n 106 0).toNat = V 65 p.toNat := fun s hs hne => by
    rw [wy_106]
    by_cases z : 0 = k
    · rw [if_pos z]
    · rw [if_neg z]
      exact y6 (by rcases y4 with ⟨c1, -, -⟩ | ⟨c1, c2, -⟩ <;> omega)
  show 0 ≤ wyV V p w t k m n 51 72 ∧ wyV V p w t k m n 51 72 ≤ 3 ∧ 0 ≤ wyV V p w t k m n 51 74 ∧ wyV V p w t k m n 51 74 ≤ 3 ∧ ∀ s : Nat, (s : Int) < wyV V p w t k m n 51 72 → _
  rw [wy_51 (show (74 : Nat) ≠ 72 by decide), wy_72]
  refine ⟨by omega, y2, a3, a4, fun s hs => ?_⟩
  rw [wy_106 s, wy_109 s, wy_51 (show (23 : Nat) ≠ 72 by decide)]
  by_cases z : s = k
  · subst z
    rw [if_pos rfl, if_pos rfl]
    refine ⟨s1', s2', ?_, by omega, by omega, fun u hu hne => ?_, fun v hv => ?_⟩
    · show V 65 p.toNat = V 65 (wyV V p w t s m n 106 0).toNat
      by_cases q : s = 0
      · subst q
        rw [wy_106, if_pos rfl]
      · exact (e0 s hs (.inr q)).symm
    · rw [wy_106, if_neg hne]
      exact y5 u (hold u hu hne) hne
    · rw [wy_107, wy_108]
      by_cases q : v = m
      · subst q
        rw [if_pos rfl, if_pos rfl]
        refine ⟨by omega, by omega, fun q => by omega, fun q => ?_⟩
        have r : 0 ≤ t ∧ t < V 51 23 ∧ t ≠ p ∧ V 69 t.toNat = 0 ∧ fgm V t.toNat = fgm V p.toNat := by omega
        exact ⟨r.1, r.2.1, r.2.2.1, r.2.2.2.2⟩
      · rw [if_neg (by omega), if_neg (by omega)]
        rcases y4 with ⟨c1, c2, c3⟩ | ⟨c1, c2, c3⟩
        · obtain ⟨x1, x2, x3, x4, x5, x6, x7⟩ := a5 s (by omega)
          have x7 := x7 v (by omega)
          rw [c2] at x7
          exact x7
        · omega
  · rw [if_neg z, if_neg z]
    have hs2 := hold s hs z
    obtain ⟨x1, x2, x3, x4, x5, x6, x7⟩ := a5 s hs2
    refine ⟨x1, x2, ?_, x4, x5, fun u hu hne => ?_, fun v hv => ?_⟩
    · show V 65 (V 106 s).toNat = V 65 (wyV V p w t k m n 106 0).toNat
      rw [e0 s hs (.inl z), x3]
      exact y6 (by omega)
    · rw [wy_106]
      by_cases q : u = k
      · rw [if_pos q]
        exact fun e => y5 s hs2 z e.symm
      · rw [if_neg q]
        exact x6 u (hold u hu q) hne
    · rw [wy_107, wy_108, if_neg (by omega), if_neg (by omega)]
      exact x7 v hv)
theorem wy_cr {s : TM} (h : CR σ V) (hH : wyH V p w t k m n) (uS : Uc [4328, 27, 28, 29, 30, 106, 107, 108, 109, 7600] σ s) (f26 : s 26 0 0 = n) (f261 : s 26 0 1 = σ 26 0 1) (f27 : ∀ z, s 27 0 z = if z = k then p else σ 27 0 z) (f28 : ∀ z, s 28 0 z = if z = k then (m : Int) + 1 else σ 28 0 z) (f29 : ∀ z, s 29 0 z = if z = 4 * k + m then w else σ 29 0 z) (f30 : ∀ z, s 30 0 z = if z = 4 * k + m then t else σ 30 0 z) (f34 : ∀ z, s 34 0 z = σ 34 0 z) : CR s (wyV V p w t k m n) :=
  CR.k uS wy_uV h (wy_inv h.inv hH) (fun i hi hd => by
    rcases (by decide : ∀ i, i < 16 → djT [4328, 27, 28, 29, 30, 106, 107, 108, 109, 7600] (cdep i) = false → i = 12) i hi hd with rfl
    obtain ⟨a1, a2, a3, a4⟩ := h 12
    obtain ⟨-, -, -, -, a5⟩ := h.inv 13
    obtain ⟨y1, y2, y3, y4, y5, y6, y7⟩ := hH
    show s 26 0 0 = wyV V p w t k m n 51 72 ∧ s 26 0 1 = wyV V p w t k m n 51 74 ∧ (∀ z : Nat, (z : Int) < wyV V p w t k m n 51 72 → s 27 0 z = wyV V p w t k m n 106 z ∧ s 28 0 z = wyV V p w t k m n 109 z ∧ ∀ v : Nat, (v : Int) < wyV V p w t k m n 109 z → s 29 0 (4 * z + v) = wyV V p w t k m n 107 (4 * z + v) ∧ s 30 0 (4 * z + v) = wyV V p w t k m n 108 (4 * z + v)) ∧ ∀ z : Nat, (z : Int) < wyV V p w t k m n 51 74 → s 34 0 z = wyV V p w t k m n 110 z
    rw [wy_72, wy_51 (show (74 : Nat) ≠ 72 by decide), f26, f261]
    refine ⟨rfl, a2, fun z hz => ?_, fun z hz => by rw [f34]; exact a4 z hz⟩
    rw [f27, f28, wy_106, wy_109]
    by_cases q : z = k
    · subst q
      rw [if_pos rfl, if_pos rfl, if_pos rfl, if_pos rfl]
      refine ⟨rfl, rfl, fun v hv => ?_⟩
      rw [f29, f30, wy_107, wy_108]
      by_cases e : v = m
      · subst e
        rw [if_pos rfl, if_pos rfl, if_pos rfl, if_pos rfl]
        exact ⟨rfl, rfl⟩
      · rw [if_neg (by omega), if_neg (by omega), if_neg (by omega), if_neg (by omega)]
        rcases y4 with ⟨c1, c2, c3⟩ | ⟨c1, c2, c3⟩
        · exact (a3 z (by omega)).2.2 v (by omega)
        · omega
    · rw [if_neg q, if_neg q, if_neg q, if_neg q]
      have hz2 : (z : Int) < V 51 72 := by rcases y4 with ⟨c1, -, -⟩ | ⟨c1, c2, -⟩ <;> omega
      obtain ⟨b1, b2, b3⟩ := a3 z hz2
      obtain ⟨-, -, -, x4, x5, -⟩ := a5 z hz2
      refine ⟨b1, b2, fun v hv => ?_⟩
      rw [f29, f30, wy_107, wy_108, if_neg (by omega), if_neg (by omega), if_neg (by omega), if_neg (by omega)]
      exact b3 v hv)
theorem c_placeOf (h : CR σ V) (hk : (k : Int) ≤ V 51 72) (h1 : (k : Int) < V 51 72 → V 106 k = p) (h2 : ∀ z, z < k → V 106 z ≠ p) : t_run tbl mtb (d + 1) 48 [vh 26 0, vi p] σ = some (some (vi k), σ) := by
  obtain ⟨a1, a2, a3, a4⟩ := h 12
  obtain ⟨i1, i2, -⟩ := h.inv 13
  rw [run_go (k := 48) (as := [vh 26 0, vi p]) mt_48 (Nat.ne_of_beq_eq_false rfl) rfl (s_kX10_placeOf_0 _ p σ), nx_inl]
  obtain ⟨L, s, ⟨rfl, rfl⟩, e⟩ := loop_rel (O := t_run tbl mtb d) (k := 48) (pc := 2) (fun z L s => s = σ ∧ L = [some (vh 26 0), some (vi p), some (vi (z : Int))]) k (by
    rintro z L s hz ⟨rfl, rfl⟩
    have r3 : 0 ≤ (z : Int) ∧ (z : Int) < 3 := by omega
    have st := fun N => tr_step (n := N) (s_kX10_placeOf_2 (t_run tbl mtb d) p z s)
    simp only [a1, if_pos (show (z : Int) < V 51 72 by omega), if_pos r3, Int.toNat_natCast, (a3 z (by omega)).1, if_neg (h2 z hz), w32_nat (show z < 2147483647 by omega)] at st
    exact ⟨_, _, ⟨rfl, rfl⟩, st⟩) k 0 [some (vh 26 0), some (vi p), some (vi ((0 : Nat) : Int))] σ (by omega) ⟨rfl, rfl⟩
  have e := e (999998 - k + 1)
  rw [show 999998 - k + 1 + k = 999999 by omega] at e
  refine out_of (e.trans ?_)
  have st := fun N => tr_step (n := N) (s_kX10_placeOf_2 (t_run tbl mtb d) p k s)
  refine (st _).trans ?_
  by_cases z : (k : Int) < V 51 72
  · have r3 : 0 ≤ (k : Int) ∧ (k : Int) < 3 := by omega
    simp only [a1, if_pos z, if_pos r3, Int.toNat_natCast, (a3 k z).1, if_pos (h1 z)]
    rfl
  · simp only [a1, if_neg z]
    rw [show V 51 72 = (k : Int) by omega]
    rfl
end
