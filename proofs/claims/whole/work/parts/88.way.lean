-- way(): both sides
theorem vu_id {V : TVw} {k j : Nat} {v : Int} (h : V k j = v) : vu V k j v = V := by
  funext a b
  rw [vu_r]
  by_cases e : a = k ∧ b = j
  · rw [if_pos e, e.1, e.2, h]
  · rw [if_neg e]
def wyV (V : TVw) (p w t : Int) (k m : Nat) (n : Int) : TVw := vu (vu (vu (vu (vu V 106 k p) 51 72 n) 107 (4 * k + m) w) 108 (4 * k + m) t) 109 k ((m : Int) + 1)
/-- what is told new: way m of row k, n rows then -/
def wyH (V : TVw) (p w t : Int) (k m : Nat) (n : Int) : Prop :=
  (k : Int) < n ∧ n ≤ 3 ∧ m < 4 ∧ ((n = V 51 72 ∧ V 106 k = p ∧ V 109 k = (m : Int)) ∨ (n = V 51 72 + 1 ∧ (k : Int) = V 51 72 ∧ m = 0)) ∧ (∀ z : Nat, (z : Int) < V 51 72 → z ≠ k → V 106 z ≠ p) ∧ (0 < V 51 72 → V 65 (V 106 0).toNat = V 65 p.toNat) ∧ fsd V p w t = true
theorem plc (V : TVw) (p : Int) : ∀ n : Nat, ∃ k, k ≤ n ∧ (k < n → V 106 k = p) ∧ ∀ z, z < k → V 106 z ≠ p
  | 0 => ⟨0, Nat.le_refl _, fun h => absurd h (Nat.lt_irrefl _), fun z h => absurd h (Nat.not_lt_zero _)⟩
  | n + 1 => by
    obtain ⟨k, h1, h2, h3⟩ := plc V p n
    by_cases e : k < n
    · exact ⟨k, by omega, fun _ => h2 e, h3⟩
    · have : k = n := by omega
      subst this
      by_cases q : V 106 k = p
      · exact ⟨k, by omega, fun _ => q, h3⟩
      · refine ⟨k + 1, by omega, fun h => absurd h (Nat.lt_irrefl _), fun z hz => ?_⟩
        by_cases y : z = k
        · subst y
          exact q
        · exact h3 z (by omega)
section
variable {σ : TM} {V : TVw} {d : Nat} {p w t : Int} {k m : Nat} {n : Int}
theorem wy_106 (z : Nat) : wyV V p w t k m n 106 z = if z = k then p else V 106 z := by
  unfold wyV
  rw [vu_k (by decide), vu_k (by decide), vu_k (by decide), vu_k (by decide), vu_at]
theorem wy_107 (z : Nat) : wyV V p w t k m n 107 z = if z = 4 * k + m then w else V 107 z := by
  unfold wyV
  rw [vu_k (by decide), vu_k (by decide), vu_at, vu_k (by decide), vu_k (by decide)]
theorem wy_108 (z : Nat) : wyV V p w t k m n 108 z = if z = 4 * k + m then t else V 108 z := by
  unfold wyV
  rw [vu_k (by decide), vu_at, vu_k (by decide), vu_k (by decide), vu_k (by decide)]
theorem wy_109 (z : Nat) : wyV V p w t k m n 109 z = if z = k then (m : Int) + 1 else V 109 z := by
  unfold wyV
  rw [vu_at, vu_k (by decide), vu_k (by decide), vu_k (by decide), vu_k (by decide)]
theorem wy_72 : wyV V p w t k m n 51 72 = n := by
  unfold wyV
  rw [vu_k (by decide), vu_k (by decide), vu_k (by decide), vu_same]
theorem wy_51 {j : Nat} (hj : j ≠ 72) : wyV V p w t k m n 51 j = V 51 j := by
  unfold wyV
  rw [vu_k (by decide), vu_k (by decide), vu_k (by decide), vu_j hj, vu_k (by decide)]
theorem wy_o {a : Nat} (b : Nat) (h1 : a ≠ 51) (h2 : a ≠ 106) (h3 : a ≠ 107) (h4 : a ≠ 108) (h5 : a ≠ 109) : wyV V p w t k m n a b = V a b := by
  unfold wyV
  rw [vu_k h5, vu_k h4, vu_k h3, vu_k h1, vu_k h2]
theorem wy_uV : Uv [4328, 27, 28, 29, 30, 106, 107, 108, 109, 7600] V (wyV V p w t k m n) := Uv.up (Uv.up (Uv.up (Uv.up (Uv.up Uv.rf rfl) rfl) rfl) rfl) rfl
theorem wy_inv (hI : Inv V) (hH : wyH V p w t k m n) : Inv (wyV V p w t k m n) := Inv.k wy_uV hI (fun i hi hd => by
  rcases (by decide : ∀ i, i < 16 → djT [4328, 27, 28, 29, 30, 106, 107, 108, 109, 7600] (idep i) = false → i = 13) i hi hd with rfl
  obtain ⟨a1, a2, a3, a4, a5⟩ := hI 13
  obtain ⟨y1, y2, y3, y4, y5, y6, y7⟩ := hH
  unfold fsd at y7
  rw [decide_eq_true_eq] at y7
  obtain ⟨s1', s2', s3', s4'⟩ := y7
  have hold : ∀ z : Nat, (z : Int) < n → z ≠ k → (z : Int) < V 51 72 := fun z hz hk => by
    rcases y4 with ⟨c1, -, -⟩ | ⟨c1, c2, -⟩ <;> omega
  have e0 : ∀ s : Nat, (s : Int) < n → (s ≠ k ∨ k ≠ 0) → V 65 (wyV V p w t k m n 106 0).toNat = V 65 p.toNat := fun s hs hne => by
    rw [wy_106]
    by_cases z : 0 = k
    · rw [if_pos z]
    · rw [if_neg z]
      exact y6 (by rcases y4 with ⟨c1, -, -⟩ | ⟨c1, c2, -⟩ <;> omega)
  show 0 ≤ wyV V p w t k m n 51 72 ∧ wyV V p w t k m n 51 72 ≤ 3 ∧ 0 ≤ wyV V p w t k m n 51 74 ∧ wyV V p w t k m n 51 74 ≤ 3 ∧ ∀ s : Nat, (s : Int) < wyV V p w t k m n 51 72 → _
  rw [wy_51 (show (74 : Nat) ≠ 72 by decide), wy_72]
  refine ⟨by omega, y2, a3, a4, fun s hs => ?_⟩
  rw [wy_106 s, wy_109 s, wy_51 (show (23 : Nat) ≠ 72 by decide)]
  by_cases z : s = k
  · subst z
    rw [if_pos rfl, if_pos rfl]
    refine ⟨s1', s2', ?_, by omega, by omega, fun u hu hne => ?_, fun v hv => ?_⟩
    · show V 65 p.toNat = V 65 (wyV V p w t s m n 106 0).toNat
      by_cases q : s = 0
      · subst q
        rw [wy_106, if_pos rfl]
      · exact (e0 s hs (.inr q)).symm
    · rw [wy_106, if_neg hne]
      exact y5 u (hold u hu hne) hne
    · rw [wy_107, wy_108]
      by_cases q : v = m
      · subst q
        rw [if_pos rfl, if_pos rfl]
        refine ⟨by omega, by omega, fun q => by omega, fun q => ?_⟩
        have r : 0 ≤ t ∧ t < V 51 23 ∧ t ≠ p ∧ V 69 t.toNat = 0 ∧ fgm V t.toNat = fgm V p.toNat := by omega
        exact ⟨r.1, r.2.1, r.2.2.1, r.2.2.2.2⟩
      · rw [if_neg (by omega), if_neg (by omega)]
        rcases y4 with ⟨c1, c2, c3⟩ | ⟨c1, c2, c3⟩
        · obtain ⟨x1, x2, x3, x4, x5, x6, x7⟩ := a5 s (by omega)
          have x7 := x7 v (by omega)
          rw [c2] at x7
          exact x7
        · omega
  · rw [if_neg z, if_neg z]
    have hs2 := hold s hs z
    obtain ⟨x1, x2, x3, x4, x5, x6, x7⟩ := a5 s hs2
    refine ⟨x1, x2, ?_, x4, x5, fun u hu hne => ?_, fun v hv => ?_⟩
    · show V 65 (V 106 s).toNat = V 65 (wyV V p w t k m n 106 0).toNat
      rw [e0 s hs (.inl z), x3]
      exact y6 (by omega)
    · rw [wy_106]
      by_cases q : u = k
      · rw [if_pos q]
        exact fun e => y5 s hs2 z e.symm
      · rw [if_neg q]
        exact x6 u (hold u hu q) hne
    · rw [wy_107, wy_108, if_neg (by omega), if_neg (by omega)]
      exact x7 v hv)
theorem wy_cr {s : TM} (h : CR σ V) (hH : wyH V p w t k m n) (uS : Uc [4328, 27, 28, 29, 30, 106, 107, 108, 109, 7600] σ s) (f26 : s 26 0 0 = n) (f261 : s 26 0 1 = σ 26 0 1) (f27 : ∀ z, s 27 0 z = if z = k then p else σ 27 0 z) (f28 : ∀ z, s 28 0 z = if z = k then (m : Int) + 1 else σ 28 0 z) (f29 : ∀ z, s 29 0 z = if z = 4 * k + m then w else σ 29 0 z) (f30 : ∀ z, s 30 0 z = if z = 4 * k + m then t else σ 30 0 z) (f34 : ∀ z, s 34 0 z = σ 34 0 z) : CR s (wyV V p w t k m n) :=
  CR.k uS wy_uV h (wy_inv h.inv hH) (fun i hi hd => by
    rcases (by decide : ∀ i, i < 16 → djT [4328, 27, 28, 29, 30, 106, 107, 108, 109, 7600] (cdep i) = false → i = 12) i hi hd with rfl
    obtain ⟨a1, a2, a3, a4⟩ := h 12
    obtain ⟨-, -, -, -, a5⟩ := h.inv 13
    obtain ⟨y1, y2, y3, y4, y5, y6, y7⟩ := hH
    show s 26 0 0 = wyV V p w t k m n 51 72 ∧ s 26 0 1 = wyV V p w t k m n 51 74 ∧ (∀ z : Nat, (z : Int) < wyV V p w t k m n 51 72 → s 27 0 z = wyV V p w t k m n 106 z ∧ s 28 0 z = wyV V p w t k m n 109 z ∧ ∀ v : Nat, (v : Int) < wyV V p w t k m n 109 z → s 29 0 (4 * z + v) = wyV V p w t k m n 107 (4 * z + v) ∧ s 30 0 (4 * z + v) = wyV V p w t k m n 108 (4 * z + v)) ∧ ∀ z : Nat, (z : Int) < wyV V p w t k m n 51 74 → s 34 0 z = wyV V p w t k m n 110 z
    rw [wy_72, wy_51 (show (74 : Nat) ≠ 72 by decide), f26, f261]
    refine ⟨rfl, a2, fun z hz => ?_, fun z hz => by rw [f34]; exact a4 z hz⟩
    rw [f27, f28, wy_106, wy_109]
    by_cases q : z = k
    · subst q
      rw [if_pos rfl, if_pos rfl, if_pos rfl, if_pos rfl]
      refine ⟨rfl, rfl, fun v hv => ?_⟩
      rw [f29, f30, wy_107, wy_108]
      by_cases e : v = m
      · subst e
        rw [if_pos rfl, if_pos rfl, if_pos rfl, if_pos rfl]
        exact ⟨rfl, rfl⟩
      · rw [if_neg (by omega), if_neg (by omega), if_neg (by omega), if_neg (by omega)]
        rcases y4 with ⟨c1, c2, c3⟩ | ⟨c1, c2, c3⟩
        · exact (a3 z (by omega)).2.2 v (by omega)
        · omega
    · rw [if_neg q, if_neg q, if_neg q, if_neg q]
      have hz2 : (z : Int) < V 51 72 := by rcases y4 with ⟨c1, -, -⟩ | ⟨c1, c2, -⟩ <;> omega
      obtain ⟨b1, b2, b3⟩ := a3 z hz2
      obtain ⟨-, -, -, x4, x5, -⟩ := a5 z hz2
      refine ⟨b1, b2, fun v hv => ?_⟩
      rw [f29, f30, wy_107, wy_108, if_neg (by omega), if_neg (by omega), if_neg (by omega), if_neg (by omega)]
      exact b3 v hv)
theorem c_placeOf (h : CR σ V) (hk : (k : Int) ≤ V 51 72) (h1 : (k : Int) < V 51 72 → V 106 k = p) (h2 : ∀ z, z < k → V 106 z ≠ p) : t_run tbl mtb (d + 1) 48 [vh 26 0, vi p] σ = some (some (vi k), σ) := by
  obtain ⟨a1, a2, a3, a4⟩ := h 12
  obtain ⟨i1, i2, -⟩ := h.inv 13
  rw [run_go (k := 48) (as := [vh 26 0, vi p]) mt_48 (Nat.ne_of_beq_eq_false rfl) rfl (s_kX10_placeOf_0 _ p σ), nx_inl]
  obtain ⟨L, s, ⟨rfl, rfl⟩, e⟩ := loop_rel (O := t_run tbl mtb d) (k := 48) (pc := 2) (fun z L s => s = σ ∧ L = [some (vh 26 0), some (vi p), some (vi (z : Int))]) k (by
    rintro z L s hz ⟨rfl, rfl⟩
    have r3 : 0 ≤ (z : Int) ∧ (z : Int) < 3 := by omega
    have st := fun N => tr_step (n := N) (s_kX10_placeOf_2 (t_run tbl mtb d) p z s)
    simp only [a1, if_pos (show (z : Int) < V 51 72 by omega), if_pos r3, Int.toNat_natCast, (a3 z (by omega)).1, if_neg (h2 z hz), w32_nat (show z < 2147483647 by omega)] at st
    exact ⟨_, _, ⟨rfl, rfl⟩, st⟩) k 0 [some (vh 26 0), some (vi p), some (vi ((0 : Nat) : Int))] σ (by omega) ⟨rfl, rfl⟩
  have e := e (999998 - k + 1)
  rw [show 999998 - k + 1 + k = 999999 by omega] at e
  refine out_of (e.trans ?_)
  have st := fun N => tr_step (n := N) (s_kX10_placeOf_2 (t_run tbl mtb d) p k s)
  refine (st _).trans ?_
  by_cases z : (k : Int) < V 51 72
  · have r3 : 0 ≤ (k : Int) ∧ (k : Int) < 3 := by omega
    simp only [a1, if_pos z, if_pos r3, Int.toNat_natCast, (a3 k z).1, if_pos (h1 z)]
    rfl
  · simp only [a1, if_neg z]
    rw [show V 51 72 = (k : Int) by omega]
    rfl
noncomputable def wyA (σ : TM) (w t : Int) (k m : Nat) : TM := t_upd (t_upd (t_upd σ 29 0 (4 * k + m) w) 30 0 (4 * k + m) t) 28 0 k ((m : Int) + 1)
noncomputable def wyB (σ : TM) (p w t : Int) (k : Nat) : TM := t_upd (t_upd (t_upd (t_upd (t_upd (t_upd σ 27 0 k p) 28 0 k 0) 26 0 0 ((k : Int) + 1)) 29 0 (4 * k + 0) w) 30 0 (4 * k + 0) t) 28 0 k 1
theorem c_tell (h : CR σ V) (hk : (k : Int) ≤ V 51 72) (h1 : (k : Int) < V 51 72 → V 106 k = p) (h2 : ∀ z, z < k → V 106 z ≠ p) : t_run tbl mtb (d + 2) 47 [vh 26 0, vi p, vi w, vi t] σ = if (k : Int) < V 51 72 then (if V 109 k < 4 then some (some (vi (V 109 k + 1)), wyA σ w t k (V 109 k).toNat) else some (some (vi (-3)), σ)) else (if (k : Int) < 3 then some (some (vi 1), wyB σ p w t k) else some (some (vi (-3)), σ)) := by
  obtain ⟨a1, a2, a3, a4⟩ := h 12
  obtain ⟨i1, i2, -, -, i5⟩ := h.inv 13
  rw [run_go (k := 47) (as := [vh 26 0, vi p, vi w, vi t]) mt_47 (Nat.ne_of_beq_eq_false rfl) rfl (s_kX10_tell_0 _ p w t σ), ci_of (c_placeOf (d := d) h hk h1 h2)]
  simp only [a1, Int.toNat_natCast]
  by_cases z : (k : Int) < V 51 72
  · obtain ⟨b1, b2, -⟩ := a3 k z
    obtain ⟨-, -, -, x4, x5, -⟩ := i5 k z
    obtain ⟨m, hm⟩ : ∃ m : Nat, V 109 k = (m : Int) := ⟨(V 109 k).toNat, by omega⟩
    rw [hm] at b2 x4 x5 ⊢
    rw [if_pos z, if_pos (show (k : Int) < 3 by omega), if_neg (show ¬ (k : Int) = V 51 72 by omega), if_pos (show 0 ≤ (k : Int) ∧ (k : Int) < 3 by omega)]
    simp only [b2]
    by_cases y : (m : Int) < 4
    · have wi : w32 (w32 ((k : Int) * 4) + (m : Int)) = ((4 * k + m : Nat) : Int) := by
        rw [w32_add_l, w32_id (by omega) (by omega)]
        omega
      have ri : 0 ≤ ((4 * k + m : Nat) : Int) ∧ ((4 * k + m : Nat) : Int) < 12 := by omega
      have r3 : 0 ≤ (k : Int) ∧ (k : Int) < 3 := by omega
      simp only [if_pos y, if_pos r3, wi, if_pos ri, Int.toNat_natCast, up_k (show (28 : Nat) ≠ 29 by decide), up_k (show (28 : Nat) ≠ 30 by decide), b2, up_same, w32_id (x := (m : Int) + 1) (by omega) (by omega)]
      rfl
    · rw [if_neg y, if_neg y]
      rfl
  · rw [if_neg z]
    have ek : V 51 72 = (k : Int) := by omega
    rw [ek]
    by_cases y : (k : Int) < 3
    · have wi : w32 (w32 ((k : Int) * 4) + 0) = ((4 * k + 0 : Nat) : Int) := by
        rw [w32_add_l, w32_id (by omega) (by omega)]
        omega
      have ri : 0 ≤ ((4 * k + 0 : Nat) : Int) ∧ ((4 * k + 0 : Nat) : Int) < 12 := by omega
      have r3 : 0 ≤ (k : Int) ∧ (k : Int) < 3 := by omega
      have w1 : w32 (0 + 1) = 1 := w32_id (by decide) (by decide)
      have wk : w32 ((k : Int) + 1) = (k : Int) + 1 := w32_id (by omega) (by omega)
      rw [if_pos y, if_pos y]
      simp only [if_true, if_pos r3, up_k (show (26 : Nat) ≠ 28 by decide), up_k (show (26 : Nat) ≠ 27 by decide), up_k (show (28 : Nat) ≠ 26 by decide), up_k (show (28 : Nat) ≠ 29 by decide), up_k (show (28 : Nat) ≠ 30 by decide), up_same, a1, ek, if_pos (show (0 : Int) < 4 by decide), wi, if_pos ri, Int.toNat_natCast, w1, wk]
      rfl
    · rw [if_neg y, if_neg y]
      rfl
noncomputable def wrA (σ : TM) (w t : Int) (k m : Nat) : TM := t_upd (t_upd (t_upd σ 107 0 (4 * k + m) w) 108 0 (4 * k + m) t) 109 0 k ((m : Int) + 1)
noncomputable def wrB (σ : TM) (p w t : Int) (k : Nat) : TM := t_upd (t_upd (t_upd (t_upd (t_upd (t_upd σ 106 0 k p) 109 0 k 0) 51 0 72 ((k : Int) + 1)) 107 0 (4 * k + 0) w) 108 0 (4 * k + 0) t) 109 0 k 1
theorem r_tell (hV : RV σ V) (hI : Inv V) (hk : (k : Int) ≤ V 51 72) (h1 : (k : Int) < V 51 72 → V 106 k = p) (h2 : ∀ z, z < k → V 106 z ≠ p) : t_out (t_tr tbl mtb (t_run tbl mtb (d + 99)) 220 999999 85 [some (vh 51 0), some (vi p), some (vi w), some (vi t), some (vi ((0 : Nat) : Int))] [] σ) = if (k : Int) < V 51 72 then (if V 109 k < 4 then some (some (vi (V 109 k + 1)), wrA σ w t k (V 109 k).toNat) else some (some (vi (-3)), σ)) else (if (k : Int) < 3 then some (some (vi 1), wrB σ p w t k) else some (some (vi (-3)), σ)) := by
  obtain ⟨i1, i2, -, -, i5⟩ := hI 13
  have q72 : σ 51 0 72 = V 51 72 := hV 51 72 rfl rfl rfl
  have q106 : ∀ z, σ 106 0 z = V 106 z := fun z => hV 106 z rfl rfl rfl
  have q109 : ∀ z, σ 109 0 z = V 109 z := fun z => hV 109 z rfl rfl rfl
  obtain ⟨L, s, ⟨rfl, rfl⟩, e⟩ := loop_rel (O := t_run tbl mtb (d + 99)) (k := 220) (pc := 85) (fun z L s => s = σ ∧ L = [some (vh 51 0), some (vi p), some (vi w), some (vi t), some (vi (z : Int))]) k (by
    rintro z L s hz ⟨rfl, rfl⟩
    have r3 : 0 ≤ (z : Int) ∧ (z : Int) < 3 := by omega
    have st := fun N => tr_step (n := N) (s_kX12_way_85 (t_run tbl mtb (d + 99)) p w t z s )
    simp only [q72, if_pos (show (z : Int) < V 51 72 by omega), if_pos r3, Int.toNat_natCast, q106, if_neg (h2 z hz), w32_nat (show z < 2147483647 by omega)] at st
    exact ⟨_, _, ⟨rfl, rfl⟩, st⟩) k 0 [some (vh 51 0), some (vi p), some (vi w), some (vi t), some (vi ((0 : Nat) : Int))] σ (by omega) ⟨rfl, rfl⟩
  have e := e (999998 - k + 1)
  rw [show 999998 - k + 1 + k = 999999 by omega] at e
  rw [e]
  have st := fun N => tr_step (n := N) (s_kX12_way_85 (t_run tbl mtb (d + 99)) p w t k s )
  rw [st]
  by_cases z : (k : Int) < V 51 72
  · obtain ⟨-, -, -, x4, x5, -⟩ := i5 k z
    obtain ⟨m, hm⟩ : ∃ m : Nat, V 109 k = (m : Int) := ⟨(V 109 k).toNat, by omega⟩
    have q109k : s 109 0 k = (m : Int) := (q109 k).trans hm
    rw [hm] at x4 x5 ⊢
    have r3 : 0 ≤ (k : Int) ∧ (k : Int) < 3 := by omega
    rw [if_pos z]
    simp only [q72, if_pos z, if_pos r3, Int.toNat_natCast, q106, if_pos (h1 z), if_neg (show ¬ (k : Int) = 3 by omega), q109k, if_neg (show ¬ (k : Int) = V 51 72 by omega)]
    by_cases y : (m : Int) < 4
    · have wi : w32 (w32 (4 * (k : Int)) + (m : Int)) = ((4 * k + m : Nat) : Int) := by
        rw [w32_add_l, w32_id (by omega) (by omega)]
        omega
      have ri : 0 ≤ ((4 * k + m : Nat) : Int) ∧ ((4 * k + m : Nat) : Int) < 12 := by omega
      rw [if_pos y, if_neg (show ¬ (m : Int) = 4 by omega)]
      simp only [wi, if_pos ri, Int.toNat_natCast, up_k (show (109 : Nat) ≠ 107 by decide), up_k (show (109 : Nat) ≠ 108 by decide), q109k, up_same, w32_id (x := (m : Int) + 1) (by omega) (by omega)]
      rfl
    · rw [if_neg y, if_pos (show (m : Int) = 4 by omega)]
      rfl
  · rw [if_neg z]
    have ek : V 51 72 = (k : Int) := by omega
    simp only [q72, if_neg z]
    rw [ek]
    by_cases y : (k : Int) < 3
    · have wi : w32 (w32 (4 * (k : Int)) + 0) = ((4 * k + 0 : Nat) : Int) := by
        rw [w32_add_l, w32_id (by omega) (by omega)]
        omega
      have ri : 0 ≤ ((4 * k + 0 : Nat) : Int) ∧ ((4 * k + 0 : Nat) : Int) < 12 := by omega
      have r3 : 0 ≤ (k : Int) ∧ (k : Int) < 3 := by omega
      have w1 : w32 (0 + 1) = 1 := w32_id (by decide) (by decide)
      have wk : w32 ((k : Int) + 1) = (k : Int) + 1 := w32_id (by omega) (by omega)
      rw [if_neg (show ¬ (k : Int) = 3 by omega), if_pos y]
      simp only [if_true, if_pos r3, up_k (show (51 : Nat) ≠ 109 by decide), up_k (show (51 : Nat) ≠ 106 by decide), up_k (show (109 : Nat) ≠ 51 by decide), up_k (show (109 : Nat) ≠ 107 by decide), up_k (show (109 : Nat) ≠ 108 by decide), up_same, q72, ek, wi, if_pos ri, Int.toNat_natCast, w1, wk]
      rfl
    · rw [if_pos (show (k : Int) = 3 by omega), if_neg y]
      rfl
theorem up_at {σ : TM} {k i : Nat} {v : Int} (z : Nat) : t_upd σ k 0 i v k 0 z = if z = i then v else σ k 0 z := by
  rw [t_upd_eq]
  by_cases e : z = i
  · rw [if_pos ⟨rfl, rfl, e⟩, if_pos e]
  · rw [if_neg (fun q => e q.2.2), if_neg e]
theorem two_way (hW : WW σ V) (p w t : Int) : Two (d + 100) 116 220 [vi p, vi w, vi t] σ := by
  have h := hW.1
  have hI := h.inv
  have h0 := hI.cnt
  obtain ⟨a1, a2, a3, a4⟩ := h 12
  obtain ⟨i1, i2, -, -, i5⟩ := hI 13
  by_cases hs : fsd V p w t = true
  · have hs2 := hs
    unfold fsd at hs2
    rw [decide_eq_true_eq] at hs2
    obtain ⟨u1, u2, u3, u4⟩ := hs2
    obtain ⟨P, rfl⟩ : ∃ P : Nat, p = (P : Int) := ⟨p.toNat, by omega⟩
    have hP : P < nP V := by omega
    have r40 : 0 ≤ (P : Int) ∧ (P : Int) < 40 := by omega
    have hw1 : w = 1 → 0 ≤ t ∧ t < 48 := fun e => by omega
    have hw2 : w = 2 → 0 ≤ t ∧ t < V 51 23 := fun e => by omega
    have hn1 : w ≠ 1 → fcb V P w t = true := fun e => by
      unfold fcb
      rw [if_neg e]
      by_cases e2 : w = 2
      · rw [if_pos e2]
        exact decide_eq_true (by omega)
      · rw [if_neg e2]
    by_cases hb : fcb V P w t = true
    · have eh0 : 0 < V 51 72 → 0 ≤ V 106 0 ∧ V 106 0 < V 51 23 := fun q => by
        obtain ⟨x1, x2, -⟩ := i5 0 q
        exact ⟨x1, x2⟩
      -- what both do before it is told
      have cw : ∀ r : Int × TM, (if 0 < V 51 72 ∧ V 65 (V 106 0).toNat ≠ V 65 P then r = (-1, σ) else t_run tbl mtb (d + 99) 47 [vh 26 0, vi P, vi w, vi t] σ = some (some (vi r.1), r.2)) → t_run tbl mtb (d + 100) 116 [vh 0 0, vi P, vi w, vi t] σ = some (some (vi r.1), r.2) := fun r hr => by
        obtain ⟨-, f1, -⟩ := h 5 P hP
        rw [run_go (k := 116) (as := [vh 0 0, vi P, vi w, vi t]) mt_116 (Nat.ne_of_beq_eq_false rfl) rfl (s_kX11_way_0 _ P w t σ), ci_of (c_isSound (d := d + 97) h P w t), hs, if_neg (show ¬ bi true = 0 by decide), ci_of (c_canBe (d := d + 96) h hP hw1 hw2), hb, if_neg (show ¬ bi true = 0 by decide)]
        simp only [a1, Int.toNat_natCast]
        by_cases z : 0 < V 51 72
        · obtain ⟨v1, v2⟩ := eh0 z
          obtain ⟨-, g1, -⟩ := h 5 (V 106 0).toNat (by omega)
          rw [if_pos z, if_pos r40]
          simp only [(a3 0 z).1, if_pos (show 0 ≤ V 106 0 ∧ V 106 0 < 40 by omega), f1, g1]
          by_cases y : V 65 P = V 65 (V 106 0).toNat
          · rw [if_neg (fun q => q.2 y.symm)] at hr
            rw [if_pos y, ci_of hr]
            rfl
          · rw [if_pos ⟨z, fun q => y q.symm⟩] at hr
            subst hr
            rw [if_neg y]
            rfl
        · rw [if_neg (fun q => z q.1)] at hr
          rw [if_neg z, ci_of hr]
          rfl
      have rw' : ∀ s, RV s V → t_run tbl mtb (d + 100) 220 [vh 51 0, vi P, vi w, vi t] s = if 0 < V 51 72 ∧ V 65 (V 106 0).toNat ≠ V 65 P then some (some (vi (-1)), s) else t_out (t_tr tbl mtb (t_run tbl mtb (d + 99)) 220 999999 85 [some (vh 51 0), some (vi P), some (vi w), some (vi t), some (vi ((0 : Nat) : Int))] [] s) := fun s hV => by
        have q65 : ∀ z, s 65 0 z = V 65 z := fun z => hV 65 z rfl rfl rfl
        have q106 : s 106 0 0 = V 106 0 := hV 106 0 rfl rfl rfl
        have q72 : s 51 0 72 = V 51 72 := hV 51 72 rfl rfl rfl
        have es : (fsd V P w t && decide (V 65 (P : Int).toNat = V 65 P)) = true := by rw [hs, Int.toNat_natCast, decide_eq_true rfl]; rfl
        have eI : t_run tbl mtb (d + 99) 192 [vh 51 0, vi (V 65 P), vi P, vi w, vi t] s = some (some (vi 1), s) := by
          have := r_isSaid (d := d + 96) hV hI (V 65 P) P w t
          rw [es] at this
          exact this
        have eC : t_run tbl mtb (d + 99) 199 [vh 51 0, vi P, vi w, vi t] s = some (some (vi 1), s) := by
          have := r_canBe (d := d + 95) hV hI hP hw1 hw2
          rw [hb] at this
          exact this
        have eP : t_run tbl mtb (d + 99) 141 [vh 51 0, vi P] s = some (some (vi 1), s) := by
          have := r_isPiece (d := d + 98) hV (P : Int)
          rw [decide_eq_true (show 0 ≤ (P : Int) ∧ (P : Int) < V 51 23 by omega)] at this
          exact this
        rw [run_go (k := 220) (as := [vh 51 0, vi P, vi w, vi t]) mt_220 (Nat.ne_of_beq_eq_false rfl) rfl (s_kX12_way_0 _ P w t s)]
        simp only [eP, ci_ok, if_neg (show ¬ (1 : Int) = 0 by decide), Int.toNat_natCast, if_pos r40, q65, eI, eC, q72, q106]
        rw [ite_self]
        by_cases z : 0 < V 51 72
        · obtain ⟨v1, v2⟩ := eh0 z
          simp only [if_pos z, if_pos (show 0 ≤ V 106 0 ∧ V 106 0 < 40 by omega)]
          by_cases y : V 65 (V 106 0).toNat = V 65 P
          · rw [if_pos y, if_neg (fun q => q.2 y)]
            rfl
          · rw [if_neg y, if_pos ⟨z, y⟩]
            rfl
        · rw [if_neg z, if_neg (fun q => z q.1)]
          rfl
      by_cases hm : 0 < V 51 72 ∧ V 65 (V 106 0).toNat ≠ V 65 P
      · exact two_ask (r := vi (-1)) hW ⟨σ, Sc.rf, cw (-1, σ) (by rw [if_pos hm])⟩ (fun s hV => ⟨s, Sc.rf, by rw [rw' s hV, if_pos hm]⟩)
      · obtain ⟨k, hk, hk1, hk2⟩ := plc V P (V 51 72).toNat
        have hk' : (k : Int) ≤ V 51 72 := by omega
        have hk1' : (k : Int) < V 51 72 → V 106 k = P := fun q => hk1 (by omega)
        have ct := c_tell (d := d + 97) (w := w) (t := t) h hk' hk1' hk2
        have hsm : 0 < V 51 72 → V 65 (V 106 0).toNat = V 65 (P : Int).toNat := fun q => by
          rw [Int.toNat_natCast]
          by_cases e : V 65 (V 106 0).toNat = V 65 P
          · exact e
          · exact absurd ⟨q, e⟩ hm
        by_cases z : (k : Int) < V 51 72
        · rw [if_pos z] at ct
          obtain ⟨b1, b2, -⟩ := a3 k z
          obtain ⟨x1, x2, x3, x4, x5, x6, x7⟩ := i5 k z
          by_cases y : V 109 k < 4
          · rw [if_pos y] at ct
            obtain ⟨m, hm'⟩ : ∃ m : Nat, V 109 k = (m : Int) := ⟨(V 109 k).toNat, by omega⟩
            have et : (V 109 k).toNat = m := by omega
            rw [et, hm'] at ct
            have hH : wyH V P w t k m (V 51 72) := ⟨z, i2, by omega, .inl ⟨rfl, hk1' z, hm'⟩, fun q hq hne => by
              rw [← hk1' z]
              exact x6 q hq hne, hsm, hs⟩
            have eV : wyV V P w t k m (V 51 72) = vu (vu (vu V 107 (4 * k + m) w) 108 (4 * k + m) t) 109 k ((m : Int) + 1) := by
              unfold wyV
              rw [vu_id (hk1' z), vu_id rfl]
            have uS : Uc [4328, 27, 28, 29, 30, 106, 107, 108, 109, 7600] σ (wyA σ w t k m) := Uc.up (Uc.up (Uc.up Uc.rf rfl) rfl) rfl
            refine two_of (r := vi ((m : Int) + 1)) (V' := wyV V P w t k m (V 51 72)) hW ⟨wyA σ w t k m, ((FC.rf.up rfl).up rfl).up rfl, wy_cr h hH uS ?_ ?_ (fun q => ?_) (fun q => ?_) (fun q => ?_) (fun q => ?_) (fun q => ?_), KW.k uS wy_uV hW.2.2 rfl, cw (_, _) (by rw [if_neg hm]; exact ct)⟩ (fun s hV => ⟨wrA s w t k m, ((FR.rf.up rfl).up rfl).up rfl, by rw [eV]; exact hV.up.up.up, ?_⟩)
            · unfold wyA
              rw [up_k (by decide), up_k (by decide), up_k (by decide)]
              exact a1
            · unfold wyA
              rw [up_k (by decide), up_k (by decide), up_k (by decide)]
            · unfold wyA
              rw [up_k (by decide), up_k (by decide), up_k (by decide)]
              by_cases e : q = k
              · rw [if_pos e, e, b1, hk1' z]
              · rw [if_neg e]
            · unfold wyA
              rw [up_at, up_k (by decide), up_k (by decide)]
            · unfold wyA
              rw [up_k (by decide), up_k (by decide), up_at]
            · unfold wyA
              rw [up_k (by decide), up_at, up_k (by decide)]
            · unfold wyA
              rw [up_k (by decide), up_k (by decide), up_k (by decide)]
            · rw [rw' s hV, if_neg hm, r_tell hV hI hk' hk1' hk2, if_pos z, if_pos y, et, hm']
          · rw [if_neg y] at ct
            exact two_ask (r := vi (-3)) hW ⟨σ, Sc.rf, cw (-3, σ) (by rw [if_neg hm]; exact ct)⟩ (fun s hV => ⟨s, Sc.rf, by rw [rw' s hV, if_neg hm, r_tell hV hI hk' hk1' hk2, if_pos z, if_neg y]⟩)
        · rw [if_neg z] at ct
          by_cases y : (k : Int) < 3
          · rw [if_pos y] at ct
            have hH : wyH V P w t k 0 ((k : Int) + 1) := ⟨by omega, by omega, by omega, .inr ⟨by omega, by omega, rfl⟩, fun q hq hne => hk2 q (by omega), hsm, hs⟩
            have eV : wyV V P w t k 0 ((k : Int) + 1) = vu (vu (vu (vu (vu (vu V 106 k P) 109 k 0) 51 72 ((k : Int) + 1)) 107 (4 * k + 0) w) 108 (4 * k + 0) t) 109 k 1 := by
              funext a b
              unfold wyV
              rw [vu_r, vu_r (k := 109)]
              by_cases e : a = 109 ∧ b = k
              · rw [if_pos e, if_pos e]
                rfl
              · rw [if_neg e, if_neg e, vu_r, vu_r, vu_r, vu_r, vu_r, vu_r, vu_r, vu_r, vu_r, if_neg e]
            have uS : Uc [4328, 27, 28, 29, 30, 106, 107, 108, 109, 7600] σ (wyB σ P w t k) := Uc.up (Uc.up (Uc.up (Uc.up (Uc.up (Uc.up Uc.rf rfl) rfl) rfl) rfl) rfl) rfl
            refine two_of (r := vi 1) (V' := wyV V P w t k 0 ((k : Int) + 1)) hW ⟨wyB σ P w t k, (((((FC.rf.up rfl).up rfl).up rfl).up rfl).up rfl).up rfl, wy_cr h hH uS ?_ ?_ (fun q => ?_) (fun q => ?_) (fun q => ?_) (fun q => ?_) (fun q => ?_), KW.k uS wy_uV hW.2.2 rfl, cw (_, _) (by rw [if_neg hm]; exact ct)⟩ (fun s hV => ⟨wrB s P w t k, (((((FR.rf.up rfl).up rfl).up rfl).up rfl).up rfl).up rfl, by rw [eV]; exact hV.up.up.up.up.up.up, ?_⟩)
            · unfold wyB
              rw [up_k (by decide), up_k (by decide), up_k (by decide), up_same]
            · unfold wyB
              rw [up_k (by decide), up_k (by decide), up_k (by decide), up_j (by decide), up_k (by decide), up_k (by decide)]
            · unfold wyB
              rw [up_k (by decide), up_k (by decide), up_k (by decide), up_k (by decide), up_k (by decide), up_at]
            · unfold wyB
              rw [up_at, up_k (by decide), up_k (by decide), up_k (by decide), up_at, up_k (by decide)]
              by_cases e : q = k
              · rw [if_pos e, if_pos e]
                rfl
              · rw [if_neg e, if_neg e, if_neg e]
            · unfold wyB
              rw [up_k (by decide), up_k (by decide), up_at, up_k (by decide), up_k (by decide), up_k (by decide)]
            · unfold wyB
              rw [up_k (by decide), up_at, up_k (by decide), up_k (by decide), up_k (by decide), up_k (by decide)]
            · unfold wyB
              rw [up_k (by decide), up_k (by decide), up_k (by decide), up_k (by decide), up_k (by decide), up_k (by decide)]
            · rw [rw' s hV, if_neg hm, r_tell hV hI hk' hk1' hk2, if_neg z, if_pos y]
          · rw [if_neg y] at ct
            exact two_ask (r := vi (-3)) hW ⟨σ, Sc.rf, cw (-3, σ) (by rw [if_neg hm]; exact ct)⟩ (fun s hV => ⟨s, Sc.rf, by rw [rw' s hV, if_neg hm, r_tell hV hI hk' hk1' hk2, if_neg z, if_neg y]⟩)
    · have ew : w = 1 := by
        by_cases e : w = 1
        · exact e
        · exact absurd (hn1 e) hb
      have hb' : fcb V P w t = false := by simpa using hb
      refine two_ask (r := vi (-1)) hW ⟨σ, Sc.rf, ?_⟩ (fun s hV => ⟨s, Sc.rf, ?_⟩)
      · rw [run_go (k := 116) (as := [vh 0 0, vi P, vi w, vi t]) mt_116 (Nat.ne_of_beq_eq_false rfl) rfl (s_kX11_way_0 _ P w t σ), ci_of (c_isSound (d := d + 97) h P w t), hs, if_neg (show ¬ bi true = 0 by decide), ci_of (c_canBe (d := d + 96) h hP hw1 hw2), hb', if_pos (show bi false = 0 from rfl)]
        rfl
      · have q65 : ∀ z, s 65 0 z = V 65 z := fun z => hV 65 z rfl rfl rfl
        have es : (fsd V P w t && decide (V 65 (P : Int).toNat = V 65 P)) = true := by rw [hs, Int.toNat_natCast, decide_eq_true rfl]; rfl
        have eI : t_run tbl mtb (d + 99) 192 [vh 51 0, vi (V 65 P), vi P, vi w, vi t] s = some (some (vi 1), s) := by
          have := r_isSaid (d := d + 96) hV hI (V 65 P) P w t
          rw [es] at this
          exact this
        have eC : t_run tbl mtb (d + 99) 199 [vh 51 0, vi P, vi w, vi t] s = some (some (vi 0), s) := by
          have := r_canBe (d := d + 95) hV hI hP hw1 hw2
          rw [hb'] at this
          exact this
        have eP : t_run tbl mtb (d + 99) 141 [vh 51 0, vi P] s = some (some (vi 1), s) := by
          have := r_isPiece (d := d + 98) hV (P : Int)
          rw [decide_eq_true (show 0 ≤ (P : Int) ∧ (P : Int) < V 51 23 by omega)] at this
          exact this
        rw [run_go (k := 220) (as := [vh 51 0, vi P, vi w, vi t]) mt_220 (Nat.ne_of_beq_eq_false rfl) rfl (s_kX12_way_0 _ P w t s)]
        simp only [eP, ci_ok, if_neg (show ¬ (1 : Int) = 0 by decide), Int.toNat_natCast, if_pos r40, q65, eI, eC, if_pos ew, if_true]
        rfl
  · have hs' : fsd V p w t = false := by simpa using hs
    refine two_ask (r := vi (-1)) hW ⟨σ, Sc.rf, ?_⟩ (fun s hV => ⟨s, Sc.rf, ?_⟩)
    · rw [run_go (k := 116) (as := [vh 0 0, vi p, vi w, vi t]) mt_116 (Nat.ne_of_beq_eq_false rfl) rfl (s_kX11_way_0 _ p w t σ), ci_of (c_isSound (d := d + 97) h p w t), hs', if_pos (show bi false = 0 from rfl)]
      rfl
    · by_cases hp : 0 ≤ p ∧ p < V 51 23
      · have r40 : 0 ≤ p ∧ p < 40 := by omega
        have q65 : ∀ z, s 65 0 z = V 65 z := fun z => hV 65 z rfl rfl rfl
        have eI : t_run tbl mtb (d + 99) 192 [vh 51 0, vi (V 65 p.toNat), vi p, vi w, vi t] s = some (some (vi 0), s) := by
          have := r_isSaid (d := d + 96) hV hI (V 65 p.toNat) p w t
          rw [hs', Bool.false_and] at this
          exact this
        have eP : t_run tbl mtb (d + 99) 141 [vh 51 0, vi p] s = some (some (vi 1), s) := by
          have := r_isPiece (d := d + 98) hV p
          rw [decide_eq_true hp] at this
          exact this
        rw [run_go (k := 220) (as := [vh 51 0, vi p, vi w, vi t]) mt_220 (Nat.ne_of_beq_eq_false rfl) rfl (s_kX12_way_0 _ p w t s)]
        simp only [eP, ci_ok, if_neg (show ¬ (1 : Int) = 0 by decide), if_pos r40, q65, eI, if_true]
        rfl
      · have eP : t_run tbl mtb (d + 99) 141 [vh 51 0, vi p] s = some (some (vi 0), s) := by
          have := r_isPiece (d := d + 98) hV p
          rw [decide_eq_false hp] at this
          exact this
        rw [run_go (k := 220) (as := [vh 51 0, vi p, vi w, vi t]) mt_220 (Nat.ne_of_beq_eq_false rfl) rfl (s_kX12_way_0 _ p w t s), eP, ci_ok, if_pos rfl]
        rfl
end
