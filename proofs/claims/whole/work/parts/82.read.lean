-- read(): both sides
section
variable {σ : TM} {V : TVw} {d : Nat}
noncomputable def rdp (V : TVw) (x a j : Nat) : Int := w32 (V 117 (60 * x + a + j))
noncomputable def rdG (V : TVw) (x c a : Nat) : Bool := decide (V 117 (60 * x + a + 3) = 0) && ((fsd V (rdp V x a 0) (rdp V x a 1) (rdp V x a 2) && decide (V 65 (rdp V x a 0).toNat = V 82 c)) && fcb V (rdp V x a 0).toNat (rdp V x a 1) (rdp V x a 2))
/-- the rows behind an order read -/
noncomputable def rdN (V : TVw) (x c a : Nat) : TVw := if (a : Int) + 4 ≤ V 116 x ∧ rdG V x c a = true then oaV V c 1 (rdp V x a 0) (rdp V x a 1) (rdp V x a 2) else oaV V c 6 (-1) 0 0
noncomputable def rdR (x c i : Nat) (n : Int) : Nat → Nat → TVw → Nat × TVw
  | 0, k, V => (k, V)
  | f + 1, k, V => if (k : Int) < n ∧ V 51 49 < 300 ∧ ((i + 4 * k : Nat) : Int) < V 116 x then rdR x c i n f (k + 1) (rdN V x c (i + 4 * k)) else (k, V)
/-- what stands while orders are read -/
def RdI (V : TVw) (x c : Nat) : Prop := Inv V ∧ c < nC V ∧ x < 6 ∧ V 115 x = 300 ∧ 0 ≤ V 116 x ∧ V 116 x ≤ 60
theorem rdG_ok {x c a : Nat} (hc : c < nC V) (hI : Inv V) (h : rdG V x c a = true) : oaK V c 1 (rdp V x a 0) (rdp V x a 1) (rdp V x a 2) := by
  have h0 := hI.cnt
  unfold rdG at h
  rw [Bool.and_eq_true, Bool.and_eq_true, Bool.and_eq_true, decide_eq_true_eq, decide_eq_true_eq] at h
  exact ⟨⟨by omega, by omega⟩, .inr ⟨rfl, h.2.1.1, h.2.1.2⟩⟩
theorem rdI_step {x c a : Nat} (h : RdI V x c) (hn : V 51 49 < 300) : RdI (rdN V x c a) x c := by
  obtain ⟨hI, hc, hx, h1, h2, h3⟩ := h
  have h0 := hI.cnt
  unfold rdN
  split
  · next e =>
    exact ⟨oaV_inv hI hn (rdG_ok hc hI e.2), by unfold nC; rw [oaV_51 (by decide)]; exact hc, hx, (oaV_o rfl (by omega)).trans h1, by rw [oaV_o rfl (by omega)]; exact h2, by rw [oaV_o rfl (by omega)]; exact h3⟩
  · exact ⟨oaV_inv hI hn ⟨⟨by omega, by omega⟩, .inl ⟨rfl, rfl⟩⟩, by unfold nC; rw [oaV_51 (by decide)]; exact hc, hx, (oaV_o rfl (by omega)).trans h1, by rw [oaV_o rfl (by omega)]; exact h2, by rw [oaV_o rfl (by omega)]; exact h3⟩
theorem fsd_p {p w t : Int} (h : fsd V p w t = true) : (0 ≤ p ∧ p < V 51 23) ∧ (w = 1 → 0 ≤ t ∧ t < 48) ∧ (w = 2 → 0 ≤ t ∧ t < V 51 23) := by
  unfold fsd at h
  rw [decide_eq_true_eq] at h
  obtain ⟨h1, h2, -, h4⟩ := h
  refine ⟨⟨h1, h2⟩, fun q => ?_, fun q => ?_⟩
  · rcases h4 with h4 | h4 | h4 <;> omega
  · rcases h4 with h4 | h4 | h4 <;> omega
theorem c_readFour (h : CR σ V) (hK : KW σ V) {x c a : Nat} (hR : RdI V x c) (ha : (a : Int) < V 116 x) (hn : V 51 49 < 300) : ∃ s, FC σ s ∧ CR s (rdN V x c a) ∧ KW s (rdN V x c a) ∧ t_run tbl mtb (d + 4) 99 [vh 0 0, vi c, vh 49 x, vi a] σ = some (none, s) := by
  obtain ⟨hI, hc, hx, h1, h2, h3⟩ := hR
  have h0 := hI.cnt
  obtain ⟨-, -, a3, a4⟩ := h 14 x hx
  have l2 : σ 49 x 2 = V 116 x := (a3 (by omega)).2
  have eb : ∃ s, FC σ s ∧ CR s (oaV V c 6 (-1) 0 0) ∧ KW s (oaV V c 6 (-1) 0 0) ∧ t_run tbl mtb (d + 3) 98 [vh 0 0, vi c, vi 6, vi (-1), vi 0, vi 0] σ = some (none, s) := c_addOrder (d := d + 2) h hK hn ⟨⟨by omega, by omega⟩, .inl ⟨rfl, rfl⟩⟩
  have e4 : w32 ((a : Int) + 4) = (a : Int) + 4 := w32_id (by omega) (by omega)
  have ci : t_run tbl mtb (d + 4) 99 [vh 0 0, vi c, vh 49 x, vi a] σ = _ := run_go (k := 99) (as := [vh 0 0, vi c, vh 49 x, vi a]) mt_99 (Nat.ne_of_beq_eq_false rfl) rfl (s_kX11_readFour_0 _ c x a σ)
  rw [l2, e4] at ci
  by_cases hl : (a : Int) + 4 ≤ V 116 x
  · have w1 : w32 ((a : Int) + 1) = ((a + 1 : Nat) : Int) := w32_nat (by omega)
    have w2 : w32 ((a : Int) + 2) = ((a + 2 : Nat) : Int) := by rw [w32_id (by omega) (by omega)]; omega
    have w3 : w32 ((a : Int) + 3) = ((a + 3 : Nat) : Int) := by rw [w32_id (by omega) (by omega)]; omega
    have b0 : w32 (σ 50 x a) = rdp V x a 0 := by rw [a4 a (by omega)]; rfl
    have b1 : w32 (σ 50 x (a + 1)) = rdp V x a 1 := by rw [a4 (a + 1) (by omega)]; rfl
    have b2 : w32 (σ 50 x (a + 2)) = rdp V x a 2 := by rw [a4 (a + 2) (by omega)]; rfl
    have b3 : σ 50 x (a + 3) = V 117 (60 * x + a + 3) := a4 (a + 3) (by omega)
    rw [if_neg (by omega), if_pos (by omega), w1, if_pos (by omega), w2, if_pos (by omega), w3, if_pos (by omega)] at ci
    simp only [Int.toNat_natCast, b0, b1, b2, b3] at ci
    by_cases z : V 117 (60 * x + a + 3) = 0
    · rw [if_neg (by omega), if_pos z, ci_of (c_isSound (d := d + 1) h _ _ _)] at ci
      by_cases f : fsd V (rdp V x a 0) (rdp V x a 1) (rdp V x a 2) = true
      · obtain ⟨f1, f2, f3⟩ := fsd_p f
        obtain ⟨-, p1, -⟩ := h 5 (rdp V x a 0).toNat (by show (rdp V x a 0).toNat < nP V; omega)
        obtain ⟨-, k1, -⟩ := h 10 c hc
        rw [f, if_neg (by decide), if_pos (by omega), if_pos (by omega), p1, k1] at ci
        by_cases y : V 65 (rdp V x a 0).toNat = V 82 c
        · have ep : ((rdp V x a 0).toNat : Int) = rdp V x a 0 := Int.toNat_of_nonneg f1.1
          have cb := c_canBe (d := d) h (p := (rdp V x a 0).toNat) (by omega) (w := rdp V x a 1) (t := rdp V x a 2) f2 f3
          rw [ep] at cb
          rw [if_pos y, ci_of cb] at ci
          by_cases g : fcb V (rdp V x a 0).toNat (rdp V x a 1) (rdp V x a 2) = true
          · have eG : rdG V x c a = true := by
              unfold rdG
              rw [decide_eq_true z, f, decide_eq_true y, g]
              rfl
            obtain ⟨s, s1', s2', s3, s4⟩ := c_addOrder (d := d + 2) h hK hn (rdG_ok hc hI eG)
            rw [g, if_neg (by decide), cv_of s4] at ci
            have eN : rdN V x c a = oaV V c 1 (rdp V x a 0) (rdp V x a 1) (rdp V x a 2) := if_pos ⟨hl, eG⟩
            rw [eN]
            exact ⟨s, s1', s2', s3, ci⟩
          · have g : fcb V (rdp V x a 0).toNat (rdp V x a 1) (rdp V x a 2) = false := by simpa using g
            have eN : rdN V x c a = oaV V c 6 (-1) 0 0 := if_neg (fun q => by
              have q := q.2
              unfold rdG at q
              rw [g, Bool.and_false, Bool.and_false] at q
              cases q)
            obtain ⟨s, s1', s2', s3, s4⟩ := eb
            rw [g, if_pos (by decide), cv_of s4] at ci
            rw [eN]
            exact ⟨s, s1', s2', s3, ci⟩
        · have eN : rdN V x c a = oaV V c 6 (-1) 0 0 := if_neg (fun q => by
            have q := q.2
            unfold rdG at q
            rw [decide_eq_false y, Bool.and_false, Bool.false_and, Bool.and_false] at q
            cases q)
          obtain ⟨s, s1', s2', s3, s4⟩ := eb
          rw [if_neg y, cv_of s4] at ci
          rw [eN]
          exact ⟨s, s1', s2', s3, ci⟩
      · have f : fsd V (rdp V x a 0) (rdp V x a 1) (rdp V x a 2) = false := by simpa using f
        have eN : rdN V x c a = oaV V c 6 (-1) 0 0 := if_neg (fun q => by
          have q := q.2
          unfold rdG at q
          rw [f, Bool.false_and, Bool.false_and, Bool.and_false] at q
          cases q)
        obtain ⟨s, s1', s2', s3, s4⟩ := eb
        rw [f, if_pos (by decide), cv_of s4] at ci
        rw [eN]
        exact ⟨s, s1', s2', s3, ci⟩
    · have eN : rdN V x c a = oaV V c 6 (-1) 0 0 := if_neg (fun q => by
        have q := q.2
        unfold rdG at q
        rw [decide_eq_false z, Bool.false_and] at q
        cases q)
      obtain ⟨s, s1', s2', s3, s4⟩ := eb
      rw [if_neg z, cv_of s4] at ci
      rw [eN]
      refine ⟨s, s1', s2', s3, ?_⟩
      rw [ci]
      split <;> rfl
  · have eN : rdN V x c a = oaV V c 6 (-1) 0 0 := if_neg (fun q => hl q.1)
    obtain ⟨s, s1', s2', s3, s4⟩ := eb
    rw [if_pos (by omega), cv_of s4] at ci
    rw [eN]
    exact ⟨s, s1', s2', s3, ci⟩
theorem c_rdLoop {x c i : Nat} {n : Int} (hn : n ≤ 15) (hi : i ≤ 2147483647) : ∀ (f k : Nat) (V : TVw) (s : TM) (N : Nat), n - k ≤ f → k ≤ 15 → f < N → (k = 0 ∨ i ≤ 60) → CR s V → KW s V → RdI V x c → ∃ s', FC s s' ∧ CR s' (rdR x c i n f k V).2 ∧ KW s' (rdR x c i n f k V).2 ∧ t_out (t_tr tbl mtb (t_run tbl mtb (d + 4)) 94 N 86 [some (vh 0 0), some (vi (c : Int)), none, some (vi (i : Int)), some (vi n), some (vh 49 x), some (vi (k : Int)), some (vi (k : Int)), none] [] s) = some (some (vi ((rdR x c i n f k V).1 : Int)), s') := by
  intro f
  induction f with
  | zero =>
    intro k V s N h1 h2 h3 hk h hK hR
    obtain ⟨N, rfl⟩ : ∃ m, N = m + 1 := ⟨N - 1, by omega⟩
    refine ⟨s, FC.rf, h, hK, ?_⟩
    rw [tr_step (s_kX11_read_86 _ c i n x k k s), if_neg (by omega)]
    rfl
  | succ f ih =>
    intro k V s N h1 h2 h3 hk h hK hR
    obtain ⟨N, rfl⟩ : ∃ m, N = m + 1 := ⟨N - 1, by omega⟩
    obtain ⟨hI, hc, hx, b1, b2, b3⟩ := hR
    have l2 : s 49 x 2 = V 116 x := ((h 14 x hx).2.2.1 (by omega)).2
    rw [tr_step (s_kX11_read_86 _ c i n x k k s), h.no, if_neg (show ¬ (i : Int) < 0 by omega), l2, w32_id (x := 4 * (k : Int)) (by omega) (by omega)]
    by_cases e : (k : Int) < n ∧ V 51 49 < 300 ∧ ((i + 4 * k : Nat) : Int) < V 116 x
    · obtain ⟨e1, e2, e3⟩ := e
      have ew : w32 ((i : Int) + 4 * (k : Int)) = ((i + 4 * k : Nat) : Int) := by rw [w32_id (by omega) (by omega)]; omega
      obtain ⟨s1', a1, a2, a3, a4⟩ := c_readFour (d := d) h hK (a := i + 4 * k) ⟨hI, hc, hx, b1, b2, b3⟩ e3 e2
      have eR : rdR x c i n (f + 1) k V = rdR x c i n f (k + 1) (rdN V x c (i + 4 * k)) := if_pos ⟨e1, e2, e3⟩
      obtain ⟨s2', c1, c2, c3, c4⟩ := ih (k + 1) (rdN V x c (i + 4 * k)) s1' N (by omega) (by omega) (by omega) (.inr (by omega)) a2 a3 (rdI_step ⟨hI, hc, hx, b1, b2, b3⟩ e2)
      rw [eR, if_pos e1, if_pos e2, ew, if_pos e3, cv_of a4, w32_nat (by omega), nx_inl]
      exact ⟨s2', a1.tr c1, c2, c3, c4⟩
    · have eR : rdR x c i n (f + 1) k V = (k, V) := if_neg e
      rw [eR]
      refine ⟨s, FC.rf, h, hK, ?_⟩
      by_cases e1 : (k : Int) < n
      · rw [if_pos e1]
        by_cases e2 : V 51 49 < 300
        · rw [if_pos e2, if_neg]
          · rfl
          · intro q
            rw [w32_id (by omega) (by omega)] at q
            exact e ⟨e1, e2, by omega⟩
        · rw [if_neg e2]
          rfl
      · rw [if_neg e1]
        rfl
theorem rdR_le (x c i : Nat) (n : Int) : ∀ (f k : Nat) (V : TVw), k ≤ (rdR x c i n f k V).1
  | 0, k, V => Nat.le_refl k
  | f + 1, k, V => by
    unfold rdR
    split
    · have := rdR_le x c i n f (k + 1) (rdN V x c (i + 4 * k))
      omega
    · exact Nat.le_refl k
/-- the reference: an order read -/
theorem r_rd164 (hV : RV σ V) {x c a : Nat} (hR : RdI V x c) (ha : (a : Int) + 4 ≤ V 116 x) (hn : V 51 49 < 300) (v3 v4 v6 : Int) (k : Nat) (hk : k ≤ 15) : ∃ s, FR σ s ∧ RV s (rdN V x c a) ∧ ∀ N, t_tr tbl mtb (t_run tbl mtb (d + 5)) 197 (N + 1 + 1) 164 [some (vh 51 0), some (vi (c : Int)), some (vi (x : Int)), some (vi v3), some (vi v4), some (vi (k : Int)), some (vi v6), some (vj (a : Int)), none, some (vi 4), none, none, none] [] σ = t_tr tbl mtb (t_run tbl mtb (d + 5)) 197 N 77 [some (vh 51 0), some (vi (c : Int)), some (vi (x : Int)), some (vi v3), some (vi v4), some (vi ((k + 1 : Nat) : Int)), some (vi v6), none, none, none, none, none, none] [] s := by
  obtain ⟨hI, hc, hx, h1, h2, h3⟩ := hR
  have h0 := hI.cnt
  have e0 : w32 (w32 (60 * (x : Int)) + w32 (a : Int)) = ((60 * x + a : Nat) : Int) := by rw [w32_add_l, w32_add_r, w32_id (by omega) (by omega)]; omega
  have e1 : w32 (((60 * x + a : Nat) : Int) + 1) = ((60 * x + a + 1 : Nat) : Int) := w32_nat (by omega)
  have e2 : w32 (((60 * x + a : Nat) : Int) + 2) = ((60 * x + a + 2 : Nat) : Int) := by rw [w32_id (by omega) (by omega)]; omega
  have e3 : w32 (((60 * x + a : Nat) : Int) + 3) = ((60 * x + a + 3 : Nat) : Int) := by rw [w32_id (by omega) (by omega)]; omega
  have r0 : 0 ≤ ((60 * x + a : Nat) : Int) ∧ ((60 * x + a : Nat) : Int) < 360 := by omega
  have r1 : 0 ≤ ((60 * x + a + 1 : Nat) : Int) ∧ ((60 * x + a + 1 : Nat) : Int) < 360 := by omega
  have r2 : 0 ≤ ((60 * x + a + 2 : Nat) : Int) ∧ ((60 * x + a + 2 : Nat) : Int) < 360 := by omega
  have r3 : 0 ≤ ((60 * x + a + 3 : Nat) : Int) ∧ ((60 * x + a + 3 : Nat) : Int) < 360 := by omega
  have rc : 0 ≤ (c : Int) ∧ (c : Int) < 150 := by omega
  have b0 : w32 (σ 117 0 (60 * x + a)) = rdp V x a 0 := by rw [hV 117 (60 * x + a) rfl rfl rfl]; rfl
  have b1 : w32 (σ 117 0 (60 * x + a + 1)) = rdp V x a 1 := by rw [hV 117 (60 * x + a + 1) rfl rfl rfl]; rfl
  have b2 : w32 (σ 117 0 (60 * x + a + 2)) = rdp V x a 2 := by rw [hV 117 (60 * x + a + 2) rfl rfl rfl]; rfl
  have b3 : σ 117 0 (60 * x + a + 3) = V 117 (60 * x + a + 3) := hV 117 _ rfl rfl rfl
  have b82 : σ 82 0 c = V 82 c := hV 82 c rfl rfl rfl
  have ek : w32 ((k : Int) + 1) = ((k + 1 : Nat) : Int) := w32_nat (by omega)
  -- from 164 to 277
  have s1 : ∀ N, t_tr tbl mtb (t_run tbl mtb (d + 5)) 197 (N + 1) 164 [some (vh 51 0), some (vi (c : Int)), some (vi (x : Int)), some (vi v3), some (vi v4), some (vi (k : Int)), some (vi v6), some (vj (a : Int)), none, some (vi 4), none, none, none] [] σ = t_tr tbl mtb (t_run tbl mtb (d + 5)) 197 N 277 [some (vh 51 0), some (vi (c : Int)), some (vi (x : Int)), some (vi v3), some (vi v4), some (vi (k : Int)), some (vi v6), none, none, none, some (vi ((60 * x + a : Nat) : Int)), some (vi (bi (rdG V x c a))), none] [] σ := by
    intro N
    rw [tr_step (s_kX12_read_164 _ c x v3 v4 k v6 a 4 σ), if_pos rfl]
    simp only [e0, e1, e2, e3, Int.toNat_natCast, b0, b1, b2, b3, b82, if_pos r0, if_pos r1, if_pos r2, if_pos r3, if_pos rc]
    by_cases z : V 117 (60 * x + a + 3) = 0
    · rw [if_neg (by omega), if_pos z, ci_of (r_isSaid (d := d + 2) hV hI (V 82 c) _ _ _)]
      by_cases f : (fsd V (rdp V x a 0) (rdp V x a 1) (rdp V x a 2) && decide (V 65 (rdp V x a 0).toNat = V 82 c)) = true
      · have f2 := f
        rw [Bool.and_eq_true] at f2
        obtain ⟨g1, g2, g3⟩ := fsd_p f2.1
        have ep : ((rdp V x a 0).toNat : Int) = rdp V x a 0 := Int.toNat_of_nonneg g1.1
        have cb := r_canBe (d := d + 1) hV hI (p := (rdp V x a 0).toNat) (by omega) (w := rdp V x a 1) (t := rdp V x a 2) g2 g3
        rw [ep] at cb
        have eG : rdG V x c a = fcb V (rdp V x a 0).toNat (rdp V x a 1) (rdp V x a 2) := by
          unfold rdG
          rw [decide_eq_true z, f, Bool.true_and, Bool.true_and]
        rw [f, if_neg (by decide)]
        simp only [b0, b1, b2]
        rw [ci_of cb, eG]
        cases fcb V (rdp V x a 0).toNat (rdp V x a 1) (rdp V x a 2) <;> rfl
      · have f : (fsd V (rdp V x a 0) (rdp V x a 1) (rdp V x a 2) && decide (V 65 (rdp V x a 0).toNat = V 82 c)) = false := by simpa using f
        have eG : rdG V x c a = false := by
          unfold rdG
          rw [f, Bool.false_and, Bool.and_false]
        rw [f, if_pos (by decide), eG]
        rfl
    · have eG : rdG V x c a = false := by
        unfold rdG
        rw [decide_eq_false z, Bool.false_and]
      rw [if_neg z, eG]
      split <;> rfl
  by_cases g : rdG V x c a = true
  · have eN : rdN V x c a = oaV V c 1 (rdp V x a 0) (rdp V x a 1) (rdp V x a 2) := if_pos ⟨ha, g⟩
    obtain ⟨s, a1, a2, a3⟩ := r_add (c := c) (k := 1) (p := rdp V x a 0) (w := rdp V x a 1) (t := rdp V x a 2) (d := d + 4) hV hI hn
    rw [eN]
    refine ⟨s, a1, a2, fun N => ?_⟩
    rw [s1, g, tr_step (s_kX12_read_277 _ c x v3 v4 k v6 ((60 * x + a : Nat) : Int) (bi true) σ), if_neg (by decide)]
    simp only [e1, e2, Int.toNat_natCast, b0, b1, b2, if_pos r0, if_pos r1, if_pos r2]
    rw [ci_of a3, ek, nx_inl]
  · have g : rdG V x c a = false := by simpa using g
    have eN : rdN V x c a = oaV V c 6 (-1) 0 0 := if_neg (fun q => by rw [g] at q; cases q.2)
    obtain ⟨s, a1, a2, a3⟩ := r_add (c := c) (k := 6) (p := -1) (w := 0) (t := 0) (d := d + 4) hV hI hn
    rw [eN]
    refine ⟨s, a1, a2, fun N => ?_⟩
    rw [s1, g, tr_step (s_kX12_read_277 _ c x v3 v4 k v6 ((60 * x + a : Nat) : Int) (bi false) σ), if_pos (by decide), ci_of a3, ek, nx_inl]
/-- the reference counts how many of four are there -/
theorem r_rd114 (hV : RV σ V) {x c a : Nat} (hR : RdI V x c) (v3 v4 v6 : Int) (k : Nat) : ∀ m : Nat, m ≤ 4 → (a : Int) + m ≤ V 116 x → ∀ N, t_tr tbl mtb (t_run tbl mtb (d + 5)) 197 (N + m) 114 [some (vh 51 0), some (vi (c : Int)), some (vi (x : Int)), some (vi v3), some (vi v4), some (vi (k : Int)), some (vi v6), some (vj (a : Int)), none, some (vi 0), none, none, none] [] σ = t_tr tbl mtb (t_run tbl mtb (d + 5)) 197 N 114 [some (vh 51 0), some (vi (c : Int)), some (vi (x : Int)), some (vi v3), some (vi v4), some (vi (k : Int)), some (vi v6), some (vj (a : Int)), none, some (vi (m : Int)), none, none, none] [] σ := by
  obtain ⟨hI, hc, hx, h1, h2, h3⟩ := hR
  have q115 : σ 115 0 x = 300 := (hV 115 x rfl rfl rfl).trans h1
  have q116 : σ 116 0 x = V 116 x := hV 116 x rfl rfl rfl
  have rx : 0 ≤ (x : Int) ∧ (x : Int) < 6 := by omega
  intro m
  induction m with
  | zero => intro _ _ N; rfl
  | succ m ih =>
    intro hm ha N
    have ew : w64 ((a : Int) + (m : Int)) = (a : Int) + m := w64_id (by omega) (by omega)
    rw [show N + (m + 1) = N + 1 + m by omega, ih (by omega) (by omega) (N + 1), tr_step (s_kX12_read_114 _ c x v3 v4 k v6 a m σ)]
    simp only [Int.toNat_natCast, q115, q116, if_pos rx, ew, w32_nat (show m < 2147483647 by omega)]
    rw [if_pos (by omega), if_neg (by decide), if_neg (by omega)]
    by_cases z : (a : Int) + (m : Int) = 0
    · rw [if_pos z, if_pos (by omega)]
      rfl
    · rw [if_neg z, if_pos (by omega)]
      rfl
theorem r_rdLoop {x c i : Nat} {n : Int} (hn : n ≤ 15) (hi : i ≤ 2147483647) : ∀ (f k : Nat) (V : TVw) (s : TM) (N : Nat), n - k ≤ f → k ≤ 15 → 9 * f + 9 < N → RV s V → RdI V x c → ∃ s', FR s s' ∧ RV s' (rdR x c i n f k V).2 ∧ t_out (t_tr tbl mtb (t_run tbl mtb (d + 5)) 197 N 77 [some (vh 51 0), some (vi (c : Int)), some (vi (x : Int)), some (vi (i : Int)), some (vi n), some (vi (k : Int)), some (vi 1), none, none, none, none, none, none] [] s) = some (some (vi ((rdR x c i n f k V).1 : Int)), s') := by
  intro f
  induction f with
  | zero =>
    intro k V s N h1 h2 h3 h hR
    obtain ⟨N, rfl⟩ : ∃ m, N = m + 1 := ⟨N - 1, by omega⟩
    refine ⟨s, FR.rf, h, ?_⟩
    rw [tr_step (s_kX12_read_77 _ c x i n k 1 s), if_neg (by decide), if_neg (by omega)]
    rfl
  | succ f ih =>
    intro k V s N h1 h2 h3 h hR
    obtain ⟨N, rfl⟩ : ∃ m, N = m + 1 := ⟨N - 1, by omega⟩
    obtain ⟨hI, hc, hx, b1, b2, b3⟩ := id hR
    have q49 : s 51 0 49 = V 51 49 := h 51 49 rfl rfl rfl
    have q115 : s 115 0 x = 300 := (h 115 x rfl rfl rfl).trans b1
    have q116 : s 116 0 x = V 116 x := h 116 x rfl rfl rfl
    have rx : 0 ≤ (x : Int) ∧ (x : Int) < 6 := by omega
    have ew : w64 ((i : Int) + w64 (4 * (k : Int))) = ((i + 4 * k : Nat) : Int) := by
      rw [w64_id (x := 4 * (k : Int)) (by omega) (by omega), w64_id (by omega) (by omega)]
      omega
    rw [tr_step (s_kX12_read_77 _ c x i n k 1 s), if_neg (by decide), q49, ew]
    by_cases e12 : (k : Int) < n ∧ V 51 49 < 300
    · obtain ⟨e1, e2⟩ := e12
      rw [if_pos e1, if_pos e2, nx_inl]
      generalize ha : i + 4 * k = a
      -- a round of counting that ends at m
      have hend : ∀ m : Nat, m < 4 → ((a : Int) + m = V 116 x ∨ V 116 x ≤ (a : Int) + m) → ∀ M, t_tr tbl mtb (t_run tbl mtb (d + 5)) 197 (M + 1) 114 [some (vh 51 0), some (vi (c : Int)), some (vi (x : Int)), some (vi (i : Int)), some (vi n), some (vi (k : Int)), some (vi 1), some (vj (a : Int)), none, some (vi (m : Int)), none, none, none] [] s = t_tr tbl mtb (t_run tbl mtb (d + 5)) 197 M 164 [some (vh 51 0), some (vi (c : Int)), some (vi (x : Int)), some (vi (i : Int)), some (vi n), some (vi (k : Int)), some (vi 1), some (vj (a : Int)), none, some (vi (m : Int)), none, none, none] [] s := by
        intro m hm hq M
        have ewm : w64 ((a : Int) + (m : Int)) = (a : Int) + m := w64_id (by omega) (by omega)
        rw [tr_step (s_kX12_read_114 _ c x i n k 1 a m s)]
        simp only [Int.toNat_natCast, q115, q116, if_pos rx, ewm]
        rw [if_pos (by omega), if_neg (by decide), if_neg (by omega), if_neg (show ¬ (a : Int) + (m : Int) < V 116 x by omega)]
        (repeat' split) <;> rfl
      by_cases e3 : (a : Int) < V 116 x
      · have eR : rdR x c i n (f + 1) k V = rdR x c i n f (k + 1) (rdN V x c a) := by
          unfold rdR
          rw [if_pos ⟨e1, e2, by rw [ha]; exact e3⟩, ha]
          cases f <;> rfl
        rw [eR]
        by_cases e4 : (a : Int) + 4 ≤ V 116 x
        · obtain ⟨s1', c1, c2, c3⟩ := r_rd164 (d := d) h hR e4 e2 (i : Int) n 1 k h2
          obtain ⟨s2', d1, d2, d3⟩ := ih (k + 1) (rdN V x c a) s1' (N - 7) (by omega) (by omega) (by omega) c2 (rdI_step hR e2)
          refine ⟨s2', c1.tr d1, d2, ?_⟩
          have h114 := r_rd114 (d := d) h hR (a := a) (i : Int) n 1 k 4 (by decide) (by omega) (N - 4)
          rw [show N - 4 + 4 = N by omega] at h114
          have s4 : t_tr tbl mtb (t_run tbl mtb (d + 5)) 197 (N - 4) 114 [some (vh 51 0), some (vi (c : Int)), some (vi (x : Int)), some (vi (i : Int)), some (vi n), some (vi (k : Int)), some (vi 1), some (vj (a : Int)), none, some (vi ((4 : Nat) : Int)), none, none, none] [] s = t_tr tbl mtb (t_run tbl mtb (d + 5)) 197 (N - 7 + 1 + 1) 164 [some (vh 51 0), some (vi (c : Int)), some (vi (x : Int)), some (vi (i : Int)), some (vi n), some (vi (k : Int)), some (vi 1), some (vj (a : Int)), none, some (vi 4), none, none, none] [] s := by
            rw [show N - 4 = N - 7 + 1 + 1 + 1 by omega, tr_step (s_kX12_read_114 _ c x i n k 1 a ((4 : Nat) : Int) s), if_neg (by decide)]
            rfl
          rw [h114, s4, c3]
          exact d3
        · -- some are there, not four
          obtain ⟨m, hm⟩ : ∃ m : Nat, V 116 x = (a : Int) + m := ⟨(V 116 x - a).toNat, by omega⟩
          have eN : rdN V x c a = oaV V c 6 (-1) 0 0 := if_neg (fun q => e4 q.1)
          have eK : rdR x c i n f (k + 1) (rdN V x c a) = (k + 1, rdN V x c a) := by
            cases f with
            | zero => rfl
            | succ f =>
              unfold rdR
              rw [if_neg]
              rintro ⟨-, -, q⟩
              have e116 : rdN V x c a 116 x = V 116 x := by rw [eN]; exact oaV_o rfl (by omega)
              rw [e116] at q
              omega
          obtain ⟨s1', c1, c2, c3⟩ := r_add (c := c) (k := 6) (p := -1) (w := 0) (t := 0) (d := d + 4) h hI e2
          rw [eK]
          refine ⟨s1', c1, by rw [eN]; exact c2, ?_⟩
          have h114 := r_rd114 (d := d) h hR (a := a) (i : Int) n 1 k m (by omega) (by omega) (N - m)
          rw [show N - m + m = N by omega] at h114
          rw [h114, show N - m = N - m - 3 + 1 + 1 + 1 by omega, hend m (by omega) (.inl hm.symm), tr_step (s_kX12_read_164 _ c x i n k 1 a m s), if_neg (by omega), if_pos (by omega), ci_of c3, w32_nat (by omega), nx_inl, tr_step (s_kX12_read_77 _ c x i n ((k + 1 : Nat) : Int) 0 s1'), if_pos rfl]
          rfl
      · have eR : rdR x c i n (f + 1) k V = (k, V) := if_neg (fun q => e3 (by rw [← ha]; exact q.2.2))
        rw [eR]
        refine ⟨s, FR.rf, h, ?_⟩
        have z := hend 0 (by decide) (.inr (by omega)) (N - 1)
        rw [show N - 1 + 1 = N by omega] at z
        have z : t_tr tbl mtb (t_run tbl mtb (d + 5)) 197 N 114 [some (vh 51 0), some (vi (c : Int)), some (vi (x : Int)), some (vi (i : Int)), some (vi n), some (vi (k : Int)), some (vi 1), some (vj (a : Int)), none, some (vi 0), none, none, none] [] s = _ := z
        rw [z, show N - 1 = N - 3 + 1 + 1 by omega, tr_step (s_kX12_read_164 _ c x i n k 1 a ((0 : Nat) : Int) s), if_neg (by decide), if_neg (by decide), nx_inl, tr_step (s_kX12_read_77 _ c x i n k 0 s), if_pos rfl]
        rfl
    · have eR : rdR x c i n (f + 1) k V = (k, V) := if_neg (fun q => e12 ⟨q.1, q.2.1⟩)
      rw [eR]
      refine ⟨s, FR.rf, h, ?_⟩
      by_cases e1 : (k : Int) < n
      · rw [if_pos e1, if_neg (fun q => e12 ⟨e1, q⟩)]
        rfl
      · rw [if_neg e1]
        rfl
theorem two_read (hW : WW σ V) (c x i n : Int) (hi1 : -2147483648 ≤ i) (hi2 : i ≤ 2147483647) : Two (d + 100) 94 197 [vi c, vi x, vi i, vi n] σ := by
  have h := hW.1
  have hI := h.inv
  have h0 := hI.cnt
  by_cases hc : (0 ≤ c ∧ c < V 51 41) ∧ (0 ≤ x ∧ x < 6) ∧ 1 ≤ n ∧ n ≤ 15
  · obtain ⟨hc, hx, hn⟩ := hc
    obtain ⟨c, rfl⟩ : ∃ c' : Nat, c = (c' : Int) := ⟨c.toNat, by omega⟩
    obtain ⟨x, rfl⟩ : ∃ x' : Nat, x = (x' : Int) := ⟨x.toNat, by omega⟩
    have hcN : c < nC V := by omega
    have rc : 0 ≤ (c : Int) ∧ (c : Int) < 150 := by omega
    obtain ⟨-, -, k2, -⟩ := h 10 c hcN
    obtain ⟨-, -, -, -, -, i5, -⟩ := hI 10 c hcN
    obtain ⟨a1, a2, a3, -⟩ := h 14 x (by omega)
    obtain ⟨j1, j2, j3, j4, j5⟩ := hI 15 x (by omega)
    have ci : t_run tbl mtb (d + 100) 94 [vh 0 0, vi c, vi x, vi i, vi n] σ = t_out (t_nx (t_run tbl mtb (d + 99)) 94 999999 (if V 83 c = V 51 0 then (if σ 49 x 0 = -2 then some (.inr (some (vi 0), σ)) else if σ 49 x 0 = 0 then some (.inl (86, [some (vh 0 0), some (vi (c : Int)), none, some (vi i), some (vi n), some (vh 49 x), some (vi 0), some (vi 0), none], [], σ)) else some (.inr (some (vi (-12)), σ))) else some (.inr (some (vi (-4)), σ)))) := by
      rw [run_go (k := 94) (as := [vh 0 0, vi c, vi x, vi i, vi n]) mt_94 (Nat.ne_of_beq_eq_false rfl) rfl (s_kX11_read_0 _ c x i n σ), ci_of (c_isCard (d := d + 98) h (c : Int)), ci_of (c_isShelf (d := d + 98) (x : Int))]
      simp only [bi_0, decide_eq_false_iff_not, Int.toNat_natCast, k2, h.day, if_pos rc, if_pos hx]
      rw [if_neg (by omega), if_neg (by omega), if_neg (by omega), if_neg (by omega)]
    have ri : ∀ s, RV s V → ∀ K, t_run tbl mtb (d + 100) 197 [vh 51 0, vi c, vi x, vi i, vi n] s = K ↔ t_out (t_nx (t_run tbl mtb (d + 99)) 197 999999 (if V 83 c < V 51 0 then some (.inr (some (vi (-4)), s)) else if V 115 x = -1 then some (.inl (77, [some (vh 51 0), some (vi (c : Int)), some (vi (x : Int)), some (vi i), some (vi n), some (vi 0), some (vi 1), none, none, none, none, none, none], [], s)) else if V 115 x = 300 then some (.inl (77, [some (vh 51 0), some (vi (c : Int)), some (vi (x : Int)), some (vi i), some (vi n), some (vi 0), some (vi 1), none, none, none, none, none, none], [], s)) else some (.inr (some (vi (-12)), s)))) = K := fun s hV K => by
      have q83 := hV 83 c rfl rfl rfl
      have q0 := hV 51 0 rfl rfl rfl
      have q115 := hV 115 x rfl rfl rfl
      rw [run_go (k := 197) (as := [vh 51 0, vi c, vi x, vi i, vi n]) mt_197 (Nat.ne_of_beq_eq_false rfl) rfl (s_kX12_read_0 _ c x i n s), ci_of (r_isCard (d := d + 98) hV (c : Int)), ci_of (r_isShelf (d := d + 97) (x : Int)), ci_of (r_within (d := d + 98) n 1 15)]
      simp only [bi_0, decide_eq_false_iff_not, Int.toNat_natCast, q83, q0, q115, if_pos rc, if_pos hx]
      rw [if_neg (by omega), if_neg (by omega), if_neg (by omega)]
    by_cases hd : V 83 c = V 51 0
    · rw [if_pos hd] at ci
      by_cases s1 : V 115 x = -1
      · rw [a1 s1, if_pos rfl] at ci
        refine two_ask (r := vi 0) hW ⟨σ, Sc.rf, ci⟩ (fun s hV => ⟨s, Sc.rf, (ri s hV _).mpr ?_⟩)
        have q49 := hV 51 49 rfl rfl rfl
        have q115 := (hV 115 x rfl rfl rfl).trans s1
        rw [if_neg (by omega), if_pos s1, nx_inl, show 999999 = 999995 + 1 + 1 + 1 + 1 from rfl, tr_step (s_kX12_read_77 _ c x i n 0 1 s), if_neg (by decide), q49]
        by_cases y : V 51 49 < 300
        · rw [if_pos (show (0 : Int) < n by omega), if_pos y, nx_inl, tr_step (s_kX12_read_114 _ c x i n 0 1 (w64 (i + w64 (4 * 0))) 0 s), if_pos (by decide), Int.toNat_natCast, q115, if_pos hx, if_pos rfl, nx_inl, tr_step (s_kX12_read_164 _ c x i n 0 1 (w64 (i + w64 (4 * 0))) 0 s), if_neg (by decide), if_neg (by decide), nx_inl, tr_step (s_kX12_read_77 _ c x i n 0 0 s), if_pos rfl]
          rfl
        · rw [if_pos (show (0 : Int) < n by omega), if_neg y]
          rfl
      · by_cases s2 : V 115 x = 300
        · have e49 : σ 49 x 0 = 0 := by rw [(a3 (by omega)).1, s2]; decide
          rw [e49, if_neg (by decide), if_pos rfl, nx_inl] at ci
          have hR : RdI V x c := ⟨hI, hcN, by omega, s2, j4, j5⟩
          by_cases i0 : 0 ≤ i
          · obtain ⟨i, rfl⟩ : ∃ i' : Nat, i = (i' : Int) := ⟨i.toNat, by omega⟩
            obtain ⟨s', b1, b2, b3, b4⟩ := c_rdLoop (d := d + 95) (x := x) (c := c) (i := i) (n := n) hn.2 (by omega) 15 0 V σ 999999 (by omega) (by decide) (by decide) (.inl rfl) h hW.2.2 hR
            refine two_of hW ⟨s', b1, b2, b3, ci.trans b4⟩ (fun s hV => ?_)
            obtain ⟨s2', c1, c2, c3⟩ := r_rdLoop (d := d + 94) (x := x) (c := c) (i := i) (n := n) hn.2 (by omega) 15 0 V s 999999 (by omega) (by decide) (by decide) hV hR
            refine ⟨s2', c1, c2, (ri s hV _).mpr ?_⟩
            rw [if_neg (by omega), if_neg s1, if_pos s2, nx_inl]
            exact c3
          · refine two_ask (r := vi 0) hW ⟨σ, Sc.rf, ?_⟩ (fun s hV => ⟨s, Sc.rf, (ri s hV _).mpr ?_⟩)
            · rw [ci, show 999999 = 999998 + 1 from rfl, tr_step (s_kX11_read_86 _ c i n x 0 0 σ), if_pos (show (0 : Int) < n by omega), if_pos (show i < 0 by omega)]
              split <;> rfl
            · have q49 := hV 51 49 rfl rfl rfl
              have q115 := (hV 115 x rfl rfl rfl).trans s2
              have ew : w64 (i + w64 (4 * 0)) = i := by rw [show (4 : Int) * 0 = 0 by decide, w64_id (x := 0) (by decide) (by decide), Int.add_zero, w64_id (by omega) (by omega)]
              have ew2 : w64 (i + 0) = i := by rw [Int.add_zero, w64_id (by omega) (by omega)]
              rw [if_neg (by omega), if_neg s1, if_pos s2, nx_inl, show 999999 = 999995 + 1 + 1 + 1 + 1 from rfl, tr_step (s_kX12_read_77 _ c x i n 0 1 s), if_neg (by decide), q49, ew]
              by_cases y : V 51 49 < 300
              · rw [if_pos (show (0 : Int) < n by omega), if_pos y, nx_inl, tr_step (s_kX12_read_114 _ c x i n 0 1 i 0 s), if_pos (by decide), Int.toNat_natCast, q115, if_pos hx, if_neg (by decide), ew2, if_pos (by omega), nx_inl, tr_step (s_kX12_read_164 _ c x i n 0 1 i 0 s), if_neg (by decide), if_neg (by decide), nx_inl, tr_step (s_kX12_read_77 _ c x i n 0 0 s), if_pos rfl]
                rfl
              · rw [if_pos (show (0 : Int) < n by omega), if_neg y]
                rfl
        · have e49 : σ 49 x 0 ≠ -2 ∧ σ 49 x 0 ≠ 0 := by
            by_cases y : 300 ≤ V 115 x
            · have := (a3 y).1
              omega
            · have := (a2 (by omega) (by omega)).1
              omega
          rw [if_neg e49.1, if_neg e49.2] at ci
          refine two_ask (r := vi (-12)) hW ⟨σ, Sc.rf, ci⟩ (fun s hV => ⟨s, Sc.rf, (ri s hV _).mpr ?_⟩)
          rw [if_neg (by omega), if_neg s1, if_neg s2]
          rfl
    · rw [if_neg hd] at ci
      refine two_ask (r := vi (-4)) hW ⟨σ, Sc.rf, ci⟩ (fun s hV => ⟨s, Sc.rf, (ri s hV _).mpr ?_⟩)
      rw [if_pos (by omega)]
      rfl
  · refine two_ask (r := vi (-1)) hW ⟨σ, Sc.rf, ?_⟩ (fun s hV => ⟨s, Sc.rf, ?_⟩)
    · rw [run_go (k := 94) (as := [vh 0 0, vi c, vi x, vi i, vi n]) mt_94 (Nat.ne_of_beq_eq_false rfl) rfl (s_kX11_read_0 _ c x i n σ), ci_of (c_isCard (d := d + 98) h c), ci_of (c_isShelf (d := d + 98) x)]
      simp only [bi_0, decide_eq_false_iff_not]
      by_cases y1 : 0 ≤ c ∧ c < V 51 41
      · rw [if_neg (by omega)]
        by_cases y2 : 0 ≤ x ∧ x < 6
        · rw [if_neg (by omega)]
          by_cases y3 : n < 1
          · rw [if_pos y3]
            rfl
          · rw [if_neg y3, if_pos (by omega)]
            rfl
        · rw [if_pos y2]
          rfl
      · rw [if_pos y1]
        rfl
    · rw [run_go (k := 197) (as := [vh 51 0, vi c, vi x, vi i, vi n]) mt_197 (Nat.ne_of_beq_eq_false rfl) rfl (s_kX12_read_0 _ c x i n s), ci_of (r_isCard (d := d + 98) hV c), ci_of (r_isShelf (d := d + 97) x), ci_of (r_within (d := d + 98) n 1 15)]
      simp only [bi_0, decide_eq_false_iff_not]
      by_cases y1 : 0 ≤ c ∧ c < V 51 41
      · rw [if_neg (by omega)]
        by_cases y2 : 0 ≤ x ∧ x < 6
        · rw [if_neg (by omega), if_pos (by omega)]
          rfl
        · rw [if_pos y2]
          rfl
      · rw [if_pos y1]
        rfl
end
