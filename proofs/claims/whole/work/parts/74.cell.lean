-- game(), cell(): both sides
section
variable {σ : TM} {V : TVw} {d : Nat}
def gmV (V : TVw) (s : Int) : TVw := vu (vu (vu (vu V 52 (nG V) s) 53 (nG V) (V 51 0)) 56 (nG V) (-1)) 51 8 (V 51 8 + 1)
theorem two_game (hW : WW σ V) (v : Int) : Two (d + 100) 54 147 [vi v] σ := by
  have h := hW.1
  have hI := h.inv
  have h0 := hI.cnt
  by_cases hn : V 51 8 < 3
  · have e518 : gmV V v 51 8 = V 51 8 + 1 := vu_same
    have e51 : ∀ j, j ≠ 8 → gmV V v 51 j = V 51 j := fun j hj => by
      unfold gmV
      rw [vu_j hj, vu_k (by decide), vu_k (by decide), vu_k (by decide)]
    have enG : nG (gmV V v) = nG V + 1 := by
      unfold nG
      rw [e518]
      omega
    have e52 : ∀ z, gmV V v 52 z = if z = nG V then v else V 52 z := fun z => by
      unfold gmV
      rw [vu_k (by decide), vu_k (by decide), vu_k (by decide), vu_r]
      by_cases e : z = nG V
      · rw [if_pos ⟨rfl, e⟩, if_pos e]
      · rw [if_neg (fun q => e q.2), if_neg e]
    have e53 : ∀ z, gmV V v 53 z = if z = nG V then V 51 0 else V 53 z := fun z => by
      unfold gmV
      rw [vu_k (by decide), vu_k (by decide), vu_r]
      by_cases e : z = nG V
      · rw [if_pos ⟨rfl, e⟩, if_pos e]
      · rw [if_neg (fun q => e q.2), if_neg e, vu_k (by decide)]
    have e56 : ∀ z, gmV V v 56 z = if z = nG V then -1 else V 56 z := fun z => by
      unfold gmV
      rw [vu_k (by decide), vu_r]
      by_cases e : z = nG V
      · rw [if_pos ⟨rfl, e⟩, if_pos e]
      · rw [if_neg (fun q => e q.2), if_neg e, vu_k (by decide), vu_k (by decide)]
    have eo : ∀ a b, a ≠ 51 → a ≠ 52 → a ≠ 53 → a ≠ 56 → gmV V v a b = V a b := fun a b h1 h2 h3 h4 => by
      unfold gmV
      rw [vu_k h1, vu_k h4, vu_k h3, vu_k h2]
    have uV : Uv [38, 1002, 52, 53, 56, 7536] V (gmV V v) := Uv.up (Uv.up (Uv.up (Uv.up Uv.rf rfl) rfl) rfl) rfl
    have uS : Uc [38, 1002, 52, 53, 56, 7536] σ (t_upd (t_upd (t_upd σ 38 (nG V) 0 v) 38 (nG V) 1 (V 51 0)) 0 0 2 (V 51 8 + 1)) := Uc.up (Uc.up (Uc.up Uc.rf rfl) rfl) rfl
    have hI2 : Inv (gmV V v) := Inv.k uV hI (fun i hi hd => by
      rcases (by decide : ∀ i, i < 16 → djT [38, 1002, 52, 53, 56, 7536] (idep i) = false → i = 0 ∨ i = 1 ∨ i = 2 ∨ i = 9) i hi hd with rfl | rfl | rfl | rfl
      · obtain ⟨q1, q2, q3, q4, q5⟩ := hI 0
        refine ⟨q1, q2, ?_, ?_, q5⟩
        · rw [e518]; omega
        · rw [e518]; omega
      · intro z hz
        obtain ⟨q1, q2, q3, q4⟩ := hI 1 z hz
        rw [enG, e53, e56, e51 15 (by decide)]
        refine ⟨q1, q2, fun w => q3 (by omega), fun w => ?_⟩
        by_cases e : z = nG V
        · rw [if_pos e, if_pos e]
          exact ⟨by omega, by omega, by omega, by omega⟩
        · rw [if_neg e, if_neg e]
          exact q4 (by omega)
      · intro z hz
        obtain ⟨q1, q2, q3⟩ := hI 2 z hz
        rw [e518]
        refine ⟨q1, ?_, q3⟩
        show V 59 z < V 51 8 + 1
        omega
      · intro r hr
        obtain ⟨q1, q2, q3⟩ := hI 9 r hr
        rw [e518]
        refine ⟨q1, ?_, q3⟩
        show V 78 r / 10 < V 51 8 + 1
        omega)
    have en : (nG V : Int) = V 51 8 := by omega
    have rn : 0 ≤ V 51 8 ∧ V 51 8 < 3 := by omega
    refine two_of (r := vi (V 51 8)) (V' := gmV V v) hW ⟨t_upd (t_upd (t_upd σ 38 (nG V) 0 v) 38 (nG V) 1 (V 51 0)) 0 0 2 (V 51 8 + 1), ((FC.rf.up rfl).up rfl).up rfl, CR.k uS uV h hI2 (fun i hi hd => ?_), ?_, ?_⟩ (fun s hV => ⟨_, (((FR.rf.up rfl).up rfl).up rfl).up rfl, hV.up.up.up.up, ?_⟩)
    · rcases (by decide : ∀ i, i < 16 → djT [38, 1002, 52, 53, 56, 7536] (cdep i) = false → i = 0 ∨ i = 1) i hi hd with rfl | rfl
      · obtain ⟨q1, q2, q3, q4, q5, q6, q7, q8⟩ := h 0
        have f : ∀ j, j ≠ 2 → t_upd (t_upd (t_upd σ 38 (nG V) 0 v) 38 (nG V) 1 (V 51 0)) 0 0 2 (V 51 8 + 1) 0 0 j = σ 0 0 j := fun j hj => by rw [up_j hj, up_k (by decide), up_k (by decide)]
        refine ⟨?_, ?_, ?_, ?_, ?_, ?_, ?_, ?_⟩
        · rw [f 0 (by decide)]; exact q1
        · rw [up_same]; exact e518.symm
        · rw [f 4 (by decide)]; exact q3
        · rw [f 7 (by decide)]; exact q4
        · rw [f 9 (by decide)]; exact q5
        · rw [f 11 (by decide)]; exact q6
        · rw [f 13 (by decide)]; exact q7
        · rw [up_k (by decide), up_k (by decide), up_k (by decide)]; exact q8
      · intro z hz
        obtain ⟨q1, q2, q3, q4⟩ := h 1 z hz
        rw [enG, e52, e53, e56]
        have f : ∀ j, j ≠ 0 → j ≠ 1 → t_upd (t_upd (t_upd σ 38 (nG V) 0 v) 38 (nG V) 1 (V 51 0)) 0 0 2 (V 51 8 + 1) 38 z j = σ 38 z j := fun j h1 h2 => by rw [up_k (show (38 : Nat) ≠ 0 by decide), up_j h2, up_j h1]
        have f0 : t_upd (t_upd (t_upd σ 38 (nG V) 0 v) 38 (nG V) 1 (V 51 0)) 0 0 2 (V 51 8 + 1) 38 z 0 = if z = nG V then v else σ 38 z 0 := by
          rw [up_k (show (38 : Nat) ≠ 0 by decide), up_j (show (0 : Nat) ≠ 1 by decide), t_upd_eq]
          by_cases e : z = nG V
          · rw [if_pos ⟨rfl, e, rfl⟩, if_pos e]
          · rw [if_neg (fun q => e q.2.1), if_neg e]
        have f1 : t_upd (t_upd (t_upd σ 38 (nG V) 0 v) 38 (nG V) 1 (V 51 0)) 0 0 2 (V 51 8 + 1) 38 z 1 = if z = nG V then V 51 0 else σ 38 z 1 := by
          rw [up_k (show (38 : Nat) ≠ 0 by decide), t_upd_eq]
          by_cases e : z = nG V
          · rw [if_pos ⟨rfl, e, rfl⟩, if_pos e]
          · rw [if_neg (fun q => e q.2.1), if_neg e, up_j (show (1 : Nat) ≠ 0 by decide)]
        rw [f 2 (by decide) (by decide), f 3 (by decide) (by decide), f 4 (by decide) (by decide), f0, f1]
        refine ⟨q1, q2, fun w => ?_, fun w => q4 (by omega)⟩
        by_cases e : z = nG V
        · rw [if_pos e, if_pos e, if_pos e, if_pos e, if_pos e]
          exact ⟨rfl, rfl, q4 (by omega)⟩
        · rw [if_neg e, if_neg e, if_neg e, if_neg e, if_neg e]
          exact q3 (by omega)
    · intro g g0 g1
      rw [e518] at g1
      have e54 : gmV V v 54 g.toNat = V 54 g.toNat := eo 54 _ (by decide) (by decide) (by decide) (by decide)
      rw [e54]
      have e23 : gmV V v 51 23 = V 51 23 := e51 23 (by decide)
      by_cases e : g < V 51 8
      · obtain ⟨k1, k2⟩ := hW.2.2 g g0 e
        exact ⟨k1.cong e23 (fun p _ => rfl) (fun p _ _ => ⟨rfl, rfl, rfl, fun u _ => rfl⟩), k2.cong e23 (fun p _ => rfl) (fun p _ _ => ⟨rfl, fun u _ => rfl⟩) (fun p _ _ j _ => by rw [up_k (by decide), up_k (by decide), up_k (by decide)])⟩
      · have no : ∀ p, p < nP (gmV V v) → fgm (gmV V v) p = g → False := fun p hp hpg => by
          have hp : p < nP V := hp
          have hpg : fgm V p = g := hpg
          have := gm_r hI hp
          omega
        exact ⟨⟨fun p hp hpg => (no p hp hpg).elim, fun p hp hpg => (no p hp hpg).elim, fun p q hp hq n hpg => (no p hp hpg).elim, fun p q hp hq n hpg => (no p hp hpg).elim⟩, fun p hp hpg => (no p hp hpg).elim⟩
    · rw [run_go (k := 54) (as := [vh 0 0, vi v]) mt_54 (Nat.ne_of_beq_eq_false rfl) rfl (s_kX11_game_0 _ v σ), h.ng, if_pos hn, if_pos rn]
      have e1 : ∀ a b, t_upd (t_upd σ 38 (V 51 8).toNat 0 a) 38 (V 51 8).toNat 1 b 0 0 2 = V 51 8 := fun a b => by rw [up_k (by decide), up_k (by decide)]; exact h.ng
      have e2 : ∀ a, t_upd σ 38 (V 51 8).toNat 0 a 0 0 0 = V 51 0 := fun a => by rw [up_k (by decide)]; exact h.day
      simp only [e2, e1, up_same]
      rw [w32_id (x := V 51 8 + 1) (by omega) (by omega), w32_id (x := V 51 8 + 1 - 1) (by omega) (by omega), Int.add_sub_cancel]
      rfl
    · have q8 := hV 51 8 rfl rfl rfl
      have q0 := hV 51 0 rfl rfl rfl
      have e1 : ∀ a, t_upd s 52 0 (V 51 8).toNat a 51 0 8 = V 51 8 := fun a => by rw [up_k (by decide)]; exact q8
      have e2 : ∀ a, t_upd s 52 0 (V 51 8).toNat a 51 0 0 = V 51 0 := fun a => by rw [up_k (by decide)]; exact q0
      have e3 : ∀ a b, t_upd (t_upd s 52 0 (V 51 8).toNat a) 53 0 (V 51 8).toNat b 51 0 8 = V 51 8 := fun a b => by rw [up_k (by decide)]; exact e1 a
      have e4 : ∀ a b c, t_upd (t_upd (t_upd s 52 0 (V 51 8).toNat a) 53 0 (V 51 8).toNat b) 56 0 (V 51 8).toNat c 51 0 8 = V 51 8 := fun a b c => by rw [up_k (by decide)]; exact e3 a b
      rw [run_go (k := 147) (as := [vh 51 0, vi v]) mt_147 (Nat.ne_of_beq_eq_false rfl) rfl (s_kX12_game_0 _ v s)]
      simp only [q8, e1, e2, e3, e4, up_same]
      rw [if_neg (by omega), if_pos rn, if_pos rn, if_pos rn, w32_id (x := V 51 8 + 1) (by omega) (by omega), w32_id (x := V 51 8 + 1 - 1) (by omega) (by omega), Int.add_sub_cancel]
      rfl
  · refine two_ask (r := vi (-3)) hW ⟨σ, Sc.rf, ?_⟩ (fun s hV => ⟨s, Sc.rf, ?_⟩)
    · rw [run_go (k := 54) (as := [vh 0 0, vi v]) mt_54 (Nat.ne_of_beq_eq_false rfl) rfl (s_kX11_game_0 _ v σ), h.ng, if_neg hn]
      rfl
    · rw [run_go (k := 147) (as := [vh 51 0, vi v]) mt_147 (Nat.ne_of_beq_eq_false rfl) rfl (s_kX12_game_0 _ v s), hV 51 8 rfl rfl rfl, if_pos (by omega)]
      rfl
theorem idiv_neg {x : Int} (h1 : -2147483648 ≤ x) (h2 : x < 0) : i_div x 100 < 0 ∨ i_rem x 100 < 0 := by
  rw [i_div_eq, i_rem_eq]
  have e := Int.mul_tdiv_add_tmod x 100
  have e2 : Int.tmod x 100 ≤ 0 := by
    have := Int.tmod_nonneg 100 (show 0 ≤ -x by omega)
    rw [Int.neg_tmod] at this
    omega
  have e3 : -100 < Int.tmod x 100 := by
    have := Int.tmod_lt_of_pos (-x) (show (0 : Int) < 100 by decide)
    rw [Int.neg_tmod] at this
    omega
  rw [Int.bmod_eq_of_le (by omega) (by omega)]
  omega
set_option maxHeartbeats 4000000 in
theorem two_cell (hW : WW σ V) (x w v : Int) (hx1 : -2147483648 ≤ x) (hx2 : x ≤ 2147483647) : Two (d + 100) 55 149 [vi x, vi w, vi v] σ := by
  have h := hW.1
  have hI := h.inv
  have h0 := hI.cnt
  by_cases hx : 0 ≤ x ∧ (0 ≤ x / 100 ∧ x / 100 < V 51 8) ∧ x % 100 < 48
  · obtain ⟨x0, xg, xc⟩ := hx
    have ed : i_div x 100 = x / 100 := div_pos x0 hx2 (by decide)
    have er : i_rem x 100 = x % 100 := rem_pos x0
    have rc : 0 ≤ x % 100 ∧ x % 100 < 48 := by omega
    generalize hg : x / 100 = g at ed xg
    generalize hc : x % 100 = c at er rc xc
    obtain ⟨g, rfl⟩ : ∃ g' : Nat, g = (g' : Int) := ⟨g.toNat, by omega⟩
    obtain ⟨c, rfl⟩ : ∃ c' : Nat, c = (c' : Int) := ⟨c.toNat, by omega⟩
    have rg : 0 ≤ (g : Int) ∧ (g : Int) < 3 := by omega
    have e38 : σ 38 g 2 = V 54 g := (h 1 g (by omega)).1
    obtain ⟨m1, m2⟩ := h 2 g c (by omega) (by omega)
    have ew : w32 (w32 (48 * (g : Int)) + (c : Int)) = ((48 * g + c : Nat) : Int) := by
      rw [w32_add_l, w32_id (by omega) (by omega)]
      omega
    have rw1 : 0 ≤ ((48 * g + c : Nat) : Int) ∧ ((48 * g + c : Nat) : Int) < 144 := by omega
    have fr := fat_r V (g : Int) (c : Int)
    have ci1 := c_isGame (d := d + 98) h (g : Int)
    have ci2 := c_isCell (σ := σ) (d := d + 98) (c : Int)
    have ci3 := c_pieceIn (d := d + 98) h (g : Int) (c : Int)
    have cg : ∀ (P : Option TV × TM), (if w < 0 ∨ 1 < w ∨ v < 0 ∨ (w = 0 ∧ 9 < v) ∨ (w ≠ 0 ∧ 1 < v) then P = (some (vi (-1)), σ) else if 0 < V 54 g then P = (some (vi (-4)), σ) else if w = 0 then P = (some (vi (V 57 (48 * g + c))), t_upd σ 39 g c v) else if v = 1 ∧ fat V g c ≠ -1 then P = (some (vi (-2)), σ) else P = (some (vi (if V 58 (48 * g + c) = 0 then 0 else 1)), t_upd σ 40 g c v)) → t_run tbl mtb (d + 100) 55 [vh 0 0, vi x, vi w, vi v] σ = some P := by
      intro P hP
      rw [run_go (k := 55) (as := [vh 0 0, vi x, vi w, vi v]) mt_55 (Nat.ne_of_beq_eq_false rfl) rfl (s_kX11_cell_0 _ x w v σ), ed, er]
      simp only [ci1, ci_ok, ci2, bi_0, decide_eq_false_iff_not, if_neg (show ¬¬ (0 ≤ (g : Int) ∧ (g : Int) < V 51 8) by omega), if_neg (show ¬¬ (0 ≤ (c : Int) ∧ (c : Int) < 48) by omega), if_pos rg, if_pos rc, Int.toNat_natCast, e38, m1, m2, ci3]
      by_cases q1 : w < 0 ∨ 1 < w ∨ v < 0 ∨ (w = 0 ∧ 9 < v) ∨ (w ≠ 0 ∧ 1 < v)
      · rw [if_pos q1] at hP
        subst hP
        by_cases y1 : w < 0
        · rw [if_pos y1]
          rfl
        · rw [if_neg y1]
          by_cases y2 : 1 < w
          · rw [if_pos y2]
            rfl
          · rw [if_neg y2]
            by_cases y3 : v < 0
            · rw [if_pos y3]
              rfl
            · rw [if_neg y3]
              by_cases y4 : w = 0
              · rw [if_pos y4, if_pos (by omega)]
                rfl
              · rw [if_neg y4, if_pos (by omega)]
                rfl
      · rw [if_neg q1] at hP
        rw [if_neg (show ¬ w < 0 by omega), if_neg (show ¬ 1 < w by omega), if_neg (show ¬ v < 0 by omega)]
        by_cases q2 : 0 < V 54 g
        · rw [if_pos q2] at hP
          subst hP
          simp only [if_pos q2]
          by_cases y2 : w = 0
          · rw [if_pos y2, if_neg (by omega)]
            rfl
          · rw [if_neg y2, if_neg (by omega)]
            rfl
        · rw [if_neg q2] at hP
          simp only [if_neg q2]
          by_cases q3 : w = 0
          · rw [if_pos q3] at hP
            subst hP
            rw [if_pos q3, if_neg (by omega), if_pos q3]
            rfl
          · rw [if_neg q3] at hP
            rw [if_neg q3, if_neg (by omega), if_neg q3]
            by_cases q4 : v = 1 ∧ fat V g c ≠ -1
            · rw [if_pos q4] at hP
              subst hP
              rw [if_pos q4.1, if_neg q4.2]
              rfl
            · rw [if_neg q4] at hP
              subst hP
              rcases (by omega : v = 0 ∨ v = 1) with rfl | rfl
              · simp only [if_neg (show ¬ (0 : Int) = 1 by decide)]
                by_cases y5 : V 58 (48 * g + c) = 0
                · rw [if_pos y5, if_pos y5]
                  rfl
                · rw [if_neg y5, if_neg y5]
                  rfl
              · simp only [eq_self, if_true]
                rw [if_pos (by omega)]
                by_cases y5 : V 58 (48 * g + c) = 0
                · rw [if_pos y5, if_pos y5]
                  rfl
                · rw [if_neg y5, if_neg y5]
                  rfl
    have rr : ∀ s, RV s V → ∀ (P : Option TV × TM), (if w < 0 ∨ 1 < w ∨ v < 0 ∨ (w = 0 ∧ 9 < v) ∨ (w ≠ 0 ∧ 1 < v) then P = (some (vi (-1)), s) else if 0 < V 54 g then P = (some (vi (-4)), s) else if w = 0 then P = (some (vi (V 57 (48 * g + c))), t_upd s 57 0 (48 * g + c) v) else if v = 1 ∧ fat V g c ≠ -1 then P = (some (vi (-2)), s) else P = (some (vi (if V 58 (48 * g + c) = 0 then 0 else 1)), t_upd s 58 0 (48 * g + c) v)) → t_run tbl mtb (d + 100) 149 [vh 51 0, vi x, vi w, vi v] s = some P := by
      intro s hV P hP
      have q54 := hV 54 g rfl rfl rfl
      have q57 := hV 57 (48 * g + c) rfl rfl rfl
      have q58 := hV 58 (48 * g + c) rfl rfl rfl
      rw [run_go (k := 149) (as := [vh 51 0, vi x, vi w, vi v]) mt_149 (Nat.ne_of_beq_eq_false rfl) rfl (s_kX12_cell_0 _ x w v s), ed, er, if_neg (by omega)]
      simp only [r_isGame (d := d + 98) hV (g : Int), ci_ok, r_isCell (σ := s) (d := d + 97) (c : Int), r_within (σ := s) (d := d + 98), bi_0, decide_eq_false_iff_not, if_neg (show ¬¬ (0 ≤ (g : Int) ∧ (g : Int) < V 51 8) by omega), if_neg (show ¬¬ (0 ≤ (c : Int) ∧ (c : Int) < 48) by omega), if_pos rg, ew, if_pos rw1, Int.toNat_natCast, q54, q57, q58, r_pieceAt (d := d + 97) hV hI (g : Int) (c : Int)]
      by_cases q1 : w < 0 ∨ 1 < w ∨ v < 0 ∨ (w = 0 ∧ 9 < v) ∨ (w ≠ 0 ∧ 1 < v)
      · rw [if_pos q1] at hP
        subst hP
        by_cases y1 : 0 ≤ w ∧ w ≤ 1
        · rw [if_neg (show ¬¬ (0 ≤ w ∧ w ≤ 1) by omega)]
          by_cases y2 : w = 0
          · rw [if_pos y2, if_pos (by omega)]
            rfl
          · rw [if_neg y2, if_pos (by omega)]
            rfl
        · rw [if_pos y1]
          rfl
      · rw [if_neg q1] at hP
        rw [if_neg (show ¬¬ (0 ≤ w ∧ w ≤ 1) by omega)]
        by_cases q2 : 0 < V 54 g
        · rw [if_pos q2] at hP
          subst hP
          simp only [if_pos q2]
          by_cases y2 : w = 0
          · rw [if_pos y2, if_neg (by omega)]
            rfl
          · rw [if_neg y2, if_neg (by omega)]
            rfl
        · rw [if_neg q2] at hP
          simp only [if_neg q2]
          by_cases q3 : w = 0
          · rw [if_pos q3] at hP
            subst hP
            rw [if_pos q3, if_neg (by omega), if_pos q3]
            rfl
          · rw [if_neg q3] at hP
            rw [if_neg q3, if_neg (by omega), if_neg q3]
            by_cases q4 : v = 1 ∧ fat V g c ≠ -1
            · rw [if_pos q4] at hP
              subst hP
              rw [if_pos q4.1, if_neg (by omega)]
              rfl
            · rw [if_neg q4] at hP
              subst hP
              rcases (by omega : v = 0 ∨ v = 1) with rfl | rfl
              · simp only [if_neg (show ¬ (0 : Int) = 1 by decide)]
                by_cases y5 : V 58 (48 * g + c) = 0
                · rw [if_pos y5, if_pos y5]
                  rfl
                · rw [if_neg y5, if_neg y5]
                  rfl
              · simp only [eq_self, if_true]
                rw [if_pos (by omega)]
                by_cases y5 : V 58 (48 * g + c) = 0
                · rw [if_pos y5, if_pos y5]
                  rfl
                · rw [if_neg y5, if_neg y5]
                  rfl
    by_cases q1 : w < 0 ∨ 1 < w ∨ v < 0 ∨ (w = 0 ∧ 9 < v) ∨ (w ≠ 0 ∧ 1 < v)
    · exact two_ask (r := vi (-1)) hW ⟨σ, Sc.rf, cg _ (by rw [if_pos q1])⟩ (fun s hV => ⟨s, Sc.rf, rr s hV _ (by rw [if_pos q1])⟩)
    · by_cases q2 : 0 < V 54 g
      · exact two_ask (r := vi (-4)) hW ⟨σ, Sc.rf, cg _ (by rw [if_neg q1, if_pos q2])⟩ (fun s hV => ⟨s, Sc.rf, rr s hV _ (by rw [if_neg q1, if_pos q2])⟩)
      · by_cases q3 : w = 0
        · have uV : Uv [39, 57] V (vu V 57 (48 * g + c) v) := Uv.up Uv.rf rfl
          have uS : Uc [39, 57] σ (t_upd σ 39 g c v) := Uc.up Uc.rf rfl
          refine two_of (r := vi (V 57 (48 * g + c))) (V' := vu V 57 (48 * g + c) v) hW ⟨t_upd σ 39 g c v, FC.rf.up rfl, CR.k uS uV h (Inv.k uV hI (fun i hi hd => ?_)) (fun i hi hd => ?_), KW.k uS uV hW.2.2 rfl, cg _ (by rw [if_neg q1, if_neg q2, if_pos q3])⟩ (fun s hV => ⟨_, FR.rf.up rfl, hV.up, rr s hV _ (by rw [if_neg q1, if_neg q2, if_pos q3])⟩)
          · exact absurd hd (by rw [(by decide : ∀ i, i < 16 → djT [39, 57] (idep i) = true) i hi]; decide)
          · rcases (by decide : ∀ i, i < 16 → djT [39, 57] (cdep i) = false → i = 2) i hi hd with rfl
            intro a b ha hb
            obtain ⟨z1, z2⟩ := h 2 a b ha hb
            rw [up_k (show (40 : Nat) ≠ 39 by decide)]
            refine ⟨?_, z2⟩
            rw [vu_r]
            by_cases e : a = g ∧ b = c
            · obtain ⟨rfl, rfl⟩ := e
              rw [up_same, if_pos ⟨rfl, rfl⟩]
            · rw [t_upd_eq, if_neg (fun q => e q.2), if_neg (by rintro ⟨-, q⟩; exact e (by omega))]
              exact z1
        · by_cases q4 : v = 1 ∧ fat V g c ≠ -1
          · exact two_ask (r := vi (-2)) hW ⟨σ, Sc.rf, cg _ (by rw [if_neg q1, if_neg q2, if_neg q3, if_pos q4])⟩ (fun s hV => ⟨s, Sc.rf, rr s hV _ (by rw [if_neg q1, if_neg q2, if_neg q3, if_pos q4])⟩)
          · have uV : Uv [40, 58] V (vu V 58 (48 * g + c) v) := Uv.up Uv.rf rfl
            have uS : Uc [40, 58] σ (t_upd σ 40 g c v) := Uc.up Uc.rf rfl
            refine two_of (r := vi (if V 58 (48 * g + c) = 0 then 0 else 1)) (V' := vu V 58 (48 * g + c) v) hW ⟨t_upd σ 40 g c v, FC.rf.up rfl, CR.k uS uV h (Inv.k uV hI (fun i hi hd => ?_)) (fun i hi hd => ?_), KW.k uS uV hW.2.2 rfl, cg _ (by rw [if_neg q1, if_neg q2, if_neg q3, if_neg q4])⟩ (fun s hV => ⟨_, FR.rf.up rfl, hV.up, rr s hV _ (by rw [if_neg q1, if_neg q2, if_neg q3, if_neg q4])⟩)
            · rcases (by decide : ∀ i, i < 16 → djT [40, 58] (idep i) = false → i = 5) i hi hd with rfl
              intro j hj
              rw [vu_r]
              by_cases e : True ∧ j = 48 * g + c
              · rw [if_pos ⟨rfl, e.2⟩]
                omega
              · rw [if_neg (fun q => e ⟨trivial, q.2⟩)]
                exact hI 5 j hj
            · rcases (by decide : ∀ i, i < 16 → djT [40, 58] (cdep i) = false → i = 2) i hi hd with rfl
              intro a b ha hb
              obtain ⟨z1, z2⟩ := h 2 a b ha hb
              rw [up_k (show (39 : Nat) ≠ 40 by decide)]
              refine ⟨z1, ?_⟩
              rw [vu_r]
              by_cases e : a = g ∧ b = c
              · obtain ⟨rfl, rfl⟩ := e
                rw [up_same, if_pos ⟨rfl, rfl⟩]
              · rw [t_upd_eq, if_neg (fun q => e q.2), if_neg (by rintro ⟨-, q⟩; exact e (by omega))]
                exact z2
  · refine two_ask (r := vi (-1)) hW ⟨σ, Sc.rf, ?_⟩ (fun s hV => ⟨s, Sc.rf, ?_⟩)
    · rw [run_go (k := 55) (as := [vh 0 0, vi x, vi w, vi v]) mt_55 (Nat.ne_of_beq_eq_false rfl) rfl (s_kX11_cell_0 _ x w v σ), ci_of (c_isGame (d := d + 98) h _)]
      simp only [bi_0, decide_eq_false_iff_not]
      by_cases z : 0 ≤ i_div x 100 ∧ i_div x 100 < V 51 8
      · rw [if_neg (by omega), ci_of (c_isCell (d := d + 98) _)]
        simp only [bi_0, decide_eq_false_iff_not]
        rw [if_pos]
        · rfl
        · by_cases x0 : 0 ≤ x
          · rw [div_pos x0 hx2 (by decide)] at z
            rw [rem_pos x0]
            omega
          · have := idiv_neg hx1 (by omega)
            omega
      · rw [if_pos z]
        rfl
    · rw [run_go (k := 149) (as := [vh 51 0, vi x, vi w, vi v]) mt_149 (Nat.ne_of_beq_eq_false rfl) rfl (s_kX12_cell_0 _ x w v s)]
      by_cases x0 : x < 0
      · rw [if_pos x0]
        rfl
      · rw [if_neg x0, div_pos (by omega) hx2 (by decide), rem_pos (by omega), ci_of (r_isGame (d := d + 98) hV _)]
        simp only [bi_0, decide_eq_false_iff_not]
        by_cases z : 0 ≤ x / 100 ∧ x / 100 < V 51 8
        · rw [if_neg (by omega), ci_of (r_isCell (d := d + 97) _)]
          simp only [bi_0, decide_eq_false_iff_not]
          rw [if_pos (by omega)]
          rfl
        · rw [if_pos z]
          rfl
end
