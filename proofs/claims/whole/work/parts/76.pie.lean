-- piece(): both sides
section
variable {σ : TM} {V : TVw} {d : Nat}
def piV (V : TVw) (h c f : Int) : TVw := vu (vu (vu (vu (vu (vu V 65 (nP V) h) 66 (nP V) c) 67 (nP V) c) 68 (nP V) f) 70 (nP V) (-1)) 51 23 (V 51 23 + 1)
theorem fat_none {g c : Int} (h : fat V g c = -1) {p : Nat} (hp : p < nP V) (h9 : V 69 p = 0) (hg : fgm V p = g) : V 66 p ≠ c := by
  have := fF_none _ _ _ h p (Nat.zero_le _) (by omega)
  unfold fatP at this
  rw [decide_eq_false_iff_not] at this
  exact fun q => this ⟨h9, hg, q⟩
set_option maxHeartbeats 4000000 in
theorem two_piece (hW : WW σ V) (x c f : Int) : Two (d + 100) 59 153 [vi x, vi c, vi f] σ := by
  have h := hW.1
  have hI := h.inv
  have h0 := hI.cnt
  by_cases hx : (0 ≤ x ∧ x < V 51 15) ∧ (0 ≤ c ∧ c < 48) ∧ 1 ≤ f ∧ f ≤ 9
  · obtain ⟨hx, hc, hf⟩ := hx
    obtain ⟨y, rfl⟩ : ∃ y : Nat, x = (y : Int) := ⟨x.toNat, by omega⟩
    obtain ⟨c, rfl⟩ : ∃ c' : Nat, c = (c' : Int) := ⟨c.toNat, by omega⟩
    have hy : y < nH V := by omega
    have r12 : 0 ≤ (y : Int) ∧ (y : Int) < 12 := by omega
    obtain ⟨-, q2, -⟩ := h 3 y (by omega)
    obtain ⟨c0, -⟩ := q2 hy
    obtain ⟨g1, g2, -⟩ := hI 2 y hy
    generalize hgg : V 59 y = g at c0 g1 g2
    obtain ⟨g, rfl⟩ : ∃ g' : Nat, g = (g' : Int) := ⟨g.toNat, by omega⟩
    have r3 : 0 ≤ (g : Int) ∧ (g : Int) < 3 := by omega
    obtain ⟨b1, b2, -⟩ := hI 1 g (by omega)
    have e38 := (h 1 g (by omega)).1
    have e40 := (h 2 g c (by omega) (by omega)).2
    have ew : w32 (w32 (48 * (g : Int)) + (c : Int)) = ((48 * g + c : Nat) : Int) := by
      rw [w32_add_l, w32_id (by omega) (by omega)]
      omega
    have rw1 : 0 ≤ ((48 * g + c : Nat) : Int) ∧ ((48 * g + c : Nat) : Int) < 144 := by omega
    have fr := fat_r V (g : Int) (c : Int)
    have cg : t_run tbl mtb (d + 100) 59 [vh 0 0, vi y, vi c, vi f] σ = t_out (t_nx (t_run tbl mtb (d + 99)) 59 999999 (if V 58 (48 * g + c) = 0 then (if 0 < V 54 g then some (.inr (some (vi (-4)), σ)) else if fat V g c = -1 then (if V 51 23 < 40 then (if 0 ≤ V 51 23 ∧ V 51 23 < 40 then some (.inr (some (vi (V 51 23)), t_upd (t_upd (t_upd (t_upd (t_upd (t_upd σ 17 (nP V) 0 g) 17 (nP V) 1 y) 17 (nP V) 2 f) 17 (nP V) 3 c) 18 (nP V) 0 c) 0 0 7 (V 51 23 + 1))) else none) else some (.inr (some (vi (-3)), σ))) else some (.inr (some (vi (-2)), σ))) else some (.inr (some (vi (-1)), σ)))) := by
      have e1 : ∀ a b c d e, t_upd (t_upd (t_upd (t_upd (t_upd σ 17 (V 51 23).toNat 0 a) 17 (V 51 23).toNat 1 b) 17 (V 51 23).toNat 2 c) 17 (V 51 23).toNat 3 d) 18 (V 51 23).toNat 0 e 0 0 7 = V 51 23 := fun a b c d e => by
        rw [up_k (show (0 : Nat) ≠ 18 by decide), up_k (show (0 : Nat) ≠ 17 by decide), up_k (show (0 : Nat) ≠ 17 by decide), up_k (show (0 : Nat) ≠ 17 by decide), up_k (show (0 : Nat) ≠ 17 by decide)]
        exact h.np
      rw [run_go (k := 59) (as := [vh 0 0, vi y, vi c, vi f]) mt_59 (Nat.ne_of_beq_eq_false rfl) rfl (s_kX11_piece_0 _ y c f σ), ci_of (c_isHolder (d := d + 98) h (y : Int)), ci_of (c_isCell (d := d + 98) (c : Int))]
      simp only [bi_0, decide_eq_false_iff_not, Int.toNat_natCast, c0, if_pos r12, if_pos r3, if_pos hc, e40, e38, c_pieceIn (d := d + 98) h, ci_ok, h.np, e1, up_same]
      rw [if_neg (by omega), if_neg (by omega), if_neg (by omega), if_neg (by omega), w32_id (x := V 51 23 + 1) (by omega) (by omega), w32_id (x := V 51 23 + 1 - 1) (by omega) (by omega), Int.add_sub_cancel]
    have rr : ∀ s, RV s V → t_run tbl mtb (d + 100) 153 [vh 51 0, vi y, vi c, vi f] s = t_out (t_nx (t_run tbl mtb (d + 99)) 153 999999 (if V 58 (48 * g + c) = 0 then (if 0 < V 54 g then some (.inr (some (vi (-4)), s)) else if fat V g c < 0 then (if V 51 23 = 40 then some (.inr (some (vi (-3)), s)) else if 0 ≤ V 51 23 ∧ V 51 23 < 40 then some (.inr (some (vi (V 51 23)), t_upd (t_upd (t_upd (t_upd (t_upd (t_upd s 65 0 (nP V) y) 66 0 (nP V) c) 67 0 (nP V) c) 68 0 (nP V) f) 70 0 (nP V) (-1)) 51 0 23 (V 51 23 + 1))) else none) else some (.inr (some (vi (-2)), s))) else some (.inr (some (vi (-1)), s)))) := by
      intro s hV
      have q23 := hV 51 23 rfl rfl rfl
      have q54 := hV 54 g rfl rfl rfl
      have q58 := hV 58 (48 * g + c) rfl rfl rfl
      have q59 : s 59 0 y = (g : Int) := (hV 59 y rfl rfl rfl).trans hgg
      have e1 : ∀ a, t_upd s 65 0 (V 51 23).toNat a 51 0 23 = V 51 23 := fun a => by rw [up_k (show (51 : Nat) ≠ 65 by decide)]; exact q23
      have e2 : ∀ a b, t_upd (t_upd s 65 0 (V 51 23).toNat a) 66 0 (V 51 23).toNat b 51 0 23 = V 51 23 := fun a b => by rw [up_k (show (51 : Nat) ≠ 66 by decide)]; exact e1 a
      have e3 : ∀ a b c, t_upd (t_upd (t_upd s 65 0 (V 51 23).toNat a) 66 0 (V 51 23).toNat b) 67 0 (V 51 23).toNat c 51 0 23 = V 51 23 := fun a b c => by rw [up_k (show (51 : Nat) ≠ 67 by decide)]; exact e2 a b
      have e4 : ∀ a b c d, t_upd (t_upd (t_upd (t_upd s 65 0 (V 51 23).toNat a) 66 0 (V 51 23).toNat b) 67 0 (V 51 23).toNat c) 68 0 (V 51 23).toNat d 51 0 23 = V 51 23 := fun a b c d => by rw [up_k (show (51 : Nat) ≠ 68 by decide)]; exact e3 a b c
      have e5 : ∀ a b c d e, t_upd (t_upd (t_upd (t_upd (t_upd s 65 0 (V 51 23).toNat a) 66 0 (V 51 23).toNat b) 67 0 (V 51 23).toNat c) 68 0 (V 51 23).toNat d) 70 0 (V 51 23).toNat e 51 0 23 = V 51 23 := fun a b c d e => by rw [up_k (show (51 : Nat) ≠ 70 by decide)]; exact e4 a b c d
      rw [run_go (k := 153) (as := [vh 51 0, vi y, vi c, vi f]) mt_153 (Nat.ne_of_beq_eq_false rfl) rfl (s_kX12_piece_0 _ y c f s), ci_of (r_isHolder (d := d + 98) hV (y : Int)), ci_of (r_isCell (d := d + 97) (c : Int)), ci_of (r_within (d := d + 98) f 1 9), ci_of (r_isHolder (d := d + 98) hV (y : Int)), ci_of (r_isCell (d := d + 97) (c : Int)), ci_of (r_isCell (d := d + 97) (c : Int))]
      simp only [bi_0, decide_eq_false_iff_not, Int.toNat_natCast, q59, ew, if_pos rw1, if_pos r12, if_pos r3, q58, q54, r_pieceAt (d := d + 97) hV hI, ci_ok, q23, e1, e2, e3, e4, e5, up_same]
      rw [if_neg (by omega), if_neg (by omega), if_neg (by omega), if_neg (by omega), if_neg (by omega)]
      by_cases y5 : 0 ≤ V 51 23 ∧ V 51 23 < 40
      · simp only [if_pos y5]
        rw [w32_id (x := V 51 23 + 1) (by omega) (by omega), w32_id (x := V 51 23 + 1 - 1) (by omega) (by omega), Int.add_sub_cancel]
      · simp only [if_neg y5]
    by_cases y1 : V 58 (48 * g + c) = 0
    · rw [if_pos y1] at cg
      have rr := fun s hV => (rr s hV).trans (by rw [if_pos y1])
      by_cases y2 : 0 < V 54 g
      · rw [if_pos y2] at cg
        exact two_ask (r := vi (-4)) hW ⟨σ, Sc.rf, cg⟩ (fun s hV => ⟨s, Sc.rf, (rr s hV).trans (by rw [if_pos y2]; rfl)⟩)
      · rw [if_neg y2] at cg
        by_cases y3 : fat V g c = -1
        · rw [if_pos y3] at cg
          by_cases y4 : V 51 23 < 40
          · have y5 : 0 ≤ V 51 23 ∧ V 51 23 < 40 := by omega
            rw [if_pos y4, if_pos y5] at cg
            have en : (nP V : Int) = V 51 23 := by omega
            have t0 : V 54 g = 0 := by omega
            have e5123 : piV V y c f 51 23 = V 51 23 + 1 := vu_same
            have e51 : ∀ j, j ≠ 23 → piV V y c f 51 j = V 51 j := fun j hj => by
              unfold piV
              rw [vu_j hj, vu_k (by decide), vu_k (by decide), vu_k (by decide), vu_k (by decide), vu_k (by decide)]
            have enP : nP (piV V y c f) = nP V + 1 := by
              unfold nP
              rw [e5123]
              omega
            have e65 : ∀ z, piV V y c f 65 z = if z = nP V then (y : Int) else V 65 z := fun z => by
              unfold piV
              rw [vu_k (by decide), vu_k (by decide), vu_k (by decide), vu_k (by decide), vu_k (by decide), vu_at]
            have e66 : ∀ z, piV V y c f 66 z = if z = nP V then (c : Int) else V 66 z := fun z => by
              unfold piV
              rw [vu_k (by decide), vu_k (by decide), vu_k (by decide), vu_k (by decide), vu_at, vu_k (by decide)]
            have e67 : ∀ z, piV V y c f 67 z = if z = nP V then (c : Int) else V 67 z := fun z => by
              unfold piV
              rw [vu_k (by decide), vu_k (by decide), vu_k (by decide), vu_at, vu_k (by decide), vu_k (by decide)]
            have e68 : ∀ z, piV V y c f 68 z = if z = nP V then f else V 68 z := fun z => by
              unfold piV
              rw [vu_k (by decide), vu_k (by decide), vu_at, vu_k (by decide), vu_k (by decide), vu_k (by decide)]
            have e70 : ∀ z, piV V y c f 70 z = if z = nP V then -1 else V 70 z := fun z => by
              unfold piV
              rw [vu_k (by decide), vu_at, vu_k (by decide), vu_k (by decide), vu_k (by decide), vu_k (by decide)]
            have egm : ∀ p, p < nP V → fgm (piV V y c f) p = fgm V p := fun p hp => by
              show V 59 (piV V y c f 65 p).toNat = V 59 (V 65 p).toNat
              rw [e65, if_neg (by omega)]
            have egn : fgm (piV V y c f) (nP V) = (g : Int) := by
              show V 59 (piV V y c f 65 (nP V)).toNat = (g : Int)
              rw [e65, if_pos rfl, Int.toNat_natCast]
              exact hgg
            have uV : Uv [17, 18, 1007, 65, 66, 67, 68, 70, 7551] V (piV V y c f) := Uv.up (Uv.up (Uv.up (Uv.up (Uv.up (Uv.up Uv.rf rfl) rfl) rfl) rfl) rfl) rfl
            have uS : Uc [17, 18, 1007, 65, 66, 67, 68, 70, 7551] σ (t_upd (t_upd (t_upd (t_upd (t_upd (t_upd σ 17 (nP V) 0 g) 17 (nP V) 1 y) 17 (nP V) 2 f) 17 (nP V) 3 c) 18 (nP V) 0 c) 0 0 7 (V 51 23 + 1)) := Uc.up (Uc.up (Uc.up (Uc.up (Uc.up (Uc.up Uc.rf rfl) rfl) rfl) rfl) rfl) rfl
            obtain ⟨z1, z2, z3, z4, z5⟩ := h 6 (nP V) (by omega) (Nat.le_refl _)
            have hI2 : Inv (piV V y c f) := Inv.k uV hI (fun i hi hd => by
              rcases (by decide : ∀ i, i < 16 → djT [17, 18, 1007, 65, 66, 67, 68, 70, 7551] (idep i) = false → i = 0 ∨ i = 3 ∨ i = 11 ∨ i = 13) i hi hd with rfl | rfl | rfl | rfl
              · obtain ⟨q1, q2, q3, q4, q5, q6, q7, q8, q9⟩ := hI 0
                refine ⟨q1, q2, q3, q4, q5, q6, ?_, ?_, q9⟩
                · rw [e5123]; omega
                · rw [e5123]; omega
              · intro p hp
                rw [enP] at hp
                rw [e65, e66, e67, e68, e51 15 (by decide)]
                by_cases e : p = nP V
                · subst e
                  rw [if_pos rfl, if_pos rfl, if_pos rfl, if_pos rfl]
                  exact ⟨by omega, by omega, by omega, by omega, by omega, by omega, .inl z4, by omega, by omega⟩
                · rw [if_neg e, if_neg e, if_neg e, if_neg e]
                  exact hI 3 p (by omega)
              · intro o ho
                obtain ⟨w1, w2, w3, w4, w5, w6⟩ := hI 11 o ho
                refine ⟨w1, w2, w3, w4, w5, fun q => ?_⟩
                obtain ⟨v1, v2, v3, v4, v5, v6, v7⟩ := w6 q
                have y2 : (V 89 o).toNat < nP V := by omega
                rw [e5123, e65]
                rw [if_neg (show ¬ (piV V y c f 89 o).toNat = nP V from fun q => by
                  have q : (V 89 o).toNat = nP V := q
                  omega)]
                refine ⟨v1, by show V 89 o < V 51 23 + 1; omega, v3, v4, v5, v6, fun q2 => ?_⟩
                obtain ⟨u1, u2, u3, u4⟩ := v7 q2
                refine ⟨u1, by show V 91 o < V 51 23 + 1; omega, u3, ?_⟩
                have y1 : (V 91 o).toNat < nP V := by omega
                exact (egm _ y1).trans (u4.trans (egm _ y2).symm)
              · obtain ⟨w1, w2, w3, w4, w5⟩ := hI 13
                refine ⟨w1, w2, w3, w4, fun s hs => ?_⟩
                obtain ⟨v1, v2, v3, v4, v5, v6, v7⟩ := w5 s hs
                have hs0 : ((0 : Nat) : Int) < V 51 72 := by
                  have : (s : Int) < V 51 72 := hs
                  omega
                obtain ⟨t1, t2, -⟩ := w5 0 hs0
                have y2 : (V 106 s).toNat < nP V := by omega
                rw [e5123, e65, e65, if_neg (show ¬ (piV V y c f 106 s).toNat = nP V from fun q => by
                  have q : (V 106 s).toNat = nP V := q
                  omega), if_neg (show ¬ (piV V y c f 106 0).toNat = nP V from fun q => by
                  have q : (V 106 0).toNat = nP V := q
                  omega)]
                refine ⟨v1, by show V 106 s < V 51 23 + 1; omega, v3, v4, v5, v6, fun w hw => ?_⟩
                obtain ⟨u1, u2, u3, u4⟩ := v7 w hw
                refine ⟨u1, u2, u3, fun q2 => ?_⟩
                obtain ⟨t1, t2, t3, t4⟩ := u4 q2
                refine ⟨t1, by show V 108 (4 * s + w) < V 51 23 + 1; omega, t3, ?_⟩
                have y1 : (V 108 (4 * s + w)).toNat < nP V := by omega
                exact (egm _ y1).trans (t4.trans (egm _ y2).symm))
            have M17 : ∀ z j, t_upd (t_upd (t_upd (t_upd (t_upd (t_upd σ 17 (nP V) 0 g) 17 (nP V) 1 y) 17 (nP V) 2 f) 17 (nP V) 3 c) 18 (nP V) 0 c) 0 0 7 (V 51 23 + 1) 17 z j = if z = nP V ∧ j < 4 then (if j = 0 then (g : Int) else if j = 1 then (y : Int) else if j = 2 then f else (c : Int)) else σ 17 z j := fun z j => by
              rw [up_k (show (17 : Nat) ≠ 0 by decide), up_k (show (17 : Nat) ≠ 18 by decide)]
              by_cases e : z = nP V
              · subst e
                by_cases j3 : j = 3
                · subst j3
                  rw [up_same, if_pos ⟨rfl, by decide⟩]
                  rfl
                · rw [up_j j3]
                  by_cases j2 : j = 2
                  · subst j2
                    rw [up_same, if_pos ⟨rfl, by decide⟩]
                    rfl
                  · rw [up_j j2]
                    by_cases j1 : j = 1
                    · subst j1
                      rw [up_same, if_pos ⟨rfl, by decide⟩]
                      rfl
                    · rw [up_j j1]
                      by_cases j0 : j = 0
                      · subst j0
                        rw [up_same, if_pos ⟨rfl, by decide⟩]
                        rfl
                      · rw [up_j j0, if_neg (by omega)]
              · rw [up_i e, up_i e, up_i e, up_i e, if_neg (fun q => e q.1)]
            have M18 : ∀ z j, t_upd (t_upd (t_upd (t_upd (t_upd (t_upd σ 17 (nP V) 0 g) 17 (nP V) 1 y) 17 (nP V) 2 f) 17 (nP V) 3 c) 18 (nP V) 0 c) 0 0 7 (V 51 23 + 1) 18 z j = if z = nP V ∧ j = 0 then (c : Int) else σ 18 z j := fun z j => by
              rw [up_k (show (18 : Nat) ≠ 0 by decide), t_upd_eq]
              by_cases e : z = nP V ∧ j = 0
              · rw [if_pos ⟨rfl, e⟩, if_pos e]
              · rw [if_neg (fun q => e q.2), if_neg e, up_k (show (18 : Nat) ≠ 17 by decide), up_k (show (18 : Nat) ≠ 17 by decide), up_k (show (18 : Nat) ≠ 17 by decide), up_k (show (18 : Nat) ≠ 17 by decide)]
            have Mo : ∀ a z j, a ≠ 17 → a ≠ 18 → a ≠ 0 → t_upd (t_upd (t_upd (t_upd (t_upd (t_upd σ 17 (nP V) 0 g) 17 (nP V) 1 y) 17 (nP V) 2 f) 17 (nP V) 3 c) 18 (nP V) 0 c) 0 0 7 (V 51 23 + 1) a z j = σ a z j := fun a z j h1 h2 h3 => by rw [up_k h3, up_k h2, up_k h1, up_k h1, up_k h1, up_k h1]
            refine two_of (r := vi (V 51 23)) (V' := piV V y c f) hW ⟨_, (((((FC.rf.up rfl).up rfl).up rfl).up rfl).up rfl).up rfl, CR.k uS uV h hI2 (fun i hi hd => ?_), ?_, cg⟩ (fun s hV => ⟨_, (((((FR.rf.up rfl).up rfl).up rfl).up rfl).up rfl).up rfl, hV.up.up.up.up.up.up, (rr s hV).trans (by rw [if_neg y2, if_pos (by omega), if_neg (by omega), if_pos y5]; rfl)⟩)
            · rcases (by decide : ∀ i, i < 16 → djT [17, 18, 1007, 65, 66, 67, 68, 70, 7551] (cdep i) = false → i = 0 ∨ i = 5 ∨ i = 6 ∨ i = 7) i hi hd with rfl | rfl | rfl | rfl
              · obtain ⟨q1, q2, q3, q4, q5, q6, q7, q8⟩ := h 0
                have fo : ∀ j, j ≠ 7 → t_upd (t_upd (t_upd (t_upd (t_upd (t_upd σ 17 (nP V) 0 g) 17 (nP V) 1 y) 17 (nP V) 2 f) 17 (nP V) 3 c) 18 (nP V) 0 c) 0 0 7 (V 51 23 + 1) 0 0 j = σ 0 0 j := fun j hj => by rw [up_j hj, up_k (show (0 : Nat) ≠ 18 by decide), up_k (show (0 : Nat) ≠ 17 by decide), up_k (show (0 : Nat) ≠ 17 by decide), up_k (show (0 : Nat) ≠ 17 by decide), up_k (show (0 : Nat) ≠ 17 by decide)]
                refine ⟨?_, ?_, ?_, ?_, ?_, ?_, ?_, ?_⟩
                · rw [fo 0 (by decide)]; exact q1
                · rw [fo 2 (by decide)]; exact q2
                · rw [fo 4 (by decide)]; exact q3
                · rw [up_same]; exact e5123.symm
                · rw [fo 9 (by decide)]; exact q5
                · rw [fo 11 (by decide)]; exact q6
                · rw [fo 13 (by decide)]; exact q7
                · rw [Mo 23 0 0 (by decide) (by decide) (by decide)]; exact q8
              · intro p hp
                rw [enP] at hp
                rw [e65, e66, e68, e70]
                by_cases e : p = nP V
                · subst e
                  have m0 := M17 (nP V) 0
                  rw [if_pos ⟨rfl, by decide⟩, if_pos rfl] at m0
                  have m1 := M17 (nP V) 1
                  rw [if_pos ⟨rfl, by decide⟩, if_neg (by decide), if_pos rfl] at m1
                  have m2 := M17 (nP V) 2
                  rw [if_pos ⟨rfl, by decide⟩, if_neg (by decide), if_neg (by decide), if_pos rfl] at m2
                  have m3 := M17 (nP V) 3
                  rw [if_pos ⟨rfl, by decide⟩, if_neg (by decide), if_neg (by decide), if_neg (by decide)] at m3
                  have m4 := M17 (nP V) 4
                  rw [if_neg (by omega)] at m4
                  have m5 := M17 (nP V) 5
                  rw [if_neg (by omega)] at m5
                  have m6 := M17 (nP V) 6
                  rw [if_neg (by omega)] at m6
                  rw [egn, if_pos rfl, if_pos rfl, if_pos rfl, if_pos rfl, m0, m1, m2, m3, m4, m5, m6]
                  exact ⟨rfl, rfl, rfl, rfl, z1, z2.trans z5.symm, z3.trans z4.symm⟩
                · have m : ∀ j, _ = σ 17 p j := fun j => (M17 p j).trans (if_neg (fun q => e q.1))
                  rw [egm p (by omega), if_neg e, if_neg e, if_neg e, if_neg e, m, m, m, m, m, m, m]
                  exact h 5 p (by show p < nP V; omega)
              · intro p hp hpn
                rw [enP] at hpn
                simp only [M17]
                have ne : ∀ j : Nat, ¬ (p = nP V ∧ j < 4) := fun j q => by omega
                simp only [if_neg (ne _)]
                exact h 6 p hp (by show nP V ≤ p; omega)
              · intro p hp
                obtain ⟨k0, k1⟩ := h 7 p hp
                simp only [M18, Mo 19 p _ (by decide) (by decide) (by decide)]
                refine ⟨k0, fun hpn => ?_⟩
                rw [enP] at hpn
                rw [e67]
                by_cases e : p = nP V
                · subst e
                  rw [if_pos ⟨rfl, trivial⟩, if_pos rfl]
                  refine ⟨rfl, fun u hu => ?_⟩
                  rw [egn] at hu
                  have hu : (u : Int) < V 54 g := hu
                  omega
                · rw [if_neg (fun q => e q.1), if_neg e, egm p (by omega)]
                  obtain ⟨k2, k3⟩ := k1 (by show p < nP V; omega)
                  refine ⟨k2, fun u hu => ?_⟩
                  rw [if_neg (fun q => e q.1)]
                  exact k3 u hu
            · intro g2 g0 g1
              obtain ⟨⟨k1, k2, k3, k4⟩, k5⟩ := hW.2.2 g2 g0 g1
              have e54 : piV V y c f 54 g2.toNat = V 54 g2.toNat := rfl
              rw [e54]
              have no : ∀ p, p < nP (piV V y c f) → fgm (piV V y c f) p = g2 → (p < nP V ∧ p ≠ nP V ∧ fgm V p = g2) ∨ (p = nP V ∧ g2 = (g : Int) ∧ (V 54 g2.toNat).toNat = 0) := fun p hp hpg => by
                rw [enP] at hp
                by_cases e : p = nP V
                · subst e
                  rw [egn] at hpg
                  refine .inr ⟨rfl, hpg.symm, ?_⟩
                  rw [← hpg, Int.toNat_natCast, t0]
                  rfl
                · rw [egm p (by omega)] at hpg
                  exact .inl ⟨by omega, e, hpg⟩
              refine ⟨⟨fun p hp hpg u hu => ?_, fun p hp hpg => ?_, fun p q hp hq ne hpg hqg => ?_, fun p q hp hq ne hpg hqg u hu => ?_⟩, fun p hp hpg => ?_⟩
              · rcases no p hp hpg with ⟨w1, w2, w3⟩ | ⟨w1, w2, w3⟩
                · exact k1 p w1 w3 u hu
                · omega
              · rw [e66, e67]
                rcases no p hp hpg with ⟨w1, w2, w3⟩ | ⟨w1, w2, w3⟩
                · rw [if_neg w2, if_neg w2]
                  exact k2 p w1 w3
                · rw [if_pos w1, if_pos w1]
                  refine ⟨fun _ => ⟨rfl, by rw [w1]; exact z4⟩, fun u hu => by omega⟩
              · rw [e67, e67]
                rcases no p hp hpg with ⟨w1, w2, w3⟩ | ⟨w1, w2, w3⟩
                · rcases no q hq hqg with ⟨x1, x2, x3⟩ | ⟨x1, x2, x3⟩
                  · rw [if_neg w2, if_neg x2]
                    exact k3 p q w1 x1 ne w3 x3
                  · rw [if_neg w2, if_pos x1]
                    obtain ⟨m1, m2⟩ := (k2 p w1 w3).1 x3
                    rw [← m1]
                    exact fat_none y3 w1 m2 (w3.trans x2)
                · rcases no q hq hqg with ⟨x1, x2, x3⟩ | ⟨x1, x2, x3⟩
                  · rw [if_pos w1, if_neg x2]
                    obtain ⟨m1, m2⟩ := (k2 q x1 x3).1 w3
                    rw [← m1]
                    exact (fat_none y3 x1 m2 (x3.trans w2)).symm
                  · omega
              · rcases no p hp hpg with ⟨w1, w2, w3⟩ | ⟨w1, w2, w3⟩
                · rcases no q hq hqg with ⟨x1, x2, x3⟩ | ⟨x1, x2, x3⟩
                  · exact k4 p q w1 x1 ne w3 x3 u hu
                  · omega
                · omega
              · simp only [M18]
                rw [e66]
                rcases no p hp hpg with ⟨w1, w2, w3⟩ | ⟨w1, w2, w3⟩
                · have ne : ∀ j : Nat, ¬ (p = nP V ∧ j = 0) := fun j q => w2 q.1
                  simp only [if_neg (ne _), if_neg w2]
                  exact k5 p w1 w3
                · rw [w3, if_pos w1]
                  refine ⟨fun u hu => by omega, ?_⟩
                  rw [if_pos ⟨w1, rfl⟩]
          · rw [if_neg y4] at cg
            exact two_ask (r := vi (-3)) hW ⟨σ, Sc.rf, cg⟩ (fun s hV => ⟨s, Sc.rf, (rr s hV).trans (by rw [if_neg y2, if_pos (by omega), if_pos (by omega)]; rfl)⟩)
        · rw [if_neg y3] at cg
          exact two_ask (r := vi (-2)) hW ⟨σ, Sc.rf, cg⟩ (fun s hV => ⟨s, Sc.rf, (rr s hV).trans (by rw [if_neg y2, if_neg (by omega)]; rfl)⟩)
    · rw [if_neg y1] at cg
      exact two_ask (r := vi (-1)) hW ⟨σ, Sc.rf, cg⟩ (fun s hV => ⟨s, Sc.rf, (rr s hV).trans (by rw [if_neg y1]; rfl)⟩)
  · refine two_ask (r := vi (-1)) hW ⟨σ, Sc.rf, ?_⟩ (fun s hV => ⟨s, Sc.rf, ?_⟩)
    · rw [run_go (k := 59) (as := [vh 0 0, vi x, vi c, vi f]) mt_59 (Nat.ne_of_beq_eq_false rfl) rfl (s_kX11_piece_0 _ x c f σ), ci_of (c_isHolder (d := d + 98) h x), ci_of (c_isCell (d := d + 98) c)]
      simp only [bi_0, decide_eq_false_iff_not]
      by_cases y1 : 0 ≤ x ∧ x < V 51 15
      · rw [if_neg (by omega)]
        by_cases y2 : 0 ≤ c ∧ c < 48
        · rw [if_neg (by omega)]
          by_cases y3 : f < 1
          · rw [if_pos y3]
            rfl
          · rw [if_neg y3, if_pos (by omega)]
            rfl
        · rw [if_pos y2]
          rfl
      · rw [if_pos y1]
        rfl
    · rw [run_go (k := 153) (as := [vh 51 0, vi x, vi c, vi f]) mt_153 (Nat.ne_of_beq_eq_false rfl) rfl (s_kX12_piece_0 _ x c f s), ci_of (r_isHolder (d := d + 98) hV x), ci_of (r_isCell (d := d + 97) c), ci_of (r_within (d := d + 98) f 1 9)]
      simp only [bi_0, decide_eq_false_iff_not]
      by_cases y1 : 0 ≤ x ∧ x < V 51 15
      · rw [if_neg (by omega)]
        by_cases y2 : 0 ≤ c ∧ c < 48
        · rw [if_neg (by omega), if_pos (by omega)]
          rfl
        · rw [if_pos y2]
          rfl
      · rw [if_pos y1]
        rfl
end
