-- more questions asked of both sides
section
variable {σ : TM} {V : TVw} {d : Nat}
theorem two_says (hW : WW σ V) (x y : Int) : Two (d + 100) 77 183 [vi x, vi y] σ := by
  have h := hW.1
  have hI := h.inv
  have h0 := hI.cnt
  by_cases x2 : x = 2
  · subst x2
    by_cases hy : 0 ≤ y ∧ y < V 51 23
    · obtain ⟨p, rfl⟩ : ∃ p : Nat, y = (p : Int) := ⟨y.toNat, by omega⟩
      have hp : p < nP V := by omega
      have hgm := gm_r hI hp
      have r3 : 0 ≤ fgm V p ∧ fgm V p < 3 := by omega
      refine two_ask (r := vi (fsi V p (V 54 (fgm V p).toNat))) hW ?_ (fun s hV => ?_)
      · obtain ⟨s', a1, a2⟩ := c_sightOf (d := d + 96) h hp
        refine ⟨s', a1, ?_⟩
        rw [run_go (k := 77) (as := [vh 0 0, vi 2, vi p]) mt_77 (Nat.ne_of_beq_eq_false rfl) rfl (s_kX11_says_0 _ 2 p σ), if_pos rfl, ci_of (c_isPiece (d := d + 98) h p)]
        simp only [bi_0, decide_eq_false_iff_not]
        rw [if_neg (by omega), ci_of a2]
        rfl
      · obtain ⟨s', a1, a2⟩ := r_sightOf (d := d + 32) hV hI hp (V 54 (fgm V p).toNat)
        refine ⟨s', a1, ?_⟩
        rw [run_go (k := 183) (as := [vh 51 0, vi 2, vi p]) mt_183 (Nat.ne_of_beq_eq_false rfl) rfl (s_kX12_says_0 _ 2 p s), if_pos rfl, ci_of (r_isPiece (d := d + 98) hV p)]
        simp only [bi_0, decide_eq_false_iff_not]
        rw [if_neg (by omega), ci_of (r_gameOf (d := d + 98) hV hI hp), if_pos r3, hV 54 _ rfl rfl rfl, ci_of a2]
        rfl
    · refine two_ask (r := vi (-1)) hW ⟨σ, Sc.rf, ?_⟩ (fun s hV => ⟨s, Sc.rf, ?_⟩)
      · rw [run_go (k := 77) (as := [vh 0 0, vi 2, vi y]) mt_77 (Nat.ne_of_beq_eq_false rfl) rfl (s_kX11_says_0 _ 2 y σ), if_pos rfl, ci_of (c_isPiece (d := d + 98) h y)]
        simp only [bi_0, decide_eq_false_iff_not]
        rw [if_pos hy, if_neg (by decide)]
        rfl
      · rw [run_go (k := 183) (as := [vh 51 0, vi 2, vi y]) mt_183 (Nat.ne_of_beq_eq_false rfl) rfl (s_kX12_says_0 _ 2 y s), if_pos rfl, ci_of (r_isPiece (d := d + 98) hV y)]
        simp only [bi_0, decide_eq_false_iff_not]
        rw [if_pos hy, if_neg (by decide)]
        rfl
  · by_cases x4 : x = 4
    · subst x4
      by_cases hy : 0 ≤ y ∧ y < V 51 15
      · obtain ⟨p, rfl⟩ : ∃ p : Nat, y = (p : Int) := ⟨y.toNat, by omega⟩
        have hp : p < nH V := by omega
        obtain ⟨g1, g2, -⟩ := hI 2 p hp
        have r3 : 0 ≤ V 59 p ∧ V 59 p < 3 := by omega
        have r12 : 0 ≤ (p : Int) ∧ (p : Int) < 12 := by omega
        obtain ⟨-, p5, -⟩ := h 3 p (by omega)
        obtain ⟨p0, p1, p2, p3⟩ := p5 hp
        have e38 := (h 1 (V 59 p).toNat (by omega)).1
        refine two_ask (r := vi (ffe V p (V 54 (V 59 p).toNat) (fst V p))) hW ?_ (fun s hV => ?_)
        · obtain ⟨s', a1, a2⟩ := c_feeOf (d := d + 96) h.nr h.day (h 9) hI hp p0 p1 (V 54 (V 59 p).toNat) (fst V p)
          refine ⟨s', a1, ?_⟩
          rw [run_go (k := 77) (as := [vh 0 0, vi 4, vi p]) mt_77 (Nat.ne_of_beq_eq_false rfl) rfl (s_kX11_says_0 _ 4 p σ), if_neg (by decide), if_pos rfl, ci_of (c_isHolder (d := d + 98) h p)]
          simp only [bi_0, decide_eq_false_iff_not, Int.toNat_natCast, p0, e38, if_pos r12, if_pos r3]
          rw [if_neg (by omega), ci_of (c_piecesOf (d := d + 98) h p), ci_of a2]
          rfl
        · obtain ⟨s', a1, a2⟩ := r_feeOf (d := d + 32) hV hI hp (V 54 (V 59 p).toNat)
          refine ⟨s', a1, ?_⟩
          have q59 := hV 59 p rfl rfl rfl
          have q54 := hV 54 (V 59 p).toNat rfl rfl rfl
          have q51 := hV 51 0 rfl rfl rfl
          rw [run_go (k := 183) (as := [vh 51 0, vi 4, vi p]) mt_183 (Nat.ne_of_beq_eq_false rfl) rfl (s_kX12_says_0 _ 4 p s), if_neg (by decide), if_pos rfl, ci_of (r_isHolder (d := d + 98) hV p)]
          simp only [bi_0, decide_eq_false_iff_not, Int.toNat_natCast, q59, q54, q51, if_pos r12, if_pos r3]
          rw [if_neg (by omega), ci_of a2]
          rfl
      · refine two_ask (r := vi (-1)) hW ⟨σ, Sc.rf, ?_⟩ (fun s hV => ⟨s, Sc.rf, ?_⟩)
        · rw [run_go (k := 77) (as := [vh 0 0, vi 4, vi y]) mt_77 (Nat.ne_of_beq_eq_false rfl) rfl (s_kX11_says_0 _ 4 y σ), if_neg (by decide), if_pos rfl, ci_of (c_isHolder (d := d + 98) h y)]
          simp only [bi_0, decide_eq_false_iff_not]
          rw [if_pos hy]
          rfl
        · rw [run_go (k := 183) (as := [vh 51 0, vi 4, vi y]) mt_183 (Nat.ne_of_beq_eq_false rfl) rfl (s_kX12_says_0 _ 4 y s), if_neg (by decide), if_pos rfl, ci_of (r_isHolder (d := d + 98) hV y)]
          simp only [bi_0, decide_eq_false_iff_not]
          rw [if_pos hy]
          rfl
    · refine two_ask (r := vi (-1)) hW ⟨σ, Sc.rf, ?_⟩ (fun s hV => ⟨s, Sc.rf, ?_⟩)
      · rw [run_go (k := 77) (as := [vh 0 0, vi x, vi y]) mt_77 (Nat.ne_of_beq_eq_false rfl) rfl (s_kX11_says_0 _ x y σ), if_neg x2, if_neg x4]
        rfl
      · rw [run_go (k := 183) (as := [vh 51 0, vi x, vi y]) mt_183 (Nat.ne_of_beq_eq_false rfl) rfl (s_kX12_says_0 _ x y s), if_neg x2, if_neg x4]
        rfl
theorem ford_gone (hI : Inv V) {p : Nat} (t : Int) (h : V 69 p ≠ 0 ∨ 30 ≤ t) : ford V p t = -1 := by
  have h0 := hI.cnt
  rcases ford_r V p t with q | ⟨o, q, ho, e, g⟩
  · exact q
  · exfalso
    unfold fgd fok at g
    simp only [Bool.and_eq_true, decide_eq_true_eq] at g
    obtain ⟨⟨⟨⟨g1, g2⟩, -⟩, -⟩, -⟩ := g
    rw [e, Int.toNat_natCast] at g2
    rcases h with h | h
    · exact h g2
    · unfold ffo at g1
      rw [decide_eq_true_eq] at g1
      obtain ⟨-, -, g3, -⟩ := g1
      obtain ⟨-, i2, -⟩ := hI 12 o ho
      obtain ⟨c1, c2, -⟩ := hI 11 o ho
      obtain ⟨-, -, -, -, -, -, -, -, -, j1, -⟩ := hI 10 (V 88 o).toNat (by omega)
      split at g3
      · next q =>
        have := i2 q
        omega
      · omega
theorem two_orderOf (hW : WW σ V) (x : Int) : Two (d + 100) 95 204 [vi x] σ := by
  have h := hW.1
  have hI := h.inv
  have h0 := hI.cnt
  obtain ⟨s', a1, a2⟩ := c_orderOf (d := d + 94) h x
  by_cases hx : 0 ≤ x ∧ x < V 51 23
  · obtain ⟨p, rfl⟩ : ∃ p : Nat, x = (p : Int) := ⟨x.toNat, by omega⟩
    have hp : p < nP V := by omega
    have r1 : 0 ≤ (p : Int) ∧ (p : Int) < 40 := by omega
    have hgm := gm_r hI hp
    have r3 : 0 ≤ fgm V p ∧ fgm V p < 3 := by omega
    rw [if_pos hx, Int.toNat_natCast] at a2
    refine two_ask hW ⟨s', a1, a2⟩ (fun s hV => ?_)
    have q69 := hV 69 p rfl rfl rfl
    have q54 := hV 54 (fgm V p).toNat rfl rfl rfl
    have q51 := hV 51 0 rfl rfl rfl
    by_cases z : V 69 p = 0
    · by_cases y : V 54 (fgm V p).toNat < 30
      · obtain ⟨s2', b1, b2⟩ := r_orderFor (d := d + 29) hV hI hp (V 54 (fgm V p).toNat)
        refine ⟨s2', b1, ?_⟩
        rw [run_go (k := 204) (as := [vh 51 0, vi p]) mt_204 (Nat.ne_of_beq_eq_false rfl) rfl (s_kX12_orderOf_0 _ p s), ci_of (r_isPiece (d := d + 98) hV p)]
        simp only [bi_0, decide_eq_false_iff_not, Int.toNat_natCast, q69, q51, if_pos z, if_pos r1]
        rw [if_neg (by omega), ci_of (r_gameOf (d := d + 98) hV hI hp), if_pos r3, q54, if_pos y, ci_of (r_gameOf (d := d + 98) hV hI hp), if_pos r3, q54, q51, ci_of b2]
        rfl
      · refine ⟨s, Sc.rf, ?_⟩
        rw [ford_gone hI _ (.inr (by omega)), run_go (k := 204) (as := [vh 51 0, vi p]) mt_204 (Nat.ne_of_beq_eq_false rfl) rfl (s_kX12_orderOf_0 _ p s), ci_of (r_isPiece (d := d + 98) hV p)]
        simp only [bi_0, decide_eq_false_iff_not, Int.toNat_natCast, q69, q51, if_pos z, if_pos r1]
        rw [if_neg (by omega), ci_of (r_gameOf (d := d + 98) hV hI hp), if_pos r3, q54, if_neg y]
        rfl
    · refine ⟨s, Sc.rf, ?_⟩
      rw [ford_gone hI _ (.inl z), run_go (k := 204) (as := [vh 51 0, vi p]) mt_204 (Nat.ne_of_beq_eq_false rfl) rfl (s_kX12_orderOf_0 _ p s), ci_of (r_isPiece (d := d + 98) hV p)]
      simp only [bi_0, decide_eq_false_iff_not, Int.toNat_natCast, q69, q51, if_neg z, if_pos r1]
      rw [if_neg (by omega)]
      rfl
  · rw [if_neg hx] at a2
    refine two_ask hW ⟨s', a1, a2⟩ (fun s hV => ⟨s, Sc.rf, ?_⟩)
    rw [run_go (k := 204) (as := [vh 51 0, vi x]) mt_204 (Nat.ne_of_beq_eq_false rfl) rfl (s_kX12_orderOf_0 _ x s), ci_of (r_isPiece (d := d + 98) hV x)]
    simp only [bi_0, decide_eq_false_iff_not]
    rw [if_pos hx]
    rfl
/-- the pieces that are there -/
def fth1 (V : TVw) (p : Nat) : Int := if V 69 p = 0 then 1 else 0
def fth (V : TVw) : Int := fS (fth1 V) (nP V)
theorem fth_r (V : TVw) : ∀ n : Nat, 0 ≤ fS (fth1 V) n ∧ fS (fth1 V) n ≤ n
  | 0 => ⟨Int.le_refl _, Int.le_refl _⟩
  | n + 1 => by
    have := fth_r V n
    rw [fS]
    unfold fth1 at this ⊢
    split <;> omega
theorem c_piecesThere (h : CR σ V) : t_run tbl mtb (d + 1) 135 [vh 0 0] σ = some (some (vi (fth V)), σ) := by
  have h0 := h.cnt
  have hn := h.np
  rw [run_go (k := 135) (as := [vh 0 0]) mt_135 (Nat.ne_of_beq_eq_false rfl) rfl (s_kX11_piecesThere_0 _ σ), nx_inl]
  refine out_of (loop_all (fun p L σ' => σ' = σ ∧ L = [some (vh 0 0), some (vi (fS (fth1 V) p)), some (vi (p : Int))]) (nP V) ?_ ⟨rfl, rfl⟩ (by omega) ?_)
  · rintro p L s hp ⟨rfl, rfl⟩
    refine ⟨_, _, ⟨rfl, rfl⟩, fun n => ?_⟩
    obtain ⟨-, -, -, -, -, -, h6⟩ := h 5 p hp
    have r := fth_r V p
    have r1 : 0 ≤ (p : Int) ∧ (p : Int) < 40 := by omega
    rw [tr_step (s_kX11_piecesThere_4 _ (fS (fth1 V) p) p s), Int.toNat_natCast, h6, w32_nat (by omega), w32_id (x := fS (fth1 V) p + 1) (by omega) (by omega), hn, if_pos (by omega), if_pos r1, fS]
    unfold fth1
    by_cases z : V 69 p = 0
    · rw [if_pos z, if_pos z]
      rfl
    · rw [if_neg z, if_neg z, Int.add_zero]
      rfl
  · rintro L s ⟨rfl, rfl⟩
    rw [show 999999 - nP V = 999998 - nP V + 1 by omega, tr_step (s_kX11_piecesThere_4 _ (fS (fth1 V) (nP V)) (nP V) s), hn, if_neg (by omega)]
    rfl
theorem two_count (hW : WW σ V) (x : Int) : Two (d + 100) 134 247 [vi x] σ := by
  have h := hW.1
  have hI := h.inv
  have h0 := hI.cnt
  have e35 := (h 13).1
  refine two_ask (r := vi (if x = 0 then V 51 8 else if x = 1 then V 51 15 else if x = 2 then V 51 23 else if x = 3 then fth V else if x = 4 then V 51 0 else if x = 5 then V 51 34 else if x = 6 then V 51 28 else if x = 7 then V 51 41 else if x = 8 then V 51 49 else if x = 9 then V 51 80 else -1)) hW ⟨σ, Sc.rf, ?_⟩ (fun s hV => ⟨s, Sc.rf, ?_⟩)
  · rw [run_go (k := 134) (as := [vh 0 0, vi x]) mt_134 (Nat.ne_of_beq_eq_false rfl) rfl (s_kX11_count_0 _ x σ), h.ng, h.nh, h.np, ci_of (c_piecesThere (d := d + 98) h), h.day, h.nr, h.tl, h.nc, h.no, e35]
    (repeat' split) <;> first | rfl | exact leaf_i rfl | (exfalso; omega)
  · rw [run_go (k := 247) (as := [vh 51 0, vi x]) mt_247 (Nat.ne_of_beq_eq_false rfl) rfl (s_kX12_count_0 _ x s), nx_inl]
    refine out_of (loop_all (fun p L σ' => σ' = s ∧ L = [some (vh 51 0), some (vi x), some (vi (fS (fth1 V) p)), some (vi (p : Int))]) (nP V) ?_ ⟨rfl, rfl⟩ (by omega) ?_)
    · rintro p L s' hp ⟨rfl, rfl⟩
      refine ⟨_, _, ⟨rfl, rfl⟩, fun n => ?_⟩
      have r := fth_r V p
      have r1 : 0 ≤ (p : Int) ∧ (p : Int) < 40 := by omega
      have q69 := hV 69 p rfl rfl rfl
      rw [tr_step (s_kX12_count_4 _ x (fS (fth1 V) p) p s'), Int.toNat_natCast, q69, w32_nat (by omega), w32_id (x := fS (fth1 V) p + 1) (by omega) (by omega), w32_id (x := fS (fth1 V) p + 0) (by omega) (by omega), hV 51 23 rfl rfl rfl, if_pos (by omega), if_pos r1, fS]
      unfold fth1
      by_cases z : V 69 p = 0
      · rw [if_pos z, if_pos z]
        rfl
      · rw [if_neg z, if_neg z]
        rfl
    · rintro L s' ⟨rfl, rfl⟩
      rw [show 999999 - nP V = 999998 - nP V + 1 by omega, tr_step (s_kX12_count_4 _ x (fS (fth1 V) (nP V)) (nP V) s'), hV 51 23 rfl rfl rfl, if_neg (by omega), hV 51 8 rfl rfl rfl, hV 51 15 rfl rfl rfl, hV 51 0 rfl rfl rfl, hV 51 34 rfl rfl rfl, hV 51 28 rfl rfl rfl, hV 51 41 rfl rfl rfl, hV 51 49 rfl rfl rfl, hV 51 80 rfl rfl rfl]
      unfold fth
      (repeat' split) <;> first | rfl | (exfalso; omega)
-- bits of those whom a game's runner bars
theorem i_or_0 (a : Int32) : i_or a.toInt 0 = a.toInt := by
  rw [i_or_eq, Int32.ofInt_toInt]
  show (a ||| 0).toInt = a.toInt
  rw [Int32.or_zero]
noncomputable def fbr (V : TVw) (r : Int) : Nat → Int
  | 0 => i_shl 1 r
  | k + 1 => if V 63 k = r then i_or (fbr V r k) (i_shl 1 k) else fbr V r k
theorem fbr_c (V : TVw) (r : Int) : ∀ k, ∃ a : Int32, fbr V r k = a.toInt
  | 0 => ⟨_, i_shl_eq 1 r⟩
  | k + 1 => by
    unfold fbr
    split
    · exact ⟨_, i_or_eq _ _⟩
    · exact fbr_c V r k
theorem fbr_0 (V : TVw) (r : Int) (k : Nat) : i_or (fbr V r k) 0 = fbr V r k := by
  obtain ⟨a, e⟩ := fbr_c V r k
  rw [e, i_or_0]
theorem two_bar (hW : WW σ V) (g : Int) : Two (d + 100) 124 228 [vi g] σ := by
  have h := hW.1
  have hI := h.inv
  have h0 := hI.cnt
  by_cases hg : 0 ≤ g ∧ g < V 51 8
  · have rg : 0 ≤ g ∧ g < 3 := by omega
    obtain ⟨-, -, p5, -⟩ := h 1 g.toNat (by omega)
    obtain ⟨-, -, p3⟩ := p5 (by omega)
    obtain ⟨-, -, -, p6⟩ := hI 1 g.toNat (by omega)
    obtain ⟨-, -, p7, p8⟩ := p6 (by omega)
    generalize hr : V 56 g.toNat = r at p3 p7 p8
    -- the reference's search for the runner
    have rs : ∀ s, RV s V → ∀ n : Nat, t_tr tbl mtb (t_run tbl mtb (d + 99)) 228 (n + nH V) 14 [some (vh 51 0), some (vi g), some (vi (-1)), some (vi 0), none] [] s = t_tr tbl mtb (t_run tbl mtb (d + 99)) 228 n 14 [some (vh 51 0), some (vi g), some (vi (if 0 ≤ r ∧ V 59 r.toNat = g then r else -1)), some (vi (nH V : Int)), none] [] s := by
      intro s hV
      obtain ⟨L, s', ⟨rfl, rfl⟩, e⟩ := loop_rel (O := t_run tbl mtb (d + 99)) (k := 228) (pc := 14) (fun k L s' => s' = s ∧ L = [some (vh 51 0), some (vi g), some (vi (if 0 ≤ r ∧ r < (k : Int) ∧ V 59 r.toNat = g then r else -1)), some (vi (k : Int)), none]) (nH V) (by
        rintro k L s' hk ⟨rfl, rfl⟩
        have r1 : 0 ≤ (k : Int) ∧ (k : Int) < 12 := by omega
        have q59 := hV 59 k rfl rfl rfl
        have q56 := (hV 56 g.toNat rfl rfl rfl).trans hr
        have q51 := hV 51 15 rfl rfl rfl
        have st := fun N => tr_step (n := N) (s_kX12_bar_14 (t_run tbl mtb (d + 99)) g (if 0 ≤ r ∧ r < (k : Int) ∧ V 59 r.toNat = g then r else -1) k s' )
        simp only [q51, if_pos (show (k : Int) < V 51 15 by omega), w32_nat (show k < 2147483647 by omega), Int.toNat_natCast, if_pos r1, if_pos rg, q59, q56] at st
        refine ⟨_, s', ⟨rfl, rfl⟩, fun N => ?_⟩
        rw [st N]
        by_cases z : V 59 k = g
        · rw [if_pos z]
          by_cases y : r = k
          · rw [if_pos y, if_pos (show 0 ≤ r ∧ r < ((k + 1 : Nat) : Int) ∧ V 59 r.toNat = g from ⟨by omega, by omega, by rw [y, Int.toNat_natCast]; exact z⟩), y]
            rfl
          · rw [if_neg y]
            by_cases w : 0 ≤ r ∧ r < (k : Int) ∧ V 59 r.toNat = g
            · rw [if_pos w, if_pos ⟨w.1, by omega, w.2.2⟩]
              rfl
            · rw [if_neg w, if_neg (fun q => w ⟨q.1, by omega, q.2.2⟩)]
              rfl
        · rw [if_neg z]
          by_cases w : 0 ≤ r ∧ r < (k : Int) ∧ V 59 r.toNat = g
          · rw [if_pos w, if_pos ⟨w.1, by omega, w.2.2⟩]
            rfl
          · rw [if_neg w, if_neg]
            · rfl
            · rintro ⟨q1, q2, q3⟩
              by_cases y : r = k
              · rw [y, Int.toNat_natCast] at q3
                exact z q3
              · exact w ⟨q1, by omega, q3⟩) (nH V) 0 [some (vh 51 0), some (vi g), some (vi (if 0 ≤ r ∧ r < ((0 : Nat) : Int) ∧ V 59 r.toNat = g then r else -1)), some (vi ((0 : Nat) : Int)), none] s (by omega) ⟨rfl, rfl⟩
      intro n
      have e := e n
      rw [if_neg (by omega)] at e
      have e2 : (if 0 ≤ r ∧ r < (nH V : Int) ∧ V 59 r.toNat = g then r else -1) = if 0 ≤ r ∧ V 59 r.toNat = g then r else -1 := by
        by_cases w : 0 ≤ r ∧ V 59 r.toNat = g
        · rw [if_pos w, if_pos ⟨w.1, by omega, w.2⟩]
        · rw [if_neg w, if_neg (fun q => w ⟨q.1, q.2.2⟩)]
      rw [e2] at e
      exact e
    by_cases hw : 0 ≤ r ∧ V 59 r.toNat = g
    · have hrn : r.toNat < nH V := by omega
      have hc2 : ∀ k, k < nH V → (V 59 k = g ∧ V 63 k = r ↔ V 63 k = r) := by
        intro k hk
        obtain ⟨-, -, -, -, i5⟩ := hI 2 k hk
        constructor
        · exact fun q => q.2
        · intro q
          refine ⟨?_, q⟩
          rcases i5 with i5 | ⟨i5, i6, i7⟩
          · omega
          · rw [q] at i7
            rw [← i7]
            exact hw.2
      refine two_ask (r := vi (fbr V r (nH V))) hW ⟨σ, Sc.rf, ?_⟩ (fun s hV => ⟨s, Sc.rf, ?_⟩)
      · obtain ⟨-, w5, -⟩ := h 3 r.toNat (by omega)
        have w0 := (w5 hrn).1
        have r12 : 0 ≤ r ∧ r < 12 := by omega
        rw [run_go (k := 124) (as := [vh 0 0, vi g]) mt_124 (Nat.ne_of_beq_eq_false rfl) rfl (s_kX11_bar_0 _ g σ), ci_of (c_isGame (d := d + 98) h g)]
        simp only [bi_0, decide_eq_false_iff_not]
        rw [if_neg (by omega), if_pos rg, p3, ci_of (c_isHolder (d := d + 98) h r)]
        simp only [bi_0, decide_eq_false_iff_not]
        rw [if_neg (by omega), if_pos r12, w0, if_pos hw.2, nx_inl]
        refine out_of (loop_all (fun k L σ' => σ' = σ ∧ L = [some (vh 0 0), none, some (vi r), some (vi (fbr V r k)), some (vi (k : Int))]) (nH V) ?_ ⟨rfl, rfl⟩ (by omega) ?_)
        · rintro k L s' hk ⟨rfl, rfl⟩
          refine ⟨_, _, ⟨rfl, rfl⟩, fun n => ?_⟩
          have r1 : 0 ≤ (k : Int) ∧ (k : Int) < 12 := by omega
          obtain ⟨-, w6, -⟩ := h 3 k (by omega)
          have w3 := (w6 hk).2.2.2
          rw [tr_step (s_kX11_bar_50 _ r (fbr V r k) k s'), Int.toNat_natCast, w3, w32_nat (by omega), h.nh, if_pos (by omega), if_pos r1, fbr]
          by_cases z : V 63 k = r
          · rw [if_pos z, if_pos z]
            rfl
          · rw [if_neg z, if_neg z]
            rfl
        · rintro L s' ⟨rfl, rfl⟩
          rw [show 999999 - nH V = 999998 - nH V + 1 by omega, tr_step (s_kX11_bar_50 _ r (fbr V r (nH V)) (nH V) s'), h.nh, if_neg (by omega)]
          rfl
      · obtain ⟨N, hN⟩ : ∃ N, 999999 = N + 1 + nH V := ⟨999999 - (nH V + 1), by omega⟩
        rw [run_go (k := 228) (as := [vh 51 0, vi g]) mt_228 (Nat.ne_of_beq_eq_false rfl) rfl (s_kX12_bar_0 _ g s), ci_of (r_isGame (d := d + 98) hV g)]
        simp only [bi_0, decide_eq_false_iff_not]
        rw [if_neg (by omega), nx_inl, hN, rs s hV, if_pos hw, tr_step (s_kX12_bar_14 _ g r (nH V : Int) s), hV 51 15 rfl rfl rfl, if_neg (by omega), if_neg (by omega), nx_inl]
        refine out_of (loop_all (fun k L σ' => σ' = s ∧ L = [some (vh 51 0), some (vi g), some (vi r), some (vi (fbr V r k)), some (vi (k : Int))]) (nH V) ?_ ⟨rfl, rfl⟩ (by omega) ?_)
        · rintro k L s' hk ⟨rfl, rfl⟩
          refine ⟨_, _, ⟨rfl, rfl⟩, fun n => ?_⟩
          have r1 : 0 ≤ (k : Int) ∧ (k : Int) < 12 := by omega
          have q59 := hV 59 k rfl rfl rfl
          have q63 := hV 63 k rfl rfl rfl
          rw [tr_step (s_kX12_bar_69 _ g r (fbr V r k) k s'), Int.toNat_natCast, q59, q63, w32_nat (by omega), hV 51 15 rfl rfl rfl, if_pos (by omega), if_pos r1, fbr, fbr_0]
          by_cases z : V 63 k = r
          · have y := ((hc2 k hk).mpr z).1
            rw [if_pos y, if_neg (by omega), if_pos r1, if_pos z, if_pos z]
            rfl
          · rw [if_neg z, if_neg z]
            by_cases y : V 59 k = g
            · rw [if_pos y, if_neg (by omega), if_pos r1]
              rfl
            · rw [if_neg y]
              rfl
        · rintro L s' ⟨rfl, rfl⟩
          rw [show N - nH V = N - nH V - 1 + 1 by omega, tr_step (s_kX12_bar_69 _ g r (fbr V r (nH V)) (nH V) s'), hV 51 15 rfl rfl rfl, if_neg (by omega)]
          rfl
    · refine two_ask (r := vi 0) hW ⟨σ, Sc.rf, ?_⟩ (fun s hV => ⟨s, Sc.rf, ?_⟩)
      · rw [run_go (k := 124) (as := [vh 0 0, vi g]) mt_124 (Nat.ne_of_beq_eq_false rfl) rfl (s_kX11_bar_0 _ g σ), ci_of (c_isGame (d := d + 98) h g)]
        simp only [bi_0, decide_eq_false_iff_not]
        rw [if_neg (by omega), if_pos rg, p3, ci_of (c_isHolder (d := d + 98) h r)]
        simp only [bi_0, decide_eq_false_iff_not]
        by_cases z : 0 ≤ r ∧ r < V 51 15
        · obtain ⟨-, w5, -⟩ := h 3 r.toNat (by omega)
          have w0 := (w5 (by omega)).1
          rw [if_neg (by omega), if_pos (by omega), w0, if_neg (fun q => hw ⟨z.1, q⟩)]
          rfl
        · rw [if_pos z]
          rfl
      · obtain ⟨N, hN⟩ : ∃ N, 999999 = N + 1 + nH V := ⟨999999 - (nH V + 1), by omega⟩
        rw [run_go (k := 228) (as := [vh 51 0, vi g]) mt_228 (Nat.ne_of_beq_eq_false rfl) rfl (s_kX12_bar_0 _ g s), ci_of (r_isGame (d := d + 98) hV g)]
        simp only [bi_0, decide_eq_false_iff_not]
        rw [if_neg (by omega), nx_inl, hN, rs s hV, if_neg hw, tr_step (s_kX12_bar_14 _ g (-1) (nH V : Int) s), hV 51 15 rfl rfl rfl, if_neg (by omega), if_pos (by decide), nx_inl]
        refine out_of (loop_all (fun k L σ' => σ' = s ∧ L = [some (vh 51 0), some (vi g), some (vi (-1)), some (vi 0), some (vi (k : Int))]) (nH V) ?_ ⟨rfl, rfl⟩ (by omega) ?_)
        · rintro k L s' hk ⟨rfl, rfl⟩
          refine ⟨_, _, ⟨rfl, rfl⟩, fun n => ?_⟩
          have r1 : 0 ≤ (k : Int) ∧ (k : Int) < 12 := by omega
          have q59 := hV 59 k rfl rfl rfl
          have e0 : i_or 0 0 = 0 := i_or_0 0
          rw [tr_step (s_kX12_bar_69 _ g (-1) 0 k s'), Int.toNat_natCast, q59, w32_nat (by omega), hV 51 15 rfl rfl rfl, if_pos (by omega), if_pos r1, e0, if_pos (show (-1 : Int) < 0 by decide)]
          by_cases y : V 59 k = g
          · rw [if_pos y]
            rfl
          · rw [if_neg y]
            rfl
        · rintro L s' ⟨rfl, rfl⟩
          rw [show N - nH V = N - nH V - 1 + 1 by omega, tr_step (s_kX12_bar_69 _ g (-1) 0 (nH V) s'), hV 51 15 rfl rfl rfl, if_neg (by omega)]
          rfl
  · refine two_ask (r := vi (-1)) hW ⟨σ, Sc.rf, ?_⟩ (fun s hV => ⟨s, Sc.rf, ?_⟩)
    · rw [run_go (k := 124) (as := [vh 0 0, vi g]) mt_124 (Nat.ne_of_beq_eq_false rfl) rfl (s_kX11_bar_0 _ g σ), ci_of (c_isGame (d := d + 98) h g)]
      simp only [bi_0, decide_eq_false_iff_not]
      rw [if_pos hg]
      rfl
    · rw [run_go (k := 228) (as := [vh 51 0, vi g]) mt_228 (Nat.ne_of_beq_eq_false rfl) rfl (s_kX12_bar_0 _ g s), ci_of (r_isGame (d := d + 98) hV g)]
      simp only [bi_0, decide_eq_false_iff_not]
      rw [if_pos hg]
      rfl
end
