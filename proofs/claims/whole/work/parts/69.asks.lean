-- plain questions asked of both sides
section
variable {σ : TM} {V : TVw} {d : Nat}
theorem two_ofPiece (hW : WW σ V) (x y : Int) : Two (d + 100) 60 154 [vi x, vi y] σ := by
  have h := hW.1
  have hI := h.inv
  have h0 := hI.cnt
  by_cases hx : 0 ≤ x ∧ x < V 51 23
  · obtain ⟨p, rfl⟩ : ∃ p : Nat, x = (p : Int) := ⟨x.toNat, by omega⟩
    have r1 : 0 ≤ (p : Int) ∧ (p : Int) < 40 := by omega
    have hp : p < nP V := by omega
    obtain ⟨p0, p1, p2, p3, p4, p5, p6⟩ := h 5 p hp
    obtain ⟨-, -, -, -, -, -, v9, -⟩ := hI 3 p hp
    refine two_ask (r := vi (if y = 0 then V 65 p else if y = 1 then V 66 p else if y = 2 then V 68 p else if y = 3 then V 69 p else if y = 4 then V 70 p else if y = 5 then V 71 p else -2000000000)) hW ⟨σ, Sc.rf, ?_⟩ (fun s hV => ⟨s, Sc.rf, ?_⟩)
    · rw [run_go (k := 60) (as := [vh 0 0, vi p, vi y]) mt_60 (Nat.ne_of_beq_eq_false rfl) rfl (s_kX11_ofPiece_0 _ p y σ), ci_of (c_isPiece (d := d + 98) h p)]
      simp only [bi_0, decide_eq_false_iff_not, Int.toNat_natCast, if_pos r1, p1, p2, p3, p4, p5, p6]
      rw [if_neg (by omega)]
      (repeat' split) <;> first | rfl | exact leaf_i rfl | exact leaf_i (by omega) | (exfalso; omega)
    · have q65 := hV 65 p rfl rfl rfl
      have q66 := hV 66 p rfl rfl rfl
      have q68 := hV 68 p rfl rfl rfl
      have q69 := hV 69 p rfl rfl rfl
      have q70 := hV 70 p rfl rfl rfl
      have q71 := hV 71 p rfl rfl rfl
      rw [run_go (k := 154) (as := [vh 51 0, vi p, vi y]) mt_154 (Nat.ne_of_beq_eq_false rfl) rfl (s_kX12_ofPiece_0 _ p y s), ci_of (r_isPiece (d := d + 98) hV p)]
      simp only [bi_0, decide_eq_false_iff_not, Int.toNat_natCast, if_pos r1, q65, q66, q68, q69, q70, q71]
      rw [if_neg (by omega)]
      (repeat' split) <;> first | rfl | exact leaf_i rfl | exact leaf_i (by omega) | (exfalso; omega)
  · refine two_ask (r := vi (-2000000000)) hW ⟨σ, Sc.rf, ?_⟩ (fun s hV => ⟨s, Sc.rf, ?_⟩)
    · rw [run_go (k := 60) (as := [vh 0 0, vi x, vi y]) mt_60 (Nat.ne_of_beq_eq_false rfl) rfl (s_kX11_ofPiece_0 _ x y σ), ci_of (c_isPiece (d := d + 98) h x)]
      simp only [bi_0, decide_eq_false_iff_not]
      rw [if_pos hx]
      rfl
    · rw [run_go (k := 154) (as := [vh 51 0, vi x, vi y]) mt_154 (Nat.ne_of_beq_eq_false rfl) rfl (s_kX12_ofPiece_0 _ x y s), ci_of (r_isPiece (d := d + 98) hV x)]
      simp only [bi_0, decide_eq_false_iff_not]
      rw [if_pos hx]
      rfl
theorem two_ofOrder (hW : WW σ V) (x y : Int) : Two (d + 100) 93 196 [vi x, vi y] σ := by
  have h := hW.1
  have hI := h.inv
  have h0 := hI.cnt
  by_cases hx : 0 ≤ x ∧ x < V 51 49
  · obtain ⟨p, rfl⟩ : ∃ p : Nat, x = (p : Int) := ⟨x.toNat, by omega⟩
    have r1 : 0 ≤ (p : Int) ∧ (p : Int) < 300 := by omega
    have hp : p < nO V := by omega
    obtain ⟨p0, p1, p2, p3, p4, p5, p6⟩ := (h 11 p (by omega)).1 hp
    refine two_ask (r := vi (if y = 0 then V 87 p else if y = 1 then V 88 p else if y = 2 then V 89 p else if y = 3 then V 90 p else if y = 4 then V 91 p else if y = 5 then V 92 p else if y = 6 then V 93 p else -2000000000)) hW ⟨σ, Sc.rf, ?_⟩ (fun s hV => ⟨s, Sc.rf, ?_⟩)
    · rw [run_go (k := 93) (as := [vh 0 0, vi p, vi y]) mt_93 (Nat.ne_of_beq_eq_false rfl) rfl (s_kX11_ofOrder_0 _ p y σ), ci_of (c_isOrder (d := d + 98) h p)]
      simp only [bi_0, decide_eq_false_iff_not, Int.toNat_natCast, if_pos r1, p0, p1, p2, p3, p4, p5, p6]
      rw [if_neg (by omega)]
      (repeat' split) <;> first | rfl | exact leaf_i rfl | exact leaf_i (by omega) | (exfalso; omega)
    · have q87 := hV 87 p rfl rfl rfl
      have q88 := hV 88 p rfl rfl rfl
      have q89 := hV 89 p rfl rfl rfl
      have q90 := hV 90 p rfl rfl rfl
      have q91 := hV 91 p rfl rfl rfl
      have q92 := hV 92 p rfl rfl rfl
      have q93 := hV 93 p rfl rfl rfl
      rw [run_go (k := 196) (as := [vh 51 0, vi p, vi y]) mt_196 (Nat.ne_of_beq_eq_false rfl) rfl (s_kX12_ofOrder_0 _ p y s), ci_of (r_isOrder (d := d + 98) hV p)]
      simp only [bi_0, decide_eq_false_iff_not, Int.toNat_natCast, if_pos r1, q87, q88, q89, q90, q91, q92, q93]
      rw [if_neg (by omega)]
      (repeat' split) <;> first | rfl | exact leaf_i rfl | exact leaf_i (by omega) | (exfalso; omega)
  · refine two_ask (r := vi (-2000000000)) hW ⟨σ, Sc.rf, ?_⟩ (fun s hV => ⟨s, Sc.rf, ?_⟩)
    · rw [run_go (k := 93) (as := [vh 0 0, vi x, vi y]) mt_93 (Nat.ne_of_beq_eq_false rfl) rfl (s_kX11_ofOrder_0 _ x y σ), ci_of (c_isOrder (d := d + 98) h x)]
      simp only [bi_0, decide_eq_false_iff_not]
      rw [if_pos hx]
      rfl
    · rw [run_go (k := 196) (as := [vh 51 0, vi x, vi y]) mt_196 (Nat.ne_of_beq_eq_false rfl) rfl (s_kX12_ofOrder_0 _ x y s), ci_of (r_isOrder (d := d + 98) hV x)]
      simp only [bi_0, decide_eq_false_iff_not]
      rw [if_pos hx]
      rfl
theorem two_ofGame (hW : WW σ V) (x y : Int) : Two (d + 100) 62 159 [vi x, vi y] σ := by
  have h := hW.1
  have hI := h.inv
  have h0 := hI.cnt
  by_cases hx : 0 ≤ x ∧ x < V 51 8
  · obtain ⟨p, rfl⟩ : ∃ p : Nat, x = (p : Int) := ⟨x.toNat, by omega⟩
    have r1 : 0 ≤ (p : Int) ∧ (p : Int) < 3 := by omega
    have hp : p < nG V := by omega
    obtain ⟨p2, p4, p5, -⟩ := h 1 p (by omega)
    obtain ⟨-, -, p3⟩ := p5 hp
    obtain ⟨b1, b2, -⟩ := hI 1 p (by omega)
    refine two_ask (r := vi (if y = 0 then V 54 p else if y = 1 then V 53 p + 7 * (V 54 p + 1) else if y = 2 then V 56 p else if y = 3 then V 55 p else -1)) hW ⟨σ, Sc.rf, ?_⟩ (fun s hV => ⟨s, Sc.rf, ?_⟩)
    · rw [run_go (k := 62) (as := [vh 0 0, vi p, vi y]) mt_62 (Nat.ne_of_beq_eq_false rfl) rfl (s_kX11_ofGame_0 _ p y σ), ci_of (c_isGame (d := d + 98) h p)]
      simp only [bi_0, decide_eq_false_iff_not, Int.toNat_natCast, if_pos r1, p2, p3, p4]
      rw [if_neg (by omega), ci_of (c_due (d := d + 98) h hp b1 b2)]
      (repeat' split) <;> first | rfl | exact leaf_i rfl | exact leaf_i (by omega) | (exfalso; omega)
    · have q54 := hV 54 p rfl rfl rfl
      have q55 := hV 55 p rfl rfl rfl
      have q56 := hV 56 p rfl rfl rfl
      rw [run_go (k := 159) (as := [vh 51 0, vi p, vi y]) mt_159 (Nat.ne_of_beq_eq_false rfl) rfl (s_kX12_ofGame_0 _ p y s), ci_of (r_isGame (d := d + 98) hV p)]
      simp only [bi_0, decide_eq_false_iff_not, Int.toNat_natCast, if_pos r1, q54, q55, q56]
      rw [if_neg (by omega), ci_of (r_dueOn (d := d + 98) hV hI hp b1 b2)]
      (repeat' split) <;> first | rfl | exact leaf_i rfl | exact leaf_i (by omega) | (exfalso; omega)
  · refine two_ask (r := vi (if y = 2 then -2000000000 else -1)) hW ⟨σ, Sc.rf, ?_⟩ (fun s hV => ⟨s, Sc.rf, ?_⟩)
    · rw [run_go (k := 62) (as := [vh 0 0, vi x, vi y]) mt_62 (Nat.ne_of_beq_eq_false rfl) rfl (s_kX11_ofGame_0 _ x y σ), ci_of (c_isGame (d := d + 98) h x)]
      simp only [bi_0, decide_eq_false_iff_not]
      rw [if_pos hx]
      (repeat' split) <;> first | rfl | exact leaf_i rfl | exact leaf_i (by omega) | (exfalso; omega)
    · rw [run_go (k := 159) (as := [vh 51 0, vi x, vi y]) mt_159 (Nat.ne_of_beq_eq_false rfl) rfl (s_kX12_ofGame_0 _ x y s), ci_of (r_isGame (d := d + 98) hV x)]
      simp only [bi_0, decide_eq_false_iff_not]
      rw [if_pos hx]
      (repeat' split) <;> first | rfl | exact leaf_i rfl | exact leaf_i (by omega) | (exfalso; omega)
theorem two_drawn (hW : WW σ V) (x y : Int) : Two (d + 100) 78 185 [vi x, vi y] σ := by
  have h := hW.1
  have hI := h.inv
  have h0 := hI.cnt
  by_cases hx : 0 ≤ x ∧ x < V 51 23
  · obtain ⟨p, rfl⟩ : ∃ p : Nat, x = (p : Int) := ⟨x.toNat, by omega⟩
    have hp : p < nP V := by omega
    refine two_ask (r := vi (if 0 ≤ y ∧ y < 30 then fdr V p y else -1)) hW ⟨σ, Sc.rf, ?_⟩ (fun s hV => ⟨s, Sc.rf, ?_⟩)
    · rw [run_go (k := 78) (as := [vh 0 0, vi p, vi y]) mt_78 (Nat.ne_of_beq_eq_false rfl) rfl (s_kX11_drawn_0 _ p y σ), ci_of (c_isPiece (d := d + 98) h p), ci_of (c_isTurn (d := d + 98) y), ci_of (c_drawnFor (d := d + 98) h hp y)]
      simp only [bi_0, decide_eq_false_iff_not]
      (repeat' split) <;> first | rfl | exact leaf_i rfl | exact leaf_i (by omega) | (exfalso; omega)
    · rw [run_go (k := 185) (as := [vh 51 0, vi p, vi y]) mt_185 (Nat.ne_of_beq_eq_false rfl) rfl (s_kX12_drawn_0 _ p y s), ci_of (r_isPiece (d := d + 98) hV p), ci_of (r_isTurn (d := d + 97) y), ci_of (r_drawnFor (d := d + 97) hV hI hp y)]
      simp only [bi_0, decide_eq_false_iff_not]
      (repeat' split) <;> first | rfl | exact leaf_i rfl | exact leaf_i (by omega) | (exfalso; omega)
  · refine two_ask (r := vi (-1)) hW ⟨σ, Sc.rf, ?_⟩ (fun s hV => ⟨s, Sc.rf, ?_⟩)
    · rw [run_go (k := 78) (as := [vh 0 0, vi x, vi y]) mt_78 (Nat.ne_of_beq_eq_false rfl) rfl (s_kX11_drawn_0 _ x y σ), ci_of (c_isPiece (d := d + 98) h x)]
      simp only [bi_0, decide_eq_false_iff_not]
      rw [if_pos hx]
      rfl
    · rw [run_go (k := 185) (as := [vh 51 0, vi x, vi y]) mt_185 (Nat.ne_of_beq_eq_false rfl) rfl (s_kX12_drawn_0 _ x y s), ci_of (r_isPiece (d := d + 98) hV x)]
      simp only [bi_0, decide_eq_false_iff_not]
      rw [if_pos hx]
      rfl
theorem two_bestWay (hW : WW σ V) (x : Int) : Two (d + 100) 118 225 [vi x] σ := by
  have h := hW.1
  obtain ⟨a1, a2, a3, a4⟩ := h 12
  obtain ⟨i1, i2, i3, i4, -⟩ := h.inv 13
  refine two_ask (r := vi (if 0 ≤ x ∧ x < V 51 74 then V 110 x.toNat else -1)) hW ⟨σ, Sc.rf, ?_⟩ (fun s hV => ⟨s, Sc.rf, ?_⟩)
  · rw [run_go (k := 118) (as := [vh 0 0, vi x]) mt_118 (Nat.ne_of_beq_eq_false rfl) rfl (s_kX11_bestWay_0 _ x σ), a2]
    by_cases hx : 0 ≤ x ∧ x < V 51 74
    · have := a4 x.toNat (by omega)
      rw [if_neg (by omega), if_pos (by omega), if_pos (by omega), if_pos hx, this]
      rfl
    · rw [if_neg hx]
      (repeat' split) <;> first | rfl | exact leaf_i rfl | exact leaf_i (by omega) | (exfalso; omega)
  · rw [run_go (k := 225) (as := [vh 51 0, vi x]) mt_225 (Nat.ne_of_beq_eq_false rfl) rfl (s_kX12_bestWay_0 _ x s), hV 51 74 rfl rfl rfl, hV 110 _ rfl rfl rfl]
    (repeat' split) <;> first | rfl | exact leaf_i rfl | exact leaf_i (by omega) | (exfalso; omega)
theorem two_trace (hW : WW σ V) (x : Int) : Two (d + 100) 126 236 [vi x] σ := by
  have h := hW.1
  obtain ⟨a1, a2⟩ := h 13
  refine two_ask (r := vi (if 0 ≤ x ∧ x < V 51 80 ∧ x < 24 then V 114 x.toNat else -1)) hW ⟨σ, Sc.rf, ?_⟩ (fun s hV => ⟨s, Sc.rf, ?_⟩)
  · rw [run_go (k := 126) (as := [vh 0 0, vi x]) mt_126 (Nat.ne_of_beq_eq_false rfl) rfl (s_kX11_trace_0 _ x σ), a1]
    by_cases hx : 0 ≤ x ∧ x < V 51 80 ∧ x < 24
    · have := a2 x.toNat (by omega) (by omega)
      rw [if_neg (by omega), if_pos (by omega), if_pos (by omega), if_pos (by omega), if_pos hx, this]
      rfl
    · rw [if_neg hx]
      (repeat' split) <;> first | rfl | exact leaf_i rfl | exact leaf_i (by omega) | (exfalso; omega)
  · rw [run_go (k := 236) (as := [vh 51 0, vi x]) mt_236 (Nat.ne_of_beq_eq_false rfl) rfl (s_kX12_trace_0 _ x s), hV 51 80 rfl rfl rfl, hV 114 _ rfl rfl rfl]
    (repeat' split) <;> first | rfl | exact leaf_i rfl | exact leaf_i (by omega) | (exfalso; omega)
theorem two_ofHolder (hW : WW σ V) (x y : Int) : Two (d + 100) 61 157 [vi x, vi y] σ := by
  have h := hW.1
  have hI := h.inv
  have h0 := hI.cnt
  by_cases hx : 0 ≤ x ∧ x < V 51 15
  · obtain ⟨p, rfl⟩ : ∃ p : Nat, x = (p : Int) := ⟨x.toNat, by omega⟩
    have hp : p < nH V := by omega
    have r1 : 0 ≤ (p : Int) ∧ (p : Int) < 12 := by omega
    obtain ⟨p4, p5, -⟩ := h 3 p (by omega)
    obtain ⟨p0, p1, p2, p3⟩ := p5 hp
    obtain ⟨g1, g2, -⟩ := hI 2 p hp
    have r3 : 0 ≤ V 59 p ∧ V 59 p < 3 := by omega
    have e38 := (h 1 (V 59 p).toNat (by omega)).1
    generalize hw : w32 (fS (fun t => V 74 (12 * t + p)) (V 54 (V 59 p).toNat).toNat) = w
    have co := c_owed (d := d + 98) h hp
    rw [hw] at co
    refine two_ask (r := vi (if y = 0 then V 59 p else if y = 1 then V 60 p else if y = 2 then V 62 p else if y = 3 then V 63 p else if y = 4 then fst V p else if y = 5 then w else if y = 6 then V 64 p else if y = 7 then (if w < V 64 p then w32 (V 64 p - w) else 0) else -2000000000)) hW ⟨σ, Sc.rf, ?_⟩ (fun s hV => ⟨s, Sc.rf, ?_⟩)
    · rw [run_go (k := 61) (as := [vh 0 0, vi p, vi y]) mt_61 (Nat.ne_of_beq_eq_false rfl) rfl (s_kX11_ofHolder_0 _ p y σ), ci_of (c_isHolder (d := d + 98) h p)]
      simp only [bi_0, decide_eq_false_iff_not, Int.toNat_natCast, if_pos r1, p0, p1, p2, p3, p4, if_pos r3, e38, co, ci_ok, c_piecesOf (d := d + 98) h]
      rw [if_neg (by omega)]
      (repeat' split) <;> first | rfl | exact leaf_i rfl | exact leaf_i (by omega) | (exfalso; omega)
    · have q59 := hV 59 p rfl rfl rfl
      have q60 := hV 60 p rfl rfl rfl
      have q62 := hV 62 p rfl rfl rfl
      have q63 := hV 63 p rfl rfl rfl
      have q64 := hV 64 p rfl rfl rfl
      have ro := r_owed (d := d + 98) hV hI hp
      rw [hw] at ro
      rw [run_go (k := 157) (as := [vh 51 0, vi p, vi y]) mt_157 (Nat.ne_of_beq_eq_false rfl) rfl (s_kX12_ofHolder_0 _ p y s), ci_of (r_isHolder (d := d + 98) hV p)]
      simp only [bi_0, decide_eq_false_iff_not, Int.toNat_natCast, if_pos r1, q59, q60, q62, q63, q64, ro, ci_ok, r_standing (d := d + 98) hV hI]
      rw [if_neg (by omega)]
      (repeat' split) <;> first | rfl | exact leaf_i rfl | exact leaf_i (by omega) | (exfalso; omega)
  · refine two_ask (r := vi (-2000000000)) hW ⟨σ, Sc.rf, ?_⟩ (fun s hV => ⟨s, Sc.rf, ?_⟩)
    · rw [run_go (k := 61) (as := [vh 0 0, vi x, vi y]) mt_61 (Nat.ne_of_beq_eq_false rfl) rfl (s_kX11_ofHolder_0 _ x y σ), ci_of (c_isHolder (d := d + 98) h x)]
      simp only [bi_0, decide_eq_false_iff_not]
      rw [if_pos hx]
      rfl
    · rw [run_go (k := 157) (as := [vh 51 0, vi x, vi y]) mt_157 (Nat.ne_of_beq_eq_false rfl) rfl (s_kX12_ofHolder_0 _ x y s), ci_of (r_isHolder (d := d + 98) hV x)]
      simp only [bi_0, decide_eq_false_iff_not]
      rw [if_pos hx]
      rfl
theorem two_inForce (hW : WW σ V) (x y z : Int) (hx2 : x ≤ 2147483647) : Two (d + 100) 76 176 [vi x, vi y, vi z] σ := by
  have h := hW.1
  have hI := h.inv
  have h0 := hI.cnt
  by_cases hx : 0 ≤ x ∧ x / 10 < V 51 8 ∧ x % 10 < 5
  · have e1 := c_ruleIn (d := d + 98) h.nr (h 9) hI (g := x / 10) (u := x % 10) (t := y) (k := z) (by omega) (by omega) (by omega) (by omega)
    rw [show 10 * (x / 10) + x % 10 = x by omega, ← div_pos hx.1 (by omega) (by decide), ← rem_pos hx.1] at e1
    have rf := fru_r V x y z
    refine two_ask (r := vi (if 0 ≤ y ∧ y < 30 ∧ 0 ≤ z ∧ z ≤ 999 then (if fru V x y z = -1 then -2 else fru V x y z) else -1)) hW ⟨σ, Sc.rf, ?_⟩ (fun s hV => ⟨s, Sc.rf, ?_⟩)
    · rw [run_go (k := 76) (as := [vh 0 0, vi x, vi y, vi z]) mt_76 (Nat.ne_of_beq_eq_false rfl) rfl (s_kX11_inForce_0 _ x y z σ), ci_of (c_isRuled (d := d + 97) h hx2), ci_of (c_isTurn (d := d + 98) y), ci_of e1]
      simp only [bi_0, decide_eq_false_iff_not]
      (repeat' split) <;> first | rfl | exact leaf_i rfl | exact leaf_i (by omega) | (exfalso; omega)
    · rw [run_go (k := 176) (as := [vh 51 0, vi x, vi y, vi z]) mt_176 (Nat.ne_of_beq_eq_false rfl) rfl (s_kX12_inForce_0 _ x y z s), ci_of (r_isWhat (d := d + 97) hV hx2), ci_of (r_isTurn (d := d + 97) y), ci_of (r_within (d := d + 98) z 0 999), ci_of (r_ruleFor (d := d + 98) hV hI x y z)]
      simp only [bi_0, decide_eq_false_iff_not]
      (repeat' split) <;> first | rfl | exact leaf_i rfl | exact leaf_i (by omega) | (exfalso; omega)
  · refine two_ask (r := vi (-1)) hW ⟨σ, Sc.rf, ?_⟩ (fun s hV => ⟨s, Sc.rf, ?_⟩)
    · rw [run_go (k := 76) (as := [vh 0 0, vi x, vi y, vi z]) mt_76 (Nat.ne_of_beq_eq_false rfl) rfl (s_kX11_inForce_0 _ x y z σ), ci_of (c_isRuled (d := d + 97) h hx2)]
      simp only [bi_0, decide_eq_false_iff_not]
      rw [if_pos hx]
      rfl
    · rw [run_go (k := 176) (as := [vh 51 0, vi x, vi y, vi z]) mt_176 (Nat.ne_of_beq_eq_false rfl) rfl (s_kX12_inForce_0 _ x y z s), ci_of (r_isWhat (d := d + 97) hV hx2)]
      simp only [bi_0, decide_eq_false_iff_not]
      rw [if_pos hx]
      rfl
theorem two_was (hW : WW σ V) (x y : Int) (hy1 : -2147483648 ≤ y) (hy2 : y ≤ 2147483647) : Two (d + 100) 107 216 [vi x, vi y] σ := by
  have h := hW.1
  have hI := h.inv
  have h0 := hI.cnt
  by_cases hx : 0 ≤ x ∧ x < V 51 23
  · obtain ⟨p, rfl⟩ : ∃ p : Nat, x = (p : Int) := ⟨x.toNat, by omega⟩
    have hp : p < nP V := by omega
    have r1 : 0 ≤ (p : Int) ∧ (p : Int) < 40 := by omega
    have hgm := gm_r hI hp
    have r3 : 0 ≤ fgm V p ∧ fgm V p < 3 := by omega
    obtain ⟨p0, -⟩ := h 5 p hp
    obtain ⟨b1, b2, -⟩ := hI 1 (fgm V p).toNat (by omega)
    have e38 := (h 1 (fgm V p).toNat (by omega)).1
    by_cases hy : 0 ≤ y ∧ y < V 54 (fgm V p).toNat
    · obtain ⟨u, rfl⟩ : ∃ u : Nat, y = (u : Int) := ⟨y.toNat, by omega⟩
      obtain ⟨w1, w2⟩ := ((h 7 p (by omega)).2 hp).2 u (by omega)
      have e1 : w32 ((u : Int) + 1) = ((u + 1 : Nat) : Int) := w32_nat (by omega)
      have r31 : 0 ≤ ((u + 1 : Nat) : Int) ∧ ((u + 1 : Nat) : Int) < 31 := by omega
      refine two_ask (r := vi (if V 72 (40 * u + p) < 0 then -2 else V 72 (40 * u + p))) hW ⟨σ, Sc.rf, ?_⟩ (fun s hV => ⟨s, Sc.rf, ?_⟩)
      · rw [run_go (k := 107) (as := [vh 0 0, vi p, vi (u : Int)]) mt_107 (Nat.ne_of_beq_eq_false rfl) rfl (s_kX11_was_0 _ p (u : Int) σ), ci_of (c_isPiece (d := d + 98) h p)]
        simp only [bi_0, decide_eq_false_iff_not, Int.toNat_natCast, if_pos r1, p0, if_pos r3, e38, e1, if_pos r31]
        rw [if_neg (by omega), if_neg (by omega), if_pos hy.2]
        by_cases z : V 72 (40 * u + p) < 0
        · rw [if_pos z, w2 z, if_neg (by decide)]
          rfl
        · rw [if_neg z, (w1 (by omega)).1, (w1 (by omega)).2, if_pos rfl]
          rfl
      · have ew : w32 (w32 (40 * (u : Int)) + (p : Int)) = ((40 * u + p : Nat) : Int) := by
          rw [w32_add_l, w32_id (by omega) (by omega)]
          omega
        have rw1 : 0 ≤ ((40 * u + p : Nat) : Int) ∧ ((40 * u + p : Nat) : Int) < 1200 := by omega
        have q72 := hV 72 (40 * u + p) rfl rfl rfl
        have q54 := hV 54 (fgm V p).toNat rfl rfl rfl
        rw [run_go (k := 216) (as := [vh 51 0, vi p, vi (u : Int)]) mt_216 (Nat.ne_of_beq_eq_false rfl) rfl (s_kX12_was_0 _ p (u : Int) s), ci_of (r_isPiece (d := d + 98) hV p)]
        simp only [bi_0, decide_eq_false_iff_not]
        rw [if_neg (by omega), ci_of (r_isPiece (d := d + 98) hV p)]
        simp only [bi_0, decide_eq_false_iff_not]
        rw [if_neg (by omega), ci_of (r_gameOf (d := d + 98) hV hI hp), if_pos r3, q54, w32_id (x := V 54 (fgm V p).toNat - 1) (by omega) (by omega), ci_of (r_within (d := d + 98) _ _ _)]
        simp only [bi_0, decide_eq_false_iff_not]
        rw [if_neg (by omega), ew, if_pos rw1, Int.toNat_natCast, q72]
        (repeat' split) <;> first | rfl | exact leaf_i rfl | exact leaf_i (by omega) | (exfalso; omega)
    · refine two_ask (r := vi (-1)) hW ⟨σ, Sc.rf, ?_⟩ (fun s hV => ⟨s, Sc.rf, ?_⟩)
      · rw [run_go (k := 107) (as := [vh 0 0, vi p, vi y]) mt_107 (Nat.ne_of_beq_eq_false rfl) rfl (s_kX11_was_0 _ p y σ), ci_of (c_isPiece (d := d + 98) h p)]
        simp only [bi_0, decide_eq_false_iff_not, Int.toNat_natCast, if_pos r1, p0, if_pos r3, e38]
        rw [if_neg (by omega)]
        by_cases z : y < 0
        · rw [if_pos z]
          rfl
        · rw [if_neg z, if_neg (by omega)]
          rfl
      · have q54 := hV 54 (fgm V p).toNat rfl rfl rfl
        rw [run_go (k := 216) (as := [vh 51 0, vi p, vi y]) mt_216 (Nat.ne_of_beq_eq_false rfl) rfl (s_kX12_was_0 _ p y s), ci_of (r_isPiece (d := d + 98) hV p)]
        simp only [bi_0, decide_eq_false_iff_not]
        rw [if_neg (by omega), ci_of (r_isPiece (d := d + 98) hV p)]
        simp only [bi_0, decide_eq_false_iff_not]
        rw [if_neg (by omega), ci_of (r_gameOf (d := d + 98) hV hI hp), if_pos r3, q54, w32_id (x := V 54 (fgm V p).toNat - 1) (by omega) (by omega), ci_of (r_within (d := d + 98) _ _ _)]
        simp only [bi_0, decide_eq_false_iff_not]
        rw [if_pos (by omega)]
        rfl
  · refine two_ask (r := vi (-1)) hW ⟨σ, Sc.rf, ?_⟩ (fun s hV => ⟨s, Sc.rf, ?_⟩)
    · rw [run_go (k := 107) (as := [vh 0 0, vi x, vi y]) mt_107 (Nat.ne_of_beq_eq_false rfl) rfl (s_kX11_was_0 _ x y σ), ci_of (c_isPiece (d := d + 98) h x)]
      simp only [bi_0, decide_eq_false_iff_not]
      rw [if_pos hx]
      rfl
    · rw [run_go (k := 216) (as := [vh 51 0, vi x, vi y]) mt_216 (Nat.ne_of_beq_eq_false rfl) rfl (s_kX12_was_0 _ x y s), ci_of (r_isPiece (d := d + 98) hV x)]
      simp only [bi_0, decide_eq_false_iff_not]
      rw [if_pos hx]
      rfl
theorem two_ofCard (hW : WW σ V) (x y : Int) : Two (d + 100) 90 190 [vi x, vi y] σ := by
  have h := hW.1
  have hI := h.inv
  have h0 := hI.cnt
  by_cases hx : 0 ≤ x ∧ x < V 51 41
  · obtain ⟨p, rfl⟩ : ∃ p : Nat, x = (p : Int) := ⟨x.toNat, by omega⟩
    have hp : p < nC V := by omega
    have r1 : 0 ≤ (p : Int) ∧ (p : Int) < 150 := by omega
    obtain ⟨p0, p1, p2, p3, p4, p5⟩ := h 10 p hp
    obtain ⟨-, -, -, -, -, -, -, -, v5, -⟩ := hI 10 p hp
    by_cases y5 : y = 5
    · subst y5
      refine two_ask (r := vi (bi (fct V p))) hW ?_ (fun s hV => ?_)
      · obtain ⟨s', a1, a2⟩ := c_cardCounts (d := d + 96) h hp
        refine ⟨s', a1, ?_⟩
        rw [run_go (k := 90) (as := [vh 0 0, vi p, vi 5]) mt_90 (Nat.ne_of_beq_eq_false rfl) rfl (s_kX11_ofCard_0 _ p 5 σ), ci_of (c_isCard (d := d + 98) h p)]
        simp only [bi_0, decide_eq_false_iff_not, Int.toNat_natCast, if_pos r1]
        rw [if_neg (by omega), if_neg (by decide), if_neg (by decide), if_neg (by decide), if_neg (by decide), if_neg (by decide), if_pos trivial, ci_of a2]
        cases fct V p <;> rfl
      · obtain ⟨s', a1, a2⟩ := r_counts (d := d + 32) hV hI hp
        refine ⟨s', a1, ?_⟩
        rw [run_go (k := 190) (as := [vh 51 0, vi p, vi 5]) mt_190 (Nat.ne_of_beq_eq_false rfl) rfl (s_kX12_ofCard_0 _ p 5 s), ci_of (r_isCard (d := d + 98) hV p)]
        simp only [bi_0, decide_eq_false_iff_not]
        rw [if_neg (by omega), if_neg (by decide), if_neg (by decide), if_neg (by decide), if_neg (by decide), if_neg (by decide), if_pos trivial, ci_of a2]
        cases fct V p <;> rfl
    · refine two_ask (r := vi (if y = 0 then V 81 p else if y = 1 then V 82 p else if y = 2 then V 84 p else if y = 3 then (if V 85 p = -1 then -2 else V 85 p) else if y = 4 then bi (flt V p) else -1)) hW ⟨σ, Sc.rf, ?_⟩ (fun s hV => ⟨s, Sc.rf, ?_⟩)
      · rw [run_go (k := 90) (as := [vh 0 0, vi p, vi y]) mt_90 (Nat.ne_of_beq_eq_false rfl) rfl (s_kX11_ofCard_0 _ p y σ), ci_of (c_isCard (d := d + 98) h p)]
        simp only [bi_0, decide_eq_false_iff_not, Int.toNat_natCast, if_pos r1, p0, p1, p3, p5, if_neg y5, c_late (d := d + 98) h hp, ci_ok]
        rw [if_neg (by omega)]
        cases flt V p <;> simp only [bi, reduceCtorEq, if_true, if_false] <;> (repeat' split) <;> first | rfl | exact leaf_i rfl | exact leaf_i (by omega) | (exfalso; omega)
      · have q81 := hV 81 p rfl rfl rfl
        have q82 := hV 82 p rfl rfl rfl
        have q84 := hV 84 p rfl rfl rfl
        have q85 := hV 85 p rfl rfl rfl
        rw [run_go (k := 190) (as := [vh 51 0, vi p, vi y]) mt_190 (Nat.ne_of_beq_eq_false rfl) rfl (s_kX12_ofCard_0 _ p y s), ci_of (r_isCard (d := d + 98) hV p)]
        simp only [bi_0, decide_eq_false_iff_not, Int.toNat_natCast, if_pos r1, q81, q82, q84, q85, if_neg y5, r_isLate (d := d + 98) hV hI hp, ci_ok]
        rw [if_neg (by omega)]
        cases flt V p <;> simp only [bi, reduceCtorEq, if_true, if_false] <;> (repeat' split) <;> first | rfl | exact leaf_i rfl | exact leaf_i (by omega) | (exfalso; omega)
  · refine two_ask (r := vi (-1)) hW ⟨σ, Sc.rf, ?_⟩ (fun s hV => ⟨s, Sc.rf, ?_⟩)
    · rw [run_go (k := 90) (as := [vh 0 0, vi x, vi y]) mt_90 (Nat.ne_of_beq_eq_false rfl) rfl (s_kX11_ofCard_0 _ x y σ), ci_of (c_isCard (d := d + 98) h x)]
      simp only [bi_0, decide_eq_false_iff_not]
      rw [if_pos hx]
      rfl
    · rw [run_go (k := 190) (as := [vh 51 0, vi x, vi y]) mt_190 (Nat.ne_of_beq_eq_false rfl) rfl (s_kX12_ofCard_0 _ x y s), ci_of (r_isCard (d := d + 98) hV x)]
      simp only [bi_0, decide_eq_false_iff_not]
      rw [if_pos hx]
      rfl
end
