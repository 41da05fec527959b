-- plain questions, of both sides
section
variable {σ : TM} {V : TVw} {d : Nat}
theorem c_isGame (h : CR σ V) (g : Int) : t_run tbl mtb (d + 1) 63 [vh 0 0, vi g] σ = some (some (vi (bi (decide (0 ≤ g ∧ g < V 51 8)))), σ) := by
  rw [run_go (k := 63) (as := [vh 0 0, vi g]) mt_63 (Nat.ne_of_beq_eq_false rfl) rfl (s_kX11_isGame_0 _ g σ), h.ng]
  (repeat' split) <;> exact leaf_b (by omega)
theorem c_isHolder (h : CR σ V) (g : Int) : t_run tbl mtb (d + 1) 64 [vh 0 0, vi g] σ = some (some (vi (bi (decide (0 ≤ g ∧ g < V 51 15)))), σ) := by
  rw [run_go (k := 64) (as := [vh 0 0, vi g]) mt_64 (Nat.ne_of_beq_eq_false rfl) rfl (s_kX11_isHolder_0 _ g σ), h.nh]
  (repeat' split) <;> exact leaf_b (by omega)
theorem c_isPiece (h : CR σ V) (g : Int) : t_run tbl mtb (d + 1) 65 [vh 0 0, vi g] σ = some (some (vi (bi (decide (0 ≤ g ∧ g < V 51 23)))), σ) := by
  rw [run_go (k := 65) (as := [vh 0 0, vi g]) mt_65 (Nat.ne_of_beq_eq_false rfl) rfl (s_kX11_isPiece_0 _ g σ), h.np]
  (repeat' split) <;> exact leaf_b (by omega)
theorem c_isCard (h : CR σ V) (g : Int) : t_run tbl mtb (d + 1) 66 [vh 0 0, vi g] σ = some (some (vi (bi (decide (0 ≤ g ∧ g < V 51 41)))), σ) := by
  rw [run_go (k := 66) (as := [vh 0 0, vi g]) mt_66 (Nat.ne_of_beq_eq_false rfl) rfl (s_kX11_isCard_0 _ g σ), h.nc]
  (repeat' split) <;> exact leaf_b (by omega)
theorem c_isOrder (h : CR σ V) (g : Int) : t_run tbl mtb (d + 1) 67 [vh 0 0, vi g] σ = some (some (vi (bi (decide (0 ≤ g ∧ g < V 51 49)))), σ) := by
  rw [run_go (k := 67) (as := [vh 0 0, vi g]) mt_67 (Nat.ne_of_beq_eq_false rfl) rfl (s_kX11_isOrder_0 _ g σ), h.no]
  (repeat' split) <;> exact leaf_b (by omega)
theorem c_isCell (g : Int) : t_run tbl mtb (d + 1) 68 [vi g] σ = some (some (vi (bi (decide (0 ≤ g ∧ g < 48)))), σ) := by
  rw [run_go (k := 68) (as := [vi g]) mt_68 (Nat.ne_of_beq_eq_false rfl) rfl (s_kX11_isCell_0 _ g σ)]
  (repeat' split) <;> exact leaf_b (by omega)
theorem c_isTurn (g : Int) : t_run tbl mtb (d + 1) 69 [vi g] σ = some (some (vi (bi (decide (0 ≤ g ∧ g < 30)))), σ) := by
  rw [run_go (k := 69) (as := [vi g]) mt_69 (Nat.ne_of_beq_eq_false rfl) rfl (s_kX11_isTurn_0 _ g σ)]
  (repeat' split) <;> exact leaf_b (by omega)
theorem c_isShelf (g : Int) : t_run tbl mtb (d + 1) 70 [vi g] σ = some (some (vi (bi (decide (0 ≤ g ∧ g < 6)))), σ) := by
  rw [run_go (k := 70) (as := [vi g]) mt_70 (Nat.ne_of_beq_eq_false rfl) rfl (s_kX11_isShelf_0 _ g σ)]
  (repeat' split) <;> exact leaf_b (by omega)
theorem r_within (g x y : Int) : t_run tbl mtb (d + 1) 138 [vj g, vj x, vj y] σ = some (some (vi (bi (decide (x ≤ g ∧ g ≤ y)))), σ) := by
  rw [run_go (k := 138) (as := [vj g, vj x, vj y]) mt_138 (Nat.ne_of_beq_eq_false rfl) rfl (s_kX12_within_0 _ g x y σ)]
  (repeat' split) <;> exact leaf_b (by omega)
theorem r_isGame (hV : RV σ V) (g : Int) : t_run tbl mtb (d + 1) 139 [vh 51 0, vi g] σ = some (some (vi (bi (decide (0 ≤ g ∧ g < V 51 8)))), σ) := by
  rw [run_go (k := 139) (as := [vh 51 0, vi g]) mt_139 (Nat.ne_of_beq_eq_false rfl) rfl (s_kX12_isGame_0 _ g σ), hV 51 8 rfl rfl rfl]
  (repeat' split) <;> exact leaf_b (by omega)
theorem r_isHolder (hV : RV σ V) (g : Int) : t_run tbl mtb (d + 1) 140 [vh 51 0, vi g] σ = some (some (vi (bi (decide (0 ≤ g ∧ g < V 51 15)))), σ) := by
  rw [run_go (k := 140) (as := [vh 51 0, vi g]) mt_140 (Nat.ne_of_beq_eq_false rfl) rfl (s_kX12_isHolder_0 _ g σ), hV 51 15 rfl rfl rfl]
  (repeat' split) <;> exact leaf_b (by omega)
theorem r_isPiece (hV : RV σ V) (g : Int) : t_run tbl mtb (d + 1) 141 [vh 51 0, vi g] σ = some (some (vi (bi (decide (0 ≤ g ∧ g < V 51 23)))), σ) := by
  rw [run_go (k := 141) (as := [vh 51 0, vi g]) mt_141 (Nat.ne_of_beq_eq_false rfl) rfl (s_kX12_isPiece_0 _ g σ), hV 51 23 rfl rfl rfl]
  (repeat' split) <;> exact leaf_b (by omega)
theorem r_isCard (hV : RV σ V) (g : Int) : t_run tbl mtb (d + 1) 187 [vh 51 0, vi g] σ = some (some (vi (bi (decide (0 ≤ g ∧ g < V 51 41)))), σ) := by
  rw [run_go (k := 187) (as := [vh 51 0, vi g]) mt_187 (Nat.ne_of_beq_eq_false rfl) rfl (s_kX12_isCard_0 _ g σ), hV 51 41 rfl rfl rfl]
  (repeat' split) <;> exact leaf_b (by omega)
theorem r_isOrder (hV : RV σ V) (g : Int) : t_run tbl mtb (d + 1) 194 [vh 51 0, vi g] σ = some (some (vi (bi (decide (0 ≤ g ∧ g < V 51 49)))), σ) := by
  rw [run_go (k := 194) (as := [vh 51 0, vi g]) mt_194 (Nat.ne_of_beq_eq_false rfl) rfl (s_kX12_isOrder_0 _ g σ), hV 51 49 rfl rfl rfl]
  (repeat' split) <;> exact leaf_b (by omega)
theorem r_isCell (g : Int) : t_run tbl mtb (d + 2) 142 [vi g] σ = some (some (vi (bi (decide (0 ≤ g ∧ g < 48)))), σ) := by
  rw [run_go (k := 142) (as := [vi g]) mt_142 (Nat.ne_of_beq_eq_false rfl) rfl (s_kX12_isCell_0 _ g σ), ci_of (r_within ..)]
  rw [show decide (0 ≤ g ∧ g ≤ 47) = decide (0 ≤ g ∧ g < 48) from decide_eq_decide.mpr (by omega), if_pos (bi_r _)]
  exact leaf_i rfl
theorem c_pieceIn (h : CR σ V) (g c : Int) : t_run tbl mtb (d + 1) 72 [vh 0 0, vi g, vi c] σ = some (some (vi (fat V g c)), σ) := by
  rw [run_go (k := 72) (as := [vh 0 0, vi g, vi c]) mt_72 (Nat.ne_of_beq_eq_false rfl) rfl (s_kX11_pieceIn_0 _ g c σ), nx_inl]
  have L : ∀ m p n : Nat, p + m = nP V → m < n → t_tr tbl mtb (t_run tbl mtb d) 72 n 2 [some (vh 0 0), some (vi g), some (vi c), some (vi (p : Int)), none] [] σ = some (.inr (some (vi (fF (fatP V g c) m p)), σ)) := by
    have hn := h.np
    have hc := h.cnt
    intro m
    induction m with
    | zero =>
      intro p n hp hn
      obtain ⟨n, rfl⟩ : ∃ k, n = k + 1 := ⟨n - 1, by omega⟩
      rw [tr_step (s_kX11_pieceIn_2 _ g c p σ), if_neg (by omega)]
      rfl
    | succ m ih =>
      intro p n hp hn
      obtain ⟨n, rfl⟩ : ∃ k, n = k + 1 := ⟨n - 1, by omega⟩
      obtain ⟨h0, h1, h2, h3, h4, h5, h6⟩ := h 5 p (by omega)
      rw [tr_step (s_kX11_pieceIn_2 _ g c p σ), if_pos (by omega), if_pos (by omega), Int.toNat_natCast, h0, h3, h6, w32_nat (by omega)]
      have ih := ih (p + 1) n (by omega) (by omega)
      unfold fF fatP
      by_cases a : V 66 p = c <;> by_cases b : fgm V p = g <;> by_cases e : V 69 p = 0 <;> simp only [a, b, e, nx_inl, nx_inr, ih, if_pos, if_neg, true_and, and_true, and_false, false_and, decide_true, decide_false, not_false_eq_true] <;> rfl
  have hc := h.cnt
  have := L (nP V) 0 999999 (by omega) (by omega)
  rw [show ((0 : Nat) : Int) = 0 from rfl] at this
  rw [this]
  rfl
end
