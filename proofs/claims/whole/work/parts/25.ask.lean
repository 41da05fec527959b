-- more plain questions, of both sides
section
variable {σ : TM} {V : TVw} {d : Nat}
def fduP (b day : Int) (t : Nat) : Bool := decide (day ≤ b + 7 * ((t : Int) + 1))
theorem c_firstDue {g : Nat} {b day t0 : Int} (hb : σ 38 g 1 = b) (i0 : 0 ≤ b) (i1 : b ≤ 999) (ht : σ 38 g 2 = t0) (t1 : 0 ≤ t0) (t2 : t0 ≤ 30) : t_run tbl mtb (d + 2) 10 [vh 38 g, vi day] σ = some (some (vi (fF (fduP b day) (30 - t0.toNat) t0.toNat)), σ) := by
  rw [run_go (k := 10) (as := [vh 38 g, vi day]) mt_10 (Nat.ne_of_beq_eq_false rfl) rfl (s_kX2_firstDue_0 _ g day σ), nx_inl, ht]
  refine loop_fin (R := fun r => r = (some (vi (fF (fduP b day) (30 - t0.toNat) t0.toNat)), σ)) (fun x h => h) (loop_ex (fun p L σ' => σ' = σ ∧ L = [some (vh 38 g), some (vi day), some (vi (p : Int))] ∧ fF (fduP b day) (30 - t0.toNat) t0.toNat = fF (fduP b day) (30 - p) p) _ 30 ?_ ?_ (30 - t0.toNat) t0.toNat _ _ 999999 (by omega) ⟨rfl, by rw [Int.toNat_of_nonneg t1], rfl⟩ (by omega))
  · rintro p L s hp ⟨rfl, rfl, hf⟩
    rw [show 30 - p = 30 - (p + 1) + 1 by omega] at hf
    have hst : ∀ n, t_tr tbl mtb (t_run tbl mtb (d + 1)) 10 (n + 1) 5 [some (vh 38 g), some (vi day), some (vi (p : Int))] [] s = if fduP b day p = true then some (.inr (some (vi p), s)) else t_tr tbl mtb (t_run tbl mtb (d + 1)) 10 n 5 [some (vh 38 g), some (vi day), some (vi ((p + 1 : Nat) : Int))] [] s := by
      intro n
      rw [tr_step (s_kX2_firstDue_5 _ g day p s), if_pos (by omega), ci_of (c_due0 hb i0 i1 (by omega) (by omega)), w32_nat (by omega)]
      simp only [fduP, decide_eq_true_eq]
      (repeat' split) <;> first | rfl | (exfalso; omega)
    cases hP : fduP b day p with
    | true =>
      rw [fF, if_pos hP] at hf
      exact .inr ⟨_, by rw [hf], fun n => by rw [hst, if_pos hP]⟩
    | false =>
      rw [fF, if_neg (by rw [hP]; decide)] at hf
      exact .inl ⟨_, _, ⟨rfl, rfl, hf⟩, fun n => by rw [hst, if_neg (by rw [hP]; decide)]⟩
  · rintro L s ⟨rfl, rfl, hf⟩
    exact ⟨_, by rw [hf], fun n => by rw [tr_step (s_kX2_firstDue_5 _ g day ((30 : Nat) : Int) s), if_neg (by omega)]; rfl⟩
theorem c_owed (h : CR σ V) {x : Nat} (hx : x < nH V) : t_run tbl mtb (d + 1) 11 [vh 41 x, vi (V 54 (V 59 x).toNat)] σ = some (some (vi (w32 (fS (fun t => V 74 (12 * t + x)) (V 54 (V 59 x).toNat).toNat))), σ) := by
  have h0 := h.cnt
  obtain ⟨g1, g2, -⟩ := h.inv 2 x hx
  obtain ⟨t1, t2, -⟩ := h.inv 1 (V 59 x).toNat (by omega)
  obtain ⟨-, h4⟩ := h 4 x hx
  generalize V 54 (V 59 x).toNat = T at *
  rw [run_go (k := 11) (as := [vh 41 x, vi T]) mt_11 (Nat.ne_of_beq_eq_false rfl) rfl (s_kX3_owed_0 _ x T σ), nx_inl]
  refine out_of (loop_all (fun p L σ' => σ' = σ ∧ L = [some (vh 41 x), some (vi T), some (vi (w32 (fS (fun t => V 74 (12 * t + x)) p))), some (vi (p : Int))]) T.toNat ?_ ⟨rfl, by rw [show w32 (fS (fun t => V 74 (12 * t + x)) 0) = 0 from w32_id (x := 0) (by decide) (by decide)]; rfl⟩ (by omega) ?_)
  · rintro p L s hp ⟨rfl, rfl⟩
    refine ⟨_, _, ⟨rfl, rfl⟩, fun n => ?_⟩
    rw [tr_step (s_kX3_owed_4 _ x T _ p s), Int.toNat_natCast, if_pos (by omega), if_pos (by omega), if_pos (by omega), w32_nat (by omega), (h4 p (by omega)).2, fS, w32_add_l]
    rfl
  · rintro L s ⟨rfl, rfl⟩
    rw [show 999999 - T.toNat = 999998 - T.toNat + 1 by omega, tr_step (s_kX3_owed_4 _ x T _ T.toNat s), if_neg (by omega)]
    rfl
theorem r_owed (hV : RV σ V) (hI : Inv V) {x : Nat} (hx : x < nH V) : t_run tbl mtb (d + 1) 156 [vh 51 0, vi x] σ = some (some (vi (w32 (fS (fun t => V 74 (12 * t + x)) (V 54 (V 59 x).toNat).toNat))), σ) := by
  have h0 := hI.cnt
  obtain ⟨g1, g2, -⟩ := hI 2 x hx
  obtain ⟨t1, t2, -⟩ := hI 1 (V 59 x).toNat (by omega)
  have e : V 54 (V 59 x).toNat = ((V 54 (V 59 x).toNat).toNat : Int) := (Int.toNat_of_nonneg t1).symm
  generalize hT : (V 54 (V 59 x).toNat).toNat = T at *
  rw [run_go (k := 156) (as := [vh 51 0, vi x]) mt_156 (Nat.ne_of_beq_eq_false rfl) rfl (s_kX12_owed_0 _ x σ), nx_inl]
  refine out_of (loop_all (fun p L σ' => σ' = σ ∧ L = [some (vh 51 0), some (vi x), some (vi (w32 (fS (fun t => V 74 (12 * t + x)) p))), some (vi (p : Int))]) T ?_ ⟨rfl, by rw [show w32 (fS (fun t => V 74 (12 * t + x)) 0) = 0 from w32_id (x := 0) (by decide) (by decide)]; rfl⟩ (by omega) ?_)
  · rintro p L s hp ⟨rfl, rfl⟩
    refine ⟨_, _, ⟨rfl, rfl⟩, fun n => ?_⟩
    rw [tr_step (s_kX12_owed_4 _ x _ p s), Int.toNat_natCast, hV 59 _ rfl rfl rfl, hV 54 _ rfl rfl rfl, w32_id (x := 12 * (p : Int)) (by omega) (by omega), w32_id (x := 12 * (p : Int) + x) (by omega) (by omega), if_pos (by omega), if_pos (by omega), if_pos (by omega), if_pos (by omega), w32_nat (by omega), show (12 * (p : Int) + x).toNat = 12 * p + x by omega, hV 74 _ rfl rfl rfl, fS, w32_add_l]
    rfl
  · rintro L s ⟨rfl, rfl⟩
    rw [show 999999 - T = 999998 - T + 1 by omega, tr_step (s_kX12_owed_4 _ x _ T s), Int.toNat_natCast, hV 59 _ rfl rfl rfl, hV 54 _ rfl rfl rfl, if_pos (by omega), if_pos (by omega), if_neg (by omega)]
    rfl
theorem c_ruleIn (hr : σ 0 0 13 = V 51 34) (h9 : crc σ V 9) (hI : Inv V) {g u t k : Int} (hg : 0 ≤ g) (hg3 : g < 3) (hu : 0 ≤ u) (hu5 : u < 5) : t_run tbl mtb (d + 1) 80 [vh 0 0, vi g, vi u, vi t, vi k] σ = some (some (vi (fru V (10 * g + u) t k)), σ) := by
  have h0 := hI.cnt
  rw [run_go (k := 80) (as := [vh 0 0, vi g, vi u, vi t, vi k]) mt_80 (Nat.ne_of_beq_eq_false rfl) rfl (s_kX11_ruleIn_0 _ g u t k σ), nx_inl, hr, w32_id (by omega) (by omega)]
  refine loop_fin (R := fun r => r = (some (vi (fru V (10 * g + u) t k)), σ)) (fun x h => h) (loop_ex (fun p L σ' => σ' = σ ∧ L = [some (vh 0 0), some (vi g), some (vi u), some (vi t), some (vi k), some (vi ((nR V : Int) - 1 - p)), none] ∧ fru V (10 * g + u) t k = fL (fruP V (10 * g + u) t k) (nR V - p)) _ (nR V) ?_ ?_ (nR V) 0 _ _ 999999 (by omega) ⟨rfl, by rw [show (nR V : Int) - 1 - ((0 : Nat) : Int) = V 51 34 - 1 by omega], rfl⟩ (by omega))
  · rintro p L s hp ⟨rfl, rfl, hf⟩
    rw [show nR V - p = nR V - (p + 1) + 1 by omega] at hf
    have e1 : (nR V : Int) - 1 - p = ((nR V - (p + 1) : Nat) : Int) := by omega
    obtain ⟨a1, a2, a3, a4, a5, a6, a7, -⟩ := h9 (nR V - (p + 1)) (by omega)
    have hst : ∀ n, t_tr tbl mtb (t_run tbl mtb d) 80 (n + 1) 8 [some (vh 0 0), some (vi g), some (vi u), some (vi t), some (vi k), some (vi ((nR V : Int) - 1 - p)), none] [] s = if fruP V (10 * g + u) t k (nR V - (p + 1)) = true then some (.inr (some (vi ((nR V - (p + 1) : Nat) : Int)), s)) else t_tr tbl mtb (t_run tbl mtb d) 80 n 8 [some (vh 0 0), some (vi g), some (vi u), some (vi t), some (vi k), some (vi ((nR V : Int) - 1 - ((p + 1 : Nat) : Int))), none] [] s := by
      intro n
      rw [e1, show (nR V : Int) - 1 - ((p + 1 : Nat) : Int) = ((nR V - (p + 1) : Nat) : Int) + -1 by omega]
      generalize nR V - (p + 1) = q at *
      rw [tr_step (s_kX11_ruleIn_8 _ g u t k q s), Int.toNat_natCast, a6, a7, if_neg (by omega), if_pos (by omega), w32_id (x := (q : Int) + -1) (by omega) (by omega)]
      simp only [fruP, decide_eq_true_eq]
      (repeat' split) <;> first | rfl | (exfalso; omega)
    cases hP : fruP V (10 * g + u) t k (nR V - (p + 1)) with
    | true =>
      rw [fL, if_pos hP] at hf
      exact .inr ⟨_, by rw [hf], fun n => by rw [hst, if_pos hP]⟩
    | false =>
      rw [fL, if_neg (by rw [hP]; decide)] at hf
      exact .inl ⟨_, _, ⟨rfl, rfl, hf⟩, fun n => by rw [hst, if_neg (by rw [hP]; decide)]⟩
  · rintro L s ⟨rfl, rfl, hf⟩
    rw [Nat.sub_self] at hf
    exact ⟨_, by rw [hf], fun n => by rw [tr_step (s_kX11_ruleIn_8 _ g u t k _ s), if_pos (by omega)]; rfl⟩
theorem r_ruleFor (hV : RV σ V) (hI : Inv V) (w t k : Int) : t_run tbl mtb (d + 1) 175 [vh 51 0, vi w, vi t, vi k] σ = some (some (vi (fru V w t k)), σ) := by
  have h0 := hI.cnt
  rw [run_go (k := 175) (as := [vh 51 0, vi w, vi t, vi k]) mt_175 (Nat.ne_of_beq_eq_false rfl) rfl (s_kX12_ruleFor_0 _ w t k σ), nx_inl]
  refine out_of (loop_all (fun p L σ' => σ' = σ ∧ L = [some (vh 51 0), some (vi w), some (vi t), some (vi k), some (vi (fL (fruP V w t k) p)), some (vi (p : Int))]) (nR V) ?_ ⟨rfl, rfl⟩ (by omega) ?_)
  · rintro p L s hp ⟨rfl, rfl⟩
    refine ⟨_, _, ⟨rfl, rfl⟩, fun n => ?_⟩
    have r1 : 0 ≤ (p : Int) ∧ (p : Int) < 20 := by omega
    rw [tr_step (s_kX12_ruleFor_6 _ w t k _ p s), Int.toNat_natCast, hV 78 _ rfl rfl rfl, hV 79 _ rfl rfl rfl, hV 80 _ rfl rfl rfl, hV 51 34 rfl rfl rfl, w32_nat (by omega), if_pos (by omega)]
    simp only [if_pos r1]
    have e : fL (fruP V w t k) (p + 1) = if fruP V w t k p = true then (p : Int) else fL (fruP V w t k) p := rfl
    have e2 : fruP V w t k p = decide (V 78 p = w ∧ V 79 p ≤ k ∧ V 80 p ≤ t) := rfl
    rw [e, e2]
    simp only [decide_eq_true_eq]
    (repeat' split) <;> first | rfl | (exfalso; omega)
  · rintro L s ⟨rfl, rfl⟩
    rw [show 999999 - nR V = 999998 - nR V + 1 by omega, tr_step (s_kX12_ruleFor_6 _ w t k _ (nR V) s), hV 51 34 rfl rfl rfl, if_neg (by omega)]
    rfl
theorem c_within (v m : Int) (hm : 0 ≤ m) : t_run tbl mtb (d + 2) 88 [vi v, vi m] σ = some (some (vi (fhl v m)), σ) := by
  rw [run_go (k := 88) (as := [vi v, vi m]) mt_88 (Nat.ne_of_beq_eq_false rfl) rfl (s_kX11_within_0 _ v m σ), ci_of (j_min v m), ci_of (j_max ..)]
  unfold fhl
  (repeat' split) <;> exact leaf_i (by omega)
theorem r_held (v m : Int) : t_run tbl mtb (d + 1) 178 [vi v, vi m] σ = some (some (vi (fhl v m)), σ) := by
  rw [run_go (k := 178) (as := [vi v, vi m]) mt_178 (Nat.ne_of_beq_eq_false rfl) rfl (s_kX12_held_0 _ v m σ)]
  unfold fhl
  (repeat' split) <;> exact leaf_i (by omega)
def fkt (k a b : Int) : Bool := decide (k = 2 ∧ 0 ≤ a ∧ a < 48 ∧ (b = 0 ∨ b = 1) ∨ k = 3 ∧ 0 ≤ a ∧ a < 30 ∨ k = 4 ∧ 0 ≤ a ∧ a < 300)
theorem c_isKindTold (k a b : Int) : t_run tbl mtb (d + 2) 97 [vi k, vi a, vi b] σ = some (some (vi (bi (fkt k a b))), σ) := by
  rw [run_go (k := 97) (as := [vi k, vi a, vi b]) mt_97 (Nat.ne_of_beq_eq_false rfl) rfl (s_kX11_isKindTold_0 _ k a b σ), ci_of (c_isCell a), ci_of (c_isTurn a)]
  simp only [bi_0, decide_eq_false_iff_not, if_pos (bi_r _)]
  unfold fkt
  (repeat' split) <;> first | exact leaf_b (by omega) | exact leaf_i (congrArg bi (decide_eq_decide.mpr (by omega)))
theorem r_isIn (hV : RV σ V) (hI : Inv V) {p : Nat} (hp : p < nP V) (g : Int) : t_run tbl mtb (d + 2) 205 [vh 51 0, vi p, vi g] σ = some (some (vi (bi (decide (V 69 p = 0 ∧ fgm V p = g)))), σ) := by
  have h0 := hI.cnt
  rw [run_go (k := 205) (as := [vh 51 0, vi p, vi g]) mt_205 (Nat.ne_of_beq_eq_false rfl) rfl (s_kX12_isIn_0 _ p g σ), ci_of (r_gameOf hV hI hp), Int.toNat_natCast, hV 69 _ rfl rfl rfl, if_pos (by omega)]
  (repeat' split) <;> exact leaf_b (by omega)
theorem r_isBeside {a b : Int} (ha : 0 ≤ a) (ha2 : a < 48) (hb : 0 ≤ b) (hb2 : b < 48) : t_run tbl mtb (d + 3) 198 [vh 51 0, vi a, vi b] σ = some (some (vi (bi (decide (fwy a b = 1)))), σ) := by
  rw [run_go (k := 198) (as := [vh 51 0, vi a, vi b]) mt_198 (Nat.ne_of_beq_eq_false rfl) rfl (s_kX12_isBeside_0 _ a b σ), ci_of (r_wayOf ha ha2 hb hb2)]
  (repeat' split) <;> exact leaf_b (by omega)
theorem gm_r (hI : Inv V) {p : Nat} (hp : p < nP V) : 0 ≤ fgm V p ∧ fgm V p < V 51 8 := by
  have h0 := hI.cnt
  obtain ⟨i1, i2, -⟩ := hI 3 p hp
  obtain ⟨g1, g2, -⟩ := hI 2 (V 65 p).toNat (by omega)
  exact ⟨g1, g2⟩
theorem c_canBe (h : CR σ V) {p : Nat} (hp : p < nP V) {w t : Int} (h1 : w = 1 → 0 ≤ t ∧ t < 48) (h2 : w = 2 → 0 ≤ t ∧ t < V 51 23) : t_run tbl mtb (d + 3) 101 [vh 0 0, vi p, vi w, vi t] σ = some (some (vi (bi (fcb V p w t))), σ) := by
  have h0 := h.cnt
  have hg := gm_r h.inv hp
  obtain ⟨-, -, k1, k2, -⟩ := h.inv 3 p hp
  obtain ⟨e0, e1, e2, e3, e4, e5, e6⟩ := h 5 p hp
  rw [run_go (k := 101) (as := [vh 0 0, vi p, vi w, vi t]) mt_101 (Nat.ne_of_beq_eq_false rfl) rfl (s_kX11_canBe_0 _ p w t σ), Int.toNat_natCast, if_pos (by omega)]
  unfold fcb
  by_cases a : w = 1
  · have h1 := h1 a
    rw [if_pos a, if_pos a, ci_of (c_isCell t)]
    simp only [bi_0, decide_eq_false_iff_not]
    rw [if_neg (by omega), e3, ci_of (c_distance k1 k2 h1.1 h1.2), e0, if_pos (show 0 ≤ t ∧ t < 48 from h1), if_pos (show 0 ≤ fgm V p ∧ fgm V p < 3 by omega)]
    have q := (h 2 (fgm V p).toNat t.toNat (by omega) (by omega)).2
    rw [show 48 * (fgm V p).toNat + t.toNat = (48 * fgm V p + t).toNat by omega] at q
    rw [q]
    (repeat' split) <;> exact leaf_b (by omega)
  · rw [if_neg a, if_neg a]
    by_cases b : w = 2
    · have h2 := h2 b
      obtain ⟨-, -, -, -, -, -, z6⟩ := h 5 t.toNat (by omega)
      rw [if_pos b, if_pos b, ci_of (c_isPiece h t)]
      simp only [bi_0, decide_eq_false_iff_not]
      rw [if_neg (by omega), if_pos (by omega), z6]
      (repeat' split) <;> exact leaf_b (by omega)
    · rw [if_neg b, if_neg b]
      rfl
theorem r_canBe (hV : RV σ V) (hI : Inv V) {p : Nat} (hp : p < nP V) {w t : Int} (h1 : w = 1 → 0 ≤ t ∧ t < 48) (h2 : w = 2 → 0 ≤ t ∧ t < V 51 23) : t_run tbl mtb (d + 4) 199 [vh 51 0, vi p, vi w, vi t] σ = some (some (vi (bi (fcb V p w t))), σ) := by
  have h0 := hI.cnt
  have hg := gm_r hI hp
  obtain ⟨-, -, k1, k2, -⟩ := hI 3 p hp
  rw [run_go (k := 199) (as := [vh 51 0, vi p, vi w, vi t]) mt_199 (Nat.ne_of_beq_eq_false rfl) rfl (s_kX12_canBe_0 _ p w t σ), Int.toNat_natCast, hV 66 _ rfl rfl rfl]
  unfold fcb
  by_cases a : w = 1
  · have h1 := h1 a
    rw [if_pos a, if_pos a, if_pos (by omega), ci_of (r_isBeside k1 k2 h1.1 h1.2)]
    simp only [bi_0, decide_eq_false_iff_not]
    rw [ci_of (r_gameOf hV hI hp), w32_id (x := 48 * fgm V p) (by omega) (by omega), w32_id (by omega) (by omega), hV 58 _ rfl rfl rfl, if_pos (show 0 ≤ 48 * fgm V p + t ∧ 48 * fgm V p + t < 144 by omega)]
    (repeat' split) <;> exact leaf_b (by omega)
  · rw [if_neg a, if_neg a]
    by_cases b : w = 2
    · have h2 := h2 b
      rw [if_pos b, if_pos b, hV 69 _ rfl rfl rfl, if_pos (by omega)]
      (repeat' split) <;> exact leaf_b (by omega)
    · rw [if_neg b, if_neg b]
      rfl
def fsd (V : TVw) (p w t : Int) : Bool := decide (0 ≤ p ∧ p < V 51 23 ∧ V 69 p.toNat = 0 ∧ (w = 0 ∨ w = 1 ∧ 0 ≤ t ∧ t < 48 ∨ w = 2 ∧ 0 ≤ t ∧ t < V 51 23 ∧ t ≠ p ∧ V 69 t.toNat = 0 ∧ fgm V t.toNat = fgm V p.toNat))
theorem c_isSound (h : CR σ V) (p w t : Int) : t_run tbl mtb (d + 2) 96 [vh 0 0, vi p, vi w, vi t] σ = some (some (vi (bi (fsd V p w t))), σ) := by
  have h0 := h.cnt
  rw [run_go (k := 96) (as := [vh 0 0, vi p, vi w, vi t]) mt_96 (Nat.ne_of_beq_eq_false rfl) rfl (s_kX11_isSound_0 _ p w t σ), ci_of (c_isPiece h p)]
  simp only [bi_0, decide_eq_false_iff_not]
  unfold fsd
  by_cases hp : 0 ≤ p ∧ p < V 51 23
  · obtain ⟨e0, -, -, -, -, -, e6⟩ := h 5 p.toNat (by omega)
    rw [if_neg (by omega), if_pos (by omega), e6, ci_of (c_isCell t), ci_of (c_isPiece h t)]
    simp only [bi_0, decide_eq_false_iff_not, if_pos (bi_r _)]
    by_cases ht : 0 ≤ t ∧ t < V 51 23
    · obtain ⟨z0, -, -, -, -, -, z6⟩ := h 5 t.toNat (by omega)
      rw [e0, z0, z6]
      (repeat' split) <;> first | exact leaf_b (by omega) | exact leaf_i (congrArg bi (decide_eq_decide.mpr (by omega))) | (exfalso; omega)
    · (repeat' split) <;> first | exact leaf_b (by omega) | exact leaf_i (congrArg bi (decide_eq_decide.mpr (by omega))) | (exfalso; omega)
  · rw [if_pos (by omega)]
    exact leaf_b (by omega)
theorem r_isSaid (hV : RV σ V) (hI : Inv V) (x p w t : Int) : t_run tbl mtb (d + 3) 192 [vh 51 0, vi x, vi p, vi w, vi t] σ = some (some (vi (bi (fsd V p w t && decide (V 65 p.toNat = x)))), σ) := by
  have h0 := hI.cnt
  rw [show (fsd V p w t && decide (V 65 p.toNat = x)) = decide ((0 ≤ p ∧ p < V 51 23 ∧ V 69 p.toNat = 0 ∧ (w = 0 ∨ w = 1 ∧ 0 ≤ t ∧ t < 48 ∨ w = 2 ∧ 0 ≤ t ∧ t < V 51 23 ∧ t ≠ p ∧ V 69 t.toNat = 0 ∧ fgm V t.toNat = fgm V p.toNat)) ∧ V 65 p.toNat = x) by simp [fsd], run_go (k := 192) (as := [vh 51 0, vi x, vi p, vi w, vi t]) mt_192 (Nat.ne_of_beq_eq_false rfl) rfl (s_kX12_isSaid_0 _ x p w t σ), ci_of (r_isPiece hV p)]
  simp only [bi_0, decide_eq_false_iff_not, show ∀ j, σ 69 0 j = V 69 j from fun j => hV 69 j rfl rfl rfl, show ∀ j, σ 65 0 j = V 65 j from fun j => hV 65 j rfl rfl rfl]
  by_cases hp : 0 ≤ p ∧ p < V 51 23
  · have r1 : 0 ≤ p ∧ p < 40 := by omega
    have e3 : t_run tbl mtb (d + 2) 141 [vh 51 0, vi t] σ = some (some (vi (bi (decide (0 ≤ t ∧ t < V 51 23)))), σ) := r_isPiece hV t
    have e4 : t_run tbl mtb (d + 2) 142 [vi t] σ = some (some (vi (bi (decide (0 ≤ t ∧ t < 48)))), σ) := r_isCell t
    rw [if_neg (by omega)]
    simp only [if_pos r1]
    by_cases a : V 69 p.toNat = 0
    · rw [if_pos a]
      by_cases b : V 65 p.toNat = x
      · rw [if_pos b, ci_of (r_within ..)]
        simp only [bi_0, decide_eq_false_iff_not]
        by_cases w0 : w = 0
        · rw [if_neg (by omega), if_pos w0]
          exact leaf_b (by omega)
        by_cases w1 : w = 1
        · rw [if_neg (by omega), if_neg w0, if_pos w1, ci_of e4]
          simp only [bi_0, decide_eq_false_iff_not]
          split
          · rw [if_neg (by omega)]
            exact leaf_b (by omega)
          · exact leaf_b (by omega)
        by_cases w2 : w = 2
        · rw [if_neg (by omega), if_neg w0, if_neg w1, if_pos w2, ci_of e3]
          simp only [bi_0, decide_eq_false_iff_not]
          by_cases ht : 0 ≤ t ∧ t < V 51 23
          · have e1 : t_run tbl mtb (d + 2) 145 [vh 51 0, vi p] σ = some (some (vi (fgm V p.toNat)), σ) := by
              have := r_gameOf (d := d + 1) hV hI (p := p.toNat) (by omega)
              rwa [Int.toNat_of_nonneg hp.1] at this
            have e2 : t_run tbl mtb (d + 2) 145 [vh 51 0, vi t] σ = some (some (vi (fgm V t.toNat)), σ) := by
              have := r_gameOf (d := d + 1) hV hI (p := t.toNat) (by omega)
              rwa [Int.toNat_of_nonneg ht.1] at this
            rw [if_neg (by omega), ci_of e2, ci_of e1]
            simp only [show ∀ j, σ 69 0 j = V 69 j from fun j => hV 69 j rfl rfl rfl]
            (repeat' split) <;> first | exact leaf_b (by omega) | (exfalso; omega)
          · rw [if_pos ht]
            exact leaf_b (by omega)
        · split
          · exact leaf_b (by omega)
          · exact leaf_b (by omega)
      · rw [if_neg b]
        exact leaf_b (by omega)
    · rw [if_neg a]
      exact leaf_b (by omega)
  · rw [if_pos (by omega)]
    exact leaf_b (by omega)
end
