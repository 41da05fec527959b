-- loops, and more plain questions
theorem loop_rel {O : TO} {k pc : Nat} (I : Nat → TL → TM → Prop) (N : Nat) (hs : ∀ p L σ, p < N → I p L σ → ∃ L' σ', I (p + 1) L' σ' ∧ ∀ n, t_tr tbl mtb O k (n + 1) pc L [] σ = t_tr tbl mtb O k n pc L' [] σ') : ∀ m p L σ, p + m = N → I p L σ → ∃ L' σ', I N L' σ' ∧ ∀ n, t_tr tbl mtb O k (n + m) pc L [] σ = t_tr tbl mtb O k n pc L' [] σ'
  | 0, p, L, σ, h, hI => by
    subst h
    exact ⟨L, σ, hI, fun n => rfl⟩
  | m + 1, p, L, σ, h, hI => by
    obtain ⟨L1, σ1, hI1, e1⟩ := hs p L σ (by omega) hI
    obtain ⟨L2, σ2, hI2, e2⟩ := loop_rel I N hs m (p + 1) L1 σ1 (by omega) hI1
    exact ⟨L2, σ2, hI2, fun n => (e1 (n + m)).trans (e2 n)⟩
/-- a loop that runs to its end, and then what its end gives -/
theorem loop_all {O : TO} {k pc : Nat} {X : Option TRes} (I : Nat → TL → TM → Prop) (N : Nat) (hs : ∀ p L σ, p < N → I p L σ → ∃ L' σ', I (p + 1) L' σ' ∧ ∀ n, t_tr tbl mtb O k (n + 1) pc L [] σ = t_tr tbl mtb O k n pc L' [] σ') {L : TL} {σ : TM} {n : Nat} (hI : I 0 L σ) (hN : N < n) (he : ∀ L' σ', I N L' σ' → t_tr tbl mtb O k (n - N) pc L' [] σ' = X) : t_tr tbl mtb O k n pc L [] σ = X := by
  obtain ⟨L', σ', hI', e⟩ := loop_rel I N hs N 0 L σ (by omega) hI
  have := e (n - N)
  rw [Nat.sub_add_cancel (by omega)] at this
  rw [this]
  exact he L' σ' hI'
theorem loop_ex {O : TO} {k pc : Nat} (I : Nat → TL → TM → Prop) (R : Option TV × TM → Prop) (N : Nat) (hs : ∀ p L σ, p < N → I p L σ → (∃ L' σ', I (p + 1) L' σ' ∧ ∀ n, t_tr tbl mtb O k (n + 1) pc L [] σ = t_tr tbl mtb O k n pc L' [] σ') ∨ (∃ r, R r ∧ ∀ n, t_tr tbl mtb O k (n + 1) pc L [] σ = some (.inr r)))
    (he : ∀ L σ, I N L σ → ∃ r, R r ∧ ∀ n, t_tr tbl mtb O k (n + 1) pc L [] σ = some (.inr r)) : ∀ m p L σ n, p + m = N → I p L σ → m < n → ∃ r, R r ∧ t_tr tbl mtb O k n pc L [] σ = some (.inr r)
  | 0, p, L, σ, n, h, hI, hn => by
    have : p = N := by omega
    subst this
    obtain ⟨r, h1, h2⟩ := he L σ hI
    have := h2 (n - 1)
    rw [Nat.sub_add_cancel (by omega)] at this
    exact ⟨r, h1, this⟩
  | m + 1, p, L, σ, n, h, hI, hn => by
    rcases hs p L σ (by omega) hI with ⟨L1, σ1, hI1, e1⟩ | ⟨r, h1, h2⟩
    · obtain ⟨r, h1, h2⟩ := loop_ex I R N hs he m (p + 1) L1 σ1 (n - 1) (by omega) hI1 (by omega)
      have := e1 (n - 1)
      rw [Nat.sub_add_cancel (by omega)] at this
      exact ⟨r, h1, this.trans h2⟩
    · have := h2 (n - 1)
      rw [Nat.sub_add_cancel (by omega)] at this
      exact ⟨r, h1, this⟩
theorem loop_fin {O : TO} {k pc : Nat} {L : TL} {σ : TM} {n : Nat} {R : Option TV × TM → Prop} {r : Option TV × TM} (hr : ∀ x, R x → x = r) (h : ∃ x, R x ∧ t_tr tbl mtb O k n pc L [] σ = some (.inr x)) : t_out (t_tr tbl mtb O k n pc L [] σ) = some r := by
  obtain ⟨x, h1, h2⟩ := h
  rw [h2, hr x h1]
  rfl
theorem out_of {x : Option TRes} {r : Option TV × TM} (h : x = some (.inr r)) : t_out x = some r := by rw [h]; rfl
theorem div_pos {x y : Int} (hx : 0 ≤ x) (h2 : x ≤ 2147483647) (hy : 0 < y) : i_div x y = x / y := by
  rw [i_div_eq, Int.tdiv_eq_ediv_of_nonneg hx]
  have a : 0 ≤ x / y := Int.ediv_nonneg hx (by omega)
  have b : x / y ≤ x := Int.ediv_le_self y hx
  exact Int.bmod_eq_of_le (by omega) (by omega)
theorem rem_pos {x y : Int} (hx : 0 ≤ x) : i_rem x y = x % y := by
  rw [i_rem_eq, Int.tmod_eq_emod_of_nonneg hx]
section
variable {σ : TM} {V : TVw} {d : Nat}
theorem j_abs (x : Int) (h : -1000000 < x) (h2 : x < 1000000) : t_run tbl mtb (d + 1) 250 [vi x] σ = some (some (vi (if x < 0 then -x else x)), σ) := by
  rw [run_go (k := 250) (as := [vi x]) mt_250 (Nat.ne_of_beq_eq_false rfl) rfl (s_kJ9_abs_0 _ x σ)]
  split
  · exact leaf_i (w32_id (by omega) (by omega))
  · exact leaf_i rfl
theorem j_max (x y : Int) : t_run tbl mtb (d + 1) 251 [vi x, vi y] σ = some (some (vi (if x < y then y else x)), σ) := by
  rw [run_go (k := 251) (as := [vi x, vi y]) mt_251 (Nat.ne_of_beq_eq_false rfl) rfl (s_kJ9_max_0 _ x y σ)]
  split <;> exact leaf_i rfl
theorem j_min (x y : Int) : t_run tbl mtb (d + 1) 252 [vi x, vi y] σ = some (some (vi (if y < x then y else x)), σ) := by
  rw [run_go (k := 252) (as := [vi x, vi y]) mt_252 (Nat.ne_of_beq_eq_false rfl) rfl (s_kJ9_min_0 _ x y σ)]
  split <;> exact leaf_i rfl
theorem fwy_ok {a b : Int} (ha : 0 ≤ a) (ha2 : a < 48) (hb : 0 ≤ b) (hb2 : b < 48) : -8 < a / 6 - b / 6 ∧ a / 6 - b / 6 < 8 ∧ -6 < a % 6 - b % 6 ∧ a % 6 - b % 6 < 6 := by omega
theorem c_distance {a b : Int} (ha : 0 ≤ a) (ha2 : a < 48) (hb : 0 ≤ b) (hb2 : b < 48) : t_run tbl mtb (d + 2) 71 [vi a, vi b] σ = some (some (vi (fwy a b)), σ) := by
  have q := fwy_ok ha ha2 hb hb2
  rw [run_go (k := 71) (as := [vi a, vi b]) mt_71 (Nat.ne_of_beq_eq_false rfl) rfl (s_kX11_distance_0 _ a b σ), div_pos ha (by omega) (by decide), div_pos hb (by omega) (by decide), rem_pos ha, rem_pos hb, w32_id (by omega) (by omega), w32_id (by omega) (by omega), ci_of (j_abs _ (by omega) (by omega)), ci_of (j_abs _ (by omega) (by omega))]
  exact leaf_i (w32_id (by split <;> split <;> omega) (by split <;> split <;> omega))
theorem r_size (x : Int) (h : -1000000 < x) (h2 : x < 1000000) : t_run tbl mtb (d + 1) 143 [vi x] σ = some (some (vi (if x < 0 then -x else x)), σ) := by
  rw [run_go (k := 143) (as := [vi x]) mt_143 (Nat.ne_of_beq_eq_false rfl) rfl (s_kX12_size_0 _ x σ)]
  split
  · exact leaf_i (w32_id (by omega) (by omega))
  · exact leaf_i rfl
theorem r_wayOf {a b : Int} (ha : 0 ≤ a) (ha2 : a < 48) (hb : 0 ≤ b) (hb2 : b < 48) : t_run tbl mtb (d + 2) 144 [vi a, vi b] σ = some (some (vi (fwy a b)), σ) := by
  have q := fwy_ok ha ha2 hb hb2
  rw [run_go (k := 144) (as := [vi a, vi b]) mt_144 (Nat.ne_of_beq_eq_false rfl) rfl (s_kX12_wayOf_0 _ a b σ), div_pos ha (by omega) (by decide), div_pos hb (by omega) (by decide), rem_pos ha, rem_pos hb, w32_id (by omega) (by omega), w32_id (by omega) (by omega), ci_of (r_size _ (by omega) (by omega)), ci_of (r_size _ (by omega) (by omega))]
  exact leaf_i (w32_id (by split <;> split <;> omega) (by split <;> split <;> omega))
theorem r_gameOf (hV : RV σ V) (hI : Inv V) {p : Nat} (hp : p < nP V) : t_run tbl mtb (d + 1) 145 [vh 51 0, vi p] σ = some (some (vi (fgm V p)), σ) := by
  have h0 := hI.cnt
  obtain ⟨h1, h2, -⟩ := hI 3 p hp
  rw [run_go (k := 145) (as := [vh 51 0, vi p]) mt_145 (Nat.ne_of_beq_eq_false rfl) rfl (s_kX12_gameOf_0 _ p σ), Int.toNat_natCast, hV 65 _ rfl rfl rfl, hV 59 _ rfl rfl rfl, if_pos (by omega), if_pos (by omega)]
  exact leaf_i rfl
theorem r_pieceAt (hV : RV σ V) (hI : Inv V) (g c : Int) : t_run tbl mtb (d + 2) 148 [vh 51 0, vi g, vi c] σ = some (some (vi (fat V g c)), σ) := by
  have h0 := hI.cnt
  rw [run_go (k := 148) (as := [vh 51 0, vi g, vi c]) mt_148 (Nat.ne_of_beq_eq_false rfl) rfl (s_kX12_pieceAt_0 _ g c σ), nx_inl]
  refine loop_fin (R := fun r => r = (some (vi (fat V g c)), σ)) (fun x h => h) (loop_ex (fun p L σ' => σ' = σ ∧ L = [some (vh 51 0), some (vi g), some (vi c), some (vi (p : Int))] ∧ fat V g c = fF (fatP V g c) (nP V - p) p) _ (nP V) ?_ ?_ (nP V) 0 _ _ 999999 (by omega) ⟨rfl, rfl, rfl⟩ (by omega))
  · rintro p L s hp ⟨rfl, rfl, hf⟩
    rw [show nP V - p = nP V - (p + 1) + 1 by omega] at hf
    have hst : ∀ n, t_tr tbl mtb (t_run tbl mtb (d + 1)) 148 (n + 1) 2 [some (vh 51 0), some (vi g), some (vi c), some (vi (p : Int))] [] s = if fatP V g c p = true then some (.inr (some (vi p), s)) else t_tr tbl mtb (t_run tbl mtb (d + 1)) 148 n 2 [some (vh 51 0), some (vi g), some (vi c), some (vi ((p + 1 : Nat) : Int))] [] s := by
      intro n
      rw [tr_step (s_kX12_pieceAt_2 _ g c p s), ci_of (r_gameOf hV hI hp), Int.toNat_natCast, hV 51 23 rfl rfl rfl, hV 69 _ rfl rfl rfl, hV 66 _ rfl rfl rfl, w32_nat (by omega)]
      simp only [fatP, decide_eq_true_eq]
      (repeat' split) <;> first | rfl | (exfalso; omega)
    cases hP : fatP V g c p with
    | true =>
      rw [fF, if_pos hP] at hf
      exact .inr ⟨_, by rw [hf], fun n => by rw [hst, if_pos hP]⟩
    | false =>
      rw [fF, if_neg (by rw [hP]; decide)] at hf
      exact .inl ⟨_, _, ⟨rfl, rfl, hf⟩, fun n => by rw [hst, if_neg (by rw [hP]; decide)]⟩
  · rintro L s ⟨rfl, rfl, hf⟩
    rw [Nat.sub_self] at hf
    exact ⟨_, by rw [hf], fun n => by rw [tr_step (s_kX12_pieceAt_2 _ g c (nP V) s), hV 51 23 rfl rfl rfl, if_neg (by omega)]; rfl⟩
theorem fst_r (V : TVw) (h : Int) : ∀ n : Nat, 0 ≤ fS (fst1 V h) n ∧ fS (fst1 V h) n ≤ n
  | 0 => ⟨Int.le_refl _, Int.le_refl _⟩
  | n + 1 => by
    have := fst_r V h n
    rw [fS]
    unfold fst1 at this ⊢
    split <;> omega
theorem c_piecesOf (h : CR σ V) (g : Int) : t_run tbl mtb (d + 1) 73 [vh 0 0, vi g] σ = some (some (vi (fst V g)), σ) := by
  have h0 := h.cnt
  have hn := h.np
  rw [run_go (k := 73) (as := [vh 0 0, vi g]) mt_73 (Nat.ne_of_beq_eq_false rfl) rfl (s_kX11_piecesOf_0 _ g σ), nx_inl]
  refine out_of (loop_all (fun p L σ' => σ' = σ ∧ L = [some (vh 0 0), some (vi g), some (vi (fS (fst1 V g) p)), some (vi (p : Int))]) (nP V) ?_ ⟨rfl, rfl⟩ (by omega) ?_)
  · rintro p L s hp ⟨rfl, rfl⟩
    refine ⟨_, _, ⟨rfl, rfl⟩, fun n => ?_⟩
    obtain ⟨-, h1, -, -, -, -, h6⟩ := h 5 p hp
    have r := fst_r V g p
    rw [tr_step (s_kX11_piecesOf_4 _ g (fS (fst1 V g) p) p s), Int.toNat_natCast, h1, h6, w32_nat (by omega), w32_id (x := fS (fst1 V g) p + 1) (by omega) (by omega), fS]
    have e : fst1 V g p = if V 65 p = g ∧ V 69 p = 0 then 1 else 0 := rfl
    (repeat' split) <;> first | (exfalso; omega) | (rw [e, if_pos (by omega)]; rfl) | (rw [e, if_neg (by omega), Int.add_zero]; rfl)
  · rintro L s ⟨rfl, rfl⟩
    rw [show 999999 - nP V = 999998 - nP V + 1 by omega, tr_step (s_kX11_piecesOf_4 _ g _ (nP V) s), if_neg (by omega)]
    rfl
theorem r_standing (hV : RV σ V) (hI : Inv V) (g : Int) : t_run tbl mtb (d + 1) 155 [vh 51 0, vi g] σ = some (some (vi (fst V g)), σ) := by
  have h0 := hI.cnt
  rw [run_go (k := 155) (as := [vh 51 0, vi g]) mt_155 (Nat.ne_of_beq_eq_false rfl) rfl (s_kX12_standing_0 _ g σ), nx_inl]
  refine out_of (loop_all (fun p L σ' => σ' = σ ∧ L = [some (vh 51 0), some (vi g), some (vi (fS (fst1 V g) p)), some (vi (p : Int))]) (nP V) ?_ ⟨rfl, rfl⟩ (by omega) ?_)
  · rintro p L s hp ⟨rfl, rfl⟩
    refine ⟨_, _, ⟨rfl, rfl⟩, fun n => ?_⟩
    have r := fst_r V g p
    rw [tr_step (s_kX12_standing_4 _ g (fS (fst1 V g) p) p s), Int.toNat_natCast, hV 65 _ rfl rfl rfl, hV 69 _ rfl rfl rfl, hV 51 23 rfl rfl rfl, w32_nat (by omega), w32_id (x := fS (fst1 V g) p + 1) (by omega) (by omega), w32_id (x := fS (fst1 V g) p + 0) (by omega) (by omega), fS]
    have e : fst1 V g p = if V 65 p = g ∧ V 69 p = 0 then 1 else 0 := rfl
    (repeat' split) <;> first | (exfalso; omega) | (rw [e, if_pos (by omega)]; rfl) | (rw [e, if_neg (by omega)]; rfl)
  · rintro L s ⟨rfl, rfl⟩
    rw [show 999999 - nP V = 999998 - nP V + 1 by omega, tr_step (s_kX12_standing_4 _ g _ (nP V) s), hV 51 23 rfl rfl rfl, if_neg (by omega)]
    rfl
theorem r_isTurn (g : Int) : t_run tbl mtb (d + 2) 173 [vi g] σ = some (some (vi (bi (decide (0 ≤ g ∧ g < 30)))), σ) := by
  rw [run_go (k := 173) (as := [vi g]) mt_173 (Nat.ne_of_beq_eq_false rfl) rfl (s_kX12_isTurn_0 _ g σ), ci_of (r_within ..), if_pos (bi_r _), show decide (0 ≤ g ∧ g ≤ 29) = decide (0 ≤ g ∧ g < 30) from decide_eq_decide.mpr (by omega)]
  exact leaf_i rfl
theorem r_isShelf (g : Int) : t_run tbl mtb (d + 2) 237 [vi g] σ = some (some (vi (bi (decide (0 ≤ g ∧ g < 6)))), σ) := by
  rw [run_go (k := 237) (as := [vi g]) mt_237 (Nat.ne_of_beq_eq_false rfl) rfl (s_kX12_isShelf_0 _ g σ), ci_of (r_within ..), if_pos (bi_r _), show decide (0 ≤ g ∧ g ≤ 5) = decide (0 ≤ g ∧ g < 6) from decide_eq_decide.mpr (by omega)]
  exact leaf_i rfl
theorem c_isRuled (h : CR σ V) {x : Int} (hx : x ≤ 2147483647) : t_run tbl mtb (d + 2) 79 [vh 0 0, vi x] σ = some (some (vi (bi (decide (0 ≤ x ∧ x / 10 < V 51 8 ∧ x % 10 < 5)))), σ) := by
  rw [run_go (k := 79) (as := [vh 0 0, vi x]) mt_79 (Nat.ne_of_beq_eq_false rfl) rfl (s_kX11_isRuled_0 _ x σ)]
  split
  · exact leaf_b (by omega)
  · rw [div_pos (by omega) hx (by decide), rem_pos (by omega), ci_of (c_isGame h _)]
    simp only [bi_0, decide_eq_false_iff_not]
    (repeat' split) <;> exact leaf_b (by omega)
theorem r_isWhat (hV : RV σ V) {x : Int} (hx : x ≤ 2147483647) : t_run tbl mtb (d + 2) 172 [vh 51 0, vi x] σ = some (some (vi (bi (decide (0 ≤ x ∧ x / 10 < V 51 8 ∧ x % 10 < 5)))), σ) := by
  rw [run_go (k := 172) (as := [vh 51 0, vi x]) mt_172 (Nat.ne_of_beq_eq_false rfl) rfl (s_kX12_isWhat_0 _ x σ)]
  split
  · exact leaf_b (by omega)
  · rw [div_pos (by omega) hx (by decide), rem_pos (by omega), ci_of (r_isGame hV _)]
    simp only [bi_0, decide_eq_false_iff_not]
    (repeat' split) <;> exact leaf_b (by omega)
theorem c_drawnFor (h : CR σ V) {p : Nat} (hp : p < nP V) (t : Int) : t_run tbl mtb (d + 1) 81 [vh 0 0, vi p, vi t] σ = some (some (vi (fdr V p t)), σ) := by
  have h0 := h.cnt
  obtain ⟨h1, -⟩ := h 5 p hp
  obtain ⟨i1, i2, -⟩ := h.inv 3 p hp
  obtain ⟨g1, g2, -⟩ := h.inv 2 (V 65 p).toNat (by omega)
  have e : fgm V p = V 59 (V 65 p).toNat := rfl
  obtain ⟨-, -, k1, -⟩ := h 1 (fgm V p).toNat (by omega)
  rw [run_go (k := 81) (as := [vh 0 0, vi p, vi t]) mt_81 (Nat.ne_of_beq_eq_false rfl) rfl (s_kX11_drawnFor_0 _ p t σ), Int.toNat_natCast, h1, (k1 (by omega)).1, if_pos (by omega), if_pos (by omega)]
  exact leaf_i rfl
theorem r_drawnFor (hV : RV σ V) (hI : Inv V) {p : Nat} (hp : p < nP V) (t : Int) : t_run tbl mtb (d + 2) 184 [vh 51 0, vi p, vi t] σ = some (some (vi (fdr V p t)), σ) := by
  have h0 := hI.cnt
  obtain ⟨i1, i2, -⟩ := hI 3 p hp
  obtain ⟨g1, g2, -⟩ := hI 2 (V 65 p).toNat (by omega)
  have e : fgm V p = V 59 (V 65 p).toNat := rfl
  rw [run_go (k := 184) (as := [vh 51 0, vi p, vi t]) mt_184 (Nat.ne_of_beq_eq_false rfl) rfl (s_kX12_drawnFor_0 _ p t σ), ci_of (r_gameOf hV hI hp), hV 52 _ rfl rfl rfl, if_pos (by omega)]
  exact leaf_i rfl
def fpl (V : TVw) (h : Nat) (t : Int) : Bool := decide (V 62 h < 0 ∨ t < V 62 h)
theorem c_playsIn (h : CR σ V) {x : Nat} (hx : x < nH V) (t : Int) : t_run tbl mtb (d + 1) 110 [vh 0 0, vi x, vi t] σ = some (some (vi (bi (fpl V x t))), σ) := by
  have h0 := h.cnt
  obtain ⟨-, k1, -⟩ := h 3 x (by omega)
  obtain ⟨i1, i2, i3, i4, -⟩ := h.inv 2 x (by omega)
  rw [run_go (k := 110) (as := [vh 0 0, vi x, vi t]) mt_110 (Nat.ne_of_beq_eq_false rfl) rfl (s_kX11_playsIn_0 _ x t σ), Int.toNat_natCast, (k1 hx).2.2.1, if_pos (by omega)]
  unfold fpl
  (repeat' split) <;> exact leaf_b (by omega)
theorem c_due0 {g : Nat} {b : Int} (hb : σ 38 g 1 = b) (i0 : 0 ≤ b) (i1 : b ≤ 999) {t : Int} (ht : 0 ≤ t) (ht2 : t ≤ 30) : t_run tbl mtb (d + 1) 9 [vh 38 g, vi t] σ = some (some (vi (b + 7 * (t + 1))), σ) := by
  rw [run_go (k := 9) (as := [vh 38 g, vi t]) mt_9 (Nat.ne_of_beq_eq_false rfl) rfl (s_kX2_due_0 _ g t σ), hb, w32_id (x := t + 1) (by omega) (by omega), w32_id (x := 7 * (t + 1)) (by omega) (by omega), w32_id (by omega) (by omega)]
  exact leaf_i rfl
theorem c_due (h : CR σ V) {g : Nat} (hg : g < nG V) {t : Int} (ht : 0 ≤ t) (ht2 : t ≤ 30) : t_run tbl mtb (d + 1) 9 [vh 38 g, vi t] σ = some (some (vi (V 53 g + 7 * (t + 1))), σ) := by
  have h0 := h.cnt
  obtain ⟨-, -, k1, -⟩ := h 1 g (by omega)
  obtain ⟨-, -, -, i1⟩ := h.inv 1 g (by omega)
  have i1 := i1 hg
  exact c_due0 (k1 hg).2.1 i1.1 i1.2.1 ht ht2
theorem r_dueOn (hV : RV σ V) (hI : Inv V) {g : Nat} (hg : g < nG V) {t : Int} (ht : 0 ≤ t) (ht2 : t ≤ 30) : t_run tbl mtb (d + 1) 158 [vh 51 0, vi g, vi t] σ = some (some (vi (V 53 g + 7 * (t + 1))), σ) := by
  have h0 := hI.cnt
  obtain ⟨-, -, -, i1⟩ := hI 1 g (by omega)
  have i1 := i1 hg
  rw [run_go (k := 158) (as := [vh 51 0, vi g, vi t]) mt_158 (Nat.ne_of_beq_eq_false rfl) rfl (s_kX12_dueOn_0 _ g t σ), Int.toNat_natCast, hV 53 _ rfl rfl rfl, w32_id (x := t + 1) (by omega) (by omega), w32_id (x := 7 * (t + 1)) (by omega) (by omega), w32_id (by omega) (by omega), if_pos (by omega)]
  exact leaf_i rfl
theorem c_late (h : CR σ V) {c : Nat} (hc : c < nC V) : t_run tbl mtb (d + 1) 8 [vh 44 c] σ = some (some (vi (bi (flt V c))), σ) := by
  obtain ⟨-, -, -, -, k4, k5⟩ := h 10 c hc
  have i := h.inv 10 c hc
  rw [run_go (k := 8) (as := [vh 44 c]) mt_8 (Nat.ne_of_beq_eq_false rfl) rfl (s_kX1_late_0 _ c σ), k4, k5]
  unfold flt
  (repeat' split) <;> exact leaf_b (by omega)
theorem r_isLate (hV : RV σ V) (hI : Inv V) {c : Nat} (hc : c < nC V) : t_run tbl mtb (d + 1) 188 [vh 51 0, vi c] σ = some (some (vi (bi (flt V c))), σ) := by
  have h0 := hI.cnt
  have r1 : 0 ≤ (c : Int) ∧ (c : Int) < 150 := by omega
  rw [run_go (k := 188) (as := [vh 51 0, vi c]) mt_188 (Nat.ne_of_beq_eq_false rfl) rfl (s_kX12_isLate_0 _ c σ), Int.toNat_natCast, hV 85 _ rfl rfl rfl, hV 86 _ rfl rfl rfl]
  simp only [if_pos r1]
  unfold flt
  (repeat' split) <;> exact leaf_b (by omega)
end
