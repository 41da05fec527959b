-- orders: which count, which hold
theorem loop_exs {O : TO} {k pc s : Nat} (I : Nat → TL → TM → Prop) (R : Option TV × TM → Prop) (N : Nat) (hs : ∀ p L σ, p < N → I p L σ → (∃ L' σ', I (p + 1) L' σ' ∧ ∀ n, t_tr tbl mtb O k (n + 1) pc L [] σ = t_tr tbl mtb O k n pc L' [] σ') ∨ (∃ r, R r ∧ ∀ n, t_tr tbl mtb O k (n + s) pc L [] σ = some (.inr r)))
    (he : ∀ L σ, I N L σ → ∃ r, R r ∧ ∀ n, t_tr tbl mtb O k (n + s) pc L [] σ = some (.inr r)) : ∀ m p L σ n, p + m = N → I p L σ → m + s ≤ n → ∃ r, R r ∧ t_tr tbl mtb O k n pc L [] σ = some (.inr r)
  | 0, p, L, σ, n, h, hI, hn => by
    have : p = N := by omega
    subst this
    obtain ⟨r, h1, h2⟩ := he L σ hI
    have := h2 (n - s)
    rw [Nat.sub_add_cancel (by omega)] at this
    exact ⟨r, h1, this⟩
  | m + 1, p, L, σ, n, h, hI, hn => by
    rcases hs p L σ (by omega) hI with ⟨L1, σ1, hI1, e1⟩ | ⟨r, h1, h2⟩
    · obtain ⟨r, h1, h2⟩ := loop_exs I R N hs he m (p + 1) L1 σ1 (n - 1) (by omega) hI1 (by omega)
      have := e1 (n - 1)
      rw [Nat.sub_add_cancel (by omega)] at this
      exact ⟨r, h1, this.trans h2⟩
    · have := h2 (n - s)
      rw [Nat.sub_add_cancel (by omega)] at this
      exact ⟨r, h1, this⟩
theorem fru_day {V : TVw} (hI : Inv V) (w t k : Int) : fru V w t (if k < V 51 0 then k else V 51 0) = fru V w t k := by
  unfold fru
  refine fL_congr (fun i hi => ?_)
  obtain ⟨-, -, -, -, h, -⟩ := hI 9 i hi
  unfold fruP
  refine decide_eq_decide.mpr ?_
  split <;> omega
theorem fgv_day {V : TVw} (hI : Inv V) (w t k : Int) (N : Nat → Int) (wo : Int) : fgv V w t (if k < V 51 0 then k else V 51 0) N wo = fgv V w t k N wo := by
  unfold fgv
  rw [fru_day hI]
def fot (V : TVw) (o : Nat) (t : Int) : Bool :=
  decide (((V 87 o = 3 ∨ V 87 o = 5) ∧ V 85 (V 88 o).toNat ≤ t ∧ t ≤ V 92 o ∨ ¬(V 87 o = 3 ∨ V 87 o = 5) ∧ V 85 (V 88 o).toNat = t)
    ∧ (V 62 (V 82 (V 88 o).toNat).toNat < 0 ∨ t < V 62 (V 82 (V 88 o).toNat).toNat ∨ (V 81 (V 88 o).toNat ≠ V 82 (V 88 o).toNat ∨ V 87 o = 3 ∧ V 85 (V 88 o).toNat < V 62 (V 82 (V 88 o).toNat).toNat)))
theorem ite_iff {C A B : Prop} [Decidable C] : (if C then A else B) ↔ (C ∧ A ∨ ¬C ∧ B) := by
  split
  · next h => exact ⟨fun a => .inl ⟨h, a⟩, fun q => q.elim (fun q => q.2) (fun q => absurd h q.1)⟩
  · next h => exact ⟨fun a => .inr ⟨h, a⟩, fun q => q.elim (fun q => absurd q.1 h) (fun q => q.2)⟩
theorem ite_or {C A : Prop} [Decidable C] : (if C then A else True) ↔ (¬C ∨ A) := by
  split
  · next h => exact ⟨fun a => .inr a, fun q => q.elim (fun q => absurd h q) id⟩
  · next h => exact ⟨fun a => .inl h, fun _ => trivial⟩
theorem ffo_ok (V : TVw) (o : Nat) (t : Int) : ffo V o t = (decide (V 87 o ≠ 6) && fct V (V 88 o).toNat && fot V o t) := by
  unfold ffo fot
  rw [Bool.eq_iff_iff]
  simp only [Bool.and_eq_true, decide_eq_true_eq]
  rw [ite_iff, ite_or]
  constructor
  · rintro ⟨h1, h2, h3⟩
    exact ⟨⟨h1, h2⟩, h3⟩
  · rintro ⟨⟨h1, h2⟩, h3⟩
    exact ⟨h1, h2, h3⟩
section
variable {σ : TM} {V : TVw} {d : Nat}
theorem r_counts (hV : RV σ V) (hI : Inv V) {c : Nat} (hc : c < nC V) : ∃ σ', Sc s2 σ σ' ∧ t_run tbl mtb (d + 67) 189 [vh 51 0, vi c] σ = some (some (vi (bi (fct V c))), σ') := by
  have h0 := hI.cnt
  obtain ⟨i1, i2, i3, i4, i5, i6, i7, i8, i9, i10, i11, i12, -⟩ := hI 10 c hc
  obtain ⟨g1, g2, -⟩ := hI 2 (V 82 c).toNat (by omega)
  have r1 : 0 ≤ (c : Int) ∧ (c : Int) < 150 := by omega
  rw [run_go (k := 189) (as := [vh 51 0, vi c]) mt_189 (Nat.ne_of_beq_eq_false rfl) rfl (s_kX12_counts_0 _ c σ), ci_of (r_isLate hV hI hc), bi_0']
  simp only [Int.toNat_natCast, if_pos r1, show ∀ j, σ 85 0 j = V 85 j from fun j => hV 85 j rfl rfl rfl, show ∀ j, σ 86 0 j = V 86 j from fun j => hV 86 j rfl rfl rfl, show ∀ j, σ 82 0 j = V 82 j from fun j => hV 82 j rfl rfl rfl, show ∀ j, σ 84 0 j = V 84 j from fun j => hV 84 j rfl rfl rfl]
  by_cases a : V 85 c < 0
  · rw [if_pos a]
    refine ⟨σ, Sc.rf, ?_⟩
    have : fct V c = false := by
      unfold fct
      simp only [decide_eq_false_iff_not]
      omega
    rw [this]
    rfl
  rw [if_neg a]
  by_cases b : V 85 c = V 86 c
  · have : flt V c = false := by
      unfold flt
      simp only [decide_eq_false_iff_not]
      omega
    rw [if_pos this]
    refine ⟨σ, Sc.rf, ?_⟩
    have : fct V c = true := by
      unfold fct
      simp only [decide_eq_true_eq]
      exact ⟨by omega, .inl b⟩
    rw [this]
    rfl
  have hl : ¬ flt V c = false := by
    unfold flt
    simp only [decide_eq_false_iff_not]
    omega
  obtain ⟨σ1, a1, a2, a3⟩ := r_noNames (σ := σ) (d := d + 65) (V 86 c)
  have hS2 : Sc s2 σ (t_upd σ1 94 0 3 (V 82 c)) := a1.up rfl
  have v1 := hV.sc a1.s2
  have v2 := hV.sc hS2.s2
  have hN : ∀ k, k < 11 → t_upd σ1 94 0 3 (V 82 c) 94 0 k = fNh (V 86 c) (V 82 c) 0 0 k := by
    intro k hk
    have a2 := a2 k hk
    rcases (by omega : k = 0 ∨ k = 1 ∨ k = 2 ∨ k = 3 ∨ k = 4 ∨ k = 5 ∨ k = 6 ∨ k = 7 ∨ k = 8 ∨ k = 9 ∨ k = 10) with rfl | rfl | rfl | rfl | rfl | rfl | rfl | rfl | rfl | rfl | rfl <;> first | (rw [up_same]; rfl) | (rw [up_j (by decide), a2]; rfl)
  have e : fct V c = decide (fgv V (10 * V 59 (V 82 c).toNat + 3) (V 86 c) (V 84 c) (fNh (V 86 c) (V 82 c) 0 0) 1 ≠ 0) := by
    unfold fct
    refine decide_eq_decide.mpr ⟨fun q => ?_, fun q => ⟨by omega, .inr q⟩⟩
    rcases q.2 with q | q
    · exact absurd q b
    · exact q
  obtain ⟨σ2, b1, b2⟩ := r_gives (d := d) (u := 3) (t := V 86 c) (k := if V 84 c < V 51 0 then V 84 c else V 51 0) (wo := 1) v2 hI g1 (by omega) (by decide) (by decide) hN
  rw [fgv_day hI] at b2
  have q82 : σ1 82 0 c = V 82 c := v1 82 _ rfl rfl rfl
  rw [if_neg hl, cv_of a3]
  simp only [q82, v2 82 _ rfl rfl rfl, v2 84 _ rfl rfl rfl, v2 86 _ rfl rfl rfl, v2 59 _ rfl rfl rfl, v2 51 0 rfl rfl rfl]
  rw [if_pos (by omega), e]
  refine ⟨σ2, hS2.tr b1, ?_⟩
  split
  · next hd =>
    rw [if_pos hd] at b2
    rw [ci_of b2]
    split <;> exact leaf_b (by omega)
  · next hd =>
    rw [if_neg hd] at b2
    rw [ci_of b2]
    split <;> exact leaf_b (by omega)
theorem c_isOfTurn (h : CR σ V) {o : Nat} (ho : o < nO V) {c : Nat} (hc : c = (V 88 o).toNat) (t : Int) : t_run tbl mtb (d + 1) 102 [vh 0 0, vh 45 o, vh 44 c, vi t] σ = some (some (vi (bi (fot V o t))), σ) := by
  subst hc
  have h0 := h.cnt
  obtain ⟨j1, j2, j3, j4, j5, j6⟩ := h.inv 11 o ho
  obtain ⟨m1, m2, m3, m4, m5⟩ := h.inv 12 o ho
  obtain ⟨e, -⟩ := h 11 o (by omega)
  obtain ⟨e0, e1, e2, e3, e4, e5, e6⟩ := e ho
  obtain ⟨k0, k1, k2, k3, k4, k5⟩ := h 10 (V 88 o).toNat (by omega)
  obtain ⟨i1, i2, i3, i4, i5, i6, i7, i8, i9, i10, i11, i12, i13⟩ := h.inv 10 (V 88 o).toNat (by omega)
  obtain ⟨g1, g2, g3, -⟩ := h.inv 2 (V 82 (V 88 o).toNat).toNat (by omega)
  obtain ⟨-, hh, -⟩ := h 3 (V 82 (V 88 o).toNat).toNat (by omega)
  have hh := (hh (by omega)).2.2.1
  have r1 : 0 ≤ V 82 (V 88 o).toNat ∧ V 82 (V 88 o).toNat < 12 := by omega
  rw [run_go (k := 102) (as := [vh 0 0, vh 45 o, vh 44 (V 88 o).toNat, vi t]) mt_102 (Nat.ne_of_beq_eq_false rfl) rfl (s_kX11_isOfTurn_0 _ o (V 88 o).toNat t σ)]
  simp only [e1, e5, k0, k1, k5, hh, if_pos r1]
  unfold fot
  by_cases s3 : V 87 o = 3
  · rw [if_pos s3]
    (repeat' split) <;> first | exact leaf_b (by omega) | (exfalso; omega)
  · rw [if_neg s3]
    by_cases s5 : V 87 o = 5
    · rw [if_pos s5]
      (repeat' split) <;> first | exact leaf_b (by omega) | (exfalso; omega)
    · rw [if_neg s5]
      (repeat' split) <;> first | exact leaf_b (by omega) | (exfalso; omega)
theorem c_fits (h : CR σ V) {o : Nat} (ho : o < nO V) (t : Int) : ∃ σ', Sc s1 σ σ' ∧ t_run tbl mtb (d + 4) 103 [vh 0 0, vh 45 o, vi t] σ = some (some (vi (bi (fok V o t))), σ') := by
  have h0 := h.cnt
  obtain ⟨j1, j2, j3, j4, j5, j6⟩ := h.inv 11 o ho
  obtain ⟨e, -⟩ := h 11 o (by omega)
  obtain ⟨e0, e1, e2, e3, e4, e5, e6⟩ := e ho
  rw [run_go (k := 103) (as := [vh 0 0, vh 45 o, vi t]) mt_103 (Nat.ne_of_beq_eq_false rfl) rfl (s_kX11_fits_0 _ o t σ), ci_of (c_isPiece h _), e2]
  simp only [bi_0, decide_eq_false_iff_not]
  by_cases w6 : V 87 o = 6
  · have := j5 w6
    rw [if_pos (by omega)]
    refine ⟨σ, Sc.rf, ?_⟩
    have : fok V o t = false := by
      unfold fok ffo
      simp [w6]
    rw [this]
    rfl
  obtain ⟨p1, p2, p3, p4, p5, p6, p7⟩ := j6 w6
  have hp : (V 89 o).toNat < nP V := by omega
  obtain ⟨-, -, -, -, -, -, x6⟩ := h 5 (V 89 o).toNat hp
  rw [if_neg (by omega), if_pos (by omega), x6]
  by_cases hgone : V 69 (V 89 o).toNat ≠ 0
  · rw [if_neg hgone]
    refine ⟨σ, Sc.rf, ?_⟩
    have : fok V o t = false := by
      unfold fok
      simp [hgone]
    rw [this]
    rfl
  have hgone : V 69 (V 89 o).toNat = 0 := by omega
  rw [if_pos hgone, e0, ci_of (c_isCard h _)]
  simp only [bi_0, decide_eq_false_iff_not]
  have hft := c_isOfTurn (d := d + 2) h ho rfl t
  rw [if_neg (by omega), e0, if_pos (by omega), ci_of hft]
  simp only [bi_0]
  cases hot : fot V o t with
  | false =>
    rw [if_pos rfl]
    refine ⟨σ, Sc.rf, ?_⟩
    have : fok V o t = false := by
      unfold fok
      rw [ffo_ok, hot]
      simp
    rw [this]
    rfl
  | true =>
    obtain ⟨σ1, a1, a2⟩ := c_cardCounts (d := d) h (c := (V 88 o).toNat) (by omega)
    have h1 := h.sc a1.s1
    rw [if_neg (by decide), ci_of a2]
    simp only [bi_0]
    cases hct : fct V (V 88 o).toNat with
    | false =>
      rw [if_pos rfl]
      refine ⟨σ1, a1, ?_⟩
      have : fok V o t = false := by
        unfold fok
        rw [ffo_ok, hct]
        simp
      rw [this]
      rfl
    | true =>
      have hcb := c_canBe (d := d) h1 hp (w := V 90 o) (t := V 91 o) p6 (fun q => ⟨(p7 q).1, (p7 q).2.1⟩)
      rw [Int.toNat_of_nonneg p1] at hcb
      obtain ⟨e, -⟩ := h1 11 o (by omega)
      obtain ⟨f0, f1, f2, f3, f4, f5, f6⟩ := e ho
      rw [if_neg (by decide), f2, f3, f4, ci_of hcb]
      simp only [bi_0]
      cases hcbv : fcb V (V 89 o).toNat (V 90 o) (V 91 o) with
      | false =>
        rw [if_pos rfl]
        refine ⟨σ1, a1, ?_⟩
        have : fok V o t = false := by
          unfold fok
          simp [hcbv]
        rw [this]
        rfl
      | true =>
        obtain ⟨σ2, b1, b2⟩ := c_mayBe (d := d) h1 hp (w := V 90 o) (a := V 91 o) (t := t) p6
        rw [Int.toNat_of_nonneg p1] at b2
        rw [if_neg (by decide), f2, f3, f4, ci_of b2]
        simp only [bi_0]
        refine ⟨σ2, a1.tr b1, ?_⟩
        have : fok V o t = fmy V (V 89 o).toNat (V 90 o) (V 91 o) t := by
          unfold fok
          rw [ffo_ok, hot, hct, hcbv]
          simp [w6, hgone]
        rw [this]
        cases fmy V (V 89 o).toNat (V 90 o) (V 91 o) t <;> rfl
theorem r_isFor (hV : RV σ V) (hI : Inv V) {o : Nat} (ho : o < nO V) (t : Int) : ∃ σ', Sc s2 σ σ' ∧ t_run tbl mtb (d + 68) 201 [vh 51 0, vi o, vi t] σ = some (some (vi (bi (ffo V o t))), σ') := by
  have h0 := hI.cnt
  obtain ⟨j1, j2, j3, j4, j5, j6⟩ := hI 11 o ho
  obtain ⟨m1, m2, m3, m4, m5⟩ := hI 12 o ho
  obtain ⟨i1, i2, i3, i4, i5, i6, i7, i8, i9, i10, i11, i12, i13⟩ := hI 10 (V 88 o).toNat (by omega)
  obtain ⟨g1, g2, g3, -⟩ := hI 2 (V 82 (V 88 o).toNat).toNat (by omega)
  have r1 : 0 ≤ (o : Int) ∧ (o : Int) < 300 := by omega
  have r2 : 0 ≤ V 88 o ∧ V 88 o < 150 := by omega
  have r3 : 0 ≤ V 82 (V 88 o).toNat ∧ V 82 (V 88 o).toNat < 12 := by omega
  rw [run_go (k := 201) (as := [vh 51 0, vi o, vi t]) mt_201 (Nat.ne_of_beq_eq_false rfl) rfl (s_kX12_isFor_0 _ o t σ)]
  simp only [Int.toNat_natCast, if_pos r1, show ∀ j, σ 87 0 j = V 87 j from fun j => hV 87 j rfl rfl rfl, show ∀ j, σ 88 0 j = V 88 j from fun j => hV 88 j rfl rfl rfl, show ∀ j, σ 85 0 j = V 85 j from fun j => hV 85 j rfl rfl rfl]
  simp only [if_pos r2]
  by_cases w6 : V 87 o = 6
  · have n3 : ¬ V 87 o = 3 := by omega
    have n5 : ¬ V 87 o = 5 := by omega
    rw [if_neg n3, if_neg n5, if_pos w6]
    refine ⟨σ, Sc.rf, ?_⟩
    have : ffo V o t = false := by
      unfold ffo
      simp [w6]
    rw [this]
    rfl
  simp only [if_neg w6]
  by_cases ct : V 85 (V 88 o).toNat < 0
  · simp only [if_pos ct, ite_self]
    refine ⟨σ, Sc.rf, ?_⟩
    have : fct V (V 88 o).toNat = false := by
      unfold fct
      simp only [decide_eq_false_iff_not]
      omega
    have : ffo V o t = false := by
      rw [ffo_ok, this]
      simp
    rw [this]
    rfl
  simp only [if_neg ct]
  obtain ⟨σ1, a1, a2⟩ := r_counts (d := d) hV hI (c := (V 88 o).toNat) (by omega)
  rw [Int.toNat_of_nonneg j1] at a2
  have v1 := hV.sc a1.s2
  simp only [a2, ci_ok, bi_0, show ∀ j, σ1 87 0 j = V 87 j from fun j => v1 87 j rfl rfl rfl, show ∀ j, σ1 92 0 j = V 92 j from fun j => v1 92 j rfl rfl rfl, show ∀ j, σ1 85 0 j = V 85 j from fun j => v1 85 j rfl rfl rfl, show ∀ j, σ1 82 0 j = V 82 j from fun j => v1 82 j rfl rfl rfl, show ∀ j, σ1 62 0 j = V 62 j from fun j => v1 62 j rfl rfl rfl, show ∀ j, σ1 81 0 j = V 81 j from fun j => v1 81 j rfl rfl rfl, show ∀ j, σ1 63 0 j = V 63 j from fun j => v1 63 j rfl rfl rfl ]
  simp only [if_pos r3]
  refine ⟨σ1, a1, ?_⟩
  rw [ffo_ok, show decide (V 87 o ≠ 6) = true from decide_eq_true w6, Bool.true_and]
  cases hct : fct V (V 88 o).toNat with
  | false =>
    simp only [if_true, ite_self]
    rfl
  | true =>
    rw [Bool.true_and]
    have nf : ¬ true = false := by decide
    simp only [if_neg nf]
    unfold fot
    by_cases s3 : V 87 o = 3
    · rw [if_pos s3]
      (repeat' split) <;> first | exact leaf_b (by omega) | (exfalso; omega)
    · rw [if_neg s3]
      by_cases s5 : V 87 o = 5
      · rw [if_pos s5]
        (repeat' split) <;> first | exact leaf_b (by omega) | (exfalso; omega)
      · rw [if_neg s5]
        (repeat' split) <;> first | exact leaf_b (by omega) | (exfalso; omega)
end
