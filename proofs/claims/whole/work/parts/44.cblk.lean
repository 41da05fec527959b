-- the class's Moves: failBlocked(), workOut(), numberAfter()
section
variable {σ : TM} {V : TVw} {g : Int} {A T I : Nat → Int} {d : Nat}
set_option maxHeartbeats 4000000 in
theorem c_failBlocked (hI : Inv V) (hA : mVA V g A T) (h : MR σ V g A T I) {F : Nat → Int} (h11 : ∀ p, p < nP V → mIn V g p = true → σ 11 0 p = mSt V g A T p ∧ σ 12 0 p = F p) : ∃ σ' c, Sc sw σ σ' ∧ (∀ p, p < nP V → mIn V g p = true → σ' 11 0 p = mSt V g A T p ∧ σ' 12 0 p = mPk V g A T F (nP V) p) ∧ (∀ c, σ' 15 0 c = σ 15 0 c) ∧ (∀ p, p < nP V → mIn V g p = false → σ' 7 0 p = σ 7 0 p ∧ σ' 12 0 p = σ 12 0 p) ∧ (c = 0 ∧ (∀ x, x < nP V → mPk V g A T F (nP V) x = F x) ∨ c = 1 ∧ ∃ x, x < nP V ∧ mPk V g A T F (nP V) x ≠ F x) ∧ t_run tbl mtb (d + 3) 20 [vh 3 0] σ = some (some (vi c), σ') := by
  have h0 := hI.cnt
  have hM := mlist_le (mIn V g) (nP V)
  rw [run_go (k := 20) (as := [vh 3 0]) mt_20 (Nat.ne_of_beq_eq_false rfl) rfl (s_kX4_failBlocked_0 _ σ), nx_inl]
  obtain ⟨c, s2, ⟨c1, c2, c3, c4, c5⟩, e2⟩ := loop_mem (O := t_run tbl mtb (d + 2)) (kk := 20) (pc := 4) (n := nP V) (mIn V g) (fun m (c : Int) => [some (vh 3 0), some (vi c), some (vi (m : Int)), none, none, none]) (fun k c s => Sc sw σ s ∧ (∀ p, p < nP V → mIn V g p = true → s 11 0 p = mSt V g A T p ∧ s 12 0 p = mPk V g A T F k p) ∧ (∀ c, s 15 0 c = σ 15 0 c) ∧ (∀ p, p < nP V → mIn V g p = false → s 7 0 p = σ 7 0 p ∧ s 12 0 p = σ 12 0 p) ∧ (c = 0 ∧ (∀ x, x < nP V → mPk V g A T F k x = F x) ∨ c = 1 ∧ ∃ x, x < nP V ∧ mPk V g A T F k x ≠ F x)) (by
    rintro k c s hk hP ⟨b1, b2, b3, b4, b5⟩
    have e : mPk V g A T F (k + 1) = mPk V g A T F k := by
      funext x
      have e : mPk V g A T F (k + 1) x = if x = k ∧ mMv V g A k = true ∧ mPk V g A T F k k = 0 ∧ mBl V g A T (mPk V g A T F k) k = true then 3 else mPk V g A T F k x := rfl
      rw [e, if_neg]
      rintro ⟨-, q, -⟩
      rw [(mMv_iff.mp q).1] at hP; cases hP
    rw [e]
    exact ⟨b1, b2, b3, b4, b5⟩) (by
    rintro k m c s hk hP hmm hml ⟨b1, b2, b3, b4, b5⟩
    have hR := h.sc b1
    have r5 : 0 ≤ (k : Int) ∧ (k : Int) < 40 := by omega
    obtain ⟨g1, g2, g3⟩ := hR.2.2.1 k hk hP
    have eg := c_goes (d := d + 1) hI hR hk hP
    have ek : ∀ x, mPk V g A T F (k + 1) x = if x = k ∧ mMv V g A k = true ∧ mPk V g A T F k k = 0 ∧ mBl V g A T (mPk V g A T F k) k = true then 3 else mPk V g A T F k x := fun x => rfl
    have st := fun N => tr_step (n := N) (s_kX4_failBlocked_4 (t_run tbl mtb (d + 2)) c m s )
    simp only [Int.toNat_natCast, hR.2.1 m k hmm, if_pos r5, hR.1, if_pos (show (m : Int) < ((mlist (mIn V g) (nP V)).length : Int) by omega), if_pos (show 0 ≤ (m : Int) ∧ (m : Int) < 40 by omega), w32_nat (show m < 2147483647 by omega), eg, ci_ok, bi_0, decide_eq_false_iff_not] at st
    have hsame : ¬ (mMv V g A k = true ∧ mPk V g A T F k k = 0 ∧ mBl V g A T (mPk V g A T F k) k = true) → (Sc sw σ s ∧ (∀ p, p < nP V → mIn V g p = true → s 11 0 p = mSt V g A T p ∧ s 12 0 p = mPk V g A T F (k + 1) p) ∧ (∀ c, s 15 0 c = σ 15 0 c) ∧ (∀ p, p < nP V → mIn V g p = false → s 7 0 p = σ 7 0 p ∧ s 12 0 p = σ 12 0 p) ∧ (c = 0 ∧ (∀ x, x < nP V → mPk V g A T F (k + 1) x = F x) ∨ c = 1 ∧ ∃ x, x < nP V ∧ mPk V g A T F (k + 1) x ≠ F x)) := by
      intro hn
      have e : mPk V g A T F (k + 1) = mPk V g A T F k := by
        funext x
        rw [ek, if_neg (fun q => hn q.2)]
      rw [e]
      exact ⟨b1, b2, b3, b4, b5⟩
    have hset : (mMv V g A k = true ∧ mPk V g A T F k k = 0 ∧ mBl V g A T (mPk V g A T F k) k = true) → (Sc sw σ (t_upd s 12 0 k 3) ∧ (∀ p, p < nP V → mIn V g p = true → t_upd s 12 0 k 3 11 0 p = mSt V g A T p ∧ t_upd s 12 0 k 3 12 0 p = mPk V g A T F (k + 1) p) ∧ (∀ c, t_upd s 12 0 k 3 15 0 c = σ 15 0 c) ∧ (∀ p, p < nP V → mIn V g p = false → t_upd s 12 0 k 3 7 0 p = σ 7 0 p ∧ t_upd s 12 0 k 3 12 0 p = σ 12 0 p) ∧ ((1 : Int) = 0 ∧ (∀ x, x < nP V → mPk V g A T F (k + 1) x = F x) ∨ (1 : Int) = 1 ∧ ∃ x, x < nP V ∧ mPk V g A T F (k + 1) x ≠ F x)) := by
      intro hn
      refine ⟨b1.up rfl, fun p hp hi => ⟨by rw [up_k (by decide)]; exact (b2 p hp hi).1, ?_⟩, fun c => by rw [up_k (by decide)]; exact b3 c, fun p hp hi => ?_, .inr ⟨rfl, k, hk, ?_⟩⟩
      · rw [ek]
        by_cases e : p = k
        · subst e
          rw [up_same, if_pos ⟨rfl, hn⟩]
        · rw [up_j e, if_neg (fun q => e q.1)]
          exact (b2 p hp hi).2
      · have e : p ≠ k := by rintro rfl; rw [hP] at hi; cases hi
        rw [up_k (by decide), up_j e]
        exact b4 p hp hi
      · rw [ek, if_pos ⟨rfl, hn⟩, mPk_z V g A T F k k hn.2.1]
        decide
    by_cases hgo : A k = 1 ∧ s 12 0 k = 0
    · have hmv : mMv V g A k = true := mMv_iff.mpr ⟨hP, hgo.1⟩
      have hz : mPk V g A T F k k = 0 := by rw [← (b2 k hk hP).2, hgo.2]
      have hT : 0 ≤ T k ∧ T k < 48 := by
        rcases hA k hk hP with z | z | z <;> omega
      have f4 := hR.2.2.2.1 (T k).toNat (by omega)
      rw [Int.toNat_of_nonneg hT.1] at f4
      simp only [if_neg (Decidable.not_not.mpr hgo), g2 (by omega), if_pos hT, f4] at st
      rcases fat_in (V := V) (g := g) (c := T k) with z | ⟨w, w1, w2, w3, w4⟩
      · simp only [if_pos z] at st
        refine ⟨c, s, hsame (fun q => ?_), fun N => st N⟩
        have := q.2.2
        unfold mBl at this
        rw [z] at this
        simp at this
      · have eg2 := c_goes (d := d + 1) hI hR w2 w3
        have r6 : 0 ≤ (w : Int) ∧ (w : Int) < 40 := by omega
        have nw : ¬ (w : Int) = -1 := by omega
        obtain ⟨h1w, h2w, h3w⟩ := hR.2.2.1 w w2 w3
        obtain ⟨x1, x2, -⟩ := hR.2.2.2.2 w w2
        obtain ⟨y1, y2, -⟩ := hR.2.2.2.2 k hk
        simp only [w1, if_neg nw, eg2, ci_ok, bi_0, decide_eq_false_iff_not, if_pos r6, Int.toNat_natCast, h1w, x1, x2, y1, (b2 w w2 w3).1, (b2 k hk hP).1] at st
        have hbl : mBl V g A T (mPk V g A T F k) k = true ↔ ¬(A w = 1 ∧ s 12 0 w = 0) ∧ (V 65 w = V 65 k ∨ mSt V g A T k ≤ mHo V g A T w) := by
          unfold mBl
          rw [w1, Int.toNat_natCast, ← (b2 w w2 w3).2]
          simp only [Bool.and_eq_true, Bool.or_eq_true, decide_eq_true_eq, Bool.not_eq_true']
          have hmw : mMv V g A w = false ↔ ¬ A w = 1 := by
            constructor
            · intro e q
              rw [mMv_iff.mpr ⟨w3, q⟩] at e; cases e
            · intro e
              cases q : mMv V g A w with
              | false => rfl
              | true => exact absurd (mMv_iff.mp q).2 e
          rw [hmw]
          constructor
          · rintro ⟨⟨-, a⟩, b⟩
            exact ⟨fun q => by rcases a with a | a; exact a q.1; exact a q.2, b⟩
          · rintro ⟨a, b⟩
            refine ⟨⟨by omega, ?_⟩, b⟩
            by_cases q : A w = 1
            · exact .inr (fun e => a ⟨q, e⟩)
            · exact .inl q
        by_cases hgw : A w = 1 ∧ s 12 0 w = 0
        · simp only [if_neg (Decidable.not_not.mpr hgw)] at st
          exact ⟨c, s, hsame (fun q => (hbl.mp q.2.2).1 hgw), fun N => st N⟩
        · simp only [if_pos hgw] at st
          by_cases hw1 : A w = 1
          · have hho : mHo V g A T w = V 68 w := by
              unfold mHo
              rw [if_pos (mMv_iff.mpr ⟨w3, hw1⟩)]
            simp only [if_pos hw1] at st
            by_cases q1 : V 65 w = V 65 k
            · simp only [if_pos q1] at st
              exact ⟨1, _, hset ⟨hmv, hz, hbl.mpr ⟨hgw, .inl q1⟩⟩, fun N => st N⟩
            · simp only [if_neg q1] at st
              by_cases q2 : V 68 w < mSt V g A T k
              · simp only [if_pos q2] at st
                exact ⟨c, s, hsame (fun q => by rcases (hbl.mp q.2.2).2 with z | z; exact q1 z; rw [hho] at z; omega), fun N => st N⟩
              · simp only [if_neg q2] at st
                exact ⟨1, _, hset ⟨hmv, hz, hbl.mpr ⟨hgw, .inr (by rw [hho]; omega)⟩⟩, fun N => st N⟩
          · have hho : mHo V g A T w = mSt V g A T w := by
              unfold mHo
              rw [if_neg (fun q => hw1 (mMv_iff.mp q).2)]
            simp only [if_neg hw1] at st
            by_cases q1 : V 65 w = V 65 k
            · simp only [if_pos q1] at st
              exact ⟨1, _, hset ⟨hmv, hz, hbl.mpr ⟨hgw, .inl q1⟩⟩, fun N => st N⟩
            · simp only [if_neg q1] at st
              by_cases q2 : mSt V g A T w < mSt V g A T k
              · simp only [if_pos q2] at st
                exact ⟨c, s, hsame (fun q => by rcases (hbl.mp q.2.2).2 with z | z; exact q1 z; rw [hho] at z; omega), fun N => st N⟩
              · simp only [if_neg q2] at st
                exact ⟨1, _, hset ⟨hmv, hz, hbl.mpr ⟨hgw, .inr (by rw [hho]; omega)⟩⟩, fun N => st N⟩
    · simp only [if_pos hgo] at st
      exact ⟨c, s, hsame (fun q => hgo ⟨(mMv_iff.mp q.1).2, by rw [(b2 k hk hP).2]; exact q.2.1⟩), fun N => st N⟩) (a := 0) (s := σ) ⟨Sc.rf, fun p hp hi => h11 p hp hi, fun c => rfl, fun p hp hi => ⟨rfl, rfl⟩, .inl ⟨rfl, fun x hx => rfl⟩⟩
  refine ⟨s2, c, c1, c2, c3, c4, c5, ?_⟩
  have hR2 := h.sc c1
  have f2 := e2 (999999 - (mlist (mIn V g) (nP V)).length)
  rw [Nat.sub_add_cancel (by omega)] at f2
  have f2 : t_tr tbl mtb (t_run tbl mtb (d + 2)) 20 999999 4 [some (vh 3 0), some (vi 0), some (vi 0), none, none, none] [] σ = _ := f2
  rw [f2, show 999999 - (mlist (mIn V g) (nP V)).length = 999999 - (mlist (mIn V g) (nP V)).length - 1 + 1 by omega, tr_step (s_kX4_failBlocked_4 _ c ((mlist (mIn V g) (nP V)).length : Int) s2), hR2.1, if_neg (by omega), if_pos (by omega)]
  rfl
/-- what a game's piece is behind the turn: its cell, or -1 -/
def mAf (V : TVw) (g : Int) (A T I : Nat → Int) (p : Nat) : Int := if mGn V g A T I p = true then -1 else mCl V g A T I p
theorem mAf_r {V : TVw} {g : Int} {A T I : Nat → Int} (hI : Inv V) (hA : mVA V g A T) {p : Nat} (hp : p < nP V) (hi : mIn V g p = true) : mAf V g A T I p = -1 ∧ mGn V g A T I p = true ∨ 0 ≤ mAf V g A T I p ∧ mAf V g A T I p < 48 ∧ mGn V g A T I p = false ∧ mAf V g A T I p = mCl V g A T I p := by
  obtain ⟨-, -, k1, k2, -⟩ := hI 3 p hp
  unfold mAf
  cases e : mGn V g A T I p with
  | true => exact .inl ⟨rfl, rfl⟩
  | false =>
    rw [if_neg (by decide)]
    refine .inr ⟨?_, ?_, rfl, rfl⟩
    · unfold mCl
      split
      · next q =>
        unfold mGo at q
        rw [Bool.and_eq_true] at q
        have := (mMv_iff.mp q.1).2
        rcases hA p hp hi with z | z | z <;> omega
      · exact k1
    · unfold mCl
      split
      · next q =>
        unfold mGo at q
        rw [Bool.and_eq_true] at q
        have := (mMv_iff.mp q.1).2
        rcases hA p hp hi with z | z | z <;> omega
      · exact k2
theorem c_cellAfter (hI : Inv V) (h : MR σ V g A T I) (h12 : ∀ p, p < nP V → mIn V g p = true → σ 12 0 p = mFf V g A T I p) (h15 : ∀ c : Nat, c < 48 → σ 15 0 c = (mFb V g A T I c (nP V)).1) {p : Nat} (hp : p < nP V) (hi : mIn V g p = true) : t_run tbl mtb (d + 2) 22 [vh 3 0, vi p] σ = some (some (vi (mAf V g A T I p)), σ) := by
  have h0 := hI.cnt
  have r1 : 0 ≤ (p : Int) ∧ (p : Int) < 40 := by omega
  obtain ⟨-, -, k1, k2, -⟩ := hI 3 p hp
  have eg := c_goes (d := d) hI h hp hi
  have f15 := h15 (V 66 p).toNat (by omega)
  rw [Int.toNat_of_nonneg k1] at f15
  have hgo : ∀ q, q < nP V → mIn V g q = true → (mGo V g A T I q = true ↔ A q = 1 ∧ σ 12 0 q = 0) := by
    intro q hq hqi
    unfold mGo
    rw [Bool.and_eq_true, mMv_iff, decide_eq_true_eq, h12 q hq hqi]
    exact ⟨fun a => ⟨a.1.2, a.2⟩, fun a => ⟨⟨hqi, a.1⟩, a.2⟩⟩
  rw [run_go (k := 22) (as := [vh 3 0, vi p]) mt_22 (Nat.ne_of_beq_eq_false rfl) rfl (s_kX4_cellAfter_0 _ p σ), ci_of eg]
  simp only [Int.toNat_natCast, if_pos r1, (h.2.2.2.2 p hp).2.2, bi_0, decide_eq_false_iff_not, if_pos (show 0 ≤ V 66 p ∧ V 66 p < 48 from ⟨k1, k2⟩), f15]
  by_cases c1 : A p = 1 ∧ σ 12 0 p = 0
  · have hg := (hgo p hp hi).mpr c1
    rw [if_neg (Decidable.not_not.mpr c1), (h.2.2.1 p hp hi).2.1 (by omega)]
    have hgn : mGn V g A T I p = false := by
      unfold mGn
      rw [hg]
      simp
    unfold mAf mCl
    rw [hgn, if_neg (by decide), if_pos hg]
    rfl
  · have hg : mGo V g A T I p = false := by
      cases e : mGo V g A T I p with
      | false => rfl
      | true => exact absurd ((hgo p hp hi).mp e) c1
    have hcl : mCl V g A T I p = V 66 p := by
      unfold mCl
      rw [hg, if_neg (by decide)]
    rw [if_pos c1]
    have hgn : mGn V g A T I p = true ↔ ∃ q, q < nP V ∧ mGo V g A T I q = true ∧ T q = V 66 p := by
      unfold mGn
      rw [hi, hg, Bool.true_and, Bool.not_false, Bool.true_and, fE_iff]
      simp only [Bool.and_eq_true, decide_eq_true_eq]
    have hmf : ∀ q, mGo V g A T I q = true → q < nP V → (mFb V g A T I (T q) (nP V)).1 = (q : Int) := by
      intro q e hq
      unfold mGo at e
      rw [Bool.and_eq_true, decide_eq_true_eq] at e
      have e0 := mIt_z V g A T I _ q e.2
      unfold mF0 at e0
      rw [if_pos e.1] at e0
      cases e1 : mF1 V g A T I q with
      | true => rw [e1, if_pos rfl] at e0; omega
      | false =>
        by_cases e2 : (mFb V g A T I (T q) (nP V)).1 = (q : Int)
        · exact e2
        · have := (mF1_iff V g A T I hq e.1).mpr (.inl e2)
          rw [e1] at this; cases this
    rcases mFb_ok V g A T I (V 66 p) (nP V) with ⟨z1, z2, z3⟩ | ⟨w, z1, z2, z3, z4, -⟩
    · have : mGn V g A T I p = false := by
        cases e : mGn V g A T I p with
        | false => rfl
        | true =>
          obtain ⟨q, q1, q2, q3⟩ := hgn.mp e
          unfold mGo at q2
          rw [Bool.and_eq_true] at q2
          exact absurd q3 (z3 q q1 q2.1)
      unfold mAf
      rw [if_pos z1, this, if_neg (by decide), hcl]
      rfl
    · have nw : ¬ (w : Int) = -1 := by omega
      have iw := (mMv_iff.mp z3).1
      have eg2 := c_goes (d := d) hI h z2 iw
      rw [z1, if_neg nw, ci_of eg2]
      simp only [bi_0, decide_eq_false_iff_not]
      by_cases c2 : A w = 1 ∧ σ 12 0 w = 0
      · have : mGn V g A T I p = true := hgn.mpr ⟨w, z2, (hgo w z2 iw).mpr c2, z4⟩
        unfold mAf
        rw [if_neg (Decidable.not_not.mpr c2), if_pos this]
        rfl
      · have : mGn V g A T I p = false := by
          cases e : mGn V g A T I p with
          | false => rfl
          | true =>
            obtain ⟨q, q1, q2, q3⟩ := hgn.mp e
            have e1 := hmf q q2 q1
            rw [q3, z1] at e1
            have : w = q := by omega
            subst this
            exact absurd ((hgo w z2 iw).mp q2) c2
        unfold mAf
        rw [if_pos c2, (h.2.2.2.2 p hp).2.2, this, if_neg (by decide), hcl]
        rfl
set_option maxHeartbeats 4000000 in
theorem c_workOut (hI : Inv V) (hA : mVA V g A T) (hU : mU V g) (h : MR σ V g A T I) : ∃ σ', Sc sw σ σ' ∧ (∀ p, p < nP V → mIn V g p = true → σ' 12 0 p = mFf V g A T I p ∧ σ' 7 0 p = mAf V g A T I p) ∧ (∀ p, p < nP V → mIn V g p = false → σ' 7 0 p = σ 7 0 p ∧ σ' 12 0 p = σ 12 0 p) ∧ t_run tbl mtb (d + 4) 14 [vh 3 0] σ = some (none, σ') := by
  have h0 := hI.cnt
  have hM := mlist_le (mIn V g) (nP V)
  obtain ⟨s1, a1, a2, a3, a4⟩ := c_measure (d := d) hI hA hU h
  have hR1 := h.sc a1
  obtain ⟨s2, b1, b2, b3, b4, b5⟩ := c_findFirst (d := d) hI hA hR1 a2
  have hR2 := hR1.sc b1
  obtain ⟨s3, c1, c2, c3, c4, c5⟩ := c_failSwaps (d := d) hI hA hU hR2 b2
  have hR3 := hR2.sc c1
  rw [run_go (k := 14) (as := [vh 3 0]) mt_14 (Nat.ne_of_beq_eq_false rfl) rfl (s_kX4_workOut_0 _ σ), cv_of a4, cv_of b5, cv_of c5, nx_inl]
  -- the rounds
  have rounds : ∀ (z r : Nat) (ch : Int) (s : TM) (N : Nat), r + z = (mlist (mIn V g) (nP V)).length + 2 → z + 1 < N → MR s V g A T I → Sc sw σ s → (∀ p, p < nP V → mIn V g p = true → s 11 0 p = mSt V g A T p ∧ s 12 0 p = mIt V g A T I r p) → (∀ c, s 15 0 c = s3 15 0 c) → (∀ p, p < nP V → mIn V g p = false → s 7 0 p = σ 7 0 p ∧ s 12 0 p = σ 12 0 p) → (ch = 1 ∧ mZ V g A (mIt V g A T I r) (nP V) + r ≤ mZ V g A (mIt V g A T I 0) (nP V) ∨ ch = 0 ∧ mIt V g A T I r = mFf V g A T I) →
      ∃ s', MR s' V g A T I ∧ Sc sw σ s' ∧ (∀ p, p < nP V → mIn V g p = true → s' 12 0 p = mFf V g A T I p) ∧ (∀ c, s' 15 0 c = s3 15 0 c) ∧ (∀ p, p < nP V → mIn V g p = false → s' 7 0 p = σ 7 0 p ∧ s' 12 0 p = σ 12 0 p) ∧ ∃ N', N - (z + 1) ≤ N' ∧ t_tr tbl mtb (t_run tbl mtb (d + 3)) 14 N 16 [some (vh 3 0), some (vi ch), some (vi (r : Int))] [] s = t_tr tbl mtb (t_run tbl mtb (d + 3)) 14 N' 41 [some (vh 3 0), none, some (vi 0)] [] s' := by
    intro z
    induction z with
    | zero =>
      intro r ch s N hr hN m1 m2 m3 m4 m5 m6
      rcases m6 with ⟨k1, k2⟩ | ⟨k1, k2⟩
      · have := (mZ_r V g A (mIt V g A T I r) (nP V)).1
        have := (mZ_r V g A (mIt V g A T I 0) (nP V)).2
        omega
      · refine ⟨s, m1, m2, fun p hp hi => by rw [(m3 p hp hi).2, k2], m4, m5, N - 1, by omega, ?_⟩
        rw [show N = N - 1 + 1 by omega, tr_step (s_kX4_workOut_16 _ ch r s), if_pos k1]
        rfl
    | succ z ih =>
      intro r ch s N hr hN m1 m2 m3 m4 m5 m6
      rcases m6 with ⟨k1, k2⟩ | ⟨k1, k2⟩
      · have w1 := (mZ_r V g A (mIt V g A T I r) (nP V)).1
        have w2 := (mZ_r V g A (mIt V g A T I 0) (nP V)).2
        obtain ⟨s', c, f1, f2, f3, f4, f5, f6⟩ := c_failBlocked (d := d) hI hA m1 m3
        obtain ⟨sf, y1, y2, y3, y4, y5, N', y6, y7⟩ := ih (r + 1) c s' (N - 1) (by omega) (by omega) (m1.sc f1) (m2.tr f1) f2 (fun c => by rw [f3, m4]) (fun p hp hi => by rw [(f4 p hp hi).1, (f4 p hp hi).2]; exact m5 p hp hi) (by
          rcases f5 with ⟨q1, q2⟩ | ⟨q1, x, q2, q3⟩
          · refine .inr ⟨q1, ?_⟩
            have q2 : ∀ x, x < nP V → mIt V g A T I (r + 1) x = mIt V g A T I r x := q2
            rw [mFf_of V g A T I (k := r) (by omega) q2]
            funext x
            by_cases hx : x < nP V
            · exact q2 x hx
            · rcases mPk_ch V g A T (mIt V g A T I r) (nP V) x with q | ⟨q, _⟩
              · exact q
              · omega
          · refine .inl ⟨q1, ?_⟩
            have := mIt_dec V g A T I r x q2 q3
            omega)
        refine ⟨sf, y1, y2, y3, y4, y5, N', by omega, ?_⟩
        rw [show N = N - 1 + 1 by omega, tr_step (s_kX4_workOut_16 _ ch r s), if_neg (by omega), m1.1, if_neg (by omega), ci_of f6, nx_inl, w32_nat (by omega)]
        exact y7
      · refine ⟨s, m1, m2, fun p hp hi => by rw [(m3 p hp hi).2, k2], m4, m5, N - 1, by omega, ?_⟩
        rw [show N = N - 1 + 1 by omega, tr_step (s_kX4_workOut_16 _ ch r s), if_pos k1]
        rfl
  obtain ⟨s4, g1, g2, g3, g4, g5, N', g6, g7⟩ := rounds ((mlist (mIn V g) (nP V)).length + 2) 0 1 s3 999999 (by omega) (by omega) hR3 ((a1.tr b1).tr c1) c2 (fun c => rfl) (fun p hp hi => by rw [(c4 p hp hi).1, (c4 p hp hi).2, (b4 p hp hi).1, (b4 p hp hi).2]; exact a3 p hp hi) (.inl ⟨rfl, by omega⟩)
  have g7 : t_tr tbl mtb (t_run tbl mtb (d + 3)) 14 999999 16 [some (vh 3 0), some (vi 1), some (vi 0)] [] s3 = _ := g7
  rw [g7]
  obtain ⟨-, s5, ⟨x1, x2, x3, x4, x5⟩, e5⟩ := loop_mem (O := t_run tbl mtb (d + 3)) (kk := 14) (pc := 41) (n := nP V) (mIn V g) (fun m (_ : Unit) => [some (vh 3 0), none, some (vi (m : Int))]) (fun k _ s => MR s V g A T I ∧ Sc sw σ s ∧ (∀ p, p < nP V → mIn V g p = true → s 12 0 p = mFf V g A T I p ∧ (p < k → s 7 0 p = mAf V g A T I p)) ∧ (∀ c, s 15 0 c = s3 15 0 c) ∧ (∀ p, p < nP V → mIn V g p = false → s 7 0 p = σ 7 0 p ∧ s 12 0 p = σ 12 0 p)) (by
    rintro k a s hk hP ⟨b1, b2, b3, b4⟩
    refine ⟨b1, b2, fun p hp hi => ⟨(b3 p hp hi).1, fun q => (b3 p hp hi).2 ?_⟩, b4⟩
    have : p ≠ k := by rintro rfl; rw [hP] at hi; cases hi
    omega) (by
    rintro k m a s hk hP hmm hml ⟨b1, b2, b3, b4, b5⟩
    have r5 : 0 ≤ (k : Int) ∧ (k : Int) < 40 := by omega
    have ec := c_cellAfter (d := d + 1) hI b1 (fun p hp hi => (b3 p hp hi).1) (fun c hc => by rw [b4, c3]; exact (by assumption : ∀ c : Nat, c < 48 → s2 15 0 c = (mFb V g A T I c (nP V)).1) c hc) hk hP
    have st := fun N => tr_step (n := N) (s_kX4_workOut_41 (t_run tbl mtb (d + 3)) m s )
    simp only [Int.toNat_natCast, b1.2.1 m k hmm, if_pos r5, b1.1, if_pos (show (m : Int) < ((mlist (mIn V g) (nP V)).length : Int) by omega), if_pos (show 0 ≤ (m : Int) ∧ (m : Int) < 40 by omega), w32_nat (show m < 2147483647 by omega), ec, ci_ok] at st
    refine ⟨(), _, ⟨b1.sc (Sc.rf.up rfl), b2.up rfl, fun p hp hi => ⟨by rw [up_k (by decide)]; exact (b3 p hp hi).1, fun q => ?_⟩, fun c => by rw [up_k (by decide)]; exact b4 c, fun p hp hi => ?_⟩, fun N => st N⟩
    · by_cases e : p = k
      · subst e; rw [up_same]
      · rw [up_j e]; exact (b3 p hp hi).2 (by omega)
    · have e : p ≠ k := by rintro rfl; rw [hP] at hi; cases hi
      rw [up_j e, up_k (by decide)]
      exact b5 p hp hi) (a := ()) (s := s4) ⟨g1, g2, fun p hp hi => ⟨g3 p hp hi, fun q => by omega⟩, g4, g5⟩
  refine ⟨s5, x2, fun p hp hi => ⟨(x3 p hp hi).1, (x3 p hp hi).2 hp⟩, x5, ?_⟩
  have f5 := e5 (N' - (mlist (mIn V g) (nP V)).length)
  rw [Nat.sub_add_cancel (by omega)] at f5
  have f5 : t_tr tbl mtb (t_run tbl mtb (d + 3)) 14 N' 41 [some (vh 3 0), none, some (vi 0)] [] s4 = _ := f5
  rw [f5, show N' - (mlist (mIn V g) (nP V)).length = N' - (mlist (mIn V g) (nP V)).length - 1 + 1 by omega, tr_step (s_kX4_workOut_41 _ ((mlist (mIn V g) (nP V)).length : Int) s5), x1.1, if_neg (by omega)]
  rfl
end
