-- the class's Moves: measure()
def sw (k _ : Nat) : Bool := Nat.beq k 7 || (Nat.beq k 11 || (Nat.beq k 12 || (Nat.beq k 13 || (Nat.beq k 15 || Nat.beq k 16))))
theorem sw_scr (k j : Nat) (h : scr k j = false) : sw k j = false := by
  unfold sw
  cases a : Nat.beq k 7 with
  | true => rw [Nat.eq_of_beq_eq_true a] at h; cases h
  | false => cases b : Nat.beq k 11 with
    | true => rw [Nat.eq_of_beq_eq_true b] at h; cases h
    | false => cases c : Nat.beq k 12 with
      | true => rw [Nat.eq_of_beq_eq_true c] at h; cases h
      | false => cases d : Nat.beq k 13 with
        | true => rw [Nat.eq_of_beq_eq_true d] at h; cases h
        | false => cases e : Nat.beq k 15 with
          | true => rw [Nat.eq_of_beq_eq_true e] at h; cases h
          | false => cases f : Nat.beq k 16 with
            | true => rw [Nat.eq_of_beq_eq_true f] at h; cases h
            | false => rfl
/-- what each does can be: a cell that is not its own, another piece of the game that is there -/
def mVA (V : TVw) (g : Int) (A T : Nat → Int) : Prop := ∀ p, p < nP V → mIn V g p = true → A p = 0 ∨ A p = 1 ∧ 0 ≤ T p ∧ T p < 48 ∧ T p ≠ V 66 p ∨ A p = 2 ∧ 0 ≤ T p ∧ T p < V 51 23 ∧ T p ≠ (p : Int) ∧ mIn V g (T p).toNat = true
/-- no two of a game in one cell -/
def mU (V : TVw) (g : Int) : Prop := ∀ p q, p < nP V → q < nP V → mIn V g p = true → mIn V g q = true → V 66 p = V 66 q → p = q
/-- the moves' rows as they are to be worked out -/
def MR (σ : TM) (V : TVw) (g : Int) (A T I : Nat → Int) : Prop :=
  σ 3 0 2 = (mlist (mIn V g) (nP V)).length ∧ (∀ m p, t_nth (mlist (mIn V g) (nP V)) m = some p → σ 5 0 m = p) ∧ (∀ p, p < nP V → mIn V g p = true → σ 8 0 p = A p ∧ (A p ≠ 0 → σ 9 0 p = T p) ∧ (A p = 1 → σ 10 0 p = I p)) ∧ (∀ c : Nat, c < 48 → σ 14 0 c = fat V g c) ∧ (∀ p, p < nP V → σ 17 p 1 = V 65 p ∧ σ 17 p 2 = V 68 p ∧ σ 17 p 3 = V 66 p)
theorem MR.sc {σ σ' : TM} {V : TVw} {g : Int} {A T I : Nat → Int} (h : MR σ V g A T I) (q : Sc sw σ σ') : MR σ' V g A T I := by
  obtain ⟨h1, h2, h3, h4, h5⟩ := h
  exact ⟨by rw [q 3 0 2 rfl, h1], fun m p hm => by rw [q 5 0 m rfl, h2 m p hm], fun p hp hi => by rw [q 8 0 p rfl, q 9 0 p rfl, q 10 0 p rfl]; exact h3 p hp hi, fun c hc => by rw [q 14 0 c rfl, h4 c hc], fun p hp => by rw [q 17 p 1 rfl, q 17 p 2 rfl, q 17 p 3 rfl]; exact h5 p hp⟩
theorem fat_iff {V : TVw} {g : Int} (hI : Inv V) (hU : mU V g) (c : Int) {h : Nat} (hh : h < nP V) : fat V g c = (h : Int) ↔ mIn V g h = true ∧ V 66 h = c := by
  have h0 := hI.cnt
  unfold fat
  constructor
  · intro e
    rcases fF_range (fatP V g c) (nP V) 0 with q | ⟨q, q1, q2, q3, q4⟩
    · omega
    · have : q = h := by omega
      subst this
      unfold fatP at q4
      rw [decide_eq_true_eq] at q4
      unfold mIn
      rw [decide_eq_true_eq]
      exact ⟨⟨q4.1, q4.2.1⟩, q4.2.2⟩
  · rintro ⟨e1, e2⟩
    have hP : fatP V g c h = true := by
      unfold fatP
      unfold mIn at e1
      rw [decide_eq_true_eq] at e1 ⊢
      exact ⟨e1.1, e1.2, e2⟩
    rcases fF_range (fatP V g c) (nP V) 0 with q | ⟨q, q1, q2, q3, q4⟩
    · have := fF_none _ _ _ q h (by omega) (by omega)
      rw [hP] at this
      cases this
    · rw [q1]
      unfold fatP at q4
      rw [decide_eq_true_eq] at q4
      have hq : mIn V g q = true := by
        unfold mIn
        rw [decide_eq_true_eq]
        exact ⟨q4.1, q4.2.1⟩
      rw [hU q h (by omega) hh hq e1 (by rw [q4.2.2, e2])]
theorem fat_in {V : TVw} {g c : Int} : fat V g c = -1 ∨ ∃ q : Nat, fat V g c = (q : Int) ∧ q < nP V ∧ mIn V g q = true ∧ V 66 q = c := by
  unfold fat
  rcases fF_range (fatP V g c) (nP V) 0 with h | ⟨q, h, h1, h2, h3⟩
  · exact .inl h
  · unfold fatP at h3
    rw [decide_eq_true_eq] at h3
    refine .inr ⟨q, h, by omega, ?_, h3.2.2⟩
    unfold mIn
    rw [decide_eq_true_eq]
    exact ⟨h3.1, h3.2.1⟩
theorem mMv_iff {V : TVw} {g : Int} {A : Nat → Int} {p : Nat} : mMv V g A p = true ↔ mIn V g p = true ∧ A p = 1 := by
  unfold mMv
  rw [Bool.and_eq_true, decide_eq_true_eq]
theorem mHelp_r {V : TVw} (hI : Inv V) (P : Nat → Bool) : ∀ k, k ≤ nP V → 0 ≤ fS (fun q => if P q = true then V 68 q else 0) k ∧ fS (fun q => if P q = true then V 68 q else 0) k ≤ 9 * k
  | 0, _ => ⟨Int.le_refl _, Int.le_refl _⟩
  | k + 1, h => by
    have := mHelp_r hI P k (by omega)
    obtain ⟨-, -, -, -, -, -, -, f1, f2⟩ := hI 3 k (by omega)
    rw [fS]
    split <;> omega
section
variable {σ : TM} {V : TVw} {g : Int} {A T I : Nat → Int} {d : Nat}
theorem c_goal (hI : Inv V) (h : MR σ V g A T I) {p : Nat} (hp : p < nP V) (hi : mIn V g p = true) : t_run tbl mtb (d + 1) 15 [vh 3 0, vi p] σ = some (some (vi (mWh V A T p)), σ) := by
  have h0 := hI.cnt
  obtain ⟨a1, a2, a3⟩ := h.2.2.1 p hp hi
  rw [run_go (k := 15) (as := [vh 3 0, vi p]) mt_15 (Nat.ne_of_beq_eq_false rfl) rfl (s_kX4_goal_0 _ p σ), Int.toNat_natCast, if_pos (by omega), a1, (h.2.2.2.2 p hp).2.2]
  unfold mWh
  by_cases e : A p = 1
  · rw [if_pos e, if_pos e, if_pos (by omega), a2 (by omega)]
    rfl
  · rw [if_neg e, if_neg e, if_pos (by omega)]
    rfl
set_option maxHeartbeats 4000000 in
theorem c_measure (hI : Inv V) (hA : mVA V g A T) (hU : mU V g) (h : MR σ V g A T I) : ∃ σ', Sc sw σ σ' ∧ (∀ p, p < nP V → mIn V g p = true → σ' 11 0 p = mSt V g A T p ∧ σ' 12 0 p = 0) ∧ (∀ p, p < nP V → mIn V g p = false → σ' 7 0 p = σ 7 0 p ∧ σ' 12 0 p = σ 12 0 p) ∧ t_run tbl mtb (d + 3) 16 [vh 3 0] σ = some (none, σ') := by
  have h0 := hI.cnt
  have hM := mlist_le (mIn V g) (nP V)
  rw [run_go (k := 16) (as := [vh 3 0]) mt_16 (Nat.ne_of_beq_eq_false rfl) rfl (s_kX4_measure_0 _ σ), nx_inl]
  -- first: nothing is cut, forces alone
  obtain ⟨-, s1, ⟨a1, a2, a3⟩, e1⟩ := loop_mem (O := t_run tbl mtb (d + 2)) (kk := 16) (pc := 2) (n := nP V) (mIn V g) (fun m (_ : Unit) => [some (vh 3 0), some (vi (m : Int)), none, none]) (fun k _ s => Sc sw σ s ∧ (∀ p, p < k → mIn V g p = true → s 13 0 p = 0 ∧ s 12 0 p = 0 ∧ s 11 0 p = V 68 p) ∧ (∀ p, p < nP V → mIn V g p = false → s 7 0 p = σ 7 0 p ∧ s 12 0 p = σ 12 0 p)) (by
    rintro q a s hq hP ⟨b1, b2, b3⟩
    refine ⟨b1, fun p hp hi => ?_, b3⟩
    by_cases e : p = q
    · subst e; rw [hP] at hi; cases hi
    · exact b2 p (by omega) hi) (by
    rintro q m a s hq hP hm hml ⟨b1, b2, b3⟩
    have hR := h.sc b1
    have r5 : 0 ≤ (q : Int) ∧ (q : Int) < 40 := by omega
    refine ⟨(), t_upd (t_upd (t_upd s 13 0 q 0) 12 0 q 0) 11 0 q (V 68 q), ⟨((b1.up rfl).up rfl).up rfl, fun p hp hi => ?_, fun p hp hi => ?_⟩, fun N => ?_⟩
    · by_cases e : p = q
      · subst e
        exact ⟨by rw [up_k (by decide), up_k (by decide), up_same], by rw [up_k (by decide), up_same], up_same⟩
      · rw [up_k (by decide), up_k (by decide), up_j e, up_k (by decide), up_j e, up_k (by decide), up_j e, up_k (by decide), up_k (by decide)]
        exact b2 p (by omega) hi
    · have e : p ≠ q := by rintro rfl; rw [hP] at hi; cases hi
      rw [up_k (by decide), up_k (by decide), up_k (by decide), up_k (by decide), up_j e, up_k (by decide)]
      exact b3 p hp hi
    · rw [tr_step (s_kX4_measure_2 _ m s)]
      simp only [Int.toNat_natCast, hR.2.1 m q hm, if_pos r5, up_k (show (17 : Nat) ≠ 12 by decide), up_k (show (17 : Nat) ≠ 13 by decide), (hR.2.2.2.2 q hq).2.1]
      rw [hR.1, if_pos (by omega), if_pos (by omega), w32_nat (by omega)]
      rfl) (a := ()) (s := σ) ⟨Sc.rf, fun p hp => by omega, fun p hp hi => ⟨rfl, rfl⟩⟩
  have hR1 := h.sc a1
  -- then: who is cut
  obtain ⟨-, s2, ⟨c1, c2, c3, c4⟩, e2⟩ := loop_mem (O := t_run tbl mtb (d + 2)) (kk := 16) (pc := 54) (n := nP V) (mIn V g) (fun m (_ : Unit) => [some (vh 3 0), some (vi (m : Int)), none, none]) (fun k _ s => Sc sw σ s ∧ (∀ p, p < nP V → mIn V g p = true → s 13 0 p = bi (fE (fun q => mMv V g A q && decide (T q = V 66 p ∧ V 65 q ≠ V 65 p)) k)) ∧ (∀ p, p < nP V → mIn V g p = true → s 12 0 p = 0 ∧ s 11 0 p = V 68 p) ∧ (∀ p, p < nP V → mIn V g p = false → s 7 0 p = σ 7 0 p ∧ s 12 0 p = σ 12 0 p)) (by
    rintro q a s hq hP ⟨b1, b2, b3⟩
    refine ⟨b1, fun p hp hi => ?_, b3⟩
    rw [b2 p hp hi, fE]
    have : mMv V g A q = false := by
      cases e : mMv V g A q with
      | false => rfl
      | true => rw [(mMv_iff.mp e).1] at hP; cases hP
    rw [this, Bool.false_and, Bool.or_false]) (by
    rintro q m a s hq hP hm hml ⟨b1, b2, b3, b4⟩
    have hR := h.sc b1
    have r5 : 0 ≤ (q : Int) ∧ (q : Int) < 40 := by omega
    obtain ⟨g1, g2, g3⟩ := hR.2.2.1 q hq hP
    have st := fun N => tr_step (n := N) (s_kX4_measure_54 (t_run tbl mtb (d + 2)) m s )
    simp only [Int.toNat_natCast, hR.2.1 m q hm, if_pos r5, hR.1, g1, if_pos (show (m : Int) < ((mlist (mIn V g) (nP V)).length : Int) by omega), if_pos (show 0 ≤ (m : Int) ∧ (m : Int) < 40 by omega), w32_nat (show m < 2147483647 by omega)] at st
    have hno : (∀ p, p < nP V → mIn V g p = true → (mMv V g A q && decide (T q = V 66 p ∧ V 65 q ≠ V 65 p)) = false) → ∀ p, p < nP V → mIn V g p = true → s 13 0 p = bi (fE (fun q => mMv V g A q && decide (T q = V 66 p ∧ V 65 q ≠ V 65 p)) (q + 1)) := by
      intro hz p hp hi
      rw [b2 p hp hi, fE, hz p hp hi, Bool.or_false]
    by_cases hm1 : A q = 1
    · have hT : 0 ≤ T q ∧ T q < 48 := by
        rcases hA q hq hP with z | z | z <;> omega
      have f4 := hR.2.2.2.1 (T q).toNat (by omega)
      rw [Int.toNat_of_nonneg hT.1] at f4
      simp only [if_pos hm1, g2 (by omega), if_pos hT, f4] at st
      rcases fat_in (V := V) (g := g) (c := T q) with z | ⟨w, w1, w2, w3, w4⟩
      · simp only [if_pos z] at st
        refine ⟨(), s, ⟨b1, hno (fun p hp hi => ?_), b3, b4⟩, fun N => st N⟩
        rw [Bool.and_eq_false_iff]
        right
        rw [decide_eq_false_iff_not]
        intro k
        have := (fat_iff hI hU (T q) hp).mpr ⟨hi, k.1.symm⟩
        omega
      · have z : ¬ (w : Int) = -1 := by omega
        have r6 : 0 ≤ (w : Int) ∧ (w : Int) < 40 := by omega
        simp only [w1, if_neg z, if_pos r6, Int.toNat_natCast, (hR.2.2.2.2 w w2).1, (hR.2.2.2.2 q hq).1] at st
        by_cases k1 : V 65 w = V 65 q
        · simp only [if_pos k1] at st
          refine ⟨(), s, ⟨b1, hno (fun p hp hi => ?_), b3, b4⟩, fun N => st N⟩
          rw [Bool.and_eq_false_iff]
          right
          rw [decide_eq_false_iff_not]
          rintro ⟨k2, k3⟩
          have := (fat_iff hI hU (T q) hp).mpr ⟨hi, k2.symm⟩
          have : p = w := by omega
          subst this
          exact k3 k1.symm
        · have r7 : 0 ≤ (w : Int) ∧ (w : Int) < 40 := by omega
          simp only [if_neg k1, if_pos r7] at st
          refine ⟨(), t_upd s 13 0 w 1, ⟨b1.up rfl, fun p hp hi => ?_, fun p hp hi => ?_, fun p hp hi => ?_⟩, fun N => st N⟩
          · rw [fE]
            by_cases e : p = w
            · subst e
              rw [up_same, show (mMv V g A q && decide (T q = V 66 p ∧ V 65 q ≠ V 65 p)) = true by rw [Bool.and_eq_true, decide_eq_true_eq]; exact ⟨mMv_iff.mpr ⟨hP, hm1⟩, w4.symm, fun k => k1 k.symm⟩, Bool.or_true]
              rfl
            · rw [up_j e, b2 p hp hi, show (mMv V g A q && decide (T q = V 66 p ∧ V 65 q ≠ V 65 p)) = false by
                rw [Bool.and_eq_false_iff]
                right
                rw [decide_eq_false_iff_not]
                rintro ⟨k2, k3⟩
                have := (fat_iff hI hU (T q) hp).mpr ⟨hi, k2.symm⟩
                omega, Bool.or_false]
          · rw [up_k (by decide), up_k (by decide)]
            exact b3 p hp hi
          · rw [up_k (by decide), up_k (by decide)]
            exact b4 p hp hi
    · simp only [if_neg hm1] at st
      refine ⟨(), s, ⟨b1, hno (fun p hp hi => ?_), b3, b4⟩, fun N => st N⟩
      rw [Bool.and_eq_false_iff]
      left
      cases e : mMv V g A q with
      | false => rfl
      | true => exact absurd (mMv_iff.mp e).2 hm1) (a := ()) (s := s1) ⟨a1, fun p hp hi => by rw [(a2 p hp hi).1]; rfl, fun p hp hi => (a2 p hp hi).2, a3⟩
  have hR2 := h.sc c1
  -- then: helps
  obtain ⟨-, s3, ⟨d1, d2, d3, d4⟩, e3⟩ := loop_mem (O := t_run tbl mtb (d + 2)) (kk := 16) (pc := 136) (n := nP V) (mIn V g) (fun m (_ : Unit) => [some (vh 3 0), some (vi (m : Int)), none, none]) (fun k _ s => Sc sw σ s ∧ (∀ p, p < nP V → mIn V g p = true → s 13 0 p = bi (mCut V g A T p)) ∧ (∀ p, p < nP V → mIn V g p = true → s 12 0 p = 0 ∧ s 11 0 p = V 68 p + fS (fun q => if mHp V g A T p q = true then V 68 q else 0) k) ∧ (∀ p, p < nP V → mIn V g p = false → s 7 0 p = σ 7 0 p ∧ s 12 0 p = σ 12 0 p)) (by
    rintro q a s hq hP ⟨b1, b2, b3, b4⟩
    refine ⟨b1, b2, fun p hp hi => ⟨(b3 p hp hi).1, ?_⟩, b4⟩
    rw [(b3 p hp hi).2, fS]
    have : mHp V g A T p q = false := by
      unfold mHp
      rw [hP, Bool.false_and, Bool.false_and]
    rw [this, if_neg (by decide), Int.add_zero]) (by
    rintro q m a s hq hP hm hml ⟨b1, b2, b3, b4⟩
    have hR := h.sc b1
    have r5 : 0 ≤ (q : Int) ∧ (q : Int) < 40 := by omega
    obtain ⟨g1, g2, g3⟩ := hR.2.2.1 q hq hP
    have st := fun N => tr_step (n := N) (s_kX4_measure_136 (t_run tbl mtb (d + 2)) m s )
    simp only [Int.toNat_natCast, hR.2.1 m q hm, if_pos r5, hR.1, g1, if_pos (show (m : Int) < ((mlist (mIn V g) (nP V)).length : Int) by omega), if_pos (show 0 ≤ (m : Int) ∧ (m : Int) < 40 by omega), w32_nat (show m < 2147483647 by omega), b2 q hq hP, bi_0] at st
    have hno : (∀ p, p < nP V → mIn V g p = true → mHp V g A T p q = false) → ∀ p, p < nP V → mIn V g p = true → s 12 0 p = 0 ∧ s 11 0 p = V 68 p + fS (fun q => if mHp V g A T p q = true then V 68 q else 0) (q + 1) := by
      intro hz p hp hi
      refine ⟨(b3 p hp hi).1, ?_⟩
      rw [(b3 p hp hi).2, fS, hz p hp hi, if_neg (by decide), Int.add_zero]
    by_cases hm2 : A q = 2
    · simp only [if_pos hm2] at st
      cases hcut : mCut V g A T q with
      | true =>
        simp only [hcut, if_neg (show ¬ true = false by decide)] at st
        refine ⟨(), s, ⟨b1, b2, hno (fun p hp hi => ?_), b4⟩, fun N => st N⟩
        unfold mHp
        rw [hcut]
        simp
      | false =>
        simp only [hcut, if_true] at st
        obtain ⟨t1, t2, t3, t4⟩ : 0 ≤ T q ∧ T q < V 51 23 ∧ T q ≠ (q : Int) ∧ mIn V g (T q).toNat = true := by
          rcases hA q hq hP with z | z | z
          · omega
          · omega
          · exact z.2
        have hw : (T q).toNat < nP V := by omega
        have egl := c_goal (d := d + 1) hI hR hw t4
        rw [Int.toNat_of_nonneg t1] at egl
        have hwr : 0 ≤ mWh V A T (T q).toNat ∧ mWh V A T (T q).toNat < 48 := by
          obtain ⟨-, -, x1, x2, -⟩ := hI 3 (T q).toNat hw
          unfold mWh
          split
          · rcases hA (T q).toNat hw t4 with z | z | z <;> omega
          · exact ⟨x1, x2⟩
        obtain ⟨-, -, y1, y2, -, -, -, y3, y4⟩ := hI 3 q hq
        have edi : t_run tbl mtb (d + 2) 71 [vi (V 66 q), vi (mWh V A T (T q).toNat)] s = some (some (vi (fwy (V 66 q) (mWh V A T (T q).toNat))), s) := c_distance y1 y2 hwr.1 hwr.2
        have r8 : 0 ≤ T q ∧ T q < 40 := by omega
        simp only [g2 (by omega), egl, ci_ok, (hR.2.2.2.2 q hq).2.2, edi, (hR.2.2.2.2 q hq).2.1, if_pos r8] at st
        by_cases hf : fwy (V 66 q) (mWh V A T (T q).toNat) = 1
        · have hr := mHelp_r hI (mHp V g A T (T q).toNat) q (by omega)
          have hfc := hI 3 (T q).toNat hw
          obtain ⟨-, -, -, -, -, -, -, x3, x4⟩ := hfc
          simp only [if_pos hf, (b3 (T q).toNat hw t4).2, w32_id (show -2147483648 ≤ V 68 (T q).toNat + fS (fun q_1 => if mHp V g A T (T q).toNat q_1 = true then V 68 q_1 else 0) q + V 68 q by omega) (by omega)] at st
          refine ⟨(), _, ⟨b1.up rfl, fun p hp hi => by rw [up_k (by decide)]; exact b2 p hp hi, fun p hp hi => ⟨by rw [up_k (by decide)]; exact (b3 p hp hi).1, ?_⟩, fun p hp hi => by rw [up_k (by decide), up_k (by decide)]; exact b4 p hp hi⟩, fun N => st N⟩
          rw [fS]
          by_cases e : p = (T q).toNat
          · subst e
            have : mHp V g A T (T q).toNat q = true := by
              unfold mHp
              rw [hP, hcut, decide_eq_true ⟨hm2, by omega, hf⟩]
              rfl
            rw [up_same, this, if_pos rfl, Int.add_assoc]
          · have : mHp V g A T p q = false := by
              unfold mHp
              rw [decide_eq_false (fun k => e (by have := k.2.1; omega))]
              simp
            rw [up_j e, (b3 p hp hi).2, this, if_neg (by decide), Int.add_zero]
        · simp only [if_neg hf] at st
          refine ⟨(), s, ⟨b1, b2, hno (fun p hp hi => ?_), b4⟩, fun N => st N⟩
          unfold mHp
          rw [decide_eq_false (fun k => hf (by have := k.2.1; rw [show (T q).toNat = p by omega]; exact k.2.2))]
          simp
    · simp only [if_neg hm2] at st
      refine ⟨(), s, ⟨b1, b2, hno (fun p hp hi => ?_), b4⟩, fun N => st N⟩
      unfold mHp
      rw [decide_eq_false (fun k => hm2 k.1)]
      simp) (a := ()) (s := s2) ⟨c1, fun p hp hi => by rw [c2 p hp hi]; rfl, fun p hp hi => ⟨(c3 p hp hi).1, by rw [(c3 p hp hi).2]; exact (Int.add_zero _).symm⟩, c4⟩
  refine ⟨s3, d1, fun p hp hi => ⟨(d3 p hp hi).2, (d3 p hp hi).1⟩, d4, ?_⟩
  have hR3 := h.sc d1
  have f1 := e1 (999999 - (mlist (mIn V g) (nP V)).length)
  rw [Nat.sub_add_cancel (by omega)] at f1
  have f1 : t_tr tbl mtb (t_run tbl mtb (d + 2)) 16 999999 2 [some (vh 3 0), some (vi 0), none, none] [] σ = _ := f1
  rw [f1, show 999999 - (mlist (mIn V g) (nP V)).length = 999999 - (mlist (mIn V g) (nP V)).length - 1 - (mlist (mIn V g) (nP V)).length + (mlist (mIn V g) (nP V)).length + 1 by omega, tr_step (s_kX4_measure_2 _ ((mlist (mIn V g) (nP V)).length : Int) s1), hR1.1, if_neg (by omega), nx_inl]
  have f2 := e2 (999999 - (mlist (mIn V g) (nP V)).length - 1 - (mlist (mIn V g) (nP V)).length)
  have f2 : t_tr tbl mtb (t_run tbl mtb (d + 2)) 16 (999999 - (mlist (mIn V g) (nP V)).length - 1 - (mlist (mIn V g) (nP V)).length + (mlist (mIn V g) (nP V)).length) 54 [some (vh 3 0), some (vi 0), none, none] [] s1 = _ := f2
  rw [f2, show 999999 - (mlist (mIn V g) (nP V)).length - 1 - (mlist (mIn V g) (nP V)).length = 999999 - (mlist (mIn V g) (nP V)).length - 1 - (mlist (mIn V g) (nP V)).length - 1 - (mlist (mIn V g) (nP V)).length + (mlist (mIn V g) (nP V)).length + 1 by omega, tr_step (s_kX4_measure_54 _ ((mlist (mIn V g) (nP V)).length : Int) s2), hR2.1, if_neg (by omega), nx_inl]
  have f3 := e3 (999999 - (mlist (mIn V g) (nP V)).length - 1 - (mlist (mIn V g) (nP V)).length - 1 - (mlist (mIn V g) (nP V)).length)
  have f3 : t_tr tbl mtb (t_run tbl mtb (d + 2)) 16 (999999 - (mlist (mIn V g) (nP V)).length - 1 - (mlist (mIn V g) (nP V)).length - 1 - (mlist (mIn V g) (nP V)).length + (mlist (mIn V g) (nP V)).length) 136 [some (vh 3 0), some (vi 0), none, none] [] s2 = _ := f3
  rw [f3, show 999999 - (mlist (mIn V g) (nP V)).length - 1 - (mlist (mIn V g) (nP V)).length - 1 - (mlist (mIn V g) (nP V)).length = 999999 - (mlist (mIn V g) (nP V)).length - 1 - (mlist (mIn V g) (nP V)).length - 1 - (mlist (mIn V g) (nP V)).length - 1 + 1 by omega, tr_step (s_kX4_measure_136 _ ((mlist (mIn V g) (nP V)).length : Int) s3), hR3.1, if_neg (by omega)]
  rfl
end
