-- the class's Moves: failSwaps(), failBlocked(), workOut()
section
variable (V : TVw) (g : Int) (A T I : Nat → Int)
def mS2 (k p : Nat) : Bool := fE (fun q => mSw V g A T I p q && decide (mSt V g A T p ≤ mSt V g A T q ∧ (p < k ∨ q < k))) (nP V)
def mGs (k p : Nat) : Int := if mMv V g A p = true then (if mF1 V g A T I p = true then 1 else if mS2 V g A T I k p = true then 2 else 0) else 0
theorem mSw_iff {p q : Nat} : mSw V g A T I p q = true ↔ q ≠ p ∧ mMv V g A q = true ∧ mF1 V g A T I q = false ∧ T p = V 66 q ∧ T q = V 66 p := by
  unfold mSw
  simp only [Bool.and_eq_true, decide_eq_true_eq, Bool.not_eq_true']
  constructor
  · rintro ⟨⟨⟨a, b⟩, c⟩, d⟩
    exact ⟨a, b, c, d⟩
  · rintro ⟨a, b, c, d⟩
    exact ⟨⟨⟨a, b⟩, c⟩, d⟩
theorem mS2_iff {k p : Nat} : mS2 V g A T I k p = true ↔ ∃ q, q < nP V ∧ mSw V g A T I p q = true ∧ mSt V g A T p ≤ mSt V g A T q ∧ (p < k ∨ q < k) := by
  unfold mS2
  rw [fE_iff]
  simp only [Bool.and_eq_true, decide_eq_true_eq]
theorem mS2_n {p : Nat} : mS2 V g A T I (nP V) p = mF2 V g A T I p := by
  rw [Bool.eq_iff_iff, mS2_iff]
  unfold mF2
  rw [fE_iff]
  simp only [Bool.and_eq_true, decide_eq_true_eq]
  constructor
  · rintro ⟨q, a, b, c, d⟩
    exact ⟨q, a, b, c⟩
  · rintro ⟨q, a, b, c⟩
    exact ⟨q, a, b, c, .inr a⟩
theorem mGs_same {k p : Nat} (h : ∀ q, q < nP V → mMv V g A p = true → mF1 V g A T I p = false → mSw V g A T I p q = true → mSt V g A T p ≤ mSt V g A T q → (p = k ∧ k < q ∨ q = k ∧ k < p) → False) : mGs V g A T I (k + 1) p = mGs V g A T I k p := by
  unfold mGs
  by_cases hm : mMv V g A p = true
  · rw [if_pos hm, if_pos hm]
    cases hf : mF1 V g A T I p with
    | true => rfl
    | false =>
      have : mS2 V g A T I (k + 1) p = mS2 V g A T I k p := by
        rw [Bool.eq_iff_iff, mS2_iff, mS2_iff]
        constructor
        · rintro ⟨q, a, b, c, d⟩
          refine ⟨q, a, b, c, ?_⟩
          by_cases e : p < k ∨ q < k
          · exact e
          · have := ((mSw_iff V g A T I).mp b).1
            exact (h q a hm hf b c (by omega)).elim
        · rintro ⟨q, a, b, c, d⟩
          exact ⟨q, a, b, c, by omega⟩
      rw [this]
  · rw [if_neg hm, if_neg hm]
theorem mIt_z : ∀ k p, mIt V g A T I k p = 0 → mF0 V g A T I p = 0
  | 0, p, h => h
  | k + 1, p, h => mIt_z k p (mPk_z V g A T _ _ p h)
end
section
variable {σ : TM} {V : TVw} {g : Int} {A T I : Nat → Int} {d : Nat}
theorem c_goes (hI : Inv V) (h : MR σ V g A T I) {p : Nat} (hp : p < nP V) (hi : mIn V g p = true) : t_run tbl mtb (d + 1) 21 [vh 3 0, vi p] σ = some (some (vi (bi (decide (A p = 1 ∧ σ 12 0 p = 0)))), σ) := by
  have h0 := hI.cnt
  have r1 : 0 ≤ (p : Int) ∧ (p : Int) < 40 := by omega
  rw [run_go (k := 21) (as := [vh 3 0, vi p]) mt_21 (Nat.ne_of_beq_eq_false rfl) rfl (s_kX4_goes_0 _ p σ)]
  simp only [Int.toNat_natCast, if_pos r1, (h.2.2.1 p hp hi).1]
  (repeat' split) <;> exact leaf_b (by omega)
set_option maxHeartbeats 4000000 in
theorem c_failSwaps (hI : Inv V) (hA : mVA V g A T) (hU : mU V g) (h : MR σ V g A T I) (h11 : ∀ p, p < nP V → mIn V g p = true → σ 11 0 p = mSt V g A T p ∧ σ 12 0 p = if mMv V g A p = true ∧ mF1 V g A T I p = true then 1 else 0) : ∃ σ', Sc sw σ σ' ∧ (∀ p, p < nP V → mIn V g p = true → σ' 11 0 p = mSt V g A T p ∧ σ' 12 0 p = mF0 V g A T I p) ∧ (∀ c, σ' 15 0 c = σ 15 0 c) ∧ (∀ p, p < nP V → mIn V g p = false → σ' 7 0 p = σ 7 0 p ∧ σ' 12 0 p = σ 12 0 p) ∧ t_run tbl mtb (d + 3) 19 [vh 3 0] σ = some (none, σ') := by
  have h0 := hI.cnt
  have hM := mlist_le (mIn V g) (nP V)
  rw [run_go (k := 19) (as := [vh 3 0]) mt_19 (Nat.ne_of_beq_eq_false rfl) rfl (s_kX4_failSwaps_0 _ σ), nx_inl]
  obtain ⟨-, s2, ⟨c1, c2, c3, c4⟩, e2⟩ := loop_mem (O := t_run tbl mtb (d + 2)) (kk := 19) (pc := 2) (n := nP V) (mIn V g) (fun m (_ : Unit) => [some (vh 3 0), some (vi (m : Int)), none, none]) (fun k _ s => Sc sw σ s ∧ (∀ p, p < nP V → mIn V g p = true → s 11 0 p = mSt V g A T p ∧ s 12 0 p = mGs V g A T I k p) ∧ (∀ c, s 15 0 c = σ 15 0 c) ∧ (∀ p, p < nP V → mIn V g p = false → s 7 0 p = σ 7 0 p ∧ s 12 0 p = σ 12 0 p)) (by
    rintro k a s hk hP ⟨b1, b2, b3⟩
    refine ⟨b1, fun p hp hi => ⟨(b2 p hp hi).1, ?_⟩, b3⟩
    rw [(b2 p hp hi).2, mGs_same]
    rintro q hq hm hf hs hst (⟨e1, e2⟩ | ⟨e1, e2⟩)
    · subst e1; rw [hP] at hi; cases hi
    · subst e1
      have := (mMv_iff.mp ((mSw_iff V g A T I).mp hs).2.1).1
      rw [hP] at this; cases this) (by
    rintro k m a s hk hP hmm hml ⟨b1, b2, b3, b4⟩
    have hR := h.sc b1
    have r5 : 0 ≤ (k : Int) ∧ (k : Int) < 40 := by omega
    obtain ⟨g1, g2, g3⟩ := hR.2.2.1 k hk hP
    have eg := c_goes (d := d + 1) hI hR hk hP
    have st := fun N => tr_step (n := N) (s_kX4_failSwaps_2 (t_run tbl mtb (d + 2)) m s )
    simp only [Int.toNat_natCast, hR.2.1 m k hmm, if_pos r5, hR.1, if_pos (show (m : Int) < ((mlist (mIn V g) (nP V)).length : Int) by omega), if_pos (show 0 ≤ (m : Int) ∧ (m : Int) < 40 by omega), w32_nat (show m < 2147483647 by omega), eg, ci_ok, bi_0, decide_eq_false_iff_not] at st
    have hsame : (∀ p q, p < nP V → q < nP V → mMv V g A p = true → mF1 V g A T I p = false → mSw V g A T I p q = true → mSt V g A T p ≤ mSt V g A T q → (p = k ∧ k < q ∨ q = k ∧ k < p) → False) → ∀ p, p < nP V → mIn V g p = true → s 11 0 p = mSt V g A T p ∧ s 12 0 p = mGs V g A T I (k + 1) p := by
      intro hz p hp hi
      refine ⟨(b2 p hp hi).1, ?_⟩
      rw [(b2 p hp hi).2, mGs_same]
      intro q hq
      exact hz p q hp hq
    by_cases hgo : A k = 1 ∧ s 12 0 k = 0
    · have hmv : mMv V g A k = true := mMv_iff.mpr ⟨hP, hgo.1⟩
      have hT : 0 ≤ T k ∧ T k < 48 ∧ T k ≠ V 66 k := by
        rcases hA k hk hP with z | z | z
        · omega
        · exact ⟨z.2.1, z.2.2⟩
        · omega
      have hF1 : mF1 V g A T I k = false := by
        have := (b2 k hk hP).2
        rw [hgo.2] at this
        unfold mGs at this
        rw [if_pos hmv] at this
        cases e : mF1 V g A T I k with
        | false => rfl
        | true => rw [e, if_pos rfl] at this; omega
      have hS2 : mS2 V g A T I k k = false := by
        have := (b2 k hk hP).2
        rw [hgo.2] at this
        unfold mGs at this
        rw [if_pos hmv, hF1] at this
        cases e : mS2 V g A T I k k with
        | false => rfl
        | true => rw [e] at this; simp at this
      have f4 := hR.2.2.2.1 (T k).toNat (by omega)
      rw [Int.toNat_of_nonneg hT.1] at f4
      simp only [if_neg (Decidable.not_not.mpr hgo), g2 (by omega), if_pos (show 0 ≤ T k ∧ T k < 48 from ⟨hT.1, hT.2.1⟩), f4] at st
      -- the only one that k can change with
      have hpart : ∀ q, q < nP V → mSw V g A T I k q = true ∨ mSw V g A T I q k = true ∧ mMv V g A q = true → fat V g (T k) = (q : Int) := by
        rintro q hq (e | ⟨e, e0⟩)
        · have := (mSw_iff V g A T I).mp e
          exact (fat_iff hI hU (T k) hq).mpr ⟨(mMv_iff.mp this.2.1).1, this.2.2.2.1.symm⟩
        · have := (mSw_iff V g A T I).mp e
          exact (fat_iff hI hU (T k) hq).mpr ⟨(mMv_iff.mp e0).1, this.2.2.2.2.symm⟩
      have hbad : (∀ q, q < nP V → k < q → fat V g (T k) = (q : Int) → mMv V g A q = true → T q ≠ V 66 k ∨ mF1 V g A T I q = true) → ∀ p q, p < nP V → q < nP V → mMv V g A p = true → mF1 V g A T I p = false → mSw V g A T I p q = true → mSt V g A T p ≤ mSt V g A T q → (p = k ∧ k < q ∨ q = k ∧ k < p) → False := by
        rintro hz p q hp hq hm hf hs hst (⟨e1, e2⟩ | ⟨e1, e2⟩)
        · subst e1
          have hs2 := (mSw_iff V g A T I).mp hs
          rcases hz q hq e2 (hpart q hq (.inl hs)) hs2.2.1 with z | z
          · exact z hs2.2.2.2.2
          · rw [hs2.2.2.1] at z; cases z
        · subst e1
          have hs2 := (mSw_iff V g A T I).mp hs
          rcases hz p hp e2 (hpart p hp (.inr ⟨hs, hm⟩)) hm with z | z
          · exact z hs2.2.2.2.1
          · rw [hf] at z; cases z
      by_cases hlt : fat V g (T k) < (k : Int)
      · simp only [if_pos hlt] at st
        exact ⟨(), s, ⟨b1, hsame (hbad (fun q _ hkq e _ => by omega)), b3, b4⟩, fun N => st N⟩
      · simp only [if_neg hlt] at st
        rcases fat_in (V := V) (g := g) (c := T k) with z | ⟨w, w1, w2, w3, w4⟩
        · omega
        · have eg2 := c_goes (d := d + 1) hI hR w2 w3
          have r6 : 0 ≤ (w : Int) ∧ (w : Int) < 40 := by omega
          obtain ⟨h1w, h2w, h3w⟩ := hR.2.2.1 w w2 w3
          have hwk : k < w := by
            have : w ≠ k := by rintro rfl; exact hT.2.2 w4.symm
            omega
          simp only [w1, eg2, ci_ok, bi_0, decide_eq_false_iff_not, if_pos r6, Int.toNat_natCast, (hR.2.2.2.2 k hk).2.2] at st
          by_cases hgw : A w = 1 ∧ s 12 0 w = 0
          · have hmw : mMv V g A w = true := mMv_iff.mpr ⟨w3, hgw.1⟩
            simp only [if_neg (Decidable.not_not.mpr hgw), h2w (by omega)] at st
            by_cases hsw : T w = V 66 k
            · have hF1w : mF1 V g A T I w = false := by
                have := (b2 w w2 w3).2
                rw [hgw.2] at this
                unfold mGs at this
                rw [if_pos hmw] at this
                cases e : mF1 V g A T I w with
                | false => rfl
                | true => rw [e, if_pos rfl] at this; omega
              have swk : mSw V g A T I k w = true := (mSw_iff V g A T I).mpr ⟨by omega, hmw, hF1w, w4.symm, hsw⟩
              have skw : mSw V g A T I w k = true := (mSw_iff V g A T I).mpr ⟨by omega, hmv, hF1, hsw, w4.symm⟩
              have s11k := (b2 k hk hP).1
              have s11w := (b2 w w2 w3).1
              have gk : mGs V g A T I (k + 1) k = if mSt V g A T k ≤ mSt V g A T w then 2 else 0 := by
                unfold mGs
                rw [if_pos hmv, hF1, if_neg (by decide)]
                by_cases e : mSt V g A T k ≤ mSt V g A T w
                · rw [if_pos e, if_pos ((mS2_iff V g A T I).mpr ⟨w, w2, swk, e, .inl (by omega)⟩)]
                · rw [if_neg e, if_neg]
                  intro hx
                  obtain ⟨q, q1, q2, q3, -⟩ := (mS2_iff V g A T I).mp hx
                  have := hpart q q1 (.inl q2)
                  have : q = w := by omega
                  subst this
                  exact e q3
              have gw : mGs V g A T I (k + 1) w = if mSt V g A T w ≤ mSt V g A T k then 2 else 0 := by
                unfold mGs
                rw [if_pos hmw, hF1w, if_neg (by decide)]
                by_cases e : mSt V g A T w ≤ mSt V g A T k
                · rw [if_pos e, if_pos ((mS2_iff V g A T I).mpr ⟨k, hk, skw, e, .inr (by omega)⟩)]
                · rw [if_neg e, if_neg]
                  intro hx
                  obtain ⟨q, q1, q2, q3, -⟩ := (mS2_iff V g A T I).mp hx
                  have hq := (mSw_iff V g A T I).mp q2
                  have e1 := (fat_iff hI hU (T w) q1).mpr ⟨(mMv_iff.mp hq.2.1).1, hq.2.2.2.1.symm⟩
                  have e2 := (fat_iff hI hU (T w) hk).mpr ⟨hP, hsw.symm⟩
                  have : q = k := by omega
                  subst this
                  exact e q3
              have goth : ∀ p, p < nP V → p ≠ k → p ≠ w → mGs V g A T I (k + 1) p = mGs V g A T I k p := by
                intro p hp p1 p2
                refine mGs_same V g A T I (fun q hq hm hf hs hst => ?_)
                rintro (⟨e1, e2⟩ | ⟨e1, e2⟩)
                · exact p1 e1
                · subst e1
                  have := hpart p hp (.inr ⟨hs, hm⟩)
                  omega
              have gk0 : mGs V g A T I k k = 0 := by rw [← (b2 k hk hP).2, hgo.2]
              have gw0 : mGs V g A T I k w = 0 := by rw [← (b2 w w2 w3).2, hgw.2]
              simp only [if_pos hsw, s11k, s11w, up_k (show (11 : Nat) ≠ 12 by decide)] at st
              have fin : ∀ s' : TM, Sc sw σ s' → (∀ p, s' 11 0 p = s 11 0 p ∧ s' 7 0 p = s 7 0 p ∧ s' 15 0 p = s 15 0 p) → (∀ p, p ≠ k → p ≠ w → s' 12 0 p = s 12 0 p) → s' 12 0 k = (if mSt V g A T k ≤ mSt V g A T w then 2 else 0) → s' 12 0 w = (if mSt V g A T w ≤ mSt V g A T k then 2 else 0) → (Sc sw σ s' ∧ (∀ p, p < nP V → mIn V g p = true → s' 11 0 p = mSt V g A T p ∧ s' 12 0 p = mGs V g A T I (k + 1) p) ∧ (∀ c, s' 15 0 c = σ 15 0 c) ∧ (∀ p, p < nP V → mIn V g p = false → s' 7 0 p = σ 7 0 p ∧ s' 12 0 p = σ 12 0 p)) := by
                intro s' z1 z2 z3 z4 z5
                refine ⟨z1, fun p hp hi => ⟨by rw [(z2 p).1]; exact (b2 p hp hi).1, ?_⟩, fun c => by rw [(z2 c).2.2]; exact b3 c, fun p hp hi => ?_⟩
                · by_cases p1 : p = k
                  · subst p1; rw [z4, gk]
                  · by_cases p2 : p = w
                    · subst p2; rw [z5, gw]
                    · rw [z3 p p1 p2, goth p hp p1 p2]
                      exact (b2 p hp hi).2
                · have p1 : p ≠ k := by rintro rfl; rw [hP] at hi; cases hi
                  have p2 : p ≠ w := by rintro rfl; rw [w3] at hi; cases hi
                  rw [(z2 p).2.1, z3 p p1 p2]
                  exact b4 p hp hi
              by_cases q1 : mSt V g A T w < mSt V g A T k
              · have q2 : ¬ mSt V g A T k < mSt V g A T w := by omega
                simp only [if_pos q1, if_neg q2] at st
                exact ⟨(), _, fin _ (b1.up rfl) (fun p => by rw [up_k (by decide), up_k (by decide), up_k (by decide)]; exact ⟨rfl, rfl, rfl⟩) (fun p p1 p2 => up_j p2) (by rw [up_j (by omega), hgo.2, if_neg (by omega)]) (by rw [up_same, if_pos (by omega)]), fun N => st N⟩
              · simp only [if_neg q1] at st
                by_cases q2 : mSt V g A T k < mSt V g A T w
                · simp only [if_pos q2] at st
                  exact ⟨(), _, fin _ (b1.up rfl) (fun p => by rw [up_k (by decide), up_k (by decide), up_k (by decide)]; exact ⟨rfl, rfl, rfl⟩) (fun p p1 p2 => up_j p1) (by rw [up_same, if_pos (by omega)]) (by rw [up_j (by omega), hgw.2, if_neg (by omega)]), fun N => st N⟩
                · simp only [if_neg q2] at st
                  exact ⟨(), _, fin _ ((b1.up rfl).up rfl) (fun p => by rw [up_k (by decide), up_k (by decide), up_k (by decide), up_k (by decide), up_k (by decide), up_k (by decide)]; exact ⟨rfl, rfl, rfl⟩) (fun p p1 p2 => by rw [up_j p2, up_j p1]) (by rw [up_j (by omega), up_same, if_pos (by omega)]) (by rw [up_same, if_pos (by omega)]), fun N => st N⟩
            · simp only [if_neg hsw] at st
              exact ⟨(), s, ⟨b1, hsame (hbad (fun q hq hkq e hmq => by have : q = w := by omega
                                                                       subst this; exact .inl hsw)), b3, b4⟩, fun N => st N⟩
          · simp only [if_pos hgw] at st
            refine ⟨(), s, ⟨b1, hsame (hbad (fun q hq hkq e hmq => ?_)), b3, b4⟩, fun N => st N⟩
            have : q = w := by omega
            subst this
            have hv := (b2 q hq w3).2
            unfold mGs at hv
            rw [if_pos hmq] at hv
            cases e1 : mF1 V g A T I q with
            | true => exact .inr rfl
            | false =>
              rw [e1, if_neg (by decide)] at hv
              left
              intro htq
              cases e2 : mS2 V g A T I k q with
              | false =>
                rw [e2, if_neg (by decide)] at hv
                exact hgw ⟨(mMv_iff.mp hmq).2, hv⟩
              | true =>
                obtain ⟨x, x1, x2, x3, x4⟩ := (mS2_iff V g A T I).mp e2
                have hx := (mSw_iff V g A T I).mp x2
                have e3 := (fat_iff hI hU (T q) x1).mpr ⟨(mMv_iff.mp hx.2.1).1, hx.2.2.2.1.symm⟩
                have e4 := (fat_iff hI hU (T q) hk).mpr ⟨hP, htq.symm⟩
                omega
    · simp only [if_pos hgo] at st
      refine ⟨(), s, ⟨b1, hsame ?_, b3, b4⟩, fun N => st N⟩
      rintro p q hp hq hm hf hs hst hpq
      have hs2 := (mSw_iff V g A T I).mp hs
      have hkm : mMv V g A k = true ∧ mF1 V g A T I k = false := by
        rcases hpq with ⟨e1, -⟩ | ⟨e1, -⟩
        · subst e1; exact ⟨hm, hf⟩
        · subst e1; exact ⟨hs2.2.1, hs2.2.2.1⟩
      have hv := (b2 k hk hP).2
      unfold mGs at hv
      rw [if_pos hkm.1, hkm.2, if_neg (by decide)] at hv
      cases e2 : mS2 V g A T I k k with
      | false =>
        rw [e2, if_neg (by decide)] at hv
        exact hgo ⟨(mMv_iff.mp hkm.1).2, hv⟩
      | true =>
        obtain ⟨x, x1, x2, x3, x4⟩ := (mS2_iff V g A T I).mp e2
        have hx := (mSw_iff V g A T I).mp x2
        have e3 := (fat_iff hI hU (T k) x1).mpr ⟨(mMv_iff.mp hx.2.1).1, hx.2.2.2.1.symm⟩
        rcases hpq with ⟨e1, e5⟩ | ⟨e1, e5⟩
        · subst e1
          have e4 := (fat_iff hI hU (T p) hq).mpr ⟨(mMv_iff.mp hs2.2.1).1, hs2.2.2.2.1.symm⟩
          omega
        · subst e1
          have e4 := (fat_iff hI hU (T q) hp).mpr ⟨(mMv_iff.mp hm).1, hs2.2.2.2.2.symm⟩
          omega) (a := ()) (s := σ) ⟨Sc.rf, fun p hp hi => ⟨(h11 p hp hi).1, by
      rw [(h11 p hp hi).2]
      unfold mGs
      have e : mS2 V g A T I 0 p = false := by
        cases e : mS2 V g A T I 0 p with
        | false => rfl
        | true =>
          obtain ⟨x, x1, x2, x3, x4⟩ := (mS2_iff V g A T I).mp e
          omega
      rw [e]
      by_cases hm : mMv V g A p = true
      · rw [if_pos hm]
        by_cases hf : mF1 V g A T I p = true
        · rw [if_pos ⟨hm, hf⟩, if_pos hf]
        · rw [if_neg (fun k => hf k.2), if_neg hf]
          rfl
      · rw [if_neg (fun k => hm k.1), if_neg hm]⟩, fun c => rfl, fun p hp hi => ⟨rfl, rfl⟩⟩
  refine ⟨s2, c1, fun p hp hi => ⟨(c2 p hp hi).1, ?_⟩, c3, c4, ?_⟩
  · rw [(c2 p hp hi).2]
    unfold mGs mF0
    rw [mS2_n]
  have hR2 := h.sc c1
  have f2 := e2 (999999 - (mlist (mIn V g) (nP V)).length)
  rw [Nat.sub_add_cancel (by omega)] at f2
  have f2 : t_tr tbl mtb (t_run tbl mtb (d + 2)) 19 999999 2 [some (vh 3 0), some (vi 0), none, none] [] σ = _ := f2
  rw [f2, show 999999 - (mlist (mIn V g) (nP V)).length = 999999 - (mlist (mIn V g) (nP V)).length - 1 + 1 by omega, tr_step (s_kX4_failSwaps_2 _ ((mlist (mIn V g) (nP V)).length : Int) s2), hR2.1, if_neg (by omega)]
  rfl
end
