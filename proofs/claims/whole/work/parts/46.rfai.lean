-- the reference's moves: findFailed()
theorem loop_relc {O : TO} {k pc c : Nat} (I : Nat → TL → TM → Prop) (N : Nat) (hs : ∀ p L σ, p < N → I p L σ → ∃ L' σ', I (p + 1) L' σ' ∧ ∀ n, t_tr tbl mtb O k (n + c) pc L [] σ = t_tr tbl mtb O k n pc L' [] σ') : ∀ m p L σ, p + m = N → I p L σ → ∃ L' σ', I N L' σ' ∧ ∀ n, t_tr tbl mtb O k (n + m * c) pc L [] σ = t_tr tbl mtb O k n pc L' [] σ'
  | 0, p, L, σ, h, hI => by
    subst h
    exact ⟨L, σ, hI, fun n => by rw [Nat.zero_mul, Nat.add_zero]⟩
  | m + 1, p, L, σ, h, hI => by
    obtain ⟨L1, σ1, hI1, e1⟩ := hs p L σ (by omega) hI
    obtain ⟨L2, σ2, hI2, e2⟩ := loop_relc I N hs m (p + 1) L1 σ1 (by omega) hI1
    refine ⟨L2, σ2, hI2, fun n => ?_⟩
    rw [Nat.succ_mul, ← Nat.add_assoc]
    exact (e1 (n + m * c)).trans (e2 n)
theorem mIt_nn (V : TVw) (g : Int) (A T I : Nat → Int) : ∀ k x, 0 ≤ mIt V g A T I k x
  | 0, x => by
    show 0 ≤ mF0 V g A T I x
    unfold mF0
    (repeat' split) <;> omega
  | k + 1, x => by
    rcases mPk_ch V g A T (mIt V g A T I k) (nP V) x with q | ⟨_, _, _, q⟩
    · have := mIt_nn V g A T I k x
      show 0 ≤ mPk V g A T (mIt V g A T I k) (nP V) x
      omega
    · show 0 ≤ mPk V g A T (mIt V g A T I k) (nP V) x
      omega
theorem mPk_nn (V : TVw) (g : Int) (A T F : Nat → Int) (h : ∀ x, 0 ≤ F x) (k x : Nat) : 0 ≤ mPk V g A T F k x := by
  rcases mPk_ch V g A T F k x with q | ⟨_, _, _, q⟩
  · have := h x
    omega
  · omega
section
variable {σ : TM} {V : TVw} {g : Int} {A T I : Nat → Int} {d : Nat}
/-- what stands while failures are found -/
def RF (σ s : TM) (V : TVw) (g : Int) (A T I : Nat → Int) : Prop := Sc srm σ s ∧ RMr s V g A T ∧ (∀ p, p < nP V → mIn V g p = true → s 97 0 p = mSt V g A T p) ∧ (∀ p, p < nP V → mMv V g A p = true → s 98 0 p = I p) ∧ (∀ p, s 100 0 p = σ 100 0 p)
theorem RF.up {s : TM} (h : RF σ s V g A T I) (p : Nat) (v : Int) : RF σ (t_upd s 99 0 p v) V g A T I := by
  obtain ⟨h1, h2, h3, h4, h5⟩ := h
  exact ⟨h1.up rfl, fun p hp hi => by rw [up_k (by decide), up_k (by decide)]; exact h2 p hp hi, fun p hp hi => by rw [up_k (by decide)]; exact h3 p hp hi, fun p hp hm => by rw [up_k (by decide)]; exact h4 p hp hm, fun p => by rw [up_k (by decide)]; exact h5 p⟩
theorem mBt_iff {p q : Nat} : mBt V g A T I q p = true ↔ mMv V g A q = true ∧ T q = T p ∧ (mSt V g A T p < mSt V g A T q ∨ mSt V g A T p = mSt V g A T q ∧ I p ≤ I q) := by
  unfold mBt
  rw [Bool.and_eq_true, decide_eq_true_eq]
set_option maxHeartbeats 8000000 in
theorem r_fail1 (hV : RV σ V) (hI : Inv V) (h : RF σ σ V g A T I) (h99 : ∀ p, p < nP V → σ 99 0 p = 0) : ∃ s, RF σ s V g A T I ∧ (∀ p, p < nP V → s 99 0 p = if mMv V g A p = true ∧ mF1 V g A T I p = true then 1 else 0) ∧ ∀ n, t_tr tbl mtb (t_run tbl mtb (d + 3)) 210 (n + nP V * (nP V + 2)) 2 [some (vh 51 0), some (vi g), some (vi 0), none, none, none, none] [] σ = t_tr tbl mtb (t_run tbl mtb (d + 3)) 210 n 2 [some (vh 51 0), some (vi g), some (vi (nP V : Int)), none, none, none, none] [] s := by
  have h0 := hI.cnt
  obtain ⟨L, s, ⟨a1, rfl, a2⟩, e⟩ := loop_relc (c := nP V + 2) (O := t_run tbl mtb (d + 3)) (k := 210) (pc := 2) (fun p L s => RF σ s V g A T I ∧ L = [some (vh 51 0), some (vi g), some (vi (p : Int)), none, none, none, none] ∧ (∀ x, x < nP V → s 99 0 x = if x < p ∧ mMv V g A x = true ∧ mF1 V g A T I x = true then 1 else 0)) (nP V) (by
    rintro p L s hp ⟨b1, rfl, b2⟩
    have hVs := hV.sc b1.1.rm
    obtain ⟨L', s', ⟨c1, rfl, c2⟩, e⟩ := loop_rel (O := t_run tbl mtb (d + 3)) (k := 210) (pc := 12) (fun q L s' => RF σ s' V g A T I ∧ L = [some (vh 51 0), some (vi g), some (vi (p : Int)), some (vi (q : Int)), none, none, none] ∧ (∀ x, x < nP V → s' 99 0 x = if x < p ∧ mMv V g A x = true ∧ mF1 V g A T I x = true ∨ x = p ∧ mMv V g A p = true ∧ fE (fun z => decide (z ≠ p) && mBt V g A T I z p) q = true then 1 else 0)) (nP V) (by
      rintro q L s' hq ⟨c1, rfl, c2⟩
      have hVt := hV.sc c1.1.rm
      obtain ⟨c0, cR, c97, c98, c100⟩ := c1
      have c1 : RF σ s' V g A T I := ⟨c0, cR, c97, c98, c100⟩
      have r1 : 0 ≤ (p : Int) ∧ (p : Int) < 40 := by omega
      have r2 : 0 ≤ (q : Int) ∧ (q : Int) < 40 := by omega
      have ep := r_moves (d := d) hVt hI cR hp
      have eq := r_moves (d := d) hVt hI cR hq
      have st := fun N => tr_step (n := N) (s_kX12_findFailed_12 (t_run tbl mtb (d + 3)) g p q s' )
      simp only [hVt 51 23 rfl rfl rfl, if_pos (show (q : Int) < V 51 23 by omega), w32_nat (show q < 2147483647 by omega), Int.toNat_natCast, ep, eq, ci_ok, bi_0, if_pos r1, if_pos r2] at st
      have hno : (mMv V g A p = true → (decide (q ≠ p) && mBt V g A T I q p) = false) → ∀ x, x < nP V → s' 99 0 x = if x < p ∧ mMv V g A x = true ∧ mF1 V g A T I x = true ∨ x = p ∧ mMv V g A p = true ∧ fE (fun z => decide (z ≠ p) && mBt V g A T I z p) (q + 1) = true then 1 else 0 := by
        intro hz x hx
        rw [c2 x hx, fE]
        cases hm : mMv V g A p with
        | false => simp
        | true => rw [hz hm, Bool.or_false]
      have hup : mMv V g A p = true → (decide (q ≠ p) && mBt V g A T I q p) = true → ∀ x, x < nP V → t_upd s' 99 0 p 1 99 0 x = if x < p ∧ mMv V g A x = true ∧ mF1 V g A T I x = true ∨ x = p ∧ mMv V g A p = true ∧ fE (fun z => decide (z ≠ p) && mBt V g A T I z p) (q + 1) = true then 1 else 0 := by
        intro hm hz x hx
        rw [fE, hz, Bool.or_true]
        by_cases e : x = p
        · subst e
          rw [up_same, if_pos (.inr ⟨rfl, hm, rfl⟩)]
        · rw [up_j e, c2 x hx]
          by_cases k1 : x < p ∧ mMv V g A x = true ∧ mF1 V g A T I x = true
          · rw [if_pos (.inl k1), if_pos (.inl k1)]
          · rw [if_neg (fun k => k.elim k1 (fun k => e k.1)), if_neg (fun k => k.elim k1 (fun k => e k.1))]
      by_cases hpq : p = q
      · have hpq' : (p : Int) = (q : Int) := by omega
        simp only [if_pos hpq'] at st
        exact ⟨_, s', ⟨c1, rfl, hno (fun _ => by simp [hpq])⟩, fun N => st N⟩
      · have hpq' : ¬ (p : Int) = (q : Int) := by omega
        simp only [if_neg hpq'] at st
        by_cases mp : mMv V g A p = true
        · simp only [mp, if_neg (show ¬ true = false by decide)] at st
          by_cases mq : mMv V g A q = true
          · have ip := mMv_iff.mp mp
            have iq := mMv_iff.mp mq
            simp only [mq, if_neg (show ¬ true = false by decide), (cR p hp ip.1).2 (by omega), (cR q hq iq.1).2 (by omega), c97 p hp ip.1, c97 q hq iq.1, c98 p hp mp, c98 q hq mq] at st
            have hfin : ((decide (q ≠ p) && mBt V g A T I q p) = true ↔ T q = T p ∧ (mSt V g A T p < mSt V g A T q ∨ mSt V g A T p = mSt V g A T q ∧ I p ≤ I q)) := by
              rw [Bool.and_eq_true, decide_eq_true_eq, mBt_iff]
              exact ⟨fun k => k.2.2, fun k => ⟨fun k2 => hpq k2.symm, mq, k⟩⟩
            have hfin2 : ¬ (T q = T p ∧ (mSt V g A T p < mSt V g A T q ∨ mSt V g A T p = mSt V g A T q ∧ I p ≤ I q)) → (decide (q ≠ p) && mBt V g A T I q p) = false := by
              intro k
              cases k2 : (decide (q ≠ p) && mBt V g A T I q p) with
              | false => rfl
              | true => exact absurd (hfin.mp k2) k
            by_cases t1 : T p = T q
            · simp only [if_pos t1] at st
              by_cases t2 : mSt V g A T p < mSt V g A T q
              · simp only [if_pos t2] at st
                exact ⟨_, _, ⟨c1.up _ _, rfl, hup mp (hfin.mpr ⟨t1.symm, .inl t2⟩)⟩, fun N => st N⟩
              · simp only [if_neg t2] at st
                by_cases t3 : mSt V g A T q = mSt V g A T p
                · simp only [if_pos t3] at st
                  by_cases t4 : I q < I p
                  · simp only [if_pos t4] at st
                    exact ⟨_, s', ⟨c1, rfl, hno (fun _ => hfin2 (fun k => by omega))⟩, fun N => st N⟩
                  · simp only [if_neg t4] at st
                    exact ⟨_, _, ⟨c1.up _ _, rfl, hup mp (hfin.mpr ⟨t1.symm, .inr ⟨t3.symm, by omega⟩⟩)⟩, fun N => st N⟩
                · simp only [if_neg t3] at st
                  exact ⟨_, s', ⟨c1, rfl, hno (fun _ => hfin2 (fun k => by omega))⟩, fun N => st N⟩
            · simp only [if_neg t1] at st
              exact ⟨_, s', ⟨c1, rfl, hno (fun _ => hfin2 (fun k => t1 k.1.symm))⟩, fun N => st N⟩
          · have mqe : mMv V g A q = false := by simpa using mq
            simp only [mqe, if_true] at st
            refine ⟨_, s', ⟨c1, rfl, hno (fun _ => ?_)⟩, fun N => st N⟩
            rw [Bool.and_eq_false_iff]
            right
            cases k : mBt V g A T I q p with
            | false => rfl
            | true => exact absurd (mBt_iff.mp k).1 mq
        · have mpe : mMv V g A p = false := by simpa using mp
          simp only [mpe, if_true] at st
          exact ⟨_, s', ⟨c1, rfl, hno (fun k => absurd k mp)⟩, fun N => st N⟩) (nP V) 0 [some (vh 51 0), some (vi g), some (vi (p : Int)), some (vi ((0 : Nat) : Int)), none, none, none] s (by omega) ⟨b1, rfl, fun x hx => by
        rw [b2 x hx]
        by_cases k1 : x < p ∧ mMv V g A x = true ∧ mF1 V g A T I x = true
        · rw [if_pos k1, if_pos (.inl k1)]
        · rw [if_neg k1, if_neg (fun k => k.elim k1 (fun k => by have := k.2.2; cases this))]⟩
    have hVt := hV.sc c1.1.rm
    refine ⟨_, s', ⟨c1, rfl, fun x hx => ?_⟩, fun n => ?_⟩
    · rw [c2 x hx]
      have hF : mF1 V g A T I p = fE (fun z => decide (z ≠ p) && mBt V g A T I z p) (nP V) := rfl
      rw [← hF]
      by_cases k1 : x < p ∧ mMv V g A x = true ∧ mF1 V g A T I x = true
      · rw [if_pos (.inl k1), if_pos ⟨by omega, k1.2⟩]
      · by_cases k2 : x = p ∧ mMv V g A p = true ∧ mF1 V g A T I p = true
        · rw [if_pos (.inr k2), if_pos ⟨by omega, by rw [k2.1]; exact k2.2⟩]
        · rw [if_neg (fun k => k.elim k1 k2), if_neg]
          rintro ⟨k3, k4, k5⟩
          by_cases e : x = p
          · subst e; exact k2 ⟨rfl, k4, k5⟩
          · exact k1 ⟨by omega, k4, k5⟩
    · rw [show n + (nP V + 2) = n + 1 + nP V + 1 by omega, tr_step (s_kX12_findFailed_2 _ g p s), hVs 51 23 rfl rfl rfl, if_pos (by omega), nx_inl]
      have e := e (n + 1)
      have e : t_tr tbl mtb (t_run tbl mtb (d + 3)) 210 (n + 1 + nP V) 12 [some (vh 51 0), some (vi g), some (vi (p : Int)), some (vi 0), none, none, none] [] s = _ := e
      rw [e, tr_step (s_kX12_findFailed_12 _ g p (nP V : Int) s'), hVt 51 23 rfl rfl rfl, if_neg (by omega), nx_inl, w32_nat (by omega)]) (nP V) 0 [some (vh 51 0), some (vi g), some (vi ((0 : Nat) : Int)), none, none, none, none] σ (by omega) ⟨h, rfl, fun x hx => by rw [h99 x hx, if_neg (fun k => by have := k.1; omega)]⟩
  refine ⟨s, a1, fun p hp => ?_, e⟩
  rw [a2 p hp]
  by_cases k : mMv V g A p = true ∧ mF1 V g A T I p = true
  · rw [if_pos ⟨hp, k⟩, if_pos k]
  · rw [if_neg (fun q => k q.2), if_neg k]
set_option maxHeartbeats 8000000 in
theorem r_fail2 {s0 : TM} (hV : RV σ V) (hI : Inv V) (h : RF σ s0 V g A T I) (h99 : ∀ p, p < nP V → s0 99 0 p = if mMv V g A p = true ∧ mF1 V g A T I p = true then 1 else 0) : ∃ s, RF σ s V g A T I ∧ (∀ p, p < nP V → s 99 0 p = mF0 V g A T I p) ∧ ∀ n, t_tr tbl mtb (t_run tbl mtb (d + 3)) 210 (n + nP V * (nP V + 2)) 136 [some (vh 51 0), some (vi g), some (vi 0), none, none, none, none] [] s0 = t_tr tbl mtb (t_run tbl mtb (d + 3)) 210 n 136 [some (vh 51 0), some (vi g), some (vi (nP V : Int)), none, none, none, none] [] s := by
  have h0 := hI.cnt
  obtain ⟨L, s, ⟨a1, rfl, a2⟩, e⟩ := loop_relc (c := nP V + 2) (O := t_run tbl mtb (d + 3)) (k := 210) (pc := 136) (fun p L s => RF σ s V g A T I ∧ L = [some (vh 51 0), some (vi g), some (vi (p : Int)), none, none, none, none] ∧ (∀ x, x < nP V → s 99 0 x = if x < p then mF0 V g A T I x else if mMv V g A x = true ∧ mF1 V g A T I x = true then 1 else 0)) (nP V) (by
    rintro p L s hp ⟨b1, rfl, b2⟩
    have hVs := hV.sc b1.1.rm
    obtain ⟨L', s', ⟨c1, rfl, c2⟩, e⟩ := loop_rel (O := t_run tbl mtb (d + 3)) (k := 210) (pc := 146) (fun q L s' => RF σ s' V g A T I ∧ L = [some (vh 51 0), some (vi g), some (vi (p : Int)), some (vi (q : Int)), none, none, none] ∧ (∀ x, x < nP V → s' 99 0 x = if x < p then mF0 V g A T I x else if mMv V g A x = true ∧ mF1 V g A T I x = true then 1 else if x = p ∧ mMv V g A p = true ∧ fE (fun z => mSw V g A T I p z && decide (mSt V g A T p ≤ mSt V g A T z)) q = true then 2 else 0)) (nP V) (by
      rintro q L s' hq ⟨c1, rfl, c2⟩
      have hVt := hV.sc c1.1.rm
      obtain ⟨c0, cR, c97, c98, c100⟩ := c1
      have c1 : RF σ s' V g A T I := ⟨c0, cR, c97, c98, c100⟩
      have r1 : 0 ≤ (p : Int) ∧ (p : Int) < 40 := by omega
      have r2 : 0 ≤ (q : Int) ∧ (q : Int) < 40 := by omega
      have ep := r_moves (d := d) hVt hI cR hp
      have eq := r_moves (d := d) hVt hI cR hq
      have st := fun N => tr_step (n := N) (s_kX12_findFailed_146 (t_run tbl mtb (d + 3)) g p q s' )
      simp only [hVt 51 23 rfl rfl rfl, if_pos (show (q : Int) < V 51 23 by omega), w32_nat (show q < 2147483647 by omega), Int.toNat_natCast, ep, eq, ci_ok, bi_0, if_pos r1, if_pos r2] at st
      have hno : (mMv V g A p = true → mF1 V g A T I p = false → (mSw V g A T I p q && decide (mSt V g A T p ≤ mSt V g A T q)) = false) → ∀ x, x < nP V → s' 99 0 x = if x < p then mF0 V g A T I x else if mMv V g A x = true ∧ mF1 V g A T I x = true then 1 else if x = p ∧ mMv V g A p = true ∧ fE (fun z => mSw V g A T I p z && decide (mSt V g A T p ≤ mSt V g A T z)) (q + 1) = true then 2 else 0 := by
        intro hz x hx
        rw [c2 x hx, fE]
        by_cases x1 : x < p
        · rw [if_pos x1, if_pos x1]
        · rw [if_neg x1, if_neg x1]
          by_cases x2 : mMv V g A x = true ∧ mF1 V g A T I x = true
          · rw [if_pos x2, if_pos x2]
          · rw [if_neg x2, if_neg x2]
            by_cases e : x = p
            · subst e
              cases hm : mMv V g A x with
              | false => simp
              | true =>
                have hf : mF1 V g A T I x = false := by
                  cases k : mF1 V g A T I x with
                  | false => rfl
                  | true => exact absurd ⟨hm, k⟩ x2
                rw [hz hm hf, Bool.or_false]
            · rw [if_neg (fun k => e k.1), if_neg (fun k => e k.1)]
      by_cases hpq : p = q
      · have hpq' : (p : Int) = (q : Int) := by omega
        simp only [if_pos hpq'] at st
        refine ⟨_, s', ⟨c1, rfl, hno (fun _ _ => ?_)⟩, fun N => st N⟩
        rw [Bool.and_eq_false_iff]
        left
        unfold mSw
        simp [hpq]
      · have hpq' : ¬ (p : Int) = (q : Int) := by omega
        simp only [if_neg hpq'] at st
        by_cases mp : mMv V g A p = true
        · simp only [mp, if_neg (show ¬ true = false by decide)] at st
          by_cases mq : mMv V g A q = true
          · have ip := mMv_iff.mp mp
            have iq := mMv_iff.mp mq
            have vp : s' 99 0 p = if mF1 V g A T I p = true then 1 else if fE (fun z => mSw V g A T I p z && decide (mSt V g A T p ≤ mSt V g A T z)) q = true then 2 else 0 := by
              rw [c2 p hp, if_neg (Nat.lt_irrefl p)]
              by_cases k : mF1 V g A T I p = true
              · rw [if_pos ⟨mp, k⟩, if_pos k]
              · rw [if_neg (fun z => k z.2), if_neg k]
                by_cases k2 : fE (fun z => mSw V g A T I p z && decide (mSt V g A T p ≤ mSt V g A T z)) q = true
                · rw [if_pos ⟨rfl, mp, k2⟩, if_pos k2]
                · rw [if_neg (fun z => k2 z.2.2), if_neg k2]
            have vq : s' 99 0 q = 1 ↔ mF1 V g A T I q = true := by
              rw [c2 q hq]
              by_cases k1 : q < p
              · rw [if_pos k1]
                unfold mF0
                rw [if_pos mq]
                by_cases k : mF1 V g A T I q = true
                · rw [if_pos k]; exact ⟨fun _ => k, fun _ => rfl⟩
                · rw [if_neg k]
                  exact ⟨fun z => by split at z <;> omega, fun z => absurd z k⟩
              · rw [if_neg k1]
                by_cases k : mF1 V g A T I q = true
                · rw [if_pos ⟨mq, k⟩]; exact ⟨fun _ => k, fun _ => rfl⟩
                · rw [if_neg (fun z => k z.2)]
                  exact ⟨fun z => by split at z <;> omega, fun z => absurd z k⟩
            simp only [mq, if_neg (show ¬ true = false by decide), (cR p hp ip.1).2 (by omega), (cR q hq iq.1).2 (by omega), c97 p hp ip.1, c97 q hq iq.1, hVt 66 _ rfl rfl rfl] at st
            by_cases f1 : mF1 V g A T I p = true
            · have v1 : s' 99 0 p = 1 := by rw [vp, if_pos f1]
              simp only [if_pos v1] at st
              exact ⟨_, s', ⟨c1, rfl, hno (fun _ k => by rw [f1] at k; cases k)⟩, fun N => st N⟩
            · have v1 : ¬ s' 99 0 p = 1 := by
                rw [vp, if_neg f1]
                split <;> omega
              simp only [if_neg v1] at st
              have hsw : ∀ b : Prop, (¬ b → (mSw V g A T I p q = true → b)) → True := fun _ _ => trivial
              by_cases f2 : mF1 V g A T I q = true
              · simp only [if_pos (vq.mpr f2)] at st
                refine ⟨_, s', ⟨c1, rfl, hno (fun _ _ => ?_)⟩, fun N => st N⟩
                rw [Bool.and_eq_false_iff]
                left
                cases k : mSw V g A T I p q with
                | false => rfl
                | true => rw [((mSw_iff V g A T I).mp k).2.2.1] at f2; cases f2
              · have f2' : mF1 V g A T I q = false := by
                  cases k : mF1 V g A T I q with
                  | false => rfl
                  | true => exact absurd k f2
                simp only [if_neg (fun k => f2 (vq.mp k))] at st
                by_cases t1 : T p = V 66 q
                · simp only [if_pos t1] at st
                  by_cases t2 : T q = V 66 p
                  · simp only [if_pos t2] at st
                    have sw : mSw V g A T I p q = true := (mSw_iff V g A T I).mpr ⟨fun k => hpq k.symm, mq, f2', t1, t2⟩
                    by_cases t3 : mSt V g A T q < mSt V g A T p
                    · simp only [if_pos t3] at st
                      refine ⟨_, s', ⟨c1, rfl, hno (fun _ _ => ?_)⟩, fun N => st N⟩
                      rw [Bool.and_eq_false_iff]
                      right
                      exact decide_eq_false (by omega)
                    · simp only [if_neg t3] at st
                      refine ⟨_, _, ⟨c1.up p 2, rfl, fun x hx => ?_⟩, fun N => st N⟩
                      rw [fE, sw, decide_eq_true (show mSt V g A T p ≤ mSt V g A T q by omega), Bool.and_true, Bool.or_true]
                      by_cases e : x = p
                      · subst e
                        rw [up_same, if_neg (Nat.lt_irrefl x), if_neg (fun k => f1 k.2), if_pos ⟨rfl, mp, rfl⟩]
                      · rw [up_j e, c2 x hx]
                        by_cases x1 : x < p
                        · rw [if_pos x1, if_pos x1]
                        · rw [if_neg x1, if_neg x1]
                          by_cases x2 : mMv V g A x = true ∧ mF1 V g A T I x = true
                          · rw [if_pos x2, if_pos x2]
                          · rw [if_neg x2, if_neg x2, if_neg (fun k => e k.1), if_neg (fun k => e k.1)]
                  · simp only [if_neg t2] at st
                    refine ⟨_, s', ⟨c1, rfl, hno (fun _ _ => ?_)⟩, fun N => st N⟩
                    rw [Bool.and_eq_false_iff]
                    left
                    cases k : mSw V g A T I p q with
                    | false => rfl
                    | true => exact absurd ((mSw_iff V g A T I).mp k).2.2.2.2 t2
                · simp only [if_neg t1] at st
                  refine ⟨_, s', ⟨c1, rfl, hno (fun _ _ => ?_)⟩, fun N => st N⟩
                  rw [Bool.and_eq_false_iff]
                  left
                  cases k : mSw V g A T I p q with
                  | false => rfl
                  | true => exact absurd ((mSw_iff V g A T I).mp k).2.2.2.1 t1
          · have mqe : mMv V g A q = false := by simpa using mq
            simp only [mqe, if_true] at st
            refine ⟨_, s', ⟨c1, rfl, hno (fun _ _ => ?_)⟩, fun N => st N⟩
            rw [Bool.and_eq_false_iff]
            left
            cases k : mSw V g A T I p q with
            | false => rfl
            | true => exact absurd ((mSw_iff V g A T I).mp k).2.1 mq
        · have mpe : mMv V g A p = false := by simpa using mp
          simp only [mpe, if_true] at st
          exact ⟨_, s', ⟨c1, rfl, hno (fun k => absurd k mp)⟩, fun N => st N⟩) (nP V) 0 [some (vh 51 0), some (vi g), some (vi (p : Int)), some (vi ((0 : Nat) : Int)), none, none, none] s (by omega) ⟨b1, rfl, fun x hx => by
        rw [b2 x hx]
        by_cases x1 : x < p
        · rw [if_pos x1, if_pos x1]
        · rw [if_neg x1, if_neg x1]
          by_cases x2 : mMv V g A x = true ∧ mF1 V g A T I x = true
          · rw [if_pos x2, if_pos x2]
          · rw [if_neg x2, if_neg x2, if_neg (fun k => by have := k.2.2; cases this)]⟩
    have hVt := hV.sc c1.1.rm
    refine ⟨_, s', ⟨c1, rfl, fun x hx => ?_⟩, fun n => ?_⟩
    · rw [c2 x hx]
      have hF : mF2 V g A T I p = fE (fun z => mSw V g A T I p z && decide (mSt V g A T p ≤ mSt V g A T z)) (nP V) := rfl
      rw [← hF]
      by_cases x1 : x < p
      · rw [if_pos x1, if_pos (show x < p + 1 by omega)]
      · rw [if_neg x1]
        by_cases e : x = p
        · subst e
          rw [if_pos (show x < x + 1 by omega)]
          unfold mF0
          by_cases hm : mMv V g A x = true
          · simp only [hm, true_and, if_true]
          · simp [hm]
        · rw [if_neg (show ¬ x < p + 1 by omega)]
          by_cases x2 : mMv V g A x = true ∧ mF1 V g A T I x = true
          · rw [if_pos x2, if_pos x2]
          · rw [if_neg x2, if_neg x2, if_neg (fun k => e k.1)]
    · rw [show n + (nP V + 2) = n + 1 + nP V + 1 by omega, tr_step (s_kX12_findFailed_136 _ g p s), hVs 51 23 rfl rfl rfl, if_pos (by omega), nx_inl]
      have e := e (n + 1)
      have e : t_tr tbl mtb (t_run tbl mtb (d + 3)) 210 (n + 1 + nP V) 146 [some (vh 51 0), some (vi g), some (vi (p : Int)), some (vi 0), none, none, none] [] s = _ := e
      rw [e, tr_step (s_kX12_findFailed_146 _ g p (nP V : Int) s'), hVt 51 23 rfl rfl rfl, if_neg (by omega), nx_inl, w32_nat (by omega)]) (nP V) 0 [some (vh 51 0), some (vi g), some (vi ((0 : Nat) : Int)), none, none, none, none] s0 (by omega) ⟨h, rfl, fun x hx => by rw [h99 x hx, if_neg (show ¬ x < 0 by omega)]⟩
  refine ⟨s, a1, fun p hp => ?_, e⟩
  rw [a2 p hp, if_pos hp]
end
