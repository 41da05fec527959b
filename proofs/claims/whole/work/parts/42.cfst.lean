-- the class's Moves: findFirst()
section
variable (V : TVw) (g : Int) (A T I : Nat → Int)
def mCm (p q : Nat) : Int := if mSt V g A T p = mSt V g A T q then (if I p < I q then -1 else if I p = I q then 0 else 1) else if mSt V g A T q < mSt V g A T p then 1 else -1
def mFb (c : Int) : Nat → Int × Bool
  | 0 => (-1, false)
  | k + 1 => if mMv V g A k = true ∧ T k = c then (if (mFb c k).1 = -1 then ((k : Int), false) else if 0 < mCm V g A T I k (mFb c k).1.toNat then ((k : Int), false) else if mCm V g A T I k (mFb c k).1.toNat = 0 then ((mFb c k).1, true) else mFb c k) else mFb c k
theorem mCm_iff (p q : Nat) : (0 < mCm V g A T I p q ↔ mSt V g A T q < mSt V g A T p ∨ mSt V g A T p = mSt V g A T q ∧ I q < I p) ∧ (mCm V g A T I p q = 0 ↔ mSt V g A T p = mSt V g A T q ∧ I p = I q) := by
  unfold mCm
  constructor <;> constructor <;> intro h <;> (repeat' split) <;> (try split at h) <;> (try split at h) <;> (try split at h) <;> omega
theorem mFb_ok (c : Int) : ∀ k, ((mFb V g A T I c k).1 = -1 ∧ (mFb V g A T I c k).2 = false ∧ ∀ q, q < k → mMv V g A q = true → T q ≠ c) ∨ ∃ p : Nat, (mFb V g A T I c k).1 = (p : Int) ∧ p < k ∧ mMv V g A p = true ∧ T p = c ∧ (∀ q, q < k → mMv V g A q = true → T q = c → ¬ 0 < mCm V g A T I q p) ∧ ((mFb V g A T I c k).2 = true ↔ ∃ q, q < k ∧ q ≠ p ∧ mMv V g A q = true ∧ T q = c ∧ mCm V g A T I q p = 0)
  | 0 => .inl ⟨rfl, rfl, fun q hq => by omega⟩
  | k + 1 => by
    have ih := mFb_ok c k
    have e : mFb V g A T I c (k + 1) = if mMv V g A k = true ∧ T k = c then (if (mFb V g A T I c k).1 = -1 then ((k : Int), false) else if 0 < mCm V g A T I k (mFb V g A T I c k).1.toNat then ((k : Int), false) else if mCm V g A T I k (mFb V g A T I c k).1.toNat = 0 then ((mFb V g A T I c k).1, true) else mFb V g A T I c k) else mFb V g A T I c k := rfl
    rw [e]
    by_cases hk : mMv V g A k = true ∧ T k = c
    · rw [if_pos hk]
      rcases ih with ⟨h1, h2, h3⟩ | ⟨p, h1, h2, h3, h4, h5, h6⟩
      · rw [if_pos h1]
        refine .inr ⟨k, rfl, by omega, hk.1, hk.2, fun q hq hm ht => ?_, ⟨fun h => (by cases h), fun ⟨q, q1, q2, q3, q4, _⟩ => absurd q4 (h3 q (by omega) q3)⟩⟩
        by_cases eq : q = k
        · subst eq
          have := (mCm_iff V g A T I q q).1
          omega
        · exact absurd ht (h3 q (by omega) hm)
      · rw [h1, if_neg (by omega), Int.toNat_natCast]
        have ck := mCm_iff V g A T I k p
        by_cases c1 : 0 < mCm V g A T I k p
        · rw [if_pos c1]
          have ck1 := ck.1.mp c1
          refine .inr ⟨k, rfl, by omega, hk.1, hk.2, fun q hq hm ht => ?_, ⟨fun h => (by cases h), fun ⟨q, q1, q2, q3, q4, q5⟩ => ?_⟩⟩
          · have z1 := (mCm_iff V g A T I q k).1
            by_cases eq : q = k
            · subst eq; omega
            · have := h5 q (by omega) hm ht
              have z2 := (mCm_iff V g A T I q p).1
              omega
          · have := h5 q (by omega) q3 q4
            have z1 := (mCm_iff V g A T I q k).2
            have z2 := (mCm_iff V g A T I q p).1
            omega
        · rw [if_neg c1]
          by_cases c0 : mCm V g A T I k p = 0
          · rw [if_pos c0]
            refine .inr ⟨p, rfl, by omega, h3, h4, fun q hq hm ht => ?_, ⟨fun _ => ⟨k, by omega, by omega, hk.1, hk.2, c0⟩, fun _ => rfl⟩⟩
            by_cases eq : q = k
            · subst eq; exact c1
            · exact h5 q (by omega) hm ht
          · rw [if_neg c0]
            refine .inr ⟨p, h1, by omega, h3, h4, fun q hq hm ht => ?_, h6.trans ⟨fun ⟨q, q1, q2, q3, q4, q5⟩ => ⟨q, by omega, q2, q3, q4, q5⟩, fun ⟨q, q1, q2, q3, q4, q5⟩ => ⟨q, ?_, q2, q3, q4, q5⟩⟩⟩
            · by_cases eq : q = k
              · subst eq; exact c1
              · exact h5 q (by omega) hm ht
            · by_cases eq : q = k
              · subst eq; exact absurd q5 c0
              · omega
    · rw [if_neg hk]
      rcases ih with ⟨h1, h2, h3⟩ | ⟨p, h1, h2, h3, h4, h5, h6⟩
      · refine .inl ⟨h1, h2, fun q hq hm => ?_⟩
        by_cases eq : q = k
        · subst eq; exact fun ht => hk ⟨hm, ht⟩
        · exact h3 q (by omega) hm
      · refine .inr ⟨p, h1, by omega, h3, h4, fun q hq hm ht => ?_, h6.trans ⟨fun ⟨q, q1, q2, q3, q4, q5⟩ => ⟨q, by omega, q2, q3, q4, q5⟩, fun ⟨q, q1, q2, q3, q4, q5⟩ => ⟨q, ?_, q2, q3, q4, q5⟩⟩⟩
        · by_cases eq : q = k
          · subst eq; exact absurd ⟨hm, ht⟩ hk
          · exact h5 q (by omega) hm ht
        · by_cases eq : q = k
          · subst eq; exact absurd ⟨q3, q4⟩ hk
          · omega
theorem mF1_iff {p : Nat} (hp : p < nP V) (hm : mMv V g A p = true) : mF1 V g A T I p = true ↔ ((mFb V g A T I (T p) (nP V)).1 ≠ (p : Int) ∨ (mFb V g A T I (T p) (nP V)).2 = true) := by
  have hF : mF1 V g A T I p = true ↔ ∃ q, q < nP V ∧ q ≠ p ∧ mMv V g A q = true ∧ T q = T p ∧ (mSt V g A T p < mSt V g A T q ∨ mSt V g A T p = mSt V g A T q ∧ I p ≤ I q) := by
    unfold mF1 mBt
    rw [fE_iff]
    simp only [Bool.and_eq_true, decide_eq_true_eq]
  rw [hF]
  rcases mFb_ok V g A T I (T p) (nP V) with ⟨h1, h2, h3⟩ | ⟨z, h1, h2, h3, h4, h5, h6⟩
  · exact absurd rfl (h3 p hp hm)
  · rw [h1, h6]
    constructor
    · rintro ⟨q, q1, q2, q3, q4, q5⟩
      by_cases e : z = p
      · subst e
        have := h5 q q1 q3 q4
        have z1 := mCm_iff V g A T I q z
        exact .inr ⟨q, q1, q2, q3, q4, z1.2.mpr (by have := z1.1; omega)⟩
      · exact .inl (by omega)
    · rintro (h | ⟨q, q1, q2, q3, q4, q5⟩)
      · have := h5 p hp hm rfl
        have z1 := (mCm_iff V g A T I p z).1
        exact ⟨z, h2, by omega, h3, h4, by omega⟩
      · by_cases e : z = p
        · subst e
          have z1 := (mCm_iff V g A T I q z).2.mp q5
          exact ⟨q, q1, q2, q3, q4, by omega⟩
        · have := h5 p hp hm rfl
          have z1 := (mCm_iff V g A T I p z).1
          exact ⟨z, h2, by omega, h3, h4, by omega⟩
end
section
variable {σ : TM} {V : TVw} {g : Int} {A T I : Nat → Int} {d : Nat}
theorem j_compare (x y : Int) : t_run tbl mtb (d + 1) 248 [vi x, vi y] σ = some (some (vi (if x < y then -1 else if x = y then 0 else 1)), σ) := by
  rw [run_go (k := 248) (as := [vi x, vi y]) mt_248 (Nat.ne_of_beq_eq_false rfl) rfl (s_kJ6_compare_0 _ x y σ)]
  (repeat' split) <;> exact leaf_i rfl
theorem c_compare (hI : Inv V) (h : MR σ V g A T I) {p q : Nat} (hp : p < nP V) (hq : q < nP V) (mp : mMv V g A p = true) (mq : mMv V g A q = true) (h11 : ∀ p, p < nP V → mIn V g p = true → σ 11 0 p = mSt V g A T p) : t_run tbl mtb (d + 2) 18 [vh 3 0, vi p, vi q] σ = some (some (vi (mCm V g A T I p q)), σ) := by
  have h0 := hI.cnt
  have ip := mMv_iff.mp mp
  have iq := mMv_iff.mp mq
  have r1 : 0 ≤ (p : Int) ∧ (p : Int) < 40 := by omega
  have r2 : 0 ≤ (q : Int) ∧ (q : Int) < 40 := by omega
  rw [run_go (k := 18) (as := [vh 3 0, vi p, vi q]) mt_18 (Nat.ne_of_beq_eq_false rfl) rfl (s_kX4_compare_0 _ p q σ)]
  simp only [Int.toNat_natCast, if_pos r1, if_pos r2, h11 p hp ip.1, h11 q hq iq.1, (h.2.2.1 p hp ip.1).2.2 ip.2, (h.2.2.1 q hq iq.1).2.2 iq.2]
  rw [ci_of (j_compare (I p) (I q))]
  unfold mCm
  (repeat' split) <;> first | exact leaf_i rfl | (exfalso; omega)
set_option maxHeartbeats 4000000 in
theorem c_findFirst (hI : Inv V) (hA : mVA V g A T) (h : MR σ V g A T I) (h11 : ∀ p, p < nP V → mIn V g p = true → σ 11 0 p = mSt V g A T p ∧ σ 12 0 p = 0) : ∃ σ', Sc sw σ σ' ∧ (∀ p, p < nP V → mIn V g p = true → σ' 11 0 p = mSt V g A T p ∧ σ' 12 0 p = if mMv V g A p = true ∧ mF1 V g A T I p = true then 1 else 0) ∧ (∀ c : Nat, c < 48 → σ' 15 0 c = (mFb V g A T I c (nP V)).1) ∧ (∀ p, p < nP V → mIn V g p = false → σ' 7 0 p = σ 7 0 p ∧ σ' 12 0 p = σ 12 0 p) ∧ t_run tbl mtb (d + 3) 17 [vh 3 0] σ = some (none, σ') := by
  have h0 := hI.cnt
  have hM := mlist_le (mIn V g) (nP V)
  rw [run_go (k := 17) (as := [vh 3 0]) mt_17 (Nat.ne_of_beq_eq_false rfl) rfl (s_kX4_findFirst_0 _ σ), nx_inl]
  obtain ⟨L1, s1, ⟨a1, rfl, a2, a3⟩, e1⟩ := loop_rel (O := t_run tbl mtb (d + 2)) (k := 17) (pc := 2) (fun c L s => Sc sw σ s ∧ L = [some (vh 3 0), some (vi (c : Int)), none, none, none] ∧ (∀ z, z < c → s 15 0 z = -1 ∧ s 16 0 z = 0) ∧ (∀ p, s 7 0 p = σ 7 0 p ∧ s 12 0 p = σ 12 0 p ∧ s 11 0 p = σ 11 0 p)) 48 (by
    rintro c L s hc ⟨b1, rfl, b2, b3⟩
    refine ⟨_, t_upd (t_upd s 15 0 c (-1)) 16 0 c 0, ⟨(b1.up rfl).up rfl, rfl, fun z hz => ?_, fun p => by rw [up_k (by decide), up_k (by decide), up_k (by decide), up_k (by decide), up_k (by decide), up_k (by decide)]; exact b3 p⟩, fun n => ?_⟩
    · by_cases e : z = c
      · subst e
        exact ⟨by rw [up_k (by decide), up_same], up_same⟩
      · rw [up_k (by decide), up_j e, up_j e, up_k (by decide)]
        exact b2 z (by omega)
    · rw [tr_step (s_kX4_findFirst_2 _ c s), if_pos (by omega), if_pos (by omega), if_pos (by omega), w32_nat (by omega), Int.toNat_natCast]
      rfl) 48 0 [some (vh 3 0), some (vi ((0 : Nat) : Int)), none, none, none] σ rfl ⟨Sc.rf, rfl, fun z hz => by omega, fun p => ⟨rfl, rfl, rfl⟩⟩
  have hR1 := h.sc a1
  obtain ⟨-, s2, ⟨c1, c2, c3, c4⟩, e2⟩ := loop_mem (O := t_run tbl mtb (d + 2)) (kk := 17) (pc := 30) (n := nP V) (mIn V g) (fun m (_ : Unit) => [some (vh 3 0), some (vi (m : Int)), none, none, none]) (fun k _ s => Sc sw σ s ∧ (∀ c : Nat, c < 48 → s 15 0 c = (mFb V g A T I c k).1 ∧ s 16 0 c = bi (mFb V g A T I c k).2) ∧ (∀ p, p < nP V → mIn V g p = true → s 11 0 p = mSt V g A T p ∧ s 12 0 p = 0) ∧ (∀ p, p < nP V → mIn V g p = false → s 7 0 p = σ 7 0 p ∧ s 12 0 p = σ 12 0 p)) (by
    rintro q a s hq hP ⟨b1, b2, b3⟩
    refine ⟨b1, fun c hc => ?_, b3⟩
    have : ¬ (mMv V g A q = true ∧ T q = (c : Int)) := fun k => by rw [(mMv_iff.mp k.1).1] at hP; cases hP
    rw [mFb, if_neg this]
    exact b2 c hc) (by
    rintro q m a s hq hP hm hml ⟨b1, b2, b3, b4⟩
    have hR := h.sc b1
    have r5 : 0 ≤ (q : Int) ∧ (q : Int) < 40 := by omega
    obtain ⟨g1, g2, g3⟩ := hR.2.2.1 q hq hP
    have st := fun N => tr_step (n := N) (s_kX4_findFirst_30 (t_run tbl mtb (d + 2)) m s )
    simp only [Int.toNat_natCast, hR.2.1 m q hm, if_pos r5, hR.1, g1, if_pos (show (m : Int) < ((mlist (mIn V g) (nP V)).length : Int) by omega), if_pos (show 0 ≤ (m : Int) ∧ (m : Int) < 40 by omega), w32_nat (show m < 2147483647 by omega)] at st
    by_cases hm1 : A q = 1
    · have hmv : mMv V g A q = true := mMv_iff.mpr ⟨hP, hm1⟩
      have hT : 0 ≤ T q ∧ T q < 48 := by
        rcases hA q hq hP with z | z | z <;> omega
      obtain ⟨f15, f16⟩ := b2 (T q).toNat (by omega)
      rw [Int.toNat_of_nonneg hT.1] at f15 f16
      simp only [if_pos hm1, g2 (by omega), if_pos hT, f15] at st
      have hoth : ∀ c : Nat, c < 48 → (c : Int) ≠ T q → (mFb V g A T I c (q + 1)) = mFb V g A T I c q := fun c hc hne => by
        rw [mFb, if_neg (fun k => hne k.2.symm)]
      have hthis : mFb V g A T I (T q) (q + 1) = (if (mFb V g A T I (T q) q).1 = -1 then ((q : Int), false) else if 0 < mCm V g A T I q (mFb V g A T I (T q) q).1.toNat then ((q : Int), false) else if mCm V g A T I q (mFb V g A T I (T q) q).1.toNat = 0 then ((mFb V g A T I (T q) q).1, true) else mFb V g A T I (T q) q) := by
        rw [mFb, if_pos ⟨hmv, rfl⟩]
      -- the rows behind the step
      have fin : ∀ (x y : Int) (bx : Bool) (s' : TM), mFb V g A T I (T q) (q + 1) = (x, bx) → y = bi bx → Sc sw σ s' → s' 15 0 (T q).toNat = x → s' 16 0 (T q).toNat = y → (∀ c, c ≠ (T q).toNat → s' 15 0 c = s 15 0 c ∧ s' 16 0 c = s 16 0 c) → (∀ p, s' 11 0 p = s 11 0 p ∧ s' 12 0 p = s 12 0 p ∧ s' 7 0 p = s 7 0 p) → (Sc sw σ s' ∧ (∀ c : Nat, c < 48 → s' 15 0 c = (mFb V g A T I c (q + 1)).1 ∧ s' 16 0 c = bi (mFb V g A T I c (q + 1)).2) ∧ (∀ p, p < nP V → mIn V g p = true → s' 11 0 p = mSt V g A T p ∧ s' 12 0 p = 0) ∧ (∀ p, p < nP V → mIn V g p = false → s' 7 0 p = σ 7 0 p ∧ s' 12 0 p = σ 12 0 p)) := by
        intro x y bx s' hx hy z1 z2 z3 z4 z5
        refine ⟨z1, fun c hc => ?_, fun p hp hi => ?_, fun p hp hi => ?_⟩
        · by_cases e : c = (T q).toNat
          · subst e
            rw [Int.toNat_of_nonneg hT.1, hx, z2, z3, hy]
            exact ⟨rfl, rfl⟩
          · rw [(z4 c e).1, (z4 c e).2, hoth c hc (by omega)]
            exact b2 c hc
        · rw [(z5 p).1, (z5 p).2.1]
          exact b3 p hp hi
        · rw [(z5 p).2.2, (z5 p).2.1]
          exact b4 p hp hi
      rcases mFb_ok V g A T I (T q) q with ⟨z1, z2, z3⟩ | ⟨w, z1, z2, z3, z4, z5, z6⟩
      · simp only [if_pos z1] at st
        rw [if_pos z1] at hthis
        exact ⟨(), _, fin _ 0 false _ hthis rfl ((b1.up rfl).up rfl) (by rw [up_k (by decide), up_same]) up_same (fun c hc => by rw [up_k (by decide), up_j hc, up_j hc, up_k (by decide)]; exact ⟨rfl, rfl⟩) (fun p => by rw [up_k (by decide), up_k (by decide), up_k (by decide), up_k (by decide), up_k (by decide), up_k (by decide)]; exact ⟨rfl, rfl, rfl⟩), fun N => st N⟩
      · have ecm := c_compare (d := d) hI hR hq (q := w) (by omega) hmv z3 (fun p hp hi => (b3 p hp hi).1)
        have nw : ¬ (w : Int) = -1 := by omega
        simp only [z1, if_neg nw, ecm, ci_ok] at st
        rw [z1, if_neg nw, Int.toNat_natCast] at hthis
        by_cases k1 : 0 < mCm V g A T I q w
        · have k2 : ¬ mCm V g A T I q w < 0 := by omega
          have k3 : ¬ mCm V g A T I q w = 0 := by omega
          simp only [if_pos k1, if_neg k2, if_neg k3] at st
          rw [if_pos k1] at hthis
          exact ⟨(), _, fin _ 0 false _ hthis rfl ((b1.up rfl).up rfl) (by rw [up_k (by decide), up_same]) up_same (fun c hc => by rw [up_k (by decide), up_j hc, up_j hc, up_k (by decide)]; exact ⟨rfl, rfl⟩) (fun p => by rw [up_k (by decide), up_k (by decide), up_k (by decide), up_k (by decide), up_k (by decide), up_k (by decide)]; exact ⟨rfl, rfl, rfl⟩), fun N => st N⟩
        · by_cases k3 : mCm V g A T I q w = 0
          · have k2 : ¬ mCm V g A T I q w < 0 := by omega
            simp only [if_neg k1, if_neg k2, if_pos k3] at st
            rw [if_neg k1, if_pos k3] at hthis
            exact ⟨(), _, fin _ 1 true _ hthis rfl (b1.up rfl) (by rw [up_k (by decide), f15, z1]) up_same (fun c hc => by rw [up_k (by decide), up_j hc]; exact ⟨rfl, rfl⟩) (fun p => by rw [up_k (by decide), up_k (by decide), up_k (by decide)]; exact ⟨rfl, rfl, rfl⟩), fun N => st N⟩
          · have k2 : mCm V g A T I q w < 0 := by omega
            simp only [if_neg k1, if_pos k2] at st
            rw [if_neg k1, if_neg k3] at hthis
            exact ⟨(), s, fin _ _ _ s hthis rfl b1 f15 f16 (fun c hc => ⟨rfl, rfl⟩) (fun p => ⟨rfl, rfl, rfl⟩), fun N => st N⟩
    · simp only [if_neg hm1] at st
      refine ⟨(), s, ⟨b1, fun c hc => ?_, b3, b4⟩, fun N => st N⟩
      rw [mFb, if_neg (fun k => hm1 (mMv_iff.mp k.1).2)]
      exact b2 c hc) (a := ()) (s := s1) ⟨a1, fun c hc => by rw [(a2 c hc).1, (a2 c hc).2]; exact ⟨rfl, rfl⟩, fun p hp hi => by rw [(a3 p).2.2, (a3 p).2.1]; exact h11 p hp hi, fun p hp hi => ⟨(a3 p).1, (a3 p).2.1⟩⟩
  have hR2 := h.sc c1
  obtain ⟨-, s3, ⟨d1, d2, d3, d4⟩, e3⟩ := loop_mem (O := t_run tbl mtb (d + 2)) (kk := 17) (pc := 133) (n := nP V) (mIn V g) (fun m (_ : Unit) => [some (vh 3 0), some (vi (m : Int)), none, none, none]) (fun k _ s => Sc sw σ s ∧ (∀ c : Nat, c < 48 → s 15 0 c = (mFb V g A T I c (nP V)).1 ∧ s 16 0 c = bi (mFb V g A T I c (nP V)).2) ∧ (∀ p, p < nP V → mIn V g p = true → s 11 0 p = mSt V g A T p ∧ s 12 0 p = if p < k ∧ mMv V g A p = true ∧ mF1 V g A T I p = true then 1 else 0) ∧ (∀ p, p < nP V → mIn V g p = false → s 7 0 p = σ 7 0 p ∧ s 12 0 p = σ 12 0 p)) (by
    rintro q a s hq hP ⟨b1, b2, b3, b4⟩
    refine ⟨b1, b2, fun p hp hi => ⟨(b3 p hp hi).1, ?_⟩, b4⟩
    rw [(b3 p hp hi).2]
    by_cases e : p = q
    · subst e; rw [hP] at hi; cases hi
    · by_cases c : p < q ∧ mMv V g A p = true ∧ mF1 V g A T I p = true
      · rw [if_pos c, if_pos ⟨by omega, c.2⟩]
      · rw [if_neg c, if_neg (fun k => c ⟨by omega, k.2⟩)]) (by
    rintro q m a s hq hP hm hml ⟨b1, b2, b3, b4⟩
    have hR := h.sc b1
    have r5 : 0 ≤ (q : Int) ∧ (q : Int) < 40 := by omega
    obtain ⟨g1, g2, g3⟩ := hR.2.2.1 q hq hP
    have st := fun N => tr_step (n := N) (s_kX4_findFirst_133 (t_run tbl mtb (d + 2)) m s )
    simp only [Int.toNat_natCast, hR.2.1 m q hm, if_pos r5, hR.1, g1, if_pos (show (m : Int) < ((mlist (mIn V g) (nP V)).length : Int) by omega), if_pos (show 0 ≤ (m : Int) ∧ (m : Int) < 40 by omega), w32_nat (show m < 2147483647 by omega)] at st
    have hsame : ¬ (mMv V g A q = true ∧ mF1 V g A T I q = true) → ∀ p, p < nP V → mIn V g p = true → s 11 0 p = mSt V g A T p ∧ s 12 0 p = if p < q + 1 ∧ mMv V g A p = true ∧ mF1 V g A T I p = true then 1 else 0 := by
      intro hn p hp hi
      refine ⟨(b3 p hp hi).1, ?_⟩
      rw [(b3 p hp hi).2]
      by_cases c : p < q ∧ mMv V g A p = true ∧ mF1 V g A T I p = true
      · rw [if_pos c, if_pos ⟨by omega, c.2⟩]
      · rw [if_neg c, if_neg (fun k => c ⟨by have : p ≠ q := (fun e => hn (e ▸ k.2)); omega, k.2⟩)]
    by_cases hm1 : A q = 1
    · have hmv : mMv V g A q = true := mMv_iff.mpr ⟨hP, hm1⟩
      have hT : 0 ≤ T q ∧ T q < 48 := by
        rcases hA q hq hP with z | z | z <;> omega
      obtain ⟨f15, f16⟩ := b2 (T q).toNat (by omega)
      rw [Int.toNat_of_nonneg hT.1] at f15 f16
      have hF := mF1_iff V g A T I hq hmv
      simp only [if_pos hm1, g2 (by omega), if_pos hT, f15, f16, bi_0] at st
      have hup : mF1 V g A T I q = true → (Sc sw σ (t_upd s 12 0 q 1) ∧ (∀ c : Nat, c < 48 → t_upd s 12 0 q 1 15 0 c = (mFb V g A T I c (nP V)).1 ∧ t_upd s 12 0 q 1 16 0 c = bi (mFb V g A T I c (nP V)).2) ∧ (∀ p, p < nP V → mIn V g p = true → t_upd s 12 0 q 1 11 0 p = mSt V g A T p ∧ t_upd s 12 0 q 1 12 0 p = if p < q + 1 ∧ mMv V g A p = true ∧ mF1 V g A T I p = true then 1 else 0) ∧ (∀ p, p < nP V → mIn V g p = false → t_upd s 12 0 q 1 7 0 p = σ 7 0 p ∧ t_upd s 12 0 q 1 12 0 p = σ 12 0 p)) := by
        intro hf
        refine ⟨b1.up rfl, fun c hc => by rw [up_k (by decide), up_k (by decide)]; exact b2 c hc, fun p hp hi => ⟨by rw [up_k (by decide)]; exact (b3 p hp hi).1, ?_⟩, fun p hp hi => ?_⟩
        · by_cases e : p = q
          · subst e
            rw [up_same, if_pos ⟨by omega, hmv, hf⟩]
          · rw [up_j e, (b3 p hp hi).2]
            by_cases c : p < q ∧ mMv V g A p = true ∧ mF1 V g A T I p = true
            · rw [if_pos c, if_pos ⟨by omega, c.2⟩]
            · rw [if_neg c, if_neg (fun k => c ⟨by omega, k.2⟩)]
        · have e : p ≠ q := by rintro rfl; rw [hP] at hi; cases hi
          rw [up_k (by decide), up_j e]
          exact b4 p hp hi
      by_cases k1 : (mFb V g A T I (T q) (nP V)).1 = (q : Int)
      · simp only [if_pos k1] at st
        cases k2 : (mFb V g A T I (T q) (nP V)).2 with
        | false =>
          rw [k2] at st
          simp only [if_true] at st
          exact ⟨(), s, ⟨b1, b2, hsame (fun k => by rcases hF.mp k.2 with x | x; exact x k1; rw [k2] at x; cases x), b4⟩, fun N => st N⟩
        | true =>
          rw [k2] at st
          simp only [if_neg (show ¬ true = false by decide)] at st
          exact ⟨(), _, hup (hF.mpr (.inr k2)), fun N => st N⟩
      · simp only [if_neg k1] at st
        exact ⟨(), _, hup (hF.mpr (.inl k1)), fun N => st N⟩
    · simp only [if_neg hm1] at st
      exact ⟨(), s, ⟨b1, b2, hsame (fun k => hm1 (mMv_iff.mp k.1).2), b4⟩, fun N => st N⟩) (a := ()) (s := s2) ⟨c1, c2, fun p hp hi => ⟨(c3 p hp hi).1, by rw [(c3 p hp hi).2, if_neg (fun k => by have := k.1; omega)]⟩, c4⟩
  refine ⟨s3, d1, fun p hp hi => ⟨(d3 p hp hi).1, ?_⟩, fun c hc => (d2 c hc).1, d4, ?_⟩
  · rw [(d3 p hp hi).2]
    by_cases c : mMv V g A p = true ∧ mF1 V g A T I p = true
    · rw [if_pos ⟨hp, c⟩, if_pos c]
    · rw [if_neg (fun k => c k.2), if_neg c]
  have hR3 := h.sc d1
  have f1 := e1 999951
  have f1 : t_tr tbl mtb (t_run tbl mtb (d + 2)) 17 999999 2 [some (vh 3 0), some (vi 0), none, none, none] [] σ = _ := f1
  rw [f1, show 999951 = 999950 - (mlist (mIn V g) (nP V)).length + (mlist (mIn V g) (nP V)).length + 1 by omega, tr_step (s_kX4_findFirst_2 _ ((48 : Nat) : Int) s1), if_neg (by omega), nx_inl]
  have f2 := e2 (999950 - (mlist (mIn V g) (nP V)).length)
  have f2 : t_tr tbl mtb (t_run tbl mtb (d + 2)) 17 (999950 - (mlist (mIn V g) (nP V)).length + (mlist (mIn V g) (nP V)).length) 30 [some (vh 3 0), some (vi 0), none, none, none] [] s1 = _ := f2
  rw [f2, show 999950 - (mlist (mIn V g) (nP V)).length = 999950 - (mlist (mIn V g) (nP V)).length - 1 - (mlist (mIn V g) (nP V)).length + (mlist (mIn V g) (nP V)).length + 1 by omega, tr_step (s_kX4_findFirst_30 _ ((mlist (mIn V g) (nP V)).length : Int) s2), hR2.1, if_neg (by omega), nx_inl]
  have f3 := e3 (999950 - (mlist (mIn V g) (nP V)).length - 1 - (mlist (mIn V g) (nP V)).length)
  have f3 : t_tr tbl mtb (t_run tbl mtb (d + 2)) 17 (999950 - (mlist (mIn V g) (nP V)).length - 1 - (mlist (mIn V g) (nP V)).length + (mlist (mIn V g) (nP V)).length) 133 [some (vh 3 0), some (vi 0), none, none, none] [] s2 = _ := f3
  rw [f3, show 999950 - (mlist (mIn V g) (nP V)).length - 1 - (mlist (mIn V g) (nP V)).length = 999950 - (mlist (mIn V g) (nP V)).length - 1 - (mlist (mIn V g) (nP V)).length - 1 + 1 by omega, tr_step (s_kX4_findFirst_133 _ ((mlist (mIn V g) (nP V)).length : Int) s3), hR3.1, if_neg (by omega)]
  rfl
end
