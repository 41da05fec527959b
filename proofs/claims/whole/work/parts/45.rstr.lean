-- the reference's moves: isCut(), findStrengths()
def srm (k j : Nat) : Bool := s2 k j || ((Nat.ble 95 k && Nat.ble k 100) || (Nat.beq k 103 || Nat.beq k 104))
theorem srm_scr (k j : Nat) (h : scr k j = false) : srm k j = false := by
  unfold srm
  rw [s2_scr k j h, Bool.false_or]
  cases a : (Nat.ble 95 k && Nat.ble k 100) with
  | true =>
    rw [Bool.and_eq_true] at a
    have a1 := Nat.le_of_ble_eq_true a.1
    have a2 := Nat.le_of_ble_eq_true a.2
    rcases (by omega : k = 95 ∨ k = 96 ∨ k = 97 ∨ k = 98 ∨ k = 99 ∨ k = 100) with rfl | rfl | rfl | rfl | rfl | rfl <;> cases h
  | false => cases b : Nat.beq k 103 with
    | true => rw [Nat.eq_of_beq_eq_true b] at h; cases h
    | false => cases c : Nat.beq k 104 with
      | true => rw [Nat.eq_of_beq_eq_true c] at h; cases h
      | false => rfl
theorem s2_srm (k j : Nat) (h : srm k j = false) : s2 k j = false := (Bool.or_eq_false_iff.mp h).1
theorem Sc.rm {σ σ' : TM} (h : Sc srm σ σ') : Sc scr σ σ' := h.mono srm_scr
def RMr (σ : TM) (V : TVw) (g : Int) (A T : Nat → Int) : Prop := ∀ p, p < nP V → mIn V g p = true → σ 95 0 p = A p ∧ (A p ≠ 0 → σ 96 0 p = T p)
theorem RMr.sc {σ σ' : TM} {V : TVw} {g : Int} {A T : Nat → Int} {S : Nat → Nat → Bool} (h : RMr σ V g A T) (q : Sc S σ σ') (h1 : ∀ j, S 95 j = false) (h2 : ∀ j, S 96 j = false) : RMr σ' V g A T := fun p hp hi => by
  rw [q 95 0 p (h1 p), q 96 0 p (h2 p)]
  exact h p hp hi
section
variable {σ : TM} {V : TVw} {g : Int} {A T I : Nat → Int} {d : Nat}
theorem r_isInb (hV : RV σ V) (hI : Inv V) {p : Nat} (hp : p < nP V) (g : Int) : t_run tbl mtb (d + 2) 205 [vh 51 0, vi p, vi g] σ = some (some (vi (bi (mIn V g p))), σ) := r_isIn hV hI hp g
theorem r_moves (hV : RV σ V) (hI : Inv V) (h : RMr σ V g A T) {p : Nat} (hp : p < nP V) : t_run tbl mtb (d + 3) 209 [vh 51 0, vi p, vi g] σ = some (some (vi (bi (mMv V g A p))), σ) := by
  have h0 := hI.cnt
  rw [run_go (k := 209) (as := [vh 51 0, vi p, vi g]) mt_209 (Nat.ne_of_beq_eq_false rfl) rfl (s_kX12_moves_0 _ p g σ), ci_of (r_isInb hV hI hp g)]
  simp only [bi_0, Int.toNat_natCast]
  unfold mMv
  cases hi : mIn V g p with
  | false => rfl
  | true =>
    rw [if_neg (by decide), if_pos (by omega), Bool.true_and]
    simp only [(h p hp hi).1]
    (repeat' split) <;> exact leaf_b (by omega)
theorem r_isCut (hV : RV σ V) (hI : Inv V) (h : RMr σ V g A T) {x : Nat} (hx : x < nP V) : t_run tbl mtb (d + 3) 207 [vh 51 0, vi x, vi g] σ = some (some (vi (bi (mCut V g A T x))), σ) := by
  have h0 := hI.cnt
  have rx : 0 ≤ (x : Int) ∧ (x : Int) < 40 := by omega
  rw [run_go (k := 207) (as := [vh 51 0, vi x, vi g]) mt_207 (Nat.ne_of_beq_eq_false rfl) rfl (s_kX12_isCut_0 _ x g σ), nx_inl]
  refine out_of (loop_all (fun p L σ' => σ' = σ ∧ L = [some (vh 51 0), some (vi x), some (vi g), some (vi (bi (fE (fun p => mMv V g A p && decide (T p = V 66 x ∧ V 65 p ≠ V 65 x)) p))), some (vi (p : Int))]) (nP V) ?_ ⟨rfl, rfl⟩ (by omega) ?_)
  · rintro p L s hp ⟨rfl, rfl⟩
    refine ⟨_, _, ⟨rfl, rfl⟩, fun n => ?_⟩
    have r1 : 0 ≤ (p : Int) ∧ (p : Int) < 40 := by omega
    rw [fE]
    generalize fE (fun p => mMv V g A p && decide (T p = V 66 x ∧ V 65 p ≠ V 65 x)) p = c
    rw [tr_step (s_kX12_isCut_5 _ x g (bi c) p s), hV 51 23 rfl rfl rfl, if_pos (by omega), ci_of (r_isInb hV hI hp g), w32_nat (by omega)]
    simp only [bi_0, Int.toNat_natCast, if_pos r1, if_pos rx, show ∀ j, s 66 0 j = V 66 j from fun j => hV 66 j rfl rfl rfl, show ∀ j, s 65 0 j = V 65 j from fun j => hV 65 j rfl rfl rfl]
    cases c with
    | true => rfl
    | false =>
      rw [if_pos rfl, Bool.false_or]
      unfold mMv
      cases hi : mIn V g p with
      | false => rfl
      | true =>
        rw [if_neg (by decide), Bool.true_and]
        simp only [(h p hp hi).1]
        by_cases a1 : A p = 1
        · rw [if_pos a1, (h p hp hi).2 (by omega), decide_eq_true a1, Bool.true_and]
          by_cases a2 : T p = V 66 x
          · rw [if_pos a2]
            by_cases a3 : V 65 p = V 65 x
            · rw [if_pos a3, decide_eq_false (fun k => k.2 a3)]
              rfl
            · rw [if_neg a3, decide_eq_true ⟨a2, a3⟩]
              rfl
          · rw [if_neg a2, decide_eq_false (fun k => a2 k.1)]
            rfl
        · rw [if_neg a1, decide_eq_false a1]
          rfl
  · rintro L s ⟨rfl, rfl⟩
    rw [show 999999 - nP V = 999998 - nP V + 1 by omega, tr_step (s_kX12_isCut_5 _ x g _ (nP V) s), hV 51 23 rfl rfl rfl, if_neg (by omega), if_pos (bi_r _)]
    rfl
set_option maxHeartbeats 4000000 in
theorem r_findStrengths (hV : RV σ V) (hI : Inv V) (hA : mVA V g A T) (hg : 0 ≤ g ∧ g < 3) (h : RMr σ V g A T) (t : Int) : ∃ σ', Sc srm σ σ' ∧ RMr σ' V g A T ∧ (∀ p, p < nP V → mIn V g p = true → σ' 97 0 p = mSt V g A T p) ∧ (∀ p, p < nP V → mMv V g A p = true → σ' 98 0 p = fti V p (T p) t) ∧ (∀ p, σ' 99 0 p = σ 99 0 p ∧ σ' 100 0 p = σ 100 0 p) ∧ t_run tbl mtb (d + 67) 208 [vh 51 0, vi g, vi t, vi (V 51 0)] σ = some (none, σ') := by
  have h0 := hI.cnt
  rw [run_go (k := 208) (as := [vh 51 0, vi g, vi t, vi (V 51 0)]) mt_208 (Nat.ne_of_beq_eq_false rfl) rfl (s_kX12_findStrengths_0 _ g t (V 51 0) σ), nx_inl]
  obtain ⟨L1, s1, ⟨a1, rfl, a2, a3, a4⟩, e1⟩ := loop_rel (O := t_run tbl mtb (d + 66)) (k := 208) (pc := 3) (fun k L s => Sc srm σ s ∧ L = [some (vh 51 0), some (vi g), some (vi t), some (vi (V 51 0)), some (vi (k : Int)), none, none] ∧ RMr s V g A T ∧ (∀ p, p < k → s 97 0 p = V 68 p) ∧ (∀ p, s 99 0 p = σ 99 0 p ∧ s 100 0 p = σ 100 0 p)) (nP V) (by
    rintro k L s hk ⟨b1, rfl, b2, b3, b4⟩
    have hVs := hV.sc b1.rm
    refine ⟨_, t_upd s 97 0 k (V 68 k), ⟨b1.up rfl, rfl, fun p hp hi => by rw [up_k (by decide), up_k (by decide)]; exact b2 p hp hi, fun p hp => ?_, fun p => by rw [up_k (by decide), up_k (by decide)]; exact b4 p⟩, fun n => ?_⟩
    · by_cases e : p = k
      · subst e; exact up_same
      · rw [up_j e]; exact b3 p (by omega)
    · rw [tr_step (s_kX12_findStrengths_3 _ g t (V 51 0) k s), hVs 51 23 rfl rfl rfl, Int.toNat_natCast, hVs 68 k rfl rfl rfl, if_pos (by omega), if_pos (by omega), if_pos (by omega), w32_nat (by omega)]
      rfl) (nP V) 0 [some (vh 51 0), some (vi g), some (vi t), some (vi (V 51 0)), some (vi ((0 : Nat) : Int)), none, none] σ (by omega) ⟨Sc.rf, rfl, h, fun p hp => by omega, fun p => ⟨rfl, rfl⟩⟩
  have hV1 := hV.sc a1.rm
  obtain ⟨L2, s2', ⟨c1, rfl, c2, c3, c4⟩, e2⟩ := loop_rel (O := t_run tbl mtb (d + 66)) (k := 208) (pc := 35) (fun k L s => Sc srm σ s ∧ L = [some (vh 51 0), some (vi g), some (vi t), some (vi (V 51 0)), some (vi (k : Int)), none, none] ∧ RMr s V g A T ∧ (∀ p, p < nP V → s 97 0 p = V 68 p + fS (fun q => if mHp V g A T p q = true then V 68 q else 0) k) ∧ (∀ p, s 99 0 p = σ 99 0 p ∧ s 100 0 p = σ 100 0 p)) (nP V) (by
    rintro k L s hk ⟨b1, rfl, b2, b3, b4⟩
    have hVs := hV.sc b1.rm
    have r1 : 0 ≤ (k : Int) ∧ (k : Int) < 40 := by omega
    have ein := r_isInb (d := d + 64) hVs hI hk g
    have st := fun N => tr_step (n := N) (s_kX12_findStrengths_35 (t_run tbl mtb (d + 66)) g t (V 51 0) k s )
    simp only [hVs 51 23 rfl rfl rfl, if_pos (show (k : Int) < V 51 23 by omega), w32_nat (show k < 2147483647 by omega), Int.toNat_natCast, ein, ci_ok, bi_0, if_pos r1] at st
    have hno : (∀ p, p < nP V → mHp V g A T p k = false) → ∀ p, p < nP V → s 97 0 p = V 68 p + fS (fun q => if mHp V g A T p q = true then V 68 q else 0) (k + 1) := by
      intro hz p hp
      rw [b3 p hp, fS, hz p hp, if_neg (by decide), Int.add_zero]
    cases hi : mIn V g k with
    | false =>
      simp only [hi, if_true] at st
      exact ⟨_, s, ⟨b1, rfl, b2, hno (fun p hp => by unfold mHp; rw [hi, Bool.false_and, Bool.false_and]), b4⟩, fun N => st N⟩
    | true =>
      obtain ⟨m1, m2⟩ := b2 k hk hi
      simp only [hi, if_neg (show ¬ true = false by decide), m1] at st
      by_cases k2 : A k = 2
      · obtain ⟨t1, t2, t3, t4⟩ : 0 ≤ T k ∧ T k < V 51 23 ∧ T k ≠ (k : Int) ∧ mIn V g (T k).toNat = true := by
          rcases hA k hk hi with z | z | z
          · omega
          · omega
          · exact z.2
        have hw : (T k).toNat < nP V := by omega
        obtain ⟨w1, w2⟩ := b2 (T k).toNat hw t4
        have r2 : 0 ≤ T k ∧ T k < 40 := by omega
        have ein2 := r_isInb (d := d + 64) hVs hI hw g
        rw [Int.toNat_of_nonneg t1, t4] at ein2
        have ecut := r_isCut (d := d + 63) hVs hI b2 hk
        obtain ⟨-, -, y1, y2, -, -, -, y3, y4⟩ := hI 3 k hk
        obtain ⟨-, -, z1, z2, -, -, -, z3, z4⟩ := hI 3 (T k).toNat hw
        have hr := mHelp_r hI (mHp V g A T (T k).toNat) k (by omega)
        have hwr : 0 ≤ mWh V A T (T k).toNat ∧ mWh V A T (T k).toNat < 48 := by
          unfold mWh
          split
          · rcases hA (T k).toNat hw t4 with z | z | z <;> omega
          · exact ⟨z1, z2⟩
        have ebe : t_run tbl mtb (d + 66) 198 [vh 51 0, vi (V 66 k), vi (mWh V A T (T k).toNat)] s = some (some (vi (bi (decide (fwy (V 66 k) (mWh V A T (T k).toNat) = 1)))), s) := r_isBeside (d := d + 63) y1 y2 hwr.1 hwr.2
        have q97 := b3 (T k).toNat hw
        have hadd0 : w32 (s 97 0 (T k).toNat + 0) = s 97 0 (T k).toNat := by rw [q97, w32_id (by omega) (by omega), Int.add_zero]
        have hadd : w32 (s 97 0 (T k).toNat + V 68 k) = s 97 0 (T k).toNat + V 68 k := by rw [q97, w32_id (by omega) (by omega)]
        simp only [if_pos k2, m2 (by omega), if_pos r2, w1, ein2, ci_ok, bi_0, if_neg (show ¬ true = false by decide), hVs 66 _ rfl rfl rfl, hVs 68 _ rfl rfl rfl, hadd0, hadd, ecut] at st
        -- both ways of where the helped one goes
        have hup : ∀ (x : Int) (hlp : Bool), mHp V g A T (T k).toNat k = hlp → x = (if hlp = true then s 97 0 (T k).toNat + V 68 k else s 97 0 (T k).toNat) → (Sc srm σ (t_upd s 97 0 (T k).toNat x) ∧ RMr (t_upd s 97 0 (T k).toNat x) V g A T ∧ (∀ p, p < nP V → t_upd s 97 0 (T k).toNat x 97 0 p = V 68 p + fS (fun q => if mHp V g A T p q = true then V 68 q else 0) (k + 1)) ∧ (∀ p, t_upd s 97 0 (T k).toNat x 99 0 p = σ 99 0 p ∧ t_upd s 97 0 (T k).toNat x 100 0 p = σ 100 0 p)) := by
          intro x hlp hh hx
          refine ⟨b1.up rfl, fun p hp hi => by rw [up_k (by decide), up_k (by decide)]; exact b2 p hp hi, fun p hp => ?_, fun p => by rw [up_k (by decide), up_k (by decide)]; exact b4 p⟩
          rw [fS]
          by_cases e : p = (T k).toNat
          · subst e
            rw [up_same, hx, hh, q97]
            cases hlp
            · rw [if_neg (by decide), if_neg (by decide), Int.add_zero]
            · rw [if_pos rfl, if_pos rfl, Int.add_assoc]
          · have : mHp V g A T p k = false := by
              unfold mHp
              rw [decide_eq_false (fun q => e (by have := q.2.1; omega))]
              simp
            rw [up_j e, b3 p hp, this, if_neg (by decide), Int.add_zero]
        have hhp : mHp V g A T (T k).toNat k = (decide (fwy (V 66 k) (mWh V A T (T k).toNat) = 1) && !mCut V g A T k) := by
          unfold mHp
          rw [hi, Bool.true_and]
          congr 1
          exact decide_eq_decide.mpr ⟨fun q => q.2.2, fun q => ⟨k2, by omega, q⟩⟩
        by_cases hw1 : A (T k).toNat = 1
        · have hwh : mWh V A T (T k).toNat = T (T k).toNat := by unfold mWh; rw [if_pos hw1]
          simp only [if_pos hw1, w2 (by omega)] at st
          simp only [← hwh, ebe, ci_ok, bi_0, decide_eq_false_iff_not, ecut, hVs 68 _ rfl rfl rfl, hadd, hadd0] at st
          by_cases f1 : fwy (V 66 k) (mWh V A T (T k).toNat) = 1
          · simp only [if_neg (Decidable.not_not.mpr f1)] at st
            cases f2 : mCut V g A T k with
            | false =>
              simp only [f2, if_true] at st
              obtain ⟨x1, x2, x3, x4⟩ := hup _ true (by rw [hhp, f2, decide_eq_true f1]; rfl) rfl
              exact ⟨_, _, ⟨x1, rfl, x2, x3, x4⟩, fun N => st N⟩
            | true =>
              simp only [f2, if_neg (show ¬ true = false by decide)] at st
              obtain ⟨x1, x2, x3, x4⟩ := hup _ false (by rw [hhp, f2, decide_eq_true f1]; rfl) rfl
              exact ⟨_, _, ⟨x1, rfl, x2, x3, x4⟩, fun N => st N⟩
          · simp only [if_pos f1] at st
            obtain ⟨x1, x2, x3, x4⟩ := hup _ false (by rw [hhp, decide_eq_false f1]; rfl) rfl
            exact ⟨_, _, ⟨x1, rfl, x2, x3, x4⟩, fun N => st N⟩
        · have hwh : mWh V A T (T k).toNat = V 66 (T k).toNat := by unfold mWh; rw [if_neg hw1]
          simp only [if_neg hw1] at st
          simp only [← hwh, ebe, ci_ok, bi_0, decide_eq_false_iff_not, ecut, hVs 68 _ rfl rfl rfl, hadd, hadd0] at st
          by_cases f1 : fwy (V 66 k) (mWh V A T (T k).toNat) = 1
          · simp only [if_neg (Decidable.not_not.mpr f1)] at st
            cases f2 : mCut V g A T k with
            | false =>
              simp only [f2, if_true] at st
              obtain ⟨x1, x2, x3, x4⟩ := hup _ true (by rw [hhp, f2, decide_eq_true f1]; rfl) rfl
              exact ⟨_, _, ⟨x1, rfl, x2, x3, x4⟩, fun N => st N⟩
            | true =>
              simp only [f2, if_neg (show ¬ true = false by decide)] at st
              obtain ⟨x1, x2, x3, x4⟩ := hup _ false (by rw [hhp, f2, decide_eq_true f1]; rfl) rfl
              exact ⟨_, _, ⟨x1, rfl, x2, x3, x4⟩, fun N => st N⟩
          · simp only [if_pos f1] at st
            obtain ⟨x1, x2, x3, x4⟩ := hup _ false (by rw [hhp, decide_eq_false f1]; rfl) rfl
            exact ⟨_, _, ⟨x1, rfl, x2, x3, x4⟩, fun N => st N⟩
      · simp only [if_neg k2] at st
        exact ⟨_, s, ⟨b1, rfl, b2, hno (fun p hp => by unfold mHp; rw [decide_eq_false (fun q => k2 q.1)]; simp), b4⟩, fun N => st N⟩) (nP V) 0 [some (vh 51 0), some (vi g), some (vi t), some (vi (V 51 0)), some (vi ((0 : Nat) : Int)), none, none] s1 (by omega) ⟨a1, rfl, a2, fun p hp => by rw [a3 p hp]; exact (Int.add_zero _).symm, a4⟩
  have hV2 := hV.sc c1.rm
  obtain ⟨L3, s3', ⟨d1, rfl, d2, d3, d4, d5⟩, e3⟩ := loop_rel (O := t_run tbl mtb (d + 66)) (k := 208) (pc := 170) (fun k L s => Sc srm σ s ∧ L = [some (vh 51 0), some (vi g), some (vi t), some (vi (V 51 0)), some (vi (k : Int)), none, none] ∧ RMr s V g A T ∧ (∀ p, p < nP V → s 97 0 p = mSt V g A T p) ∧ (∀ p, p < k → mMv V g A p = true → s 98 0 p = fti V p (T p) t) ∧ (∀ p, s 99 0 p = σ 99 0 p ∧ s 100 0 p = σ 100 0 p)) (nP V) (by
    rintro k L s hk ⟨b1, rfl, b2, b3, b4, b5⟩
    have hVs := hV.sc b1.rm
    have r1 : 0 ≤ (k : Int) ∧ (k : Int) < 40 := by omega
    have ein := r_isInb (d := d + 64) hVs hI hk g
    have st := fun N => tr_step (n := N) (s_kX12_findStrengths_170 (t_run tbl mtb (d + 66)) g t (V 51 0) k s )
    simp only [hVs 51 23 rfl rfl rfl, if_pos (show (k : Int) < V 51 23 by omega), w32_nat (show k < 2147483647 by omega), Int.toNat_natCast, ein, ci_ok, bi_0, if_pos r1] at st
    have hno : mMv V g A k = false → ∀ p, p < k + 1 → mMv V g A p = true → s 98 0 p = fti V p (T p) t := by
      intro hz p hp hm
      have : p ≠ k := by rintro rfl; rw [hz] at hm; cases hm
      exact b4 p (by omega) hm
    cases hi : mIn V g k with
    | false =>
      simp only [hi, if_true] at st
      exact ⟨_, s, ⟨b1, rfl, b2, b3, hno (by unfold mMv; rw [hi]; rfl), b5⟩, fun N => st N⟩
    | true =>
      obtain ⟨m1, m2⟩ := b2 k hk hi
      simp only [hi, if_neg (show ¬ true = false by decide), m1] at st
      by_cases k1 : A k = 1
      · have hT : T k = T k ∧ 0 ≤ T k ∧ T k < 48 := by
          rcases hA k hk hi with z | z | z <;> omega
        obtain ⟨σ1, x1, x2, x3⟩ := r_nameOrder (d := d + 64) hVs hI hk (w := 1) (a := T k) (t := t) (fun _ => hT.2)
        have hV1 := hVs.sc x1.s2
        have ed := r_drawnFor (d := d + 64) hV1 hI hk t
        have hS2 : Sc s2 s (t_upd σ1 94 0 9 (fdr V k t)) := x1.up rfl
        have hN : ∀ z, z < 11 → t_upd σ1 94 0 9 (fdr V k t) 94 0 z = fNp V k t 1 (T k) (fdr V k t) z := by
          intro z hz
          by_cases e : z = 9
          · subst e; rw [up_same]; rfl
          · rw [up_j e, x2 z hz]
            rcases (by omega : z = 0 ∨ z = 1 ∨ z = 2 ∨ z = 3 ∨ z = 4 ∨ z = 5 ∨ z = 6 ∨ z = 7 ∨ z = 8 ∨ z = 10) with rfl | rfl | rfl | rfl | rfl | rfl | rfl | rfl | rfl | rfl <;> rfl
        obtain ⟨σ2, y1, y2⟩ := r_gives (d := d) (u := 1) (t := t) (k := V 51 0) (wo := 0) (hVs.sc hS2.s2) hI hg.1 hg.2 (by decide) (by decide) hN
        have hfg : fgm V k = g := by
          unfold mIn at hi
          rw [decide_eq_true_eq] at hi
          exact hi.2
        have hft : fgv V (10 * g + 1) t (V 51 0) (fNp V k t 1 (T k) (fdr V k t)) 0 = fti V k (T k) t := by
          unfold fti
          rw [hfg]
        rw [hft] at y2
        simp only [if_pos k1, m2 (by omega), x3, cv_ok, ed, ci_ok, y2] at st
        have hS3 := hS2.tr y1
        refine ⟨_, _, ⟨(b1.tr (hS3.mono s2_srm)).up rfl, rfl, fun p hp hi => by rw [up_k (by decide), up_k (by decide), hS3 95 0 p rfl, hS3 96 0 p rfl]; exact b2 p hp hi, fun p hp => by rw [up_k (by decide), hS3 97 0 p rfl]; exact b3 p hp, fun p hp hm => ?_, fun p => by rw [up_k (by decide), up_k (by decide), hS3 99 0 p rfl, hS3 100 0 p rfl]; exact b5 p⟩, fun N => st N⟩
        by_cases e : p = k
        · subst e; exact up_same
        · rw [up_j e, hS3 98 0 p rfl]
          exact b4 p (by omega) hm
      · simp only [if_neg k1] at st
        exact ⟨_, s, ⟨b1, rfl, b2, b3, hno (by unfold mMv; rw [decide_eq_false k1]; simp), b5⟩, fun N => st N⟩) (nP V) 0 [some (vh 51 0), some (vi g), some (vi t), some (vi (V 51 0)), some (vi ((0 : Nat) : Int)), none, none] s2' (by omega) ⟨c1, rfl, c2, c3, fun p hp => by omega, c4⟩
  have hV3 := hV.sc d1.rm
  refine ⟨s3', d1, d2, fun p hp hi => d3 p hp, fun p hp hm => d4 p hp hm, d5, ?_⟩
  have f1 := e1 (999999 - nP V)
  rw [Nat.sub_add_cancel (by omega)] at f1
  have f1 : t_tr tbl mtb (t_run tbl mtb (d + 66)) 208 999999 3 [some (vh 51 0), some (vi g), some (vi t), some (vi (V 51 0)), some (vi 0), none, none] [] σ = _ := f1
  rw [f1, show 999999 - nP V = 999999 - nP V - 1 - nP V + nP V + 1 by omega, tr_step (s_kX12_findStrengths_3 _ g t (V 51 0) (nP V : Int) s1), hV1 51 23 rfl rfl rfl, if_neg (by omega), nx_inl]
  have f2 := e2 (999999 - nP V - 1 - nP V)
  have f2 : t_tr tbl mtb (t_run tbl mtb (d + 66)) 208 (999999 - nP V - 1 - nP V + nP V) 35 [some (vh 51 0), some (vi g), some (vi t), some (vi (V 51 0)), some (vi 0), none, none] [] s1 = _ := f2
  rw [f2, show 999999 - nP V - 1 - nP V = 999999 - nP V - 1 - nP V - 1 - nP V + nP V + 1 by omega, tr_step (s_kX12_findStrengths_35 _ g t (V 51 0) (nP V : Int) s2'), hV2 51 23 rfl rfl rfl, if_neg (by omega), nx_inl]
  have f3 := e3 (999999 - nP V - 1 - nP V - 1 - nP V)
  have f3 : t_tr tbl mtb (t_run tbl mtb (d + 66)) 208 (999999 - nP V - 1 - nP V - 1 - nP V + nP V) 170 [some (vh 51 0), some (vi g), some (vi t), some (vi (V 51 0)), some (vi 0), none, none] [] s2' = _ := f3
  rw [f3, show 999999 - nP V - 1 - nP V - 1 - nP V = 999999 - nP V - 1 - nP V - 1 - nP V - 1 + 1 by omega, tr_step (s_kX12_findStrengths_170 _ g t (V 51 0) (nP V : Int) s3'), hV3 51 23 rfl rfl rfl, if_neg (by omega)]
  rfl
end
