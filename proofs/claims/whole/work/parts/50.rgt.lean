-- the reference's goThrough(): who goes, who is taken, the pieces behind the turn
section
variable {σ : TM} {V : TVw} {g t : Int} {A T I : Nat → Int} {d : Nat}
set_option maxHeartbeats 4000000 in
theorem r_go1 (hV : RV σ V) (hI : Inv V) (hR : RMr σ V g A T) (h99 : ∀ p, p < nP V → σ 99 0 p = mFf V g A T I p) : ∃ s, Sc srm σ s ∧ RMr s V g A T ∧ (∀ p, s 99 0 p = σ 99 0 p ∧ s 100 0 p = σ 100 0 p) ∧ (∀ p, p < nP V → s 103 0 p = bi (mGo V g A T I p)) ∧ ∀ n, t_tr tbl mtb (t_run tbl mtb (d + 72)) 211 (n + nP V) 22 [some (vh 51 0), some (vi g), some (vi t), some (vi (V 51 0)), some (vi 0), none, none] [] σ = t_tr tbl mtb (t_run tbl mtb (d + 72)) 211 n 22 [some (vh 51 0), some (vi g), some (vi t), some (vi (V 51 0)), some (vi (nP V : Int)), none, none] [] s := by
  have h0 := hI.cnt
  obtain ⟨L, s, ⟨a1, rfl, a2, a3, a4⟩, e⟩ := loop_rel (O := t_run tbl mtb (d + 72)) (k := 211) (pc := 22) (fun k L s => Sc srm σ s ∧ L = [some (vh 51 0), some (vi g), some (vi t), some (vi (V 51 0)), some (vi (k : Int)), none, none] ∧ RMr s V g A T ∧ (∀ p, s 99 0 p = σ 99 0 p ∧ s 100 0 p = σ 100 0 p) ∧ (∀ p, p < k → s 103 0 p = bi (mGo V g A T I p))) (nP V) (by
    rintro k L s hk ⟨b1, rfl, b2, b3, b4⟩
    have hVs := hV.sc b1.rm
    have r1 : 0 ≤ (k : Int) ∧ (k : Int) < 40 := by omega
    have ep := r_moves (d := d + 69) hVs hI b2 hk
    have hfin : ∀ v, v = bi (mGo V g A T I k) → Sc srm σ (t_upd s 103 0 k v) ∧ [some (vh 51 0), some (vi g), some (vi t), some (vi (V 51 0)), some (vi (k + 1 : Int)), none, none] = [some (vh 51 0), some (vi g), some (vi t), some (vi (V 51 0)), some (vi ((k + 1 : Nat) : Int)), none, none] ∧ RMr (t_upd s 103 0 k v) V g A T ∧ (∀ p, t_upd s 103 0 k v 99 0 p = σ 99 0 p ∧ t_upd s 103 0 k v 100 0 p = σ 100 0 p) ∧ (∀ p, p < k + 1 → t_upd s 103 0 k v 103 0 p = bi (mGo V g A T I p)) := by
      intro v hv
      refine ⟨b1.up rfl, rfl, fun p hp hi => by rw [up_k (by decide), up_k (by decide)]; exact b2 p hp hi, fun p => by rw [up_k (by decide), up_k (by decide)]; exact b3 p, fun p hp => ?_⟩
      by_cases e : p = k
      · subst e; rw [up_same, hv]
      · rw [up_j e]; exact b4 p (by omega)
    have st := fun N => tr_step (n := N) (s_kX12_goThrough_22 (t_run tbl mtb (d + 72)) g t (V 51 0) k s )
    simp only [hVs 51 23 rfl rfl rfl, if_pos (show (k : Int) < V 51 23 by omega), w32_nat (show k < 2147483647 by omega), Int.toNat_natCast, ep, ci_ok, bi_0, if_pos r1, (b3 k).1, h99 k hk] at st
    by_cases mp : mMv V g A k = true
    · simp only [mp, if_neg (show ¬ true = false by decide)] at st
      by_cases z : mFf V g A T I k = 0
      · simp only [if_pos z] at st
        exact ⟨_, _, hfin 1 (by unfold mGo; rw [mp, decide_eq_true z]; rfl), fun N => st N⟩
      · simp only [if_neg z] at st
        exact ⟨_, _, hfin 0 (by unfold mGo; rw [mp, decide_eq_false z]; rfl), fun N => st N⟩
    · have mpe : mMv V g A k = false := by simpa using mp
      simp only [mpe, if_true] at st
      exact ⟨_, _, hfin 0 (by unfold mGo; rw [mpe]; rfl), fun N => st N⟩) (nP V) 0 [some (vh 51 0), some (vi g), some (vi t), some (vi (V 51 0)), some (vi ((0 : Nat) : Int)), none, none] σ (by omega) ⟨Sc.rf, rfl, hR, fun p => ⟨rfl, rfl⟩, fun p hp => by omega⟩
  exact ⟨s, a1, a2, a3, a4, e⟩
theorem mGo_T (hR : RMr σ V g A T) {p : Nat} (hp : p < nP V) (h : mGo V g A T I p = true) : σ 96 0 p = T p := by
  unfold mGo at h
  rw [Bool.and_eq_true] at h
  have m := mMv_iff.mp h.1
  exact (hR p hp m.1).2 (by omega)
set_option maxHeartbeats 4000000 in
theorem r_go2 (hV : RV σ V) (hI : Inv V) (hR : RMr σ V g A T) (h103 : ∀ p, p < nP V → σ 103 0 p = bi (mGo V g A T I p)) : ∃ s, Sc srm σ s ∧ RMr s V g A T ∧ (∀ p, s 99 0 p = σ 99 0 p ∧ s 100 0 p = σ 100 0 p ∧ s 103 0 p = σ 103 0 p) ∧ (∀ p, p < nP V → s 98 0 p = bi (mGn V g A T I p)) ∧ ∀ n, t_tr tbl mtb (t_run tbl mtb (d + 72)) 211 (n + nP V * (nP V + 2)) 72 [some (vh 51 0), some (vi g), some (vi t), some (vi (V 51 0)), some (vi 0), none, none] [] σ = t_tr tbl mtb (t_run tbl mtb (d + 72)) 211 n 72 [some (vh 51 0), some (vi g), some (vi t), some (vi (V 51 0)), some (vi (nP V : Int)), none, none] [] s := by
  have h0 := hI.cnt
  obtain ⟨L, s, ⟨a1, rfl, a2, a3, a4⟩, e⟩ := loop_relc (c := nP V + 2) (O := t_run tbl mtb (d + 72)) (k := 211) (pc := 72) (fun k L s => Sc srm σ s ∧ L = [some (vh 51 0), some (vi g), some (vi t), some (vi (V 51 0)), some (vi (k : Int)), none, none] ∧ RMr s V g A T ∧ (∀ p, s 99 0 p = σ 99 0 p ∧ s 100 0 p = σ 100 0 p ∧ s 103 0 p = σ 103 0 p) ∧ (∀ p, p < k → s 98 0 p = bi (mGn V g A T I p))) (nP V) (by
    rintro k L s hk ⟨b1, rfl, b2, b3, b4⟩
    have hVs := hV.sc b1.rm
    have r1 : 0 ≤ (k : Int) ∧ (k : Int) < 40 := by omega
    have ein := r_isInb (d := d + 70) hVs hI hk g
    have v103 : ∀ p, p < nP V → s 103 0 p = bi (mGo V g A T I p) := fun p hp => by rw [(b3 p).2.2, h103 p hp]
    obtain ⟨L', s', ⟨rfl, rfl⟩, e⟩ := loop_rel (O := t_run tbl mtb (d + 72)) (k := 211) (pc := 87) (fun q L s' => s' = s ∧ L = [some (vh 51 0), some (vi g), some (vi t), some (vi (V 51 0)), some (vi (k : Int)), some (vi (bi (mIn V g k && !mGo V g A T I k && fE (fun q => mGo V g A T I q && decide (T q = V 66 k)) q))), some (vi (q : Int))]) (nP V) (by
      rintro q L s' hq ⟨rfl, rfl⟩
      have r2 : 0 ≤ (q : Int) ∧ (q : Int) < 40 := by omega
      refine ⟨_, _, ⟨rfl, rfl⟩, fun N => ?_⟩
      rw [fE]
      generalize hc : fE (fun q => mGo V g A T I q && decide (T q = V 66 k)) q = c
      have st := tr_step (n := N) (s_kX12_goThrough_87 (t_run tbl mtb (d + 72)) g t (V 51 0) k (bi (mIn V g k && !mGo V g A T I k && c)) q s' )
      simp only [hVs 51 23 rfl rfl rfl, if_pos (show (q : Int) < V 51 23 by omega), w32_nat (show q < 2147483647 by omega), Int.toNat_natCast, ein, ci_ok, bi_0, if_pos r1, if_pos r2, v103 q hq, v103 k hk, hVs 66 _ rfl rfl rfl] at st
      by_cases gq : mGo V g A T I q = true
      · rw [mGo_T b2 hq gq] at st
        cases a : mIn V g k <;> cases b : mGo V g A T I k <;> cases c <;> simp only [a, b, gq, Bool.not_true, Bool.not_false, Bool.true_and, Bool.false_and, Bool.and_true, Bool.and_false, Bool.or_true, Bool.true_or, Bool.false_or, if_true, if_neg (show ¬ true = false by decide)] at st ⊢ <;> first | exact st | (by_cases z : T q = V 66 k <;> simp only [z, if_true, if_false, decide_true, decide_false] at st ⊢ <;> exact st)
      · have gq' : mGo V g A T I q = false := by simpa using gq
        cases a : mIn V g k <;> cases b : mGo V g A T I k <;> cases c <;> simp only [a, b, gq', Bool.not_true, Bool.not_false, Bool.true_and, Bool.false_and, Bool.and_true, Bool.and_false, Bool.or_true, Bool.true_or, Bool.false_or, if_true, if_neg (show ¬ true = false by decide)] at st ⊢ <;> exact st) (nP V) 0 [some (vh 51 0), some (vi g), some (vi t), some (vi (V 51 0)), some (vi (k : Int)), some (vi (bi (mIn V g k && !mGo V g A T I k && fE (fun q => mGo V g A T I q && decide (T q = V 66 k)) 0))), some (vi ((0 : Nat) : Int))] s (by omega) ⟨rfl, rfl⟩
    have hgn : mGn V g A T I k = (mIn V g k && !mGo V g A T I k && fE (fun q => mGo V g A T I q && decide (T q = V 66 k)) (nP V)) := rfl
    rw [← hgn] at e
    refine ⟨_, t_upd s' 98 0 k (bi (mGn V g A T I k)), ⟨b1.up rfl, rfl, fun p hp hi => by rw [up_k (by decide), up_k (by decide)]; exact b2 p hp hi, fun p => by rw [up_k (by decide), up_k (by decide), up_k (by decide)]; exact b3 p, fun p hp => ?_⟩, fun n => ?_⟩
    · by_cases e : p = k
      · subst e; rw [up_same]
      · rw [up_j e]; exact b4 p (by omega)
    · have e := e (n + 1)
      rw [fE, Bool.and_false] at e
      have e : t_tr tbl mtb (t_run tbl mtb (d + 72)) 211 (n + 1 + nP V) 87 [some (vh 51 0), some (vi g), some (vi t), some (vi (V 51 0)), some (vi (k : Int)), some (vi 0), some (vi 0)] [] s' = _ := e
      rw [show n + (nP V + 2) = n + 1 + nP V + 1 by omega, tr_step (s_kX12_goThrough_72 _ g t (V 51 0) k s'), hVs 51 23 rfl rfl rfl, if_pos (by omega), nx_inl, e, tr_step (s_kX12_goThrough_87 _ g t (V 51 0) k (bi (mGn V g A T I k)) (nP V : Int) s'), hVs 51 23 rfl rfl rfl, if_neg (by omega)]
      simp only [bi_0, if_pos r1, Int.toNat_natCast, w32_nat (show k < 2147483647 by omega)]
      cases mGn V g A T I k <;> rfl) (nP V) 0 [some (vh 51 0), some (vi g), some (vi t), some (vi (V 51 0)), some (vi ((0 : Nat) : Int)), none, none] σ (by omega) ⟨Sc.rf, rfl, hR, fun p => ⟨rfl, rfl, rfl⟩, fun p hp => by omega⟩
  exact ⟨s, a1, a2, a3, a4, e⟩
def s6 (k _ : Nat) : Bool := Nat.beq k 66 || Nat.beq k 69
set_option maxHeartbeats 4000000 in
theorem r_go3 (hV : RV σ V) (hI : Inv V) (hA : mVA V g A T) (hR : RMr σ V g A T) (h103 : ∀ p, p < nP V → σ 103 0 p = bi (mGo V g A T I p)) (h98 : ∀ p, p < nP V → σ 98 0 p = bi (mGn V g A T I p)) : ∃ s, Sc s6 σ s ∧ RV s (dM V g A T I) ∧ ∀ n, t_tr tbl mtb (t_run tbl mtb (d + 72)) 211 (n + nP V) 187 [some (vh 51 0), some (vi g), some (vi t), some (vi (V 51 0)), some (vi 0), none, none] [] σ = t_tr tbl mtb (t_run tbl mtb (d + 72)) 211 n 187 [some (vh 51 0), some (vi g), some (vi t), some (vi (V 51 0)), some (vi (nP V : Int)), none, none] [] s := by
  have h0 := hI.cnt
  obtain ⟨L, s, ⟨a1, rfl, a2⟩, e⟩ := loop_rel (O := t_run tbl mtb (d + 72)) (k := 211) (pc := 187) (fun k L s => Sc s6 σ s ∧ L = [some (vh 51 0), some (vi g), some (vi t), some (vi (V 51 0)), some (vi (k : Int)), none, none] ∧ RV s (dMk V g A T I k)) (nP V) (by
    rintro k L s hk ⟨b1, rfl, b2⟩
    have hIk := dMk_inv (I := I) hI hA k
    have r1 : 0 ≤ (k : Int) ∧ (k : Int) < 40 := by omega
    obtain ⟨-, -, -, -, -, -, y7, -⟩ := hI 3 k hk
    have eg : t_run tbl mtb (d + 72) 145 [vh 51 0, vi (k : Int)] s = some (some (vi (fgm V k)), s) := r_gameOf (d := d + 71) b2 hIk hk
    have e51 : s 51 0 23 = V 51 23 := b2 51 23 rfl rfl rfl
    have e69 : s 69 0 k = V 69 k := by
      rw [b2 69 k rfl rfl rfl]
      show (if k < k ∧ mGn V g A T I k = true then (1 : Int) else V 69 k) = V 69 k
      rw [if_neg (fun z => Nat.lt_irrefl k z.1)]
    have e66 : s 66 0 k = V 66 k := by
      rw [b2 66 k rfl rfl rfl]
      show (if k < k ∧ mGo V g A T I k = true then T k else V 66 k) = V 66 k
      rw [if_neg (fun z => Nat.lt_irrefl k z.1)]
    have hfin : ∀ a b : Int, a = (if mGn V g A T I k = true then 1 else V 69 k) → b = (if mGo V g A T I k = true then T k else V 66 k) → Sc s6 σ (t_upd (t_upd s 69 0 k a) 66 0 k b) ∧ [some (vh 51 0), some (vi g), some (vi t), some (vi (V 51 0)), some (vi (k + 1 : Int)), none, none] = [some (vh 51 0), some (vi g), some (vi t), some (vi (V 51 0)), some (vi ((k + 1 : Nat) : Int)), none, none] ∧ RV (t_upd (t_upd s 69 0 k a) 66 0 k b) (dMk V g A T I (k + 1)) := by
      intro a b ha hb
      refine ⟨(b1.up rfl).up rfl, rfl, fun x j hx1 hx2 hx3 => ?_⟩
      have hs := b2 x j hx1 hx2 hx3
      unfold dMk at hs ⊢
      by_cases q1 : x = 66
      · subst q1
        rw [if_pos rfl] at hs ⊢
        by_cases q2 : j = k
        · subst q2
          rw [up_same, hb]
          by_cases q3 : mGo V g A T I j = true
          · rw [if_pos q3, if_pos ⟨by omega, q3⟩]
          · rw [if_neg q3, if_neg (fun z => q3 z.2)]
        · rw [up_j q2, up_k (by decide), hs]
          by_cases q3 : j < k ∧ mGo V g A T I j = true
          · rw [if_pos q3, if_pos ⟨by omega, q3.2⟩]
          · rw [if_neg q3, if_neg (fun z => q3 ⟨by omega, z.2⟩)]
      · rw [if_neg q1] at hs ⊢
        rw [up_k q1]
        by_cases q4 : x = 69
        · subst q4
          rw [if_pos rfl] at hs ⊢
          by_cases q2 : j = k
          · subst q2
            rw [up_same, ha]
            by_cases q3 : mGn V g A T I j = true
            · rw [if_pos q3, if_pos ⟨by omega, q3⟩]
            · rw [if_neg q3, if_neg (fun z => q3 z.2)]
          · rw [up_j q2, hs]
            by_cases q3 : j < k ∧ mGn V g A T I j = true
            · rw [if_pos q3, if_pos ⟨by omega, q3.2⟩]
            · rw [if_neg q3, if_neg (fun z => q3 ⟨by omega, z.2⟩)]
        · rw [if_neg q4] at hs ⊢
          rw [up_k q4, hs]
    have u66 : ∀ a, t_upd s 69 0 k a 66 0 k = V 66 k := fun a => by rw [up_k (by decide), e66]
    have u103 : ∀ a, t_upd s 69 0 k a 103 0 k = bi (mGo V g A T I k) := fun a => by rw [up_k (by decide), b1 103 0 k rfl, h103 k hk]
    have u96 : ∀ a, t_upd s 69 0 k a 96 0 k = σ 96 0 k := fun a => by rw [up_k (by decide), b1 96 0 k rfl]
    have st := fun N => tr_step (n := N) (s_kX12_goThrough_187 (t_run tbl mtb (d + 72)) g t (V 51 0) k s )
    simp only [e51, if_pos (show (k : Int) < V 51 23 by omega), w32_nat (show k < 2147483647 by omega), Int.toNat_natCast, eg, ci_ok, if_pos r1, e69, u66, u103, u96, b1 98 0 k rfl, h98 k hk, bi_0, bi_1] at st
    have hgo : mGo V g A T I k = true → V 69 k = 0 ∧ mGn V g A T I k = false := by
      intro z
      refine ⟨?_, ?_⟩
      · unfold mGo at z
        rw [Bool.and_eq_true] at z
        have m := (mMv_iff.mp z.1).1
        unfold mIn at m
        rw [decide_eq_true_eq] at m
        exact m.1
      · unfold mGn
        rw [z]
        simp
    have hgn : mGn V g A T I k = true → V 69 k = 0 ∧ fgm V k = g := by
      intro z
      unfold mGn at z
      rw [Bool.and_eq_true, Bool.and_eq_true] at z
      have m := z.1.1
      unfold mIn at m
      rw [decide_eq_true_eq] at m
      exact m
    by_cases z9 : V 69 k = 0
    · simp only [if_pos z9] at st
      by_cases zn : mGn V g A T I k = true
      · have zo : mGo V g A T I k = false := by
          cases z : mGo V g A T I k with
          | false => rfl
          | true => have := (hgo z).2; rw [zn] at this; cases this
        simp only [zn, zo, if_true, if_pos (hgn zn).2] at st
        exact ⟨_, _, hfin 1 _ (by rw [if_pos zn]) (by rw [zo]; rfl), fun N => st N⟩
      · have zn' : mGn V g A T I k = false := by simpa using zn
        simp only [zn', if_neg (show ¬ false = true by decide)] at st
        by_cases zo : mGo V g A T I k = true
        · simp only [zo, if_neg (show ¬ true = false by decide), mGo_T hR hk zo] at st
          exact ⟨_, _, hfin 0 _ (by rw [if_neg zn, z9]) (by rw [if_pos zo]), fun N => st N⟩
        · have zo' : mGo V g A T I k = false := by simpa using zo
          simp only [zo', if_true] at st
          exact ⟨_, _, hfin 0 _ (by rw [if_neg zn, z9]) (by rw [if_neg zo]), fun N => st N⟩
    · have zo : mGo V g A T I k = false := by
        cases z : mGo V g A T I k with
        | false => rfl
        | true => exact absurd (hgo z).1 z9
      have zn : ¬ mGn V g A T I k = true := fun z => z9 (hgn z).1
      simp only [if_neg z9, zo, if_true] at st
      exact ⟨_, _, hfin 1 _ (by rw [if_neg zn]; omega) (by rw [zo]; rfl), fun N => st N⟩) (nP V) 0 [some (vh 51 0), some (vi g), some (vi t), some (vi (V 51 0)), some (vi ((0 : Nat) : Int)), none, none] σ (by omega) ⟨Sc.rf, rfl, fun x j hx1 hx2 hx3 => by
        rw [hV x j hx1 hx2 hx3]
        unfold dMk
        by_cases q1 : x = 66
        · rw [if_pos q1, if_neg (fun z => Nat.not_lt_zero _ z.1), q1]
        · rw [if_neg q1]
          by_cases q2 : x = 69
          · rw [if_pos q2, if_neg (fun z => Nat.not_lt_zero _ z.1), q2]
          · rw [if_neg q2]⟩
  exact ⟨s, a1, a2, e⟩
end
