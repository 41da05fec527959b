-- the reference's orders of a turn: findOrders()
noncomputable def oB (V : TVw) (tw : Nat → Int) (t : Int) (p : Nat) : Int := if tw p < 0 then ford V p t else -1
noncomputable def oA (V : TVw) (tw ta : Nat → Int) (t : Int) (p : Nat) : Int := if tw p < 0 then (if ford V p t < 0 then 0 else V 90 (ford V p t).toNat) else if (fcb V p (tw p) (ta p) && fmy V p (tw p) (ta p) t) = true then tw p else 0
noncomputable def oT (V : TVw) (tw ta : Nat → Int) (t : Int) (p : Nat) : Int := if oA V tw ta t p = 0 then V 66 p else if tw p < 0 then V 91 (ford V p t).toNat else ta p
/-- what is told stands for moves of game g -/
def TW (V : TVw) (g : Int) (tw ta : Nat → Int) : Prop := ∀ p, p < nP V → mIn V g p = true → tw p < 0 ∨ (0 ≤ tw p ∧ tw p ≤ 2 ∧ (tw p = 1 → 0 ≤ ta p ∧ ta p < 48) ∧ (tw p = 2 → 0 ≤ ta p ∧ ta p < V 51 23 ∧ ta p ≠ (p : Int) ∧ fgm V (ta p).toNat = g))
/-- the reference's rows hold what is told -/
def TS (σ : TM) (V : TVw) (g : Int) (tw ta : Nat → Int) : Prop := ∀ p, p < nP V → mIn V g p = true → (tw p < 0 ∧ (σ 51 0 64 = 0 ∨ σ 101 0 p < 0)) ∨ (0 ≤ tw p ∧ σ 51 0 64 ≠ 0 ∧ σ 101 0 p = tw p ∧ σ 102 0 p = ta p)
theorem TS.sc {σ σ' : TM} {V : TVw} {g : Int} {tw ta : Nat → Int} (h : TS σ V g tw ta) (q : Sc srm σ σ') : TS σ' V g tw ta := fun p hp hi => by
  rw [q 51 0 64 rfl, q 101 0 p rfl, q 102 0 p rfl]
  exact h p hp hi
theorem fwy_self (a : Int) : fwy a a = 0 := by
  unfold fwy
  rw [Int.sub_self, Int.sub_self]
  rfl
section
variable {σ : TM} {V : TVw} {g : Int} {tw ta : Nat → Int} {t : Int} {d : Nat}
theorem fcb_in (hI : Inv V) {p : Nat} (hp : p < nP V) (hi : mIn V g p = true) {w a : Int} (h : fcb V p w a = true) (h1 : w = 1 → 0 ≤ a ∧ a < 48) (h2 : w = 2 → 0 ≤ a ∧ a < V 51 23 ∧ a ≠ (p : Int) ∧ fgm V a.toNat = g) (hw : 0 ≤ w ∧ w ≤ 2) : w = 0 ∨ w = 1 ∧ 0 ≤ a ∧ a < 48 ∧ a ≠ V 66 p ∨ w = 2 ∧ 0 ≤ a ∧ a < V 51 23 ∧ a ≠ (p : Int) ∧ mIn V g a.toNat = true := by
  rcases (by omega : w = 0 ∨ w = 1 ∨ w = 2) with e | e | e
  · exact .inl e
  · obtain ⟨a1, a2⟩ := h1 e
    refine .inr (.inl ⟨e, a1, a2, ?_⟩)
    rintro rfl
    unfold fcb at h
    rw [if_pos e, decide_eq_true_eq, fwy_self] at h
    have := h.1
    omega
  · obtain ⟨a1, a2, a3, a4⟩ := h2 e
    refine .inr (.inr ⟨e, a1, a2, a3, ?_⟩)
    unfold fcb at h
    rw [if_neg (by omega), if_pos e, decide_eq_true_eq] at h
    unfold mIn
    rw [decide_eq_true_eq]
    exact ⟨h, a4⟩
theorem ford_in (hI : Inv V) {p : Nat} (hp : p < nP V) (h : ¬ ford V p t < 0) : ∃ o : Nat, ford V p t = (o : Int) ∧ o < nO V ∧ V 89 o = (p : Int) ∧ fgd V o t = true ∧ fcb V p (V 90 o) (V 91 o) = true ∧ 0 ≤ V 90 o ∧ V 90 o ≤ 2 ∧ (V 90 o = 1 → 0 ≤ V 91 o ∧ V 91 o < 48) ∧ (V 90 o = 2 → 0 ≤ V 91 o ∧ V 91 o < V 51 23 ∧ V 91 o ≠ (p : Int) ∧ fgm V (V 91 o).toNat = fgm V p) := by
  rcases ford_r V p t with z | ⟨o, o1, o2, o3, o4⟩
  · omega
  · obtain ⟨-, -, -, -, k5, k6⟩ := hI 11 o o2
    have h6 : V 87 o ≠ 6 := by
      intro e
      have := k5 e
      omega
    obtain ⟨-, -, -, k7, k8, k9, k10⟩ := k6 h6
    rw [o3] at k10
    rw [Int.toNat_natCast] at k10
    refine ⟨o, o1, o2, o3, o4, ?_, k7, k8, k9, k10⟩
    unfold fgd fok at o4
    simp only [Bool.and_eq_true] at o4
    have := o4.1.1.2
    rw [o3, Int.toNat_natCast] at this
    exact this
theorem oVA (hI : Inv V) (hT : TW V g tw ta) : mVA V g (oA V tw ta t) (oT V tw ta t) := by
  intro p hp hi
  by_cases e : tw p < 0
  · unfold oT oA
    simp only [if_pos e]
    by_cases f : ford V p t < 0
    · exact .inl (if_pos f)
    · obtain ⟨o, o1, o2, o3, o4, o5, o6, o7, o8, o9⟩ := ford_in hI hp f
      simp only [o1, if_neg (show ¬ (o : Int) < 0 by omega), Int.toNat_natCast]
      have hg : fgm V p = g := by
        unfold mIn at hi
        rw [decide_eq_true_eq] at hi
        exact hi.2
      rw [hg] at o9
      by_cases z : V 90 o = 0
      · exact .inl z
      · rw [if_neg z]
        exact fcb_in hI hp hi o5 o8 o9 ⟨o6, o7⟩
  · unfold oT oA
    simp only [if_neg e]
    cases f : (fcb V p (tw p) (ta p) && fmy V p (tw p) (ta p) t) with
    | false => exact .inl (if_neg (by decide))
    | true =>
      rw [Bool.and_eq_true] at f
      simp only [if_true]
      rcases hT p hp hi with z | ⟨z1, z2, z3, z4⟩
      · exact absurd z e
      · by_cases z : tw p = 0
        · exact .inl z
        · rw [if_neg z]
          exact fcb_in hI hp hi f.1 z3 z4 ⟨z1, z2⟩
/-- a step of findOrders() has made piece k's row -/
def PF (s sf : TM) (k : Nat) (a b o : Int) : Prop := Sc srm s sf ∧ (∀ p, p ≠ k → sf 95 0 p = s 95 0 p ∧ sf 96 0 p = s 96 0 p ∧ sf 99 0 p = s 99 0 p ∧ sf 100 0 p = s 100 0 p) ∧ sf 95 0 k = a ∧ sf 96 0 k = b ∧ sf 99 0 k = 0 ∧ sf 100 0 k = o
theorem PF.u95 {s sf : TM} {k : Nat} {a b o : Int} (h : PF s sf k a b o) (a' : Int) : PF s (t_upd sf 95 0 k a') k a' b o := by
  obtain ⟨h1, h2, h3, h4, h5, h6⟩ := h
  exact ⟨h1.up rfl, fun p hp => by rw [up_j hp, up_k (by decide), up_k (by decide), up_k (by decide)]; exact h2 p hp, up_same, by rw [up_k (by decide)]; exact h4, by rw [up_k (by decide)]; exact h5, by rw [up_k (by decide)]; exact h6⟩
theorem PF.u96 {s sf : TM} {k : Nat} {a b o : Int} (h : PF s sf k a b o) (a' : Int) : PF s (t_upd sf 96 0 k a') k a a' o := by
  obtain ⟨h1, h2, h3, h4, h5, h6⟩ := h
  exact ⟨h1.up rfl, fun p hp => by rw [up_k (by decide), up_j hp, up_k (by decide), up_k (by decide)]; exact h2 p hp, by rw [up_k (by decide)]; exact h3, up_same, by rw [up_k (by decide)]; exact h5, by rw [up_k (by decide)]; exact h6⟩
theorem PF.u100 {s sf : TM} {k : Nat} {a b o : Int} (h : PF s sf k a b o) (a' : Int) : PF s (t_upd sf 100 0 k a') k a b a' := by
  obtain ⟨h1, h2, h3, h4, h5, h6⟩ := h
  exact ⟨h1.up rfl, fun p hp => by rw [up_k (by decide), up_k (by decide), up_k (by decide), up_j hp]; exact h2 p hp, by rw [up_k (by decide)]; exact h3, by rw [up_k (by decide)]; exact h4, by rw [up_k (by decide)]; exact h5, up_same⟩
theorem PF.q2 {s sf sg : TM} {k : Nat} {a b o : Int} (h : PF s sf k a b o) (q : Sc s2 sf sg) : PF s sg k a b o := by
  obtain ⟨h1, h2, h3, h4, h5, h6⟩ := h
  exact ⟨h1.tr (q.mono s2_srm), fun p hp => by rw [q 95 0 p rfl, q 96 0 p rfl, q 99 0 p rfl, q 100 0 p rfl]; exact h2 p hp, by rw [q 95 0 k rfl]; exact h3, by rw [q 96 0 k rfl]; exact h4, by rw [q 99 0 k rfl]; exact h5, by rw [q 100 0 k rfl]; exact h6⟩
set_option maxHeartbeats 8000000 in
theorem r_findOrders (hV : RV σ V) (hI : Inv V) (hT : TW V g tw ta) (hS : TS σ V g tw ta) : ∃ σ', Sc srm σ σ' ∧ RMr σ' V g (oA V tw ta t) (oT V tw ta t) ∧ (∀ p, p < nP V → σ' 99 0 p = 0 ∧ σ' 100 0 p = if mIn V g p = true then oB V tw t p else -1) ∧ t_run tbl mtb (d + 72) 206 [vh 51 0, vi g, vi t, vi (V 51 0)] σ = some (none, σ') := by
  have h0 := hI.cnt
  rw [run_go (k := 206) (as := [vh 51 0, vi g, vi t, vi (V 51 0)]) mt_206 (Nat.ne_of_beq_eq_false rfl) rfl (s_kX12_findOrders_0 _ g t (V 51 0) σ), nx_inl]
  obtain ⟨L, s1, ⟨a1, rfl, a2⟩, e⟩ := loop_rel (O := t_run tbl mtb (d + 71)) (k := 206) (pc := 3) (fun k L s => Sc srm σ s ∧ L = [some (vh 51 0), some (vi g), some (vi t), some (vi (V 51 0)), some (vi (k : Int)), none, none] ∧ (∀ p, p < k → s 99 0 p = 0 ∧ s 100 0 p = (if mIn V g p = true then oB V tw t p else -1) ∧ (mIn V g p = true → s 95 0 p = oA V tw ta t p ∧ s 96 0 p = oT V tw ta t p))) (nP V) (by
    rintro k L s hk ⟨b1, rfl, b2⟩
    have hVs := hV.sc b1.rm
    have r1 : 0 ≤ (k : Int) ∧ (k : Int) < 40 := by omega
    -- what a made row gives
    have hfin : ∀ sf a b o, PF s sf k a b o → o = (if mIn V g k = true then oB V tw t k else -1) → (mIn V g k = true → a = oA V tw ta t k ∧ b = oT V tw ta t k) → Sc srm σ sf ∧ [some (vh 51 0), some (vi g), some (vi t), some (vi (V 51 0)), some (vi (k + 1 : Int)), none, none] = [some (vh 51 0), some (vi g), some (vi t), some (vi (V 51 0)), some (vi ((k + 1 : Nat) : Int)), none, none] ∧ (∀ p, p < k + 1 → sf 99 0 p = 0 ∧ sf 100 0 p = (if mIn V g p = true then oB V tw t p else -1) ∧ (mIn V g p = true → sf 95 0 p = oA V tw ta t p ∧ sf 96 0 p = oT V tw ta t p)) := by
      rintro sf a b o ⟨h1, h2, h3, h4, h5, h6⟩ ho hab
      refine ⟨b1.tr h1, rfl, fun p hp => ?_⟩
      by_cases e : p = k
      · subst e
        rw [h3, h4, h5, h6]
        exact ⟨rfl, ho, hab⟩
      · obtain ⟨q1, q2, q3, q4⟩ := h2 p e
        rw [q1, q2, q3, q4]
        exact b2 p (by omega)
    have p0 : PF s (t_upd (t_upd (t_upd (t_upd s 100 0 k (-1)) 95 0 k 0) 96 0 k (V 66 k)) 99 0 k 0) k 0 (V 66 k) (-1) := by
      refine ⟨(((Sc.rf.up rfl).up rfl).up rfl).up rfl, fun p hp => ?_, ?_, ?_, up_same, ?_⟩
      · rw [up_k (by decide), up_k (by decide), up_j hp, up_k (by decide), up_k (by decide), up_j hp, up_k (by decide), up_k (by decide), up_j hp, up_k (by decide), up_k (by decide), up_k (by decide), up_k (by decide), up_k (by decide), up_k (by decide), up_j hp]
        exact ⟨rfl, rfl, rfl, rfl⟩
      · rw [up_k (by decide), up_k (by decide), up_same]
      · rw [up_k (by decide), up_same]
      · rw [up_k (by decide), up_k (by decide), up_k (by decide), up_same]
    have st := fun N => tr_step (n := N) (s_kX12_findOrders_3 (t_run tbl mtb (d + 71)) g t (V 51 0) k s )
    have e66 : (t_upd (t_upd s 100 0 k (-1)) 95 0 k 0) 66 0 k = V 66 k := by rw [up_k (by decide), up_k (by decide), hVs 66 k rfl rfl rfl]
    simp only [hVs 51 23 rfl rfl rfl, if_pos (show (k : Int) < V 51 23 by omega), w32_nat (show k < 2147483647 by omega), Int.toNat_natCast, if_pos r1, e66] at st
    generalize hs0 : t_upd (t_upd (t_upd (t_upd s 100 0 k (-1)) 95 0 k 0) 96 0 k (V 66 k)) 99 0 k 0 = s0 at st p0
    have hV0 := hVs.sc p0.1.rm
    have ein := r_isInb (d := d + 69) hV0 hI hk g
    simp only [ein, ci_ok, bi_0] at st
    by_cases hi : mIn V g k = true
    · have hif : ∀ x y : Int, (if mIn V g k = true then x else y) = x := fun x y => if_pos hi
      simp only [hi, if_neg (show ¬ true = false by decide)] at st
      have hS0 := (hS.sc b1).sc p0.1
      rcases hS0 k hk hi with ⟨w1, w2⟩ | ⟨w1, w2, w3, w4⟩
      · obtain ⟨s2, c1, c2⟩ := r_orderFor (d := d + 1) hV0 hI hk t
        have hV2 := hV0.sc c1.s2
        have pp := (p0.q2 c1).u100 (ford V k t)
        have ho : ford V k t = (if mIn V g k = true then oB V tw t k else -1) := by
          rw [if_pos hi]
          unfold oB
          rw [if_pos w1]
        have e0 : t_upd s2 100 0 k (ford V k t) 100 0 k = ford V k t := up_same
        have st : ∀ N, t_tr tbl mtb (t_run tbl mtb (d + 71)) 206 (N + 1) 3 [some (vh 51 0), some (vi g), some (vi t), some (vi (V 51 0)), some (vi (k : Int)), none, none] [] s = t_tr tbl mtb (t_run tbl mtb (d + 71)) 206 N 3 [some (vh 51 0), some (vi g), some (vi t), some (vi (V 51 0)), some (vi ((k + 1 : Nat) : Int)), none, none] [] (t_upd (t_upd (t_upd s2 100 0 k (ford V k t)) 95 0 k (oA V tw ta t k)) 96 0 k (oT V tw ta t k)) := by
          intro N
          have st := st N
          have hoA : oA V tw ta t k = if ford V k t < 0 then 0 else V 90 (ford V k t).toNat := by
            unfold oA
            rw [if_pos w1]
          have hoT : oT V tw ta t k = if oA V tw ta t k = 0 then V 66 k else V 91 (ford V k t).toNat := by
            unfold oT
            rw [if_pos w1]
          by_cases f : ford V k t < 0
          · have a0 : oA V tw ta t k = 0 := by rw [hoA, if_pos f]
            rw [hoT, if_pos a0, a0]
            have e662 : (t_upd (t_upd s2 100 0 k (ford V k t)) 95 0 k 0) 66 0 k = V 66 k := by rw [up_k (by decide), up_k (by decide), hV2 66 k rfl rfl rfl]
            by_cases w : s0 51 0 64 = 0
            · simp only [if_pos w, c2, ci_ok, e0, if_pos f, e662] at st
              exact st
            · have w' : s0 101 0 k < 0 := by rcases w2 with z | z; exact absurd z w; exact z
              simp only [if_neg w, if_pos w', c2, ci_ok, e0, if_pos f, e662] at st
              exact st
          · obtain ⟨o, o1, o2, -⟩ := ford_in hI hk f
            have r2 : 0 ≤ (o : Int) ∧ (o : Int) < 300 := by omega
            have e90 : t_upd s2 100 0 k (ford V k t) 90 0 o = V 90 o := by rw [up_k (by decide), hV2 90 o rfl rfl rfl]
            have e91 : t_upd s2 100 0 k (ford V k t) 91 0 o = V 91 o := by rw [up_k (by decide), hV2 91 o rfl rfl rfl]
            have f' : ¬ (o : Int) < 0 := by omega
            rw [o1] at e0 e90 e91 c2
            rw [hoT, hoA, o1]
            simp only [Int.toNat_natCast, if_neg f']
            have e662 : (t_upd (t_upd s2 100 0 k (o : Int)) 95 0 k (V 90 o)) 66 0 k = V 66 k := by rw [up_k (by decide), up_k (by decide), hV2 66 k rfl rfl rfl]
            by_cases w : s0 51 0 64 = 0
            · simp only [if_pos w, c2, ci_ok, e0, if_neg f', if_pos r2, Int.toNat_natCast, e90, e91, e662] at st
              by_cases z : V 90 o = 0
              · simp only [z, if_true] at st ⊢
                exact st
              · simp only [if_neg z] at st ⊢
                exact st
            · have w' : s0 101 0 k < 0 := by rcases w2 with z | z; exact absurd z w; exact z
              simp only [if_neg w, if_pos w', c2, ci_ok, e0, if_neg f', if_pos r2, Int.toNat_natCast, e90, e91, e662] at st
              by_cases z : V 90 o = 0
              · simp only [z, if_true] at st ⊢
                exact st
              · simp only [if_neg z] at st ⊢
                exact st
        exact ⟨_, _, hfin _ _ _ _ ((pp.u95 _).u96 _) ho (fun _ => ⟨rfl, rfl⟩), fun N => st N⟩
      · have hw := hT k hk hi
        have hw : 0 ≤ tw k ∧ tw k ≤ 2 ∧ (tw k = 1 → 0 ≤ ta k ∧ ta k < 48) ∧ (tw k = 2 → 0 ≤ ta k ∧ ta k < V 51 23 ∧ ta k ≠ (k : Int) ∧ fgm V (ta k).toNat = g) := by
          rcases hw with z | z
          · omega
          · exact z
        have ecb := r_canBe (d := d + 67) hV0 hI hk (w := tw k) (t := ta k) hw.2.2.1 (fun e => ⟨(hw.2.2.2 e).1, (hw.2.2.2 e).2.1⟩)
        obtain ⟨s2, c1, c2⟩ := r_mayBe (d := d + 4) hV0 hI hk (w := tw k) (a := ta k) (t := t) hw.2.2.1
        have hV2 := hV0.sc c1.s2
        have ho : (-1 : Int) = (if mIn V g k = true then oB V tw t k else -1) := by
          rw [if_pos hi]
          unfold oB
          rw [if_neg (by omega)]
        have hoA : oA V tw ta t k = if (fcb V k (tw k) (ta k) && fmy V k (tw k) (ta k) t) = true then tw k else 0 := by
          unfold oA
          rw [if_neg (by omega)]
        have hoT : oT V tw ta t k = if oA V tw ta t k = 0 then V 66 k else ta k := by
          unfold oT
          rw [if_neg (show ¬ tw k < 0 by omega)]
        have nt : ¬ tw k < 0 := by omega
        simp only [if_neg w2, w3, w4, if_neg nt, ecb, ci_ok, bi_0] at st
        have e661 : t_upd s0 95 0 k 0 66 0 k = V 66 k := by rw [up_k (by decide), hV0 66 k rfl rfl rfl]
        have e662 : ∀ x, t_upd s2 95 0 k x 66 0 k = V 66 k := fun x => by rw [up_k (by decide), hV2 66 k rfl rfl rfl]
        by_cases f1 : fcb V k (tw k) (ta k) = true
        · simp only [f1, if_neg (show ¬ true = false by decide), c2, ci_ok, bi_0] at st
          by_cases f2 : fmy V k (tw k) (ta k) t = true
          · have a0 : oA V tw ta t k = tw k := by rw [hoA, f1, f2]; rfl
            simp only [f2, if_neg (show ¬ true = false by decide)] at st
            by_cases z : tw k = 0
            · simp only [if_pos z, e662] at st
              exact ⟨_, _, hfin _ _ _ _ (((p0.q2 c1).u95 _).u96 _) ho (fun _ => ⟨a0.symm, by rw [hoT, if_pos (by rw [a0]; exact z)]⟩), fun N => st N⟩
            · simp only [if_neg z] at st
              exact ⟨_, _, hfin _ _ _ _ (((p0.q2 c1).u95 _).u96 _) ho (fun _ => ⟨a0.symm, by rw [hoT, if_neg (by rw [a0]; exact z)]⟩), fun N => st N⟩
          · have f2' : fmy V k (tw k) (ta k) t = false := by simpa using f2
            have a0 : oA V tw ta t k = 0 := by rw [hoA, f1, f2']; rfl
            simp only [f2', if_true, e662] at st
            exact ⟨_, _, hfin _ _ _ _ (((p0.q2 c1).u95 _).u96 _) ho (fun _ => ⟨a0.symm, by rw [hoT, if_pos a0]⟩), fun N => st N⟩
        · have f1' : fcb V k (tw k) (ta k) = false := by simpa using f1
          have a0 : oA V tw ta t k = 0 := by rw [hoA, f1']; rfl
          simp only [f1', if_true, e661] at st
          exact ⟨_, _, hfin _ _ _ _ ((p0.u95 _).u96 _) ho (fun _ => ⟨a0.symm, by rw [hoT, if_pos a0]⟩), fun N => st N⟩
    · have hi' : mIn V g k = false := by simpa using hi
      simp only [hi', if_true] at st
      exact ⟨_, _, hfin _ _ _ _ p0 (by rw [hi']; rfl) (fun q => absurd q hi), fun N => st N⟩) (nP V) 0 [some (vh 51 0), some (vi g), some (vi t), some (vi (V 51 0)), some (vi ((0 : Nat) : Int)), none, none] σ (by omega) ⟨Sc.rf, rfl, fun p hp => by omega⟩
  have hV1 := hV.sc a1.rm
  refine ⟨s1, a1, fun p hp hi => ⟨((a2 p hp).2.2 hi).1, fun _ => ((a2 p hp).2.2 hi).2⟩, fun p hp => ⟨(a2 p hp).1, (a2 p hp).2.1⟩, ?_⟩
  have f := e (999999 - nP V)
  rw [Nat.sub_add_cancel (by omega)] at f
  have f : t_tr tbl mtb (t_run tbl mtb (d + 71)) 206 999999 3 [some (vh 51 0), some (vi g), some (vi t), some (vi (V 51 0)), some (vi 0), none, none] [] σ = _ := f
  rw [f, show 999999 - nP V = 999999 - nP V - 1 + 1 by omega, tr_step (s_kX12_findOrders_3 _ g t (V 51 0) (nP V : Int) s1), hV1 51 23 rfl rfl rfl, if_neg (by omega)]
  rfl
end
