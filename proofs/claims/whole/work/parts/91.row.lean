-- the class's playRow()
def upf (f : Nat → Int) (p : Nat) (v : Int) : Nat → Int := fun q => if q = p then v else f q
def spr (k j : Nat) : Bool := sw k j || (s1 k j || (Nat.beq k 8 || (Nat.beq k 9 || Nat.beq k 10)))
theorem sw_spr (k j : Nat) (h : spr k j = false) : sw k j = false := (Bool.or_eq_false_iff.mp h).1
theorem s1_spr (k j : Nat) (h : spr k j = false) : s1 k j = false := (Bool.or_eq_false_iff.mp (Bool.or_eq_false_iff.mp h).2).1
theorem spr_scr (k j : Nat) (h : scr k j = false) : spr k j = false := by
  unfold spr
  rw [sw_scr k j h, s1_scr k j h]
  cases a : Nat.beq k 8 with
  | true => rw [Nat.eq_of_beq_eq_true a] at h; cases h
  | false => cases b : Nat.beq k 9 with
    | true => rw [Nat.eq_of_beq_eq_true b] at h; cases h
    | false => cases c : Nat.beq k 10 with
      | true => rw [Nat.eq_of_beq_eq_true c] at h; cases h
      | false => rfl
section
variable {σ : TM} {V : TVw} {d n : Nat} {g : Int} {A T I : Nat → Int} {dg : Nat → Nat}
theorem MR.give (h : MR σ V g A T I) {p : Nat} (w a i : Int) : MR (t_upd (t_upd (t_upd σ 8 0 p w) 9 0 p a) 10 0 p i) V g (upf A p w) (upf T p a) (upf I p i) := by
  obtain ⟨h1, h2, h3, h4, h5⟩ := h
  refine ⟨by rw [up_k (by decide), up_k (by decide), up_k (by decide)]; exact h1, fun m q hm => by rw [up_k (by decide), up_k (by decide), up_k (by decide)]; exact h2 m q hm, fun q hq hi => ?_, fun c hc => by rw [up_k (by decide), up_k (by decide), up_k (by decide)]; exact h4 c hc, fun q hq => by rw [up_k (by decide), up_k (by decide), up_k (by decide), up_k (by decide), up_k (by decide), up_k (by decide), up_k (by decide), up_k (by decide), up_k (by decide)]; exact h5 q hq⟩
  rw [up_k (show (8 : Nat) ≠ 10 by decide), up_k (show (8 : Nat) ≠ 9 by decide), up_at, up_k (show (9 : Nat) ≠ 10 by decide), up_at, up_k (show (9 : Nat) ≠ 8 by decide), up_at, up_k (show (10 : Nat) ≠ 9 by decide), up_k (show (10 : Nat) ≠ 8 by decide)]
  unfold upf
  by_cases e : q = p
  · rw [if_pos e, if_pos e, if_pos e, if_pos e, if_pos e, if_pos e]
    exact ⟨rfl, fun _ => rfl, fun _ => rfl⟩
  · rw [if_neg e, if_neg e, if_neg e, if_neg e, if_neg e, if_neg e]
    exact h3 q hq hi
theorem MR.cong {A' T' I' : Nat → Int} (h : MR σ V g A T I) (e : ∀ p, p < nP V → mIn V g p = true → A p = A' p ∧ (A' p ≠ 0 → T p = T' p) ∧ (A' p = 1 → I p = I' p)) : MR σ V g A' T' I' := by
  obtain ⟨h1, h2, h3, h4, h5⟩ := h
  refine ⟨h1, h2, fun p hp hi => ?_, h4, h5⟩
  obtain ⟨q1, q2, q3⟩ := h3 p hp hi
  obtain ⟨e1, e2, e3⟩ := e p hp hi
  rw [q1, ← e1]
  exact ⟨rfl, fun z => (q2 z).trans (e2 (by rw [← e1]; exact z)), fun z => (q3 z).trans (e3 (by rw [← e1]; exact z))⟩
theorem MR.s1 {s : TM} (h : MR σ V g A T I) (q : Sc s1 σ s) : MR s V g A T I := h.s31 (q.mono s1_s31)
theorem nt_neg (p : Nat) : nt p < 0 := (by decide : (-1 : Int) < 0)
theorem b_no {t p : Nat} (ht : (t : Int) = V 54 (hg0 V).toNat) (z1 : twR V n dg n p = -1) : bA V n dg p = aA V t p ∧ bT V n dg p = aT V t p ∧ bI V n dg p = aI V t p := by
  have hneg : twR V n dg n p < 0 := by omega
  have eA : oA V (twR V n dg n) (taR V n dg n) (V 54 (hg0 V).toNat) p = oA V nt nt t p := by
    unfold oA
    rw [if_pos hneg, if_pos (nt_neg p), ht]
  have eT : oT V (twR V n dg n) (taR V n dg n) (V 54 (hg0 V).toNat) p = oT V nt nt t p := by
    unfold oT
    rw [eA, if_pos hneg, if_pos (nt_neg p), ht]
  refine ⟨eA, eT, ?_⟩
  show fti V p (oT V _ _ _ p) _ = fti V p (oT V nt nt t p) t
  rw [eT, ht]
/-- rows made ready for any picks -/
def PRd (s : TM) (V : TVw) (n : Nat) (t : Nat) : Prop := (∃ A T I, MR s V (hg0 V) A T I ∧ ∀ p, p < nP V → mIn V (hg0 V) p = true → (∀ z, z < n → V 106 z ≠ (p : Int)) → A p = aA V t p ∧ T p = aT V t p ∧ I p = aI V t p) ∧ (∀ p, p < nP V → mIn V (hg0 V) p = false → s 7 0 p = -1) ∧ ∀ z, z < n → ∀ w : Nat, (w : Int) < V 109 z → rdy s V t z w
set_option maxHeartbeats 4000000 in
theorem c_playRow {t : Nat} (h : CR σ V) (hU : mU V (hg0 V)) (hn : V 51 72 = (n : Int)) (hn0 : 0 < n) (ht : (t : Int) = V 54 (hg0 V).toNat) (hP : PRd σ V n t) (h33 : ∀ z, z < n → σ 33 0 z = (dg z : Int)) (hd : ∀ z, z < n → (dg z : Int) < V 109 z) : ∃ s, Sc spr σ s ∧ PRd s V n t ∧ MS s V (hg0 V) (bA V n dg) (bT V n dg) (bI V n dg) ∧ t_run tbl mtb (d + 5) 122 [vh 0 0, vi (hx0 V), vi t] σ = some (some (vi (bCo V n dg)), s) := by
  have hI := h.inv
  have h0 := h.cnt
  obtain ⟨i1, i2, -, -, i5⟩ := hI 13
  obtain ⟨u1, u2, u3, u4, u5, u6, u7⟩ := h0_ok hI hn hn0
  obtain ⟨⟨A0, T0, I0, p1, p2⟩, p3, p4⟩ := hP
  have hTW := twR_TW hI hn hn0 hd
  have hVA := oVA (t := V 54 (hg0 V).toNat) hI hTW
  rw [run_go (k := 122) (as := [vh 0 0, vi (hx0 V), vi t]) mt_122 (Nat.ne_of_beq_eq_false rfl) rfl (s_kX11_playRow_0 _ (hx0 V) t σ), nx_inl]
  obtain ⟨L, s, ⟨b1, ⟨A, T, I, b2, b3, b4⟩, rfl⟩, e⟩ := loop_rel (O := t_run tbl mtb (d + 4)) (k := 122) (pc := 2) (fun k L s => (∀ a, a ≠ 8 → a ≠ 9 → a ≠ 10 → ∀ i j, s a i j = σ a i j) ∧ (∃ A T I, MR s V (hg0 V) A T I ∧ (∀ p, p < nP V → mIn V (hg0 V) p = true → (∀ z, z < n → V 106 z ≠ (p : Int)) → A p = aA V t p ∧ T p = aT V t p ∧ I p = aI V t p) ∧ ∀ z, z < k → A (V 106 z).toNat = rdA V t z (dg z) ∧ T (V 106 z).toNat = V 108 (4 * z + dg z) ∧ (rdA V t z (dg z) = 1 → I (V 106 z).toNat = fti V (V 106 z).toNat (V 108 (4 * z + dg z)) t)) ∧ L = [some (vh 0 0), some (vi (hx0 V)), some (vi (t : Int)), some (vi (k : Int)), none]) n (by
    rintro k L s hk ⟨b1, ⟨A, T, I, b2, b3, b4⟩, rfl⟩
    obtain ⟨a1, a2, a3, -⟩ := h 12
    obtain ⟨x1, x2, x3, x4, x5, x6, x7⟩ := i5 k (by omega)
    obtain ⟨y1, y2, y3⟩ := a3 k (by omega)
    obtain ⟨y4, y5⟩ := y3 (dg k) (hd k hk)
    have hd2 := hd k hk
    have r3 : 0 ≤ (k : Int) ∧ (k : Int) < 3 := by omega
    obtain ⟨p, hp⟩ : ∃ p : Nat, V 106 k = (p : Int) := ⟨(V 106 k).toNat, by omega⟩
    have q26 : s 26 0 0 = (n : Int) := by rw [b1 26 (by decide) (by decide) (by decide), a1, hn]
    have q27 : s 27 0 k = (p : Int) := by rw [b1 27 (by decide) (by decide) (by decide), y1, hp]
    have q30 : s 30 0 (4 * k + dg k) = V 108 (4 * k + dg k) := by rw [b1 30 (by decide) (by decide) (by decide), y5]
    have q33 : s 33 0 k = (dg k : Int) := by rw [b1 33 (by decide) (by decide) (by decide), h33 k hk]
    obtain ⟨w1, w2⟩ := p4 k hk (dg k) hd2
    have wi : w32 (w32 ((k : Int) * 4) + (dg k : Int)) = ((4 * k + dg k : Nat) : Int) := by
      rw [w32_add_l, w32_id (by omega) (by omega)]
      omega
    have ri : 0 ≤ ((4 * k + dg k : Nat) : Int) ∧ ((4 * k + dg k : Nat) : Int) < 12 := by omega
    have q31 : s 31 0 (4 * k + dg k) = rdA V t k (dg k) := by rw [b1 31 (by decide) (by decide) (by decide), w1]
    have st := fun N => tr_step (n := N) (s_kX11_playRow_2 (t_run tbl mtb (d + 4)) (hx0 V) t k s )
    simp only [q26, if_pos (show (k : Int) < (n : Int) by omega), if_pos r3, Int.toNat_natCast, q27, q33, wi, if_pos ri, q30, q31, c_give (d := d + 3) (show p < 40 by omega), cv_ok, w32_nat (show k < 2147483647 by omega)] at st
    refine ⟨_, _, ⟨fun a h1 h2 h3 i j => by rw [up_k h3, up_k h2, up_k h1]; exact b1 a h1 h2 h3 i j, ⟨_, _, _, b2.give _ _ _, fun q hq hi hz => ?_, fun z hz => ?_⟩, rfl⟩, st⟩
    · have ne : q ≠ p := fun e => hz k hk (by rw [hp, e])
      unfold upf
      rw [if_neg ne, if_neg ne, if_neg ne]
      exact b3 q hq hi hz
    · unfold upf
      by_cases y : z = k
      · subst y
        have ep : (V 106 z).toNat = p := by omega
        rw [if_pos ep, if_pos ep, if_pos ep]
        refine ⟨rfl, rfl, fun q => ?_⟩
        rw [b1 32 (by decide) (by decide) (by decide)]
        exact w2 q
      · obtain ⟨v1, v2, -⟩ := i5 z (by omega)
        have ne : (V 106 z).toNat ≠ p := fun e => x6 z (by omega) y (by omega)
        rw [if_neg ne, if_neg ne, if_neg ne]
        exact b4 z (by omega)) n 0 [some (vh 0 0), some (vi (hx0 V)), some (vi (t : Int)), some (vi ((0 : Nat) : Int)), none] σ (by omega) ⟨fun a _ _ _ i j => rfl, ⟨A0, T0, I0, p1, p2, fun z hz => by omega⟩, rfl⟩
  -- the rows are those of the picks
  have hM : MR s V (hg0 V) (bA V n dg) (bT V n dg) (bI V n dg) := b2.cong (fun p hp hi => by
    rcases twR_or V n dg p n (Nat.le_refl _) with ⟨z1, z2⟩ | ⟨z, z1, z2, z3, z4⟩
    · obtain ⟨c1, c2, c3⟩ := b3 p hp hi (fun z hz => z2 z (by omega) hz)
      obtain ⟨eA, eT, eI⟩ := b_no (t := t) ht z1
      exact ⟨c1.trans eA.symm, fun _ => c2.trans eT.symm, fun _ => c3.trans eI.symm⟩
    · obtain ⟨c1, c2, c3⟩ := b4 z z1
      obtain ⟨-, -, -, -, -, -, x7⟩ := i5 z (by omega)
      obtain ⟨x8, -⟩ := x7 (dg z) (hd z z1)
      have ep : (V 106 z).toNat = p := by omega
      have h69 : V 69 p = 0 := by
        unfold mIn at hi
        rw [decide_eq_true_eq] at hi
        exact hi.1
      have eA : bA V n dg p = rdA V t z (dg z) := by
        show oA V _ _ _ p = _
        unfold oA rdA
        rw [if_neg (by omega), z3, z4, ep, ← ht]
        by_cases y : (fcb V p (V 107 (4 * z + dg z)) (V 108 (4 * z + dg z)) && fmy V p (V 107 (4 * z + dg z)) (V 108 (4 * z + dg z)) t) = true
        · rw [if_pos y, if_pos ⟨h69, y⟩]
        · rw [if_neg y, if_neg (fun q => y q.2)]
      have eT : bA V n dg p ≠ 0 → bT V n dg p = V 108 (4 * z + dg z) := fun y => by
        show oT V _ _ _ p = _
        unfold oT
        rw [if_neg y, if_neg (by omega), z4]
      rw [ep] at c1 c2 c3
      refine ⟨c1.trans eA.symm, fun y => c2.trans (eT y).symm, fun y => ?_⟩
      rw [c3 (by rw [← eA]; exact y)]
      show _ = fti V p (oT V _ _ _ p) _
      have eT := eT (by rw [y]; decide)
      have eT : oT V (twR V n dg n) (taR V n dg n) (V 54 (hg0 V).toNat) p = V 108 (4 * z + dg z) := eT
      rw [eT, ← ht])
  have sc1 : Sc spr σ s := fun k i j hk => b1 k (by rintro rfl; cases hk) (by rintro rfl; cases hk) (by rintro rfl; cases hk) i j
  obtain ⟨s2', c1, c2, c3, c4⟩ := c_workOut (d := d) hI hVA hU hM
  have hM2 := hM.sc c1
  have sc2 : Sc spr σ s2' := sc1.tr (c1.mono sw_spr)
  have cr2 := h.sc (sc2.mono spr_scr)
  have h7 : ∀ p, p < nP V → s2' 7 0 p = if mIn V (hg0 V) p = true then mAf V (hg0 V) (bA V n dg) (bT V n dg) (bI V n dg) p else -1 := fun p hp => by
    by_cases y : mIn V (hg0 V) p = true
    · rw [if_pos y]
      exact (c2 p hp y).2
    · have y2 : mIn V (hg0 V) p = false := by simpa using y
      rw [if_neg y, (c3 p hp y2).1, b1 7 (by decide) (by decide) (by decide)]
      exact p3 p hp y2
  have hMS : MS s2' V (hg0 V) (bA V n dg) (bT V n dg) (bI V n dg) := by
    refine ⟨⟨cr2.day, cr2.nh, cr2.np, cr2.nr⟩, cr2 9, fun p hp => ?_, fun x hx => ?_, fun c hc => (cr2 2 (hg0 V).toNat c (by omega) hc).1, hM2.1, hM2.2.1, h7⟩
    · obtain ⟨f0, f1, -⟩ := cr2 5 p hp
      exact ⟨f0, f1⟩
    · obtain ⟨-, f1, -⟩ := cr2 3 x (by omega)
      exact ⟨(f1 hx).1, (f1 hx).2.2.1⟩
  obtain ⟨-, f1, -⟩ := cr2 3 (hx0 V) (by omega)
  obtain ⟨s3', e1, e2⟩ := c_coinsAfter (d := d) (t := V 54 (hg0 V).toNat) hI hVA hMS u4 rfl (f1 u4).2.1
  refine ⟨s3', sc2.tr (e1.mono s1_spr), ⟨⟨_, _, _, hM2.s1 e1, fun p hp hi hz => ?_⟩, fun p hp hi => ?_, fun z hz w hw => ?_⟩, hMS.sc (e1.mono s1_sst), ?_⟩
  · rcases twR_or V n dg p n (Nat.le_refl _) with ⟨z1, z2⟩ | ⟨z, z1, z2, z3, z4⟩
    · exact b_no (t := t) ht z1
    · exact absurd z2 (hz z z1)
  · rw [e1 7 0 p rfl, h7 p hp, if_neg (by rw [hi]; decide)]
  · have q := p4 z hz w hw
    unfold rdy at q ⊢
    rw [e1 31 0 _ rfl, e1 32 0 _ rfl, c1 31 0 _ rfl, c1 32 0 _ rfl, b1 31 (by decide) (by decide) (by decide), b1 32 (by decide) (by decide) (by decide)]
    exact q
  · have e := e (999998 - n + 1)
    rw [show 999998 - n + 1 + n = 999999 by omega] at e
    refine out_of (e.trans ?_)
    obtain ⟨a1, -⟩ := h 12
    have q26 : s 26 0 0 = (n : Int) := by rw [b1 26 (by decide) (by decide) (by decide), a1, hn]
    have e2 : t_run tbl mtb (d + 4) 112 [vh 0 0, vi (hx0 V), vi (t : Int)] s2' = some (some (vi (bCo V n dg)), s3') := by
      rw [ht]
      exact e2
    have st := fun N => tr_step (n := N) (s_kX11_playRow_2 (t_run tbl mtb (d + 4)) (hx0 V) t (n : Int) s )
    simp only [q26, if_neg (show ¬ (n : Int) < (n : Int) by omega), c4, cv_ok, e2, ci_ok] at st
    exact st _
end
