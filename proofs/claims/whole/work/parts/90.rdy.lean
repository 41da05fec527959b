-- the class's ways told, made ready: readyWays(), canJudge()
def s31 (k j : Nat) : Bool := s1 k j || (Nat.beq k 31 || Nat.beq k 32)
theorem s1_s31 (k j : Nat) (h : s31 k j = false) : s1 k j = false := (Bool.or_eq_false_iff.mp h).1
theorem s31_scr (k j : Nat) (h : scr k j = false) : s31 k j = false := by
  unfold s31
  rw [s1_scr k j h]
  cases a : Nat.beq k 31 with
  | true => rw [Nat.eq_of_beq_eq_true a] at h; cases h
  | false => cases b : Nat.beq k 32 with
    | true => rw [Nat.eq_of_beq_eq_true b] at h; cases h
    | false => rfl
noncomputable def rdA (V : TVw) (t : Int) (z w : Nat) : Int := if V 69 (V 106 z).toNat = 0 ∧ (fcb V (V 106 z).toNat (V 107 (4 * z + w)) (V 108 (4 * z + w)) && fmy V (V 106 z).toNat (V 107 (4 * z + w)) (V 108 (4 * z + w)) t) = true then V 107 (4 * z + w) else 0
/-- row z's way w stands ready -/
def rdy (s : TM) (V : TVw) (t : Int) (z w : Nat) : Prop := s 31 0 (4 * z + w) = rdA V t z w ∧ (rdA V t z w = 1 → s 32 0 (4 * z + w) = fti V (V 106 z).toNat (V 108 (4 * z + w)) t)
section
variable {σ : TM} {V : TVw} {d n : Nat} {t : Int}
set_option maxHeartbeats 2000000 in
theorem c_ready1 (h : CR σ V) (hn : V 51 72 = (n : Int)) {z : Nat} (hz : z < n) : ∃ s c, c ≤ 6 ∧ Sc s31 σ s ∧ (∀ w : Nat, (w : Int) < V 109 z → rdy s V t z w) ∧ (∀ j, j < 4 * z → s 31 0 j = σ 31 0 j ∧ s 32 0 j = σ 32 0 j) ∧ ∀ N, t_tr tbl mtb (t_run tbl mtb (d + 7)) 121 (N + c) 8 [some (vh 0 0), none, some (vi t), some (vi (z : Int)), none, none, none, none, none, none] [] σ = t_tr tbl mtb (t_run tbl mtb (d + 7)) 121 N 8 [some (vh 0 0), none, some (vi t), some (vi ((z + 1 : Nat) : Int)), none, none, none, none, none, none] [] s := by
  have h0 := h.cnt
  obtain ⟨i1, i2, -, -, i5⟩ := h.inv 13
  obtain ⟨a1, a2, a3, a4⟩ := h 12
  obtain ⟨x1, x2, x3, x4, x5, x6, x7⟩ := i5 z (by omega)
  obtain ⟨y1, y2, y3⟩ := a3 z (by omega)
  have r3 : 0 ≤ (z : Int) ∧ (z : Int) < 3 := by omega
  obtain ⟨p, hp⟩ : ∃ p : Nat, V 106 z = (p : Int) := ⟨(V 106 z).toNat, by omega⟩
  obtain ⟨m, hm⟩ : ∃ m : Nat, V 109 z = (m : Int) := ⟨(V 109 z).toNat, by omega⟩
  have hpn : p < nP V := by omega
  have r40 : 0 ≤ (p : Int) ∧ (p : Int) < 40 := by omega
  have ep : (V 106 z).toNat = p := by omega
  obtain ⟨L, s, ⟨b1, b2, b3, rfl⟩, e⟩ := loop_rel (O := t_run tbl mtb (d + 7)) (k := 121) (pc := 33) (fun w L s => Sc s31 σ s ∧ (∀ u, u < w → rdy s V t z u) ∧ (∀ j, j < 4 * z → s 31 0 j = σ 31 0 j ∧ s 32 0 j = σ 32 0 j) ∧ L = [some (vh 0 0), none, some (vi t), some (vi (z : Int)), some (vi (p : Int)), some (vi (w : Int)), none, none, none, none]) m (by
    rintro w L s hw ⟨b1, b2, b3, rfl⟩
    have hs := h.sc (b1.mono s31_scr)
    obtain ⟨c1, c2, c3, -⟩ := hs 12
    obtain ⟨-, d2, d3⟩ := c3 z (by omega)
    obtain ⟨d4', d5⟩ := d3 w (by omega)
    obtain ⟨w1, w2, w3, w4⟩ := x7 w (by omega)
    obtain ⟨-, -, -, -, -, -, f6⟩ := hs 5 p hpn
    have wi : w32 (w32 ((z : Int) * 4) + (w : Int)) = ((4 * z + w : Nat) : Int) := by
      rw [w32_add_l, w32_id (by omega) (by omega)]
      omega
    have ri : 0 ≤ ((4 * z + w : Nat) : Int) ∧ ((4 * z + w : Nat) : Int) < 12 := by omega
    have st := fun N => tr_step (n := N) (s_kX11_readyWays_33 (t_run tbl mtb (d + 7)) t z p w s )
    simp only [if_pos r3, Int.toNat_natCast, d2, if_pos (show (w : Int) < V 109 z by omega), wi, if_pos ri, if_pos r40, f6, d4', d5, w32_nat (show w < 2147483647 by omega)] at st
    have hfin : ∀ s' b c, Sc s31 s s' → (∀ j, s' 31 0 j = s 31 0 j ∧ s' 32 0 j = s 32 0 j) → b = rdA V t z w → (rdA V t z w = 1 → c = fti V p (V 108 (4 * z + w)) t) → Sc s31 σ (t_upd (t_upd s' 31 0 (4 * z + w) b) 32 0 (4 * z + w) c) ∧ (∀ u, u < w + 1 → rdy (t_upd (t_upd s' 31 0 (4 * z + w) b) 32 0 (4 * z + w) c) V t z u) ∧ (∀ j, j < 4 * z → t_upd (t_upd s' 31 0 (4 * z + w) b) 32 0 (4 * z + w) c 31 0 j = σ 31 0 j ∧ t_upd (t_upd s' 31 0 (4 * z + w) b) 32 0 (4 * z + w) c 32 0 j = σ 32 0 j) := by
      intro s' b c q1 q2 q3 q4
      refine ⟨((b1.tr q1).up rfl).up rfl, fun u hu => ?_, fun j hj => ?_⟩
      · unfold rdy
        rw [up_k (show (31 : Nat) ≠ 32 by decide), up_at, up_at, up_k (show (32 : Nat) ≠ 31 by decide)]
        by_cases y : u = w
        · subst y
          rw [if_pos rfl, if_pos rfl, ep]
          exact ⟨q3, q4⟩
        · rw [if_neg (by omega), if_neg (by omega), (q2 _).1, (q2 _).2]
          exact b2 u (by omega)
      · rw [up_k (show (31 : Nat) ≠ 32 by decide), up_at, up_at, up_k (show (32 : Nat) ≠ 31 by decide), if_neg (by omega), if_neg (by omega), (q2 _).1, (q2 _).2]
        exact b3 j hj
    have s1_31 : ∀ s', Sc s1 s s' → Sc s31 s s' ∧ ∀ j, s' 31 0 j = s 31 0 j ∧ s' 32 0 j = s 32 0 j := fun s' q => ⟨q.mono s1_s31, fun j => ⟨q 31 0 j rfl, q 32 0 j rfl⟩⟩
    have eA : rdA V t z w = if V 69 p = 0 ∧ (fcb V p (V 107 (4 * z + w)) (V 108 (4 * z + w)) && fmy V p (V 107 (4 * z + w)) (V 108 (4 * z + w)) t) = true then V 107 (4 * z + w) else 0 := by
      unfold rdA
      rw [ep]
    by_cases k1 : V 69 p = 0
    · simp only [if_pos k1, c_canBe (d := d + 4) hs hpn w3 (fun q => ⟨(w4 q).1, (w4 q).2.1⟩), ci_ok, bi_0] at st
      by_cases k2 : fcb V p (V 107 (4 * z + w)) (V 108 (4 * z + w)) = true
      · obtain ⟨s2', g1, g2⟩ := c_mayBe (d := d + 4) (t := t) hs hpn (a := V 108 (4 * z + w)) w3
        simp only [if_neg (show ¬ fcb V p (V 107 (4 * z + w)) (V 108 (4 * z + w)) = false by rw [k2]; decide), g2, ci_ok, bi_0] at st
        obtain ⟨m1, m2⟩ := s1_31 s2' g1
        by_cases k3 : fmy V p (V 107 (4 * z + w)) (V 108 (4 * z + w)) t = true
        · have eA2 : rdA V t z w = V 107 (4 * z + w) := by
            rw [eA, if_pos ⟨k1, by rw [k2, k3]; rfl⟩]
          simp only [if_neg (show ¬ fmy V p (V 107 (4 * z + w)) (V 108 (4 * z + w)) t = false by rw [k3]; decide)] at st
          by_cases k4 : V 107 (4 * z + w) = 1
          · have hs2 : CR (t_upd s2' 31 0 (4 * z + w) (V 107 (4 * z + w))) V := (hs.sc g1.s1).sc (Sc.rf.up rfl)
            obtain ⟨s3', j1, j2⟩ := c_tieOf (d := d + 4) (t := t) hs2 hpn (w3 k4)
            rw [k4] at j1 j2
            simp only [if_pos k4, k4, j2, ci_ok] at st
            have es3 : Sc s1 (t_upd s2' 31 0 (4 * z + w) 1) s3' := j1
            -- s3' is s2' with the way kept
            refine ⟨_, _, ⟨?_, ?_, ?_, rfl⟩, st⟩
            · exact ((b1.tr m1).up rfl).tr (j1.mono s1_s31) |>.up rfl
            · intro u hu
              unfold rdy
              rw [up_k (show (31 : Nat) ≠ 32 by decide), up_at, es3 31 0 _ rfl, es3 32 0 _ rfl, up_at, up_k (show (32 : Nat) ≠ 31 by decide)]
              by_cases y : u = w
              · subst y
                rw [if_pos rfl, if_pos rfl, ep]
                exact ⟨by rw [eA2, k4], fun _ => rfl⟩
              · rw [if_neg (by omega), if_neg (by omega), (m2 _).1, (m2 _).2]
                exact b2 u (by omega)
            · intro j hj
              rw [up_k (show (31 : Nat) ≠ 32 by decide), up_at, es3 31 0 _ rfl, es3 32 0 _ rfl, up_at, up_k (show (32 : Nat) ≠ 31 by decide), if_neg (by omega), if_neg (by omega), (m2 _).1, (m2 _).2]
              exact b3 j hj
          · simp only [if_neg k4] at st
            obtain ⟨q1, q2, q3⟩ := hfin s2' (V 107 (4 * z + w)) 0 m1 m2 eA2.symm (fun q => absurd (eA2.symm.trans q) k4)
            exact ⟨_, _, ⟨q1, q2, q3, rfl⟩, st⟩
        · have eA2 : rdA V t z w = 0 := by
            rw [eA, if_neg]
            rintro ⟨-, q⟩
            rw [Bool.and_eq_true] at q
            exact k3 q.2
          simp only [if_pos (show fmy V p (V 107 (4 * z + w)) (V 108 (4 * z + w)) t = false by simpa using k3)] at st
          obtain ⟨q1, q2, q3⟩ := hfin s2' 0 0 m1 m2 eA2.symm (fun q => by rw [eA2] at q; cases q)
          exact ⟨_, _, ⟨q1, q2, q3, rfl⟩, st⟩
      · have eA2 : rdA V t z w = 0 := by
          rw [eA, if_neg]
          rintro ⟨-, q⟩
          rw [Bool.and_eq_true] at q
          exact k2 q.1
        simp only [if_pos (show fcb V p (V 107 (4 * z + w)) (V 108 (4 * z + w)) = false by simpa using k2)] at st
        obtain ⟨q1, q2, q3⟩ := hfin s 0 0 Sc.rf (fun j => ⟨rfl, rfl⟩) eA2.symm (fun q => by rw [eA2] at q; cases q)
        exact ⟨_, _, ⟨q1, q2, q3, rfl⟩, st⟩
    · have eA2 : rdA V t z w = 0 := by
        rw [eA, if_neg (fun q => k1 q.1)]
      simp only [if_neg k1] at st
      obtain ⟨q1, q2, q3⟩ := hfin s 0 0 Sc.rf (fun j => ⟨rfl, rfl⟩) eA2.symm (fun q => by rw [eA2] at q; cases q)
      exact ⟨_, _, ⟨q1, q2, q3, rfl⟩, st⟩) m 0 [some (vh 0 0), none, some (vi t), some (vi (z : Int)), some (vi (p : Int)), some (vi ((0 : Nat) : Int)), none, none, none, none] σ (by omega) ⟨Sc.rf, fun u hu => by omega, fun j hj => ⟨rfl, rfl⟩, rfl⟩
  have hs := h.sc (b1.mono s31_scr)
  obtain ⟨c1, c2, c3, -⟩ := hs 12
  obtain ⟨-, d2, -⟩ := c3 z (by omega)
  have t1 := fun N => tr_step (n := N) (s_kX11_readyWays_8 (t_run tbl mtb (d + 7)) t z σ )
  simp only [a1, hn, if_pos (show (z : Int) < (n : Int) by omega), if_pos r3, Int.toNat_natCast, y1, hp] at t1
  have t2 := fun N => tr_step (n := N) (s_kX11_readyWays_33 (t_run tbl mtb (d + 7)) t z p m s )
  simp only [if_pos r3, Int.toNat_natCast, d2, hm, if_neg (show ¬ (m : Int) < (m : Int) by omega), w32_nat (show z < 2147483647 by omega)] at t2
  refine ⟨s, m + 2, by omega, b1, fun w hw => b2 w (by omega), b3, fun N => ?_⟩
  rw [show N + (m + 2) = N + 1 + m + 1 by omega]
  exact (t1 _).trans ((e _).trans (t2 _))
def sry (k j : Nat) : Bool := sgo k j || (Nat.beq k 31 || Nat.beq k 32)
theorem sgo_sry (k j : Nat) (h : sry k j = false) : sgo k j = false := (Bool.or_eq_false_iff.mp h).1
theorem s31_sry (k j : Nat) (h : sry k j = false) : s31 k j = false := by
  obtain ⟨h1, h2⟩ := Bool.or_eq_false_iff.mp h
  unfold s31
  rw [s1_sgo k j h1, h2]
  rfl
theorem sry_scr (k j : Nat) (h : scr k j = false) : sry k j = false := by
  have h2 := s31_scr k j h
  unfold s31 at h2
  unfold sry
  rw [sgo_scr k j h, (Bool.or_eq_false_iff.mp h2).2]
  rfl
theorem MR.s31 {s : TM} {g : Int} {A T I : Nat → Int} (h : MR σ V g A T I) (q : Sc s31 σ s) : MR s V g A T I := by
  obtain ⟨h1, h2, h3, h4, h5⟩ := h
  exact ⟨by rw [q 3 0 2 rfl, h1], fun m p hm => by rw [q 5 0 m rfl, h2 m p hm], fun p hp hi => by rw [q 8 0 p rfl, q 9 0 p rfl, q 10 0 p rfl]; exact h3 p hp hi, fun c hc => by rw [q 14 0 c rfl, h4 c hc], fun p hp => by rw [q 17 p 1 rfl, q 17 p 2 rfl, q 17 p 3 rfl]; exact h5 p hp⟩
set_option maxHeartbeats 2000000 in
theorem c_readyWays {g : Int} {t : Nat} (h : CR σ V) (hU : mU V g) (hn : V 51 72 = (n : Int)) : ∃ s, Sc sry σ s ∧ MR s V g (aA V t) (aT V t) (aI V t) ∧ (∀ p, p < 40 → s 7 0 p = -1) ∧ (∀ z, z < n → ∀ w : Nat, (w : Int) < V 109 z → rdy s V t z w) ∧ t_run tbl mtb (d + 8) 121 [vh 0 0, vi g, vi t] σ = some (none, s) := by
  have h0 := h.cnt
  obtain ⟨i1, i2, -, -, i5⟩ := h.inv 13
  obtain ⟨s1', a1, a2, -, a4, a5⟩ := c_giveOrders (d := d) (t := t) h hU
  have h1 := h.sc (a1.mono sgo_scr)
  rw [run_go (k := 121) (as := [vh 0 0, vi g, vi t]) mt_121 (Nat.ne_of_beq_eq_false rfl) rfl (s_kX11_readyWays_0 _ g t σ), cv_of a5, nx_inl]
  obtain ⟨L, s, c, hc, ⟨b1, b2, rfl⟩, e⟩ := loop_relv (C := 6) (O := t_run tbl mtb (d + 7)) (k := 121) (pc := 8) (fun k L s => Sc s31 s1' s ∧ (∀ z, z < k → ∀ w : Nat, (w : Int) < V 109 z → rdy s V t z w) ∧ L = [some (vh 0 0), none, some (vi (t : Int)), some (vi (k : Int)), none, none, none, none, none, none]) n (by
    rintro k L s hk ⟨b1, b2, rfl⟩
    obtain ⟨s', c, hc, c1, c2, c3, c4⟩ := c_ready1 (d := d) (t := t) (h1.sc (b1.mono s31_scr)) hn hk
    refine ⟨_, s', c, hc, ⟨b1.tr c1, fun z hz w hw => ?_, rfl⟩, c4⟩
    by_cases y : z = k
    · subst y
      exact c2 w hw
    · obtain ⟨-, -, -, -, x5, -⟩ := i5 z (by omega)
      obtain ⟨q1, q2⟩ := c3 (4 * z + w) (by omega)
      have q := b2 z (by omega) w hw
      unfold rdy at q ⊢
      rw [q1, q2]
      exact q) n 0 [some (vh 0 0), none, some (vi (t : Int)), some (vi ((0 : Nat) : Int)), none, none, none, none, none, none] s1' (by omega) ⟨Sc.rf, fun z hz => by omega, rfl⟩
  refine ⟨s, (a1.mono sgo_sry).tr (b1.mono s31_sry), a2.s31 b1, fun p hp => by rw [b1 7 0 p rfl]; exact (a4 p hp).2, b2, ?_⟩
  have e := e (999998 - c + 1)
  rw [show 999998 - c + 1 + c = 999999 by omega] at e
  refine out_of (e.trans ?_)
  have hs := h1.sc (b1.mono s31_scr)
  obtain ⟨c1, -⟩ := hs 12
  have st := fun N => tr_step (n := N) (s_kX11_readyWays_8 (t_run tbl mtb (d + 7)) t (n : Int) s )
  simp only [c1, hn, if_neg (show ¬ (n : Int) < (n : Int) by omega)] at st
  exact st _
end
