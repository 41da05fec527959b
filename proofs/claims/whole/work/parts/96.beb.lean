-- best(): both sides
def beV (V : TVw) (n : Nat) (dg : Nat → Nat) : TVw := fun a b => if a = 51 then (if b = 72 then 0 else if b = 74 then (n : Int) else V 51 b) else if a = 110 then (if b < n then (dg b : Int) else V 110 b) else V a b
section
variable {σ : TM} {V : TVw} {d n : Nat} {dg : Nat → Nat}
theorem be_uV : Uv [33, 34, 4328, 4329, 110, 7600, 7602] V (beV V n dg) := fun k j _ h => by
  unfold beV
  by_cases e : k = 51
  · subst e
    rw [if_pos rfl]
    by_cases e1 : j = 72
    · subst e1
      cases h
    · rw [if_neg e1]
      by_cases e2 : j = 74
      · subst e2
        cases h
      · rw [if_neg e2]
  · rw [if_neg e]
    by_cases e1 : k = 110
    · subst e1
      cases h
    · rw [if_neg e1]
theorem be_inv (hI : Inv V) (hn : n ≤ 3) : Inv (beV V n dg) := Inv.k be_uV hI (fun i hi hd => by
  rcases (by decide : ∀ i, i < 16 → djT [33, 34, 4328, 4329, 110, 7600, 7602] (idep i) = false → i = 13) i hi hd with rfl
  show 0 ≤ beV V n dg 51 72 ∧ beV V n dg 51 72 ≤ 3 ∧ 0 ≤ beV V n dg 51 74 ∧ beV V n dg 51 74 ≤ 3 ∧ ∀ s : Nat, (s : Int) < beV V n dg 51 72 → _
  have e1 : beV V n dg 51 72 = 0 := rfl
  have e2 : beV V n dg 51 74 = (n : Int) := rfl
  rw [e1, e2]
  exact ⟨by decide, by decide, by omega, by omega, fun s hs => absurd hs (by omega)⟩)
theorem be_cr {s : TM} (h : CR σ V) (hn : n ≤ 3) (uS : Uc [33, 34, 4328, 4329, 110, 7600, 7602] σ s) (f0 : s 26 0 0 = 0) (f1 : s 26 0 1 = (n : Int)) (f34 : ∀ z, z < n → s 34 0 z = (dg z : Int)) : CR s (beV V n dg) :=
  CR.k uS be_uV h (be_inv h.inv hn) (fun i hi hd => by
    rcases (by decide : ∀ i, i < 16 → djT [33, 34, 4328, 4329, 110, 7600, 7602] (cdep i) = false → i = 12) i hi hd with rfl
    refine ⟨f0, f1, fun z hz => ?_, fun z hz => ?_⟩
    · have hz : (z : Int) < 0 := hz
      omega
    · have hz : (z : Int) < (n : Int) := hz
      rw [f34 z (by omega)]
      show (dg z : Int) = if z < n then (dg z : Int) else V 110 z
      rw [if_pos (by omega)])
theorem c_choose (h : CR σ V) (hn : V 51 72 = (n : Int)) {k : Nat} (hk : k ≤ 64) : ∃ s, FC σ s ∧ Uc [33, 34, 4328, 4329, 110, 7600, 7602] σ s ∧ s 26 0 0 = 0 ∧ s 26 0 1 = (n : Int) ∧ (∀ z, z < n → s 34 0 z = (mx n (cz V n) k z : Int)) ∧ t_run tbl mtb (d + 2) 52 [vh 26 0, vi k] σ = some (none, s) := by
  have hI := h.inv
  obtain ⟨i1, i2, -⟩ := hI 13
  obtain ⟨s1', c1, c2, c3⟩ := c_pick (d := d) h hn hk
  have h1 := h.sc (c1.mono s33_scr)
  obtain ⟨a1, a2, a3, -⟩ := h1 12
  rw [run_go (k := 52) (as := [vh 26 0, vi k]) mt_52 (Nat.ne_of_beq_eq_false rfl) rfl (s_kX10_choose_0 _ k σ), cv_of c3, nx_inl]
  obtain ⟨L, s, ⟨b1, b2, rfl⟩, e⟩ := loop_rel (O := t_run tbl mtb (d + 1)) (k := 52) (pc := 7) (fun z L s => (∀ a, a ≠ 34 → ∀ i j, s a i j = s1' a i j) ∧ (∀ i, i < z → s 34 0 i = (mx n (cz V n) k i : Int)) ∧ L = [some (vh 26 0), none, some (vi (z : Int))]) n (by
    rintro z L s hz ⟨b1, b2, rfl⟩
    have r3 : 0 ≤ (z : Int) ∧ (z : Int) < 3 := by omega
    have q26 : s 26 0 0 = (n : Int) := by rw [b1 26 (by decide), a1, hn]
    have q33 : s 33 0 z = (mx n (cz V n) k z : Int) := by rw [b1 33 (by decide), c2 z hz]
    have st := fun N => tr_step (n := N) (s_kX10_choose_7 (t_run tbl mtb (d + 1)) z s)
    simp only [q26, if_pos (show (z : Int) < (n : Int) by omega), if_pos r3, Int.toNat_natCast, q33, w32_nat (show z < 2147483647 by omega)] at st
    refine ⟨_, t_upd s 34 0 z (mx n (cz V n) k z : Nat), ⟨fun a ha i j => by rw [up_k ha]; exact b1 a ha i j, fun i hi => ?_, rfl⟩, st⟩
    rw [up_at]
    by_cases y : i = z
    · rw [if_pos y, y]
    · rw [if_neg y]
      exact b2 i (by omega)) n 0 [some (vh 26 0), none, some (vi ((0 : Nat) : Int))] s1' (by omega) ⟨fun a _ i j => rfl, fun i hi => by omega, rfl⟩
  have q26 : s 26 0 0 = (n : Int) := by rw [b1 26 (by decide), a1, hn]
  refine ⟨t_upd (t_upd s 26 0 1 (n : Int)) 26 0 0 0, fun a i j ha => ?_, ?_, up_same, by rw [up_j (by decide), up_same], fun z hz => ?_, ?_⟩
  · rw [up_k (by omega), up_k (by omega), b1 a (by omega)]
    exact FC.of c1 s33_C a i j ha
  · refine Uc.up (Uc.up ?_ rfl) rfl
    intro a i j ha hj
    rw [b1 a (by rintro rfl; cases hj)]
    exact c1 a i j (by
      unfold s33
      cases q : Nat.beq a 33 with
      | false => rfl
      | true => rw [Nat.eq_of_beq_eq_true q] at hj; cases hj)
  · rw [up_k (by decide), up_k (by decide)]
    exact b2 z hz
  · have e := e (999998 - n + 1)
    rw [show 999998 - n + 1 + n = 999999 by omega] at e
    refine out_of (e.trans ?_)
    have st := fun N => tr_step (n := N) (s_kX10_choose_7 (t_run tbl mtb (d + 1)) n s)
    simp only [q26, if_neg (show ¬ (n : Int) < (n : Int) by omega)] at st
    exact st _
set_option maxHeartbeats 2000000 in
theorem r_best (hV : RV σ V) (hI : Inv V) (hn : V 51 72 = (n : Int)) (hn0 : 0 < n) (hc : cjw V = true) : ∃ s, FR σ s ∧ RV s (beV V n (mx n (cz V n) (bst V n (rws n (cz V n) n)).1)) ∧ t_run tbl mtb (d + 100) 224 [vh 51 0] σ = some (some (vi (bst V n (rws n (cz V n) n)).2.1), s) := by
  obtain ⟨n3, hcz, -⟩ := cz_ok hI hn
  have hc' : ∀ z, z < n → 1 ≤ cz V n z ∧ cz V n z ≤ 4 := fun z hz => ⟨(hcz z hz).1, (hcz z hz).2.1⟩
  have q72 : σ 51 0 72 = (n : Int) := (hV 51 72 rfl rfl rfl).trans hn
  have l3 : 4 ^ n ≤ 4 ^ 3 := Nat.pow_le_pow_right (by decide) n3
  have eN : t_run tbl mtb (d + 99) 223 [vh 51 0] σ = some (some (vi 0), σ) := by
    have := r_noRow (d := d + 98) hV hI
    rw [hc] at this
    exact this
  rw [run_go (k := 224) (as := [vh 51 0]) mt_224 (Nat.ne_of_beq_eq_false rfl) rfl (s_kX12_best_0 _ σ), eN, ci_ok, if_pos rfl, nx_inl]
  obtain ⟨L1, s1', ⟨rfl, rfl⟩, e1⟩ := loop_rel (O := t_run tbl mtb (d + 99)) (k := 224) (pc := 14) (fun j L s => s = σ ∧ L = [some (vh 51 0), some (vi ((4 ^ j : Nat) : Int)), some (vi (j : Int)), none, none, none, none]) n (by
    rintro j L s hj ⟨rfl, rfl⟩
    have l4 : 4 ^ j ≤ 4 ^ 2 := Nat.pow_le_pow_right (by decide) (by omega)
    have ew : w32 (((4 ^ j : Nat) : Int) * 4) = ((4 ^ (j + 1) : Nat) : Int) := by
      rw [Nat.pow_succ]
      generalize 4 ^ j = a at *
      rw [w32_id (by omega) (by omega)]
      omega
    have st := fun N => tr_step (n := N) (s_kX12_best_14 (t_run tbl mtb (d + 99)) ((4 ^ j : Nat) : Int) j s )
    simp only [q72, if_pos (show (j : Int) < (n : Int) by omega), ew, w32_nat (show j < 2147483647 by omega)] at st
    exact ⟨_, _, ⟨rfl, rfl⟩, st⟩) n 0 [some (vh 51 0), some (vi 1), some (vi ((0 : Nat) : Int)), none, none, none, none] σ (by omega) ⟨rfl, rfl⟩
  obtain ⟨s2', f1, f2, e2⟩ := r_bestL (d := d) hV hI hn hn0
  have q72b : s2' 51 0 72 = (n : Int) := (f2 51 72 rfl rfl rfl).trans hn
  generalize hb : bst V n (rws n (cz V n) n) = b at *
  have hmp := fun z hz => mx_psi (n := n) (c := cz V n) n3 hc' b.1 (z := z) hz
  have hpl : psi n (cz V n) b.1 < 64 := by
    have := vd_lt (e := fun j => mx n (cz V n) b.1 (n - 1 - j)) n (fun j hj => by
      have h1 := (hmp (n - 1 - j) (by omega)).2
      have h2 := (hc' (n - 1 - j) (by omega)).2
      show mx n (cz V n) b.1 (n - 1 - j) < 4
      omega)
    have : psi n (cz V n) b.1 < 4 ^ n := this
    omega
  generalize hs3 : t_upd s2' 51 0 74 (n : Int) = s3
  obtain ⟨L4, s4, ⟨g1, g2, rfl⟩, e4⟩ := loop_rel (O := t_run tbl mtb (d + 99)) (k := 224) (pc := 124) (fun j L s => (∀ a, a ≠ 110 → ∀ i k, s a i k = s3 a i k) ∧ (∀ z, s 110 0 z = if n - j ≤ z ∧ z < n then (mx n (cz V n) b.1 z : Int) else s3 110 0 z) ∧ L = [some (vh 51 0), none, some (vi ((psi n (cz V n) b.1 / 4 ^ j : Nat) : Int)), some (vi b.2.1), none, some (vi ((n : Int) - 1 - (j : Nat))), none]) n (by
    rintro j L s hj ⟨g1, g2, rfl⟩
    have e5 : psi n (cz V n) b.1 / 4 ^ (j + 1) = psi n (cz V n) b.1 / 4 ^ j / 4 := by rw [Nat.pow_succ, Nat.div_div_eq_div_mul]
    have hle : psi n (cz V n) b.1 / 4 ^ j ≤ psi n (cz V n) b.1 := Nat.div_le_self _ _
    have em : mx n (cz V n) b.1 (n - 1 - j) = psi n (cz V n) b.1 / 4 ^ j % 4 := by
      rw [← (hmp (n - 1 - j) (by omega)).1]
      unfold d4
      rw [show n - 1 - (n - 1 - j) = j by omega]
    have ev : ((n : Int) - 1 - (j : Nat)) = ((n - 1 - j : Nat) : Int) := by omega
    have e2 : w32 (((n - 1 - j : Nat) : Int) + (-1)) = (n : Int) - 1 - ((j + 1 : Nat) : Int) := by
      rw [w32_id (by omega) (by omega)]
      omega
    have r3 : 0 ≤ ((n - 1 - j : Nat) : Int) ∧ ((n - 1 - j : Nat) : Int) < 3 := by omega
    have h1 : i_rem ((psi n (cz V n) b.1 / 4 ^ j : Nat) : Int) 4 = ((mx n (cz V n) b.1 (n - 1 - j) : Nat) : Int) := by
      rw [em]
      generalize psi n (cz V n) b.1 / 4 ^ j = a at *
      rw [rem_pos (by omega)]
      omega
    have h2 : i_div ((psi n (cz V n) b.1 / 4 ^ j : Nat) : Int) 4 = ((psi n (cz V n) b.1 / 4 ^ (j + 1) : Nat) : Int) := by
      rw [e5]
      generalize psi n (cz V n) b.1 / 4 ^ j = a at *
      rw [div_pos (by omega) (by omega) (by decide)]
      omega
    rw [ev]
    have st := fun N => tr_step (n := N) (s_kX12_best_124 (t_run tbl mtb (d + 99)) ((psi n (cz V n) b.1 / 4 ^ j : Nat) : Int) b.2.1 ((n - 1 - j : Nat) : Int) s )
    simp only [if_neg (show ¬ ((n - 1 - j : Nat) : Int) < 0 by omega), if_pos r3, Int.toNat_natCast, h1, h2, e2] at st
    refine ⟨_, t_upd s 110 0 (n - 1 - j) (mx n (cz V n) b.1 (n - 1 - j) : Nat), ⟨fun a ha i k => by rw [up_k ha]; exact g1 a ha i k, fun z => ?_, rfl⟩, st⟩
    rw [up_at]
    by_cases y : z = n - 1 - j
    · rw [if_pos y, if_pos (by omega), y]
    · rw [if_neg y, g2 z]
      by_cases w : n - j ≤ z ∧ z < n
      · rw [if_pos w, if_pos (by omega)]
      · rw [if_neg w, if_neg (by omega)]) n 0 [some (vh 51 0), none, some (vi ((psi n (cz V n) b.1 / 4 ^ 0 : Nat) : Int)), some (vi b.2.1), none, some (vi ((n : Int) - 1 - ((0 : Nat) : Int))), none] s3 (by omega) ⟨fun a _ i k => rfl, fun z => by rw [if_neg (by omega)], rfl⟩
  refine ⟨t_upd s4 51 0 72 0, fun k i j hk => ?_, fun x j h1 h2 h3 => ?_, ?_⟩
  · rw [up_k (by omega), g1 k (by omega), ← hs3, up_k (by omega)]
    exact f1 k i j hk
  · unfold beV
    by_cases x51 : x = 51
    · subst x51
      rw [if_pos rfl, t_upd_eq]
      by_cases e72 : j = 72
      · rw [if_pos ⟨rfl, rfl, e72⟩, if_pos e72]
      · rw [if_neg (fun q => e72 q.2.2), if_neg e72, g1 51 (by decide), ← hs3, t_upd_eq]
        by_cases e74 : j = 74
        · rw [if_pos ⟨rfl, rfl, e74⟩, if_pos e74]
        · rw [if_neg (fun q => e74 q.2.2), if_neg e74]
          exact f2 51 j h1 h2 h3
    · rw [if_neg x51, up_k x51]
      by_cases x110 : x = 110
      · subst x110
        rw [if_pos rfl, g2 j]
        by_cases w : j < n
        · rw [if_pos (by omega), if_pos w]
        · rw [if_neg (by omega), if_neg w, ← hs3, up_k (by decide)]
          exact f2 110 j h1 h2 h3
      · rw [if_neg x110, g1 x x110, ← hs3, up_k x51]
        exact f2 x j h1 h2 h3
  · refine out_of ?_
    have t1 := fun N => tr_step (n := N) (s_kX12_best_14 (t_run tbl mtb (d + 99)) ((4 ^ n : Nat) : Int) (n : Int) s1' )
    simp only [q72, if_neg (show ¬ (n : Int) < (n : Int) by omega)] at t1
    have t2 := fun N => tr_step (n := N) (s_kX12_best_42 (t_run tbl mtb (d + 99)) ((4 ^ n : Nat) : Int) (psi n (cz V n) b.1 : Nat) b.2.1 b.2.2 ((4 ^ n : Nat) : Int) s2' )
    simp only [if_neg (show ¬ ((4 ^ n : Nat) : Int) < ((4 ^ n : Nat) : Int) from Int.lt_irrefl _), q72b, up_j (show (72 : Nat) ≠ 74 by decide), w32_id (x := (n : Int) - 1) (by omega) (by omega), hs3] at t2
    have t4 := fun N => tr_step (n := N) (s_kX12_best_124 (t_run tbl mtb (d + 99)) ((psi n (cz V n) b.1 / 4 ^ n : Nat) : Int) b.2.1 ((n : Int) - 1 - (n : Nat)) s4 )
    simp only [if_pos (show (n : Int) - 1 - (n : Nat) < 0 by omega)] at t4
    rw [Nat.pow_zero, Nat.div_one, show (n : Int) - 1 - ((0 : Nat) : Int) = (n : Int) - 1 by omega] at e4
    have E : ∀ N, t_tr tbl mtb (t_run tbl mtb (d + 99)) 224 (N + 1 + n + 1 + 4 ^ n + 1 + n) 14 [some (vh 51 0), some (vi 1), some (vi ((0 : Nat) : Int)), none, none, none, none] [] s1' = some (.inr (some (vi b.2.1), t_upd s4 51 0 72 0)) := fun N =>
      (e1 _).trans ((t1 _).trans ((e2 _).trans ((t2 _).trans ((e4 _).trans (t4 _)))))
    have E := E (999996 - n - 4 ^ n - n)
    rw [show 999996 - n - 4 ^ n - n + 1 + n + 1 + 4 ^ n + 1 + n = 999999 by omega] at E
    exact E
theorem bst_lt (V : TVw) (n : Nat) : ∀ k, 0 < k → (bst V n k).1 < k
  | 0, h => absurd h (Nat.lt_irrefl _)
  | k + 1, _ => by
    unfold bst
    split
    · exact Nat.lt_succ_self k
    · next q =>
      have : (bst V n k).1 < k := bst_lt V n k (Nat.pos_of_ne_zero (fun z => q (.inl z)))
      omega
theorem two_best (hW : WW σ V) : Two (d + 100) 117 224 [] σ := by
  have h := hW.1
  have hI := h.inv
  have h0 := h.cnt
  cases hc : cjw V with
  | false =>
    refine two_ask (r := vi (-4)) hW ⟨σ, Sc.rf, ?_⟩ (fun s hV => ⟨s, Sc.rf, ?_⟩)
    · have e := c_canJudge (d := d + 98) h
      rw [hc] at e
      rw [run_go (k := 117) (as := [vh 0 0]) mt_117 (Nat.ne_of_beq_eq_false rfl) rfl (s_kX11_best_0 _ σ), ci_of e, if_pos (show bi false = 0 from rfl)]
      rfl
    · have e := r_noRow (d := d + 98) hV hI
      rw [hc] at e
      rw [run_go (k := 224) (as := [vh 51 0]) mt_224 (Nat.ne_of_beq_eq_false rfl) rfl (s_kX12_best_0 _ s), ci_of e, if_neg (show ¬ bi (!false) = 0 by decide)]
      rfl
  | true =>
    obtain ⟨c1, c2⟩ := cjw_n hc
    obtain ⟨n, hn⟩ : ∃ n : Nat, V 51 72 = (n : Int) := ⟨(V 51 72).toNat, by omega⟩
    have hn0 : 0 < n := by omega
    obtain ⟨n3, hcz, -⟩ := cz_ok hI hn
    have hc' : ∀ z, z < n → 1 ≤ cz V n z ∧ cz V n z ≤ 4 := fun z hz => ⟨(hcz z hz).1, (hcz z hz).2.1⟩
    obtain ⟨l1, l2⟩ := rws_le (n := n) (c := cz V n) n hc'
    have l3 : 4 ^ n ≤ 4 ^ 3 := Nat.pow_le_pow_right (by decide) n3
    have eJ : t_run tbl mtb (d + 99) 120 [vh 0 0] σ = some (some (vi 1), σ) := by
      have e := c_canJudge (d := d + 98) h
      rw [hc] at e
      exact e
    obtain ⟨u1, u2, u3, u4, u5, u6, u7⟩ := h0_ok hI hn hn0
    obtain ⟨t, s2', b1, b2, b3, b4, b5⟩ := c_start (d := d + 91) h hW.2.2 hn hn0
    have h2 := h.sc (b2.mono sry_scr)
    have hK2 := hW.2.2.sc b2 (fun j => rfl)
    have e49 := c_rows (d := d + 98) h2 hn
    obtain ⟨s3', f1, f2, f3, f4⟩ := c_bestL (d := d) h2 hK2 b4 hn hn0 b1 b3
    have hb := bst_lt V n (rws n (cz V n) n) (by omega)
    obtain ⟨s4', g1, g2, g3, g4, g5, g6⟩ := c_choose (d := d + 97) f2 hn (k := (bst V n (rws n (cz V n) n)).1) (by omega)
    refine two_of (r := vi (bst V n (rws n (cz V n) n)).2.1) (V' := beV V n (mx n (cz V n) (bst V n (rws n (cz V n) n)).1)) hW ⟨s4', ((FC.of b2 sry_C).tr f1).tr g1, be_cr f2 n3 g2 g3 g4 g5, KW.k g2 be_uV f3 rfl, ?_⟩ (fun s hV => r_best (d := d) hV hI hn hn0 hc)
    obtain ⟨w1, w2, w3, -⟩ := h 12
    obtain ⟨f0, f1', -⟩ := h 5 (V 106 0).toNat (by omega)
    have f0 : σ 17 (V 106 0).toNat 0 = hg0 V := f0.trans (u7 0 hn0).2.2
    have f1' : σ 17 (V 106 0).toNat 1 = (hx0 V : Int) := f1'.trans u3
    have e38 : σ 38 (hg0 V).toNat 2 = (t : Int) := ((h 1 (hg0 V).toNat (by omega)).1).trans b1.symm
    rw [run_go (k := 117) (as := [vh 0 0]) mt_117 (Nat.ne_of_beq_eq_false rfl) rfl (s_kX11_best_0 _ σ), eJ, ci_ok, if_neg (by decide)]
    simp only [(w3 0 (by omega)).1, if_pos (show 0 ≤ V 106 0 ∧ V 106 0 < 40 by omega), f0, if_pos (show 0 ≤ hg0 V ∧ hg0 V < 3 by omega), e38, b5, cv_ok, f1', e49, ci_ok]
    rw [nx_inl]
    refine out_of ?_
    generalize rws n (cz V n) n = R at *
    have f4 := f4 (999998 - R + 1)
    rw [show 999998 - R + 1 + R = 999999 by omega] at f4
    refine f4.trans ?_
    have st := fun N => tr_step (n := N) (s_kX11_best_73 (t_run tbl mtb (d + 99)) (hx0 V) t (R : Nat) ((bst V n R).1 : Nat) (bst V n R).2.1 (bst V n R).2.2 (R : Nat) s3' )
    simp only [if_neg (show ¬ (R : Int) < (R : Int) from Int.lt_irrefl _), g6, cv_ok] at st
    exact st _
end
