-- judge(): both sides
def vd (e : Nat → Nat) : Nat → Nat
  | 0 => 0
  | j + 1 => vd e j + 4 ^ j * e j
theorem vd_lt {e : Nat → Nat} : ∀ n, (∀ j, j < n → e j < 4) → vd e n < 4 ^ n
  | 0, _ => (by decide : (0 : Nat) < 1)
  | n + 1, h => by
    have a := vd_lt n (fun j hj => h j (by omega))
    have b := h n (by omega)
    unfold vd
    have c : 4 ^ n * e n ≤ 4 ^ n * 3 := Nat.mul_le_mul_left _ (by omega)
    rw [Nat.pow_succ]
    omega
theorem d4_vd {e : Nat → Nat} {n : Nat} (hn : n ≤ 3) (h : ∀ j, j < n → e j < 4) {s : Nat} (hs : s < n) : d4 n (vd e n) s = e (n - 1 - s) := by
  unfold d4
  rcases (by omega : n = 1 ∨ n = 2 ∨ n = 3) with rfl | rfl | rfl
  · have h0 := h 0 (by decide)
    have : s = 0 := by omega
    subst this
    show (0 + 1 * e 0) / 1 % 4 = e 0
    omega
  · have h0 := h 0 (by decide)
    have h1 := h 1 (by decide)
    rcases (by omega : s = 0 ∨ s = 1) with rfl | rfl
    · show (0 + 1 * e 0 + 4 * e 1) / 4 % 4 = e 1
      omega
    · show (0 + 1 * e 0 + 4 * e 1) / 1 % 4 = e 0
      omega
  · have h0 := h 0 (by decide)
    have h1 := h 1 (by decide)
    have h2 := h 2 (by decide)
    rcases (by omega : s = 0 ∨ s = 1 ∨ s = 2) with rfl | rfl | rfl
    · show (0 + 1 * e 0 + 4 * e 1 + 16 * e 2) / 16 % 4 = e 2
      omega
    · show (0 + 1 * e 0 + 4 * e 1 + 16 * e 2) / 4 % 4 = e 1
      omega
    · show (0 + 1 * e 0 + 4 * e 1 + 16 * e 2) / 1 % 4 = e 0
      omega
def cjw (V : TVw) : Bool := decide (0 < V 51 72 ∧ V 54 (hg0 V).toNat < 30)
def s33 (k _ : Nat) : Bool := Nat.beq k 33
/-- a row of ways by decimal digits -/
def jok (V : TVw) (n x : Nat) : Bool := decide (x / 10 ^ n = 0) && !fE (fun j => decide (V 109 (n - 1 - j) ≤ ((x / 10 ^ j % 10 : Nat) : Int))) n
section
variable {σ : TM} {V : TVw} {d n : Nat}
theorem c_canJudge (h : CR σ V) : t_run tbl mtb (d + 1) 120 [vh 0 0] σ = some (some (vi (bi (cjw V))), σ) := by
  have hI := h.inv
  have h0 := h.cnt
  obtain ⟨a1, a2, a3, -⟩ := h 12
  obtain ⟨i1, i2, -⟩ := hI 13
  rw [run_go (k := 120) (as := [vh 0 0]) mt_120 (Nat.ne_of_beq_eq_false rfl) rfl (s_kX11_canJudge_0 _ σ), a1]
  unfold cjw
  by_cases z : 0 < V 51 72
  · obtain ⟨n, hn⟩ : ∃ n : Nat, V 51 72 = (n : Int) := ⟨(V 51 72).toNat, by omega⟩
    obtain ⟨u1, u2, u3, u4, u5, u6, u7⟩ := h0_ok hI hn (by omega)
    obtain ⟨f0, -⟩ := h 5 (V 106 0).toNat (by omega)
    have f0 : σ 17 (V 106 0).toNat 0 = hg0 V := f0.trans (u7 0 (by omega)).2.2
    obtain ⟨e38, -⟩ := h 1 (hg0 V).toNat (by omega)
    rw [if_pos z]
    simp only [(a3 0 z).1, if_pos (show 0 ≤ V 106 0 ∧ V 106 0 < 40 by omega), f0, if_pos (show 0 ≤ hg0 V ∧ hg0 V < 3 by omega), e38]
    (repeat' split) <;> exact leaf_b (by omega)
  · rw [if_neg z]
    exact leaf_b (by omega)
theorem r_noRow (hV : RV σ V) (hI : Inv V) : t_run tbl mtb (d + 1) 223 [vh 51 0] σ = some (some (vi (bi (!cjw V))), σ) := by
  have h0 := hI.cnt
  obtain ⟨i1, i2, -⟩ := hI 13
  have q72 : σ 51 0 72 = V 51 72 := hV 51 72 rfl rfl rfl
  rw [run_go (k := 223) (as := [vh 51 0]) mt_223 (Nat.ne_of_beq_eq_false rfl) rfl (s_kX12_noRow_0 _ σ), q72]
  unfold cjw
  by_cases z : 0 < V 51 72
  · obtain ⟨n, hn⟩ : ∃ n : Nat, V 51 72 = (n : Int) := ⟨(V 51 72).toNat, by omega⟩
    obtain ⟨u1, u2, u3, u4, u5, u6, u7⟩ := h0_ok hI hn (by omega)
    have q106 : σ 106 0 0 = V 106 0 := hV 106 0 rfl rfl rfl
    have q65 : σ 65 0 (V 106 0).toNat = (hx0 V : Int) := (hV 65 _ rfl rfl rfl).trans u3
    have q59 : σ 59 0 (hx0 V) = hg0 V := hV 59 _ rfl rfl rfl
    have q54 : σ 54 0 (hg0 V).toNat = V 54 (hg0 V).toNat := hV 54 _ rfl rfl rfl
    rw [if_neg (by omega)]
    simp only [q106, if_pos (show 0 ≤ V 106 0 ∧ V 106 0 < 40 by omega), q65, if_pos (show 0 ≤ (hx0 V : Int) ∧ (hx0 V : Int) < 12 by omega), Int.toNat_natCast, q59, if_pos (show 0 ≤ hg0 V ∧ hg0 V < 3 by omega), q54]
    by_cases y : V 54 (hg0 V).toNat < 30
    · rw [if_pos y, decide_eq_true ⟨z, y⟩]
      rfl
    · rw [if_neg y, decide_eq_false (fun q => y q.2)]
      rfl
  · rw [if_pos (by omega), decide_eq_false (fun q => z q.1)]
    rfl
theorem dig_step {x j : Nat} (hx : x ≤ 2147483647) : i_rem ((x / 10 ^ j : Nat) : Int) 10 = ((x / 10 ^ j % 10 : Nat) : Int) ∧ i_div ((x / 10 ^ j : Nat) : Int) 10 = ((x / 10 ^ (j + 1) : Nat) : Int) := by
  have e5 : x / 10 ^ (j + 1) = x / 10 ^ j / 10 := by rw [Nat.pow_succ, Nat.div_div_eq_div_mul]
  have hle : x / 10 ^ j ≤ x := Nat.div_le_self _ _
  rw [e5]
  generalize x / 10 ^ j = y at *
  rw [rem_pos (by omega), div_pos (by omega) (by omega) (by decide)]
  exact ⟨by omega, by omega⟩
set_option maxHeartbeats 2000000 in
theorem c_pickDigits (h : CR σ V) (hn : V 51 72 = (n : Int)) {x : Nat} (hx : x ≤ 2147483647) : ∃ s, Sc s33 σ s ∧ (jok V n x = true → ∀ z, z < n → s 33 0 z = ((x / 10 ^ (n - 1 - z) % 10 : Nat) : Int)) ∧ t_run tbl mtb (d + 1) 51 [vh 26 0, vi x] σ = some (some (vi (bi (jok V n x))), s) := by
  have hI := h.inv
  obtain ⟨a1, a2, a3, -⟩ := h 12
  obtain ⟨i1, i2, -, -, i5⟩ := hI 13
  rw [run_go (k := 51) (as := [vh 26 0, vi x]) mt_51 (Nat.ne_of_beq_eq_false rfl) rfl (s_kX10_pickDigits_0 _ x σ), a1, hn, w32_id (by omega) (by omega), nx_inl]
  have hst : ∀ j s, j < n → Sc s33 σ s → ∀ N, t_tr tbl mtb (t_run tbl mtb d) 51 (N + 1) 9 [some (vh 26 0), none, some (vi ((x / 10 ^ j : Nat) : Int)), some (vi ((n : Int) - 1 - (j : Nat)))] [] s = if V 109 (n - 1 - j) ≤ ((x / 10 ^ j % 10 : Nat) : Int) then some (.inr (some (vi 0), t_upd s 33 0 (n - 1 - j) ((x / 10 ^ j % 10 : Nat) : Int))) else t_tr tbl mtb (t_run tbl mtb d) 51 N 9 [some (vh 26 0), none, some (vi ((x / 10 ^ (j + 1) : Nat) : Int)), some (vi ((n : Int) - 1 - ((j + 1 : Nat) : Int)))] [] (t_upd s 33 0 (n - 1 - j) ((x / 10 ^ j % 10 : Nat) : Int)) := by
    intro j s hj hs N
    obtain ⟨g1, g2⟩ := dig_step (j := j) hx
    have ev : ((n : Int) - 1 - (j : Nat)) = ((n - 1 - j : Nat) : Int) := by omega
    have e2 : w32 (((n - 1 - j : Nat) : Int) + (-1)) = (n : Int) - 1 - ((j + 1 : Nat) : Int) := by
      rw [w32_id (by omega) (by omega)]
      omega
    have r3 : 0 ≤ ((n - 1 - j : Nat) : Int) ∧ ((n - 1 - j : Nat) : Int) < 3 := by omega
    have q28 : s 28 0 (n - 1 - j) = V 109 (n - 1 - j) := (hs 28 0 _ rfl).trans (a3 (n - 1 - j) (by omega)).2.1
    rw [ev]
    have st := fun N => tr_step (n := N) (s_kX10_pickDigits_9 (t_run tbl mtb d) ((x / 10 ^ j : Nat) : Int) ((n - 1 - j : Nat) : Int) s)
    simp only [if_neg (show ¬ ((n - 1 - j : Nat) : Int) < 0 by omega), if_pos r3, Int.toNat_natCast, g1, g2, up_same, if_neg (show ¬ ((x / 10 ^ j % 10 : Nat) : Int) < 0 from Int.not_lt.mpr (Int.natCast_nonneg _)), up_k (show (28 : Nat) ≠ 33 by decide), q28, e2] at st
    rw [st N]
    by_cases y : V 109 (n - 1 - j) ≤ ((x / 10 ^ j % 10 : Nat) : Int)
    · rw [if_pos y, if_neg (by omega)]
      rfl
    · rw [if_neg y, if_pos (by omega)]
      rfl
  have hlp : ∀ N, N ≤ n → (∀ j, j < N → ¬ V 109 (n - 1 - j) ≤ ((x / 10 ^ j % 10 : Nat) : Int)) → ∃ s, Sc s33 σ s ∧ (∀ j, j < N → s 33 0 (n - 1 - j) = ((x / 10 ^ j % 10 : Nat) : Int)) ∧ ∀ M, t_tr tbl mtb (t_run tbl mtb d) 51 (M + N) 9 [some (vh 26 0), none, some (vi (x : Int)), some (vi ((n : Int) - 1))] [] σ = t_tr tbl mtb (t_run tbl mtb d) 51 M 9 [some (vh 26 0), none, some (vi ((x / 10 ^ N : Nat) : Int)), some (vi ((n : Int) - 1 - (N : Nat)))] [] s := by
    intro N hN hf
    obtain ⟨L, s, ⟨b1, b2, rfl⟩, e⟩ := loop_rel (O := t_run tbl mtb d) (k := 51) (pc := 9) (fun j L s => Sc s33 σ s ∧ (∀ i, i < j → s 33 0 (n - 1 - i) = ((x / 10 ^ i % 10 : Nat) : Int)) ∧ L = [some (vh 26 0), none, some (vi ((x / 10 ^ j : Nat) : Int)), some (vi ((n : Int) - 1 - (j : Nat)))]) N (by
      rintro j L s hj ⟨b1, b2, rfl⟩
      refine ⟨_, t_upd s 33 0 (n - 1 - j) ((x / 10 ^ j % 10 : Nat) : Int), ⟨b1.up rfl, fun i hi => ?_, rfl⟩, fun M => ?_⟩
      · rw [up_at]
        by_cases y : i = j
        · subst y
          rw [if_pos rfl]
        · rw [if_neg (by omega)]
          exact b2 i (by omega)
      · rw [hst j s (by omega) b1 M, if_neg (hf j hj)]) N 0 [some (vh 26 0), none, some (vi ((x / 10 ^ 0 : Nat) : Int)), some (vi ((n : Int) - 1 - ((0 : Nat) : Int)))] σ (by omega) ⟨Sc.rf, fun i hi => by omega, rfl⟩
    refine ⟨s, b1, b2, fun M => ?_⟩
    have e := e M
    rw [Nat.pow_zero, Nat.div_one, show (n : Int) - 1 - ((0 : Nat) : Int) = (n : Int) - 1 by omega] at e
    exact e
  cases w : fE (fun j => decide (V 109 (n - 1 - j) ≤ ((x / 10 ^ j % 10 : Nat) : Int))) n with
  | true =>
    obtain ⟨j, hj, hj1, hj2⟩ := fE_first w
    rw [decide_eq_true_eq] at hj1
    obtain ⟨s, b1, b2, e⟩ := hlp j (by omega) (fun i hi => of_decide_eq_false (hj2 i hi))
    have ej : jok V n x = false := by
      unfold jok
      rw [w]
      exact Bool.and_false _
    have e := e (999998 - j + 1)
    rw [show 999998 - j + 1 + j = 999999 by omega, hst j s hj b1, if_pos hj1] at e
    exact ⟨t_upd s 33 0 (n - 1 - j) ((x / 10 ^ j % 10 : Nat) : Int), b1.up rfl, (fun q => by rw [ej] at q; cases q), (by rw [ej]; exact out_of e)⟩
  | false =>
    obtain ⟨s, b1, b2, e⟩ := hlp n (Nat.le_refl _) (fun i hi => of_decide_eq_false (fE_false.mp w i hi))
    have ej : jok V n x = decide (x / 10 ^ n = 0) := by
      unfold jok
      rw [w]
      exact Bool.and_true _
    refine ⟨s, b1, fun _ z hz => ?_, ?_⟩
    · have := b2 (n - 1 - z) (by omega)
      rw [show n - 1 - (n - 1 - z) = z by omega] at this
      exact this
    · have e := e (999998 - n + 1)
      rw [show 999998 - n + 1 + n = 999999 by omega] at e
      refine out_of (e.trans ?_)
      have st := fun N => tr_step (n := N) (s_kX10_pickDigits_9 (t_run tbl mtb d) ((x / 10 ^ n : Nat) : Int) ((n : Int) - 1 - (n : Nat)) s)
      simp only [if_pos (show (n : Int) - 1 - (n : Nat) < 0 by omega)] at st
      refine (st _).trans ?_
      rw [ej]
      by_cases y : x / 10 ^ n = 0
      · rw [decide_eq_true y, if_pos (by rw [y]; rfl)]
        rfl
      · rw [decide_eq_false y, if_neg (show ¬ ((x / 10 ^ n : Nat) : Int) = 0 from fun q => y (by generalize x / 10 ^ n = u at *; omega))]
        rfl
theorem neg_dig {a : Nat} (ha : a ≤ 2147483648) : i_rem (-(a : Int)) 10 = -((a % 10 : Nat) : Int) ∧ i_div (-(a : Int)) 10 = -((a / 10 : Nat) : Int) := by
  rw [i_rem_eq, i_div_eq, Int.neg_tmod, Int.neg_tdiv, Int.tmod_eq_emod_of_nonneg (Int.natCast_nonneg a), Int.tdiv_eq_ediv_of_nonneg (Int.natCast_nonneg a)]
  refine ⟨by omega, ?_⟩
  rw [Int.bmod_eq_of_le (by omega) (by omega)]
  omega
set_option maxHeartbeats 2000000 in
theorem c_pickNeg (h : CR σ V) (hn : V 51 72 = (n : Int)) {y : Nat} (hy0 : 0 < y) (hy : y ≤ 2147483648) : ∃ s, Sc s33 σ s ∧ t_run tbl mtb (d + 1) 51 [vh 26 0, vi (-(y : Int))] σ = some (some (vi 0), s) := by
  have hI := h.inv
  obtain ⟨a1, a2, a3, -⟩ := h 12
  obtain ⟨i1, i2, -, -, i5⟩ := hI 13
  rw [run_go (k := 51) (as := [vh 26 0, vi (-(y : Int))]) mt_51 (Nat.ne_of_beq_eq_false rfl) rfl (s_kX10_pickDigits_0 _ (-(y : Int)) σ), a1, hn, w32_id (by omega) (by omega), nx_inl]
  obtain ⟨r, ⟨s, rfl, b1⟩, e⟩ := loop_ex (O := t_run tbl mtb d) (k := 51) (pc := 9) (fun j L s => Sc s33 σ s ∧ 0 < y / 10 ^ j ∧ L = [some (vh 26 0), none, some (vi (-((y / 10 ^ j : Nat) : Int))), some (vi ((n : Int) - 1 - (j : Nat)))]) (fun r => ∃ s, r = (some (vi 0), s) ∧ Sc s33 σ s) n (by
    rintro j L s hj ⟨b1, b2, rfl⟩
    have e5 : y / 10 ^ (j + 1) = y / 10 ^ j / 10 := by rw [Nat.pow_succ, Nat.div_div_eq_div_mul]
    have hle : y / 10 ^ j ≤ y := Nat.div_le_self _ _
    rw [e5]
    generalize y / 10 ^ j = a at *
    obtain ⟨g1, g2⟩ := neg_dig (a := a) (by omega)
    have ev : ((n : Int) - 1 - (j : Nat)) = ((n - 1 - j : Nat) : Int) := by omega
    have e2 : w32 (((n - 1 - j : Nat) : Int) + (-1)) = (n : Int) - 1 - ((j + 1 : Nat) : Int) := by
      rw [w32_id (by omega) (by omega)]
      omega
    have r3 : 0 ≤ ((n - 1 - j : Nat) : Int) ∧ ((n - 1 - j : Nat) : Int) < 3 := by omega
    have q28 : s 28 0 (n - 1 - j) = V 109 (n - 1 - j) := (b1 28 0 _ rfl).trans (a3 (n - 1 - j) (by omega)).2.1
    obtain ⟨-, -, -, x4, -⟩ := i5 (n - 1 - j) (by omega)
    rw [ev]
    have st := fun N => tr_step (n := N) (s_kX10_pickDigits_9 (t_run tbl mtb d) (-(a : Int)) ((n - 1 - j : Nat) : Int) s)
    simp only [if_neg (show ¬ ((n - 1 - j : Nat) : Int) < 0 by omega), if_pos r3, Int.toNat_natCast, g1, g2, up_same, up_k (show (28 : Nat) ≠ 33 by decide), q28, e2] at st
    by_cases z : a % 10 = 0
    · simp only [z, if_neg (show ¬ -((0 : Nat) : Int) < 0 by decide), if_pos (show -((0 : Nat) : Int) < V 109 (n - 1 - j) by omega)] at st
      exact .inl ⟨_, t_upd s 33 0 (n - 1 - j) (-((0 : Nat) : Int)), ⟨b1.up rfl, by omega, rfl⟩, st⟩
    · simp only [if_pos (show -((a % 10 : Nat) : Int) < 0 by omega)] at st
      exact .inr ⟨_, ⟨t_upd s 33 0 (n - 1 - j) (-((a % 10 : Nat) : Int)), rfl, b1.up rfl⟩, st⟩) (by
    rintro L s ⟨b1, b2, rfl⟩
    generalize y / 10 ^ n = a at *
    have st := fun N => tr_step (n := N) (s_kX10_pickDigits_9 (t_run tbl mtb d) (-(a : Int)) ((n : Int) - 1 - (n : Nat)) s)
    simp only [if_pos (show (n : Int) - 1 - (n : Nat) < 0 by omega), if_neg (show ¬ -(a : Int) = 0 by omega)] at st
    exact ⟨_, ⟨s, rfl, b1⟩, st⟩) n 0 [some (vh 26 0), none, some (vi (-((y / 10 ^ 0 : Nat) : Int))), some (vi ((n : Int) - 1 - ((0 : Nat) : Int)))] σ 999999 (by omega) ⟨Sc.rf, by rw [Nat.pow_zero, Nat.div_one]; exact hy0, rfl⟩ (by omega)
  refine ⟨s, b1, ?_⟩
  rw [Nat.pow_zero, Nat.div_one, show (n : Int) - 1 - ((0 : Nat) : Int) = (n : Int) - 1 by omega] at e
  exact out_of e
/-- the picks by decimal digits -/
def dgj (n x z : Nat) : Nat := x / 10 ^ (n - 1 - z) % 10
theorem jok_d {x : Nat} (hj : jok V n x = true) : x / 10 ^ n = 0 ∧ ∀ j, j < n → ((x / 10 ^ j % 10 : Nat) : Int) < V 109 (n - 1 - j) := by
  unfold jok at hj
  rw [Bool.and_eq_true, decide_eq_true_eq] at hj
  refine ⟨hj.1, fun j hjn => ?_⟩
  have q := hj.2
  rw [Bool.not_eq_true'] at q
  have := of_decide_eq_false (fE_false.mp q j hjn)
  omega
set_option maxHeartbeats 2000000 in
theorem r_judge (hV : RV σ V) (hI : Inv V) (hn : V 51 72 = (n : Int)) (hn0 : 0 < n) (hc : cjw V = true) {x : Nat} (hx : x ≤ 2147483647) : ∃ s, FR σ s ∧ RV s V ∧ t_run tbl mtb (d + 100) 226 [vh 51 0, vi x] σ = some (some (vi (if jok V n x = true then bCo V n (dgj n x) else -2000000000)), s) := by
  obtain ⟨i1, i2, -, -, i5⟩ := hI 13
  have q72 : σ 51 0 72 = V 51 72 := hV 51 72 rfl rfl rfl
  have q109 : ∀ z, σ 109 0 z = V 109 z := fun z => hV 109 z rfl rfl rfl
  have eN : t_run tbl mtb (d + 99) 223 [vh 51 0] σ = some (some (vi 0), σ) := by
    have := r_noRow (d := d + 98) hV hI
    rw [hc] at this
    exact this
  rw [run_go (k := 226) (as := [vh 51 0, vi x]) mt_226 (Nat.ne_of_beq_eq_false rfl) rfl (s_kX12_judge_0 _ x σ), eN, ci_ok, if_pos rfl, if_neg (show ¬ (x : Int) < 0 by omega), q72, hn, w32_id (by omega) (by omega), nx_inl]
  obtain ⟨L, s, ⟨rfl, v3, v4, v5, rfl, b1⟩, e⟩ := loop_rel (O := t_run tbl mtb (d + 99)) (k := 226) (pc := 33) (fun j L s => s = σ ∧ ∃ v3 v4 v5 : Int, L = [some (vh 51 0), none, some (vi ((x / 10 ^ j : Nat) : Int)), some (vi v3), some (vi v4), some (vi v5), some (vi ((n : Int) - 1 - (j : Nat)))] ∧ ((v5 = 1 ∧ (∀ i, i < j → ((x / 10 ^ i % 10 : Nat) : Int) < V 109 (n - 1 - i)) ∧ v3 = (vd (fun i => x / 10 ^ i % 10) j : Nat) ∧ v4 = ((4 ^ j : Nat) : Int)) ∨ (v5 = 0 ∧ ∃ i, i < n ∧ V 109 (n - 1 - i) ≤ ((x / 10 ^ i % 10 : Nat) : Int)))) n (by
    rintro j L s hj ⟨rfl, v3, v4, v5, rfl, b1⟩
    obtain ⟨g1, g2⟩ := dig_step (j := j) hx
    have ev : ((n : Int) - 1 - (j : Nat)) = ((n - 1 - j : Nat) : Int) := by omega
    have e2 : w32 (((n - 1 - j : Nat) : Int) + (-1)) = (n : Int) - 1 - ((j + 1 : Nat) : Int) := by
      rw [w32_id (by omega) (by omega)]
      omega
    have r3 : 0 ≤ ((n - 1 - j : Nat) : Int) ∧ ((n - 1 - j : Nat) : Int) < 3 := by omega
    rw [ev]
    have st := fun N => tr_step (n := N) (s_kX12_judge_33 (t_run tbl mtb (d + 99)) ((x / 10 ^ j : Nat) : Int) v3 v4 v5 ((n - 1 - j : Nat) : Int) s )
    simp only [if_neg (show ¬ ((n - 1 - j : Nat) : Int) < 0 by omega), if_pos r3, Int.toNat_natCast, g1, g2, q109, e2] at st
    rcases b1 with ⟨c1, c2, c3, c4⟩ | ⟨c1, c2⟩
    · subst c1
      simp only [if_neg (show ¬ (1 : Int) = 0 by decide)] at st
      obtain ⟨-, -, -, x4, x5, -⟩ := i5 (n - 1 - j) (by omega)
      by_cases y : ((x / 10 ^ j % 10 : Nat) : Int) < V 109 (n - 1 - j)
      · simp only [if_pos y] at st
        refine ⟨_, _, ⟨rfl, _, _, 1, rfl, .inl ⟨rfl, fun i hi => ?_, ?_, ?_⟩⟩, st⟩
        · by_cases z : i = j
          · subst z
            exact y
          · exact c2 i (by omega)
        · have hb : vd (fun i => x / 10 ^ i % 10) j < 4 ^ j := vd_lt j (fun i hi => by
            have := c2 i hi
            obtain ⟨-, -, -, -, x5, -⟩ := i5 (n - 1 - i) (by omega)
            show x / 10 ^ i % 10 < 4
            omega)
          have ed : vd (fun i => x / 10 ^ i % 10) (j + 1) = vd (fun i => x / 10 ^ i % 10) j + 4 ^ j * (x / 10 ^ j % 10) := rfl
          rw [c3, c4, ed]
          generalize vd (fun i => x / 10 ^ i % 10) j = a at *
          have hc : x / 10 ^ j % 10 < 4 := by omega
          generalize x / 10 ^ j % 10 = c at *
          rcases (by omega : j = 0 ∨ j = 1 ∨ j = 2) with rfl | rfl | rfl
          · rw [w32_id (x := ((4 ^ 0 : Nat) : Int) * (c : Int)) (by omega) (by omega), w32_id (by omega) (by omega)]
            omega
          · rw [w32_id (x := ((4 ^ 1 : Nat) : Int) * (c : Int)) (by omega) (by omega), w32_id (by omega) (by omega)]
            omega
          · rw [w32_id (x := ((4 ^ 2 : Nat) : Int) * (c : Int)) (by omega) (by omega), w32_id (by omega) (by omega)]
            omega
        · rw [c4]
          rcases (by omega : j = 0 ∨ j = 1 ∨ j = 2) with rfl | rfl | rfl
          · exact w32_id (by decide) (by decide)
          · exact w32_id (by decide) (by decide)
          · exact w32_id (by decide) (by decide)
      · simp only [if_neg y] at st
        exact ⟨_, _, ⟨rfl, _, _, 0, rfl, .inr ⟨rfl, j, hj, by omega⟩⟩, st⟩
    · subst c1
      simp only [if_true] at st
      exact ⟨_, _, ⟨rfl, _, _, 0, rfl, .inr ⟨rfl, c2⟩⟩, st⟩) n 0 [some (vh 51 0), none, some (vi ((x / 10 ^ 0 : Nat) : Int)), some (vi 0), some (vi 1), some (vi 1), some (vi ((n : Int) - 1 - ((0 : Nat) : Int)))] σ (by omega) ⟨rfl, 0, 1, 1, rfl, .inl ⟨rfl, fun i hi => by omega, rfl, rfl⟩⟩
  have e := e (999998 - n + 1)
  rw [Nat.pow_zero, Nat.div_one, show (n : Int) - 1 - ((0 : Nat) : Int) = (n : Int) - 1 by omega, show 999998 - n + 1 + n = 999999 by omega] at e
  have st := fun N => tr_step (n := N) (s_kX12_judge_33 (t_run tbl mtb (d + 99)) ((x / 10 ^ n : Nat) : Int) v3 v4 v5 ((n : Int) - 1 - (n : Nat)) s )
  simp only [if_pos (show (n : Int) - 1 - (n : Nat) < 0 by omega)] at st
  rcases b1 with ⟨c1, c2, c3, c4⟩ | ⟨c1, i, c2, c3⟩
  · subst c1
    simp only [if_neg (show ¬ (1 : Int) = 0 by decide)] at st
    by_cases y : x / 10 ^ n = 0
    · have ej : jok V n x = true := by
        unfold jok
        rw [decide_eq_true y, Bool.true_and, Bool.not_eq_true']
        exact fE_false.mpr (fun j hj => decide_eq_false (by have := c2 j hj; omega))
      have h4 : ∀ j, j < n → x / 10 ^ j % 10 < 4 := fun j hj => by
        have := c2 j hj
        obtain ⟨-, -, -, -, x5, -⟩ := i5 (n - 1 - j) (by omega)
        omega
      have hdd : ∀ z, z < n → d4 n (vd (fun i => x / 10 ^ i % 10) n) z = x / 10 ^ (n - 1 - z) % 10 := fun z hz => d4_vd (e := fun i => x / 10 ^ i % 10) (by omega) h4 hz
      have hfun : d4 n (vd (fun i => x / 10 ^ i % 10) n) = dgj n x := by
        funext z
        by_cases hz : z < n
        · exact hdd z hz
        · have q := hdd (n - 1) (by omega)
          unfold d4 at q ⊢
          unfold dgj
          rw [show n - 1 - z = n - 1 - (n - 1) by omega]
          exact q
      obtain ⟨s', f1, f2, f3, f4⟩ := r_coinsBy (d := d + 25) hV hI hn hn0 (vd_lt (e := fun i => x / 10 ^ i % 10) n h4) (fun z hz => by
        rw [hdd z hz]
        have := c2 (n - 1 - z) (by omega)
        rw [show n - 1 - (n - 1 - z) = z by omega] at this
        exact this)
      rw [hfun] at f4
      rw [c3] at st e
      simp only [y, if_neg (show ¬ (0 : Int) < ((0 : Nat) : Int) by decide), f4, ci_ok] at st e
      refine ⟨s', f1, f2, ?_⟩
      rw [if_pos ej]
      exact out_of (e.trans (st _))
    · have ej : jok V n x = false := by
        unfold jok
        rw [decide_eq_false y, Bool.false_and]
      have y2 : 0 < ((x / 10 ^ n : Nat) : Int) := by generalize x / 10 ^ n = u at *; omega
      simp only [if_pos y2] at st
      refine ⟨s, FR.rf, hV, ?_⟩
      rw [ej, if_neg (by decide)]
      exact out_of (e.trans (st _))
  · subst c1
    simp only [if_true] at st
    have ej : jok V n x = false := by
      unfold jok
      rw [fE_iff.mpr ⟨i, c2, decide_eq_true c3⟩]
      exact Bool.and_false _
    refine ⟨s, FR.rf, hV, ?_⟩
    rw [ej, if_neg (by decide)]
    exact out_of (e.trans (st _))
theorem s33_C (k j : Nat) (h : s33 k j = true) : k < 51 := by
  have := Nat.eq_of_beq_eq_true h
  omega
theorem s33_scr (k j : Nat) (h : scr k j = false) : s33 k j = false := by
  unfold s33
  cases a : Nat.beq k 33 with
  | true => rw [Nat.eq_of_beq_eq_true a] at h; cases h
  | false => rfl
theorem sb_C (k j : Nat) (h : sb k j = true) : k < 51 := by
  unfold sb at h
  rw [Bool.or_eq_true, Bool.and_eq_true] at h
  rcases h with h | ⟨h1, h2⟩
  · have := Nat.eq_of_beq_eq_true h
    omega
  · have := Nat.le_of_ble_eq_true h2
    omega
theorem sry_C (k j : Nat) (h : sry k j = true) : k < 51 := by
  unfold sry sgo at h
  rw [Bool.or_eq_true, Bool.or_eq_true, Bool.or_eq_true] at h
  rcases h with (h | h) | (h | h)
  · exact sb_C k j h
  · exact s1_C k j h
  · have := Nat.eq_of_beq_eq_true h
    omega
  · have := Nat.eq_of_beq_eq_true h
    omega
theorem spr_C (k j : Nat) (h : spr k j = true) : k < 51 := by
  unfold spr sw at h
  simp only [Bool.or_eq_true] at h
  rcases h with (h | h | h | h | h | h) | h | h | h | h
  all_goals first | (have := Nat.eq_of_beq_eq_true h; omega) | exact s1_C k j h
theorem cjw_n (hc : cjw V = true) : 0 < V 51 72 ∧ V 54 (hg0 V).toNat < 30 := by
  unfold cjw at hc
  exact of_decide_eq_true hc
/-- what the class's judge() and best() start from -/
theorem c_start (h : CR σ V) (hK : KW σ V) (hn : V 51 72 = (n : Int)) (hn0 : 0 < n) : ∃ (t : Nat) (s : TM), (t : Int) = V 54 (hg0 V).toNat ∧ Sc sry σ s ∧ PRd s V n t ∧ mU V (hg0 V) ∧ t_run tbl mtb (d + 8) 121 [vh 0 0, vi (hg0 V), vi t] σ = some (none, s) := by
  have hI := h.inv
  have h0 := h.cnt
  obtain ⟨u1, u2, u3, u4, u5, u6, u7⟩ := h0_ok hI hn hn0
  obtain ⟨b1, b2, -⟩ := hI 1 (hg0 V).toNat (by omega)
  have hU := (hK (hg0 V) u5 u6).1.mU hI
  obtain ⟨s, a1, a2, a3, a4, a5⟩ := c_readyWays (d := d) (g := hg0 V) (t := (V 54 (hg0 V).toNat).toNat) h hU hn
  exact ⟨_, s, by omega, a1, ⟨⟨_, _, _, a2, fun p hp hi hz => ⟨rfl, rfl, rfl⟩⟩, fun p hp hi => a3 p (by omega), a4⟩, hU, a5⟩
theorem two_judge (hW : WW σ V) (x : Int) (hx1 : -2147483648 ≤ x) (hx2 : x ≤ 2147483647) : Two (d + 100) 119 226 [vi x] σ := by
  have h := hW.1
  have hI := h.inv
  have h0 := h.cnt
  cases hc : cjw V with
  | false =>
    refine two_ask (r := vi (-2000000000)) hW ⟨σ, Sc.rf, ?_⟩ (fun s hV => ⟨s, Sc.rf, ?_⟩)
    · have e := c_canJudge (d := d + 98) h
      rw [hc] at e
      rw [run_go (k := 119) (as := [vh 0 0, vi x]) mt_119 (Nat.ne_of_beq_eq_false rfl) rfl (s_kX11_judge_0 _ x σ), ci_of e, if_pos (show bi false = 0 from rfl)]
      rfl
    · have e := r_noRow (d := d + 98) hV hI
      rw [hc] at e
      rw [run_go (k := 226) (as := [vh 51 0, vi x]) mt_226 (Nat.ne_of_beq_eq_false rfl) rfl (s_kX12_judge_0 _ x s), ci_of e, if_neg (show ¬ bi (!false) = 0 by decide)]
      rfl
  | true =>
    obtain ⟨c1, c2⟩ := cjw_n hc
    obtain ⟨n, hn⟩ : ∃ n : Nat, V 51 72 = (n : Int) := ⟨(V 51 72).toNat, by omega⟩
    have hn0 : 0 < n := by omega
    have eJ : t_run tbl mtb (d + 99) 120 [vh 0 0] σ = some (some (vi 1), σ) := by
      have e := c_canJudge (d := d + 98) h
      rw [hc] at e
      exact e
    by_cases hx : x < 0
    · obtain ⟨y, hy⟩ : ∃ y : Nat, x = -(y : Int) := ⟨(-x).toNat, by omega⟩
      obtain ⟨s, a1, a2⟩ := c_pickNeg (d := d + 98) h hn (y := y) (by omega) (by omega)
      refine two_of (r := vi (-2000000000)) (V' := V) hW ⟨s, FC.of a1 s33_C, h.sc (a1.mono s33_scr), hW.2.2.sc a1 (fun j => rfl), ?_⟩ (fun s hV => ⟨s, FR.rf, hV, ?_⟩)
      · rw [hy, run_go (k := 119) (as := [vh 0 0, vi (-(y : Int))]) mt_119 (Nat.ne_of_beq_eq_false rfl) rfl (s_kX11_judge_0 _ (-(y : Int)) σ), eJ, ci_ok, if_neg (by decide), ci_of a2, if_pos rfl]
        rfl
      · have e := r_noRow (d := d + 98) hV hI
        rw [hc] at e
        rw [run_go (k := 226) (as := [vh 51 0, vi x]) mt_226 (Nat.ne_of_beq_eq_false rfl) rfl (s_kX12_judge_0 _ x s), ci_of e, if_pos (show bi (!true) = 0 from rfl), if_pos hx]
        rfl
    · obtain ⟨y, rfl⟩ : ∃ y : Nat, x = (y : Int) := ⟨x.toNat, by omega⟩
      obtain ⟨s, a1, a2, a3⟩ := c_pickDigits (d := d + 98) h hn (x := y) (by omega)
      have h1 := h.sc (a1.mono s33_scr)
      have hK1 := hW.2.2.sc a1 (fun j => rfl)
      cases hj : jok V n y with
      | false =>
        rw [hj] at a3
        refine two_of (r := vi (-2000000000)) (V' := V) hW ⟨s, FC.of a1 s33_C, h1, hK1, ?_⟩ (fun s hV => ?_)
        · rw [run_go (k := 119) (as := [vh 0 0, vi y]) mt_119 (Nat.ne_of_beq_eq_false rfl) rfl (s_kX11_judge_0 _ y σ), eJ, ci_ok, if_neg (by decide), ci_of a3, if_pos (show bi false = 0 from rfl)]
          rfl
        · obtain ⟨s', b1, b2, b3⟩ := r_judge (d := d) hV hI hn hn0 hc (x := y) (by omega)
          rw [hj, if_neg (by decide)] at b3
          exact ⟨s', b1, b2, b3⟩
      | true =>
        rw [hj] at a3
        obtain ⟨u1, u2, u3, u4, u5, u6, u7⟩ := h0_ok hI hn hn0
        obtain ⟨t, s2', b1, b2, b3, b4, b5⟩ := c_start (d := d + 91) h1 hK1 hn hn0
        have h2 := h1.sc (b2.mono sry_scr)
        obtain ⟨-, j2⟩ := jok_d hj
        obtain ⟨s3', e1, e2, e3, e4⟩ := c_playRow (d := d + 94) (dg := dgj n y) h2 b4 hn hn0 b1 b3 (fun z hz => by
          rw [b2 33 0 z rfl]
          exact a2 hj z hz) (fun z hz => by
          have := j2 (n - 1 - z) (by omega)
          rw [show n - 1 - (n - 1 - z) = z by omega] at this
          exact this)
        refine two_of (r := vi (bCo V n (dgj n y))) (V' := V) hW ⟨s3', ((FC.of a1 s33_C).tr (FC.of b2 sry_C)).tr (FC.of e1 spr_C), h2.sc (e1.mono spr_scr), (hK1.sc b2 (fun j => rfl)).sc e1 (fun j => rfl), ?_⟩ (fun s hV => ?_)
        · obtain ⟨w1, w2, w3, -⟩ := h1 12
          obtain ⟨f0, -⟩ := h1 5 (V 106 0).toNat (by omega)
          obtain ⟨-, f1, -⟩ := h2 5 (V 106 0).toNat (by omega)
          have f0 : s 17 (V 106 0).toNat 0 = hg0 V := f0.trans (u7 0 hn0).2.2
          have f1 : s2' 17 (V 106 0).toNat 1 = (hx0 V : Int) := f1.trans u3
          have e38 : s 38 (hg0 V).toNat 2 = (t : Int) := ((h1 1 (hg0 V).toNat (by omega)).1).trans b1.symm
          rw [run_go (k := 119) (as := [vh 0 0, vi y]) mt_119 (Nat.ne_of_beq_eq_false rfl) rfl (s_kX11_judge_0 _ y σ), eJ, ci_ok, if_neg (by decide), ci_of a3, if_neg (show ¬ bi true = 0 by decide)]
          simp only [(w3 0 (by omega)).1, if_pos (show 0 ≤ V 106 0 ∧ V 106 0 < 40 by omega), f0, if_pos (show 0 ≤ hg0 V ∧ hg0 V < 3 by omega), e38, b5, cv_ok, f1, e4, ci_ok]
          rfl
        · obtain ⟨s', g1, g2, g3⟩ := r_judge (d := d) hV hI hn hn0 hc (x := y) (by omega)
          rw [hj, if_pos rfl] at g3
          exact ⟨s', g1, g2, g3⟩
end
