-- best(): rows of ways in their order
def qv (n : Nat) (c : Nat → Nat) (k : Nat) : Nat → Nat
  | 0 => k
  | j + 1 => qv n c k j / c (n - 1 - j)
/-- row z's pick in the k-th row of ways -/
def mx (n : Nat) (c : Nat → Nat) (k z : Nat) : Nat := qv n c k (n - 1 - z) % c z
/-- the k-th row of ways, to base 4 -/
def psi (n : Nat) (c : Nat → Nat) (k : Nat) : Nat := vd (fun j => mx n c k (n - 1 - j)) n
def rwq (n : Nat) (c : Nat → Nat) (v : Nat) : Nat → Bool
  | 0 => true
  | j + 1 => rwq n c v j && decide (v / 4 ^ j % 4 < c (n - 1 - j))
/-- how many rows of ways stand below v -/
def rkn (n : Nat) (c : Nat → Nat) : Nat → Nat
  | 0 => 0
  | v + 1 => rkn n c v + (rwq n c v n).toNat
def rws (n : Nat) (c : Nat → Nat) : Nat → Nat
  | 0 => 1
  | j + 1 => rws n c j * c j
def cf (a b e z : Nat) : Nat := match z with
  | 0 => a
  | 1 => b
  | _ => e
theorem psi_1 : ∀ a, a < 4 → (∀ v, v < 4 → rwq 1 (cf (a + 1) 1 1) v 1 = true → psi 1 (cf (a + 1) 1 1) (rkn 1 (cf (a + 1) 1 1) v) = v) ∧ rkn 1 (cf (a + 1) 1 1) 4 = rws 1 (cf (a + 1) 1 1) 1 := by decide +kernel
theorem psi_2 : ∀ a, a < 4 → ∀ b, b < 4 → (∀ v, v < 16 → rwq 2 (cf (a + 1) (b + 1) 1) v 2 = true → psi 2 (cf (a + 1) (b + 1) 1) (rkn 2 (cf (a + 1) (b + 1) 1) v) = v) ∧ rkn 2 (cf (a + 1) (b + 1) 1) 16 = rws 2 (cf (a + 1) (b + 1) 1) 2 := by decide +kernel
theorem psi_3 : ∀ a, a < 4 → ∀ b, b < 4 → ∀ e, e < 4 → (∀ v, v < 64 → rwq 3 (cf (a + 1) (b + 1) (e + 1)) v 3 = true → psi 3 (cf (a + 1) (b + 1) (e + 1)) (rkn 3 (cf (a + 1) (b + 1) (e + 1)) v) = v) ∧ rkn 3 (cf (a + 1) (b + 1) (e + 1)) 64 = rws 3 (cf (a + 1) (b + 1) (e + 1)) 3 := by decide +kernel
/-- how many ways row z has -/
def cz (V : TVw) (n : Nat) : Nat → Nat := fun z => if z < n then (V 109 z).toNat else 1
theorem psi_ok {c : Nat → Nat} {n : Nat} (hn0 : 0 < n) (hn : n ≤ 3) (hc : ∀ z, z < n → 1 ≤ c z ∧ c z ≤ 4) (hc2 : ∀ z, n ≤ z → c z = 1) : (∀ v, v < 4 ^ n → rwq n c v n = true → psi n c (rkn n c v) = v) ∧ rkn n c (4 ^ n) = rws n c n := by
  rcases (by omega : n = 1 ∨ n = 2 ∨ n = 3) with rfl | rfl | rfl
  · have h0 := hc 0 (by decide)
    have e : c = cf (c 0 - 1 + 1) 1 1 := by
      funext z
      match z with
      | 0 => show c 0 = c 0 - 1 + 1; omega
      | 1 => exact hc2 1 (by decide)
      | z + 2 => exact hc2 (z + 2) (by omega)
    rw [e]
    exact psi_1 (c 0 - 1) (by omega)
  · have h0 := hc 0 (by decide)
    have h1 := hc 1 (by decide)
    have e : c = cf (c 0 - 1 + 1) (c 1 - 1 + 1) 1 := by
      funext z
      match z with
      | 0 => show c 0 = c 0 - 1 + 1; omega
      | 1 => show c 1 = c 1 - 1 + 1; omega
      | z + 2 => exact hc2 (z + 2) (by omega)
    rw [e]
    exact psi_2 (c 0 - 1) (by omega) (c 1 - 1) (by omega)
  · have h0 := hc 0 (by decide)
    have h1 := hc 1 (by decide)
    have h2 := hc 2 (by decide)
    have ag : ∀ z, z < 3 → c z = cf (c 0 - 1 + 1) (c 1 - 1 + 1) (c 2 - 1 + 1) z := fun z hz => by
      match z with
      | 0 => show c 0 = c 0 - 1 + 1; omega
      | 1 => show c 1 = c 1 - 1 + 1; omega
      | 2 => show c 2 = c 2 - 1 + 1; omega
    have q := psi_3 (c 0 - 1) (by omega) (c 1 - 1) (by omega) (c 2 - 1) (by omega)
    generalize cf (c 0 - 1 + 1) (c 1 - 1 + 1) (c 2 - 1 + 1) = f at *
    have a0 := ag 0 (by decide)
    have a1 := ag 1 (by decide)
    have a2 := ag 2 (by decide)
    have eq_q : ∀ k j, j ≤ 3 → qv 3 c k j = qv 3 f k j := fun k j => by
      induction j with
      | zero => exact fun _ => rfl
      | succ j ih =>
        intro hj
        unfold qv
        rw [ih (by omega), ag (3 - 1 - j) (by omega)]
    have eq_m : ∀ k z, z < 3 → mx 3 c k z = mx 3 f k z := fun k z hz => by
      unfold mx
      rw [eq_q k _ (by omega), ag z hz]
    have eq_r : ∀ v j, j ≤ 3 → rwq 3 c v j = rwq 3 f v j := fun v j => by
      induction j with
      | zero => exact fun _ => rfl
      | succ j ih =>
        intro hj
        unfold rwq
        rw [ih (by omega), ag (3 - 1 - j) (by omega)]
    have eq_k : ∀ v, rkn 3 c v = rkn 3 f v := fun v => by
      induction v with
      | zero => rfl
      | succ v ih =>
        unfold rkn
        rw [ih, eq_r v 3 (by decide)]
    have eq_p : ∀ k, psi 3 c k = psi 3 f k := fun k => by
      show 0 + 4 ^ 0 * mx 3 c k 2 + 4 ^ 1 * mx 3 c k 1 + 4 ^ 2 * mx 3 c k 0 = 0 + 4 ^ 0 * mx 3 f k 2 + 4 ^ 1 * mx 3 f k 1 + 4 ^ 2 * mx 3 f k 0
      rw [eq_m k 0 (by decide), eq_m k 1 (by decide), eq_m k 2 (by decide)]
    refine ⟨fun v hv hr => ?_, ?_⟩
    · rw [eq_k, eq_p]
      rw [eq_r v 3 (by decide)] at hr
      exact q.1 v hv hr
    · rw [eq_k]
      have e3 : rws 3 c 3 = rws 3 f 3 := by
        show 1 * c 0 * c 1 * c 2 = 1 * f 0 * f 1 * f 2
        rw [a0, a1, a2]
      rw [e3]
      exact q.2
section
variable {σ : TM} {V : TVw} {d n : Nat}
theorem cz_ok (hI : Inv V) (hn : V 51 72 = (n : Int)) : n ≤ 3 ∧ (∀ z, z < n → 1 ≤ cz V n z ∧ cz V n z ≤ 4 ∧ V 109 z = (cz V n z : Int)) ∧ ∀ z, n ≤ z → cz V n z = 1 := by
  obtain ⟨i1, i2, -, -, i5⟩ := hI 13
  refine ⟨by omega, fun z hz => ?_, fun z hz => if_neg (by omega)⟩
  obtain ⟨-, -, -, x4, x5, -⟩ := i5 z (by omega)
  have e : cz V n z = (V 109 z).toNat := if_pos hz
  rw [e]
  omega
theorem rws_le {c : Nat → Nat} : ∀ j, (∀ z, z < j → 1 ≤ c z ∧ c z ≤ 4) → 1 ≤ rws n c j ∧ rws n c j ≤ 4 ^ j
  | 0, _ => ⟨Nat.le_refl 1, Nat.le_refl 1⟩
  | j + 1, h => by
    obtain ⟨a, b⟩ := rws_le j (fun z hz => h z (by omega))
    obtain ⟨e1, e2⟩ := h j (by omega)
    unfold rws
    rw [Nat.pow_succ]
    exact ⟨Nat.mul_le_mul a e1, Nat.mul_le_mul b e2⟩
theorem c_rows (h : CR σ V) (hn : V 51 72 = (n : Int)) : t_run tbl mtb (d + 1) 49 [vh 26 0] σ = some (some (vi (rws n (cz V n) n : Nat)), σ) := by
  have hI := h.inv
  obtain ⟨a1, a2, a3, -⟩ := h 12
  obtain ⟨n3, hc, -⟩ := cz_ok hI hn
  rw [run_go (k := 49) (as := [vh 26 0]) mt_49 (Nat.ne_of_beq_eq_false rfl) rfl (s_kX10_rows_0 _ σ), nx_inl]
  obtain ⟨L, s, ⟨rfl, rfl⟩, e⟩ := loop_rel (O := t_run tbl mtb d) (k := 49) (pc := 4) (fun j L s => s = σ ∧ L = [some (vh 26 0), some (vi (rws n (cz V n) j : Nat)), some (vi (j : Int))]) n (by
    rintro j L s hj ⟨rfl, rfl⟩
    have r3 : 0 ≤ (j : Int) ∧ (j : Int) < 3 := by omega
    obtain ⟨c1, c2, c3⟩ := hc j hj
    obtain ⟨l1, l2⟩ := rws_le (n := n) (c := cz V n) j (fun z hz => ⟨(hc z (by omega)).1, (hc z (by omega)).2.1⟩)
    have l3 : 4 ^ j ≤ 4 ^ 2 := Nat.pow_le_pow_right (by decide) (by omega)
    have hm : rws n (cz V n) j * cz V n j ≤ 16 * 4 := Nat.mul_le_mul (by omega) c2
    have em : ((rws n (cz V n) j : Nat) : Int) * ((cz V n j : Nat) : Int) = ((rws n (cz V n) j * cz V n j : Nat) : Int) := (Int.natCast_mul _ _).symm
    have st := fun N => tr_step (n := N) (s_kX10_rows_4 (t_run tbl mtb d) (rws n (cz V n) j : Nat) j s)
    simp only [a1, hn, if_pos (show (j : Int) < (n : Int) by omega), if_pos r3, Int.toNat_natCast, (a3 j (by omega)).2.1, c3, em, w32_id (x := ((rws n (cz V n) j * cz V n j : Nat) : Int)) (by omega) (by omega), w32_nat (show j < 2147483647 by omega)] at st
    exact ⟨_, _, ⟨rfl, rfl⟩, st⟩) n 0 [some (vh 26 0), some (vi 1), some (vi ((0 : Nat) : Int))] σ (by omega) ⟨rfl, rfl⟩
  have e := e (999998 - n + 1)
  rw [show 999998 - n + 1 + n = 999999 by omega] at e
  refine out_of (e.trans ?_)
  have st := fun N => tr_step (n := N) (s_kX10_rows_4 (t_run tbl mtb d) (rws n (cz V n) n : Nat) n s)
  simp only [a1, hn, if_neg (show ¬ (n : Int) < (n : Int) by omega)] at st
  exact st _
theorem qv_le (c : Nat → Nat) (k : Nat) : ∀ j, qv n c k j ≤ k
  | 0 => Nat.le_refl _
  | j + 1 => Nat.le_trans (Nat.div_le_self _ _) (qv_le c k j)
theorem c_pick (h : CR σ V) (hn : V 51 72 = (n : Int)) {k : Nat} (hk : k ≤ 64) : ∃ s, Sc s33 σ s ∧ (∀ z, z < n → s 33 0 z = (mx n (cz V n) k z : Int)) ∧ t_run tbl mtb (d + 1) 50 [vh 26 0, vi k] σ = some (none, s) := by
  have hI := h.inv
  obtain ⟨a1, a2, a3, -⟩ := h 12
  obtain ⟨n3, hc, -⟩ := cz_ok hI hn
  rw [run_go (k := 50) (as := [vh 26 0, vi k]) mt_50 (Nat.ne_of_beq_eq_false rfl) rfl (s_kX10_pick_0 _ k σ), a1, hn, w32_id (by omega) (by omega), nx_inl]
  obtain ⟨L, s, ⟨b1, b2, rfl⟩, e⟩ := loop_rel (O := t_run tbl mtb d) (k := 50) (pc := 9) (fun j L s => Sc s33 σ s ∧ (∀ i, i < j → s 33 0 (n - 1 - i) = (mx n (cz V n) k (n - 1 - i) : Int)) ∧ L = [some (vh 26 0), none, some (vi (qv n (cz V n) k j : Nat)), some (vi ((n : Int) - 1 - (j : Nat)))]) n (by
    rintro j L s hj ⟨b1, b2, rfl⟩
    have hq := qv_le (n := n) (cz V n) k j
    have ev : ((n : Int) - 1 - (j : Nat)) = ((n - 1 - j : Nat) : Int) := by omega
    have e2 : w32 (((n - 1 - j : Nat) : Int) + (-1)) = (n : Int) - 1 - ((j + 1 : Nat) : Int) := by
      rw [w32_id (by omega) (by omega)]
      omega
    have r3 : 0 ≤ ((n - 1 - j : Nat) : Int) ∧ ((n - 1 - j : Nat) : Int) < 3 := by omega
    obtain ⟨c1, c2, c3⟩ := hc (n - 1 - j) (by omega)
    have q28 : s 28 0 (n - 1 - j) = (cz V n (n - 1 - j) : Int) := ((b1 28 0 _ rfl).trans (a3 (n - 1 - j) (by omega)).2.1).trans c3
    have em : mx n (cz V n) k (n - 1 - j) = qv n (cz V n) k j % cz V n (n - 1 - j) := by
      unfold mx
      rw [show n - 1 - (n - 1 - j) = j by omega]
    have eq1 : qv n (cz V n) k (j + 1) = qv n (cz V n) k j / cz V n (n - 1 - j) := rfl
    have g1 : i_rem ((qv n (cz V n) k j : Nat) : Int) ((cz V n (n - 1 - j) : Nat) : Int) = ((mx n (cz V n) k (n - 1 - j) : Nat) : Int) := by
      rw [rem_pos (Int.natCast_nonneg _), em]
      exact (Int.natCast_emod _ _).symm
    have g2 : i_div ((qv n (cz V n) k j : Nat) : Int) ((cz V n (n - 1 - j) : Nat) : Int) = ((qv n (cz V n) k (j + 1) : Nat) : Int) := by
      rw [div_pos (Int.natCast_nonneg _) (by omega) (by omega), eq1]
      exact (Int.natCast_ediv _ _).symm
    rw [ev]
    have st := fun N => tr_step (n := N) (s_kX10_pick_9 (t_run tbl mtb d) (qv n (cz V n) k j : Nat) ((n - 1 - j : Nat) : Int) s)
    simp only [if_neg (show ¬ ((n - 1 - j : Nat) : Int) < 0 by omega), if_pos r3, Int.toNat_natCast, q28, if_neg (show ¬ ((cz V n (n - 1 - j) : Nat) : Int) < 1 by omega), if_neg (show ¬ ((cz V n (n - 1 - j) : Nat) : Int) = 0 by omega), up_k (show (28 : Nat) ≠ 33 by decide), g1, g2, e2] at st
    refine ⟨_, t_upd s 33 0 (n - 1 - j) (mx n (cz V n) k (n - 1 - j) : Nat), ⟨b1.up rfl, fun i hi => ?_, rfl⟩, st⟩
    rw [up_at]
    by_cases y : i = j
    · subst y
      rw [if_pos rfl]
    · rw [if_neg (by omega)]
      exact b2 i (by omega)) n 0 [some (vh 26 0), none, some (vi (k : Int)), some (vi ((n : Int) - 1 - ((0 : Nat) : Int)))] σ (by omega) ⟨Sc.rf, fun i hi => by omega, rfl⟩
  refine ⟨s, b1, fun z hz => ?_, ?_⟩
  · have := b2 (n - 1 - z) (by omega)
    rw [show n - 1 - (n - 1 - z) = z by omega] at this
    exact this
  · have e := e (999998 - n + 1)
    rw [show (n : Int) - 1 - ((0 : Nat) : Int) = (n : Int) - 1 by omega, show 999998 - n + 1 + n = 999999 by omega] at e
    refine out_of (e.trans ?_)
    have st := fun N => tr_step (n := N) (s_kX10_pick_9 (t_run tbl mtb d) (qv n (cz V n) k n : Nat) ((n : Int) - 1 - (n : Nat)) s)
    simp only [if_pos (show (n : Int) - 1 - (n : Nat) < 0 by omega)] at st
    exact st _
theorem r_isRow (hV : RV σ V) (hI : Inv V) (hn : V 51 72 = (n : Int)) {v : Nat} (hv : v ≤ 64) : t_run tbl mtb (d + 1) 222 [vh 51 0, vi v] σ = some (some (vi (bi (rwq n (cz V n) v n))), σ) := by
  obtain ⟨n3, hc, -⟩ := cz_ok hI hn
  have q72 : σ 51 0 72 = (n : Int) := (hV 51 72 rfl rfl rfl).trans hn
  rw [run_go (k := 222) (as := [vh 51 0, vi v]) mt_222 (Nat.ne_of_beq_eq_false rfl) rfl (s_kX12_isRow_0 _ v σ), q72, w32_id (by omega) (by omega), nx_inl]
  obtain ⟨L, s, ⟨rfl, rfl⟩, e⟩ := loop_rel (O := t_run tbl mtb d) (k := 222) (pc := 12) (fun j L s => s = σ ∧ L = [some (vh 51 0), none, some (vi (bi (rwq n (cz V n) v j))), some (vi ((v / 4 ^ j : Nat) : Int)), some (vi ((n : Int) - 1 - (j : Nat)))]) n (by
    rintro j L s hj ⟨rfl, rfl⟩
    have e5 : v / 4 ^ (j + 1) = v / 4 ^ j / 4 := by rw [Nat.pow_succ, Nat.div_div_eq_div_mul]
    have hle : v / 4 ^ j ≤ v := Nat.div_le_self _ _
    have ev : ((n : Int) - 1 - (j : Nat)) = ((n - 1 - j : Nat) : Int) := by omega
    have e2 : w32 (((n - 1 - j : Nat) : Int) + (-1)) = (n : Int) - 1 - ((j + 1 : Nat) : Int) := by
      rw [w32_id (by omega) (by omega)]
      omega
    have r3 : 0 ≤ ((n - 1 - j : Nat) : Int) ∧ ((n - 1 - j : Nat) : Int) < 3 := by omega
    obtain ⟨c1, c2, c3⟩ := hc (n - 1 - j) (by omega)
    have q109 : s 109 0 (n - 1 - j) = (cz V n (n - 1 - j) : Int) := (hV 109 _ rfl rfl rfl).trans c3
    have er : rwq n (cz V n) v (j + 1) = (rwq n (cz V n) v j && decide (v / 4 ^ j % 4 < cz V n (n - 1 - j))) := rfl
    rw [ev, e5, er]
    generalize v / 4 ^ j = a at *
    have g1 : i_rem (a : Int) 4 = ((a % 4 : Nat) : Int) := by
      rw [rem_pos (by omega)]
      omega
    have g2 : i_div (a : Int) 4 = ((a / 4 : Nat) : Int) := by
      rw [div_pos (by omega) (by omega) (by decide)]
      omega
    have st := fun N => tr_step (n := N) (s_kX12_isRow_12 (t_run tbl mtb d) (bi (rwq n (cz V n) v j)) (a : Int) ((n - 1 - j : Nat) : Int) s)
    simp only [if_neg (show ¬ ((n - 1 - j : Nat) : Int) < 0 by omega), if_pos r3, Int.toNat_natCast, g1, g2, q109, e2, bi_0] at st
    refine ⟨_, _, ⟨rfl, rfl⟩, fun N => ?_⟩
    have st := st N
    cases y : rwq n (cz V n) v j with
    | false =>
      rw [y] at st
      simp only [if_true] at st
      rw [Bool.false_and]
      exact st
    | true =>
      rw [y] at st
      simp only [if_neg (show ¬ true = false by decide)] at st
      rw [Bool.true_and]
      by_cases z : a % 4 < cz V n (n - 1 - j)
      · rw [if_pos (by omega)] at st
        rw [decide_eq_true z]
        exact st
      · rw [if_neg (by omega)] at st
        rw [decide_eq_false z]
        exact st) n 0 [some (vh 51 0), none, some (vi 1), some (vi (v : Int)), some (vi ((n : Int) - 1 - ((0 : Nat) : Int)))] σ (by omega) ⟨rfl, by rw [Nat.pow_zero, Nat.div_one]; rfl⟩
  have e := e (999998 - n + 1)
  rw [show (n : Int) - 1 - ((0 : Nat) : Int) = (n : Int) - 1 by omega, show 999998 - n + 1 + n = 999999 by omega] at e
  refine out_of (e.trans ?_)
  have st := fun N => tr_step (n := N) (s_kX12_isRow_12 (t_run tbl mtb d) (bi (rwq n (cz V n) v n)) ((v / 4 ^ n : Nat) : Int) ((n : Int) - 1 - (n : Nat)) s)
  simp only [if_pos (show (n : Int) - 1 - (n : Nat) < 0 by omega), if_pos (bi_r _)] at st
  exact st _
end
