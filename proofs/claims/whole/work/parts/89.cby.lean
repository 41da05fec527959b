-- the reference's coinsBy()
def twR (V : TVw) (n : Nat) (dg : Nat → Nat) : Nat → Nat → Int
  | 0, _ => -1
  | j + 1, p => if V 106 (n - 1 - j) = (p : Int) then V 107 (4 * (n - 1 - j) + dg (n - 1 - j)) else twR V n dg j p
def taR (V : TVw) (n : Nat) (dg : Nat → Nat) : Nat → Nat → Int
  | 0, _ => 0
  | j + 1, p => if V 106 (n - 1 - j) = (p : Int) then V 108 (4 * (n - 1 - j) + dg (n - 1 - j)) else taR V n dg j p
/-- the digits to base 4, the last row's the lowest -/
def d4 (n v s : Nat) : Nat := v / 4 ^ (n - 1 - s) % 4
def hx0 (V : TVw) : Nat := (V 65 (V 106 0).toNat).toNat
def hg0 (V : TVw) : Int := V 59 (hx0 V)
theorem twR_or (V : TVw) (n : Nat) (dg : Nat → Nat) (p : Nat) : ∀ j, j ≤ n → (twR V n dg j p = -1 ∧ (∀ s, n - j ≤ s → s < n → V 106 s ≠ (p : Int))) ∨ ∃ s, s < n ∧ V 106 s = (p : Int) ∧ twR V n dg j p = V 107 (4 * s + dg s) ∧ taR V n dg j p = V 108 (4 * s + dg s)
  | 0, _ => .inl ⟨rfl, fun s h1 h2 => by omega⟩
  | j + 1, hj => by
    unfold twR taR
    by_cases e : V 106 (n - 1 - j) = (p : Int)
    · rw [if_pos e, if_pos e]
      exact .inr ⟨n - 1 - j, by omega, e, rfl, rfl⟩
    · rw [if_neg e, if_neg e]
      rcases twR_or V n dg p j (by omega) with ⟨h1, h2⟩ | h
      · refine .inl ⟨h1, fun s q1 q2 => ?_⟩
        by_cases z : s = n - 1 - j
        · subst z
          exact e
        · exact h2 s (by omega) q2
      · exact .inr h
section
variable {σ : TM} {V : TVw} {d n : Nat} {dg : Nat → Nat}
theorem h0_ok (hI : Inv V) (hn : V 51 72 = (n : Int)) (hn0 : 0 < n) : 0 ≤ V 106 0 ∧ V 106 0 < V 51 23 ∧ V 65 (V 106 0).toNat = (hx0 V : Int) ∧ hx0 V < nH V ∧ 0 ≤ hg0 V ∧ hg0 V < V 51 8 ∧ ∀ s, s < n → 0 ≤ V 106 s ∧ V 106 s < V 51 23 ∧ fgm V (V 106 s).toNat = hg0 V := by
  have h0 := hI.cnt
  obtain ⟨-, -, -, -, i5⟩ := hI 13
  obtain ⟨a1, a2, -⟩ := i5 0 (by omega)
  obtain ⟨b1, b2, -⟩ := hI 3 (V 106 0).toNat (by omega)
  have e : V 65 (V 106 0).toNat = (hx0 V : Int) := by unfold hx0; omega
  have hx : hx0 V < nH V := by omega
  obtain ⟨c1, c2, -⟩ := hI 2 (hx0 V) hx
  refine ⟨a1, a2, e, hx, c1, c2, fun s hs => ?_⟩
  obtain ⟨x1, x2, x3, -⟩ := i5 s (by omega)
  refine ⟨x1, x2, ?_⟩
  unfold fgm hg0
  rw [x3, e, Int.toNat_natCast]
theorem twR_TW (hI : Inv V) (hn : V 51 72 = (n : Int)) (hn0 : 0 < n) (hd : ∀ s, s < n → (dg s : Int) < V 109 s) : TW V (hg0 V) (twR V n dg n) (taR V n dg n) := by
  obtain ⟨-, -, -, -, i5⟩ := hI 13
  obtain ⟨-, -, -, -, -, -, hs⟩ := h0_ok hI hn hn0
  intro p hp hi
  rcases twR_or V n dg p n (Nat.le_refl _) with ⟨h1, -⟩ | ⟨s, q1, q2, q3, q4⟩
  · exact .inl (by omega)
  · obtain ⟨-, -, -, -, -, -, x7⟩ := i5 s (by omega)
    obtain ⟨y1, y2, y3, y4⟩ := x7 (dg s) (hd s q1)
    rw [q3, q4]
    refine .inr ⟨y1, y2, y3, fun e => ?_⟩
    obtain ⟨z1, z2, z3, z4⟩ := y4 e
    exact ⟨z1, z2, by rw [← q2]; exact z3, z4.trans (hs s q1).2.2⟩
def s66 (k _ : Nat) : Bool := Nat.beq k 66 || Nat.beq k 69
/-- the ways told by the digits, in the reference's rows -/
theorem r_tellWays (hV : RV σ V) (hI : Inv V) (hn : V 51 72 = (n : Int)) {v : Nat} (hv : v < 4 ^ n) (x g : Int) (h101 : ∀ p, p < nP V → σ 101 0 p = -1) : ∃ s, Sc scr σ s ∧ (∀ a, a ≠ 101 → a ≠ 102 → ∀ i j, s a i j = σ a i j) ∧ (∀ p, p < nP V → s 101 0 p = twR V n (d4 n v) n p ∧ (0 ≤ twR V n (d4 n v) n p → s 102 0 p = taR V n (d4 n v) n p)) ∧ ∀ N, t_tr tbl mtb (t_run tbl mtb (d + 73)) 221 (N + n) 116 [some (vh 51 0), none, some (vi x), some (vi g), some (vi (v : Int)), some (vi ((n : Int) - 1)), none] [] σ = t_tr tbl mtb (t_run tbl mtb (d + 73)) 221 N 116 [some (vh 51 0), none, some (vi x), some (vi g), some (vi ((v / 4 ^ n : Nat) : Int)), some (vi (-1)), none] [] s := by
  have h0 := hI.cnt
  obtain ⟨i1, i2, -, -, i5⟩ := hI 13
  have hv64 : v < 64 := by
    have : 4 ^ n ≤ 4 ^ 3 := Nat.pow_le_pow_right (by decide) (by omega)
    omega
  obtain ⟨L, s, ⟨a1, rfl, a2, a3⟩, e⟩ := loop_rel (O := t_run tbl mtb (d + 73)) (k := 221) (pc := 116) (fun j L s => Sc scr σ s ∧ L = [some (vh 51 0), none, some (vi x), some (vi g), some (vi ((v / 4 ^ j : Nat) : Int)), some (vi ((n : Int) - 1 - j)), none] ∧ (∀ a, a ≠ 101 → a ≠ 102 → ∀ i k, s a i k = σ a i k) ∧ ∀ p, p < nP V → s 101 0 p = twR V n (d4 n v) j p ∧ (0 ≤ twR V n (d4 n v) j p → s 102 0 p = taR V n (d4 n v) j p)) n (by
    rintro j L s hj ⟨b1, rfl, b2, b3⟩
    have hle : v / 4 ^ j ≤ v := Nat.div_le_self _ _
    have ev : ((n : Int) - 1 - j) = ((n - 1 - j : Nat) : Int) := by omega
    have ed : d4 n v (n - 1 - j) = v / 4 ^ j % 4 := by
      unfold d4
      rw [show n - 1 - (n - 1 - j) = j by omega]
    rw [ev]
    obtain ⟨x1, x2, -⟩ := i5 (n - 1 - j) (by omega)
    have e2 : w32 (((n - 1 - j : Nat) : Int) + (-1)) = (n : Int) - 1 - ((j + 1 : Nat) : Int) := by
      rw [w32_id (by omega) (by omega)]
      omega
    have e3 : i_rem ((v / 4 ^ j : Nat) : Int) 4 = ((v / 4 ^ j % 4 : Nat) : Int) := by
      rw [rem_pos (Int.natCast_nonneg _)]
      generalize v / 4 ^ j = y at *
      omega
    have e5 : v / 4 ^ (j + 1) = v / 4 ^ j / 4 := by rw [Nat.pow_succ, Nat.div_div_eq_div_mul]
    have hc4' : v / 4 ^ j % 4 < 4 := Nat.mod_lt _ (by decide)
    have e4 : i_div ((v / 4 ^ j : Nat) : Int) 4 = ((v / 4 ^ (j + 1) : Nat) : Int) := by
      rw [e5]
      generalize v / 4 ^ j = y at *
      rw [div_pos (by omega) (by omega) (by decide)]
      omega
    unfold twR taR
    rw [ed]
    have hs3 : n - 1 - j < 3 := by omega
    generalize n - 1 - j = z at *
    generalize v / 4 ^ j % 4 = c at *
    have r3 : 0 ≤ (z : Int) ∧ (z : Int) < 3 := by omega
    have q106 : s 106 0 z = V 106 z := (b2 106 (by decide) (by decide) 0 z).trans (hV 106 z rfl rfl rfl)
    have q107 : ∀ y, s 107 0 y = V 107 y := fun y => (b2 107 (by decide) (by decide) 0 y).trans (hV 107 y rfl rfl rfl)
    have q108 : ∀ y, s 108 0 y = V 108 y := fun y => (b2 108 (by decide) (by decide) 0 y).trans (hV 108 y rfl rfl rfl)
    have r40 : 0 ≤ V 106 z ∧ V 106 z < 40 := by omega
    have wi : w32 (w32 (4 * (z : Int)) + (c : Int)) = ((4 * z + c : Nat) : Int) := by
      rw [w32_add_l, w32_id (by omega) (by omega)]
      omega
    have ri : 0 ≤ ((4 * z + c : Nat) : Int) ∧ ((4 * z + c : Nat) : Int) < 12 := by omega
    have st := fun N => tr_step (n := N) (s_kX12_coinsBy_116 (t_run tbl mtb (d + 73)) x g ((v / 4 ^ j : Nat) : Int) z s )
    simp only [if_neg (show ¬ (z : Int) < 0 by omega), if_pos r3, e3, e4, wi, if_pos ri, Int.toNat_natCast, up_k (show (106 : Nat) ≠ 101 by decide), up_k (show (108 : Nat) ≠ 101 by decide), q106, q107, q108, if_pos r40, e2] at st
    refine ⟨_, _, ⟨(b1.up rfl).up rfl, rfl, fun a h1 h2 i k => by rw [up_k h2, up_k h1]; exact b2 a h1 h2 i k, fun p hp => ?_⟩, st⟩
    rw [up_k (show (101 : Nat) ≠ 102 by decide), up_at, up_at, up_k (show (102 : Nat) ≠ 101 by decide)]
    by_cases y : V 106 z = (p : Int)
    · rw [if_pos y, if_pos (by omega), if_pos y, if_pos (by omega)]
      exact ⟨rfl, fun _ => rfl⟩
    · rw [if_neg y, if_neg (by omega), if_neg y, if_neg (by omega)]
      exact b3 p hp) n 0 [some (vh 51 0), none, some (vi x), some (vi g), some (vi ((v / 4 ^ 0 : Nat) : Int)), some (vi ((n : Int) - 1 - ((0 : Nat) : Int))), none] σ (by omega) ⟨Sc.rf, rfl, fun a h1 h2 i j => rfl, fun p hp => ⟨h101 p hp, fun q => absurd q (by show ¬ (0 : Int) ≤ -1; decide)⟩⟩
  refine ⟨s, a1, a2, a3, fun N => ?_⟩
  have e := e N
  rw [Nat.pow_zero, Nat.div_one, show (n : Int) - 1 - ((0 : Nat) : Int) = (n : Int) - 1 by omega, show (n : Int) - 1 - (n : Int) = -1 by omega] at e
  exact e
end
