-- the reference's coinsBy()
def twR (V : TVw) (n : Nat) (dg : Nat → Nat) : Nat → Nat → Int
  | 0, _ => -1
  | j + 1, p => if V 106 (n - 1 - j) = (p : Int) then V 107 (4 * (n - 1 - j) + dg (n - 1 - j)) else twR V n dg j p
def taR (V : TVw) (n : Nat) (dg : Nat → Nat) : Nat → Nat → Int
  | 0, _ => 0
  | j + 1, p => if V 106 (n - 1 - j) = (p : Int) then V 108 (4 * (n - 1 - j) + dg (n - 1 - j)) else taR V n dg j p
/-- the digits to base 4, the last row's the lowest -/
def d4 (n v s : Nat) : Nat := v / 4 ^ (n - 1 - s) % 4
def hx0 (V : TVw) : Nat := (V 65 (V 106 0).toNat).toNat
def hg0 (V : TVw) : Int := V 59 (hx0 V)
theorem twR_or (V : TVw) (n : Nat) (dg : Nat → Nat) (p : Nat) : ∀ j, j ≤ n → (twR V n dg j p = -1 ∧ (∀ s, n - j ≤ s → s < n → V 106 s ≠ (p : Int))) ∨ ∃ s, s < n ∧ V 106 s = (p : Int) ∧ twR V n dg j p = V 107 (4 * s + dg s) ∧ taR V n dg j p = V 108 (4 * s + dg s)
  | 0, _ => .inl ⟨rfl, fun s h1 h2 => by omega⟩
  | j + 1, hj => by
    unfold twR taR
    by_cases e : V 106 (n - 1 - j) = (p : Int)
    · rw [if_pos e, if_pos e]
      exact .inr ⟨n - 1 - j, by omega, e, rfl, rfl⟩
    · rw [if_neg e, if_neg e]
      rcases twR_or V n dg p j (by omega) with ⟨h1, h2⟩ | h
      · refine .inl ⟨h1, fun s q1 q2 => ?_⟩
        by_cases z : s = n - 1 - j
        · subst z
          exact e
        · exact h2 s (by omega) q2
      · exact .inr h
section
variable {σ : TM} {V : TVw} {d n : Nat} {dg : Nat → Nat}
theorem h0_ok (hI : Inv V) (hn : V 51 72 = (n : Int)) (hn0 : 0 < n) : 0 ≤ V 106 0 ∧ V 106 0 < V 51 23 ∧ V 65 (V 106 0).toNat = (hx0 V : Int) ∧ hx0 V < nH V ∧ 0 ≤ hg0 V ∧ hg0 V < V 51 8 ∧ ∀ s, s < n → 0 ≤ V 106 s ∧ V 106 s < V 51 23 ∧ fgm V (V 106 s).toNat = hg0 V := by
  have h0 := hI.cnt
  obtain ⟨-, -, -, -, i5⟩ := hI 13
  obtain ⟨a1, a2, -⟩ := i5 0 (by omega)
  obtain ⟨b1, b2, -⟩ := hI 3 (V 106 0).toNat (by omega)
  have e : V 65 (V 106 0).toNat = (hx0 V : Int) := by unfold hx0; omega
  have hx : hx0 V < nH V := by omega
  obtain ⟨c1, c2, -⟩ := hI 2 (hx0 V) hx
  refine ⟨a1, a2, e, hx, c1, c2, fun s hs => ?_⟩
  obtain ⟨x1, x2, x3, -⟩ := i5 s (by omega)
  refine ⟨x1, x2, ?_⟩
  unfold fgm hg0
  rw [x3, e, Int.toNat_natCast]
theorem twR_TW (hI : Inv V) (hn : V 51 72 = (n : Int)) (hn0 : 0 < n) (hd : ∀ s, s < n → (dg s : Int) < V 109 s) : TW V (hg0 V) (twR V n dg n) (taR V n dg n) := by
  obtain ⟨-, -, -, -, i5⟩ := hI 13
  obtain ⟨-, -, -, -, -, -, hs⟩ := h0_ok hI hn hn0
  intro p hp hi
  rcases twR_or V n dg p n (Nat.le_refl _) with ⟨h1, -⟩ | ⟨s, q1, q2, q3, q4⟩
  · exact .inl (by omega)
  · obtain ⟨-, -, -, -, -, -, x7⟩ := i5 s (by omega)
    obtain ⟨y1, y2, y3, y4⟩ := x7 (dg s) (hd s q1)
    rw [q3, q4]
    refine .inr ⟨y1, y2, y3, fun e => ?_⟩
    obtain ⟨z1, z2, z3, z4⟩ := y4 e
    exact ⟨z1, z2, by rw [← q2]; exact z3, z4.trans (hs s q1).2.2⟩
def s66 (k _ : Nat) : Bool := Nat.beq k 66 || Nat.beq k 69
/-- the ways told by the digits, in the reference's rows -/
theorem r_tellWays (hV : RV σ V) (hI : Inv V) (hn : V 51 72 = (n : Int)) {v : Nat} (hv : v < 4 ^ n) (x g : Int) (h101 : ∀ p, p < nP V → σ 101 0 p = -1) : ∃ s, Sc scr σ s ∧ (∀ a, a ≠ 101 → a ≠ 102 → ∀ i j, s a i j = σ a i j) ∧ (∀ p, p < nP V → s 101 0 p = twR V n (d4 n v) n p ∧ (0 ≤ twR V n (d4 n v) n p → s 102 0 p = taR V n (d4 n v) n p)) ∧ ∀ N, t_tr tbl mtb (t_run tbl mtb (d + 73)) 221 (N + n) 116 [some (vh 51 0), none, some (vi x), some (vi g), some (vi (v : Int)), some (vi ((n : Int) - 1)), none] [] σ = t_tr tbl mtb (t_run tbl mtb (d + 73)) 221 N 116 [some (vh 51 0), none, some (vi x), some (vi g), some (vi ((v / 4 ^ n : Nat) : Int)), some (vi (-1)), none] [] s := by
  have h0 := hI.cnt
  obtain ⟨i1, i2, -, -, i5⟩ := hI 13
  have hv64 : v < 64 := by
    have : 4 ^ n ≤ 4 ^ 3 := Nat.pow_le_pow_right (by decide) (by omega)
    omega
  obtain ⟨L, s, ⟨a1, rfl, a2, a3⟩, e⟩ := loop_rel (O := t_run tbl mtb (d + 73)) (k := 221) (pc := 116) (fun j L s => Sc scr σ s ∧ L = [some (vh 51 0), none, some (vi x), some (vi g), some (vi ((v / 4 ^ j : Nat) : Int)), some (vi ((n : Int) - 1 - j)), none] ∧ (∀ a, a ≠ 101 → a ≠ 102 → ∀ i k, s a i k = σ a i k) ∧ ∀ p, p < nP V → s 101 0 p = twR V n (d4 n v) j p ∧ (0 ≤ twR V n (d4 n v) j p → s 102 0 p = taR V n (d4 n v) j p)) n (by
    rintro j L s hj ⟨b1, rfl, b2, b3⟩
    have hle : v / 4 ^ j ≤ v := Nat.div_le_self _ _
    have ev : ((n : Int) - 1 - j) = ((n - 1 - j : Nat) : Int) := by omega
    have ed : d4 n v (n - 1 - j) = v / 4 ^ j % 4 := by
      unfold d4
      rw [show n - 1 - (n - 1 - j) = j by omega]
    rw [ev]
    obtain ⟨x1, x2, -⟩ := i5 (n - 1 - j) (by omega)
    have e2 : w32 (((n - 1 - j : Nat) : Int) + (-1)) = (n : Int) - 1 - ((j + 1 : Nat) : Int) := by
      rw [w32_id (by omega) (by omega)]
      omega
    have e3 : i_rem ((v / 4 ^ j : Nat) : Int) 4 = ((v / 4 ^ j % 4 : Nat) : Int) := by
      rw [rem_pos (Int.natCast_nonneg _)]
      generalize v / 4 ^ j = y at *
      omega
    have e5 : v / 4 ^ (j + 1) = v / 4 ^ j / 4 := by rw [Nat.pow_succ, Nat.div_div_eq_div_mul]
    have hc4' : v / 4 ^ j % 4 < 4 := Nat.mod_lt _ (by decide)
    have e4 : i_div ((v / 4 ^ j : Nat) : Int) 4 = ((v / 4 ^ (j + 1) : Nat) : Int) := by
      rw [e5]
      generalize v / 4 ^ j = y at *
      rw [div_pos (by omega) (by omega) (by decide)]
      omega
    unfold twR taR
    rw [ed]
    have hs3 : n - 1 - j < 3 := by omega
    generalize n - 1 - j = z at *
    generalize v / 4 ^ j % 4 = c at *
    have r3 : 0 ≤ (z : Int) ∧ (z : Int) < 3 := by omega
    have q106 : s 106 0 z = V 106 z := (b2 106 (by decide) (by decide) 0 z).trans (hV 106 z rfl rfl rfl)
    have q107 : ∀ y, s 107 0 y = V 107 y := fun y => (b2 107 (by decide) (by decide) 0 y).trans (hV 107 y rfl rfl rfl)
    have q108 : ∀ y, s 108 0 y = V 108 y := fun y => (b2 108 (by decide) (by decide) 0 y).trans (hV 108 y rfl rfl rfl)
    have r40 : 0 ≤ V 106 z ∧ V 106 z < 40 := by omega
    have wi : w32 (w32 (4 * (z : Int)) + (c : Int)) = ((4 * z + c : Nat) : Int) := by
      rw [w32_add_l, w32_id (by omega) (by omega)]
      omega
    have ri : 0 ≤ ((4 * z + c : Nat) : Int) ∧ ((4 * z + c : Nat) : Int) < 12 := by omega
    have st := fun N => tr_step (n := N) (s_kX12_coinsBy_116 (t_run tbl mtb (d + 73)) x g ((v / 4 ^ j : Nat) : Int) z s )
    simp only [if_neg (show ¬ (z : Int) < 0 by omega), if_pos r3, e3, e4, wi, if_pos ri, Int.toNat_natCast, up_k (show (106 : Nat) ≠ 101 by decide), up_k (show (108 : Nat) ≠ 101 by decide), q106, q107, q108, if_pos r40, e2] at st
    refine ⟨_, _, ⟨(b1.up rfl).up rfl, rfl, fun a h1 h2 i k => by rw [up_k h2, up_k h1]; exact b2 a h1 h2 i k, fun p hp => ?_⟩, st⟩
    rw [up_k (show (101 : Nat) ≠ 102 by decide), up_at, up_at, up_k (show (102 : Nat) ≠ 101 by decide)]
    by_cases y : V 106 z = (p : Int)
    · rw [if_pos y, if_pos (by omega), if_pos y, if_pos (by omega)]
      exact ⟨rfl, fun _ => rfl⟩
    · rw [if_neg y, if_neg (by omega), if_neg y, if_neg (by omega)]
      exact b3 p hp) n 0 [some (vh 51 0), none, some (vi x), some (vi g), some (vi ((v / 4 ^ 0 : Nat) : Int)), some (vi ((n : Int) - 1 - ((0 : Nat) : Int))), none] σ (by omega) ⟨Sc.rf, rfl, fun a h1 h2 i j => rfl, fun p hp => ⟨h101 p hp, fun q => absurd q (by show ¬ (0 : Int) ≤ -1; decide)⟩⟩
  refine ⟨s, a1, a2, a3, fun N => ?_⟩
  have e := e N
  rw [Nat.pow_zero, Nat.div_one, show (n : Int) - 1 - ((0 : Nat) : Int) = (n : Int) - 1 by omega, show (n : Int) - 1 - (n : Int) = -1 by omega] at e
  exact e
noncomputable abbrev bA (V : TVw) (n : Nat) (dg : Nat → Nat) : Nat → Int := oA V (twR V n dg n) (taR V n dg n) (V 54 (hg0 V).toNat)
noncomputable abbrev bT (V : TVw) (n : Nat) (dg : Nat → Nat) : Nat → Int := oT V (twR V n dg n) (taR V n dg n) (V 54 (hg0 V).toNat)
noncomputable abbrev bI (V : TVw) (n : Nat) (dg : Nat → Nat) : Nat → Int := oI V (twR V n dg n) (taR V n dg n) (V 54 (hg0 V).toNat)
/-- the coins, and the number, behind the turn with those ways -/
noncomputable def bCo (V : TVw) (n : Nat) (dg : Nat → Nat) : Int := dC V (hg0 V) (bA V n dg) (bT V n dg) (bI V n dg) (V 54 (hg0 V).toNat) (hx0 V)
noncomputable def bNu (V : TVw) (n : Nat) (dg : Nat → Nat) : Int := fst (dM V (hg0 V) (bA V n dg) (bT V n dg) (bI V n dg)) (hx0 V)
set_option maxHeartbeats 4000000 in
theorem r_coinsBy (hV : RV σ V) (hI : Inv V) (hn : V 51 72 = (n : Int)) (hn0 : 0 < n) {v : Nat} (hv : v < 4 ^ n) (hd : ∀ s, s < n → (d4 n v s : Int) < V 109 s) : ∃ s, FR σ s ∧ RV s V ∧ s 51 0 78 = bNu V n (d4 n v) ∧ t_run tbl mtb (d + 74) 221 [vh 51 0, vi v] σ = some (some (vi (bCo V n (d4 n v))), s) := by
  have h0 := hI.cnt
  obtain ⟨i1, i2, -, -, i5⟩ := hI 13
  obtain ⟨u1, u2, u3, u4, u5, u6, u7⟩ := h0_ok hI hn hn0
  have r3 : 0 ≤ hg0 V ∧ hg0 V < 3 := by omega
  have r12 : 0 ≤ (hx0 V : Int) ∧ (hx0 V : Int) < 12 := by omega
  have q106 : σ 106 0 0 = V 106 0 := hV 106 0 rfl rfl rfl
  have q65 : σ 65 0 (V 106 0).toNat = (hx0 V : Int) := (hV 65 _ rfl rfl rfl).trans u3
  have q59 : σ 59 0 (hx0 V) = hg0 V := hV 59 _ rfl rfl rfl
  rw [run_go (k := 221) (as := [vh 51 0, vi v]) mt_221 (Nat.ne_of_beq_eq_false rfl) rfl (s_kX12_coinsBy_0 _ v σ)]
  simp only [q106, if_pos (show 0 ≤ V 106 0 ∧ V 106 0 < 40 by omega), q65, if_pos r12, Int.toNat_natCast, q59]
  rw [nx_inl]
  -- what is put aside
  obtain ⟨L1, s1', ⟨a1, a2, a3, rfl⟩, e1⟩ := loop_rel (O := t_run tbl mtb (d + 73)) (k := 221) (pc := 22) (fun k L s => Sc scr σ s ∧ (∀ a, a ≠ 111 → a ≠ 112 → a ≠ 101 → ∀ i j, s a i j = σ a i j) ∧ (∀ p, p < k → s 111 0 p = V 66 p ∧ s 112 0 p = V 69 p ∧ s 101 0 p = -1) ∧ L = [some (vh 51 0), some (vi (v : Int)), some (vi (hx0 V)), some (vi (hg0 V)), some (vi (k : Int)), none, none]) (nP V) (by
    rintro k L s hk ⟨b1, b2, b3, rfl⟩
    obtain ⟨-, -, -, -, -, -, v9, -⟩ := hI 3 k hk
    have r40 : 0 ≤ (k : Int) ∧ (k : Int) < 40 := by omega
    have q23 : s 51 0 23 = V 51 23 := (b2 51 (by decide) (by decide) (by decide) 0 23).trans (hV 51 23 rfl rfl rfl)
    have q66 : s 66 0 k = V 66 k := (b2 66 (by decide) (by decide) (by decide) 0 k).trans (hV 66 k rfl rfl rfl)
    have q69 : s 69 0 k = V 69 k := (b2 69 (by decide) (by decide) (by decide) 0 k).trans (hV 69 k rfl rfl rfl)
    have st := fun N => tr_step (n := N) (s_kX12_coinsBy_22 (t_run tbl mtb (d + 73)) v (hx0 V) (hg0 V) k s )
    simp only [q23, if_pos (show (k : Int) < V 51 23 by omega), if_pos r40, Int.toNat_natCast, up_k (show (69 : Nat) ≠ 111 by decide), q66, q69, if_pos (show 0 ≤ V 69 k ∧ V 69 k ≤ 1 by omega), w32_nat (show k < 2147483647 by omega)] at st
    refine ⟨_, _, ⟨((b1.up rfl).up rfl).up rfl, fun a h1 h2 h3 i j => by rw [up_k h3, up_k h2, up_k h1]; exact b2 a h1 h2 h3 i j, fun p hp => ?_, rfl⟩, st⟩
    rw [up_k (show (111 : Nat) ≠ 101 by decide), up_k (show (111 : Nat) ≠ 112 by decide), up_at, up_k (show (112 : Nat) ≠ 101 by decide), up_at, up_k (show (112 : Nat) ≠ 111 by decide), up_at, up_k (show (101 : Nat) ≠ 112 by decide), up_k (show (101 : Nat) ≠ 111 by decide)]
    by_cases z : p = k
    · rw [if_pos z, if_pos z, if_pos z, z]
      exact ⟨rfl, rfl, rfl⟩
    · rw [if_neg z, if_neg z, if_neg z]
      exact b3 p (by omega)) (nP V) 0 [some (vh 51 0), some (vi (v : Int)), some (vi (hx0 V)), some (vi (hg0 V)), some (vi ((0 : Nat) : Int)), none, none] σ (by omega) ⟨Sc.rf, fun a _ _ _ i j => rfl, fun p hp => by omega, rfl⟩
  have v1 := hV.sc a1
  obtain ⟨L2, s2', ⟨b1, b2, b3, rfl⟩, e2⟩ := loop_rel (O := t_run tbl mtb (d + 73)) (k := 221) (pc := 76) (fun k L s => Sc scr s1' s ∧ (∀ a, a ≠ 113 → ∀ i j, s a i j = s1' a i j) ∧ (∀ x, x < k → s 113 0 x = V 60 x) ∧ L = [some (vh 51 0), some (vi (v : Int)), some (vi (hx0 V)), some (vi (hg0 V)), some (vi (k : Int)), none, none]) (nH V) (by
    rintro k L s hk ⟨b1, b2, b3, rfl⟩
    have r12 : 0 ≤ (k : Int) ∧ (k : Int) < 12 := by omega
    have q15 : s 51 0 15 = V 51 15 := (b2 51 (by decide) 0 15).trans (v1 51 15 rfl rfl rfl)
    have q60 : s 60 0 k = V 60 k := (b2 60 (by decide) 0 k).trans (v1 60 k rfl rfl rfl)
    have st := fun N => tr_step (n := N) (s_kX12_coinsBy_76 (t_run tbl mtb (d + 73)) v (hx0 V) (hg0 V) k s )
    simp only [q15, if_pos (show (k : Int) < V 51 15 by omega), if_pos r12, Int.toNat_natCast, q60, w32_nat (show k < 2147483647 by omega)] at st
    refine ⟨_, _, ⟨b1.up rfl, fun a h1 i j => by rw [up_k h1]; exact b2 a h1 i j, fun x hx => ?_, rfl⟩, st⟩
    rw [up_at]
    by_cases z : x = k
    · rw [if_pos z, z]
    · rw [if_neg z]
      exact b3 x (by omega)) (nH V) 0 [some (vh 51 0), some (vi (v : Int)), some (vi (hx0 V)), some (vi (hg0 V)), some (vi ((0 : Nat) : Int)), none, none] s1' (by omega) ⟨Sc.rf, fun a _ i j => rfl, fun p hp => by omega, rfl⟩
  have v2 := v1.sc b1
  -- the ways
  obtain ⟨s3, c1, c2, c3, e3⟩ := r_tellWays (d := d) v2 hI hn hv (hx0 V) (hg0 V) (fun p hp => (b2 101 (by decide) 0 p).trans (a3 p hp).2.2)
  have v3 := v2.sc c1
  -- the turn
  have hT := twR_TW hI hn hn0 hd
  have v4 : RV (t_upd s3 51 0 64 1) V := v3.sc (Sc.rf.up rfl)
  have hS : TS (t_upd s3 51 0 64 1) V (hg0 V) (twR V n (d4 n v) n) (taR V n (d4 n v) n) := by
    intro p hp hi
    rw [up_same, up_k (show (101 : Nat) ≠ 51 by decide), up_k (show (102 : Nat) ≠ 51 by decide)]
    obtain ⟨w1, w2⟩ := c3 p hp
    by_cases z : twR V n (d4 n v) n p < 0
    · exact .inl ⟨z, .inr (by rw [w1]; exact z)⟩
    · exact .inr ⟨by omega, by decide, w1, w2 (by omega)⟩
  obtain ⟨s4, f1, f2, -, -, f5⟩ := r_goThrough (d := d) (t := V 54 (hg0 V).toNat) v4 hI hT hS r3
  have hVA := oVA (t := V 54 (hg0 V).toNat) hI hT
  have f6 : RV (t_upd s4 51 0 64 0) (dN V (hg0 V) (bA V n (d4 n v)) (bT V n (d4 n v)) (bI V n (d4 n v)) (V 54 (hg0 V).toNat)) := f2.sc (Sc.rf.up rfl)
  have hI4 : Inv (dN V (hg0 V) (bA V n (d4 n v)) (bT V n (d4 n v)) (bI V n (d4 n v)) (V 54 (hg0 V).toNat)) := dNk_inv hI hVA _ _
  have f7 := r_standing (d := d + 72) f6 hI4 (hx0 V)
  have q60 : t_upd s4 51 0 64 0 60 0 (hx0 V) = bCo V n (d4 n v) := (f6 60 (hx0 V) rfl rfl rfl).trans (by
    show (if hx0 V < nH V then bCo V n (d4 n v) else V 60 (hx0 V)) = _
    rw [if_pos u4])
  have e4 : ∀ N, t_tr tbl mtb (t_run tbl mtb (d + 73)) 221 (N + 1) 116 [some (vh 51 0), none, some (vi (hx0 V)), some (vi (hg0 V)), some (vi ((v / 4 ^ n : Nat) : Int)), some (vi (-1)), none] [] s3 = t_tr tbl mtb (t_run tbl mtb (d + 73)) 221 N 232 [some (vh 51 0), none, none, none, none, some (vi (bCo V n (d4 n v))), some (vi ((0 : Nat) : Int))] [] (t_upd (t_upd s4 51 0 64 0) 51 0 78 (bNu V n (d4 n v))) := by
    intro N
    have q54 : t_upd s3 51 0 64 1 54 0 (hg0 V).toNat = V 54 (hg0 V).toNat := v4 54 _ rfl rfl rfl
    have q51 : t_upd s3 51 0 64 1 51 0 0 = V 51 0 := v4 51 0 rfl rfl rfl
    have st := fun N => tr_step (n := N) (s_kX12_coinsBy_116 (t_run tbl mtb (d + 73)) (hx0 V) (hg0 V) ((v / 4 ^ n : Nat) : Int) (-1) s3 )
    simp only [if_pos (show (-1 : Int) < 0 by decide), if_pos r3, q54, q51, f5, cv_ok, if_pos r12, f7, ci_ok, Int.toNat_natCast, q60] at st
    exact st N
  generalize hs5 : t_upd (t_upd s4 51 0 64 0) 51 0 78 (bNu V n (d4 n v)) = s5 at e4
  have g1 : RV s5 (dN V (hg0 V) (bA V n (d4 n v)) (bT V n (d4 n v)) (bI V n (d4 n v)) (V 54 (hg0 V).toNat)) := by
    rw [← hs5]
    exact f6.sc (Sc.rf.up rfl)
  have g2 : ∀ a j, a = 111 ∨ a = 112 ∨ a = 113 → s5 a 0 j = s2' a 0 j := fun a j ha => by
    rw [← hs5, up_k (by omega), up_k (by omega), f1 a 0 j (by rcases ha with rfl | rfl | rfl <;> rfl), up_k (by omega), c2 a (by omega) (by omega) 0 j]
  have g111 : ∀ p, p < nP V → s5 111 0 p = V 66 p ∧ s5 112 0 p = V 69 p := fun p hp => by
    rw [g2 111 p (by omega), g2 112 p (by omega), b2 111 (by decide), b2 112 (by decide)]
    exact ⟨(a3 p hp).1, (a3 p hp).2.1⟩
  have g113 : ∀ x, x < nH V → s5 113 0 x = V 60 x := fun x hx => by
    rw [g2 113 x (by omega)]
    exact b3 x hx
  have g78 : s5 51 0 78 = bNu V n (d4 n v) := by rw [← hs5, up_same]
  -- all put back
  obtain ⟨L6, s6, ⟨j1, j2, rfl⟩, e6⟩ := loop_rel (O := t_run tbl mtb (d + 73)) (k := 221) (pc := 232) (fun k L s => (∀ a, a ≠ 66 → a ≠ 69 → ∀ i j, s a i j = s5 a i j) ∧ (∀ p, (p < k → s 66 0 p = V 66 p ∧ s 69 0 p = V 69 p) ∧ (k ≤ p → s 66 0 p = s5 66 0 p ∧ s 69 0 p = s5 69 0 p)) ∧ L = [some (vh 51 0), none, none, none, none, some (vi (bCo V n (d4 n v))), some (vi (k : Int))]) (nP V) (by
    rintro k L s hk ⟨b1, b2, rfl⟩
    obtain ⟨-, -, -, -, -, -, v9, -⟩ := hI 3 k hk
    have r40 : 0 ≤ (k : Int) ∧ (k : Int) < 40 := by omega
    have q23 : s 51 0 23 = V 51 23 := (b1 51 (by decide) (by decide) 0 23).trans (g1 51 23 rfl rfl rfl)
    have q111 : s 111 0 k = V 66 k := (b1 111 (by decide) (by decide) 0 k).trans (g111 k hk).1
    have q112 : s 112 0 k = V 69 k := (b1 112 (by decide) (by decide) 0 k).trans (g111 k hk).2
    have st := fun N => tr_step (n := N) (s_kX12_coinsBy_232 (t_run tbl mtb (d + 73)) (bCo V n (d4 n v)) k s )
    simp only [q23, if_pos (show (k : Int) < V 51 23 by omega), if_pos r40, Int.toNat_natCast, up_k (show (112 : Nat) ≠ 66 by decide), q111, q112, if_pos (show 0 ≤ V 69 k ∧ V 69 k ≤ 1 by omega), w32_nat (show k < 2147483647 by omega)] at st
    refine ⟨_, _, ⟨fun a h1 h2 i j => by rw [up_k h2, up_k h1]; exact b1 a h1 h2 i j, fun p => ?_, rfl⟩, st⟩
    rw [up_k (show (66 : Nat) ≠ 69 by decide), up_at, up_at, up_k (show (69 : Nat) ≠ 66 by decide)]
    by_cases z : p = k
    · rw [if_pos z, if_pos z, z]
      exact ⟨fun _ => ⟨rfl, rfl⟩, fun q => absurd q (by omega)⟩
    · rw [if_neg z, if_neg z]
      exact ⟨fun q => (b2 p).1 (by omega), fun q => (b2 p).2 (by omega)⟩) (nP V) 0 [some (vh 51 0), none, none, none, none, some (vi (bCo V n (d4 n v))), some (vi ((0 : Nat) : Int))] s5 (by omega) ⟨fun a _ _ i j => rfl, fun p => ⟨fun q => absurd q (Nat.not_lt_zero _), fun _ => ⟨rfl, rfl⟩⟩, rfl⟩
  obtain ⟨L7, s7', ⟨k1, k2, rfl⟩, e7⟩ := loop_rel (O := t_run tbl mtb (d + 73)) (k := 221) (pc := 278) (fun k L s => (∀ a, a ≠ 60 → ∀ i j, s a i j = s6 a i j) ∧ (∀ x, (x < k → s 60 0 x = V 60 x) ∧ (k ≤ x → s 60 0 x = s6 60 0 x)) ∧ L = [some (vh 51 0), none, none, none, none, some (vi (bCo V n (d4 n v))), some (vi (k : Int))]) (nH V) (by
    rintro k L s hk ⟨b1, b2, rfl⟩
    have r12 : 0 ≤ (k : Int) ∧ (k : Int) < 12 := by omega
    have q15 : s 51 0 15 = V 51 15 := (b1 51 (by decide) 0 15).trans ((j1 51 (by decide) (by decide) 0 15).trans (g1 51 15 rfl rfl rfl))
    have q113 : s 113 0 k = V 60 k := (b1 113 (by decide) 0 k).trans ((j1 113 (by decide) (by decide) 0 k).trans (g113 k hk))
    have st := fun N => tr_step (n := N) (s_kX12_coinsBy_278 (t_run tbl mtb (d + 73)) (bCo V n (d4 n v)) k s )
    simp only [q15, if_pos (show (k : Int) < V 51 15 by omega), if_pos r12, Int.toNat_natCast, q113, w32_nat (show k < 2147483647 by omega)] at st
    refine ⟨_, _, ⟨fun a h1 i j => by rw [up_k h1]; exact b1 a h1 i j, fun p => ?_, rfl⟩, st⟩
    rw [up_at]
    by_cases z : p = k
    · rw [if_pos z, z]
      exact ⟨fun _ => rfl, fun q => absurd q (by omega)⟩
    · rw [if_neg z]
      exact ⟨fun q => (b2 p).1 (by omega), fun q => (b2 p).2 (by omega)⟩) (nH V) 0 [some (vh 51 0), none, none, none, none, some (vi (bCo V n (d4 n v))), some (vi ((0 : Nat) : Int))] s6 (by omega) ⟨fun a _ i j => rfl, fun p => ⟨fun q => absurd q (Nat.not_lt_zero _), fun _ => rfl⟩, rfl⟩
  refine ⟨s7', ?_, ?_, ?_, ?_⟩
  · intro k i j hk
    rw [k1 k (by omega), j1 k (by omega) (by omega), ← hs5, up_k (by omega), up_k (by omega), FR.of (f1.mono srg_srd) srd_R k i j hk, up_k (by omega), c2 k (by omega) (by omega), b2 k (by omega), a2 k (by omega) (by omega) (by omega)]
  · intro x j hx1 hx2 hx3
    have y := g1 x j hx1 hx2 hx3
    by_cases x66 : x = 66
    · subst x66
      rw [k1 66 (by decide)]
      by_cases z : j < nP V
      · exact ((j2 j).1 z).1
      · rw [((j2 j).2 (by omega)).1, y]
        show (if j < nP V ∧ _ then _ else V 66 j) = V 66 j
        rw [if_neg (fun q => z q.1)]
    · by_cases x69 : x = 69
      · subst x69
        rw [k1 69 (by decide)]
        by_cases z : j < nP V
        · exact ((j2 j).1 z).2
        · rw [((j2 j).2 (by omega)).2, y]
          show (if j < nP V ∧ _ then _ else V 69 j) = V 69 j
          rw [if_neg (fun q => z q.1)]
      · by_cases x60 : x = 60
        · subst x60
          by_cases z : j < nH V
          · exact (k2 j).1 z
          · rw [(k2 j).2 (by omega), j1 60 (by decide) (by decide), y]
            show (if j < nH V then _ else V 60 j) = V 60 j
            rw [if_neg z]
        · rw [k1 x x60, j1 x x66 x69, y]
          unfold dN dNk dM dMk
          rw [if_neg x60, if_neg x66, if_neg x69]
  · rw [k1 51 (by decide), j1 51 (by decide) (by decide), g78]
  · refine out_of ?_
    have z1 := v1 51 23 rfl rfl rfl
    have z2 := v2 51 15 rfl rfl rfl
    have z3 := v2 51 72 rfl rfl rfl
    have z6 : s6 51 0 23 = V 51 23 := (j1 51 (by decide) (by decide) 0 23).trans (g1 51 23 rfl rfl rfl)
    have z7 : s7' 51 0 15 = V 51 15 := (k1 51 (by decide) 0 15).trans ((j1 51 (by decide) (by decide) 0 15).trans (g1 51 15 rfl rfl rfl))
    have t1 := fun N => tr_step (n := N) (s_kX12_coinsBy_22 (t_run tbl mtb (d + 73)) v (hx0 V) (hg0 V) (nP V) s1' )
    simp only [z1, if_neg (show ¬ ((nP V : Nat) : Int) < V 51 23 by omega)] at t1
    have t2 := fun N => tr_step (n := N) (s_kX12_coinsBy_76 (t_run tbl mtb (d + 73)) v (hx0 V) (hg0 V) (nH V) s2' )
    simp only [z2, if_neg (show ¬ ((nH V : Nat) : Int) < V 51 15 by omega), z3, hn, w32_id (x := (n : Int) - 1) (by omega) (by omega)] at t2
    have t6 := fun N => tr_step (n := N) (s_kX12_coinsBy_232 (t_run tbl mtb (d + 73)) (bCo V n (d4 n v)) (nP V) s6 )
    simp only [z6, if_neg (show ¬ ((nP V : Nat) : Int) < V 51 23 by omega)] at t6
    have t7 := fun N => tr_step (n := N) (s_kX12_coinsBy_278 (t_run tbl mtb (d + 73)) (bCo V n (d4 n v)) (nH V) s7' )
    simp only [z7, if_neg (show ¬ ((nH V : Nat) : Int) < V 51 15 by omega)] at t7
    have E : ∀ N, t_tr tbl mtb (t_run tbl mtb (d + 73)) 221 (N + 1 + nH V + 1 + nP V + 1 + n + 1 + nH V + 1 + nP V) 22 [some (vh 51 0), some (vi (v : Int)), some (vi (hx0 V)), some (vi (hg0 V)), some (vi ((0 : Nat) : Int)), none, none] [] σ = some (.inr (some (vi (bCo V n (d4 n v))), s7')) := fun N =>
      (e1 _).trans ((t1 _).trans ((e2 _).trans ((t2 _).trans ((e3 _).trans ((e4 _).trans ((e6 _).trans ((t6 _).trans ((e7 _).trans (t7 _)))))))))
    have E := E (999994 - nH V - nP V - n - nH V - nP V)
    rw [show 999994 - nH V - nP V - n - nH V - nP V + 1 + nH V + 1 + nP V + 1 + n + 1 + nH V + 1 + nP V = 999999 by omega] at E
    exact E
end
