-- a rule's codes at work: what the class's worth() gives is what the reader of texts says
def s48 (k _ : Nat) : Bool := Nat.beq k 48
theorem s48_s1 (k j : Nat) (h : s1 k j = false) : s48 k j = false := (Bool.or_eq_false_iff.mp h).2
abbrev wL (r hi i : Nat) : TL := [some (vh 46 r), some (vh 25 0), some (vi (hi : Int)), some (vi (i : Int)), none, none]
theorem c_joined {σ : TM} {d : Nat} (s x y : Int) : t_run tbl mtb (d + 1) 29 [vi s, vi x, vi y] σ = some (some (vi (p_jn s x y)), σ) := by
  rw [run_go (k := 29) (as := [vi s, vi x, vi y]) mt_29 (Nat.ne_of_beq_eq_false rfl) rfl (s_kX7_joined_0 _ s x y σ)]
  unfold p_jn
  by_cases h37 : s = 37
  · simp only [if_pos h37]
    (repeat' split) <;> first | exact leaf_i rfl | (exfalso; omega)
  by_cases h38 : s = 38
  · simp only [if_neg h37, if_pos h38]
    (repeat' split) <;> first | exact leaf_i rfl | (exfalso; omega)
  by_cases h42 : s = 42
  · simp only [if_neg h37, if_neg h38, if_pos h42]
    (repeat' split) <;> first | exact leaf_i rfl | (exfalso; omega)
  by_cases h43 : s = 43
  · simp only [if_neg h37, if_neg h38, if_neg h42, if_pos h43]
    (repeat' split) <;> first | exact leaf_i rfl | (exfalso; omega)
  by_cases h45 : s = 45
  · simp only [if_neg h37, if_neg h38, if_neg h42, if_neg h43, if_pos h45]
    (repeat' split) <;> first | exact leaf_i rfl | (exfalso; omega)
  by_cases h47 : s = 47
  · simp only [if_neg h37, if_neg h38, if_neg h42, if_neg h43, if_neg h45, if_pos h47]
    (repeat' split) <;> first | exact leaf_i rfl | (exfalso; omega)
  by_cases h60 : s = 60
  · simp only [if_neg h37, if_neg h38, if_neg h42, if_neg h43, if_neg h45, if_neg h47, if_pos h60]
    (repeat' split) <;> first | exact leaf_i rfl | (exfalso; omega)
  by_cases h61 : s = 61
  · simp only [if_neg h37, if_neg h38, if_neg h42, if_neg h43, if_neg h45, if_neg h47, if_neg h60, if_pos h61]
    (repeat' split) <;> first | exact leaf_i rfl | (exfalso; omega)
  by_cases h62 : s = 62
  · simp only [if_neg h37, if_neg h38, if_neg h42, if_neg h43, if_neg h45, if_neg h47, if_neg h60, if_neg h61, if_pos h62]
    (repeat' split) <;> first | exact leaf_i rfl | (exfalso; omega)
  by_cases h124 : s = 124
  · simp only [if_neg h37, if_neg h38, if_neg h42, if_neg h43, if_neg h45, if_neg h47, if_neg h60, if_neg h61, if_neg h62, if_pos h124]
    (repeat' split) <;> first | exact leaf_i rfl | (exfalso; omega)
  simp only [if_neg h37, if_neg h38, if_neg h42, if_neg h43, if_neg h45, if_neg h47, if_neg h60, if_neg h61, if_neg h62, if_neg h124]
  rfl
section
variable {O : TO} {r hi i len : Nat} {σ : TM} {x : Int}
theorem w_num (hl : σ 46 r 4 = len) (hx : σ 47 r i = x) (h0 : 0 ≤ x) (h1 : x < 10000) (hh : hi < 64) (hil : i < len) (hlen : len ≤ 161) (n : Nat) : t_tr tbl mtb O 28 (n + 1) 4 (wL r hi i) [] σ = t_tr tbl mtb O 28 n 4 (wL r (hi + 1) (i + 1)) [] (t_upd σ 48 r hi x) := by
  rw [tr_step (s_kX7_worth_4 _ r hi i σ)]
  simp only [Int.toNat_natCast, hl, hx]
  rw [if_pos (by omega), if_pos (by omega), if_pos (by omega), if_pos (by omega), if_pos (by omega), if_pos (by omega), w32_nat (by omega), w32_nat (by omega)]
  rfl
theorem w_name {k : Nat} (hl : σ 46 r 4 = len) (hx : σ 47 r i = 10000 + (k : Int)) (hk : k < 11) (hh : hi < 64) (hil : i < len) (hlen : len ≤ 161) (n : Nat) : t_tr tbl mtb O 28 (n + 1) 4 (wL r hi i) [] σ = t_tr tbl mtb O 28 n 4 (wL r (hi + 1) (i + 1)) [] (t_upd σ 48 r hi (σ 25 0 k)) := by
  rw [tr_step (s_kX7_worth_4 _ r hi i σ)]
  simp only [Int.toNat_natCast, hl, hx]
  have e : w32 (10000 + (k : Int) - 10000) = k := by rw [w32_id (by omega) (by omega)]; omega
  rw [if_pos (by omega), if_pos (by omega), if_pos (by omega), if_neg (by omega)]
  simp only [e, Int.toNat_natCast]
  rw [if_pos (by omega), if_pos (by omega), if_pos (by omega), if_pos (by omega), w32_nat (by omega), w32_nat (by omega)]
  rfl
theorem w_not (hl : σ 46 r 4 = len) (hx : σ 47 r i = 20033) (hh : hi < 64) (hil : i < len) (hlen : len ≤ 161) (n : Nat) : t_tr tbl mtb O 28 (n + 1) 4 (wL r (hi + 1) i) [] σ = t_tr tbl mtb O 28 n 4 (wL r (hi + 1) (i + 1)) [] (t_upd σ 48 r hi (if σ 48 r hi = 0 then 1 else 0)) := by
  rw [tr_step (s_kX7_worth_4 _ r ((hi + 1 : Nat) : Int) i σ)]
  simp only [Int.toNat_natCast, hl, hx]
  have e : w32 (((hi + 1 : Nat) : Int) - 1) = (hi : Int) := by rw [w32_id (by omega) (by omega)]; omega
  simp only [e, Int.toNat_natCast]
  rw [if_pos (by omega), if_pos (by omega), if_neg (by decide), if_neg (by omega), if_neg (by decide), if_pos (by decide), if_pos trivial, if_pos (by omega), w32_nat (by omega)]
  split
  · next h => rw [if_pos (by omega)]; rfl
  · next h => rw [if_pos (by omega)]; rfl
theorem w_neg (hl : σ 46 r 4 = len) (hx : σ 47 r i = 20126) (hh : hi < 64) (hil : i < len) (hlen : len ≤ 161) (n : Nat) : t_tr tbl mtb O 28 (n + 1) 4 (wL r (hi + 1) i) [] σ = t_tr tbl mtb O 28 n 4 (wL r (hi + 1) (i + 1)) [] (t_upd σ 48 r hi (w32 (-(σ 48 r hi)))) := by
  rw [tr_step (s_kX7_worth_4 _ r ((hi + 1 : Nat) : Int) i σ)]
  simp only [Int.toNat_natCast, hl, hx]
  have e : w32 (((hi + 1 : Nat) : Int) - 1) = (hi : Int) := by rw [w32_id (by omega) (by omega)]; omega
  simp only [e, Int.toNat_natCast]
  rw [if_pos (by omega), if_pos (by omega), if_neg (by decide), if_neg (by omega), if_neg (by decide), if_pos (by decide), if_neg (by decide), if_pos trivial, if_pos (by omega), if_pos (by omega), w32_nat (by omega)]
  rfl
theorem w_bin {d : Nat} {s : Int} (hl : σ 46 r 4 = len) (hx : σ 47 r i = 20000 + s) (s0 : 0 ≤ s) (s1 : s < 10000) (s2 : s ≠ 33) (s3 : s ≠ 126) (hh : hi < 63) (hil : i < len) (hlen : len ≤ 161) (n : Nat) : t_tr tbl mtb (t_run tbl mtb (d + 1)) 28 (n + 1) 4 (wL r (hi + 2) i) [] σ = t_tr tbl mtb (t_run tbl mtb (d + 1)) 28 n 4 (wL r (hi + 1) (i + 1)) [] (t_upd σ 48 r hi (p_jn s (σ 48 r hi) (σ 48 r (hi + 1)))) := by
  rw [tr_step (s_kX7_worth_4 _ r ((hi + 2 : Nat) : Int) i σ)]
  simp only [Int.toNat_natCast, hl, hx]
  have e : w32 (((hi + 2 : Nat) : Int) + (-1)) = ((hi + 1 : Nat) : Int) := by rw [w32_id (by omega) (by omega)]; omega
  have e2 : w32 (((hi + 1 : Nat) : Int) - 1) = (hi : Int) := by rw [w32_id (by omega) (by omega)]; omega
  have e3 : w32 (20000 + s - 20000) = s := by rw [w32_id (by omega) (by omega)]; omega
  simp only [e, e2, e3, Int.toNat_natCast]
  rw [if_pos (by omega), if_pos (by omega), if_neg (by omega), if_neg (by omega), if_neg (by omega), if_pos (by omega), if_neg (by omega), if_neg (by omega), if_neg (by omega), if_pos (by omega), if_pos (by omega), ci_of (c_joined s _ _), if_pos (by omega), w32_nat (by omega)]
  rfl
theorem w_ans (hl : σ 46 r 4 = len) (hx : σ 47 r i = 40000) (hh : hi < 64) (hil : i < len) (hlen : len ≤ 161) (n : Nat) : t_tr tbl mtb O 28 (n + 1) 4 (wL r (hi + 1) i) [] σ = some (.inr (some (vi (σ 48 r hi)), σ)) := by
  rw [tr_step (s_kX7_worth_4 _ r ((hi + 1 : Nat) : Int) i σ)]
  simp only [Int.toNat_natCast, hl, hx]
  have e : w32 (((hi + 1 : Nat) : Int) - 1) = (hi : Int) := by rw [w32_id (by omega) (by omega)]; omega
  simp only [e, Int.toNat_natCast]
  rw [if_pos (by omega), if_pos (by omega), if_neg (by decide), if_neg (by omega), if_pos trivial, if_pos (by omega)]
  rfl
theorem w_skip {d t : Nat} (hl : σ 46 r 4 = len) (hx : σ 47 r i = 30000 + (t : Int)) (ht : t ≤ 161) (hit : i < t) (hh : hi < 64) (hil : i < len) (hlen : len ≤ 161) (n : Nat) : t_tr tbl mtb (t_run tbl mtb (d + 1)) 28 (n + 1) 4 (wL r (hi + 1) i) [] σ = t_tr tbl mtb (t_run tbl mtb (d + 1)) 28 n 4 (wL r hi (if σ 48 r hi = 0 then t else i + 1)) [] σ := by
  rw [tr_step (s_kX7_worth_4 _ r ((hi + 1 : Nat) : Int) i σ)]
  simp only [Int.toNat_natCast, hl, hx]
  have e : w32 (((hi + 1 : Nat) : Int) + (-1)) = (hi : Int) := by rw [w32_id (by omega) (by omega)]; omega
  have e2 : w32 (w32 (30000 + (t : Int) - 30000) - 1) = ((t - 1 : Nat) : Int) := by rw [w32_id (x := 30000 + (t : Int) - 30000) (by omega) (by omega), w32_id (by omega) (by omega)]; omega
  simp only [e, e2, Int.toNat_natCast]
  rw [if_pos (by omega), if_pos (by omega), if_neg (by omega), if_neg (by omega), if_neg (by omega), if_neg (by omega), if_pos (by omega)]
  by_cases q : σ 48 r hi = 0
  · rw [if_pos q, if_pos q, ci_of (j_max _ _)]
    have e3 : (if (i : Int) < ((t - 1 : Nat) : Int) then ((t - 1 : Nat) : Int) else (i : Int)) = ((t - 1 : Nat) : Int) := by split <;> omega
    rw [e3, w32_nat (by omega), show t - 1 + 1 = t by omega]
    rfl
  · rw [if_neg q, if_neg q, w32_nat (by omega)]
    rfl
theorem w_end (hl : σ 46 r 4 = len) (hil : len ≤ i) (n : Nat) : t_tr tbl mtb O 28 (n + 1) 4 (wL r hi i) [] σ = some (.inr (some (vi 0), σ)) := by
  rw [tr_step (s_kX7_worth_4 _ r hi i σ), hl, if_neg (by omega)]
  rfl
end
/-- codes c, run from any place, lay v on the pending numbers, with at most D of them above -/
def Ged (c : List Int) (v : (Nat → Int) → Int) (D : Nat) : Prop := ∀ (d r : Nat) (σ : TM) (i hi len : Nat) (N : Nat → Int), σ 46 r 4 = len → (∀ j x, t_nth c j = some x → σ 47 r (i + j) = x) → i + c.length ≤ len → len ≤ 161 → hi + D ≤ 64 → (∀ k, k < 11 → σ 25 0 k = N k) →
  ∃ σ', Sc s48 σ σ' ∧ σ' 48 r hi = v N ∧ (∀ z, z < hi → σ' 48 r z = σ 48 r z) ∧ ∀ n, t_tr tbl mtb (t_run tbl mtb (d + 1)) 28 (n + c.length) 4 (wL r hi i) [] σ = t_tr tbl mtb (t_run tbl mtb (d + 1)) 28 n 4 (wL r (hi + 1) (i + c.length)) [] σ'
theorem t_nth_app {α : Type} : ∀ (l m : List α) (j : Nat) (x : α), t_nth m j = some x → t_nth (l ++ m) (l.length + j) = some x
  | [], m, j, x, h => by rw [List.nil_append, List.length_nil, Nat.zero_add]; exact h
  | a :: l, m, j, x, h => by
    rw [List.cons_append, List.length_cons, show l.length + 1 + j = (l.length + j) + 1 by omega]
    exact t_nth_app l m j x h
theorem t_nth_app_l {α : Type} : ∀ (l m : List α) (j : Nat) (x : α), t_nth l j = some x → t_nth (l ++ m) j = some x
  | a :: l, m, 0, x, h => h
  | a :: l, m, j + 1, x, h => t_nth_app_l l m j x h
theorem Ged.mono {c : List Int} {v : (Nat → Int) → Int} {D D' : Nat} (h : Ged c v D) (q : D ≤ D') : Ged c v D' := fun d r σ i hi len N h1 h2 h3 h4 h5 h6 => h d r σ i hi len N h1 h2 h3 h4 (by omega) h6
theorem Ged.num {x : Int} (h0 : 0 ≤ x) (h1 : x < 10000) : Ged [x] (fun _ => x) 1 := by
  intro d r σ i hi len N hl hc hi1 hlen hD hN
  have hi1 : i + 1 ≤ len := hi1
  refine ⟨t_upd σ 48 r hi x, Sc.rf.up rfl, up_same, fun z hz => up_j (by omega), fun n => ?_⟩
  exact w_num hl (hc 0 x rfl) h0 h1 (by omega) (by omega) hlen n
theorem Ged.name {k : Nat} (hk : k < 11) : Ged [10000 + (k : Int)] (fun N => N k) 1 := by
  intro d r σ i hi len N hl hc hi1 hlen hD hN
  have hi1 : i + 1 ≤ len := hi1
  refine ⟨t_upd σ 48 r hi (σ 25 0 k), Sc.rf.up rfl, by rw [up_same, hN k hk], fun z hz => up_j (by omega), fun n => ?_⟩
  exact w_name hl (hc 0 _ rfl) hk (by omega) (by omega) hlen n
theorem Ged.un {c : List Int} {v : (Nat → Int) → Int} {D : Nat} (h : Ged c v D) (hD1 : 1 ≤ D) {x : Int} (f : Int → Int) (hw : ∀ (O : TO) (r hi i len : Nat) (σ : TM), σ 46 r 4 = len → σ 47 r i = x → hi < 64 → i < len → len ≤ 161 → ∀ n : Nat, t_tr tbl mtb O 28 (n + 1) 4 (wL r (hi + 1) i) [] σ = t_tr tbl mtb O 28 n 4 (wL r (hi + 1) (i + 1)) [] (t_upd σ 48 r hi (f (σ 48 r hi)))) : Ged (c ++ [x]) (fun N => f (v N)) D := by
  intro d r σ i hi len N hl hc hi1 hlen hD hN
  rw [List.length_append, List.length_singleton] at hi1
  obtain ⟨σ1, a1, a2, a3, a4⟩ := h d r σ i hi len N hl (fun j y hy => hc j y (t_nth_app_l _ _ _ _ hy)) (by omega) hlen hD hN
  have hx : σ1 47 r (i + c.length) = x := by
    rw [a1 47 r _ rfl]
    exact hc c.length x (t_nth_app c [x] 0 x rfl)
  refine ⟨t_upd σ1 48 r hi (f (σ1 48 r hi)), a1.up rfl, by rw [up_same, a2], fun z hz => by rw [up_j (by omega), a3 z hz], fun n => ?_⟩
  rw [List.length_append, List.length_singleton, show n + (c.length + 1) = n + 1 + c.length by omega, a4, hw _ r hi (i + c.length) len σ1 (by rw [a1 46 r 4 rfl, hl]) hx (by omega) (by omega) hlen, Nat.add_assoc]
theorem Ged.bin {c c2 : List Int} {v v2 : (Nat → Int) → Int} {D D2 : Nat} (h : Ged c v D) (h2 : Ged c2 v2 D2) (hD1 : 1 ≤ D2) {s : Int} (s0 : 0 ≤ s) (s1 : s < 10000) (s2 : s ≠ 33) (s3 : s ≠ 126) {D3 : Nat} (q1 : D ≤ D3) (q2 : D2 + 1 ≤ D3) : Ged (c ++ c2 ++ [20000 + s]) (fun N => p_jn s (v N) (v2 N)) D3 := by
  intro d r σ i hi len N hl hc hi1 hlen hD hN
  rw [List.length_append, List.length_append, List.length_singleton] at hi1
  obtain ⟨σ1, a1, a2, a3, a4⟩ := h d r σ i hi len N hl (fun j y hy => hc j y (t_nth_app_l _ _ _ _ (t_nth_app_l _ _ _ _ hy))) (by omega) hlen (by omega) hN
  obtain ⟨σ2, b1, b2, b3, b4⟩ := h2 d r σ1 (i + c.length) (hi + 1) len N (by rw [a1 46 r 4 rfl, hl]) (fun j y hy => by
    rw [a1 47 r _ rfl, Nat.add_assoc]
    exact hc (c.length + j) y (t_nth_app_l _ _ _ _ (t_nth_app _ _ _ _ hy))) (by omega) hlen (by omega) (fun k hk => by rw [a1 25 0 k rfl, hN k hk])
  have hx : σ2 47 r (i + c.length + c2.length) = 20000 + s := by
    rw [b1 47 r _ rfl, a1 47 r _ rfl, Nat.add_assoc]
    have := hc (c ++ c2).length (20000 + s) (t_nth_app (c ++ c2) [20000 + s] 0 _ rfl)
    rwa [List.length_append] at this
  refine ⟨t_upd σ2 48 r hi (p_jn s (σ2 48 r hi) (σ2 48 r (hi + 1))), (a1.tr b1).up rfl, by rw [up_same, b2, b3 hi (by omega), a2], fun z hz => by rw [up_j (by omega), b3 z (by omega), a3 z hz], fun n => ?_⟩
  rw [List.length_append, List.length_append, List.length_singleton, show n + (c.length + c2.length + 1) = n + 1 + c2.length + c.length by omega, a4, b4, w_bin (by rw [b1 46 r 4 rfl, a1 46 r 4 rfl, hl]) hx s0 s1 s2 s3 (by omega) (by omega) hlen, show i + (c.length + c2.length + 1) = i + c.length + c2.length + 1 by omega]
