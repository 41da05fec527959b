-- layer B: what a run gives, as equations
noncomputable def t_nx (O : TO) (k n : Nat) : Option TRes → Option TRes
  | some (.inl (pc, L, st, σ)) => t_tr tbl mtb O k n pc L st σ
  | some (.inr r) => some (.inr r)
  | none => none
theorem tr_step {O : TO} {k n pc : Nat} {L : TL} {st : List TV} {σ : TM} {T : Option TRes} (h : t_seg tbl mtb O k 1000 pc L st σ = T) : t_tr tbl mtb O k (n + 1) pc L st σ = t_nx O k n T := by
  subst h
  rw [t_tr]
  rcases t_seg tbl mtb O k 1000 pc L st σ with _ | ⟨pc', L', st', σ'⟩ | r <;> rfl
theorem nx_inl {O : TO} {k n pc : Nat} {L : TL} {st : List TV} {σ : TM} : t_nx O k n (some (.inl (pc, L, st, σ))) = t_tr tbl mtb O k n pc L st σ := rfl
theorem nx_inr {O : TO} {k n : Nat} {r : Option TV × TM} : t_nx O k n (some (.inr r)) = some (.inr r) := rfl
theorem nx_if {O : TO} {k n : Nat} {c : Prop} [Decidable c] {A B : Option TRes} : t_nx O k n (if c then A else B) = if c then t_nx O k n A else t_nx O k n B := by
  split <;> rfl
theorem out_inr {r : Option TV × TM} : t_out (some (.inr r)) = some r := rfl
theorem out_if {c : Prop} [Decidable c] {A B : Option TRes} : t_out (if c then A else B) = if c then t_out A else t_out B := by
  split <;> rfl
theorem ci_ok {x : Int} {σ : TM} {K : Int → TM → Option TRes} : t_calli (some (some (vi x), σ)) K = K x σ := rfl
theorem cj_ok {x : Int} {σ : TM} {K : Int → TM → Option TRes} : t_callj (some (some (vj x), σ)) K = K x σ := rfl
theorem cv_ok {σ : TM} {K : TM → Option TRes} : t_callv (some (none, σ)) K = K σ := rfl
theorem ci_of {r : Option (Option TV × TM)} {x : Int} {σ : TM} {K : Int → TM → Option TRes} (h : r = some (some (vi x), σ)) : t_calli r K = K x σ := by rw [h]; rfl
theorem cj_of {r : Option (Option TV × TM)} {x : Int} {σ : TM} {K : Int → TM → Option TRes} (h : r = some (some (vj x), σ)) : t_callj r K = K x σ := by rw [h]; rfl
theorem cv_of {r : Option (Option TV × TM)} {σ : TM} {K : TM → Option TRes} (h : r = some (none, σ)) : t_callv r K = K σ := by rw [h]; rfl
theorem run_go {d k own nl : Nat} {rb : Bool} {code : TCode} {stops : List (Nat × List Bool)} {as : List TV} {σ : TM} {T : Option TRes} (hm : mtb k = some (own, rb, nl, code, stops)) (hk : k ≠ 900) (hc : Nat.ble (t_cats as) nl = true) (h : t_seg tbl mtb (t_run tbl mtb d) k 1000 0 (t_fill nl (t_args as)) [] σ = T) : t_run tbl mtb (d + 1) k as σ = t_out (t_nx (t_run tbl mtb d) k 999999 T) := by
  unfold t_run
  rw [if_neg hk, hm]
  simp only [hc, cond_true]
  rw [tr_step (n := 999999) h]
-- memory
theorem up_same {σ : TM} {k i j : Nat} {v : Int} : t_upd σ k i j v k i j = v := by rw [t_upd_eq, if_pos ⟨rfl, rfl, rfl⟩]
theorem up_k {σ : TM} {k i j a b c : Nat} {v : Int} (h : a ≠ k) : t_upd σ k i j v a b c = σ a b c := by rw [t_upd_eq, if_neg (fun q => h q.1)]
theorem up_i {σ : TM} {k i j a b c : Nat} {v : Int} (h : b ≠ i) : t_upd σ k i j v a b c = σ a b c := by rw [t_upd_eq, if_neg (fun q => h q.2.1)]
theorem up_j {σ : TM} {k i j a b c : Nat} {v : Int} (h : c ≠ j) : t_upd σ k i j v a b c = σ a b c := by rw [t_upd_eq, if_neg (fun q => h q.2.2)]
/-- outside of S nothing has changed -/
def Sc (S : Nat → Nat → Bool) (σ σ' : TM) : Prop := ∀ k i j, S k j = false → σ' k i j = σ k i j
theorem Sc.rf {S : Nat → Nat → Bool} {σ : TM} : Sc S σ σ := fun _ _ _ _ => rfl
theorem Sc.tr {S : Nat → Nat → Bool} {σ σ1 σ2 : TM} (h : Sc S σ σ1) (h2 : Sc S σ1 σ2) : Sc S σ σ2 := fun k i j q => (h2 k i j q).trans (h k i j q)
theorem Sc.up {S : Nat → Nat → Bool} {σ σ1 : TM} {k i j : Nat} {v : Int} (h : Sc S σ σ1) (q : S k j = true) : Sc S σ (t_upd σ1 k i j v) := fun a b c r => by
  rw [t_upd_eq]
  by_cases e : a = k ∧ b = i ∧ c = j
  · obtain ⟨rfl, rfl, rfl⟩ := e
    rw [q] at r
    cases r
  · rw [if_neg e]
    exact h a b c r
theorem Sc.mono {S S' : Nat → Nat → Bool} {σ σ1 : TM} (h : Sc S σ σ1) (q : ∀ k j, S' k j = false → S k j = false) : Sc S' σ σ1 := fun k i j r => h k i j (q k j r)
-- numbers
theorem w32_nat {p : Nat} (h : p < 2147483647) : w32 ((p : Int) + 1) = ((p + 1 : Nat) : Int) := by
  rw [w32_id (by omega) (by omega)]
  omega
theorem w32_w32 (x : Int) : w32 (w32 x) = w32 x := by
  rw [w32_eq, w32_eq]
  exact Int.bmod_bmod
theorem w32_add_l (x y : Int) : w32 (w32 x + y) = w32 (x + y) := by
  rw [w32_eq, w32_eq, w32_eq]
  exact Int.bmod_add_bmod
theorem w32_add_r (x y : Int) : w32 (x + w32 y) = w32 (x + y) := by
  rw [w32_eq, w32_eq, w32_eq]
  exact Int.add_bmod_bmod
theorem w32_sub_l (x y : Int) : w32 (w32 x - y) = w32 (x - y) := by
  rw [w32_eq, w32_eq, w32_eq]
  exact Int.bmod_sub_bmod
theorem w32_sub_r (x y : Int) : w32 (x - w32 y) = w32 (x - y) := by
  rw [w32_eq, w32_eq, w32_eq]
  exact Int.sub_bmod_bmod
-- searches, counts, sums
def fF (P : Nat → Bool) : Nat → Nat → Int
  | 0, _ => -1
  | n + 1, p => if P p = true then (p : Int) else fF P n (p + 1)
def fL (P : Nat → Bool) : Nat → Int
  | 0 => -1
  | n + 1 => if P n = true then (n : Int) else fL P n
def fS (f : Nat → Int) : Nat → Int
  | 0 => 0
  | n + 1 => fS f n + f n
theorem fF_range (P : Nat → Bool) : ∀ n p : Nat, fF P n p = -1 ∨ ∃ q : Nat, fF P n p = (q : Int) ∧ p ≤ q ∧ q < p + n ∧ P q = true
  | 0, _ => .inl rfl
  | n + 1, p => by
    unfold fF
    split
    · next h => exact .inr ⟨p, rfl, Nat.le_refl _, by omega, h⟩
    · rcases fF_range P n (p + 1) with h | ⟨q, h, h1, h2, h3⟩
      · exact .inl h
      · exact .inr ⟨q, h, by omega, by omega, h3⟩
theorem fF_none (P : Nat → Bool) : ∀ n p : Nat, fF P n p = -1 → ∀ q, p ≤ q → q < p + n → P q = false
  | 0, _, _, _, _, _ => by omega
  | n + 1, p, h, q, h1, h2 => by
    unfold fF at h
    split at h
    · omega
    · next hp =>
      rcases Nat.lt_or_ge p q with h3 | h3
      · exact fF_none P n (p + 1) h q h3 (by omega)
      · have : q = p := by omega
        subst this
        simpa using hp
theorem fL_range (P : Nat → Bool) : ∀ n : Nat, fL P n = -1 ∨ ∃ q : Nat, fL P n = (q : Int) ∧ q < n ∧ P q = true
  | 0 => .inl rfl
  | n + 1 => by
    unfold fL
    split
    · next h => exact .inr ⟨n, rfl, by omega, h⟩
    · rcases fL_range P n with h | ⟨q, h, h1, h2⟩
      · exact .inl h
      · exact .inr ⟨q, h, by omega, h2⟩
theorem fS_congr {f g : Nat → Int} : ∀ {n : Nat}, (∀ p, p < n → f p = g p) → fS f n = fS g n
  | 0, _ => rfl
  | n + 1, h => by
    unfold fS
    rw [fS_congr (fun p hp => h p (by omega)), h n (by omega)]
theorem fL_congr {P Q : Nat → Bool} : ∀ {n : Nat}, (∀ p, p < n → P p = Q p) → fL P n = fL Q n
  | 0, _ => rfl
  | n + 1, h => by
    unfold fL
    rw [fL_congr (fun p hp => h p (by omega)), h n (by omega)]
theorem fF_congr {P Q : Nat → Bool} : ∀ {n p : Nat}, (∀ q, p ≤ q → q < p + n → P q = Q q) → fF P n p = fF Q n p
  | 0, _, _ => rfl
  | n + 1, p, h => by
    unfold fF
    rw [fF_congr (fun q h1 h2 => h q (by omega) (by omega)), h p (by omega) (by omega)]
theorem fS_count {P : Nat → Bool} : ∀ n : Nat, 0 ≤ fS (fun p => if P p = true then 1 else 0) n ∧ fS (fun p => if P p = true then 1 else 0) n ≤ n
  | 0 => ⟨Int.le_refl _, Int.le_refl _⟩
  | n + 1 => by
    have := fS_count (P := P) n
    unfold fS
    split <;> constructor <;> omega
