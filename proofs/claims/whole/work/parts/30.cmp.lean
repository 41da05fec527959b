-- lines and the whole text
theorem t_nth_set {α : Type} : ∀ (A B : List α) (x y : α) (j : Nat) (z : α), t_nth (A ++ y :: B) j = some z → j = A.length ∧ z = y ∨ j ≠ A.length ∧ t_nth (A ++ x :: B) j = some z
  | [], B, x, y, 0, z, h => by cases h; exact .inl ⟨rfl, rfl⟩
  | [], B, x, y, j + 1, z, h => .inr ⟨by simp, h⟩
  | a :: A, B, x, y, 0, z, h => .inr ⟨by simp, h⟩
  | a :: A, B, x, y, j + 1, z, h => by
    rcases t_nth_set A B x y j z h with ⟨h1, h2⟩ | ⟨h1, h2⟩
    · exact .inl ⟨by rw [h1]; rfl, h2⟩
    · exact .inr ⟨by simpa using h1, h2⟩
section
variable {r n d : Nat} {b : Nat → Int}
theorem St.set {σ : TM} {q : Nat} {A B : List Int} {x y : Int} (h : St r b n σ q (A ++ x :: B)) : St r b n (t_upd σ 47 r A.length y) q (A ++ y :: B) := by
  obtain ⟨h1, h2, h3, h4, h5, h6, h7⟩ := h
  refine ⟨by rw [up_k (by decide), h1], by rw [up_k (by decide), h2], by rw [up_k (by decide), h3, List.length_append, List.length_append]; rfl, fun j z hz => ?_, fun i hi => by rw [up_k (by decide), h5 i hi], by rw [up_k (by decide), h6], fun j hj => by rw [up_k (by decide), h7 j hj]⟩
  rcases t_nth_set A B x y j z hz with ⟨rfl, rfl⟩ | ⟨e1, e2⟩
  · rw [up_same]
  · rw [up_j e1, h4 j z e2]
def RLn (r : Nat) (b : Nat → Int) (n : Nat) (σ0 : TM) (C : List Int) (X : Option (Option TV × TM)) : Nat ⊕ (Nat × List Int × ((Nat → Int) → Bool) × ((Nat → Int) → Int)) → Prop
  | .inl e => ∃ σ', Fr r σ0 σ' ∧ σ' 23 0 2 = (e : Int) ∧ X = some (some (vi 0), σ')
  | .inr (q', c, _, _) => ∃ σ', Fr r σ0 σ' ∧ St r b n σ' q' (C ++ c) ∧ X = some (some (vi 1), σ')
theorem c_line (hn : n ≤ 160) (hb : ∀ i, i < n → 0 ≤ b i ∧ b i ≤ 255) {q : Nat} {C : List Int} {σ : TM} (hs : St r b n σ q C) (hC : C.length ≤ q) (hq : q ≤ n) : RLn r b n σ C (t_run tbl mtb (d + 67) 38 [vh 23 0, vh 46 r] σ) (p_ln b n C.length q) := by
  have i1 := c_ps (d := d) hn hb 60 0 0 q C σ (by omega) (by omega) (by omega) hs hC hq
  have hl1 := fun q s => p_s_len (b := b) (n := n) (f := 60) (lvl := 0) (o := 0) (q := q) (s := s) (by omega) (by omega)
  have hl1a := hl1 q
  rw [show d + 67 = d + 60 + 6 + 1 by omega, run_go (k := 38) (as := [vh 23 0, vh 46 r]) mt_38 (Nat.ne_of_beq_eq_false rfl) rfl (s_kX9_line_0 _ r σ)]
  unfold p_ln
  cases hp : p_s b n 60 0 0 q with
  | inl e =>
    rw [hp] at i1
    obtain ⟨σ', a1, a2, a3⟩ := i1
    have a3 : t_run tbl mtb (d + 60 + 6) 39 [vh 23 0, vh 46 r, vi 0] σ = some (some (vi 0), σ') := a3
    rw [ci_of a3]
    exact ⟨σ', a1, a2, rfl⟩
  | inr s =>
    obtain ⟨q', c, v⟩ := s
    have hl1a := hl1a _ hq hp
    rw [hp] at i1
    obtain ⟨σ', a1, a2, a3⟩ := i1
    have a3 : t_run tbl mtb (d + 60 + 6) 39 [vh 23 0, vh 46 r, vi 0] σ = some (some (vi 1), σ') := a3
    simp only [] at hl1a
    rw [ci_of a3, if_neg (by decide), ci_of (c_next (d := d + 65) a2 hn)]
    simp only []
    by_cases h63 : p_at b n q' = 63
    · have hlq : q' < n := p_at_lt (b := b) (by omega)
      rw [if_pos h63, if_pos h63]
      have hpl := a2.place (v := w32 (σ' 23 0 2 + 1)) (q' := q' + 1) (by rw [a2.2.1, w32_nat (by omega)])
      have hfr : Fr r σ (t_upd σ' 23 0 2 (w32 (σ' 23 0 2 + 1))) := a1.up (.inl ⟨rfl, rfl⟩)
      obtain ⟨σ2, e1, e2, e3⟩ := c_add27 (d := d + 65) hpl (by rw [List.length_append]; omega) 30000
      have i2 := c_ps (d := d) hn hb 60 0 0 (q' + 1) (C ++ c ++ [30000]) σ2 (by omega) (by omega) (by omega) e2 (by rw [List.length_append, List.length_append, List.length_singleton]; omega) hlq
      have hl2 := hl1 (q' + 1)
      rw [cv_of e1, hpl.2.2.1]
      cases hp2 : p_s b n 60 0 0 (q' + 1) with
      | inl e =>
        rw [hp2] at i2
        obtain ⟨σ3, z1, z2, z3⟩ := i2
        have z3 : t_run tbl mtb (d + 60 + 6) 39 [vh 23 0, vh 46 r, vi 0] σ2 = some (some (vi 0), σ3) := z3
        rw [ci_of z3]
        exact ⟨σ3, (hfr.tr e3).tr z1, z2, rfl⟩
      | inr s =>
        obtain ⟨q2, c2, v2⟩ := s
        have hl2 := hl2 _ hlq hp2
        rw [hp2] at i2
        obtain ⟨σ3, z1, z2, z3⟩ := i2
        have z3 : t_run tbl mtb (d + 60 + 6) 39 [vh 23 0, vh 46 r, vi 0] σ2 = some (some (vi 1), σ3) := z3
        simp only [] at hl2
        obtain ⟨σ4, k1, k2, k3⟩ := c_add27 (d := d + 65) z2 (by simp only [List.length_append, List.length_singleton]; omega) 40000
        have hlen : (C ++ c).length < 161 := by rw [List.length_append]; omega
        have e5 : (C ++ c ++ [30000] ++ c2 ++ [40000]) = (C ++ c) ++ 30000 :: (c2 ++ [40000]) := by simp
        rw [e5] at k2
        have k4 : σ4 46 r 4 = ((C.length + c.length + c2.length + 2 : Nat) : Int) := by
          rw [k2.2.2.1]
          simp only [List.length_append, List.length_cons, List.length_nil]
          omega
        rw [ci_of z3, if_neg (by decide), cv_of k1, if_pos (by omega), if_pos (by omega), Int.toNat_natCast, k4, w32_id (by omega) (by omega)]
        refine ⟨_, (((hfr.tr e3).tr z1).tr k3).up (.inr (.inr ⟨rfl, rfl⟩)), ?_, rfl⟩
        have := k2.set (y := 30000 + ((C.length + c.length + c2.length + 2 : Nat) : Int))
        rw [← List.append_assoc]
        exact this
    · rw [if_neg h63, if_neg h63]
      obtain ⟨σ2, e1, e2, e3⟩ := c_add27 (d := d + 65) a2 (by rw [List.length_append]; omega) 40000
      rw [cv_of e1]
      rw [List.append_assoc] at e2
      exact ⟨σ2, a1.tr e3, e2, rfl⟩
def RT (r : Nat) (b : Nat → Int) (n : Nat) (σ0 : TM) (C : List Int) (X : Option (Option TV × TM)) : Nat ⊕ (List Int × ((Nat → Int) → Int)) → Prop
  | .inl e => ∃ σ', Fr r σ0 σ' ∧ X = some (some (vi (e : Int)), σ')
  | .inr (c, _) => ∃ σ', Fr r σ0 σ' ∧ (∃ q, St r b n σ' q (C ++ c)) ∧ X = some (some (vi (-1)), σ')
theorem c_compile (hn : n ≤ 160) (hb : ∀ i, i < n → 0 ≤ b i ∧ b i ≤ 255) {σ : TM} (h0 : σ 23 0 0 = n) (h5 : ∀ i, i < n → σ 24 0 i = b i) (h6 : σ 119 0 1 = 0) (h7 : ∀ j, j < 11 → σ 120 0 j = strB j) : RT r b n σ [] (t_run tbl mtb (d + 68) 37 [vh 23 0, vh 46 r] σ) (p_tx b n 161 0 0) := by
  have L : ∀ (f q lines : Nat) (C : List Int) (σ0 σ1 : TM) (N : Nat), lines + f = 161 → f < N → Fr r σ0 σ1 → St r b n σ1 q C → C.length ≤ q → q ≤ n → RT r b n σ0 C (t_out (t_tr tbl mtb (t_run tbl mtb (d + 67)) 37 N 12 [some (vh 23 0), some (vh 46 r), some (vi (lines : Int))] [] σ1)) (p_tx b n f C.length q) := by
    intro f
    induction f with
    | zero =>
      intro q lines C σ0 σ1 N hl hN hf hs hC hq
      rw [show N = N - 1 + 1 by omega, tr_step (s_kX9_compile_12 _ r lines σ1), if_pos (by omega), hs.2.1]
      exact ⟨σ1, hf, rfl⟩
    | succ f ih =>
      intro q lines C σ0 σ1 N hl hN hf hs hC hq
      have i1 := c_line (d := d) hn hb hs hC hq
      rw [show N = N - 1 + 1 by omega, tr_step (s_kX9_compile_12 _ r lines σ1), if_neg (by omega)]
      unfold p_tx
      cases hp : p_ln b n C.length q with
      | inl e =>
        rw [hp] at i1
        obtain ⟨σ', a1, a2, a3⟩ := i1
        rw [ci_of a3, if_pos rfl, a2]
        exact ⟨σ', hf.tr a1, rfl⟩
      | inr s =>
        obtain ⟨q', c, h, v⟩ := s
        rw [hp] at i1
        obtain ⟨σ', a1, a2, a3⟩ := i1
        obtain ⟨l1, l2, l3, -⟩ := p_ln_ok hq hp
        rw [ci_of a3, if_neg (by decide), a2.2.1, a2.1]
        simp only []
        by_cases hnq : n ≤ q'
        · rw [if_pos hnq, if_neg (by omega)]
          exact ⟨σ', hf.tr a1, ⟨q', a2⟩, rfl⟩
        · rw [if_neg hnq, if_pos (by omega), ci_of (c_next (d := d + 66) a2 hn)]
          by_cases h59 : p_at b n q' = 59
          · rw [if_pos h59, if_pos h59, a2.2.1, w32_nat (by omega), w32_nat (by omega), nx_inl]
            have i2 := ih (q' + 1) (lines + 1) (C ++ c) σ0 (t_upd σ' 23 0 2 ((q' + 1 : Nat) : Int)) (N - 1) (by omega) (by omega) ((hf.tr a1).up (.inl ⟨rfl, rfl⟩)) (a2.place rfl) (by rw [List.length_append]; omega) (by omega)
            rw [List.length_append] at i2
            cases hp2 : p_tx b n f (C.length + c.length) (q' + 1) with
            | inl e =>
              rw [hp2] at i2
              exact i2
            | inr s =>
              obtain ⟨c2, v2⟩ := s
              rw [hp2] at i2
              obtain ⟨σ2, z1, ⟨qq, z2⟩, z3⟩ := i2
              rw [List.append_assoc] at z2
              exact ⟨σ2, z1, ⟨qq, z2⟩, z3⟩
          · rw [if_neg h59, if_neg h59, a2.2.1]
            exact ⟨σ', hf.tr a1, rfl⟩
  rw [run_go (k := 37) (as := [vh 23 0, vh 46 r]) mt_37 (Nat.ne_of_beq_eq_false rfl) rfl (s_kX9_compile_0 _ r σ), nx_inl]
  exact L 161 0 0 [] σ (t_upd (t_upd σ 46 r 4 0) 23 0 2 0) 999999 rfl (by decide) ((Fr.rf.up (.inr (.inl ⟨rfl, rfl, rfl⟩))).up (.inl ⟨rfl, rfl⟩)) ⟨by rw [up_j (by decide), up_k (by decide), h0], up_same, by rw [up_k (by decide), up_same]; rfl, fun j x hx => (by cases hx), fun i hi => by rw [up_k (by decide), up_k (by decide), h5 i hi], by rw [up_k (by decide), up_k (by decide), h6], fun j hj => by rw [up_k (by decide), up_k (by decide), h7 j hj]⟩ (by simp) (by omega)
end
