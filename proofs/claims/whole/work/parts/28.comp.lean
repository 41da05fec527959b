-- the class's reader of texts: what compile() lays down is what the reader says
def Fr (r : Nat) (σ0 σ : TM) : Prop := ∀ k i j, ¬(k = 23 ∧ j = 2) → ¬(k = 46 ∧ i = r ∧ j = 4) → ¬(k = 47 ∧ i = r) → σ k i j = σ0 k i j
theorem Fr.rf {r : Nat} {σ : TM} : Fr r σ σ := fun _ _ _ _ _ _ => rfl
theorem Fr.tr {r : Nat} {σ σ1 σ2 : TM} (h : Fr r σ σ1) (h2 : Fr r σ1 σ2) : Fr r σ σ2 := fun k i j a b c => (h2 k i j a b c).trans (h k i j a b c)
theorem Fr.up {r : Nat} {σ σ1 : TM} (h : Fr r σ σ1) {k i j : Nat} {v : Int} (q : (k = 23 ∧ j = 2) ∨ (k = 46 ∧ i = r ∧ j = 4) ∨ (k = 47 ∧ i = r)) : Fr r σ (t_upd σ1 k i j v) := fun a b c x y z => by
  rw [t_upd_eq, if_neg (by rintro ⟨rfl, rfl, rfl⟩; rcases q with q | q | q; exact x q; exact y q; exact z q)]
  exact h a b c x y z
def St (r : Nat) (b : Nat → Int) (n : Nat) (σ : TM) (q : Nat) (C : List Int) : Prop := σ 23 0 0 = n ∧ σ 23 0 2 = q ∧ σ 46 r 4 = C.length ∧ (∀ j x, t_nth C j = some x → σ 47 r j = x) ∧ (∀ i, i < n → σ 24 0 i = b i) ∧ σ 119 0 1 = 0 ∧ ∀ j, j < 11 → σ 120 0 j = strB j
theorem t_nth_ltl {α : Type} : ∀ (l : List α) (j : Nat) (x : α), t_nth l j = some x → j < l.length
  | [], _, _, h => by cases h
  | a :: l, 0, x, h => Nat.succ_pos _
  | a :: l, j + 1, x, h => Nat.succ_lt_succ (t_nth_ltl l j x h)
theorem t_nth_snoc {α : Type} : ∀ (l : List α) (y : α) (j : Nat) (x : α), t_nth (l ++ [y]) j = some x → t_nth l j = some x ∨ j = l.length ∧ x = y
  | [], y, 0, x, h => by cases h; exact .inr ⟨rfl, rfl⟩
  | [], y, j + 1, x, h => by cases h
  | a :: l, y, 0, x, h => .inl h
  | a :: l, y, j + 1, x, h => by
    rcases t_nth_snoc l y j x h with q | ⟨q, e⟩
    · exact .inl q
    · exact .inr ⟨by rw [q]; rfl, e⟩
section
variable {r n q d : Nat} {b : Nat → Int} {σ : TM} {C : List Int}
theorem St.place (h : St r b n σ q C) {v : Int} {q' : Nat} (e : v = q') : St r b n (t_upd σ 23 0 2 v) q' C := by
  obtain ⟨h1, h2, h3, h4, h5, h6, h7⟩ := h
  refine ⟨by rw [up_j (by decide), h1], by rw [up_same, e], by rw [up_k (by decide), h3], fun j x hx => by rw [up_k (by decide), h4 j x hx], fun i hi => by rw [up_k (by decide), h5 i hi], by rw [up_k (by decide), h6], fun j hj => by rw [up_k (by decide), h7 j hj]⟩
theorem c_next (h : St r b n σ q C) (hn : n ≤ 160) : t_run tbl mtb (d + 1) 36 [vh 23 0] σ = some (some (vi (p_at b n q)), σ) := by
  obtain ⟨h1, h2, h3, h4, h5, h6, h7⟩ := h
  rw [run_go (k := 36) (as := [vh 23 0]) mt_36 (Nat.ne_of_beq_eq_false rfl) rfl (s_kX9_next_0 _ σ), h1, h2, Int.toNat_natCast]
  unfold p_at
  by_cases hq : q < n
  · rw [if_pos (by omega), if_pos (by omega), if_pos (by omega), if_pos hq, h5 q hq]
    rfl
  · rw [if_neg (by omega), if_neg hq]
    rfl
theorem c_add27 (h : St r b n σ q C) (hC : C.length < 161) (x : Int) : ∃ σ', t_run tbl mtb (d + 1) 27 [vh 46 r, vi x] σ = some (none, σ') ∧ St r b n σ' q (C ++ [x]) ∧ Fr r σ σ' := by
  obtain ⟨h1, h2, h3, h4, h5, h6, h7⟩ := h
  refine ⟨t_upd (t_upd σ 47 r C.length x) 46 r 4 ((C.length + 1 : Nat) : Int), ?_, ⟨?_, ?_, ?_, ?_, ?_, ?_, ?_⟩, ?_⟩
  · rw [run_go (k := 27) (as := [vh 46 r, vi x]) mt_27 (Nat.ne_of_beq_eq_false rfl) rfl (s_kX7_add_0 _ r x σ), h3, if_pos (by omega), if_pos (by omega), Int.toNat_natCast, up_k (by decide), h3, w32_nat (by omega)]
    rfl
  · rw [up_k (by decide), up_k (by decide), h1]
  · rw [up_k (by decide), up_k (by decide), h2]
  · rw [up_same, List.length_append, List.length_singleton]
  · intro j y hy
    rw [up_k (by decide)]
    rcases t_nth_snoc C x j y hy with e | ⟨rfl, rfl⟩
    · have := t_nth_ltl C j y e
      rw [up_j (by omega), h4 j y e]
    · rw [up_same]
  · intro i hi
    rw [up_k (by decide), up_k (by decide), h5 i hi]
  · rw [up_k (by decide), up_k (by decide), h6]
  · intro j hj
    rw [up_k (by decide), up_k (by decide), h7 j hj]
  · exact (Fr.rf.up (.inr (.inr ⟨rfl, rfl⟩))).up (.inr (.inl ⟨rfl, rfl, rfl⟩))
end
-- names
theorem i_b_n : ∀ k : Nat, k < 256 → (Int32.ofInt (k : Int)).toInt8.toInt = if k < 128 then (k : Int) else (k : Int) - 256 := by decide +kernel
theorem i_c_n : ∀ k : Nat, k < 256 → (((Int32.ofInt (k : Int)).toUInt32 % 65536).toInt32).toInt = (k : Int) := by decide +kernel
theorem i_b_ok {x : Int} (h : 0 ≤ x) (h2 : x ≤ 255) : i_b x = if x < 128 then x else x - 256 := by
  have := i_b_n x.toNat (by omega)
  rw [Int.toNat_of_nonneg h] at this
  rw [i_b_eq, this]
  split <;> split <;> omega
theorem i_c_ok {x : Int} (h : 0 ≤ x) (h2 : x ≤ 255) : i_c x = x := by
  have := i_c_n x.toNat (by omega)
  rw [Int.toNat_of_nonneg h] at this
  rw [i_c_eq, this]
theorem i_shr_11 : i_shr 11 0 = 11 := by
  rw [i_shr_eq]
  decide +kernel
theorem strB_nm : ∀ j : Nat, j < 11 → t_nth p_nmL j = some (strB j) ∧ 0 ≤ strB j ∧ strB j < 128 := by decide +kernel
section
variable {σ : TM} {d : Nat}
theorem j_indexOfChar (h7 : ∀ j, j < 11 → σ 120 0 j = strB j) {x : Int} (hx : 0 ≤ x) (hx2 : x ≤ 255) : t_run tbl mtb (d + 1) 260 [vh 120 0, vi x, vi 0, vi 11] σ = some (some (vi (p_nm x)), σ) := by
  rw [run_go (k := 260) (as := [vh 120 0, vi x, vi 0, vi 11]) mt_260 (Nat.ne_of_beq_eq_false rfl) rfl (s_kJ1_indexOfChar_0 _ x 0 11 σ), nx_inl, i_b_ok hx hx2]
  refine loop_fin (R := fun r => r = (some (vi (p_nm x)), σ)) (fun x h => h) (loop_ex (fun p L σ' => σ' = σ ∧ L = [some (vh 120 0), none, none, some (vi 11), some (vi (if x < 128 then x else x - 256)), some (vi (p : Int))] ∧ p_nm x = fF (fun k => decide (t_nth p_nmL k = some x)) (11 - p) p) _ 11 ?_ ?_ 11 0 _ _ 999999 (by omega) ⟨rfl, rfl, rfl⟩ (by omega))
  · rintro p L s hp ⟨rfl, rfl, hf⟩
    rw [show 11 - p = 11 - (p + 1) + 1 by omega] at hf
    obtain ⟨n1, n2, n3⟩ := strB_nm p hp
    have hst : ∀ n, t_tr tbl mtb (t_run tbl mtb d) 260 (n + 1) 7 [some (vh 120 0), none, none, some (vi 11), some (vi (if x < 128 then x else x - 256)), some (vi (p : Int))] [] s = if strB p = x then some (.inr (some (vi p), s)) else t_tr tbl mtb (t_run tbl mtb d) 260 n 7 [some (vh 120 0), none, none, some (vi 11), some (vi (if x < 128 then x else x - 256)), some (vi ((p + 1 : Nat) : Int))] [] s := by
      intro n
      rw [tr_step (s_kJ1_indexOfChar_7 _ 11 _ p s), Int.toNat_natCast, h7 p hp, if_pos (by omega), if_pos (by omega), w32_nat (by omega)]
      by_cases e : strB p = x
      · rw [if_pos e, if_pos (by split <;> omega)]
        rfl
      · rw [if_neg e, if_neg (by split <;> omega)]
        rfl
    rw [fF, n1] at hf
    by_cases e : strB p = x
    · rw [if_pos (by simp [e])] at hf
      exact .inr ⟨_, by rw [hf], fun n => by rw [hst, if_pos e]⟩
    · rw [if_neg (by simp [e])] at hf
      exact .inl ⟨_, _, ⟨rfl, rfl, hf⟩, fun n => by rw [hst, if_neg e]⟩
  · rintro L s ⟨rfl, rfl, hf⟩
    exact ⟨_, by rw [hf], fun n => by rw [tr_step (s_kJ1_indexOfChar_7 _ 11 _ ((11 : Nat) : Int) s), if_neg (by omega)]; rfl⟩
theorem j_indexOf (h6 : σ 119 0 1 = 0) (h7 : ∀ j, j < 11 → σ 120 0 j = strB j) {x : Int} (hx : 0 ≤ x) (hx2 : x ≤ 255) : t_run tbl mtb (d + 4) 253 [vh 119 0, vi x] σ = some (some (vi (p_nm x)), σ) := by
  have a1 : t_run tbl mtb (d + 2) 255 [vh 119 0] σ = some (some (vi 1), σ) := by
    rw [run_go (k := 255) (as := [vh 119 0]) mt_255 (Nat.ne_of_beq_eq_false rfl) rfl (s_kJ0_isLatin1_0 _ σ), h6, if_pos rfl]
    rfl
  have a2 : t_run tbl mtb (d + 1) 257 [vh 119 0] σ = some (some (vi 0), σ) := by
    rw [run_go (k := 257) (as := [vh 119 0]) mt_257 (Nat.ne_of_beq_eq_false rfl) rfl (s_kJ0_coder_0 _ σ), h6, if_pos (by decide)]
    rfl
  have a3 : t_run tbl mtb (d + 2) 256 [vh 119 0] σ = some (some (vi 11), σ) := by
    rw [run_go (k := 256) (as := [vh 119 0]) mt_256 (Nat.ne_of_beq_eq_false rfl) rfl (s_kJ0_length_0 _ σ), ci_of a2, i_shr_11]
    rfl
  have a4 : t_run tbl mtb (d + 1) 258 [vi x] σ = some (some (vi 1), σ) := by
    rw [run_go (k := 258) (as := [vi x]) mt_258 (Nat.ne_of_beq_eq_false rfl) rfl (s_kJ1_canEncode_0 _ x σ), if_neg (by omega), if_neg (by omega)]
    rfl
  have a5 : t_run tbl mtb (d + 2) 259 [vh 120 0, vi x, vi 0, vi 11] σ = some (some (vi (p_nm x)), σ) := by
    rw [run_go (k := 259) (as := [vh 120 0, vi x, vi 0, vi 11]) mt_259 (Nat.ne_of_beq_eq_false rfl) rfl (s_kJ1_indexOf_0 _ x 0 11 σ), ci_of a4, if_neg (by decide), ci_of (j_max 0 0), ci_of (j_min 11 11), if_neg (show ¬ (0 : Int) < 0 by decide), if_neg (show ¬ (11 : Int) < 11 by decide), if_pos (by decide), ci_of (j_indexOfChar h7 hx hx2)]
    rfl
  have a6 : t_run tbl mtb (d + 3) 254 [vh 119 0, vi x, vi 0] σ = some (some (vi (p_nm x)), σ) := by
    rw [run_go (k := 254) (as := [vh 119 0, vi x, vi 0]) mt_254 (Nat.ne_of_beq_eq_false rfl) rfl (s_kJ0_indexOf_2_0 _ x 0 σ), ci_of a1, if_neg (by decide), ci_of a3, ci_of a5]
    rfl
  rw [run_go (k := 253) (as := [vh 119 0, vi x]) mt_253 (Nat.ne_of_beq_eq_false rfl) rfl (s_kJ0_indexOf_0 _ x σ), ci_of a6]
  rfl
end
/-- a level's run against what the reader says -/
def RR (r : Nat) (b : Nat → Int) (n : Nat) (σ0 : TM) (C : List Int) (X : Option (Option TV × TM)) : PR → Prop
  | .inl e => ∃ σ', Fr r σ0 σ' ∧ σ' 23 0 2 = (e : Int) ∧ X = some (some (vi 0), σ')
  | .inr (q', c, _) => ∃ σ', Fr r σ0 σ' ∧ St r b n σ' q' (C ++ c) ∧ X = some (some (vi 1), σ')
theorem RR.fr {r n : Nat} {b : Nat → Int} {σ0 σ1 : TM} {C : List Int} {X : Option (Option TV × TM)} (h : Fr r σ0 σ1) : ∀ {z : PR}, RR r b n σ1 C X z → RR r b n σ0 C X z
  | .inl e, ⟨σ', h1, h2⟩ => ⟨σ', h.tr h1, h2⟩
  | .inr (q', c, v), ⟨σ', h1, h2⟩ => ⟨σ', h.tr h1, h2⟩
section
variable {r n d : Nat} {b : Nat → Int}
theorem c_number (hn : n ≤ 160) {σ : TM} {q : Nat} {C : List Int} (h : St r b n σ q C) (hb : ∀ i, i < n → 0 ≤ b i ∧ b i ≤ 255) (hC : C.length < 161) (hq : q ≤ n) : ∃ σ', Fr r σ σ' ∧ St r b n σ' (p_dg b n 4 q 0).1 (C ++ [(p_dg b n 4 q 0).2]) ∧ t_run tbl mtb (d + 2) 45 [vh 23 0, vh 46 r] σ = some (none, σ') := by
  rw [run_go (k := 45) (as := [vh 23 0, vh 46 r]) mt_45 (Nat.ne_of_beq_eq_false rfl) rfl (s_kX9_number_0 _ r σ), nx_inl]
  have L : ∀ (k q : Nat) (v : Int) (σ1 : TM) (N : Nat), k ≤ 4 → 0 ≤ v → v + 1 ≤ 10 ^ (4 - k) → q ≤ n → St r b n σ1 q C → Fr r σ σ1 → k < N → ∃ σ', Fr r σ σ' ∧ St r b n σ' (p_dg b n k q v).1 (C ++ [(p_dg b n k q v).2]) ∧ t_tr tbl mtb (t_run tbl mtb (d + 1)) 45 N 4 [some (vh 23 0), some (vh 46 r), some (vi v), some (vi ((4 - k : Nat) : Int))] [] σ1 = some (.inr (none, σ')) := by
    intro k
    induction k with
    | zero =>
      intro q v σ1 N _ hv hv2 hq hs hf hN
      obtain ⟨σ2, e1, e2, e3⟩ := c_add27 (d := d) hs hC v
      refine ⟨σ2, hf.tr e3, e2, ?_⟩
      rw [show N = N - 1 + 1 by omega, tr_step (s_kX9_number_4 _ r v ((4 - 0 : Nat) : Int) σ1), if_neg (by omega), cv_of e1]
      rfl
    | succ k ih =>
      intro q v σ1 N hk hv hv2 hq hs hf hN
      have en := c_next (d := d) hs hn
      unfold p_dg
      by_cases hd : 48 ≤ p_at b n q ∧ p_at b n q ≤ 57
      · have hl : q < n := p_at_lt (b := b) (by omega)
        have e10 : (10 : Int) ^ (4 - k) = 10 ^ (4 - (k + 1)) * 10 := by rw [show 4 - k = 4 - (k + 1) + 1 by omega, Int.pow_succ]
        have e11 : (10 : Int) ^ (4 - (k + 1)) ≤ 1000 := by
          rcases (by omega : k = 0 ∨ k = 1 ∨ k = 2 ∨ k = 3) with rfl | rfl | rfl | rfl <;> decide
        obtain ⟨σ', g1, g2, g3⟩ := ih (q + 1) (10 * v + p_at b n q - 48) (t_upd σ1 23 0 2 ((q + 1 : Nat) : Int)) (N - 1) (by omega) (by omega) (by rw [e10]; omega) hl (hs.place rfl) (hf.up (.inl ⟨rfl, rfl⟩)) (by omega)
        refine ⟨σ', g1, ?_, ?_⟩
        · rw [if_pos hd]
          exact g2
        · rw [show N = N - 1 + 1 by omega, tr_step (s_kX9_number_4 _ r v ((4 - (k + 1) : Nat) : Int) σ1), if_pos (by omega), ci_of en, if_neg (by omega), ci_of en, if_neg (by omega), ci_of en, hs.2.1, w32_nat (by omega), w32_nat (by omega), w32_id (x := 10 * v) (by omega) (by omega), w32_id (x := 10 * v + p_at b n q) (by omega) (by omega), w32_id (x := 10 * v + p_at b n q - 48) (by omega) (by omega), nx_inl, show 4 - (k + 1) + 1 = 4 - k by omega]
          exact g3
      · obtain ⟨σ2, e1, e2, e3⟩ := c_add27 (d := d) hs hC v
        refine ⟨σ2, hf.tr e3, ?_, ?_⟩
        · rw [if_neg hd]
          exact e2
        · rw [show N = N - 1 + 1 by omega, tr_step (s_kX9_number_4 _ r v ((4 - (k + 1) : Nat) : Int) σ1), if_pos (by omega), ci_of en]
          split
          · rw [cv_of e1]
            rfl
          · rw [ci_of en, if_pos (by omega), cv_of e1]
            rfl
  obtain ⟨σ', h1, h2, h3⟩ := L 4 q 0 σ 999999 (by omega) (by decide) (by decide) hq h Fr.rf (by decide)
  refine ⟨σ', h1, h2, ?_⟩
  have h3 : t_tr tbl mtb (t_run tbl mtb (d + 1)) 45 999999 4 [some (vh 23 0), some (vh 46 r), some (vi 0), some (vi 0)] [] σ = some (.inr (none, σ')) := h3
  rw [h3]
  rfl
theorem c_name (hn : n ≤ 160) {σ : TM} {q : Nat} {C : List Int} (h : St r b n σ q C) (hb : ∀ i, i < n → 0 ≤ b i ∧ b i ≤ 255) (hC : C.length < 161) (hq : q ≤ n) : RR r b n σ C (t_run tbl mtb (d + 5) 46 [vh 23 0, vh 46 r, vi (p_at b n q)] σ) (if p_nm (p_at b n q) < 0 then .inl q else .inr (q + 1, [10000 + p_nm (p_at b n q)], fun N => N (p_nm (p_at b n q)).toNat)) := by
  rw [run_go (k := 46) (as := [vh 23 0, vh 46 r, vi (p_at b n q)]) mt_46 (Nat.ne_of_beq_eq_false rfl) rfl (s_kX9_name_0 _ r (p_at b n q) σ)]
  by_cases hx : p_at b n q < 0
  · have e : p_at b n q = -1 := by
      unfold p_at at hx ⊢
      split at hx
      · next hl => have := hb q hl; omega
      · next hl => rw [if_neg hl]
    rw [if_pos hx, e, if_pos (by decide)]
    exact ⟨σ, Fr.rf, h.2.1, rfl⟩
  · have hl : q < n := p_at_lt (b := b) (by omega)
    have hb := hb q hl
    have e : p_at b n q = b q := by unfold p_at; rw [if_pos hl]
    rw [if_neg hx, i_c_ok (by omega) (by omega), ci_of (j_indexOf h.2.2.2.2.2.1 h.2.2.2.2.2.2 (by omega) (by omega))]
    split
    · next hk =>
      exact ⟨σ, Fr.rf, h.2.1, rfl⟩
    · next hk =>
      have hk2 := p_nm_ok (p_at b n q)
      obtain ⟨σ2, e1, e2, e3⟩ := c_add27 (d := d + 3) h hC (10000 + p_nm (p_at b n q))
      rw [w32_id (by omega) (by omega), cv_of e1, e2.2.1, w32_nat (by omega)]
      exact ⟨_, e3.up (.inl ⟨rfl, rfl⟩), e2.place rfl, rfl⟩
end
