-- the levels of the reference's reader
def rk (lvl : Nat) : Nat := match lvl with
  | 0 => 164
  | 1 => 165
  | 2 => 166
  | 3 => 167
  | 4 => 168
  | _ => 170
section
variable {n d : Nat} {b N : Nat → Int}
theorem r_fail {o q : Nat} {σ : TM} (hb : ∀ i, i < n → 0 ≤ b i ∧ b i ≤ 255) (hs : Sr b n N σ q o) (hq : q ≤ n) (hd : ¬(48 ≤ p_at b n q ∧ p_at b n q ≤ 57)) (M : Nat) : t_tr tbl mtb (t_run tbl mtb (d + 1)) 170 (M + 1) 176 [some (vh 51 0), none, none, some (vi 0), some (vi 0)] [] σ = some (.inr (some (vi 0), t_upd σ 51 0 53 (q : Int))) := by
  have en := r_byteAt (d := d) hq hs.2.1 hs.2.2.1 hs.2.2.2.2.1
  have ep := r_at_p hb q
  have ew := r_wrong (d := d) (σ := σ) (by have := hs.1; omega) hs.2.1
  rw [tr_step (s_kX12_one_176 _ 0 0 σ), if_pos (by decide), ci_of en]
  split
  · rw [if_pos rfl, ci_of ew]
    rfl
  · rw [ci_of en, if_pos (by omega), if_pos rfl, ci_of ew]
    rfl
def PSH (b : Nat → Int) (n d : Nat) (N : Nat → Int) (f : Nat) : Prop := ∀ (lvl o q : Nat) (σ : TM), lvl ≤ 5 → o ≤ 8 → 6 * (8 - o) + 6 - lvl ≤ f → Sr b n N σ q o → q ≤ n → RQ b n N σ o (t_run tbl mtb (d + f + 4) (rk lvl) [vh 51 0] σ) (p_s b n f lvl o q)
set_option maxHeartbeats 16000000 in
theorem r_lv2 (hn : n ≤ 160) (hb : ∀ i, i < n → 0 ≤ b i ∧ b i ≤ 255) (f o q : Nat) (σ : TM) (ih0 : PSH b n d N f) (ho : o ≤ 8) (hf : 6 * (8 - o) + 6 - 2 ≤ f + 1) (hs : Sr b n N σ q o) (hq : q ≤ n) : RQ b n N σ o (t_run tbl mtb (d + f + 4 + 1) (rk 2) [vh 51 0] σ) (p_s b n (f + 1) 2 o q) := by
    have ih := fun q σ => ih0 3 o q σ (by omega) ho (by omega)
    have i1 := ih q σ hs hq
    have hl1 := fun q s => p_s_len (b := b) (n := n) (f := f) (lvl := 3) (o := o) (q := q) (s := s) (by omega) (by omega)
    show RQ b n N σ o (t_run tbl mtb (d + f + 4 + 1) 166 [vh 51 0] σ) (p_s b n (f + 1) 2 o q)
    rw [run_go (k := 166) (as := [vh 51 0]) mt_166 (Nat.ne_of_beq_eq_false rfl) rfl (s_kX12_compared_0 _ σ)]
    simp only [p_s]
    have hl1a := hl1 q
    cases hp : p_s b n f 3 o q with
    | inl e =>
      rw [hp] at i1
      obtain ⟨σ2, x, a1, a2, ⟨z, a3, a4⟩, a5⟩ := i1
      have a5 : t_run tbl mtb (d + f + 4) 167 [vh 51 0] σ = some (some (vi x), σ2) := a5
      rw [ci_of a5, ci_of (r_byteAt (d := d + f + 3) a3 a4 (by rw [a1 51 0 52 rfl, hs.2.2.1]) (hs.2.2.2.2.1.sc a1)), if_neg (by omega)]
      exact ⟨σ2, x, a1, a2, ⟨z, a3, a4⟩, rfl⟩
    | inr s =>
      obtain ⟨q', c, v⟩ := s
      have hl1a := hl1a _ hq hp
      rw [hp] at i1
      obtain ⟨σ2, a1, a2, a3⟩ := i1
      have a3 : t_run tbl mtb (d + f + 4) 167 [vh 51 0] σ = some (some (vi (v N)), σ2) := a3
      simp only [] at hl1a ⊢
      have ep := r_at_p hb q'
      rw [ci_of a3, ci_of (r_byteAt (d := d + f + 3) hl1a.2 a2.2.1 a2.2.2.1 a2.2.2.2.2.1), if_pos (by have := a2.1; omega)]
      cases hop : p_op 2 (p_at b n q') with
      | true =>
        have hop2 := hop
        simp only [p_op, decide_eq_true_eq] at hop2
        have hlq : q' < n := p_at_lt (b := b) (by omega)
        have hpl := a2.mv (v := w32 (σ2 51 0 51 + 1)) (q' := q' + 1) (by rw [a2.2.1, w32_nat (by omega)])
        have i2 := ih (q' + 1) _ hpl hlq
        have er : r_at b n q' = p_at b n q' := by omega
        rw [er]
        simp only [if_true]
        cases hp2 : p_s b n f 3 o (q' + 1) with
        | inl e =>
          rw [hp2] at i2
          obtain ⟨σ3, x, z1, z2, z3, z5⟩ := i2
          have z5 : t_run tbl mtb (d + f + 4) 167 [vh 51 0] (t_upd σ2 51 0 51 (w32 (σ2 51 0 51 + 1))) = some (some (vi x), σ3) := z5
          simp only [z5, ci_ok]
          have fin : ∀ y, RQ b n N σ o (t_out (t_nx (t_run tbl mtb (d + f + 4)) 166 999999 (some (.inr (some (vi y), σ3))))) (.inl e) := fun y => ⟨σ3, _, (a1.up rfl).tr z1, z2, z3, rfl⟩
          rcases hop2 with e1 | e1 | e1
          · simp only [if_pos e1]
            split <;> exact fin _
          · have h60 : ¬ p_at b n q' = 60 := by omega
            simp only [if_neg h60, if_pos e1]
            split <;> exact fin _
          · have h60 : ¬ p_at b n q' = 60 := by omega
            have h61 : ¬ p_at b n q' = 61 := by omega
            simp only [if_neg h60, if_neg h61, if_pos e1]
            split <;> exact fin _
        | inr s =>
          obtain ⟨q2, c2, v2⟩ := s
          rw [hp2] at i2
          obtain ⟨σ3, z1, z2, z3⟩ := i2
          have z3 : t_run tbl mtb (d + f + 4) 167 [vh 51 0] (t_upd σ2 51 0 51 (w32 (σ2 51 0 51 + 1))) = some (some (vi (v2 N)), σ3) := z3
          simp only [z3, ci_ok]
          have fin : ∀ y, y = p_jn (p_at b n q') (v N) (v2 N) → RQ b n N σ o (t_out (t_nx (t_run tbl mtb (d + f + 4)) 166 999999 (some (.inr (some (vi y), σ3))))) (.inr (q2, c ++ c2 ++ [20000 + p_at b n q'], fun N => p_jn (p_at b n q') (v N) (v2 N))) := fun y hy => ⟨σ3, (a1.up rfl).tr z1, z2, by rw [hy]; rfl⟩
          rcases hop2 with e1 | e1 | e1
          · simp only [if_pos e1]
            split
            · next hlt => exact fin _ (by rw [e1]; simp [p_jn, hlt])
            · next hlt => exact fin _ (by rw [e1]; simp [p_jn, hlt])
          · have h60 : ¬ p_at b n q' = 60 := by omega
            simp only [if_neg h60, if_pos e1]
            split
            · next hlt => exact fin _ (by rw [e1]; simp [p_jn, hlt])
            · next hlt => exact fin _ (by rw [e1]; simp [p_jn, hlt])
          · have h60 : ¬ p_at b n q' = 60 := by omega
            have h61 : ¬ p_at b n q' = 61 := by omega
            simp only [if_neg h60, if_neg h61, if_pos e1]
            split
            · next hlt => exact fin _ (by rw [e1]; simp [p_jn, hlt])
            · next hlt => exact fin _ (by rw [e1]; simp [p_jn, hlt])
      | false =>
        have hop2 := hop
        simp only [p_op, decide_eq_false_iff_not, not_or] at hop2
        rw [if_neg (by omega), if_neg (by omega), if_neg (by omega)]
        exact ⟨σ2, a1, a2, rfl⟩
set_option maxHeartbeats 16000000 in
theorem r_lv0 (hn : n ≤ 160) (hb : ∀ i, i < n → 0 ≤ b i ∧ b i ≤ 255) (f o q : Nat) (σ : TM) (ih0 : PSH b n d N f) (ho : o ≤ 8) (hf : 6 * (8 - o) + 6 - 0 ≤ f + 1) (hs : Sr b n N σ q o) (hq : q ≤ n) : RQ b n N σ o (t_run tbl mtb (d + f + 4 + 1) (rk 0) [vh 51 0] σ) (p_s b n (f + 1) 0 o q) := by
    have ih := fun q σ => ih0 1 o q σ (by omega) ho (by omega)
    have i1 := ih q σ hs hq
    have hl1 := fun q s => p_s_ok b n f 1 o q s (by omega) ho
    have hfl : ∀ (v : Int) (z : Nat) (σ : TM) (M : Nat), 0 ≤ σ 51 0 53 → t_tr tbl mtb (t_run tbl mtb (d + f + 4)) 164 (M + 1) 5 ((fun v _ => [some (vh 51 0), some (vi v), none]) v z) [] σ = some (.inr (some (vi v), σ)) := by
      intro v z σ M h
      rw [tr_step (s_kX12_either_5 _ v σ), ci_of (r_takes_no h), if_pos rfl]
      rfl
    show RQ b n N σ o (t_run tbl mtb (d + f + 4 + 1) 164 [vh 51 0] σ) (p_s b n (f + 1) 0 o q)
    rw [run_go (k := 164) (as := [vh 51 0]) mt_164 (Nat.ne_of_beq_eq_false rfl) rfl (s_kX12_either_0 _ σ)]
    simp only [p_s]
    have hl1a := hl1 q
    cases hp : p_s b n f 1 o q with
    | inl e =>
      rw [hp] at i1
      obtain ⟨σ2, x, a1, a2, ⟨z, a3, a4⟩, a5⟩ := i1
      have a5 : t_run tbl mtb (d + f + 4) 165 [vh 51 0] σ = some (some (vi x), σ2) := a5
      rw [ci_of a5, nx_inl, hfl x z σ2 999998 (by omega)]
      exact ⟨σ2, x, a1, a2, ⟨z, a3, a4⟩, rfl⟩
    | inr s =>
      obtain ⟨q', c, v⟩ := s
      have hl1a := hl1a _ hq hp
      obtain ⟨-, hl2, hl3, -⟩ := hl1a
      rw [hp] at i1
      obtain ⟨σ2, a1, a2, a3⟩ := i1
      have a3 : t_run tbl mtb (d + f + 4) 165 [vh 51 0] σ = some (some (vi (v N)), σ2) := a3
      simp only [] at hl2 hl3
      rw [ci_of a3, nx_inl]
      exact r_lvlLoop (lvl := 0) (sub := 165) (D := d + f + 4) (fun v _ => [some (vh 51 0), some (vi v), none]) (fun q s hq h => (by obtain ⟨-, h2, h3, -⟩ := hl1 q s hq h; exact ⟨by omega, h3⟩)) (fun q σ h1 h2 => ih q σ h1 h2) hfl (by
          intro v q σ M hs hq ho
          simp only [p_op, decide_eq_false_iff_not] at ho
          have et := r_takes (d := d + f + 2) (c := 124) hb hs hq hn (by decide)
          rw [if_neg ho] at et
          rw [tr_step (s_kX12_either_5 _ v σ), ci_of et, if_pos rfl]
          rfl) (by
          intro v q σ x σ2 z M hs hq ho hr hS hz hz2
          simp only [p_op, decide_eq_true_eq] at ho
          have et := r_takes (d := d + f + 2) (c := 124) hb hs (by omega) hn (by decide)
          rw [if_pos ho] at et
          rw [tr_step (s_kX12_either_5 _ v σ), ci_of et, if_neg (by decide), ci_of hr, ho]
          by_cases hv : v = 0
          · rw [if_pos hv]
            by_cases hx : x = 0
            · rw [if_pos hx, nx_inl, show p_jn 124 v x = 0 by simp [p_jn, hv, hx]]
            · rw [if_neg hx, nx_inl, show p_jn 124 v x = 1 by simp [p_jn, hx]]
          · rw [if_neg hv]
            rw [nx_inl, show p_jn 124 v x = 1 by simp [p_jn, hv]]) 160 q' c v σ σ2 999999 a1 a2 hl3 (by omega) (by omega)
set_option maxHeartbeats 16000000 in
theorem r_lv1 (hn : n ≤ 160) (hb : ∀ i, i < n → 0 ≤ b i ∧ b i ≤ 255) (f o q : Nat) (σ : TM) (ih0 : PSH b n d N f) (ho : o ≤ 8) (hf : 6 * (8 - o) + 6 - 1 ≤ f + 1) (hs : Sr b n N σ q o) (hq : q ≤ n) : RQ b n N σ o (t_run tbl mtb (d + f + 4 + 1) (rk 1) [vh 51 0] σ) (p_s b n (f + 1) 1 o q) := by
    have ih := fun q σ => ih0 2 o q σ (by omega) ho (by omega)
    have i1 := ih q σ hs hq
    have hl1 := fun q s => p_s_ok b n f 2 o q s (by omega) ho
    have hfl : ∀ (v : Int) (z : Nat) (σ : TM) (M : Nat), 0 ≤ σ 51 0 53 → t_tr tbl mtb (t_run tbl mtb (d + f + 4)) 165 (M + 1) 5 ((fun v _ => [some (vh 51 0), some (vi v), none]) v z) [] σ = some (.inr (some (vi v), σ)) := by
      intro v z σ M h
      rw [tr_step (s_kX12_both_5 _ v σ), ci_of (r_takes_no h), if_pos rfl]
      rfl
    show RQ b n N σ o (t_run tbl mtb (d + f + 4 + 1) 165 [vh 51 0] σ) (p_s b n (f + 1) 1 o q)
    rw [run_go (k := 165) (as := [vh 51 0]) mt_165 (Nat.ne_of_beq_eq_false rfl) rfl (s_kX12_both_0 _ σ)]
    simp only [p_s]
    have hl1a := hl1 q
    cases hp : p_s b n f 2 o q with
    | inl e =>
      rw [hp] at i1
      obtain ⟨σ2, x, a1, a2, ⟨z, a3, a4⟩, a5⟩ := i1
      have a5 : t_run tbl mtb (d + f + 4) 166 [vh 51 0] σ = some (some (vi x), σ2) := a5
      rw [ci_of a5, nx_inl, hfl x z σ2 999998 (by omega)]
      exact ⟨σ2, x, a1, a2, ⟨z, a3, a4⟩, rfl⟩
    | inr s =>
      obtain ⟨q', c, v⟩ := s
      have hl1a := hl1a _ hq hp
      obtain ⟨-, hl2, hl3, -⟩ := hl1a
      rw [hp] at i1
      obtain ⟨σ2, a1, a2, a3⟩ := i1
      have a3 : t_run tbl mtb (d + f + 4) 166 [vh 51 0] σ = some (some (vi (v N)), σ2) := a3
      simp only [] at hl2 hl3
      rw [ci_of a3, nx_inl]
      exact r_lvlLoop (lvl := 1) (sub := 166) (D := d + f + 4) (fun v _ => [some (vh 51 0), some (vi v), none]) (fun q s hq h => (by obtain ⟨-, h2, h3, -⟩ := hl1 q s hq h; exact ⟨by omega, h3⟩)) (fun q σ h1 h2 => ih q σ h1 h2) hfl (by
          intro v q σ M hs hq ho
          simp only [p_op, decide_eq_false_iff_not] at ho
          have et := r_takes (d := d + f + 2) (c := 38) hb hs hq hn (by decide)
          rw [if_neg ho] at et
          rw [tr_step (s_kX12_both_5 _ v σ), ci_of et, if_pos rfl]
          rfl) (by
          intro v q σ x σ2 z M hs hq ho hr hS hz hz2
          simp only [p_op, decide_eq_true_eq] at ho
          have et := r_takes (d := d + f + 2) (c := 38) hb hs (by omega) hn (by decide)
          rw [if_pos ho] at et
          rw [tr_step (s_kX12_both_5 _ v σ), ci_of et, if_neg (by decide), ci_of hr, ho]
          by_cases hv : v = 0
          · rw [if_pos hv]
            rw [nx_inl, show p_jn 38 v x = 0 by simp [p_jn, hv]]
          · rw [if_neg hv]
            by_cases hx : x = 0
            · rw [if_pos hx, nx_inl, show p_jn 38 v x = 0 by simp [p_jn, hx]]
            · rw [if_neg hx, nx_inl, show p_jn 38 v x = 1 by simp [p_jn, hv, hx]]) 160 q' c v σ σ2 999999 a1 a2 hl3 (by omega) (by omega)
set_option maxHeartbeats 16000000 in
theorem r_lv3 (hn : n ≤ 160) (hb : ∀ i, i < n → 0 ≤ b i ∧ b i ≤ 255) (f o q : Nat) (σ : TM) (ih0 : PSH b n d N f) (ho : o ≤ 8) (hf : 6 * (8 - o) + 6 - 3 ≤ f + 1) (hs : Sr b n N σ q o) (hq : q ≤ n) : RQ b n N σ o (t_run tbl mtb (d + f + 4 + 1) (rk 3) [vh 51 0] σ) (p_s b n (f + 1) 3 o q) := by
    have ih := fun q σ => ih0 4 o q σ (by omega) ho (by omega)
    have i1 := ih q σ hs hq
    have hl1 := fun q s => p_s_ok b n f 4 o q s (by omega) ho
    have hfl : ∀ (v : Int) (z : Nat) (σ : TM) (M : Nat), 0 ≤ σ 51 0 53 → t_tr tbl mtb (t_run tbl mtb (d + f + 4)) 167 (M + 1) 5 ((fun v _ => [some (vh 51 0), some (vi v), none, none]) v z) [] σ = some (.inr (some (vi v), σ)) := by
      intro v z σ M h
      rw [tr_step (s_kX12_sums_5 _ v σ), if_neg (by omega)]
      rfl
    show RQ b n N σ o (t_run tbl mtb (d + f + 4 + 1) 167 [vh 51 0] σ) (p_s b n (f + 1) 3 o q)
    rw [run_go (k := 167) (as := [vh 51 0]) mt_167 (Nat.ne_of_beq_eq_false rfl) rfl (s_kX12_sums_0 _ σ)]
    simp only [p_s]
    have hl1a := hl1 q
    cases hp : p_s b n f 4 o q with
    | inl e =>
      rw [hp] at i1
      obtain ⟨σ2, x, a1, a2, ⟨z, a3, a4⟩, a5⟩ := i1
      have a5 : t_run tbl mtb (d + f + 4) 168 [vh 51 0] σ = some (some (vi x), σ2) := a5
      rw [ci_of a5, nx_inl, hfl x z σ2 999998 (by omega)]
      exact ⟨σ2, x, a1, a2, ⟨z, a3, a4⟩, rfl⟩
    | inr s =>
      obtain ⟨q', c, v⟩ := s
      have hl1a := hl1a _ hq hp
      obtain ⟨-, hl2, hl3, -⟩ := hl1a
      rw [hp] at i1
      obtain ⟨σ2, a1, a2, a3⟩ := i1
      have a3 : t_run tbl mtb (d + f + 4) 168 [vh 51 0] σ = some (some (vi (v N)), σ2) := a3
      simp only [] at hl2 hl3
      rw [ci_of a3, nx_inl]
      exact r_lvlLoop (lvl := 3) (sub := 168) (D := d + f + 4) (fun v _ => [some (vh 51 0), some (vi v), none, none]) (fun q s hq h => (by obtain ⟨-, h2, h3, -⟩ := hl1 q s hq h; exact ⟨by omega, h3⟩)) (fun q σ h1 h2 => ih q σ h1 h2) hfl (by
          intro v q σ M hs hq ho
          simp only [p_op, decide_eq_false_iff_not] at ho
          have en := r_byteAt (d := d + f + 3) hq hs.2.1 hs.2.2.1 hs.2.2.2.2.1
          have ep := r_at_p hb q
          rw [tr_step (s_kX12_sums_5 _ v σ), if_pos (by have := hs.1; omega), ci_of en, if_neg (by omega), ci_of en, if_neg (by omega)]
          rfl) (by
          intro v q σ x σ2 z M hs hq ho hr hS hz hz2
          simp only [p_op, decide_eq_true_eq] at ho
          have en := r_byteAt (d := d + f + 3) (by omega) hs.2.1 hs.2.2.1 hs.2.2.2.2.1
          have ep := r_at_p hb q
          have er : r_at b n q = p_at b n q := by omega
          rw [er] at en
          have hw : w32 (σ 51 0 51 + 1) = ((q + 1 : Nat) : Int) := by rw [hs.2.1, w32_nat (by omega)]
          rw [tr_step (s_kX12_sums_5 _ v σ), if_pos (by have := hs.1; omega), ci_of en]
          rcases ho with e | e
          · rw [if_pos e, ci_of en, if_pos e, hw, ci_of hr, e]
            rfl
          · rw [if_neg (by omega), ci_of en, if_pos e, ci_of en, if_neg (by omega), hw, ci_of hr, e]
            rfl) 160 q' c v σ σ2 999999 a1 a2 hl3 (by omega) (by omega)
set_option maxHeartbeats 16000000 in
theorem r_lv4 (hn : n ≤ 160) (hb : ∀ i, i < n → 0 ≤ b i ∧ b i ≤ 255) (f o q : Nat) (σ : TM) (ih0 : PSH b n d N f) (ho : o ≤ 8) (hf : 6 * (8 - o) + 6 - 4 ≤ f + 1) (hs : Sr b n N σ q o) (hq : q ≤ n) : RQ b n N σ o (t_run tbl mtb (d + f + 4 + 1) (rk 4) [vh 51 0] σ) (p_s b n (f + 1) 4 o q) := by
    have ih := fun q σ => ih0 5 o q σ (by omega) ho (by omega)
    have i1 := ih q σ hs hq
    have hl1 := fun q s => p_s_ok b n f 5 o q s (by omega) ho
    have hfl : ∀ (v : Int) (z : Nat) (σ : TM) (M : Nat), 0 ≤ σ 51 0 53 → t_tr tbl mtb (t_run tbl mtb (d + f + 4)) 168 (M + 1) 10 ((fun v z => [some (vh 51 0), some (vi v), some (vi (r_at b n z)), none]) v z) [] σ = some (.inr (some (vi v), σ)) := by
      intro v z σ M h
      rw [tr_step (s_kX12_product_10 _ v (r_at b n z) σ), if_neg (by omega)]
      rfl
    show RQ b n N σ o (t_run tbl mtb (d + f + 4 + 1) 168 [vh 51 0] σ) (p_s b n (f + 1) 4 o q)
    rw [run_go (k := 168) (as := [vh 51 0]) mt_168 (Nat.ne_of_beq_eq_false rfl) rfl (s_kX12_product_0 _ σ)]
    simp only [p_s]
    have hl1a := hl1 q
    cases hp : p_s b n f 5 o q with
    | inl e =>
      rw [hp] at i1
      obtain ⟨σ2, x, a1, a2, ⟨z, a3, a4⟩, a5⟩ := i1
      have a5 : t_run tbl mtb (d + f + 4) 170 [vh 51 0] σ = some (some (vi x), σ2) := a5
      rw [ci_of a5, ci_of (r_byteAt (d := d + f + 3) a3 a4 (by rw [a1 51 0 52 rfl, hs.2.2.1]) (hs.2.2.2.2.1.sc a1)), nx_inl, hfl x z σ2 999998 (by omega)]
      exact ⟨σ2, x, a1, a2, ⟨z, a3, a4⟩, rfl⟩
    | inr s =>
      obtain ⟨q', c, v⟩ := s
      have hl1a := hl1a _ hq hp
      obtain ⟨-, hl2, hl3, -⟩ := hl1a
      rw [hp] at i1
      obtain ⟨σ2, a1, a2, a3⟩ := i1
      have a3 : t_run tbl mtb (d + f + 4) 170 [vh 51 0] σ = some (some (vi (v N)), σ2) := a3
      simp only [] at hl2 hl3
      rw [ci_of a3, ci_of (r_byteAt (d := d + f + 3) hl3 a2.2.1 a2.2.2.1 a2.2.2.2.2.1), nx_inl]
      exact r_lvlLoop (lvl := 4) (sub := 170) (D := d + f + 4) (fun v z => [some (vh 51 0), some (vi v), some (vi (r_at b n z)), none]) (fun q s hq h => (by obtain ⟨-, h2, h3, -⟩ := hl1 q s hq h; exact ⟨by omega, h3⟩)) (fun q σ h1 h2 => ih q σ h1 h2) hfl (by
          intro v q σ M hs hq ho
          simp only [p_op, decide_eq_false_iff_not] at ho
          have ep := r_at_p hb q
          rw [tr_step (s_kX12_product_10 _ v (r_at b n q) σ), if_pos (by have := hs.1; omega), if_neg (by omega), if_neg (by omega), if_neg (by omega)]
          rfl) (by
          intro v q σ x σ2 z M hs hq ho hr hS hz hz2
          simp only [p_op, decide_eq_true_eq] at ho
          have ep := r_at_p hb q
          have er : r_at b n q = p_at b n q := by omega
          have en := r_byteAt (d := d + f + 3) hz hz2 (by rw [hS 51 0 52 rfl, hs.2.2.1]) (hs.2.2.2.2.1.sc hS)
          have hw : w32 (σ 51 0 51 + 1) = ((q + 1 : Nat) : Int) := by rw [hs.2.1, w32_nat (by omega)]
          rw [tr_step (s_kX12_product_10 _ v (r_at b n q) σ), if_pos (by have := hs.1; omega), er]
          rcases ho with e | e | e
          · rw [if_pos e, hw, ci_of hr, if_pos e, ci_of en, e]
            rfl
          · rw [if_neg (by omega), if_pos e, hw, ci_of hr, if_neg (by omega), e]
            by_cases hx : x = 0
            · rw [if_pos hx, ci_of en]
              simp [p_jn, hx, nx_inl]
            · rw [if_neg hx, if_pos rfl, if_neg hx, ci_of en]
              simp [p_jn, hx, nx_inl]
          · rw [if_neg (by omega), if_neg (by omega), if_pos e, hw, ci_of hr, if_neg (by omega), e]
            by_cases hx : x = 0
            · rw [if_pos hx, ci_of en]
              simp [p_jn, hx, nx_inl]
            · rw [if_neg hx, if_neg (by decide), if_neg hx, ci_of en]
              simp [p_jn, hx, nx_inl]) 160 q' c v σ σ2 999999 a1 a2 hl3 (by omega) (by omega)
end
