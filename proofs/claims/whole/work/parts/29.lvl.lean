-- the levels of the class's reader
section
variable {r n d : Nat} {b : Nat → Int}
/-- a level's loop -/
theorem c_lvlLoop {k sub lvl : Nat} {o : Int} {g : Nat → PR} (Lf : Int → TL)
    (hR : ∀ q s, q ≤ n → g q = .inr s → q + s.2.1.length ≤ s.1 ∧ s.1 ≤ n)
    (hn : n ≤ 160) (hg : ∀ q C σ, St r b n σ q C → C.length ≤ q → q ≤ n → RR r b n σ C (t_run tbl mtb (d + 1) sub [vh 23 0, vh 46 r, vi o] σ) (g q))
    (hend : ∀ σ N, t_tr tbl mtb (t_run tbl mtb (d + 1)) k (N + 1) 13 (Lf 160) [] σ = some (.inr (some (vi 1), σ)))
    (hst : ∀ (more q : Nat) C σ N, more < 160 → q ≤ n → St r b n σ q C → t_tr tbl mtb (t_run tbl mtb (d + 1)) k (N + 1) 13 (Lf more) [] σ = t_nx (t_run tbl mtb (d + 1)) k N (if p_op lvl (p_at b n q) = true then t_calli (t_run tbl mtb (d + 1) sub [vh 23 0, vh 46 r, vi o] (t_upd σ 23 0 2 ((q + 1 : Nat) : Int))) fun x2 s2 => (if x2 = 0 then some (.inr (some (vi 0), s2)) else t_callv (t_run tbl mtb (d + 1) 27 [vh 46 r, vi (20000 + p_at b n q)] s2) fun s3 => some (.inl (13, Lf ((more + 1 : Nat) : Int), [], s3))) else some (.inr (some (vi 1), σ)))) :
    ∀ (m more q : Nat) (C c : List Int) (v : (Nat → Int) → Int) (σ0 σ : TM) (N : Nat), more + m = 160 → Fr r σ0 σ → St r b n σ q (C ++ c) → (C ++ c).length ≤ q → q ≤ n → m < N → RR r b n σ0 C (t_out (t_tr tbl mtb (t_run tbl mtb (d + 1)) k N 13 (Lf more) [] σ)) (p_lp g b n lvl m (q, c, v))
  | 0, more, q, C, c, v, σ0, σ, N, hm, hf, hs, hC, hq, hN => by
    have : more = 160 := by omega
    subst this
    have := hend σ (N - 1)
    rw [Nat.sub_add_cancel (by omega)] at this
    rw [show ((160 : Nat) : Int) = 160 from rfl, this]
    exact ⟨σ, hf, hs, rfl⟩
  | m + 1, more, q, C, c, v, σ0, σ, N, hm, hf, hs, hC, hq, hN => by
    have := hst more q (C ++ c) σ (N - 1) (by omega) hq hs
    rw [Nat.sub_add_cancel (by omega)] at this
    rw [this]
    unfold p_lp
    by_cases ho : p_op lvl (p_at b n q) = true
    · have hne := p_op_ne ho
      have hl := p_at_lt hne.1
      rw [if_pos ho, if_pos ho]
      have hg1 := hg (q + 1) (C ++ c) (t_upd σ 23 0 2 ((q + 1 : Nat) : Int)) (hs.place rfl) (by omega) hl
      have hR1 := hR (q + 1)
      cases hgq : g (q + 1) with
      | inl e =>
        rw [hgq] at hg1
        obtain ⟨σ', a1, a2, a3⟩ := hg1
        rw [ci_of a3]
        exact ⟨σ', (hf.up (.inl ⟨rfl, rfl⟩)).tr a1, a2, rfl⟩
      | inr s =>
        obtain ⟨q', c', v'⟩ := s
        have hR1 := hR1 _ hl hgq
        simp only [] at hR1
        rw [hgq] at hg1
        obtain ⟨σ', a1, a2, a3⟩ := hg1
        rw [List.length_append] at hC
        have hlen : (C ++ c ++ c').length ≤ q' - 1 := by
          rw [List.length_append, List.length_append]
          omega
        obtain ⟨σ2, e1, e2, e3⟩ := c_add27 (d := d) a2 (by omega) (20000 + p_at b n q)
        rw [ci_of a3, if_neg (by decide), cv_of e1, nx_inl]
        refine c_lvlLoop Lf hR hn hg hend hst m (more + 1) q' C (c ++ c' ++ [20000 + p_at b n q]) _ σ0 σ2 (N - 1) (by omega) (((hf.up (.inl ⟨rfl, rfl⟩)).tr a1).tr e3) ?_ ?_ hR1.2 (by omega)
        · rw [List.append_assoc, List.append_assoc] at e2
          rw [List.append_assoc]
          exact e2
        · rw [List.length_append, List.length_append, List.length_append, List.length_singleton]
          rw [List.length_append, List.length_append] at hlen
          omega
    · rw [if_neg ho, if_neg ho]
      exact ⟨σ, hf, hs, rfl⟩
theorem p_s_len {n : Nat} {b : Nat → Int} {f lvl o q : Nat} {s : Nat × List Int × ((Nat → Int) → Int)} (hl : lvl ≤ 5) (ho : o ≤ 8) (hq : q ≤ n) (h : p_s b n f lvl o q = .inr s) : q + s.2.1.length ≤ s.1 ∧ s.1 ≤ n := by
  have := p_s_ok b n f lvl o q s hl ho hq h
  exact ⟨this.1, this.2.2.1⟩
theorem c_ps (hn : n ≤ 160) (hb : ∀ i, i < n → 0 ≤ b i ∧ b i ≤ 255) : ∀ (f lvl o q : Nat) (C : List Int) (σ : TM), lvl ≤ 5 → o ≤ 8 → 6 * (8 - o) + 6 - lvl ≤ f → St r b n σ q C → C.length ≤ q → q ≤ n → RR r b n σ C (t_run tbl mtb (d + f + 6) (39 + lvl) [vh 23 0, vh 46 r, vi (o : Int)] σ) (p_s b n f lvl o q)
  | 0, lvl, o, q, C, σ, h1, h2, h3, _, _, _ => by omega
  | f + 1, 5, o, q, C, σ, _, ho, hf, hs, hC, hq => by
    have en := c_next (d := d + f + 5) hs hn
    have ih := fun lvl o q C σ => c_ps hn hb f lvl o q C σ
    have hpl := hs.place (v := w32 (σ 23 0 2 + 1)) (q' := q + 1) (by rw [hs.2.1, w32_nat (by omega)])
    have hfr : Fr r σ (t_upd σ 23 0 2 (w32 (σ 23 0 2 + 1))) := Fr.rf.up (.inl ⟨rfl, rfl⟩)
    rw [show d + (f + 1) + 6 = d + f + 6 + 1 by omega, run_go (k := 44) (as := [vh 23 0, vh 46 r, vi o]) mt_44 (Nat.ne_of_beq_eq_false rfl) rfl (s_kX9_operand_0 _ r o σ), ci_of en]
    by_cases hd : 48 ≤ p_at b n q ∧ p_at b n q ≤ 57
    · obtain ⟨σ', g1, g2, g3⟩ := c_number (d := d + f + 4) hn hs hb (by omega) hq
      rw [if_neg (by omega), if_neg (by omega), cv_of g3, show p_s b n (f + 1) 5 o q = .inr ((p_dg b n 4 q 0).1, [(p_dg b n 4 q 0).2], fun _ => (p_dg b n 4 q 0).2) by simp only [p_s]; rw [if_pos hd]]
      exact ⟨σ', g1, g2, rfl⟩
    by_cases h40 : p_at b n q = 40
    · have hl : q < n := p_at_lt (b := b) (by omega)
      have hps : p_s b n (f + 1) 5 o q = (if 8 ≤ o then .inl q else match p_s b n f 0 (o + 1) (q + 1) with
        | .inl e => .inl e
        | .inr (q', c, v) => if p_at b n q' = 41 then .inr (q' + 1, c, v) else .inl q') := by
        simp only [p_s]
        rw [if_neg hd, if_pos h40]
        rfl
      rw [hps, if_pos (show p_at b n q < 48 by omega), if_pos h40]
      by_cases h8 : 8 ≤ o
      · rw [if_neg (by omega), if_pos h8]
        exact ⟨σ, Fr.rf, hs.2.1, rfl⟩
      · have i1 := ih 0 (o + 1) (q + 1) C _ (by omega) (by omega) (by omega) hpl (by omega) hl
        have hl1 := fun s => p_s_len (b := b) (n := n) (f := f) (lvl := 0) (o := o + 1) (q := q + 1) (s := s) (by omega) (by omega) hl
        rw [if_pos (show (o : Int) < 8 by omega), if_neg h8, if_pos h40, w32_nat (p := o) (by omega)]
        cases hp : p_s b n f 0 (o + 1) (q + 1) with
        | inl e =>
          rw [hp] at i1
          obtain ⟨σ', a1, a2, a3⟩ := i1
          rw [ci_of a3]
          exact ⟨σ', hfr.tr a1, a2, rfl⟩
        | inr s =>
          obtain ⟨q', c, v⟩ := s
          have hl1 := hl1 _ hp
          rw [hp] at i1
          obtain ⟨σ', a1, a2, a3⟩ := i1
          rw [ci_of a3, if_neg (by decide), ci_of (c_next (d := d + f + 5) a2 hn)]
          simp only [] at hl1 ⊢
          by_cases h41 : p_at b n q' = 41
          · rw [if_pos h41, if_pos h41]
            exact ⟨_, (hfr.tr a1).up (.inl ⟨rfl, rfl⟩), a2.place (by rw [a2.2.1, w32_nat (by omega)]), rfl⟩
          · rw [if_neg h41, if_neg h41]
            exact ⟨σ', hfr.tr a1, a2.2.1, rfl⟩
    by_cases h33 : p_at b n q = 33
    · have hl : q < n := p_at_lt (b := b) (by omega)
      have hps : p_s b n (f + 1) 5 o q = (if 8 ≤ o then .inl q else match p_s b n f 5 (o + 1) (q + 1) with
        | .inl e => .inl e
        | .inr (q', c, v) => .inr (q', c ++ [20033], fun N => if v N = 0 then 1 else 0)) := by
        simp only [p_s]
        rw [if_neg hd, if_neg h40, if_pos h33]
        rfl
      rw [hps, if_pos (show p_at b n q < 48 by omega), if_neg h40, if_pos h33]
      by_cases h8 : 8 ≤ o
      · rw [if_neg (by omega), if_pos h8]
        exact ⟨σ, Fr.rf, hs.2.1, rfl⟩
      · have i1 := ih 5 (o + 1) (q + 1) C _ (by omega) (by omega) (by omega) hpl (by omega) hl
        have hl1 := fun s => p_s_len (b := b) (n := n) (f := f) (lvl := 5) (o := o + 1) (q := q + 1) (s := s) (by omega) (by omega) hl
        rw [if_pos (show (o : Int) < 8 by omega), if_neg h8, if_neg h40, w32_nat (p := o) (by omega)]
        cases hp : p_s b n f 5 (o + 1) (q + 1) with
        | inl e =>
          rw [hp] at i1
          obtain ⟨σ', a1, a2, a3⟩ := i1
          rw [ci_of a3]
          exact ⟨σ', hfr.tr a1, a2, rfl⟩
        | inr s =>
          obtain ⟨q', c, v⟩ := s
          have hl1 := hl1 _ hp
          rw [hp] at i1
          obtain ⟨σ', a1, a2, a3⟩ := i1
          simp only [] at hl1
          obtain ⟨σ2, e1, e2, e3⟩ := c_add27 (d := d + f + 5) a2 (by rw [List.length_append]; omega) 20033
          rw [ci_of a3, if_neg (by decide), if_pos h33, w32_id (x := 20000 + 33) (by decide) (by decide), show (20000 : Int) + 33 = 20033 by decide, cv_of e1]
          rw [List.append_assoc] at e2
          exact ⟨σ2, (hfr.tr a1).tr e3, e2, rfl⟩
    by_cases h45 : p_at b n q = 45
    · have hl : q < n := p_at_lt (b := b) (by omega)
      have hps : p_s b n (f + 1) 5 o q = (if 8 ≤ o then .inl q else match p_s b n f 5 (o + 1) (q + 1) with
        | .inl e => .inl e
        | .inr (q', c, v) => .inr (q', c ++ [20126], fun N => w32 (-(v N)))) := by
        simp only [p_s]
        rw [if_neg hd, if_neg h40, if_neg h33, if_pos h45]
        rfl
      rw [hps, if_pos (show p_at b n q < 48 by omega), if_neg h40, if_neg h33, if_pos h45]
      by_cases h8 : 8 ≤ o
      · rw [if_neg (by omega), if_pos h8]
        exact ⟨σ, Fr.rf, hs.2.1, rfl⟩
      · have i1 := ih 5 (o + 1) (q + 1) C _ (by omega) (by omega) (by omega) hpl (by omega) hl
        have hl1 := fun s => p_s_len (b := b) (n := n) (f := f) (lvl := 5) (o := o + 1) (q := q + 1) (s := s) (by omega) (by omega) hl
        rw [if_pos (show (o : Int) < 8 by omega), if_neg h8, if_neg h40, w32_nat (p := o) (by omega)]
        cases hp : p_s b n f 5 (o + 1) (q + 1) with
        | inl e =>
          rw [hp] at i1
          obtain ⟨σ', a1, a2, a3⟩ := i1
          rw [ci_of a3]
          exact ⟨σ', hfr.tr a1, a2, rfl⟩
        | inr s =>
          obtain ⟨q', c, v⟩ := s
          have hl1 := hl1 _ hp
          rw [hp] at i1
          obtain ⟨σ', a1, a2, a3⟩ := i1
          simp only [] at hl1
          obtain ⟨σ2, e1, e2, e3⟩ := c_add27 (d := d + f + 5) a2 (by rw [List.length_append]; omega) 20126
          rw [ci_of a3, if_neg (by decide), if_neg h33, w32_id (x := 20000 + 126) (by decide) (by decide), show (20000 : Int) + 126 = 20126 by decide, cv_of e1]
          rw [List.append_assoc] at e2
          exact ⟨σ2, (hfr.tr a1).tr e3, e2, rfl⟩
    have nm := c_name (d := d + f + 1) hn hs hb (by omega) hq
    have hps : p_s b n (f + 1) 5 o q = (if p_nm (p_at b n q) < 0 then .inl q else .inr (q + 1, [10000 + p_nm (p_at b n q)], fun N => N (p_nm (p_at b n q)).toNat)) := by
      simp only [p_s]
      rw [if_neg hd, if_neg h40, if_neg h33, if_neg h45]
    rw [hps]
    have key : ∀ X : PR, RR r b n σ C (t_run tbl mtb (d + f + 1 + 5) 46 [vh 23 0, vh 46 r, vi (p_at b n q)] σ) X → RR r b n σ C (t_out (t_nx (t_run tbl mtb (d + f + 6)) 44 999999 (t_calli (t_run tbl mtb (d + f + 6) 46 [vh 23 0, vh 46 r, vi (p_at b n q)] σ) fun x33 s33 => (if 0 ≤ x33 ∧ x33 ≤ 1 then some (.inr (some (vi x33), s33)) else none)))) X := by
      intro X hX
      rcases X with e | ⟨q', c, v⟩
      · obtain ⟨σ', a1, a2, a3⟩ := hX
        rw [ci_of a3]
        exact ⟨σ', a1, a2, rfl⟩
      · obtain ⟨σ', a1, a2, a3⟩ := hX
        rw [ci_of a3]
        exact ⟨σ', a1, a2, rfl⟩
    by_cases hlo : p_at b n q < 48
    · rw [if_pos hlo, if_neg h40, if_neg h33, if_neg h45]
      exact key _ nm
    · rw [if_neg hlo, if_pos (show 57 < p_at b n q by omega), if_neg h40, if_neg h33, if_neg h45]
      exact key _ nm
  | f + 1, 2, o, q, C, σ, _, ho, hf, hs, hC, hq => by
    have ih := fun q C σ => c_ps hn hb f 3 o q C σ (by omega) ho (by omega)
    have i1 := ih q C σ hs hC hq
    have hl1 := fun q s => p_s_len (b := b) (n := n) (f := f) (lvl := 3) (o := o) (q := q) (s := s) (by omega) (by omega)
    rw [show d + (f + 1) + 6 = d + f + 6 + 1 by omega, run_go (k := 41) (as := [vh 23 0, vh 46 r, vi o]) mt_41 (Nat.ne_of_beq_eq_false rfl) rfl (s_kX9_compared_0 _ r o σ)]
    simp only [p_s]
    have hl1a := hl1 q
    cases hp : p_s b n f 3 o q with
    | inl e =>
      rw [hp] at i1
      obtain ⟨σ', a1, a2, a3⟩ := i1
      rw [ci_of a3]
      exact ⟨σ', a1, a2, rfl⟩
    | inr s =>
      obtain ⟨q', c, v⟩ := s
      have hl1a := hl1a _ hq hp
      rw [hp] at i1
      obtain ⟨σ', a1, a2, a3⟩ := i1
      simp only [] at hl1a
      rw [ci_of a3, if_neg (by decide), ci_of (c_next (d := d + f + 5) a2 hn)]
      by_cases hop : p_op 2 (p_at b n q') = true
      · have hne := p_op_ne hop
        have hlq := p_at_lt hne.1
        have hpl := a2.place (v := w32 (σ' 23 0 2 + 1)) (q' := q' + 1) (by rw [a2.2.1, w32_nat (by omega)])
        have i2 := ih (q' + 1) (C ++ c) _ hpl (by rw [List.length_append]; omega) hlq
        have hl2 := hl1 (q' + 1)
        have key : RR r b n σ C (t_out (t_nx (t_run tbl mtb (d + f + 6)) 41 999999 (t_calli (t_run tbl mtb (d + f + 6) 42 [vh 23 0, vh 46 r, vi (o : Int)] (t_upd σ' 23 0 2 (w32 (σ' 23 0 2 + 1)))) fun x3 s3 => (if x3 = 0 then some (.inr (some (vi 0), s3)) else (t_callv (t_run tbl mtb (d + f + 6) 27 [vh 46 r, vi (w32 (20000 + p_at b n q'))] s3) fun s4 => some (.inr (some (vi 1), s4))))))) (match p_s b n f 3 o (q' + 1) with
            | .inl e => .inl e
            | .inr (q2, c2, v2) => .inr (q2, c ++ c2 ++ [20000 + p_at b n q'], fun N => p_jn (p_at b n q') (v N) (v2 N))) := by
          cases hp2 : p_s b n f 3 o (q' + 1) with
          | inl e =>
            rw [hp2] at i2
            obtain ⟨σ2, z1, z2, z3⟩ := i2
            rw [ci_of z3]
            exact ⟨σ2, (a1.up (.inl ⟨rfl, rfl⟩)).tr z1, z2, rfl⟩
          | inr s =>
            obtain ⟨q2, c2, v2⟩ := s
            have hl2 := hl2 _ hlq hp2
            rw [hp2] at i2
            obtain ⟨σ2, z1, z2, z3⟩ := i2
            simp only [] at hl2
            obtain ⟨σ3, e1, e2, e3⟩ := c_add27 (d := d + f + 5) z2 (by rw [List.length_append, List.length_append]; omega) (20000 + p_at b n q')
            rw [ci_of z3, if_neg (by decide), w32_id (by omega) (by omega), cv_of e1]
            refine ⟨σ3, ((a1.up (.inl ⟨rfl, rfl⟩)).tr z1).tr e3, ?_, rfl⟩
            simp only [List.append_assoc] at e2 ⊢
            exact e2
        have hop2 := hop
        simp only [p_op, decide_eq_true_eq] at hop2
        simp only [hop, if_true]
        rcases hop2 with e | e | e
        · rw [if_pos e]
          exact key
        · rw [if_neg (by omega), if_pos e]
          exact key
        · rw [if_neg (by omega), if_neg (by omega), if_pos e]
          exact key
      · have hop2 := hop
        simp only [p_op, decide_eq_true_eq, not_or] at hop2
        rw [if_neg hop2.1, if_neg hop2.2.1, if_neg hop2.2.2]
        simp only [hop]
        exact ⟨σ', a1, a2, rfl⟩
  | f + 1, 0, o, q, C, σ, _, ho, hf, hs, hC, hq => by
    have ih := fun q C σ => c_ps hn hb f 1 o q C σ (by omega) ho (by omega)
    have i1 := ih q C σ hs hC hq
    have hl1 := fun q s => p_s_len (b := b) (n := n) (f := f) (lvl := 1) (o := o) (q := q) (s := s) (by omega) (by omega)
    rw [show d + (f + 1) + 6 = d + f + 6 + 1 by omega, run_go (k := 39) (as := [vh 23 0, vh 46 r, vi o]) mt_39 (Nat.ne_of_beq_eq_false rfl) rfl (s_kX9_either_0 _ r o σ)]
    simp only [p_s]
    have hl1a := hl1 q
    cases hp : p_s b n f 1 o q with
    | inl e =>
      rw [hp] at i1
      obtain ⟨σ', a1, a2, a3⟩ := i1
      rw [ci_of a3]
      exact ⟨σ', a1, a2, rfl⟩
    | inr s =>
      obtain ⟨q', c, v⟩ := s
      have hl1a := hl1a _ hq hp
      rw [hp] at i1
      obtain ⟨σ', a1, a2, a3⟩ := i1
      simp only [] at hl1a
      rw [ci_of a3, if_neg (by decide), nx_inl]
      exact c_lvlLoop (fun x => [some (vh 23 0), some (vh 46 r), some (vi (o : Int)), some (vi x)]) (fun q s hq h => hl1 q s hq h) hn (fun q C σ h1 h2 h3 => ih q C σ h1 h2 h3) (fun σ N => by rw [tr_step (s_kX9_either_13 _ r o 160 σ), if_neg (by decide)]; rfl) (fun more q C σ N hm hqn hs => by
        rw [tr_step (s_kX9_either_13 _ r o more σ), if_pos (by omega), ci_of (c_next hs hn), hs.2.1, w32_nat (p := q) (by omega), w32_nat (by omega)]
        by_cases e : p_at b n q = 124
        · simp only [p_op, e, decide_true, if_true]
          rfl
        · simp only [p_op, e, decide_false, if_false]
          rfl) 160 0 q' C c v σ σ' 999999 (by omega) a1 a2 (by rw [List.length_append]; omega) hl1a.2 (by omega)
  | f + 1, 1, o, q, C, σ, _, ho, hf, hs, hC, hq => by
    have ih := fun q C σ => c_ps hn hb f 2 o q C σ (by omega) ho (by omega)
    have i1 := ih q C σ hs hC hq
    have hl1 := fun q s => p_s_len (b := b) (n := n) (f := f) (lvl := 2) (o := o) (q := q) (s := s) (by omega) (by omega)
    rw [show d + (f + 1) + 6 = d + f + 6 + 1 by omega, run_go (k := 40) (as := [vh 23 0, vh 46 r, vi o]) mt_40 (Nat.ne_of_beq_eq_false rfl) rfl (s_kX9_both_0 _ r o σ)]
    simp only [p_s]
    have hl1a := hl1 q
    cases hp : p_s b n f 2 o q with
    | inl e =>
      rw [hp] at i1
      obtain ⟨σ', a1, a2, a3⟩ := i1
      rw [ci_of a3]
      exact ⟨σ', a1, a2, rfl⟩
    | inr s =>
      obtain ⟨q', c, v⟩ := s
      have hl1a := hl1a _ hq hp
      rw [hp] at i1
      obtain ⟨σ', a1, a2, a3⟩ := i1
      simp only [] at hl1a
      rw [ci_of a3, if_neg (by decide), nx_inl]
      exact c_lvlLoop (fun x => [some (vh 23 0), some (vh 46 r), some (vi (o : Int)), some (vi x)]) (fun q s hq h => hl1 q s hq h) hn (fun q C σ h1 h2 h3 => ih q C σ h1 h2 h3) (fun σ N => by rw [tr_step (s_kX9_both_13 _ r o 160 σ), if_neg (by decide)]; rfl) (fun more q C σ N hm hqn hs => by
        rw [tr_step (s_kX9_both_13 _ r o more σ), if_pos (by omega), ci_of (c_next hs hn), hs.2.1, w32_nat (p := q) (by omega), w32_nat (by omega)]
        by_cases e : p_at b n q = 38
        · simp only [p_op, e, decide_true, if_true]
          rfl
        · simp only [p_op, e, decide_false, if_false]
          rfl) 160 0 q' C c v σ σ' 999999 (by omega) a1 a2 (by rw [List.length_append]; omega) hl1a.2 (by omega)
  | f + 1, 3, o, q, C, σ, _, ho, hf, hs, hC, hq => by
    have ih := fun q C σ => c_ps hn hb f 4 o q C σ (by omega) ho (by omega)
    have i1 := ih q C σ hs hC hq
    have hl1 := fun q s => p_s_len (b := b) (n := n) (f := f) (lvl := 4) (o := o) (q := q) (s := s) (by omega) (by omega)
    rw [show d + (f + 1) + 6 = d + f + 6 + 1 by omega, run_go (k := 42) (as := [vh 23 0, vh 46 r, vi o]) mt_42 (Nat.ne_of_beq_eq_false rfl) rfl (s_kX9_sum_0 _ r o σ)]
    simp only [p_s]
    have hl1a := hl1 q
    cases hp : p_s b n f 4 o q with
    | inl e =>
      rw [hp] at i1
      obtain ⟨σ', a1, a2, a3⟩ := i1
      rw [ci_of a3]
      exact ⟨σ', a1, a2, rfl⟩
    | inr s =>
      obtain ⟨q', c, v⟩ := s
      have hl1a := hl1a _ hq hp
      rw [hp] at i1
      obtain ⟨σ', a1, a2, a3⟩ := i1
      simp only [] at hl1a
      rw [ci_of a3, if_neg (by decide), nx_inl]
      exact c_lvlLoop (fun x => [some (vh 23 0), some (vh 46 r), some (vi (o : Int)), some (vi x), none]) (fun q s hq h => hl1 q s hq h) hn (fun q C σ h1 h2 h3 => ih q C σ h1 h2 h3) (fun σ N => by rw [tr_step (s_kX9_sum_13 _ r o 160 σ), if_neg (by decide)]; rfl) (fun more q C σ N hm hqn hs => by
        rw [tr_step (s_kX9_sum_13 _ r o more σ), if_pos (by omega), ci_of (c_next hs hn), hs.2.1, w32_nat (p := q) (by omega), w32_nat (by omega)]
        by_cases ho : p_op 3 (p_at b n q) = true
        · have hne := p_op_ne ho
          rw [if_pos ho, w32_id (x := 20000 + p_at b n q) (by omega) (by omega)]
          simp only [p_op, decide_eq_true_eq] at ho
          (repeat' split) <;> first | rfl | (exfalso; omega)
        · rw [if_neg ho]
          simp only [p_op, decide_eq_true_eq, not_or] at ho
          (repeat' split) <;> first | rfl | (exfalso; omega)) 160 0 q' C c v σ σ' 999999 (by omega) a1 a2 (by rw [List.length_append]; omega) hl1a.2 (by omega)
  | f + 1, 4, o, q, C, σ, _, ho, hf, hs, hC, hq => by
    have ih := fun q C σ => c_ps hn hb f 5 o q C σ (by omega) ho (by omega)
    have i1 := ih q C σ hs hC hq
    have hl1 := fun q s => p_s_len (b := b) (n := n) (f := f) (lvl := 5) (o := o) (q := q) (s := s) (by omega) (by omega)
    rw [show d + (f + 1) + 6 = d + f + 6 + 1 by omega, run_go (k := 43) (as := [vh 23 0, vh 46 r, vi o]) mt_43 (Nat.ne_of_beq_eq_false rfl) rfl (s_kX9_product_0 _ r o σ)]
    simp only [p_s]
    have hl1a := hl1 q
    cases hp : p_s b n f 5 o q with
    | inl e =>
      rw [hp] at i1
      obtain ⟨σ', a1, a2, a3⟩ := i1
      rw [ci_of a3]
      exact ⟨σ', a1, a2, rfl⟩
    | inr s =>
      obtain ⟨q', c, v⟩ := s
      have hl1a := hl1a _ hq hp
      rw [hp] at i1
      obtain ⟨σ', a1, a2, a3⟩ := i1
      simp only [] at hl1a
      rw [ci_of a3, if_neg (by decide), nx_inl]
      exact c_lvlLoop (fun x => [some (vh 23 0), some (vh 46 r), some (vi (o : Int)), some (vi x), none]) (fun q s hq h => hl1 q s hq h) hn (fun q C σ h1 h2 h3 => ih q C σ h1 h2 h3) (fun σ N => by rw [tr_step (s_kX9_product_13 _ r o 160 σ), if_neg (by decide)]; rfl) (fun more q C σ N hm hqn hs => by
        rw [tr_step (s_kX9_product_13 _ r o more σ), if_pos (by omega), ci_of (c_next hs hn), hs.2.1, w32_nat (p := q) (by omega), w32_nat (by omega)]
        by_cases ho : p_op 4 (p_at b n q) = true
        · have hne := p_op_ne ho
          rw [if_pos ho, w32_id (x := 20000 + p_at b n q) (by omega) (by omega)]
          simp only [p_op, decide_eq_true_eq] at ho
          (repeat' split) <;> first | rfl | (exfalso; omega)
        · rw [if_neg ho]
          simp only [p_op, decide_eq_true_eq, not_or] at ho
          (repeat' split) <;> first | rfl | (exfalso; omega)) 160 0 q' C c v σ σ' 999999 (by omega) a1 a2 (by rw [List.length_append]; omega) hl1a.2 (by omega)
  | f + 1, l + 6, o, q, C, σ, hl, ho, hf, hs, hC, hq => by omega
end
