-- the last level of the reference's reader
section
variable {n d : Nat} {b N : Nat → Int}
set_option maxHeartbeats 16000000 in
theorem r_lv5 (hn : n ≤ 160) (hb : ∀ i, i < n → 0 ≤ b i ∧ b i ≤ 255) (f o q : Nat) (σ : TM) (ih0 : PSH b n d N f) (ho : o ≤ 8) (hf : 6 * (8 - o) + 6 - 5 ≤ f + 1) (hs : Sr b n N σ q o) (hq : q ≤ n) : RQ b n N σ o (t_run tbl mtb (d + f + 4 + 1) (rk 5) [vh 51 0] σ) (p_s b n (f + 1) 5 o q) := by
    have en := r_byteAt (d := d + f + 3) hq hs.2.1 hs.2.2.1 hs.2.2.2.2.1
    have ep := r_at_p hb q
    have ih := fun lvl o q σ => ih0 lvl o q σ
    have ew := r_wrong (d := d + f + 3) (σ := σ) (by have := hs.1; omega) hs.2.1
    show RQ b n N σ o (t_run tbl mtb (d + f + 4 + 1) 170 [vh 51 0] σ) (p_s b n (f + 1) 5 o q)
    rw [run_go (k := 170) (as := [vh 51 0]) mt_170 (Nat.ne_of_beq_eq_false rfl) rfl (s_kX12_one_0 _ σ), if_pos (by have := hs.1; omega), ci_of en]
    rcases ep with ⟨p1, p2, p3⟩ | ⟨p1, p2, p3, p4⟩
    · have hps : p_s b n (f + 1) 5 o q = .inl q := by
        simp only [p_s, p1]
        rfl
      rw [hps, p2, if_neg (by decide), if_neg (by decide), if_neg (by decide), ci_of (r_nameOf 0), if_pos (by decide), nx_inl, r_fail (d := d + f + 3) hb hs hq (by omega) 999998]
      exact ⟨_, _, Sc.rf.up rfl, up_same, ⟨q, hq, by rw [up_j (by decide), hs.2.1]⟩, rfl⟩
    have hmv : Sr b n N (t_upd (t_upd σ 51 0 54 (w32 (σ 51 0 54 + 1))) 51 0 51 (w32 (t_upd σ 51 0 54 (w32 (σ 51 0 54 + 1)) 51 0 51 + 1))) (q + 1) (o + 1) := (hs.op (by rw [hs.2.2.2.1, w32_nat (by omega)])).mv (by rw [up_j (by decide), hs.2.1, w32_nat (by omega)])
    have hS1 : Sc s3 σ (t_upd (t_upd σ 51 0 54 (w32 (σ 51 0 54 + 1))) 51 0 51 (w32 (t_upd σ 51 0 54 (w32 (σ 51 0 54 + 1)) 51 0 51 + 1))) := (Sc.rf.up rfl).up rfl
    generalize hσm : t_upd (t_upd σ 51 0 54 (w32 (σ 51 0 54 + 1))) 51 0 51 (w32 (t_upd σ 51 0 54 (w32 (σ 51 0 54 + 1)) 51 0 51 + 1)) = σm at hmv hS1
    rw [← p1]
    by_cases hd : 48 ≤ p_at b n q ∧ p_at b n q ≤ 57
    · have hps : p_s b n (f + 1) 5 o q = .inr ((p_dg b n 4 q 0).1, [(p_dg b n 4 q 0).2], fun _ => (p_dg b n 4 q 0).2) := by
        simp only [p_s]
        rw [if_pos hd]
      have hnm : p_nm (p_at b n q) = -1 := p_nm_not (by omega) (by omega) (by omega) (by omega) (by omega) (by omega) (by omega) (by omega) (by omega) (by omega) (by omega)
      obtain ⟨σ', g1, g2, g3⟩ := r_digits (d := d + f + 3) hb hn (o := o) 3 (q + 1) (10 * 0 + p_at b n q - 48) σ (t_upd σ 51 0 51 ((q + 1 : Nat) : Int)) 999998 (by omega) (by omega) (by rw [show (10 : Int) ^ (4 - 3) = 10 by decide]; omega) (Sc.rf.up rfl) (hs.mv rfl) (by omega) (by omega)
      have e4 : p_dg b n 4 q 0 = p_dg b n 3 (q + 1) (10 * 0 + p_at b n q - 48) := by
        rw [p_dg, if_pos hd]
      rw [hps, if_neg (by omega), if_neg (by omega), if_neg (by omega), ci_of (r_nameOf _), hnm, if_pos (by decide), nx_inl, show 999999 = 999998 + 1 from rfl, tr_step (s_kX12_one_176 _ 0 0 σ), if_pos (by decide), ci_of en, ← p1, if_neg (by omega), ci_of en, ← p1, if_neg (by omega), ci_of en, ← p1, hs.2.1, w32_nat (by omega), w32_id (x := 10 * 0) (by decide) (by decide), w32_id (x := 10 * 0 + p_at b n q) (by omega) (by omega), w32_id (x := 10 * 0 + p_at b n q - 48) (by omega) (by omega), w32_id (x := 0 + 1) (by decide) (by decide), nx_inl, e4]
      exact ⟨σ', g1, g2, by
        have g3 : t_tr tbl mtb (t_run tbl mtb (d + f + 4)) 170 999998 176 [some (vh 51 0), none, none, some (vi (10 * 0 + p_at b n q - 48)), some (vi (0 + 1))] [] (t_upd σ 51 0 51 ((q + 1 : Nat) : Int)) = _ := g3
        rw [g3]
        rfl⟩
    by_cases h40 : p_at b n q = 40
    · have hps : p_s b n (f + 1) 5 o q = (if 8 ≤ o then .inl q else match p_s b n f 0 (o + 1) (q + 1) with
        | .inl e => .inl e
        | .inr (q', c, v) => if p_at b n q' = 41 then .inr (q' + 1, c, v) else .inl q') := by
        simp only [p_s]
        rw [if_neg hd, if_pos h40]
        rfl
      have h54 := hs.2.2.2.1
      rw [hps, if_neg (show ¬ p_at b n q = 33 by omega), if_neg (show ¬ p_at b n q = 45 by omega), if_pos h40]
      by_cases h8 : 8 ≤ o
      · rw [if_pos (show σ 51 0 54 = 8 by omega), if_pos h8, ci_of ew]
        exact ⟨_, _, Sc.rf.up rfl, up_same, ⟨q, hq, by rw [up_j (by decide), hs.2.1]⟩, rfl⟩
      · have i1 := ih 0 (o + 1) (q + 1) σm (by omega) (by omega) (by omega) hmv (by omega)
        have hl1 := fun s => p_s_len (b := b) (n := n) (f := f) (lvl := 0) (o := o + 1) (q := q + 1) (s := s) (by omega) (by omega) (by omega)
        rw [if_neg (show ¬ σ 51 0 54 = 8 by omega), if_neg h8, if_pos h40]
        cases hp : p_s b n f 0 (o + 1) (q + 1) with
        | inl e =>
          rw [hp] at i1
          obtain ⟨σ2, x, a1, a2, a3, a4⟩ := i1
          have a4 : t_run tbl mtb (d + f + 4) 164 [vh 51 0] σm = some (some (vi x), σ2) := a4
          rw [ci_of a4, if_pos h40, ci_of (r_takes_no (by omega)), if_pos rfl, ci_of (r_wrong2 (by omega))]
          exact ⟨_, _, (hS1.tr a1).up rfl, by rw [up_same, a2], by obtain ⟨z, z1, z2⟩ := a3; exact ⟨z, z1, by rw [up_j (by decide), z2]⟩, rfl⟩
        | inr s =>
          obtain ⟨q', c, v⟩ := s
          have hl1 := hl1 _ hp
          rw [hp] at i1
          obtain ⟨σ2, a1, a2, a3⟩ := i1
          have a3 : t_run tbl mtb (d + f + 4) 164 [vh 51 0] σm = some (some (vi (v N)), σ2) := a3
          simp only [] at hl1 ⊢
          have et := r_takes (d := d + f + 2) (c := 41) hb a2 hl1.2 hn (by decide)
          rw [ci_of a3, if_pos h40]
          by_cases h41 : p_at b n q' = 41
          · rw [if_pos h41] at et
            have hlq : q' < n := p_at_lt (b := b) (by omega)
            rw [if_pos h41, ci_of et, if_neg (by decide), if_pos h40]
            exact ⟨_, ((hS1.tr a1).up rfl).up rfl, (a2.mv rfl).op (by rw [up_j (by decide), a2.2.2.2.1, w32_id (by omega) (by omega)]; omega), rfl⟩
          · rw [if_neg h41] at et
            rw [if_neg h41, ci_of et, if_pos rfl, ci_of (r_wrong (by have := a2.1; omega) a2.2.1)]
            exact ⟨_, _, (hS1.tr a1).up rfl, up_same, ⟨q', hl1.2, by rw [up_j (by decide), a2.2.1]⟩, rfl⟩
    by_cases h33 : p_at b n q = 33
    · have hps : p_s b n (f + 1) 5 o q = (if 8 ≤ o then .inl q else match p_s b n f 5 (o + 1) (q + 1) with
        | .inl e => .inl e
        | .inr (q', c, v) => .inr (q', c ++ [20033], fun N => if v N = 0 then 1 else 0)) := by
        simp only [p_s]
        rw [if_neg hd, if_neg h40, if_pos h33]
        rfl
      have h54 := hs.2.2.2.1
      rw [hps, if_pos h33]
      by_cases h8 : 8 ≤ o
      · rw [if_pos (show σ 51 0 54 = 8 by omega), if_pos h8, ci_of ew]
        exact ⟨_, _, Sc.rf.up rfl, up_same, ⟨q, hq, by rw [up_j (by decide), hs.2.1]⟩, rfl⟩
      · have i1 := ih 5 (o + 1) (q + 1) σm (by omega) (by omega) (by omega) hmv (by omega)
        rw [if_neg (show ¬ σ 51 0 54 = 8 by omega), if_neg h8, if_neg h40]
        cases hp : p_s b n f 5 (o + 1) (q + 1) with
        | inl e =>
          rw [hp] at i1
          obtain ⟨σ2, x, a1, a2, a3, a4⟩ := i1
          have a4 : t_run tbl mtb (d + f + 4) 170 [vh 51 0] σm = some (some (vi x), σ2) := a4
          have hz : ∃ z : Nat, z ≤ n ∧ t_upd σ2 51 0 54 (w32 (σ2 51 0 54 - 1)) 51 0 51 = z := by obtain ⟨z, z1, z2⟩ := a3; exact ⟨z, z1, by rw [up_j (by decide), z2]⟩
          have hfa : t_upd σ2 51 0 54 (w32 (σ2 51 0 54 - 1)) 51 0 53 = (e : Int) := by rw [up_j (by decide), a2]
          rw [ci_of a4, if_neg h40, if_neg h40]
          have fin : ∀ y, RQ b n N σ o (t_out (t_nx (t_run tbl mtb (d + f + 4)) 170 999999 (some (.inr (some (vi y), t_upd σ2 51 0 54 (w32 (σ2 51 0 54 - 1))))))) (.inl e) := fun y => ⟨_, _, (hS1.tr a1).up rfl, hfa, hz, rfl⟩
          rw [if_neg (show ¬ p_at b n q = 45 by omega)]
          by_cases hx : x = 0
          · rw [if_pos hx]
            exact fin _
          · rw [if_neg hx]
            exact fin _
        | inr s =>
          obtain ⟨q', c, v⟩ := s
          rw [hp] at i1
          obtain ⟨σ2, a1, a2, a3⟩ := i1
          have a3 : t_run tbl mtb (d + f + 4) 170 [vh 51 0] σm = some (some (vi (v N)), σ2) := a3
          have hfin : Sr b n N (t_upd σ2 51 0 54 (w32 (σ2 51 0 54 - 1))) q' o := a2.op (by rw [a2.2.2.2.1, w32_id (by omega) (by omega)]; omega)
          rw [ci_of a3, if_neg h40, if_neg h40]
          simp only []
          rw [if_neg (by omega)]
          refine ⟨_, (hS1.tr a1).up rfl, hfin, ?_⟩
          by_cases hv0 : v N = 0
          · rw [if_pos hv0]
            simp only [if_pos hv0]
            rfl
          · rw [if_neg hv0]
            simp only [if_neg hv0]
            rfl
    by_cases h45 : p_at b n q = 45
    · have hps : p_s b n (f + 1) 5 o q = (if 8 ≤ o then .inl q else match p_s b n f 5 (o + 1) (q + 1) with
        | .inl e => .inl e
        | .inr (q', c, v) => .inr (q', c ++ [20126], fun N => w32 (-(v N)))) := by
        simp only [p_s]
        rw [if_neg hd, if_neg h40, if_neg h33, if_pos h45]
        rfl
      have h54 := hs.2.2.2.1
      rw [hps, if_neg h33, if_pos h45]
      by_cases h8 : 8 ≤ o
      · rw [if_pos (show σ 51 0 54 = 8 by omega), if_pos h8, ci_of ew]
        exact ⟨_, _, Sc.rf.up rfl, up_same, ⟨q, hq, by rw [up_j (by decide), hs.2.1]⟩, rfl⟩
      · have i1 := ih 5 (o + 1) (q + 1) σm (by omega) (by omega) (by omega) hmv (by omega)
        rw [if_neg (show ¬ σ 51 0 54 = 8 by omega), if_neg h8, if_neg h40]
        cases hp : p_s b n f 5 (o + 1) (q + 1) with
        | inl e =>
          rw [hp] at i1
          obtain ⟨σ2, x, a1, a2, a3, a4⟩ := i1
          have a4 : t_run tbl mtb (d + f + 4) 170 [vh 51 0] σm = some (some (vi x), σ2) := a4
          have hz : ∃ z : Nat, z ≤ n ∧ t_upd σ2 51 0 54 (w32 (σ2 51 0 54 - 1)) 51 0 51 = z := by obtain ⟨z, z1, z2⟩ := a3; exact ⟨z, z1, by rw [up_j (by decide), z2]⟩
          have hfa : t_upd σ2 51 0 54 (w32 (σ2 51 0 54 - 1)) 51 0 53 = (e : Int) := by rw [up_j (by decide), a2]
          rw [ci_of a4, if_neg h40, if_neg h40]
          have fin : ∀ y, RQ b n N σ o (t_out (t_nx (t_run tbl mtb (d + f + 4)) 170 999999 (some (.inr (some (vi y), t_upd σ2 51 0 54 (w32 (σ2 51 0 54 - 1))))))) (.inl e) := fun y => ⟨_, _, (hS1.tr a1).up rfl, hfa, hz, rfl⟩
          rw [if_pos h45]
          exact fin _
        | inr s =>
          obtain ⟨q', c, v⟩ := s
          rw [hp] at i1
          obtain ⟨σ2, a1, a2, a3⟩ := i1
          have a3 : t_run tbl mtb (d + f + 4) 170 [vh 51 0] σm = some (some (vi (v N)), σ2) := a3
          have hfin : Sr b n N (t_upd σ2 51 0 54 (w32 (σ2 51 0 54 - 1))) q' o := a2.op (by rw [a2.2.2.2.1, w32_id (by omega) (by omega)]; omega)
          rw [ci_of a3, if_neg h40, if_neg h40]
          simp only []
          rw [if_pos h45]
          exact ⟨_, (hS1.tr a1).up rfl, hfin, rfl⟩
    have hps : p_s b n (f + 1) 5 o q = (if p_nm (p_at b n q) < 0 then .inl q else .inr (q + 1, [10000 + p_nm (p_at b n q)], fun N => N (p_nm (p_at b n q)).toNat)) := by
      simp only [p_s]
      rw [if_neg hd, if_neg h40, if_neg h33, if_neg h45]
    rw [hps, if_neg h33, if_neg h45, if_neg h40, ci_of (r_nameOf _)]
    by_cases hk : p_nm (p_at b n q) < 0
    · rw [if_pos hk, if_pos hk, nx_inl, r_fail (d := d + f + 3) hb hs hq hd 999998]
      exact ⟨_, _, Sc.rf.up rfl, up_same, ⟨q, hq, by rw [up_j (by decide), hs.2.1]⟩, rfl⟩
    · have hk2 := p_nm_ok (p_at b n q)
      rw [if_neg hk, if_neg hk, if_pos (by omega)]
      refine ⟨_, Sc.rf.up rfl, hs.mv (v := w32 (σ 51 0 51 + 1)) (by rw [hs.2.1, w32_nat (by omega)]), ?_⟩
      rw [up_k (by decide), hs.2.2.2.2.2 _ (by omega)]
      rfl
end
