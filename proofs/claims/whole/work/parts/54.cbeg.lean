-- the class's Moves: begin(), give()
def sb (k _ : Nat) : Bool := Nat.beq k 3 || (Nat.ble 5 k && Nat.ble k 16)
theorem sb_scr (k j : Nat) (h : scr k j = false) : sb k j = false := by
  unfold sb
  cases a : Nat.beq k 3 with
  | true => rw [Nat.eq_of_beq_eq_true a] at h; cases h
  | false =>
    cases b : (Nat.ble 5 k && Nat.ble k 16) with
    | false => rfl
    | true =>
      rw [Bool.and_eq_true] at b
      have b1 := Nat.le_of_ble_eq_true b.1
      have b2 := Nat.le_of_ble_eq_true b.2
      rcases (by omega : k = 5 ∨ k = 6 ∨ k = 7 ∨ k = 8 ∨ k = 9 ∨ k = 10 ∨ k = 11 ∨ k = 12 ∨ k = 13 ∨ k = 14 ∨ k = 15 ∨ k = 16) with rfl | rfl | rfl | rfl | rfl | rfl | rfl | rfl | rfl | rfl | rfl | rfl <;> cases h
theorem Sc.sb {σ σ' : TM} (h : Sc sb σ σ') : Sc scr σ σ' := h.mono sb_scr
section
variable {σ : TM} {V : TVw} {g : Int} {d : Nat}
/-- the moves' rows before k, begun -/
def BG (σ s : TM) (V : TVw) (g : Int) (k : Nat) : Prop := Sc sb σ s ∧ (∀ p, p < k → s 6 0 p = -1 ∧ s 8 0 p = 0 ∧ s 12 0 p = 0 ∧ s 7 0 p = -1)
/-- the members before k -/
def BM (s : TM) (V : TVw) (g : Int) (k : Nat) : Prop := s 3 0 2 = ((mlist (mIn V g) k).length : Int) ∧ (∀ m p, t_nth (mlist (mIn V g) k) m = some p → s 5 0 m = p) ∧ ∀ c : Nat, c < 48 → (∃ p : Nat, p < k ∧ mIn V g p = true ∧ V 66 p = c ∧ s 14 0 c = p) ∨ (s 14 0 c = -1 ∧ ∀ p, p < k → mIn V g p = true → V 66 p ≠ c)
theorem BG.nx {s s4 : TM} {k : Nat} (h : BG σ s V g k) (q : Sc sb s s4) (h1 : ∀ p, p < k → s4 6 0 p = s 6 0 p ∧ s4 8 0 p = s 8 0 p ∧ s4 12 0 p = s 12 0 p ∧ s4 7 0 p = s 7 0 p) (h2 : s4 6 0 k = -1 ∧ s4 8 0 k = 0 ∧ s4 12 0 k = 0 ∧ s4 7 0 k = -1) : BG σ s4 V g (k + 1) := by
  refine ⟨h.1.tr q, fun p hp => ?_⟩
  by_cases e : p = k
  · subst e; exact h2
  · obtain ⟨q1, q2, q3, q4⟩ := h1 p (by omega)
    rw [q1, q2, q3, q4]
    exact h.2 p (by omega)
set_option maxHeartbeats 4000000 in
theorem c_begin (h5 : crc σ V 5) (hI : Inv V) (hU : mU V g) : ∃ σ', Sc sb σ σ' ∧ (∀ p, p < 40 → σ' 6 0 p = -1 ∧ σ' 8 0 p = 0 ∧ σ' 12 0 p = 0 ∧ σ' 7 0 p = -1) ∧ σ' 3 0 2 = ((mlist (mIn V g) (nP V)).length : Int) ∧ (∀ m p, t_nth (mlist (mIn V g) (nP V)) m = some p → σ' 5 0 m = p) ∧ (∀ c : Nat, c < 48 → σ' 14 0 c = fat V g c) ∧ t_run tbl mtb (d + 1) 12 [vh 3 0, vi g, vi (V 51 23)] σ = some (none, σ') := by
  have h0 := hI.cnt
  rw [run_go (k := 12) (as := [vh 3 0, vi g, vi (V 51 23)]) mt_12 (Nat.ne_of_beq_eq_false rfl) rfl (s_kX4_begin_0 _ g (V 51 23) σ), nx_inl]
  obtain ⟨L1, s1, ⟨a1, rfl, a2, a3⟩, e1⟩ := loop_rel (O := t_run tbl mtb d) (k := 12) (pc := 7) (fun k L s => Sc sb σ s ∧ L = [some (vh 3 0), some (vi g), some (vi (V 51 23)), some (vi (k : Int))] ∧ s 3 0 2 = 0 ∧ ∀ c, c < k → s 14 0 c = -1) 48 (by
    rintro k L s hk ⟨b1, rfl, b2, b3⟩
    refine ⟨_, t_upd s 14 0 k (-1), ⟨b1.up rfl, rfl, by rw [up_k (by decide)]; exact b2, fun c hc => ?_⟩, fun n => ?_⟩
    · by_cases e : c = k
      · subst e; exact up_same
      · rw [up_j e]; exact b3 c (by omega)
    · rw [tr_step (s_kX4_begin_7 _ g (V 51 23) k s), if_pos (by omega), if_pos (by omega), Int.toNat_natCast, w32_nat (by omega)]
      rfl) 48 0 [some (vh 3 0), some (vi g), some (vi (V 51 23)), some (vi ((0 : Nat) : Int))] (t_upd σ 3 0 2 0) (by omega) ⟨Sc.rf.up rfl, rfl, up_same, fun c hc => by omega⟩
  obtain ⟨L2, s2', ⟨b1, rfl, b2⟩, e2⟩ := loop_rel (O := t_run tbl mtb d) (k := 12) (pc := 28) (fun k L s => BG σ s V g k ∧ L = [some (vh 3 0), some (vi g), some (vi (V 51 23)), some (vi (k : Int))] ∧ BM s V g k) (nP V) (by
    rintro k L s hk ⟨b1, rfl, c1, c2, c3⟩
    have r1 : 0 ≤ (k : Int) ∧ (k : Int) < 40 := by omega
    obtain ⟨p0, -, -, p3, -, -, p6⟩ := h5 k hk
    obtain ⟨-, -, y1, y2, -⟩ := hI 3 k hk
    have hl := mlist_le (mIn V g) k
    have q0 : s 17 k 0 = fgm V k := by rw [b1.1 17 k 0 rfl, p0]
    have q3 : s 17 k 3 = V 66 k := by rw [b1.1 17 k 3 rfl, p3]
    have q6 : s 17 k 6 = V 69 k := by rw [b1.1 17 k 6 rfl, p6]
    have st := fun N => tr_step (n := N) (s_kX4_begin_28 (t_run tbl mtb d) g (V 51 23) k s)
    simp only [t_upd_eq, Nat.reduceEqDiff, false_and, if_false, Int.toNat_natCast, if_pos r1, if_pos (show (k : Int) < 40 by omega), if_pos (show (k : Int) < V 51 23 by omega), q0, q3, q6, if_pos (show 0 ≤ V 66 k ∧ V 66 k < 48 from ⟨y1, y2⟩), c1, if_pos (show 0 ≤ ((mlist (mIn V g) k).length : Int) ∧ ((mlist (mIn V g) k).length : Int) < 40 by omega), w32_nat (show k < 2147483647 by omega), w32_nat (show (mlist (mIn V g) k).length < 2147483647 by omega)] at st
    have hno : mIn V g k = false → BG σ (t_upd (t_upd (t_upd (t_upd s 6 0 k (-1)) 8 0 k 0) 12 0 k 0) 7 0 k (-1)) V g (k + 1) ∧ [some (vh 3 0), some (vi g), some (vi (V 51 23)), some (vi (k + 1 : Int))] = [some (vh 3 0), some (vi g), some (vi (V 51 23)), some (vi ((k + 1 : Nat) : Int))] ∧ BM (t_upd (t_upd (t_upd (t_upd s 6 0 k (-1)) 8 0 k 0) 12 0 k 0) 7 0 k (-1)) V g (k + 1) := by
      intro hi
      refine ⟨b1.nx ((((Sc.rf.up rfl).up rfl).up rfl).up rfl) (fun p hp => ?_) ?_, rfl, ?_, ?_, fun c hc => ?_⟩
      · have e : p ≠ k := by omega
        refine ⟨?_, ?_, ?_, ?_⟩ <;> simp [t_upd_eq, e]
      · refine ⟨?_, ?_, ?_, ?_⟩ <;> simp [t_upd_eq]
      · rw [mlist_no _ hi]; simp [t_upd_eq, c1]
      · intro m p hm
        rw [mlist_no _ hi] at hm
        rw [← c2 m p hm]; simp [t_upd_eq]
      · rcases c3 c hc with ⟨p, z1, z2, z3, z4⟩ | ⟨z1, z2⟩
        · exact .inl ⟨p, by omega, z2, z3, by rw [← z4]; simp [t_upd_eq]⟩
        · refine .inr ⟨by rw [← z1]; simp [t_upd_eq], fun p hp hi2 => ?_⟩
          by_cases e : p = k
          · subst e; rw [hi] at hi2; cases hi2
          · exact z2 p (by omega) hi2
    by_cases z1 : fgm V k = g
    · simp only [if_pos z1] at st
      by_cases z2 : V 69 k = 0
      · simp only [if_pos z2] at st
        have hi : mIn V g k = true := by
          unfold mIn
          rw [decide_eq_true_eq]
          exact ⟨z2, z1⟩
        obtain ⟨m1, m2⟩ := mlist_at (mIn V g) (n := k + 1) (Nat.lt_succ_self k) hi
        refine ⟨_, _, ⟨b1.nx (((((((Sc.rf.up rfl).up rfl).up rfl).up rfl).up rfl).up rfl).up rfl) (fun p hp => ?_) ?_, rfl, ?_, ?_, fun c hc => ?_⟩, st⟩
        · have e : p ≠ k := by omega
          refine ⟨?_, ?_, ?_, ?_⟩ <;> simp [t_upd_eq, e]
        · refine ⟨?_, ?_, ?_, ?_⟩ <;> simp [t_upd_eq]
        · rw [m2, up_same]
        · intro m p hm
          have e : mlist (mIn V g) (k + 1) = mlist (mIn V g) k ++ [k] := by rw [mlist, if_pos hi]
          have hm' := hm
          rw [e] at hm
          rcases t_nth_snoc _ _ _ _ hm with q | ⟨q1, q2⟩
          · have hlt := t_nth_lt _ _ _ q
            rw [← c2 m p q, up_k (by decide), up_j (by omega), up_k (by decide), up_k (by decide), up_k (by decide), up_k (by decide), up_k (by decide)]
          · subst q2
            rw [up_k (by decide), q1, up_same]
        · by_cases e : c = (V 66 k).toNat
          · refine .inl ⟨k, Nat.lt_succ_self k, hi, by omega, ?_⟩
            rw [up_k (by decide), up_k (by decide), e, up_same]
          · rcases c3 c hc with ⟨p, z1, z2, z3, z4⟩ | ⟨z1, z2⟩
            · exact .inl ⟨p, by omega, z2, z3, by rw [up_k (by decide), up_k (by decide), up_j e, up_k (by decide), up_k (by decide), up_k (by decide), up_k (by decide)]; exact z4⟩
            · refine .inr ⟨by rw [up_k (by decide), up_k (by decide), up_j e, up_k (by decide), up_k (by decide), up_k (by decide), up_k (by decide)]; exact z1, fun p hp hi2 => ?_⟩
              by_cases e2 : p = k
              · subst e2; omega
              · exact z2 p (by omega) hi2
      · simp only [if_neg z2] at st
        exact ⟨_, _, hno (by unfold mIn; exact decide_eq_false (fun q => z2 q.1)), st⟩
    · simp only [if_neg z1] at st
      exact ⟨_, _, hno (by unfold mIn; exact decide_eq_false (fun q => z1 q.2)), st⟩) (nP V) 0 [some (vh 3 0), some (vi g), some (vi (V 51 23)), some (vi ((0 : Nat) : Int))] s1 (by omega) ⟨⟨a1, fun p hp => by omega⟩, rfl, a2, (by intro m p hm; cases hm), (fun c hc => Or.inr ⟨a3 c hc, fun p hp => by omega⟩)⟩
  obtain ⟨L3, s3, ⟨c1, rfl, c2⟩, e3⟩ := loop_rel (O := t_run tbl mtb d) (k := 12) (pc := 28) (fun k L s => BG σ s V g k ∧ L = [some (vh 3 0), some (vi g), some (vi (V 51 23)), some (vi (k : Int))] ∧ nP V ≤ k ∧ BM s V g (nP V)) 40 (by
    rintro k L s hk ⟨b1, rfl, b0, c1, c2, c3⟩
    have r1 : 0 ≤ (k : Int) ∧ (k : Int) < 40 := by omega
    have st := fun N => tr_step (n := N) (s_kX4_begin_28 (t_run tbl mtb d) g (V 51 23) k s)
    simp only [Int.toNat_natCast, if_pos r1, if_pos (show (k : Int) < 40 by omega), if_neg (show ¬ (k : Int) < V 51 23 by omega), w32_nat (show k < 2147483647 by omega)] at st
    refine ⟨_, _, ⟨b1.nx ((((Sc.rf.up rfl).up rfl).up rfl).up rfl) (fun p hp => ?_) ?_, rfl, by omega, ?_, ?_, fun c hc => ?_⟩, st⟩
    · have e : p ≠ k := by omega
      refine ⟨?_, ?_, ?_, ?_⟩ <;> simp [t_upd_eq, e]
    · refine ⟨?_, ?_, ?_, ?_⟩ <;> simp [t_upd_eq]
    · rw [← c1]; simp [t_upd_eq]
    · intro m p hm
      rw [← c2 m p hm]; simp [t_upd_eq]
    · have e : t_upd (t_upd (t_upd (t_upd s 6 0 k (-1)) 8 0 k 0) 12 0 k 0) 7 0 k (-1) 14 0 c = s 14 0 c := by simp [t_upd_eq]
      rw [e]
      exact c3 c hc) (40 - nP V) (nP V) [some (vh 3 0), some (vi g), some (vi (V 51 23)), some (vi (nP V : Int))] s2' (by omega) ⟨b1, rfl, Nat.le_refl _, b2⟩
  obtain ⟨-, d1, d2, d3⟩ := c2
  refine ⟨s3, c1.1, c1.2, d1, d2, fun c hc => ?_, ?_⟩
  · rcases d3 c hc with ⟨p, z1, z2, z3, z4⟩ | ⟨z1, z2⟩
    · rw [z4]
      exact ((fat_iff hI hU c z1).mpr ⟨z2, z3⟩).symm
    · rw [z1]
      rcases fat_in (V := V) (g := g) (c := c) with q | ⟨p, q, q1, q2, q3⟩
      · exact q.symm
      · exact absurd q3 (z2 p q1 q2)
  · obtain ⟨N, hN⟩ : ∃ N, 999999 = N + 1 + (40 - nP V) + nP V + 1 + 48 := ⟨999999 - (40 - nP V + nP V + 50), by omega⟩
    have e1 := e1 (N + 1 + (40 - nP V) + nP V + 1)
    have e1 : t_tr tbl mtb (t_run tbl mtb d) 12 (N + 1 + (40 - nP V) + nP V + 1 + 48) 7 [some (vh 3 0), some (vi g), some (vi (V 51 23)), some (vi 0)] [] (t_upd σ 3 0 2 0) = _ := e1
    have e2 := e2 (N + 1 + (40 - nP V))
    have e2 : t_tr tbl mtb (t_run tbl mtb d) 12 (N + 1 + (40 - nP V) + nP V) 28 [some (vh 3 0), some (vi g), some (vi (V 51 23)), some (vi 0)] [] s1 = _ := e2
    rw [hN, e1, tr_step (s_kX4_begin_7 _ g (V 51 23) ((48 : Nat) : Int) s1), if_neg (by decide), nx_inl, e2, e3, tr_step (s_kX4_begin_28 _ g (V 51 23) ((40 : Nat) : Int) s3), if_neg (by decide)]
    rfl
end
