-- THE ORDER of a piece
theorem fat_r (V : TVw) (g c : Int) : fat V g c = -1 ∨ 0 ≤ fat V g c ∧ fat V g c < nP V := by
  unfold fat
  rcases fF_range (fatP V g c) (nP V) 0 with h | ⟨q, h, h1, h2, -⟩
  · exact .inl h
  · rw [h]
    exact .inr ⟨by omega, by omega⟩
section
variable {σ : TM} {V : TVw} {d : Nat}
theorem r_isOrderly (hV : RV σ V) (hI : Inv V) {o : Nat} (ho : o < nO V) (t : Int) : ∃ σ', Sc s2 σ σ' ∧ t_run tbl mtb (d + 69) 202 [vh 51 0, vi o, vi t, vi (V 51 0)] σ = some (some (vi (bi (fok V o t))), σ') := by
  have h0 := hI.cnt
  obtain ⟨j1, j2, j3, j4, j5, j6⟩ := hI 11 o ho
  have r1 : 0 ≤ (o : Int) ∧ (o : Int) < 300 := by omega
  obtain ⟨σ1, a1, a2⟩ := r_isFor (d := d) hV hI ho t
  have v1 := hV.sc a1.s2
  rw [run_go (k := 202) (as := [vh 51 0, vi o, vi t, vi (V 51 0)]) mt_202 (Nat.ne_of_beq_eq_false rfl) rfl (s_kX12_isOrderly_0 _ o t (V 51 0) σ)]
  simp only [Int.toNat_natCast, if_pos r1, show ∀ j, σ 89 0 j = V 89 j from fun j => hV 89 j rfl rfl rfl]
  rw [ci_of a2]
  simp only [bi_0, show ∀ j, σ1 69 0 j = V 69 j from fun j => v1 69 j rfl rfl rfl, show ∀ j, σ1 90 0 j = V 90 j from fun j => v1 90 j rfl rfl rfl, show ∀ j, σ1 91 0 j = V 91 j from fun j => v1 91 j rfl rfl rfl]
  unfold fok
  cases hf : ffo V o t with
  | false =>
    rw [if_pos rfl]
    exact ⟨σ1, a1, rfl⟩
  | true =>
    have w6 : V 87 o ≠ 6 := by
      intro q
      have : ffo V o t = false := by
        unfold ffo
        simp [q]
      rw [this] at hf
      cases hf
    obtain ⟨p1, p2, p3, p4, p5, p6, p7⟩ := j6 w6
    have hp : (V 89 o).toNat < nP V := by omega
    rw [if_neg (by decide), if_pos (by omega)]
    by_cases hg : V 69 (V 89 o).toNat = 0
    · have hcb := r_canBe (d := d + 64) v1 hI hp (w := V 90 o) (t := V 91 o) p6 (fun q => ⟨(p7 q).1, (p7 q).2.1⟩)
      rw [Int.toNat_of_nonneg p1] at hcb
      rw [if_pos hg, ci_of hcb]
      simp only [bi_0]
      cases hcbv : fcb V (V 89 o).toNat (V 90 o) (V 91 o) with
      | false =>
        rw [if_pos rfl]
        refine ⟨σ1, a1, ?_⟩
        simp
        rfl
      | true =>
        obtain ⟨σ2, b1, b2⟩ := r_mayBe (d := d + 1) v1 hI hp (w := V 90 o) (a := V 91 o) (t := t) p6
        rw [Int.toNat_of_nonneg p1] at b2
        rw [if_neg (by decide)]
        simp only [show ∀ j, σ1 90 0 j = V 90 j from fun j => v1 90 j rfl rfl rfl, show ∀ j, σ1 91 0 j = V 91 j from fun j => v1 91 j rfl rfl rfl]
        rw [ci_of b2]
        simp only [bi_0]
        refine ⟨σ2, a1.tr b1, ?_⟩
        rw [show decide (V 69 (V 89 o).toNat = 0) = true from decide_eq_true hg]
        cases fmy V (V 89 o).toNat (V 90 o) (V 91 o) t <;> rfl
    · rw [if_neg hg]
      refine ⟨σ1, a1, ?_⟩
      rw [show decide (V 69 (V 89 o).toNat = 0) = false from decide_eq_false hg]
      simp
      rfl
theorem c_holdsGood (h : CR σ V) {o : Nat} (ho : o < nO V) (t : Int) : ∃ σ', Sc s1 σ σ' ∧ t_run tbl mtb (d + 5) 104 [vh 0 0, vh 45 o, vi t] σ = some (some (vi (bi (fgd V o t))), σ') := by
  have h0 := h.cnt
  obtain ⟨j1, j2, j3, j4, j5, j6⟩ := h.inv 11 o ho
  obtain ⟨m1, m2, m3, m4, m5⟩ := h.inv 12 o ho
  obtain ⟨σ1, a1, a2⟩ := c_fits (d := d) h ho t
  have h1 := h.sc a1.s1
  obtain ⟨e, -⟩ := h1 11 o (by omega)
  obtain ⟨e0, e1, e2, e3, e4, e5, e6⟩ := e ho
  rw [run_go (k := 104) (as := [vh 0 0, vh 45 o, vi t]) mt_104 (Nat.ne_of_beq_eq_false rfl) rfl (s_kX11_holdsGood_0 _ o t σ), ci_of a2]
  simp only [bi_0]
  unfold fgd
  cases hf : fok V o t with
  | false =>
    rw [if_pos rfl]
    exact ⟨σ1, a1, rfl⟩
  | true =>
    have w6 : V 87 o ≠ 6 := by
      intro q
      have : fok V o t = false := by
        unfold fok ffo
        simp [q]
      rw [this] at hf
      cases hf
    obtain ⟨p1, p2, p3, p4, p5, p6, p7⟩ := j6 w6
    have hp : (V 89 o).toNat < nP V := by omega
    rw [if_neg (by decide), e1, Bool.true_and]
    by_cases w2 : V 87 o = 2
    · obtain ⟨z0, -⟩ := h1 5 (V 89 o).toNat hp
      have hq := fat_r V (fgm V (V 89 o).toNat) (V 92 o)
      rw [if_pos w2, if_pos w2, e2, if_pos (by omega), z0, e5, ci_of (c_pieceIn h1 _ _), e6]
      refine ⟨σ1, a1, ?_⟩
      (repeat' split) <;> exact leaf_b (by omega)
    · rw [if_neg w2, if_neg w2]
      by_cases w4 : V 87 o = 4
      · have m3 := m3 w4
        rw [if_pos w4, if_pos w4, e5, ci_of (c_isOrder h1 _)]
        simp only [bi_0, decide_eq_false_iff_not]
        by_cases q1 : V 92 o < V 51 49
        · obtain ⟨f, -⟩ := h1 11 (V 92 o).toNat (by omega)
          obtain ⟨f0, f1, f2, f3, f4, f5, f6⟩ := f (by omega)
          rw [if_neg (by omega), e5, if_pos (by omega), f1]
          by_cases q2 : V 87 (V 92 o).toNat = 4
          · rw [if_pos q2, f5, ci_of (c_isOrder h1 _)]
            simp only [bi_0, decide_eq_false_iff_not]
            by_cases q3 : V 92 (V 92 o).toNat = (o : Int)
            · obtain ⟨σ2, b1, b2⟩ := c_fits (d := d) h1 (o := (V 92 o).toNat) (by omega) t
              rw [if_neg (by omega), f5, if_pos (show 0 ≤ V 92 (V 92 o).toNat ∧ V 92 (V 92 o).toNat < 300 by omega), if_pos (show True ∧ (V 92 (V 92 o).toNat).toNat = o from ⟨trivial, by omega⟩), ci_of b2]
              simp only [bi_0]
              refine ⟨σ2, a1.tr b1, ?_⟩
              rw [show decide (V 92 o < V 51 49 ∧ V 87 (V 92 o).toNat = 4 ∧ V 92 (V 92 o).toNat = (o : Int)) = true from decide_eq_true ⟨q1, q2, q3⟩]
              cases fok V (V 92 o).toNat t <;> rfl
            · rw [show decide (V 92 o < V 51 49 ∧ V 87 (V 92 o).toNat = 4 ∧ V 92 (V 92 o).toNat = (o : Int)) = false from decide_eq_false (fun q => q3 q.2.2)]
              refine ⟨σ1, a1, ?_⟩
              rw [f5]
              split
              · rfl
              · rw [if_pos (by omega), if_neg (fun q => q3 (by have := q.2; omega))]
                rfl
          · rw [if_neg q2, show decide (V 92 o < V 51 49 ∧ V 87 (V 92 o).toNat = 4 ∧ V 92 (V 92 o).toNat = (o : Int)) = false from decide_eq_false (fun q => q2 q.2.1)]
            exact ⟨σ1, a1, rfl⟩
        · rw [if_pos (by omega), show decide (V 92 o < V 51 49 ∧ V 87 (V 92 o).toNat = 4 ∧ V 92 (V 92 o).toNat = (o : Int)) = false from decide_eq_false (fun q => q1 q.1)]
          exact ⟨σ1, a1, rfl⟩
      · rw [if_neg w4, if_neg w4]
        exact ⟨σ1, a1, rfl⟩
theorem ford_r (V : TVw) (p t : Int) : ford V p t = -1 ∨ ∃ o : Nat, ford V p t = (o : Int) ∧ o < nO V ∧ V 89 o = p ∧ fgd V o t = true := by
  unfold ford
  rcases fL_range (fun o => decide (V 89 o = p) && fgd V o t) (nO V) with h | ⟨q, h, h1, h2⟩
  · exact .inl h
  · simp only [Bool.and_eq_true, decide_eq_true_eq] at h2
    exact .inr ⟨q, h, h1, h2⟩
theorem c_orderOf (h : CR σ V) (p : Int) : ∃ σ', Sc s1 σ σ' ∧ t_run tbl mtb (d + 6) 95 [vh 0 0, vi p] σ = some (some (vi (if 0 ≤ p ∧ p < V 51 23 then ford V p (V 54 (fgm V p.toNat).toNat) else -2000000000)), σ') := by
  have h0 := h.cnt
  rw [run_go (k := 95) (as := [vh 0 0, vi p]) mt_95 (Nat.ne_of_beq_eq_false rfl) rfl (s_kX11_orderOf_0 _ p σ), ci_of (c_isPiece h p)]
  simp only [bi_0, decide_eq_false_iff_not]
  by_cases hp : ¬(0 ≤ p ∧ p < V 51 23)
  · rw [if_pos hp, if_neg hp]
    exact ⟨σ, Sc.rf, rfl⟩
  have hp2 : 0 ≤ p ∧ p < V 51 23 := Decidable.not_not.mp hp
  have hpn : p.toNat < nP V := by omega
  obtain ⟨z0, -⟩ := h 5 p.toNat hpn
  have hg := gm_r h.inv hpn
  obtain ⟨g2, -⟩ := h 1 (fgm V p.toNat).toNat (by omega)
  rw [if_neg hp, if_pos (by omega), z0, if_pos (by omega), g2, if_pos hp2, nx_inl, h.no, w32_id (by omega) (by omega)]
  generalize V 54 (fgm V p.toNat).toNat = T
  obtain ⟨r, ⟨σ', hr1, hr2⟩, hr3⟩ := loop_ex (O := t_run tbl mtb (d + 5)) (k := 95) (pc := 36) (fun i L s => Sc s1 σ s ∧ L = [some (vh 0 0), some (vi p), some (vi T), some (vi ((nO V : Int) - 1 - i))] ∧ ford V p T = fL (fun o => decide (V 89 o = p) && fgd V o T) (nO V - i)) (fun r => ∃ s, Sc s1 σ s ∧ r = (some (vi (ford V p T)), s)) (nO V) (by
    rintro i L s hi ⟨hS, rfl, hf⟩
    rw [show nO V - i = nO V - (i + 1) + 1 by omega, fL] at hf
    have e1 : (nO V : Int) - 1 - i = ((nO V - (i + 1) : Nat) : Int) := by omega
    have e2 : w32 (((nO V - (i + 1) : Nat) : Int) + (-1)) = (nO V : Int) - 1 - ((i + 1 : Nat) : Int) := by rw [w32_id (by omega) (by omega)]; omega
    have hs := h.sc hS.s1
    obtain ⟨f, -⟩ := hs 11 (nO V - (i + 1)) (by omega)
    obtain ⟨f0, f1, f2, f3, f4, f5, f6⟩ := f (by omega)
    rw [e1]
    by_cases q1 : V 89 (nO V - (i + 1)) = p
    · obtain ⟨σ2, b1, b2⟩ := c_holdsGood (d := d) hs (o := nO V - (i + 1)) (by omega) T
      cases q2 : fgd V (nO V - (i + 1)) T with
      | true =>
        rw [q2, if_pos (by simp [q1])] at hf
        refine .inr ⟨_, ⟨σ2, hS.tr b1, rfl⟩, fun n => ?_⟩
        rw [tr_step (s_kX11_orderOf_36 _ p T ((nO V - (i + 1) : Nat) : Int) s), if_neg (by omega), if_pos (by omega), Int.toNat_natCast, f2, if_pos q1, if_pos (by omega), ci_of b2, q2, if_neg (by decide), hf]
        rfl
      | false =>
        rw [q2, if_neg (by simp)] at hf
        refine .inl ⟨_, σ2, ⟨hS.tr b1, rfl, hf⟩, fun n => ?_⟩
        rw [tr_step (s_kX11_orderOf_36 _ p T ((nO V - (i + 1) : Nat) : Int) s), if_neg (by omega), if_pos (by omega), Int.toNat_natCast, f2, if_pos q1, if_pos (by omega), ci_of b2, q2, if_pos (by decide), e2]
        rfl
    · rw [if_neg (by simp [q1])] at hf
      refine .inl ⟨_, s, ⟨hS, rfl, hf⟩, fun n => ?_⟩
      rw [tr_step (s_kX11_orderOf_36 _ p T ((nO V - (i + 1) : Nat) : Int) s), if_neg (by omega), if_pos (by omega), Int.toNat_natCast, f2, if_neg q1, e2]
      rfl) (by
    rintro L s ⟨hS, rfl, hf⟩
    rw [Nat.sub_self] at hf
    refine ⟨_, ⟨s, hS, rfl⟩, fun n => ?_⟩
    rw [tr_step (s_kX11_orderOf_36 _ p T _ s), if_pos (by omega), hf]
    rfl) (nO V) 0 [some (vh 0 0), some (vi p), some (vi T), some (vi (V 51 49 - 1))] σ 999999 (by omega) ⟨Sc.rf, by rw [show (nO V : Int) - 1 - ((0 : Nat) : Int) = V 51 49 - 1 by omega], rfl⟩ (by omega)
  refine ⟨σ', hr1, ?_⟩
  rw [hr3, hr2]
  rfl
set_option maxHeartbeats 4000000 in
theorem r_orderFor (hV : RV σ V) (hI : Inv V) {p : Nat} (hp : p < nP V) (t : Int) : ∃ σ', Sc s2 σ σ' ∧ t_run tbl mtb (d + 70) 203 [vh 51 0, vi p, vi t, vi (V 51 0)] σ = some (some (vi (ford V p t)), σ') := by
  have h0 := hI.cnt
  rw [run_go (k := 203) (as := [vh 51 0, vi p, vi t, vi (V 51 0)]) mt_203 (Nat.ne_of_beq_eq_false rfl) rfl (s_kX12_orderFor_0 _ p t (V 51 0) σ), nx_inl, hV 51 49 rfl rfl rfl, w32_id (by omega) (by omega)]
  have hfin : ∀ (v5 : Int) (x : Int) (s : TM) (n : Nat), 0 ≤ x → t_tr tbl mtb (t_run tbl mtb (d + 69)) 203 (n + 1) 11 [some (vh 51 0), some (vi p), some (vi t), some (vi (V 51 0)), some (vi x), some (vi v5), none, none] [] s = some (.inr (some (vi x), s)) := by
    intro v5 x s n hx
    rw [tr_step (s_kX12_orderFor_11 _ p t (V 51 0) x v5 s)]
    by_cases h5 : v5 < 0
    · rw [if_pos h5]
      rfl
    · rw [if_neg h5, if_neg (by omega)]
      rfl
  obtain ⟨r, ⟨σ', hr1, hr2⟩, hr3⟩ := loop_exs (s := 2) (O := t_run tbl mtb (d + 69)) (k := 203) (pc := 11) (fun i L s => Sc s2 σ s ∧ L = [some (vh 51 0), some (vi p), some (vi t), some (vi (V 51 0)), some (vi (-1)), some (vi ((nO V : Int) - 1 - i)), none, none] ∧ ford V p t = fL (fun o => decide (V 89 o = (p : Int)) && fgd V o t) (nO V - i)) (fun r => ∃ s, Sc s2 σ s ∧ r = (some (vi (ford V p t)), s)) (nO V) (by
    rintro i L s hi ⟨hS, rfl, hf⟩
    rw [show nO V - i = nO V - (i + 1) + 1 by omega, fL] at hf
    have e1 : (nO V : Int) - 1 - i = ((nO V - (i + 1) : Nat) : Int) := by omega
    have e2 : w32 (((nO V - (i + 1) : Nat) : Int) + (-1)) = (nO V : Int) - 1 - ((i + 1 : Nat) : Int) := by rw [w32_id (by omega) (by omega)]; omega
    have ho : nO V - (i + 1) < nO V := by omega
    rw [e1]
    rw [← e2]
    generalize nO V - (i + 1) = o at *
    have hs := hV.sc hS.s2
    have r1 : 0 ≤ (o : Int) ∧ (o : Int) < 300 := by omega
    obtain ⟨σ1, a1, a2⟩ := r_isOrderly (d := d) hs hI ho t
    have v1 := hs.sc a1.s2
    have hS1 := hS.tr a1
    obtain ⟨j1, j2, j3, j4, j5, j6⟩ := hI 11 o ho
    obtain ⟨m1, m2, m3, m4, m5⟩ := hI 12 o ho
    have st := fun n => tr_step (n := n) (s_kX12_orderFor_11 (t_run tbl mtb (d + 69)) p t (V 51 0) (-1) o s )
    simp only [Int.toNat_natCast, if_pos r1, if_neg (show ¬ (o : Int) < 0 by omega), if_pos (show (-1 : Int) < 0 by decide), hs 89 o rfl rfl rfl] at st
    by_cases q1 : V 89 o = (p : Int)
    · simp only [if_pos q1, a2, ci_ok, bi_0, v1 87 o rfl rfl rfl, v1 92 o rfl rfl rfl] at st
      cases q2 : fok V o t with
      | false =>
        have q3 : fgd V o t = false := by
          unfold fgd
          rw [q2]
          rfl
        rw [q3, if_neg (by simp)] at hf
        rw [q2] at st
        simp only [if_true] at st
        exact .inl ⟨_, σ1, ⟨hS1, rfl, hf⟩, fun n => st n⟩
      | true =>
        rw [q2] at st
        simp only [if_neg (show ¬ true = false by decide)] at st
        have w6 : V 87 o ≠ 6 := by
          intro q
          have : fok V o t = false := by
            unfold fok ffo
            simp [q]
          rw [this] at q2
          cases q2
        by_cases w2 : V 87 o = 2
        · have hq := fat_r V (fgm V p) (V 92 o)
          have e5 : t_run tbl mtb (d + 69) 148 [vh 51 0, vi (fgm V p), vi (V 92 o)] σ1 = some (some (vi (fat V (fgm V p) (V 92 o))), σ1) := r_pieceAt (d := d + 67) v1 hI _ _
          have e6 : t_run tbl mtb (d + 69) 145 [vh 51 0, vi p] σ1 = some (some (vi (fgm V p)), σ1) := r_gameOf (d := d + 68) v1 hI hp
          simp only [if_pos w2, e6, ci_ok, v1 92 o rfl rfl rfl, e5, v1 93 o rfl rfl rfl] at st
          have q3 : fgd V o t = decide (fat V (fgm V p) (V 92 o) < 0 ↔ V 93 o = 1) := by
            unfold fgd
            rw [q2, if_pos w2, q1]
            rfl
          rw [q3] at hf
          by_cases q4 : fat V (fgm V p) (V 92 o) < 0
          · simp only [if_pos q4] at st
            by_cases q5 : V 93 o = 1
            · simp only [if_pos q5] at st
              rw [if_pos (by simp [q1, q4, q5])] at hf
              exact .inr ⟨_, ⟨σ1, hS1, rfl⟩, fun n => by rw [st (n + 1), nx_inl, hfin _ _ _ _ r1.1, hf]⟩
            · simp only [if_neg q5] at st
              rw [if_neg (by simp [q4, q5])] at hf
              exact .inl ⟨_, σ1, ⟨hS1, rfl, hf⟩, fun n => st n⟩
          · simp only [if_neg q4] at st
            by_cases q5 : V 93 o = 1
            · simp only [if_pos q5] at st
              rw [if_neg (by simp [q4, q5])] at hf
              exact .inl ⟨_, σ1, ⟨hS1, rfl, hf⟩, fun n => st n⟩
            · simp only [if_neg q5] at st
              rw [if_pos (by simp [q1, q4, q5])] at hf
              exact .inr ⟨_, ⟨σ1, hS1, rfl⟩, fun n => by rw [st (n + 1), nx_inl, hfin _ _ _ _ r1.1, hf]⟩
        · simp only [if_neg w2] at st
          by_cases w4 : V 87 o = 4
          · have m3 := m3 w4
            have e5 : t_run tbl mtb (d + 69) 194 [vh 51 0, vi (V 92 o)] σ1 = some (some (vi (bi (decide (0 ≤ V 92 o ∧ V 92 o < V 51 49)))), σ1) := r_isOrder (d := d + 68) v1 _
            simp only [if_pos w4, e5, ci_ok, bi_0, decide_eq_false_iff_not] at st
            have q3 : fgd V o t = (decide (V 92 o < V 51 49 ∧ V 87 (V 92 o).toNat = 4 ∧ V 92 (V 92 o).toNat = (o : Int)) && fok V (V 92 o).toNat t) := by
              unfold fgd
              rw [q2, if_neg w2, if_pos w4]
              rfl
            rw [q3] at hf
            by_cases z1 : V 92 o < V 51 49
            · have z1' : ¬ ¬(0 ≤ V 92 o ∧ V 92 o < V 51 49) := by omega
              have r3 : 0 ≤ V 92 o ∧ V 92 o < 300 := by omega
              simp only [if_neg z1', if_pos r3, v1 87 (V 92 o).toNat rfl rfl rfl, v1 92 (V 92 o).toNat rfl rfl rfl] at st
              by_cases z2 : V 87 (V 92 o).toNat = 4
              · simp only [if_pos z2] at st
                by_cases z3 : V 92 (V 92 o).toNat = (o : Int)
                · obtain ⟨σ2, b1, b2⟩ := r_isOrderly (d := d) v1 hI (o := (V 92 o).toNat) (by omega) t
                  rw [Int.toNat_of_nonneg m3.1] at b2
                  simp only [if_pos z3, b2, ci_ok, bi_0] at st
                  cases z4 : fok V (V 92 o).toNat t with
                  | false =>
                    rw [z4] at st hf
                    simp only [if_true] at st
                    rw [if_neg (by simp)] at hf
                    exact .inl ⟨_, σ2, ⟨hS1.tr b1, rfl, hf⟩, fun n => st n⟩
                  | true =>
                    rw [z4] at st hf
                    simp only [if_neg (show ¬ true = false by decide)] at st
                    rw [if_pos (by simp [q1, z1, z2, z3])] at hf
                    exact .inr ⟨_, ⟨σ2, hS1.tr b1, rfl⟩, fun n => by rw [st (n + 1), nx_inl, hfin _ _ _ _ r1.1, hf]⟩
                · simp only [if_neg z3] at st
                  rw [if_neg (by simp [z3])] at hf
                  exact .inl ⟨_, σ1, ⟨hS1, rfl, hf⟩, fun n => st n⟩
              · simp only [if_neg z2] at st
                rw [if_neg (by simp [z2])] at hf
                exact .inl ⟨_, σ1, ⟨hS1, rfl, hf⟩, fun n => st n⟩
            · have z1' : ¬(0 ≤ V 92 o ∧ V 92 o < V 51 49) := by omega
              simp only [if_pos z1'] at st
              rw [if_neg (by simp [z1])] at hf
              exact .inl ⟨_, σ1, ⟨hS1, rfl, hf⟩, fun n => st n⟩
          · simp only [if_neg w4] at st
            have q3 : fgd V o t = true := by
              unfold fgd
              rw [q2, if_neg w2, if_neg w4]
              rfl
            rw [q3, if_pos (by simp [q1])] at hf
            exact .inr ⟨_, ⟨σ1, hS1, rfl⟩, fun n => by rw [st (n + 1), nx_inl, hfin _ _ _ _ r1.1, hf]⟩
    · simp only [if_neg q1] at st
      rw [if_neg (by simp [q1])] at hf
      exact .inl ⟨_, s, ⟨hS, rfl, hf⟩, fun n => st n⟩) (by
    rintro L s ⟨hS, rfl, hf⟩
    rw [Nat.sub_self] at hf
    refine ⟨_, ⟨s, hS, rfl⟩, fun n => ?_⟩
    rw [show n + 2 = n + 1 + 1 from rfl, tr_step (s_kX12_orderFor_11 _ p t (V 51 0) (-1) _ s), if_pos (by omega), hf]
    rfl) (nO V) 0 [some (vh 51 0), some (vi p), some (vi t), some (vi (V 51 0)), some (vi (-1)), some (vi (V 51 49 - 1)), none, none] σ 999999 (by omega) ⟨Sc.rf, by rw [show (nO V : Int) - 1 - ((0 : Nat) : Int) = V 51 49 - 1 by omega], rfl⟩ (by omega)
  refine ⟨σ', hr1, ?_⟩
  rw [hr3, hr2]
  rfl
end
