-- the reader of texts: lengths, and that its codes give its values
theorem p_at_lt {b : Nat → Int} {n q : Nat} (h : p_at b n q ≠ -1) : q < n := by
  unfold p_at at h
  split at h
  · assumption
  · exact absurd rfl h
theorem p_op_ne {lvl : Nat} {x : Int} (h : p_op lvl x = true) : x ≠ -1 ∧ 0 ≤ x ∧ x < 10000 ∧ x ≠ 33 ∧ x ≠ 126 := by
  unfold p_op at h
  split at h <;> simp only [decide_eq_true_eq] at h <;> omega
theorem p_dg_ok (b : Nat → Int) (n : Nat) : ∀ (k q : Nat) (v : Int), 0 ≤ v → q ≤ n → q ≤ (p_dg b n k q v).1 ∧ (p_dg b n k q v).1 ≤ n ∧ 0 ≤ (p_dg b n k q v).2 ∧ (p_dg b n k q v).2 + 1 ≤ (v + 1) * 10 ^ k
  | 0, q, v, h, hq => by
    simp only [p_dg]
    exact ⟨Nat.le_refl _, hq, h, by omega⟩
  | k + 1, q, v, h, hq => by
    unfold p_dg
    split
    · next hd =>
      have hl : q < n := p_at_lt (b := b) (by omega)
      obtain ⟨a1, a2, a3, a4⟩ := p_dg_ok b n k (q + 1) (10 * v + p_at b n q - 48) (by omega) hl
      refine ⟨by omega, a2, a3, Int.le_trans a4 ?_⟩
      have e : (v + 1) * 10 ^ (k + 1) = (10 * v + 10) * 10 ^ k := by rw [Int.pow_succ, Int.mul_comm (10 ^ k) 10, ← Int.mul_assoc, Int.add_mul, Int.mul_comm v 10, Int.one_mul]
      rw [e]
      exact Int.mul_le_mul_of_nonneg_right (by omega) (Int.le_of_lt (Int.pow_pos (by decide)))
    · refine ⟨Nat.le_refl _, hq, h, ?_⟩
      have e : (1 : Int) ≤ 10 ^ (k + 1) := Int.pow_pos (by decide)
      have := Int.mul_le_mul_of_nonneg_left e (show 0 ≤ v + 1 by omega)
      omega
theorem p_nm_ok (x : Int) : p_nm x = -1 ∨ 0 ≤ p_nm x ∧ p_nm x < 11 ∧ t_nth p_nmL (p_nm x).toNat = some x := by
  unfold p_nm
  rcases fF_range (fun k => decide (t_nth p_nmL k = some x)) 11 0 with h | ⟨q, h, h1, h2, h3⟩
  · exact .inl h
  · rw [h]
    simp only [decide_eq_true_eq] at h3
    exact .inr ⟨by omega, by omega, by rw [Int.toNat_natCast]; exact h3⟩
theorem p_nm_ne {x : Int} (h : ¬ p_nm x < 0) : x ≠ -1 := by
  intro e
  subst e
  exact h (by decide)
/-- what is known of a reading that did not fail -/
def Rd (n q D : Nat) (s : Nat × List Int × ((Nat → Int) → Int)) : Prop := q + s.2.1.length ≤ s.1 ∧ q < s.1 ∧ s.1 ≤ n ∧ Ged s.2.1 s.2.2 D
theorem p_lp_ok {g : Nat → PR} {b : Nat → Int} {n lvl D : Nat} (hD : 1 ≤ D) (hg : ∀ q s, q ≤ n → g q = .inr s → Rd n q D s) {q0 : Nat} : ∀ (f : Nat) (s s' : Nat × List Int × ((Nat → Int) → Int)), Rd n q0 (D + 1) s → p_lp g b n lvl f s = .inr s' → Rd n q0 (D + 1) s'
  | 0, s, s', h, e => by
    cases e
    exact h
  | f + 1, (q, c, v), s', h, e => by
    unfold p_lp at e
    split at e
    · next ho =>
      have hne := p_op_ne ho
      split at e
      · cases e
      · next q' c' v' hq =>
        obtain ⟨h1, h2, h3, h4⟩ := h
        have hl := p_at_lt hne.1
        obtain ⟨g1, g2, g3, g4⟩ := hg (q + 1) _ (by omega) hq
        simp only [] at h1 h2 h3 h4 g1 g2 g3 g4
        refine p_lp_ok hD hg f _ s' ⟨?_, ?_, g3, ?_⟩ e
        · simp only [List.length_append, List.length_singleton]
          omega
        · simp only []
          omega
        · exact h4.bin g4 hD hne.2.1 hne.2.2.1 hne.2.2.2.1 hne.2.2.2.2 (Nat.le_refl _) (Nat.le_refl _)
    · cases e
      exact h
theorem p_s_ok (b : Nat → Int) (n : Nat) : ∀ (f lvl o q : Nat) (s : Nat × List Int × ((Nat → Int) → Int)), lvl ≤ 5 → o ≤ 8 → q ≤ n → p_s b n f lvl o q = .inr s → Rd n q (5 * (8 - o) + 6 - lvl) s
  | 0, _, _, _, _, _, _, _, h => by
    unfold p_s at h
    cases h
  | f + 1, 5, o, q, s, _, ho, hq, h => by
    simp only [p_s] at h
    split at h
    · next hd =>
      cases h
      have hl : q < n := p_at_lt (b := b) (by omega)
      have a := p_dg_ok b n 4 q 0 (by decide) hq
      have a2 : q + 1 ≤ (p_dg b n 4 q 0).1 := by
        unfold p_dg
        rw [if_pos hd]
        exact (p_dg_ok b n 3 (q + 1) _ (by omega) hl).1
      exact ⟨a2, a2, a.2.1, (Ged.num a.2.2.1 (Int.le_trans a.2.2.2 (by decide))).mono (by omega)⟩
    · split at h
      · next hd =>
        have hl : q < n := p_at_lt (b := b) (by omega)
        split at h
        · cases h
        · split at h
          · cases h
          · next q' c v hp =>
            split at h
            · next hd2 =>
              cases h
              have hl2 : q' < n := p_at_lt (b := b) (by omega)
              obtain ⟨a1, a2, a3, a4⟩ := p_s_ok b n f 0 (o + 1) (q + 1) _ (by omega) (by omega) (by omega) hp
              simp only [] at a1 a2 a3 a4
              exact ⟨by simp only []; omega, by simp only []; omega, hl2, a4.mono (by omega)⟩
            · cases h
      · split at h
        · next hd =>
          have hl : q < n := p_at_lt (b := b) (by omega)
          split at h
          · cases h
          · split at h
            · cases h
            · next q' c v hp =>
              cases h
              obtain ⟨a1, a2, a3, a4⟩ := p_s_ok b n f 5 (o + 1) (q + 1) _ (by omega) (by omega) (by omega) hp
              simp only [] at a1 a2 a3 a4
              exact ⟨by simp only [List.length_append, List.length_singleton]; omega, by simp only []; omega, a3, (a4.un (by omega) (fun y => if y = 0 then 1 else 0) (fun O r hi i len σ h1 h2 h3 h4 h5 m => w_not h1 h2 h3 h4 h5 m)).mono (by omega)⟩
        · split at h
          · next hd =>
            have hl : q < n := p_at_lt (b := b) (by omega)
            split at h
            · cases h
            · split at h
              · cases h
              · next q' c v hp =>
                cases h
                obtain ⟨a1, a2, a3, a4⟩ := p_s_ok b n f 5 (o + 1) (q + 1) _ (by omega) (by omega) (by omega) hp
                simp only [] at a1 a2 a3 a4
                exact ⟨by simp only [List.length_append, List.length_singleton]; omega, by simp only []; omega, a3, (a4.un (by omega) (fun y => w32 (-y)) (fun O r hi i len σ h1 h2 h3 h4 h5 m => w_neg h1 h2 h3 h4 h5 m)).mono (by omega)⟩
          · split at h
            · cases h
            · next hk =>
              cases h
              have hl : q < n := p_at_lt (b := b) (p_nm_ne hk)
              rcases p_nm_ok (p_at b n q) with e | ⟨e1, e2, e3⟩
              · omega
              · have g := Ged.name (k := (p_nm (p_at b n q)).toNat) (by omega)
                rw [Int.toNat_of_nonneg e1] at g
                exact ⟨Nat.le_refl _, Nat.lt_succ_self _, hl, g.mono (by omega)⟩
  | f + 1, 2, o, q, s, _, ho, hq, h => by
    simp only [p_s] at h
    split at h
    · cases h
    · next q' c v hp =>
      obtain ⟨a1, a2, a3, a4⟩ := p_s_ok b n f 3 o q _ (by omega) ho hq hp
      simp only [] at a1 a2 a3 a4
      split at h
      · next ho2 =>
        have hne := p_op_ne ho2
        have hl := p_at_lt hne.1
        split at h
        · cases h
        · next q2 c2 v2 hp2 =>
          cases h
          obtain ⟨b1, b2, b3, b4⟩ := p_s_ok b n f 3 o (q' + 1) _ (by omega) ho (by omega) hp2
          simp only [] at b1 b2 b3 b4
          exact ⟨by simp only [List.length_append, List.length_singleton]; omega, by simp only []; omega, b3, a4.bin b4 (by omega) hne.2.1 hne.2.2.1 hne.2.2.2.1 hne.2.2.2.2 (by omega) (by omega)⟩
      · cases h
        exact ⟨a1, a2, a3, a4.mono (by omega)⟩
  | f + 1, 0, o, q, s, hl, ho, hq, h => by
    simp only [p_s] at h
    split at h
    · cases h
    · next s1 hp =>
      have := p_lp_ok (D := 5 * (8 - o) + 6 - 1) (by omega) (fun q' s' hq' e => p_s_ok b n f 1 o q' s' (by omega) ho hq' e) 160 s1 s (by
        obtain ⟨a1, a2, a3, a4⟩ := p_s_ok b n f 1 o q _ (by omega) ho hq hp
        exact ⟨a1, a2, a3, a4.mono (by omega)⟩) h
      obtain ⟨a1, a2, a3, a4⟩ := this
      exact ⟨a1, a2, a3, a4.mono (by omega)⟩
  | f + 1, 1, o, q, s, hl, ho, hq, h => by
    simp only [p_s] at h
    split at h
    · cases h
    · next s1 hp =>
      have := p_lp_ok (D := 5 * (8 - o) + 6 - 2) (by omega) (fun q' s' hq' e => p_s_ok b n f 2 o q' s' (by omega) ho hq' e) 160 s1 s (by
        obtain ⟨a1, a2, a3, a4⟩ := p_s_ok b n f 2 o q _ (by omega) ho hq hp
        exact ⟨a1, a2, a3, a4.mono (by omega)⟩) h
      obtain ⟨a1, a2, a3, a4⟩ := this
      exact ⟨a1, a2, a3, a4.mono (by omega)⟩
  | f + 1, 3, o, q, s, hl, ho, hq, h => by
    simp only [p_s] at h
    split at h
    · cases h
    · next s1 hp =>
      have := p_lp_ok (D := 5 * (8 - o) + 6 - 4) (by omega) (fun q' s' hq' e => p_s_ok b n f 4 o q' s' (by omega) ho hq' e) 160 s1 s (by
        obtain ⟨a1, a2, a3, a4⟩ := p_s_ok b n f 4 o q _ (by omega) ho hq hp
        exact ⟨a1, a2, a3, a4.mono (by omega)⟩) h
      obtain ⟨a1, a2, a3, a4⟩ := this
      exact ⟨a1, a2, a3, a4.mono (by omega)⟩
  | f + 1, 4, o, q, s, hl, ho, hq, h => by
    simp only [p_s] at h
    split at h
    · cases h
    · next s1 hp =>
      have := p_lp_ok (D := 5 * (8 - o) + 6 - 5) (by omega) (fun q' s' hq' e => p_s_ok b n f 5 o q' s' (by omega) ho hq' e) 160 s1 s (by
        obtain ⟨a1, a2, a3, a4⟩ := p_s_ok b n f 5 o q _ (by omega) ho hq hp
        exact ⟨a1, a2, a3, a4.mono (by omega)⟩) h
      obtain ⟨a1, a2, a3, a4⟩ := this
      exact ⟨a1, a2, a3, a4.mono (by omega)⟩
  | f + 1, l + 6, o, q, s, hl, ho, hq, h => by omega
/-- a line's codes, run with nothing pending: the answer, if it counts; else on behind it -/
theorem p_ln_ok {b : Nat → Int} {n o q : Nat} (hq : q ≤ n) {q' : Nat} {c : List Int} {h : (Nat → Int) → Bool} {v : (Nat → Int) → Int} (e : p_ln b n o q = .inr (q', c, h, v)) :
    q + c.length ≤ q' + 1 ∧ q < q' ∧ q' ≤ n ∧ ∀ (d r : Nat) (σ : TM) (len : Nat) (N : Nat → Int), σ 46 r 4 = len → (∀ j x, t_nth c j = some x → σ 47 r (o + j) = x) → o + c.length ≤ len → len ≤ 161 → (∀ k, k < 11 → σ 25 0 k = N k) →
      ∃ σ', Sc s48 σ σ' ∧ ∀ m, c.length ≤ m → (h N = true → t_tr tbl mtb (t_run tbl mtb (d + 1)) 28 m 4 (wL r 0 o) [] σ = some (.inr (some (vi (v N)), σ'))) ∧ (h N = false → ∃ m', m' + c.length ≥ m ∧ t_tr tbl mtb (t_run tbl mtb (d + 1)) 28 m 4 (wL r 0 o) [] σ = t_tr tbl mtb (t_run tbl mtb (d + 1)) 28 m' 4 (wL r 0 (o + c.length)) [] σ') := by
  unfold p_ln at e
  split at e
  · cases e
  · next q1 c1 v1 hp =>
    obtain ⟨a1, a2, a3, a4⟩ := p_s_ok b n 60 0 0 q _ (by omega) (by omega) hq hp
    simp only [] at a1 a2 a3 a4
    split at e
    · next hd =>
      have hl : q1 < n := p_at_lt (b := b) (by omega)
      split at e
      · cases e
      · next q2 c2 v2 hp2 =>
        obtain ⟨b1, b2, b3, b4⟩ := p_s_ok b n 60 0 0 (q1 + 1) _ (by omega) (by omega) (by omega) hp2
        simp only [] at b1 b2 b3 b4
        cases e
        have hlen0 : (c1 ++ ((30000 + ((o + c1.length + c2.length + 2 : Nat) : Int)) :: (c2 ++ [40000]))).length = c1.length + c2.length + 2 := by
          simp only [List.length_append, List.length_cons, List.length_nil]
          omega
        refine ⟨by rw [hlen0]; omega, by omega, b3, ?_⟩
        intro d r σ len N hl4 hc hi hlen hN
        rw [hlen0] at hi
        obtain ⟨σ1, g1, g2, g3, g4⟩ := a4 d r σ o 0 len N hl4 (fun j x hx => hc j x (t_nth_app_l _ _ _ _ hx)) (by omega) hlen (by omega) hN
        have hsk : σ1 47 r (o + c1.length) = 30000 + ((o + c1.length + c2.length + 2 : Nat) : Int) := by
          rw [g1 47 r _ rfl]
          exact hc c1.length _ (t_nth_app c1 _ 0 _ rfl)
        have hsk2 := fun m => w_skip (d := d) (hi := 0) (by rw [g1 46 r 4 rfl, hl4]) hsk (by omega) (by omega) (by omega) (by omega) hlen m
        by_cases hz : v1 N = 0
        · refine ⟨σ1, g1, fun m hm => ⟨fun q => ?_, fun _ => ⟨m - c1.length - 1, by omega, ?_⟩⟩⟩
          · simp only [decide_eq_true_eq] at q
            exact absurd hz q
          · rw [hlen0, show m = m - c1.length - 1 + 1 + c1.length by omega, g4, hsk2, g2, if_pos hz, show m - c1.length - 1 + 1 + c1.length - c1.length - 1 = m - c1.length - 1 by omega, show o + (c1.length + c2.length + 2) = o + c1.length + c2.length + 2 by omega]
        · obtain ⟨σ2, k1, k2, k3, k4⟩ := b4 d r σ1 (o + c1.length + 1) 0 len N (by rw [g1 46 r 4 rfl, hl4]) (fun j x hx => by
            rw [g1 47 r _ rfl, show o + c1.length + 1 + j = o + (c1.length + (j + 1)) by omega]
            exact hc _ x (t_nth_app _ _ _ _ (show t_nth (_ :: (c2 ++ [40000])) (j + 1) = some x from t_nth_app_l _ _ _ _ hx))) (by omega) hlen (by omega) (fun k hk => by rw [g1 25 0 k rfl, hN k hk])
          have han : σ2 47 r (o + c1.length + 1 + c2.length) = 40000 := by
            rw [k1 47 r _ rfl, g1 47 r _ rfl, show o + c1.length + 1 + c2.length = o + (c1.length + (c2.length + 1)) by omega]
            exact hc _ _ (t_nth_app _ _ _ _ (show t_nth (_ :: (c2 ++ [40000])) (c2.length + 1) = some 40000 from t_nth_app c2 [40000] 0 _ rfl))
          refine ⟨σ2, g1.tr k1, fun m hm => ⟨fun _ => ?_, fun q => ?_⟩⟩
          · rw [hlen0] at hm
            rw [show m = m - c1.length - 1 - c2.length - 1 + 1 + c2.length + 1 + c1.length by omega, g4, hsk2, g2, if_neg hz, k4, w_ans (hi := 0) (by rw [k1 46 r 4 rfl, g1 46 r 4 rfl, hl4]) han (by omega) (by omega) hlen, k2]
          · simp only [decide_eq_false_iff_not] at q
            exact absurd hz q
    · cases e
      refine ⟨by rw [List.length_append, List.length_singleton]; omega, a2, a3, ?_⟩
      intro d r σ len N hl4 hc hi hlen hN
      rw [List.length_append, List.length_singleton] at hi
      obtain ⟨σ1, g1, g2, g3, g4⟩ := a4 d r σ o 0 len N hl4 (fun j x hx => hc j x (t_nth_app_l _ _ _ _ hx)) (by omega) hlen (by omega) hN
      have han : σ1 47 r (o + c1.length) = 40000 := by
        rw [g1 47 r _ rfl]
        exact hc c1.length _ (t_nth_app c1 _ 0 _ rfl)
      refine ⟨σ1, g1, fun m hm => ⟨fun _ => ?_, fun q => by cases q⟩⟩
      rw [List.length_append, List.length_singleton] at hm
      rw [show m = m - c1.length - 1 + 1 + c1.length by omega, g4, w_ans (hi := 0) (by rw [g1 46 r 4 rfl, hl4]) han (by omega) (by omega) hlen, g2]
theorem p_tx_ok (b : Nat → Int) (n : Nat) : ∀ (f o q : Nat) (c : List Int) (v : (Nat → Int) → Int), q ≤ n → p_tx b n f o q = .inr (c, v) → q + c.length ≤ n + 1 ∧ ∀ (d r : Nat) (σ : TM) (N : Nat → Int), σ 46 r 4 = ((o + c.length : Nat) : Int) → (∀ j x, t_nth c j = some x → σ 47 r (o + j) = x) → o + c.length ≤ 161 → (∀ k, k < 11 → σ 25 0 k = N k) →
      ∃ σ', Sc s48 σ σ' ∧ ∀ m, c.length < m → t_tr tbl mtb (t_run tbl mtb (d + 1)) 28 m 4 (wL r 0 o) [] σ = some (.inr (some (vi (v N)), σ'))
  | 0, _, _, _, _, _, h => by
    unfold p_tx at h
    cases h
  | f + 1, o, q, c, v, hq, e => by
    unfold p_tx at e
    split at e
    · cases e
    · next q' c1 h1 v1 hp =>
      obtain ⟨a1, a2, a3, a4⟩ := p_ln_ok hq hp
      split at e
      · next hn =>
        cases e
        refine ⟨by omega, ?_⟩
        intro d r σ N hl hc hlen hN
        obtain ⟨σ1, g1, g2⟩ := a4 d r σ _ N hl hc (Nat.le_refl _) hlen hN
        refine ⟨σ1, g1, fun m hm => ?_⟩
        obtain ⟨k1, k2⟩ := g2 m (by omega)
        cases hh : h1 N with
        | true => simp only [hh, if_true]; exact k1 hh
        | false =>
          obtain ⟨m', hm', e2⟩ := k2 hh
          simp only [hh]
          rw [e2, show m' = m' - 1 + 1 by omega, w_end (by rw [g1 46 r 4 rfl, hl]) (Nat.le_refl _)]
          rfl
      · split at e
        · next hd =>
          have hl : q' < n := p_at_lt (b := b) (by omega)
          split at e
          · cases e
          · next c2 v2 hp2 =>
            cases e
            obtain ⟨b1, b2⟩ := p_tx_ok b n f (o + c1.length) (q' + 1) c2 v2 (by omega) hp2
            refine ⟨by rw [List.length_append]; omega, ?_⟩
            intro d r σ N hl hc hlen hN
            rw [List.length_append] at hl hlen
            obtain ⟨σ1, g1, g2⟩ := a4 d r σ _ N hl (fun j x hx => hc j x (t_nth_app_l _ _ _ _ hx)) (by omega) hlen hN
            obtain ⟨σ2, k1, k2⟩ := b2 d r σ1 N (by rw [g1 46 r 4 rfl, hl, Nat.add_assoc]) (fun j x hx => by
              rw [g1 47 r _ rfl, Nat.add_assoc]
              exact hc _ x (t_nth_app _ _ _ _ hx)) (by omega) (fun k hk => by rw [g1 25 0 k rfl, hN k hk])
            cases hh : h1 N with
            | true =>
              refine ⟨σ1, g1, fun m hm => ?_⟩
              rw [List.length_append] at hm
              simp only [hh, if_true]
              exact (g2 m (by omega)).1 hh
            | false =>
              refine ⟨σ2, g1.tr k1, fun m hm => ?_⟩
              rw [List.length_append] at hm
              obtain ⟨m', hm', e2⟩ := (g2 m (by omega)).2 hh
              simp only [hh]
              rw [e2, k2 m' (by omega)]
              rfl
        · cases e
theorem c_worth {σ : TM} {V : TVw} {d r : Nat} (h9 : crc σ V 9) (hI : Inv V) (hr : r < nR V) {N : Nat → Int} (hN : ∀ k, k < 11 → σ 25 0 k = N k) : ∃ σ', Sc s1 σ σ' ∧ t_run tbl mtb (d + 2) 28 [vh 46 r, vh 25 0] σ = some (some (vi (fev V r N)), σ') := by
  obtain ⟨-, -, -, -, -, -, -, t1, t2, -, c, v, e⟩ := hI 9 r hr
  obtain ⟨-, -, -, -, -, -, -, k⟩ := h9 r hr
  obtain ⟨k1, k2⟩ := k c v e
  obtain ⟨a1, a2⟩ := p_tx_ok _ _ _ _ _ c v (Nat.zero_le _) e
  obtain ⟨σ', b1, b2⟩ := a2 d r σ N (by rw [k1, Nat.zero_add]) (fun j x hx => by rw [Nat.zero_add]; exact k2 j x hx) (by omega) hN
  refine ⟨σ', b1.mono s48_s1, ?_⟩
  rw [run_go (k := 28) (as := [vh 46 r, vh 25 0]) mt_28 (Nat.ne_of_beq_eq_false rfl) rfl (s_kX7_worth_0 _ r σ), nx_inl]
  have := b2 999999 (by omega)
  refine out_of ?_
  rw [show fev V r N = v N by unfold fev; rw [e]]
  exact this
