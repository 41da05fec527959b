-- rule(): both sides
section
variable {n : Nat} {b b' : Nat → Int}
theorem p_at_cg (h : ∀ i, i < n → b i = b' i) : p_at b n = p_at b' n := funext fun q => by
  unfold p_at
  by_cases e : q < n
  · rw [if_pos e, if_pos e, h q e]
  · rw [if_neg e, if_neg e]
theorem p_dg_cg (ha : p_at b n = p_at b' n) : ∀ (k q : Nat) (v : Int), p_dg b n k q v = p_dg b' n k q v
  | 0, _, _ => rfl
  | k + 1, q, v => by
    unfold p_dg
    rw [ha, p_dg_cg ha k]
theorem p_lp_cg (ha : p_at b n = p_at b' n) (g : Nat → PR) (lvl : Nat) : ∀ (f : Nat) (s : Nat × List Int × ((Nat → Int) → Int)), p_lp g b n lvl f s = p_lp g b' n lvl f s
  | 0, _ => rfl
  | f + 1, (q, c, v) => by
    unfold p_lp
    rw [ha]
    by_cases e : p_op lvl (p_at b' n q) = true
    · rw [if_pos e, if_pos e]
      cases g (q + 1) with
      | inl e => rfl
      | inr s =>
        obtain ⟨q', c', v'⟩ := s
        exact p_lp_cg ha g lvl f _
    · rw [if_neg e, if_neg e]
theorem p_s_cg (ha : p_at b n = p_at b' n) : ∀ (f lvl o q : Nat), lvl ≤ 5 → p_s b n f lvl o q = p_s b' n f lvl o q
  | 0, lvl, o, q, _ => by simp only [p_s]
  | f + 1, lvl, o, q, hl => by
    have ih := p_s_cg ha f
    have lp : ∀ l, l + 1 ≤ 5 → (match p_s b n f (l + 1) o q with
      | .inl e => (.inl e : PR)
      | .inr s => p_lp (fun q' => p_s b n f (l + 1) o q') b n l 160 s) = match p_s b' n f (l + 1) o q with
      | .inl e => (.inl e : PR)
      | .inr s => p_lp (fun q' => p_s b' n f (l + 1) o q') b' n l 160 s := by
      intro l hl
      rw [ih (l + 1) o q hl, show (fun q' => p_s b n f (l + 1) o q') = fun q' => p_s b' n f (l + 1) o q' from funext fun q' => ih (l + 1) o q' hl]
      cases p_s b' n f (l + 1) o q with
      | inl e => rfl
      | inr s => exact p_lp_cg ha _ l 160 s
    rcases (by omega : lvl = 0 ∨ lvl = 1 ∨ lvl = 2 ∨ lvl = 3 ∨ lvl = 4 ∨ lvl = 5) with rfl | rfl | rfl | rfl | rfl | rfl
    · simp only [p_s]
      exact lp 0 (by decide)
    · simp only [p_s]
      exact lp 1 (by decide)
    · simp only [p_s, ha, ih 3 _ _ (by decide)]
    · simp only [p_s]
      exact lp 3 (by decide)
    · simp only [p_s]
      exact lp 4 (by decide)
    · simp only [p_s, ha, p_dg_cg ha, ih 5 _ _ (by decide), ih 0 _ _ (by decide)]
theorem p_ln_cg (ha : p_at b n = p_at b' n) (o q : Nat) : p_ln b n o q = p_ln b' n o q := by
  unfold p_ln
  simp only [p_s_cg ha 60 0 _ _ (by decide), ha]
theorem p_tx_cg (ha : p_at b n = p_at b' n) : ∀ (f o q : Nat), p_tx b n f o q = p_tx b' n f o q
  | 0, _, _ => rfl
  | f + 1, o, q => by
    unfold p_tx
    simp only [p_ln_cg ha, ha, p_tx_cg ha f]
end
section
variable {σ : TM} {V : TVw} {d : Nat}
/-- the rows with m bytes of the tape laid as the next rule's text, the tape empty -/
def rtV (V : TVw) (m : Nat) : TVw := fun a b => if a = 76 ∧ 160 * nR V ≤ b ∧ b < 160 * nR V + m then V 75 (b - 160 * nR V) else vu V 51 28 0 a b
def ruV (V : TVw) (w t : Int) : TVw := vu (vu (vu (vu (vu (rtV V (V 51 28).toNat) 77 (nR V) (V 51 28)) 78 (nR V) w) 79 (nR V) (V 51 0)) 80 (nR V) t) 51 34 (V 51 34 + 1)
/-- the text that rule() reads -/
def rtB (V : TVw) (i : Nat) : Int := if i < (V 51 28).toNat then V 75 i else V 76 (160 * nR V + i)
theorem rtV_o {m a b : Nat} (h1 : a ≠ 76) (h2 : ¬ (a = 51 ∧ b = 28)) : rtV V m a b = V a b := by
  unfold rtV
  rw [if_neg (fun q => h1 q.1), vu_r, if_neg h2]
theorem rtV_28 {m : Nat} : rtV V m 51 28 = 0 := by
  unfold rtV
  rw [if_neg (fun q => by cases q.1), vu_same]
theorem rtV_76 {m b : Nat} : rtV V m 76 b = if 160 * nR V ≤ b ∧ b < 160 * nR V + m then V 75 (b - 160 * nR V) else V 76 b := by
  unfold rtV
  by_cases e : 160 * nR V ≤ b ∧ b < 160 * nR V + m
  · rw [if_pos ⟨rfl, e⟩, if_pos e]
  · rw [if_neg (fun q => e q.2), if_neg e, vu_k (by decide)]
theorem two_fault (hW : WW σ V) {kc kr : Nat} {as : List TV} {r : TV} (hc : ∃ s, Fr (nR V) σ s ∧ t_run tbl mtb (d + 100) kc (vh 0 0 :: as) σ = some (some r, t_upd s 23 0 0 0)) (hr : ∀ s, RV s V → ∃ s', Sc s2 s s' ∧ t_run tbl mtb (d + 100) kr (vh 51 0 :: as) s = some (some r, t_upd s' 51 0 28 0)) : Two (d + 100) kc kr as σ := by
  have h := hW.1
  have hI := h.inv
  have h0 := hI.cnt
  obtain ⟨s1', a1, a2⟩ := hc
  have uV : Uv [3944, 3946, 46, 47, 7556] V (vu V 51 28 0) := Uv.up Uv.rf rfl
  have uS : Uc [3944, 3946, 46, 47, 7556] σ (t_upd s1' 23 0 0 0) := fun a i j _ q => by
    rw [t_upd_eq, if_neg (by rintro ⟨rfl, -, rfl⟩; cases q)]
    exact a1 a i j (by rintro ⟨rfl, rfl⟩; cases q) (by rintro ⟨rfl, -, rfl⟩; cases q) (by rintro ⟨rfl, -⟩; cases q)
  have hI2 : Inv (vu V 51 28 0) := Inv.k uV hI (fun i hi hd => by
    rcases (by decide : ∀ i, i < 16 → djT [3944, 3946, 46, 47, 7556] (idep i) = false → i = 0 ∨ i = 8) i hi hd with rfl | rfl
    · obtain ⟨q1, q2, q3, q4, q5, q6, q7, q8, q9, q10, q11, q12, q13, q14, q15, q16⟩ := hI 0
      exact ⟨q1, q2, q3, q4, q5, q6, q7, q8, q9, q10, q11, q12, q13, q14, by rw [vu_same]; decide, by rw [vu_same]; decide⟩
    · intro i hi
      rw [vu_same] at hi
      exact absurd hi (Nat.not_lt_zero _))
  refine two_of (r := r) (V' := vu V 51 28 0) hW ⟨t_upd s1' 23 0 0 0, ?_, CR.k uS uV h hI2 (fun i hi hd => ?_), KW.k uS uV hW.2.2 rfl, a2⟩ (fun s hV => ?_)
  · intro k i j hk
    rw [up_k (by omega)]
    exact a1 k i j (by omega) (by omega) (by omega)
  · rcases (by decide : ∀ i, i < 16 → djT [3944, 3946, 46, 47, 7556] (cdep i) = false → i = 0 ∨ i = 8 ∨ i = 9) i hi hd with rfl | rfl | rfl
    · obtain ⟨q1, q2, q3, q4, q5, q6, q7, q8⟩ := h 0
      have f : ∀ j, t_upd s1' 23 0 0 0 0 0 j = σ 0 0 j := fun j => by
        rw [up_k (show (0 : Nat) ≠ 23 by decide)]
        exact a1 0 0 j (by omega) (by omega) (by omega)
      exact ⟨(f 0).trans q1, (f 2).trans q2, (f 4).trans q3, (f 7).trans q4, (f 9).trans q5, (f 11).trans q6, (f 13).trans q7, by rw [up_same]; exact vu_same.symm⟩
    · intro i hi
      rw [vu_same] at hi
      exact absurd hi (Nat.not_lt_zero _)
    · intro r hr
      have hr : r < nR V := hr
      have q := h 9 r hr
      have f46 : ∀ j, t_upd s1' 23 0 0 0 46 r j = σ 46 r j := fun j => by
        rw [up_k (show (46 : Nat) ≠ 23 by decide)]
        exact a1 46 r j (by omega) (by omega) (by omega)
      have f47 : ∀ j, t_upd s1' 23 0 0 0 47 r j = σ 47 r j := fun j => by
        rw [up_k (show (47 : Nat) ≠ 23 by decide)]
        exact a1 47 r j (by omega) (by omega) (by omega)
      simp only [f46, f47]
      exact q
  · obtain ⟨s2', b1, b2⟩ := hr s hV
    exact ⟨_, (FR.of b1 s2_R).up rfl, (hV.sc (b1.mono s2_scr)).up, b2⟩
set_option maxHeartbeats 4000000 in
theorem two_rule (hW : WW σ V) (w t : Int) (hw2 : w ≤ 2147483647) : Two (d + 100) 75 174 [vi w, vi t] σ := by
  have h := hW.1
  have hI := h.inv
  have h0 := hI.cnt
  by_cases hw : (0 ≤ w ∧ w / 10 < V 51 8 ∧ w % 10 < 5) ∧ 0 ≤ t ∧ t < 30
  · obtain ⟨hw, ht⟩ := hw
    by_cases hf : V 51 34 < 20
    · have rn : 0 ≤ V 51 34 ∧ V 51 34 < 20 := by omega
      have en : (nR V : Int) = V 51 34 := by omega
      have etl : ((V 51 28).toNat : Int) = V 51 28 := by omega
      have hb : ∀ i, i < (V 51 28).toNat → 0 ≤ rtB V i ∧ rtB V i ≤ 255 := fun i hi => by
        unfold rtB
        rw [if_pos hi]
        exact hI 8 i hi
      have cc := c_compile (d := d + 31) (r := nR V) (n := (V 51 28).toNat) (b := rtB V) (by omega) hb (σ := σ) (h.tl.trans etl.symm) (fun i hi => by unfold rtB; rw [if_pos hi]; exact h 8 i hi) (h 15).1 (h 15).2
      have cw := fun s (hV : RV s V) => r_workOut (d := d + 34) (n := (V 51 28).toNat) (b := rtB V) (N := fun k => s 94 0 k) (by omega) hb (σ := s) (B := -1) (.inl ⟨by decide, fun i hi => by unfold rtB; rw [if_pos hi]; exact hV 75 i rfl rfl rfl⟩) (fun k hk => rfl)
      have ci : t_run tbl mtb (d + 100) 75 [vh 0 0, vi w, vi t] σ = _ := run_go (k := 75) (as := [vh 0 0, vi w, vi t]) mt_75 (Nat.ne_of_beq_eq_false rfl) rfl (s_kX11_rule_0 _ w t σ)
      rw [ci_of (c_isRuled (d := d + 97) h hw2), ci_of (c_isTurn (d := d + 98) t)] at ci
      simp only [bi_0, decide_eq_false_iff_not, h.nr, if_pos hf, if_pos rn] at ci
      rw [if_neg (by omega), if_neg (by omega)] at ci
      have ri : ∀ s, RV s V → ∀ K, t_run tbl mtb (d + 100) 174 [vh 51 0, vi w, vi t] s = K ↔ t_out (t_nx (t_run tbl mtb (d + 99)) 174 999999 (t_calli (t_run tbl mtb (d + 99) 171 [vh 51 0, vi (-1), vi (V 51 28)] s) fun _ s3 => if (t_upd s3 51 0 28 0) 51 0 53 < 0 then some (.inl (68, [some (vh 51 0), some (vi w), some (vi t), none, some (vi (s3 51 0 28)), some (vi 0)], [], t_upd s3 51 0 28 0)) else some (.inr (some (vi (w32 (-100 - (t_upd s3 51 0 28 0) 51 0 53))), t_upd s3 51 0 28 0)))) = K := fun s hV K => by
        rw [run_go (k := 174) (as := [vh 51 0, vi w, vi t]) mt_174 (Nat.ne_of_beq_eq_false rfl) rfl (s_kX12_rule_0 _ w t s), ci_of (r_isWhat (d := d + 97) hV hw2), ci_of (r_isTurn (d := d + 97) t), hV 51 34 rfl rfl rfl, hV 51 28 rfl rfl rfl]
        simp only [bi_0, decide_eq_false_iff_not]
        rw [if_neg (by omega), if_neg (by omega), if_neg (by omega)]
      cases hp : p_tx (rtB V) (V 51 28).toNat 161 0 0 with
      | inl e =>
        rw [hp] at cc
        obtain ⟨s1', a1, a2⟩ := cc
        refine two_fault (r := vi (w32 (-100 - (e : Int)))) hW ⟨s1', a1, ?_⟩ (fun s hV => ?_)
        · rw [ci, ci_of a2, if_neg (by omega)]
          rfl
        · obtain ⟨s2', b1, x, b2, b3⟩ := cw s hV
          rw [hp] at b3
          have b3 : s2' 51 0 53 = (e : Int) := b3
          rw [etl] at b2
          refine ⟨s2', b1, (ri s hV _).mpr ?_⟩
          rw [ci_of b2, up_j (show (53 : Nat) ≠ 28 by decide), b3, if_neg (by omega)]
          rfl
      | inr cv =>
        obtain ⟨c, v⟩ := cv
        rw [hp] at cc
        obtain ⟨s1', a1, ⟨q, st⟩, a2⟩ := cc
        rw [List.nil_append] at st
        obtain ⟨st1, -, st3, st4, -⟩ := st
        -- the rows behind it
        have e5134 : ruV V w t 51 34 = V 51 34 + 1 := vu_same
        have e51 : ∀ j, j ≠ 34 → j ≠ 28 → ruV V w t 51 j = V 51 j := fun j h1 h2 => by
          unfold ruV
          rw [vu_j h1, vu_k (by decide), vu_k (by decide), vu_k (by decide), vu_k (by decide), rtV_o (by decide) (fun q => h2 q.2)]
        have e5128 : ruV V w t 51 28 = 0 := by
          unfold ruV
          rw [vu_j (by decide), vu_k (by decide), vu_k (by decide), vu_k (by decide), vu_k (by decide), rtV_28]
        have enR : nR (ruV V w t) = nR V + 1 := by
          unfold nR
          rw [e5134]
          omega
        have e76 : ∀ z, ruV V w t 76 z = rtV V (V 51 28).toNat 76 z := fun z => by
          unfold ruV
          rw [vu_k (by decide), vu_k (by decide), vu_k (by decide), vu_k (by decide), vu_k (by decide)]
        have e77 : ∀ z, ruV V w t 77 z = if z = nR V then V 51 28 else V 77 z := fun z => by
          unfold ruV
          rw [vu_k (by decide), vu_k (by decide), vu_k (by decide), vu_k (by decide), vu_at, rtV_o (by decide) (fun q => by cases q.1)]
        have e78 : ∀ z, ruV V w t 78 z = if z = nR V then w else V 78 z := fun z => by
          unfold ruV
          rw [vu_k (by decide), vu_k (by decide), vu_k (by decide), vu_at, vu_k (by decide), rtV_o (by decide) (fun q => by cases q.1)]
        have e79 : ∀ z, ruV V w t 79 z = if z = nR V then V 51 0 else V 79 z := fun z => by
          unfold ruV
          rw [vu_k (by decide), vu_k (by decide), vu_at, vu_k (by decide), vu_k (by decide), rtV_o (by decide) (fun q => by cases q.1)]
        have e80 : ∀ z, ruV V w t 80 z = if z = nR V then t else V 80 z := fun z => by
          unfold ruV
          rw [vu_k (by decide), vu_at, vu_k (by decide), vu_k (by decide), vu_k (by decide), rtV_o (by decide) (fun q => by cases q.1)]
        have etx : ∀ r, r < nR V → ftx (ruV V w t) r = ftx V r := fun r hr => by
          obtain ⟨-, -, -, -, -, -, -, i77, i77b, -⟩ := hI 9 r hr
          unfold ftx
          rw [e77, if_neg (by omega)]
          exact p_tx_cg (p_at_cg (fun i hi => by rw [e76, rtV_76, if_neg (by omega)])) 161 0 0
        have etn : ftx (ruV V w t) (nR V) = .inr (c, v) := by
          unfold ftx
          rw [e77, if_pos rfl, ← hp]
          exact p_tx_cg (p_at_cg (fun i hi => by
            rw [e76, rtV_76, if_pos (by omega), show 160 * nR V + i - 160 * nR V = i by omega]
            unfold rtB
            rw [if_pos hi])) 161 0 0
        have uV : Uv [3944, 3946, 1013, 46, 47, 76, 77, 78, 79, 80, 7556, 7562] V (ruV V w t) := fun a b g1 q => by
          by_cases z51 : a = 51
          · subst z51
            exact e51 b (by rintro rfl; cases q) (by rintro rfl; cases q)
          · unfold ruV
            rw [vu_k z51, vu_k (by rintro rfl; cases q), vu_k (by rintro rfl; cases q), vu_k (by rintro rfl; cases q), vu_k (by rintro rfl; cases q), rtV_o (by rintro rfl; cases q) (fun z => z51 z.1)]
        have hI2 : Inv (ruV V w t) := Inv.k uV hI (fun i hi hd => by
          rcases (by decide : ∀ i, i < 16 → djT [3944, 3946, 1013, 46, 47, 76, 77, 78, 79, 80, 7556, 7562] (idep i) = false → i = 0 ∨ i = 8 ∨ i = 9) i hi hd with rfl | rfl | rfl
          · obtain ⟨q1, q2, q3, q4, q5, q6, q7, q8, q9, q10, q11, q12, q13, q14, q15, q16⟩ := hI 0
            refine ⟨q1, q2, q3, q4, q5, q6, q7, q8, q9, q10, q11, q12, ?_, ?_, ?_, ?_⟩
            · rw [e5134]; omega
            · rw [e5134]; omega
            · rw [e5128]; decide
            · rw [e5128]; decide
          · intro i hi
            rw [e5128] at hi
            exact absurd hi (Nat.not_lt_zero _)
          · intro r hr
            rw [enR] at hr
            rw [e77, e78, e79, e80, e51 8 (by decide) (by decide), e51 0 (by decide) (by decide)]
            by_cases e : r = nR V
            · subst e
              rw [if_pos rfl, if_pos rfl, if_pos rfl, if_pos rfl]
              refine ⟨hw.1, hw.2.1, hw.2.2, by omega, by omega, ht.1, ht.2, by omega, by omega, fun i hi => ?_, c, v, etn⟩
              rw [e76, rtV_76, if_pos (by omega), show 160 * nR V + i - 160 * nR V = i by omega]
              exact hI 8 i hi
            · rw [if_neg e, if_neg e, if_neg e, if_neg e]
              obtain ⟨w1, w2, w3, w4, w5, w6, w7, w8, w9, w10, c', v', w11⟩ := hI 9 r (by omega)
              refine ⟨w1, w2, w3, w4, w5, w6, w7, w8, w9, fun i hi => ?_, c', v', ?_⟩
              · rw [e76, rtV_76, if_neg (by omega)]
                exact w10 i hi
              · rw [etx r (by omega)]
                exact w11)
        -- the class's memory
        have b0 : s1' 0 0 0 = V 51 0 := (a1 0 0 0 (by omega) (by omega) (by omega)).trans h.day
        have b13 : s1' 0 0 13 = V 51 34 := (a1 0 0 13 (by omega) (by omega) (by omega)).trans h.nr
        have M : ∀ a i j, t_upd (t_upd (t_upd (t_upd (t_upd (t_upd s1' 23 0 0 0) 46 (nR V) 0 (w / 10)) 46 (nR V) 1 (w % 10)) 46 (nR V) 2 (V 51 0)) 46 (nR V) 3 t) 0 0 13 (V 51 34 + 1) a i j = if a = 0 ∧ i = 0 ∧ j = 13 then V 51 34 + 1 else if a = 46 ∧ i = nR V ∧ j < 4 then (if j = 0 then w / 10 else if j = 1 then w % 10 else if j = 2 then V 51 0 else t) else if a = 23 ∧ i = 0 ∧ j = 0 then 0 else s1' a i j := fun a i j => by
          rw [t_upd_eq]
          by_cases z0 : a = 0 ∧ i = 0 ∧ j = 13
          · rw [if_pos z0, if_pos z0]
          · rw [if_neg z0, if_neg z0]
            by_cases z : a = 46 ∧ i = nR V ∧ j < 4
            · rw [if_pos z]
              obtain ⟨rfl, rfl, z3⟩ := z
              rcases (by omega : j = 0 ∨ j = 1 ∨ j = 2 ∨ j = 3) with rfl | rfl | rfl | rfl
              · rw [up_j (show (0 : Nat) ≠ 3 by decide), up_j (show (0 : Nat) ≠ 2 by decide), up_j (show (0 : Nat) ≠ 1 by decide), up_same]
                rfl
              · rw [up_j (show (1 : Nat) ≠ 3 by decide), up_j (show (1 : Nat) ≠ 2 by decide), up_same]
                rfl
              · rw [up_j (show (2 : Nat) ≠ 3 by decide), up_same]
                rfl
              · rw [up_same]
                rfl
            · rw [if_neg z, t_upd_eq, if_neg (fun q => z ⟨q.1, q.2.1, by omega⟩), t_upd_eq, if_neg (fun q => z ⟨q.1, q.2.1, by omega⟩), t_upd_eq, if_neg (fun q => z ⟨q.1, q.2.1, by omega⟩), t_upd_eq, if_neg (fun q => z ⟨q.1, q.2.1, by omega⟩), t_upd_eq]
        have uS : Uc [3944, 3946, 1013, 46, 47, 76, 77, 78, 79, 80, 7556, 7562] σ (t_upd (t_upd (t_upd (t_upd (t_upd (t_upd s1' 23 0 0 0) 46 (nR V) 0 (w / 10)) 46 (nR V) 1 (w % 10)) 46 (nR V) 2 (V 51 0)) 46 (nR V) 3 t) 0 0 13 (V 51 34 + 1)) := fun a i j _ q => by
          rw [M, if_neg (by rintro ⟨rfl, -, rfl⟩; cases q), if_neg (by rintro ⟨rfl, -⟩; cases q), if_neg (by rintro ⟨rfl, -, rfl⟩; cases q)]
          exact a1 a i j (by rintro ⟨rfl, rfl⟩; cases q) (by rintro ⟨rfl, -⟩; cases q) (by rintro ⟨rfl, -⟩; cases q)
        refine two_of (r := vi (V 51 34)) (V' := ruV V w t) hW ⟨_, fun k i j hk => ?_, CR.k uS uV h hI2 (fun i hi hd => ?_), KW.k uS uV hW.2.2 rfl, ?_⟩ (fun s hV => ?_)
        · rw [M, if_neg (by omega), if_neg (by omega), if_neg (by omega)]
          exact a1 k i j (by omega) (by omega) (by omega)
        · rcases (by decide : ∀ i, i < 16 → djT [3944, 3946, 1013, 46, 47, 76, 77, 78, 79, 80, 7556, 7562] (cdep i) = false → i = 0 ∨ i = 8 ∨ i = 9) i hi hd with rfl | rfl | rfl
          · obtain ⟨q1, q2, q3, q4, q5, q6, q7, q8⟩ := h 0
            have f : ∀ j, j ≠ 13 → _ = σ 0 0 j := fun j hj => (M 0 0 j).trans ((if_neg (fun q => hj q.2.2)).trans ((if_neg (fun q => by cases q.1)).trans ((if_neg (fun q => by cases q.1)).trans (a1 0 0 j (by omega) (by omega) (by omega)))))
            exact ⟨(f 0 (by decide)).trans q1, (f 2 (by decide)).trans q2, (f 4 (by decide)).trans q3, (f 7 (by decide)).trans q4, (f 9 (by decide)).trans q5, (f 11 (by decide)).trans q6, by rw [M, if_pos ⟨rfl, rfl, rfl⟩]; exact e5134.symm, by rw [M, if_neg (fun q => by cases q.1), if_neg (fun q => by cases q.1), if_pos ⟨rfl, rfl, rfl⟩]; exact e5128.symm⟩
          · intro i hi
            rw [e5128] at hi
            exact absurd hi (Nat.not_lt_zero _)
          · intro r hr
            rw [enR] at hr
            rw [e78, e79, e80]
            by_cases e : r = nR V
            · subst e
              rw [if_pos rfl, if_pos rfl, if_pos rfl]
              have m := fun j (hj : j < 4) => (M 46 (nR V) j).trans ((if_neg (fun q => by cases q.1)).trans (if_pos ⟨rfl, rfl, hj⟩))
              have m0 : _ = w / 10 := (m 0 (by decide)).trans (if_pos rfl)
              have m1 : _ = w % 10 := (m 1 (by decide)).trans rfl
              have m2 : _ = V 51 0 := (m 2 (by decide)).trans rfl
              have m3 : _ = t := (m 3 (by decide)).trans rfl
              rw [m0, m1, m2, m3]
              refine ⟨by omega, by omega, by omega, by omega, by omega, rfl, rfl, fun c2 v2 h2 => ?_⟩
              rw [etn] at h2
              cases h2
              refine ⟨?_, fun i x hx => ?_⟩
              · rw [M, if_neg (fun q => by cases q.1), if_neg (fun q => by have := q.2.2; omega), if_neg (fun q => by cases q.1)]
                exact st3
              · rw [M, if_neg (fun q => by cases q.1), if_neg (fun q => by cases q.1), if_neg (fun q => by cases q.1)]
                exact st4 i x hx
            · rw [if_neg e, if_neg e, if_neg e, etx r (by omega)]
              have f46 : ∀ j, _ = σ 46 r j := fun j => (M 46 r j).trans ((if_neg (fun q => by cases q.1)).trans ((if_neg (fun q => e q.2.1)).trans ((if_neg (fun q => by cases q.1)).trans (a1 46 r j (by omega) (by omega) (by omega)))))
              have f47 : ∀ j, _ = σ 47 r j := fun j => (M 47 r j).trans ((if_neg (fun q => by cases q.1)).trans ((if_neg (fun q => by cases q.1)).trans ((if_neg (fun q => by cases q.1)).trans (a1 47 r j (by omega) (by omega) (by omega)))))
              rw [f46 0, f46 1, f46 2, f46 3, f46 4]
              obtain ⟨w1, w2, w3, w4, w5, w6, w7, w8⟩ := h 9 r (by show r < nR V; omega)
              refine ⟨w1, w2, w3, w4, w5, w6, w7, fun c2 v2 h2 => ?_⟩
              obtain ⟨w9, w10⟩ := w8 c2 v2 h2
              exact ⟨w9, fun i x hx => (f47 i).trans (w10 i x hx)⟩
        · have g0 : ∀ a b c, t_upd (t_upd (t_upd s1' 23 0 0 a) 46 (V 51 34).toNat 0 b) 46 (V 51 34).toNat 1 c 0 0 0 = V 51 0 := fun a b c => by
            rw [up_k (show (0 : Nat) ≠ 46 by decide), up_k (show (0 : Nat) ≠ 46 by decide), up_k (show (0 : Nat) ≠ 23 by decide)]
            exact b0
          have g13 : ∀ a b c e f, t_upd (t_upd (t_upd (t_upd (t_upd s1' 23 0 0 a) 46 (V 51 34).toNat 0 b) 46 (V 51 34).toNat 1 c) 46 (V 51 34).toNat 2 e) 46 (V 51 34).toNat 3 f 0 0 13 = V 51 34 := fun a b c e f => by
            rw [up_k (show (0 : Nat) ≠ 46 by decide), up_k (show (0 : Nat) ≠ 46 by decide), up_k (show (0 : Nat) ≠ 46 by decide), up_k (show (0 : Nat) ≠ 46 by decide), up_k (show (0 : Nat) ≠ 23 by decide)]
            exact b13
          rw [ci, ci_of a2, if_pos rfl]
          simp only [g0, g13, up_same]
          rw [div_pos hw.1 hw2 (by decide), rem_pos hw.1, w32_id (x := V 51 34 + 1) (by omega) (by omega), w32_id (x := V 51 34 + 1 - 1) (by omega) (by omega), Int.add_sub_cancel]
          rfl
        · obtain ⟨s2', y1, x, y2, y3⟩ := cw s hV
          rw [hp] at y3
          obtain ⟨y3, -⟩ := y3
          rw [etl] at y2
          have v2 := hV.sc (y1.mono s2_scr)
          have q28 : s2' 51 0 28 = V 51 28 := v2 51 28 rfl rfl rfl
          have v0 : RV (t_upd s2' 51 0 28 0) (rtV V 0) := fun a b g1 g2 g3 => by
            rw [v2.up a b g1 g2 g3]
            unfold rtV
            rw [if_neg (by omega)]
          obtain ⟨L, s3, ⟨z1, z2, rfl⟩, e⟩ := loop_rel (O := t_run tbl mtb (d + 99)) (k := 174) (pc := 68) (fun k L s' => FR s s' ∧ RV s' (rtV V k) ∧ L = [some (vh 51 0), some (vi w), some (vi t), none, some (vi (V 51 28)), some (vi (k : Int))]) (V 51 28).toNat (by
            rintro k L s' hk ⟨x1, x2, rfl⟩
            have r1 : 0 ≤ (k : Int) ∧ (k : Int) < 160 := by omega
            have q34 : s' 51 0 34 = V 51 34 := (x2 51 34 rfl rfl rfl).trans (rtV_o (by decide) (fun q => by cases q.2))
            have q75 : s' 75 0 k = V 75 k := (x2 75 k rfl rfl rfl).trans (rtV_o (by decide) (fun q => by cases q.1))
            have ew : w32 (w32 (160 * V 51 34) + (k : Int)) = ((160 * nR V + k : Nat) : Int) := by
              rw [w32_add_l, w32_id (by omega) (by omega)]
              omega
            have r2 : 0 ≤ ((160 * nR V + k : Nat) : Int) ∧ ((160 * nR V + k : Nat) : Int) < 3200 := by omega
            have st := fun N => tr_step (n := N) (s_kX12_rule_68 (t_run tbl mtb (d + 99)) w t (V 51 28) k s' )
            simp only [if_pos (show (k : Int) < V 51 28 by omega), if_pos r1, q34, ew, if_pos r2, Int.toNat_natCast, q75, w32_nat (show k < 2147483647 by omega)] at st
            refine ⟨_, _, ⟨x1.up rfl, fun a b g1 g2 g3 => ?_, rfl⟩, st⟩
            have q := x2 a b g1 g2 g3
            by_cases z : a = 76 ∧ b = 160 * nR V + k
            · obtain ⟨rfl, rfl⟩ := z
              rw [up_same, rtV_76, if_pos (by omega), show 160 * nR V + k - 160 * nR V = k by omega]
            · rw [t_upd_eq, if_neg (fun q => z ⟨q.1, q.2.2⟩), q]
              unfold rtV
              by_cases y : a = 76 ∧ 160 * nR V ≤ b ∧ b < 160 * nR V + k
              · rw [if_pos y, if_pos ⟨y.1, y.2.1, by omega⟩]
              · rw [if_neg y, if_neg (fun q => y ⟨q.1, q.2.1, by have := q.2.2; have : b ≠ 160 * nR V + k := fun e => z ⟨q.1, e⟩; omega⟩)]) (V 51 28).toNat 0 [some (vh 51 0), some (vi w), some (vi t), none, some (vi (V 51 28)), some (vi ((0 : Nat) : Int))] (t_upd s2' 51 0 28 0) (by omega) ⟨(FR.of y1 s2_R).up rfl, v0, rfl⟩
          have q34 : s3 51 0 34 = V 51 34 := (z2 51 34 rfl rfl rfl).trans (rtV_o (by decide) (fun q => by cases q.2))
          have q0 : s3 51 0 0 = V 51 0 := (z2 51 0 rfl rfl rfl).trans (rtV_o (by decide) (fun q => by cases q.2))
          refine ⟨_, ((((z1.up rfl).up rfl).up rfl).up rfl).up rfl, z2.up.up.up.up.up, (ri s hV _).mpr ?_⟩
          obtain ⟨N, hN⟩ : ∃ N, 999999 = N + 1 + (V 51 28).toNat := ⟨999999 - ((V 51 28).toNat + 1), by omega⟩
          have e : t_tr tbl mtb (t_run tbl mtb (d + 99)) 174 (N + 1 + (V 51 28).toNat) 68 [some (vh 51 0), some (vi w), some (vi t), none, some (vi (V 51 28)), some (vi 0)] [] (t_upd s2' 51 0 28 0) = _ := e _
          have g1 : ∀ a, t_upd s3 77 0 (V 51 34).toNat a 51 0 34 = V 51 34 := fun a => by rw [up_k (show (51 : Nat) ≠ 77 by decide)]; exact q34
          have g2 : ∀ a b, t_upd (t_upd s3 77 0 (V 51 34).toNat a) 78 0 (V 51 34).toNat b 51 0 34 = V 51 34 := fun a b => by rw [up_k (show (51 : Nat) ≠ 78 by decide)]; exact g1 a
          have g3 : ∀ a b, t_upd (t_upd s3 77 0 (V 51 34).toNat a) 78 0 (V 51 34).toNat b 51 0 0 = V 51 0 := fun a b => by rw [up_k (show (51 : Nat) ≠ 78 by decide), up_k (show (51 : Nat) ≠ 77 by decide)]; exact q0
          have g4 : ∀ a b c, t_upd (t_upd (t_upd s3 77 0 (V 51 34).toNat a) 78 0 (V 51 34).toNat b) 79 0 (V 51 34).toNat c 51 0 34 = V 51 34 := fun a b c => by rw [up_k (show (51 : Nat) ≠ 79 by decide)]; exact g2 a b
          have g5 : ∀ a b c d, t_upd (t_upd (t_upd (t_upd s3 77 0 (V 51 34).toNat a) 78 0 (V 51 34).toNat b) 79 0 (V 51 34).toNat c) 80 0 (V 51 34).toNat d 51 0 34 = V 51 34 := fun a b c d => by rw [up_k (show (51 : Nat) ≠ 80 by decide)]; exact g4 a b c
          rw [ci_of y2, up_j (show (53 : Nat) ≠ 28 by decide), y3, if_pos (by decide), q28, nx_inl, hN, e, tr_step (s_kX12_rule_68 _ w t (V 51 28) ((V 51 28).toNat : Int) s3), if_neg (by omega)]
          simp only [q34, g1, g2, g3, g4, g5, up_same, if_pos rn]
          rw [w32_id (x := V 51 34 + 1) (by omega) (by omega), w32_id (x := V 51 34 + 1 - 1) (by omega) (by omega), Int.add_sub_cancel]
          rfl
    · refine two_ask (r := vi (-3)) hW ⟨σ, Sc.rf, ?_⟩ (fun s hV => ⟨s, Sc.rf, ?_⟩)
      · rw [run_go (k := 75) (as := [vh 0 0, vi w, vi t]) mt_75 (Nat.ne_of_beq_eq_false rfl) rfl (s_kX11_rule_0 _ w t σ), ci_of (c_isRuled (d := d + 97) h hw2), ci_of (c_isTurn (d := d + 98) t)]
        simp only [bi_0, decide_eq_false_iff_not, h.nr, if_neg hf]
        rw [if_neg (by omega), if_neg (by omega)]
        rfl
      · rw [run_go (k := 174) (as := [vh 51 0, vi w, vi t]) mt_174 (Nat.ne_of_beq_eq_false rfl) rfl (s_kX12_rule_0 _ w t s), ci_of (r_isWhat (d := d + 97) hV hw2), ci_of (r_isTurn (d := d + 97) t), hV 51 34 rfl rfl rfl]
        simp only [bi_0, decide_eq_false_iff_not]
        rw [if_neg (by omega), if_neg (by omega), if_pos (by omega)]
        rfl
  · refine two_ask (r := vi (-1)) hW ⟨σ, Sc.rf, ?_⟩ (fun s hV => ⟨s, Sc.rf, ?_⟩)
    · rw [run_go (k := 75) (as := [vh 0 0, vi w, vi t]) mt_75 (Nat.ne_of_beq_eq_false rfl) rfl (s_kX11_rule_0 _ w t σ), ci_of (c_isRuled (d := d + 97) h hw2), ci_of (c_isTurn (d := d + 98) t)]
      simp only [bi_0, decide_eq_false_iff_not]
      by_cases y1 : 0 ≤ w ∧ w / 10 < V 51 8 ∧ w % 10 < 5
      · rw [if_neg (by omega), if_pos (by omega)]
        rfl
      · rw [if_pos y1]
        rfl
    · rw [run_go (k := 174) (as := [vh 51 0, vi w, vi t]) mt_174 (Nat.ne_of_beq_eq_false rfl) rfl (s_kX12_rule_0 _ w t s), ci_of (r_isWhat (d := d + 97) hV hw2), ci_of (r_isTurn (d := d + 97) t)]
      simp only [bi_0, decide_eq_false_iff_not]
      by_cases y1 : 0 ≤ w ∧ w / 10 < V 51 8 ∧ w % 10 < 5
      · rw [if_neg (by omega), if_pos (by omega)]
        rfl
      · rw [if_pos y1]
        rfl
end
