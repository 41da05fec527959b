-- the reference's moves: the failures that spread
section
variable {σ : TM} {V : TVw} {g : Int} {A T I : Nat → Int} {d : Nat}
set_option maxHeartbeats 8000000 in
theorem r_block {s0 : TM} {F : Nat → Int} (hV : RV σ V) (hI : Inv V) (h : RF σ s0 V g A T I) (h99 : ∀ p, p < nP V → s0 99 0 p = F p) (hF : ∀ x, 0 ≤ F x) : ∃ s c, RF σ s V g A T I ∧ (∀ p, p < nP V → s 99 0 p = mPk V g A T F (nP V) p) ∧ (c = 0 ∧ (∀ x, x < nP V → mPk V g A T F (nP V) x = F x) ∨ c = 1 ∧ ∃ x, x < nP V ∧ mPk V g A T F (nP V) x ≠ F x) ∧ ∀ n, t_tr tbl mtb (t_run tbl mtb (d + 3)) 210 (n + 1 + nP V) 283 [some (vh 51 0), some (vi g), some (vi 0), some (vi 0), none, none, none] [] s0 = t_tr tbl mtb (t_run tbl mtb (d + 3)) 210 n 275 [some (vh 51 0), some (vi g), some (vi c), none, none, none, none] [] s := by
  have h0 := hI.cnt
  obtain ⟨L, s, ⟨c, a1, rfl, a2, a3⟩, e⟩ := loop_rel (O := t_run tbl mtb (d + 3)) (k := 210) (pc := 283) (fun k L s => ∃ c : Int, RF σ s V g A T I ∧ L = [some (vh 51 0), some (vi g), some (vi c), some (vi (k : Int)), none, none, none] ∧ (∀ p, p < nP V → s 99 0 p = mPk V g A T F k p) ∧ (c = 0 ∧ (∀ x, x < nP V → mPk V g A T F k x = F x) ∨ c = 1 ∧ ∃ x, x < nP V ∧ mPk V g A T F k x ≠ F x)) (nP V) (by
    rintro k L s hk ⟨c, b1, rfl, b2, b3⟩
    have hVs := hV.sc b1.1.rm
    obtain ⟨c0, cR, c97, c98, c100⟩ := b1
    have b1 : RF σ s V g A T I := ⟨c0, cR, c97, c98, c100⟩
    have r1 : 0 ≤ (k : Int) ∧ (k : Int) < 40 := by omega
    have ep := r_moves (d := d) hVs hI cR hk
    have ek : ∀ x, mPk V g A T F (k + 1) x = if x = k ∧ mMv V g A k = true ∧ mPk V g A T F k k = 0 ∧ mBl V g A T (mPk V g A T F k) k = true then 3 else mPk V g A T F k x := fun x => rfl
    have st := fun N => tr_step (n := N) (s_kX12_findFailed_283 (t_run tbl mtb (d + 3)) g c k s )
    simp only [hVs 51 23 rfl rfl rfl, if_pos (show (k : Int) < V 51 23 by omega), w32_nat (show k < 2147483647 by omega), Int.toNat_natCast, ep, ci_ok, bi_0, if_pos r1] at st
    have hno : ¬ (mMv V g A k = true ∧ mPk V g A T F k k = 0 ∧ mBl V g A T (mPk V g A T F k) k = true) → (RF σ s V g A T I ∧ [some (vh 51 0), some (vi g), some (vi c), some (vi (k + 1 : Int)), none, none, none] = [some (vh 51 0), some (vi g), some (vi c), some (vi ((k + 1 : Nat) : Int)), none, none, none] ∧ (∀ p, p < nP V → s 99 0 p = mPk V g A T F (k + 1) p) ∧ (c = 0 ∧ (∀ x, x < nP V → mPk V g A T F (k + 1) x = F x) ∨ c = 1 ∧ ∃ x, x < nP V ∧ mPk V g A T F (k + 1) x ≠ F x)) := by
      intro hn
      have e : mPk V g A T F (k + 1) = mPk V g A T F k := by
        funext x
        rw [ek, if_neg (fun q => hn q.2)]
      rw [e]
      exact ⟨b1, rfl, b2, b3⟩
    have hset : (mMv V g A k = true ∧ mPk V g A T F k k = 0 ∧ mBl V g A T (mPk V g A T F k) k = true) → (RF σ (t_upd s 99 0 k 3) V g A T I ∧ [some (vh 51 0), some (vi g), some (vi 1), some (vi (k + 1 : Int)), none, none, none] = [some (vh 51 0), some (vi g), some (vi 1), some (vi ((k + 1 : Nat) : Int)), none, none, none] ∧ (∀ p, p < nP V → t_upd s 99 0 k 3 99 0 p = mPk V g A T F (k + 1) p) ∧ ((1 : Int) = 0 ∧ (∀ x, x < nP V → mPk V g A T F (k + 1) x = F x) ∨ (1 : Int) = 1 ∧ ∃ x, x < nP V ∧ mPk V g A T F (k + 1) x ≠ F x)) := by
      intro hn
      refine ⟨b1.up _ _, rfl, fun p hp => ?_, .inr ⟨rfl, k, hk, ?_⟩⟩
      · rw [ek]
        by_cases e : p = k
        · subst e
          rw [up_same, if_pos ⟨rfl, hn⟩]
        · rw [up_j e, if_neg (fun q => e q.1)]
          exact b2 p hp
      · rw [ek, if_pos ⟨rfl, hn⟩, mPk_z V g A T F k k hn.2.1]
        decide
    by_cases mp : mMv V g A k = true
    · have ip := mMv_iff.mp mp
      simp only [mp, if_neg (show ¬ true = false by decide), b2 k hk, (cR k hk ip.1).2 (by omega), r_pieceAt (d := d + 1) hVs hI g (T k), ci_ok] at st
      by_cases hz : mPk V g A T F k k = 0
      · simp only [if_pos hz] at st
        rcases fat_in (V := V) (g := g) (c := T k) with z | ⟨w, w1, w2, w3, w4⟩
        · simp only [z, if_pos (show (-1 : Int) < 0 by decide)] at st
          refine ⟨_, s, ⟨c, hno (fun q => ?_)⟩, fun N => st N⟩
          have := q.2.2
          unfold mBl at this
          rw [z] at this
          simp at this
        · have r6 : 0 ≤ (w : Int) ∧ (w : Int) < 40 := by omega
          have nw : ¬ (w : Int) < 0 := by omega
          have eq := r_moves (d := d) hVs hI cR w2
          simp only [w1, if_neg nw, eq, ci_ok, bi_0, if_pos r6, Int.toNat_natCast, hVs 65 _ rfl rfl rfl, hVs 68 _ rfl rfl rfl, c97 w w2 w3, c97 k hk ip.1, b2 w w2] at st
          have hbl : mBl V g A T (mPk V g A T F k) k = true ↔ (mMv V g A w = true → mPk V g A T F k w ≠ 0) ∧ (V 65 w = V 65 k ∨ mSt V g A T k ≤ mHo V g A T w) := by
            unfold mBl
            rw [w1, Int.toNat_natCast]
            simp only [Bool.and_eq_true, Bool.or_eq_true, decide_eq_true_eq, Bool.not_eq_true']
            constructor
            · rintro ⟨⟨-, a⟩, b⟩
              exact ⟨fun q => by rcases a with a | a; rw [q] at a; cases a; exact a, b⟩
            · rintro ⟨a, b⟩
              refine ⟨⟨by omega, ?_⟩, b⟩
              by_cases q : mMv V g A w = true
              · exact .inr (a q)
              · exact .inl (by simpa using q)
          by_cases mw : mMv V g A w = true
          · have hho : mHo V g A T w = V 68 w := by
              unfold mHo
              rw [if_pos mw]
            simp only [mw, if_neg (show ¬ true = false by decide)] at st
            have hn0 := mPk_nn V g A T F hF k w
            by_cases hzw : 0 < mPk V g A T F k w
            · simp only [if_pos hzw] at st
              by_cases q1 : V 65 w = V 65 k
              · simp only [if_pos q1] at st
                exact ⟨_, _, ⟨1, hset ⟨mp, hz, hbl.mpr ⟨fun _ => by omega, .inl q1⟩⟩⟩, fun N => st N⟩
              · simp only [if_neg q1] at st
                by_cases q2 : V 68 w < mSt V g A T k
                · simp only [if_pos q2] at st
                  exact ⟨_, s, ⟨c, hno (fun q => by rcases (hbl.mp q.2.2).2 with z | z; exact q1 z; rw [hho] at z; omega)⟩, fun N => st N⟩
                · simp only [if_neg q2] at st
                  exact ⟨_, _, ⟨1, hset ⟨mp, hz, hbl.mpr ⟨fun _ => by omega, .inr (by rw [hho]; omega)⟩⟩⟩, fun N => st N⟩
            · simp only [if_neg hzw] at st
              exact ⟨_, s, ⟨c, hno (fun q => (hbl.mp q.2.2).1 mw (by omega))⟩, fun N => st N⟩
          · have hho : mHo V g A T w = mSt V g A T w := by
              unfold mHo
              rw [if_neg mw]
            have mwe : mMv V g A w = false := by simpa using mw
            simp only [mwe, if_true] at st
            by_cases q1 : V 65 w = V 65 k
            · simp only [if_pos q1] at st
              exact ⟨_, _, ⟨1, hset ⟨mp, hz, hbl.mpr ⟨fun q => absurd q mw, .inl q1⟩⟩⟩, fun N => st N⟩
            · simp only [if_neg q1] at st
              by_cases q2 : mSt V g A T w < mSt V g A T k
              · simp only [if_pos q2] at st
                exact ⟨_, s, ⟨c, hno (fun q => by rcases (hbl.mp q.2.2).2 with z | z; exact q1 z; rw [hho] at z; omega)⟩, fun N => st N⟩
              · simp only [if_neg q2] at st
                exact ⟨_, _, ⟨1, hset ⟨mp, hz, hbl.mpr ⟨fun q => absurd q mw, .inr (by rw [hho]; omega)⟩⟩⟩, fun N => st N⟩
      · simp only [if_neg hz] at st
        exact ⟨_, s, ⟨c, hno (fun q => hz q.2.1)⟩, fun N => st N⟩
    · have mpe : mMv V g A k = false := by simpa using mp
      simp only [mpe, if_true] at st
      exact ⟨_, s, ⟨c, hno (fun q => mp q.1)⟩, fun N => st N⟩) (nP V) 0 [some (vh 51 0), some (vi g), some (vi 0), some (vi ((0 : Nat) : Int)), none, none, none] s0 (by omega) ⟨0, h, rfl, h99, .inl ⟨rfl, fun x hx => rfl⟩⟩
  have hVs := hV.sc a1.1.rm
  refine ⟨s, c, a1, a2, a3, fun n => ?_⟩
  have e := e (n + 1)
  have e : t_tr tbl mtb (t_run tbl mtb (d + 3)) 210 (n + 1 + nP V) 283 [some (vh 51 0), some (vi g), some (vi 0), some (vi 0), none, none, none] [] s0 = _ := e
  rw [e, tr_step (s_kX12_findFailed_283 _ g c (nP V : Int) s), hVs 51 23 rfl rfl rfl, if_neg (by omega), nx_inl]
theorem r_rounds (hV : RV σ V) (hI : Inv V) : ∀ (z r : Nat) (c : Int) (s : TM), r + z = nP V + 2 → RF σ s V g A T I → (∀ p, p < nP V → s 99 0 p = mIt V g A T I r p) → (c = 1 ∧ mZ V g A (mIt V g A T I r) (nP V) + r ≤ mZ V g A (mIt V g A T I 0) (nP V) ∨ c = 0 ∧ mIt V g A T I r = mFf V g A T I) → ∃ s', RF σ s' V g A T I ∧ (∀ p, p < nP V → s' 99 0 p = mFf V g A T I p) ∧ ∀ n, t_tr tbl mtb (t_run tbl mtb (d + 3)) 210 (n + 1 + z * (nP V + 2)) 275 [some (vh 51 0), some (vi g), some (vi c), none, none, none, none] [] s = some (.inr (none, s')) := by
  have hM := mlist_le (mIn V g) (nP V)
  intro z
  have fin : ∀ s, ∀ n, t_tr tbl mtb (t_run tbl mtb (d + 3)) 210 (n + 1) 275 [some (vh 51 0), some (vi g), some (vi 0), none, none, none, none] [] s = some (.inr (none, s)) := by
    intro s n
    rw [tr_step (s_kX12_findFailed_275 _ g 0 s), if_pos rfl]
    rfl
  induction z with
  | zero =>
    intro r c s hr m1 m3 m6
    rcases m6 with ⟨k1, k2⟩ | ⟨k1, k2⟩
    · have := (mZ_r V g A (mIt V g A T I r) (nP V)).1
      have := (mZ_r V g A (mIt V g A T I 0) (nP V)).2
      omega
    · subst k1
      refine ⟨s, m1, fun p hp => by rw [m3 p hp, k2], fun n => ?_⟩
      rw [Nat.zero_mul, Nat.add_zero]
      exact fin s n
  | succ z ih =>
    intro r c s hr m1 m3 m6
    rcases m6 with ⟨k1, k2⟩ | ⟨k1, k2⟩
    · subst k1
      obtain ⟨s', c', f1, f2, f5, f6⟩ := r_block (d := d) hV hI m1 m3 (mIt_nn V g A T I r)
      obtain ⟨sf, y1, y2, y3⟩ := ih (r + 1) c' s' (by omega) f1 f2 (by
        rcases f5 with ⟨q1, q2⟩ | ⟨q1, x, q2, q3⟩
        · refine .inr ⟨q1, ?_⟩
          have q2 : ∀ x, x < nP V → mIt V g A T I (r + 1) x = mIt V g A T I r x := q2
          rw [mFf_of V g A T I (k := r) (by omega) q2]
          funext x
          by_cases hx : x < nP V
          · exact q2 x hx
          · rcases mPk_ch V g A T (mIt V g A T I r) (nP V) x with q | ⟨q, _⟩
            · exact q
            · omega
        · refine .inl ⟨q1, ?_⟩
          have := mIt_dec V g A T I r x q2 q3
          omega)
      refine ⟨sf, y1, y2, fun n => ?_⟩
      rw [show n + 1 + (z + 1) * (nP V + 2) = n + 1 + z * (nP V + 2) + 1 + nP V + 1 by rw [Nat.succ_mul]; omega, tr_step (s_kX12_findFailed_275 _ g 1 s), if_neg (by decide), nx_inl, f6]
      exact y3 n
    · subst k1
      refine ⟨s, m1, fun p hp => by rw [m3 p hp, k2], fun n => ?_⟩
      rw [show n + 1 + (z + 1) * (nP V + 2) = n + (z + 1) * (nP V + 2) + 1 by omega]
      exact fin s _
theorem r_findFailed (hV : RV σ V) (hI : Inv V) (h : RF σ σ V g A T I) (h99 : ∀ p, p < nP V → σ 99 0 p = 0) : ∃ s, RF σ s V g A T I ∧ (∀ p, p < nP V → s 99 0 p = mFf V g A T I p) ∧ t_run tbl mtb (d + 4) 210 [vh 51 0, vi g] σ = some (none, s) := by
  have h0 := hI.cnt
  obtain ⟨s1, a1, a2, a3⟩ := r_fail1 (d := d) hV hI h h99
  obtain ⟨s2, b1, b2, b3⟩ := r_fail2 (d := d) hV hI a1 a2
  have w0 : ∀ p, p < nP V → s2 99 0 p = mIt V g A T I 0 p := b2
  obtain ⟨s3, c1, c2, c3⟩ := r_rounds (d := d) hV hI (nP V + 2) 0 1 s2 (by omega) b1 w0 (.inl ⟨rfl, by omega⟩)
  refine ⟨s3, c1, c2, ?_⟩
  have hV1 := hV.sc a1.1.rm
  have hV2 := hV.sc b1.1.rm
  have hb : nP V * (nP V + 2) ≤ 40 * 42 := Nat.mul_le_mul (by omega) (by omega)
  have hb2 : (nP V + 2) * (nP V + 2) ≤ 42 * 42 := Nat.mul_le_mul (by omega) (by omega)
  obtain ⟨N, hN⟩ : ∃ N, 999999 = N + 1 + (nP V + 2) * (nP V + 2) + 1 + nP V * (nP V + 2) + 1 + nP V * (nP V + 2) := ⟨999999 - ((nP V + 2) * (nP V + 2) + nP V * (nP V + 2) + nP V * (nP V + 2) + 3), by omega⟩
  rw [run_go (k := 210) (as := [vh 51 0, vi g]) mt_210 (Nat.ne_of_beq_eq_false rfl) rfl (s_kX12_findFailed_0 _ g σ), nx_inl, hN, a3, tr_step (s_kX12_findFailed_2 _ g (nP V : Int) s1), hV1 51 23 rfl rfl rfl, if_neg (by omega), nx_inl, b3, tr_step (s_kX12_findFailed_136 _ g (nP V : Int) s2), hV2 51 23 rfl rfl rfl, if_neg (by omega), nx_inl, c3]
  rfl
end
