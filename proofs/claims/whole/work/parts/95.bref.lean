-- best(): the reference's loop over all rows
theorem rwq_d {n : Nat} {c : Nat → Nat} {v : Nat} : ∀ j, rwq n c v j = true → ∀ i, i < j → v / 4 ^ i % 4 < c (n - 1 - i)
  | 0, _, i, h => absurd h (Nat.not_lt_zero _)
  | j + 1, h, i, hi => by
    unfold rwq at h
    rw [Bool.and_eq_true, decide_eq_true_eq] at h
    by_cases e : i = j
    · subst e
      exact h.2
    · exact rwq_d j h.1 i (by omega)
section
variable {σ : TM} {V : TVw} {d n : Nat}
set_option maxHeartbeats 2000000 in
theorem r_bestL (hV : RV σ V) (hI : Inv V) (hn : V 51 72 = (n : Int)) (hn0 : 0 < n) : ∃ s, FR σ s ∧ RV s V ∧ ∀ N, t_tr tbl mtb (t_run tbl mtb (d + 99)) 224 (N + 4 ^ n) 42 [some (vh 51 0), some (vi ((4 ^ n : Nat) : Int)), some (vi (-1)), some (vi 0), some (vi 0), some (vi 0), none] [] σ = t_tr tbl mtb (t_run tbl mtb (d + 99)) 224 N 42 [some (vh 51 0), some (vi ((4 ^ n : Nat) : Int)), some (vi (psi n (cz V n) (bst V n (rws n (cz V n) n)).1 : Nat)), some (vi (bst V n (rws n (cz V n) n)).2.1), some (vi (bst V n (rws n (cz V n) n)).2.2), some (vi ((4 ^ n : Nat) : Int)), none] [] s := by
  obtain ⟨n3, hc, hc2⟩ := cz_ok hI hn
  have hc' : ∀ z, z < n → 1 ≤ cz V n z ∧ cz V n z ≤ 4 := fun z hz => ⟨(hc z hz).1, (hc z hz).2.1⟩
  obtain ⟨p1, p2⟩ := psi_ok hn0 n3 hc' hc2
  obtain ⟨l1, l2⟩ := rws_le (n := n) (c := cz V n) n hc'
  have l3 : 4 ^ n ≤ 4 ^ 3 := Nat.pow_le_pow_right (by decide) n3
  generalize hR : 4 ^ n = R at *
  obtain ⟨L, s, ⟨b1, b2, v2, v3, v4, rfl, b3⟩, e⟩ := loop_rel (O := t_run tbl mtb (d + 99)) (k := 224) (pc := 42) (fun v L s => FR σ s ∧ RV s V ∧ ∃ v2 v3 v4 : Int, L = [some (vh 51 0), some (vi (R : Nat)), some (vi v2), some (vi v3), some (vi v4), some (vi (v : Nat)), none] ∧ ((rkn n (cz V n) v = 0 ∧ v2 = -1) ∨ (0 < rkn n (cz V n) v ∧ v2 = (psi n (cz V n) (bst V n (rkn n (cz V n) v)).1 : Nat) ∧ v3 = (bst V n (rkn n (cz V n) v)).2.1 ∧ v4 = (bst V n (rkn n (cz V n) v)).2.2))) R (by
    rintro v L s hv ⟨b1, b2, v2, v3, v4, rfl, b3⟩
    have e222 := r_isRow (d := d + 98) b2 hI hn (v := v) (by omega)
    have st := fun N => tr_step (n := N) (s_kX12_best_42 (t_run tbl mtb (d + 99)) (R : Nat) v2 v3 v4 v s )
    simp only [if_pos (show (v : Int) < (R : Int) by omega), e222, ci_ok, bi_0, w32_nat (show v < 2147483647 by omega)] at st
    have ek : rkn n (cz V n) (v + 1) = rkn n (cz V n) v + (rwq n (cz V n) v n).toNat := rfl
    cases hr : rwq n (cz V n) v n with
    | false =>
      rw [hr] at ek
      have ek : rkn n (cz V n) (v + 1) = rkn n (cz V n) v := ek
      simp only [hr, if_true] at st
      refine ⟨_, _, ⟨b1, b2, v2, v3, v4, rfl, ?_⟩, st⟩
      rw [ek]
      exact b3
    | true =>
      rw [hr] at ek
      have ek : rkn n (cz V n) (v + 1) = rkn n (cz V n) v + 1 := ek
      have hpv := p1 v hv hr
      obtain ⟨s', f1, f2, f3, f4⟩ := r_coinsBy (d := d + 25) b2 hI hn hn0 (v := v) (by omega) (fun z hz => by
        have := rwq_d n hr (n - 1 - z) (by omega)
        rw [show n - 1 - (n - 1 - z) = z by omega] at this
        rw [(hc z hz).2.2]
        unfold d4
        omega)
      simp only [hr, if_neg (show ¬ true = false by decide), f4, ci_ok, f3] at st
      rw [ek]
      generalize rkn n (cz V n) v = k at *
      have eb : bst V n (k + 1) = if k = 0 ∨ (bst V n k).2.1 < bCo V n (d4 n v) ∨ (bCo V n (d4 n v) = (bst V n k).2.1 ∧ (bst V n k).2.2 < bNu V n (d4 n v)) then (k, bCo V n (d4 n v), bNu V n (d4 n v)) else bst V n k := by
        have : bst V n (k + 1) = if k = 0 ∨ (bst V n k).2.1 < bCo V n (d4 n (psi n (cz V n) k)) ∨ (bCo V n (d4 n (psi n (cz V n) k)) = (bst V n k).2.1 ∧ (bst V n k).2.2 < bNu V n (d4 n (psi n (cz V n) k))) then (k, bCo V n (d4 n (psi n (cz V n) k)), bNu V n (d4 n (psi n (cz V n) k))) else bst V n k := rfl
        rw [hpv] at this
        exact this
      rcases b3 with ⟨k0, rfl⟩ | ⟨k0, rfl, rfl, rfl⟩
      · simp only [if_pos (show (-1 : Int) < 0 by decide)] at st
        refine ⟨_, s', ⟨b1.tr f1, f2, _, _, _, rfl, .inr ⟨by omega, ?_, ?_, ?_⟩⟩, st⟩
        · rw [eb, if_pos (.inl k0)]
          show (v : Int) = (psi n (cz V n) k : Nat)
          rw [hpv]
        · rw [eb, if_pos (.inl k0)]
        · rw [eb, if_pos (.inl k0)]
      · simp only [if_neg (show ¬ ((psi n (cz V n) (bst V n k).1 : Nat) : Int) < 0 by omega)] at st
        by_cases y2 : (bst V n k).2.1 < bCo V n (d4 n v)
        · simp only [if_pos y2] at st
          refine ⟨_, s', ⟨b1.tr f1, f2, _, _, _, rfl, .inr ⟨by omega, ?_, ?_, ?_⟩⟩, st⟩
          · rw [eb, if_pos (.inr (.inl y2))]
            show (v : Int) = (psi n (cz V n) k : Nat)
            rw [hpv]
          · rw [eb, if_pos (.inr (.inl y2))]
          · rw [eb, if_pos (.inr (.inl y2))]
        · simp only [if_neg y2] at st
          by_cases y3 : bCo V n (d4 n v) = (bst V n k).2.1
          · simp only [if_pos y3] at st
            by_cases y4 : (bst V n k).2.2 < bNu V n (d4 n v)
            · simp only [if_pos y4] at st
              refine ⟨_, s', ⟨b1.tr f1, f2, _, _, _, rfl, .inr ⟨by omega, ?_, ?_, ?_⟩⟩, st⟩
              · rw [eb, if_pos (.inr (.inr ⟨y3, y4⟩))]
                show (v : Int) = (psi n (cz V n) k : Nat)
                rw [hpv]
              · rw [eb, if_pos (.inr (.inr ⟨y3, y4⟩))]
              · rw [eb, if_pos (.inr (.inr ⟨y3, y4⟩))]
            · simp only [if_neg y4] at st
              have hno : ¬ (k = 0 ∨ (bst V n k).2.1 < bCo V n (d4 n v) ∨ (bCo V n (d4 n v) = (bst V n k).2.1 ∧ (bst V n k).2.2 < bNu V n (d4 n v))) := fun q => by rcases q with q | q | q; omega; exact y2 q; exact y4 q.2
              exact ⟨_, s', ⟨b1.tr f1, f2, _, _, _, rfl, .inr ⟨by omega, by rw [eb, if_neg hno], by rw [eb, if_neg hno], by rw [eb, if_neg hno]⟩⟩, st⟩
          · simp only [if_neg y3] at st
            have hno : ¬ (k = 0 ∨ (bst V n k).2.1 < bCo V n (d4 n v) ∨ (bCo V n (d4 n v) = (bst V n k).2.1 ∧ (bst V n k).2.2 < bNu V n (d4 n v))) := fun q => by rcases q with q | q | q; omega; exact y2 q; exact y3 q.1
            exact ⟨_, s', ⟨b1.tr f1, f2, _, _, _, rfl, .inr ⟨by omega, by rw [eb, if_neg hno], by rw [eb, if_neg hno], by rw [eb, if_neg hno]⟩⟩, st⟩) R 0 [some (vh 51 0), some (vi (R : Nat)), some (vi (-1)), some (vi 0), some (vi 0), some (vi ((0 : Nat) : Int)), none] σ (by omega) ⟨FR.rf, hV, -1, 0, 0, rfl, .inl ⟨rfl, rfl⟩⟩
  refine ⟨s, b1, b2, ?_⟩
  rw [p2] at b3
  rcases b3 with ⟨z, -⟩ | ⟨-, rfl, rfl, rfl⟩
  · omega
  · exact e
end
