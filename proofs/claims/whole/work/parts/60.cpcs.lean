-- the class's doTurn(): the pieces carried out
section
variable {σ : TM} {V : TVw} {g : Int} {t : Nat} {d : Nat}
/-- the pieces before k carried out -/
def CP (s0 s : TM) (V : TVw) (g : Int) (t k : Nat) : Prop := (∀ x i j, ¬ (i < k ∧ fgm V i = g ∧ (x = 17 ∧ 3 ≤ j ∧ j ≤ 6 ∨ x = 18 ∧ j = t + 1 ∨ x = 19 ∧ j = t + 1)) → s x i j = s0 x i j) ∧ ∀ p, p < k → fgm V p = g → s 17 p 3 = aN V g t 66 p ∧ s 17 p 4 = dL V g t p ∧ s 17 p 5 = mFf V g (aA V t) (aT V t) (aI V t) p ∧ s 17 p 6 = aN V g t 69 p ∧ s 18 p (t + 1) = aN V g t 66 p ∧ s 19 p (t + 1) = aN V g t 69 p
theorem CP.fr {s0 s : TM} {k : Nat} (h : CP s0 s V g t k) : Sc sst s0 s := fun x i j hx => by
  refine h.1 x i j ?_
  rintro ⟨-, -, q⟩
  unfold sst at hx
  rw [Bool.or_eq_false_iff] at hx
  have hx := hx.2
  rcases q with ⟨rfl, q1, q2⟩ | ⟨rfl, -⟩ | ⟨rfl, -⟩
  · have e : (Nat.ble 3 j && Nat.ble j 6) = true := by
      rw [Bool.and_eq_true]
      exact ⟨Nat.ble_eq_true_of_le q1, Nat.ble_eq_true_of_le q2⟩
    have hx : ((Nat.ble 3 j && Nat.ble j 6) || false) = false := hx
    rw [e] at hx
    cases hx
  · cases hx
  · cases hx
set_option maxHeartbeats 2000000 in
theorem c_turn2 {s0 : TM} (hI : Inv V) (ht : t < 30) (hM : MS s0 V g (aA V t) (aT V t) (aI V t)) (hv : ∀ p, p < nP V → fgm V p = g → s0 6 0 p = dL V g t p ∧ s0 12 0 p = mFf V g (aA V t) (aT V t) (aI V t) p ∧ coE s0 p = aN V g t 66 p ∧ coG s0 p = aN V g t 69 p) : ∃ s, CP s0 s V g t (nP V) ∧ MS s V g (aA V t) (aT V t) (aI V t) ∧ ∀ n, t_tr tbl mtb (t_run tbl mtb (d + 7)) 108 (n + nP V) 15 [some (vh 0 0), some (vi g), some (vi (t : Int)), some (vi 0)] [] s0 = t_tr tbl mtb (t_run tbl mtb (d + 7)) 108 n 15 [some (vh 0 0), some (vi g), some (vi (t : Int)), some (vi (nP V : Int))] [] s := by
  have h0 := hI.cnt
  obtain ⟨L, s, ⟨a1, rfl⟩, e⟩ := loop_rel (O := t_run tbl mtb (d + 7)) (k := 108) (pc := 15) (fun k L s => CP s0 s V g t k ∧ L = [some (vh 0 0), some (vi g), some (vi (t : Int)), some (vi (k : Int))]) (nP V) (by
    rintro k L s hk ⟨b1, rfl⟩
    have hMs := hM.sc b1.fr
    have r1 : 0 ≤ (k : Int) ∧ (k : Int) < 40 := by omega
    have st := fun N => tr_step (n := N) (s_kX11_doTurn_15 (t_run tbl mtb (d + 7)) g t k s )
    simp only [hMs.1.2.2.1, if_pos (show (k : Int) < V 51 23 by omega), w32_nat (show k < 2147483647 by omega), Int.toNat_natCast, if_pos r1, (hMs.2.2.1 k hk).1] at st
    by_cases z : fgm V k = g
    · obtain ⟨s1, c1, c2, c3, c4, c5, c6, c7, c8⟩ := c_carryOut (σ := s) (d := d + 6) (p := k) (t := t) (by omega) ht
      simp only [if_pos z, c8, cv_ok] at st
      obtain ⟨v1, v2, v3, v4⟩ := hv k hk z
      have k7 : s 7 0 k = s0 7 0 k := b1.1 7 0 k (by rintro ⟨-, -, ⟨q, -⟩ | ⟨q, -⟩ | ⟨q, -⟩⟩ <;> cases q)
      have k6 : s 6 0 k = s0 6 0 k := b1.1 6 0 k (by rintro ⟨-, -, ⟨q, -⟩ | ⟨q, -⟩ | ⟨q, -⟩⟩ <;> cases q)
      have k12 : s 12 0 k = s0 12 0 k := b1.1 12 0 k (by rintro ⟨-, -, ⟨q, -⟩ | ⟨q, -⟩ | ⟨q, -⟩⟩ <;> cases q)
      have k17 : s 17 k 3 = s0 17 k 3 := b1.1 17 k 3 (fun q => Nat.lt_irrefl k q.1)
      have eE : coE s k = aN V g t 66 k := by rw [← v3]; unfold coE; rw [k7, k17]
      have eG : coG s k = aN V g t 69 k := by rw [← v4]; unfold coG; rw [k7]
      refine ⟨_, s1, ⟨⟨fun x i j hx => ?_, fun p hp hpg => ?_⟩, rfl⟩, st⟩
      · rw [c1 x i j, b1.1 x i j]
        · exact fun q => hx ⟨by omega, q.2⟩
        · rintro ⟨rfl, rfl, q⟩
          exact hx ⟨Nat.lt_succ_self _, z, .inl ⟨rfl, q⟩⟩
        · rintro ⟨rfl, rfl, rfl⟩
          exact hx ⟨Nat.lt_succ_self _, z, .inr (.inl ⟨rfl, rfl⟩)⟩
        · rintro ⟨rfl, rfl, rfl⟩
          exact hx ⟨Nat.lt_succ_self _, z, .inr (.inr ⟨rfl, rfl⟩)⟩
      · by_cases e : p = k
        · subst e
          rw [c2, c3, c4, c5, c6, c7, eE, eG, k6, k12]
          exact ⟨rfl, v1, v2, rfl, rfl, rfl⟩
        · have hne : ∀ x j, s1 x p j = s x p j := fun x j => c1 x p j (fun q => e q.2.1) (fun q => e q.2.1) (fun q => e q.2.1)
          simp only [hne]
          exact b1.2 p (by omega) hpg
    · simp only [if_neg z] at st
      refine ⟨_, s, ⟨⟨fun x i j hx => b1.1 x i j (fun q => hx ⟨by omega, q.2⟩), fun p hp hpg => ?_⟩, rfl⟩, st⟩
      have e : p ≠ k := by rintro rfl; exact z hpg
      exact b1.2 p (by omega) hpg) (nP V) 0 [some (vh 0 0), some (vi g), some (vi (t : Int)), some (vi ((0 : Nat) : Int))] s0 (by omega) ⟨⟨fun x i j hx => rfl, fun p hp => by omega⟩, rfl⟩
  exact ⟨s, a1, hM.sc a1.fr, e⟩
end
