-- the class's doTurn(): the holders settled
section
variable {σ : TM} {V : TVw} {g : Int} {t : Nat} {d : Nat}
/-- the holders before k settled -/
def CH (s0 s : TM) (V : TVw) (g : Int) (t k : Nat) : Prop := (∀ x i j, s1 x j = false → ¬ (i < k ∧ V 59 i = g ∧ (x = 41 ∧ j = 1 ∨ x = 42 ∧ j = t + 1 ∨ x = 43 ∧ j = t)) → s x i j = s0 x i j) ∧ ∀ h, h < k → V 59 h = g → s 41 h 1 = dC V g (aA V t) (aT V t) (aI V t) t h ∧ s 42 h (t + 1) = dC V g (aA V t) (aT V t) (aI V t) t h ∧ s 43 h t = dF V g (aA V t) (aT V t) (aI V t) t h
theorem CH.fr {s0 s : TM} {k : Nat} (h : CH s0 s V g t k) : Sc sst s0 s := fun x i j hx => by
  refine h.1 x i j (s1_sst x j hx) ?_
  rintro ⟨-, -, q⟩
  rcases q with ⟨rfl, rfl⟩ | ⟨rfl, -⟩ | ⟨rfl, -⟩ <;> cases hx
set_option maxHeartbeats 2000000 in
theorem c_turn3 {s0 : TM} (hI : Inv V) (ht : t < 30) (hM : MS s0 V g (aA V t) (aT V t) (aI V t)) (h60 : ∀ x, x < nH V → s0 41 x 1 = V 60 x) : ∃ s, CH s0 s V g t (nH V) ∧ MS s V g (aA V t) (aT V t) (aI V t) ∧ ∀ n, t_tr tbl mtb (t_run tbl mtb (d + 7)) 108 (n + nH V) 53 [some (vh 0 0), some (vi g), some (vi (t : Int)), some (vi 0)] [] s0 = t_tr tbl mtb (t_run tbl mtb (d + 7)) 108 n 53 [some (vh 0 0), some (vi g), some (vi (t : Int)), some (vi (nH V : Int))] [] s := by
  have h0 := hI.cnt
  have hA : mVA V g (aA V t) (aT V t) := oVA (t := t) hI nt_TW
  obtain ⟨L, s, ⟨a1, rfl⟩, e⟩ := loop_rel (O := t_run tbl mtb (d + 7)) (k := 108) (pc := 53) (fun k L s => CH s0 s V g t k ∧ L = [some (vh 0 0), some (vi g), some (vi (t : Int)), some (vi (k : Int))]) (nH V) (by
    rintro k L s hk ⟨b1, rfl⟩
    have hMs := hM.sc b1.fr
    have r1 : 0 ≤ (k : Int) ∧ (k : Int) < 12 := by omega
    have st := fun N => tr_step (n := N) (s_kX11_doTurn_53 (t_run tbl mtb (d + 7)) g t k s )
    simp only [hMs.1.2.1, if_pos (show (k : Int) < V 51 15 by omega), w32_nat (show k < 2147483647 by omega), Int.toNat_natCast, if_pos r1, (hMs.2.2.2.1 k hk).1] at st
    by_cases z : V 59 k = g
    · have k60 : s 41 k 1 = V 60 k := by rw [b1.1 41 k 1 rfl (fun q => Nat.lt_irrefl k q.1), h60 k hk]
      obtain ⟨s1', c1, c2⟩ := c_settle (d := d + 2) hI hA hMs hk z k60 ht
      simp only [if_pos z, c2, cv_ok] at st
      refine ⟨_, _, ⟨⟨fun x i j h1 hx => ?_, fun h hh hhg => ?_⟩, rfl⟩, st⟩
      · have e1 : ¬ (x = 42 ∧ i = k ∧ j = t + 1) := by rintro ⟨rfl, rfl, rfl⟩; exact hx ⟨Nat.lt_succ_self _, z, .inr (.inl ⟨rfl, rfl⟩)⟩
        have e2 : ¬ (x = 43 ∧ i = k ∧ j = t) := by rintro ⟨rfl, rfl, rfl⟩; exact hx ⟨Nat.lt_succ_self _, z, .inr (.inr ⟨rfl, rfl⟩)⟩
        have e3 : ¬ (x = 41 ∧ i = k ∧ j = 1) := by rintro ⟨rfl, rfl, rfl⟩; exact hx ⟨Nat.lt_succ_self _, z, .inl ⟨rfl, rfl⟩⟩
        rw [t_upd_eq, if_neg e1, t_upd_eq, if_neg e2, t_upd_eq, if_neg e3, c1 x i j h1]
        exact b1.1 x i j h1 (fun q => hx ⟨by omega, q.2⟩)
      · by_cases e : h = k
        · subst e
          rw [up_k (by decide), up_k (by decide), up_same, up_same, up_k (by decide), up_same]
          exact ⟨rfl, rfl, rfl⟩
        · rw [up_i e, up_i e, up_i e, up_i e, up_i e, up_i e, up_i e, up_i e, up_i e, c1 41 h 1 rfl, c1 42 h (t + 1) rfl, c1 43 h t rfl]
          exact b1.2 h (by omega) hhg
    · simp only [if_neg z] at st
      refine ⟨_, s, ⟨⟨fun x i j h1 hx => b1.1 x i j h1 (fun q => hx ⟨by omega, q.2⟩), fun p hp hpg => ?_⟩, rfl⟩, st⟩
      have e : p ≠ k := by rintro rfl; exact z hpg
      exact b1.2 p (by omega) hpg) (nH V) 0 [some (vh 0 0), some (vi g), some (vi (t : Int)), some (vi ((0 : Nat) : Int))] s0 (by omega) ⟨⟨fun x i j h1 hx => rfl, fun p hp => by omega⟩, rfl⟩
  exact ⟨s, a1, hM.sc a1.fr, e⟩
end
