-- best(): both sides
def beV (V : TVw) (n : Nat) (dg : Nat → Nat) : TVw := fun a b => if a = 51 then (if b = 72 then 0 else if b = 74 then (n : Int) else V 51 b) else if a = 110 then (if b < n then (dg b : Int) else V 110 b) else V a b
section
variable {σ : TM} {V : TVw} {d n : Nat} {dg : Nat → Nat}
theorem be_uV : Uv [33, 34, 4328, 4329, 110, 7600, 7602] V (beV V n dg) := fun k j _ h => by
  unfold beV
  by_cases e : k = 51
  · subst e
    rw [if_pos rfl]
    by_cases e1 : j = 72
    · subst e1
      cases h
    · rw [if_neg e1]
      by_cases e2 : j = 74
      · subst e2
        cases h
      · rw [if_neg e2]
  · rw [if_neg e]
    by_cases e1 : k = 110
    · subst e1
      cases h
    · rw [if_neg e1]
theorem be_inv (hI : Inv V) (hn : n ≤ 3) : Inv (beV V n dg) := Inv.k be_uV hI (fun i hi hd => by
  rcases (by decide : ∀ i, i < 16 → djT [33, 34, 4328, 4329, 110, 7600, 7602] (idep i) = false → i = 13) i hi hd with rfl
  show 0 ≤ beV V n dg 51 72 ∧ beV V n dg 51 72 ≤ 3 ∧ 0 ≤ beV V n dg 51 74 ∧ beV V n dg 51 74 ≤ 3 ∧ ∀ s : Nat, (s : Int) < beV V n dg 51 72 → _
  have e1 : beV V n dg 51 72 = 0 := rfl
  have e2 : beV V n dg 51 74 = (n : Int) := rfl
  rw [e1, e2]
  exact ⟨by decide, by decide, by omega, by omega, fun s hs => absurd hs (by omega)⟩)
theorem be_cr {s : TM} (h : CR σ V) (hn : n ≤ 3) (uS : Uc [33, 34, 4328, 4329, 110, 7600, 7602] σ s) (f0 : s 26 0 0 = 0) (f1 : s 26 0 1 = (n : Int)) (f34 : ∀ z, z < n → s 34 0 z = (dg z : Int)) : CR s (beV V n dg) :=
  CR.k uS be_uV h (be_inv h.inv hn) (fun i hi hd => by
    rcases (by decide : ∀ i, i < 16 → djT [33, 34, 4328, 4329, 110, 7600, 7602] (cdep i) = false → i = 12) i hi hd with rfl
    refine ⟨f0, f1, fun z hz => ?_, fun z hz => ?_⟩
    · have hz : (z : Int) < 0 := hz
      omega
    · have hz : (z : Int) < (n : Int) := hz
      rw [f34 z (by omega)]
      show (dg z : Int) = if z < n then (dg z : Int) else V 110 z
      rw [if_pos (by omega)])
theorem c_choose (h : CR σ V) (hn : V 51 72 = (n : Int)) {k : Nat} (hk : k ≤ 64) : ∃ s, FC σ s ∧ Uc [33, 34, 4328, 4329, 110, 7600, 7602] σ s ∧ s 26 0 0 = 0 ∧ s 26 0 1 = (n : Int) ∧ (∀ z, z < n → s 34 0 z = (mx n (cz V n) k z : Int)) ∧ t_run tbl mtb (d + 2) 52 [vh 26 0, vi k] σ = some (none, s) := by
  have hI := h.inv
  obtain ⟨i1, i2, -⟩ := hI 13
  obtain ⟨s1', c1, c2, c3⟩ := c_pick (d := d) h hn hk
  have h1 := h.sc (c1.mono s33_scr)
  obtain ⟨a1, a2, a3, -⟩ := h1 12
  rw [run_go (k := 52) (as := [vh 26 0, vi k]) mt_52 (Nat.ne_of_beq_eq_false rfl) rfl (s_kX10_choose_0 _ k σ), cv_of c3, nx_inl]
  obtain ⟨L, s, ⟨b1, b2, rfl⟩, e⟩ := loop_rel (O := t_run tbl mtb (d + 1)) (k := 52) (pc := 7) (fun z L s => (∀ a, a ≠ 34 → ∀ i j, s a i j = s1' a i j) ∧ (∀ i, i < z → s 34 0 i = (mx n (cz V n) k i : Int)) ∧ L = [some (vh 26 0), none, some (vi (z : Int))]) n (by
    rintro z L s hz ⟨b1, b2, rfl⟩
    have r3 : 0 ≤ (z : Int) ∧ (z : Int) < 3 := by omega
    have q26 : s 26 0 0 = (n : Int) := by rw [b1 26 (by decide), a1, hn]
    have q33 : s 33 0 z = (mx n (cz V n) k z : Int) := by rw [b1 33 (by decide), c2 z hz]
    have st := fun N => tr_step (n := N) (s_kX10_choose_7 (t_run tbl mtb (d + 1)) z s)
    simp only [q26, if_pos (show (z : Int) < (n : Int) by omega), if_pos r3, Int.toNat_natCast, q33, w32_nat (show z < 2147483647 by omega)] at st
    refine ⟨_, t_upd s 34 0 z (mx n (cz V n) k z : Nat), ⟨fun a ha i j => by rw [up_k ha]; exact b1 a ha i j, fun i hi => ?_, rfl⟩, st⟩
    rw [up_at]
    by_cases y : i = z
    · rw [if_pos y, y]
    · rw [if_neg y]
      exact b2 i (by omega)) n 0 [some (vh 26 0), none, some (vi ((0 : Nat) : Int))] s1' (by omega) ⟨fun a _ i j => rfl, fun i hi => by omega, rfl⟩
  have q26 : s 26 0 0 = (n : Int) := by rw [b1 26 (by decide), a1, hn]
  refine ⟨t_upd (t_upd s 26 0 1 (n : Int)) 26 0 0 0, fun a i j ha => ?_, ?_, up_same, by rw [up_j (by decide), up_same], fun z hz => ?_, ?_⟩
  · rw [up_k (by omega), up_k (by omega), b1 a (by omega)]
    exact FC.of c1 s33_C a i j ha
  · refine Uc.up (Uc.up ?_ rfl) rfl
    intro a i j ha hj
    rw [b1 a (by rintro rfl; cases hj)]
    exact c1 a i j (by
      unfold s33
      cases q : Nat.beq a 33 with
      | false => rfl
      | true => rw [Nat.eq_of_beq_eq_true q] at hj; cases hj)
  · rw [up_k (by decide), up_k (by decide)]
    exact b2 z hz
  · have e := e (999998 - n + 1)
    rw [show 999998 - n + 1 + n = 999999 by omega] at e
    refine out_of (e.trans ?_)
    have st := fun N => tr_step (n := N) (s_kX10_choose_7 (t_run tbl mtb (d + 1)) n s)
    simp only [q26, if_neg (show ¬ (n : Int) < (n : Int) by omega)] at st
    exact st _
end
