-- the world at the start
def V0 : TVw := fun k j => if k = 57 then (if j < 144 then 1 else 0) else if k = 115 then (if j < 6 then -1 else 0) else 0
theorem v0_z {k j : Nat} (h1 : k ≠ 57) (h2 : k ≠ 115) : V0 k j = 0 := by
  unfold V0
  rw [if_neg h1, if_neg h2]
theorem v0_57 {j : Nat} (h : j < 144) : V0 57 j = 1 := by
  unfold V0
  rw [if_pos rfl, if_pos h]
theorem v0_115 {j : Nat} (h : j < 6) : V0 115 j = -1 := by
  unfold V0
  rw [if_neg (by decide), if_pos rfl, if_pos h]
theorem v0_51 (j : Nat) : V0 51 j = 0 := v0_z (by decide) (by decide)
theorem v0_inv : Inv V0 := fun i => match i with
  | 0 => by
    simp only [invc, v0_51]
    decide
  | 1 => fun g hg => by
    have e := v0_51
    simp only [nG, e, v0_z (k := 54) (by decide) (by decide), v0_z (k := 55) (by decide) (by decide), v0_z (k := 53) (by decide) (by decide), v0_z (k := 56) (by decide) (by decide)]
    exact ⟨by decide, by decide, fun _ => ⟨trivial, trivial⟩, fun q => absurd q (Nat.not_lt_zero _)⟩
  | 2 => fun h hh => absurd hh (by rw [nH, v0_51]; exact Nat.not_lt_zero _)
  | 3 => fun h hh => absurd hh (by rw [nP, v0_51]; exact Nat.not_lt_zero _)
  | 4 => fun h hh => absurd hh (by rw [nH, v0_51]; exact Nat.not_lt_zero _)
  | 5 => fun j hj => .inl (v0_z (by decide) (by decide))
  | 6 => fun h hh => absurd hh (by rw [nH, v0_51]; exact Nat.not_lt_zero _)
  | 7 => trivial
  | 8 => fun h hh => absurd hh (by rw [v0_51]; exact Nat.not_lt_zero _)
  | 9 => fun h hh => absurd hh (by rw [nR, v0_51]; exact Nat.not_lt_zero _)
  | 10 => fun h hh => absurd hh (by rw [nC, v0_51]; exact Nat.not_lt_zero _)
  | 11 => fun h hh => absurd hh (by rw [nO, v0_51]; exact Nat.not_lt_zero _)
  | 12 => fun h hh => absurd hh (by rw [nO, v0_51]; exact Nat.not_lt_zero _)
  | 13 => by
    have e := v0_51
    simp only [invc, e]
    exact ⟨by decide, by decide, by decide, by decide, fun s hs => absurd hs (by omega)⟩
  | 14 => by
    have e := v0_51
    simp only [invc, e]
    decide
  | 15 => fun x hx => by
    rw [v0_115 hx, v0_51, v0_z (k := 116) (by decide) (by decide)]
    exact ⟨by decide, by decide, fun _ => by decide, by decide, by decide⟩
  | n + 16 => trivial
/-- the class's rows at the start -/
def BGn (σ : TM) : Prop := (σ 0 0 0 = 0 ∧ σ 0 0 2 = 0 ∧ σ 0 0 4 = 0 ∧ σ 0 0 7 = 0 ∧ σ 0 0 9 = 0 ∧ σ 0 0 11 = 0 ∧ σ 0 0 13 = 0 ∧ σ 23 0 0 = 0) ∧ (∀ g, g < 3 → σ 38 g 2 = 0 ∧ σ 38 g 4 = 0 ∧ σ 38 g 3 = -1) ∧ (∀ g c, g < 3 → c < 48 → σ 39 g c = 1 ∧ σ 40 g c = 0) ∧ (∀ h, h < 12 → σ 41 h 4 = 0 ∧ σ 41 h 2 = -1 ∧ σ 41 h 3 = -1) ∧ (∀ p, p < 40 → σ 17 p 4 = -1 ∧ σ 17 p 5 = 0 ∧ σ 17 p 6 = 0 ∧ σ 19 p 0 = 0) ∧ (∀ o, o < 300 → σ 45 o 5 = -1 ∧ σ 45 o 6 = -1) ∧ σ 26 0 0 = 0 ∧ σ 26 0 1 = 0 ∧ σ 35 0 1 = 0 ∧ (∀ x, x < 6 → σ 49 x 0 = -2 ∧ ∀ i, i < 60 → σ 50 x i = 0) ∧ σ 119 0 1 = 0 ∧ ∀ j, j < 11 → σ 120 0 j = strB j
theorem v0_cr {σ : TM} (h : BGn σ) : CR σ V0 := by
  obtain ⟨b0, b1, b2, b3, b4, b5, b6, b7, b8, b9, b10, b11⟩ := h
  have e := v0_51
  intro i
  match i with
  | 0 =>
    simp only [crc, e]
    exact b0
  | 1 =>
    intro g hg
    obtain ⟨q1, q2, q3⟩ := b1 g hg
    rw [v0_z (k := 54) (by decide) (by decide), v0_z (k := 55) (by decide) (by decide)]
    exact ⟨q1, q2, fun q => absurd q (by rw [nG, e]; exact Nat.not_lt_zero _), fun _ => q3⟩
  | 2 =>
    intro g c hg hc
    rw [v0_57 (by omega), v0_z (k := 58) (by decide) (by decide)]
    exact b2 g c hg hc
  | 3 =>
    intro h hh
    obtain ⟨q1, q2, q3⟩ := b3 h hh
    rw [v0_z (k := 64) (by decide) (by decide)]
    exact ⟨q1, fun q => absurd q (by rw [nH, e]; exact Nat.not_lt_zero _), fun _ => ⟨q2, q3⟩⟩
  | 4 => exact fun h hh => absurd hh (by rw [nH, e]; exact Nat.not_lt_zero _)
  | 5 => exact fun h hh => absurd hh (by rw [nP, e]; exact Nat.not_lt_zero _)
  | 6 =>
    intro p hp _
    obtain ⟨q1, q2, q3, -⟩ := b4 p hp
    exact ⟨q1, q2, q3, v0_z (by decide) (by decide), v0_z (by decide) (by decide)⟩
  | 7 => exact fun p hp => ⟨(b4 p hp).2.2.2, fun q => absurd q (by rw [nP, e]; exact Nat.not_lt_zero _)⟩
  | 8 => exact fun h hh => absurd hh (by rw [e]; exact Nat.not_lt_zero _)
  | 9 => exact fun h hh => absurd hh (by rw [nR, e]; exact Nat.not_lt_zero _)
  | 10 => exact fun h hh => absurd hh (by rw [nC, e]; exact Nat.not_lt_zero _)
  | 11 => exact fun o ho => ⟨fun q => absurd q (by rw [nO, e]; exact Nat.not_lt_zero _), fun _ => b5 o ho⟩
  | 12 =>
    simp only [crc, e]
    exact ⟨b6, b7, fun s hs => absurd hs (by omega), fun s hs => absurd hs (by omega)⟩
  | 13 =>
    simp only [crc, e]
    exact ⟨b8, fun i _ hi => absurd hi (by omega)⟩
  | 14 =>
    intro x hx
    obtain ⟨q1, q2⟩ := b9 x hx
    rw [v0_115 hx]
    exact ⟨fun _ => q1, fun q => absurd q (by decide), fun q => absurd q (by decide), fun i hi => by rw [v0_z (k := 117) (by decide) (by decide)]; exact q2 i hi⟩
  | 15 => exact ⟨b10, b11⟩
  | n + 16 => exact v0_inv
theorem ww_start {σ : TM} (h : BGn σ) (hV : RV σ V0) : WW σ V0 := ⟨v0_cr h, hV, fun g g0 g1 => absurd g1 (by rw [v0_51]; omega)⟩
