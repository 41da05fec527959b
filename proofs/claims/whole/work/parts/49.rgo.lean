-- a turn's pictures
section
variable (V : TVw) (g : Int) (A T I : Nat → Int)
/-- the rows where the pieces before the k-th have moved -/
def dMk (k : Nat) : TVw := fun x j => if x = 66 then (if j < k ∧ mGo V g A T I j = true then T j else V 66 j) else if x = 69 then (if j < k ∧ mGn V g A T I j = true then 1 else V 69 j) else V x j
/-- the rows where all pieces have moved -/
def dM : TVw := dMk V g A T I (nP V)
def dS (h : Int) (p : Nat) : Int := if V 65 p = h ∧ dM V g A T I 69 p = 0 then V 57 (48 * g + dM V g A T I 66 p).toNat else 0
noncomputable def dF (t : Int) (h : Nat) : Int := if V 59 h = g ∧ fpl V h t = true then ffe V h t (fst (dM V g A T I) h) else 0
noncomputable def dC (t : Int) (h : Nat) : Int := if V 59 h = g ∧ fpl V h t = true then w32 (V 60 h + fS (dS V g A T I h) (nP V) - ffe V h t (fst (dM V g A T I) h)) else V 60 h
/-- the rows where the holders before the k-th have their coins too -/
noncomputable def dNk (t : Int) (k : Nat) : TVw := fun x j => if x = 60 then (if j < k then dC V g A T I t j else V 60 j) else dM V g A T I x j
noncomputable def dN (t : Int) : TVw := dNk V g A T I t (nH V)
end
def dkk (k : Nat) : Bool := Nat.beq k 55 || (Nat.beq k 60 || (Nat.beq k 66 || (Nat.beq k 69 || (Nat.ble 70 k && Nat.ble k 74))))
theorem Inv.con {V V' : TVw} (hI : Inv V) (h : ∀ k j, dkk k = false → V' k j = V k j) (h3 : ∀ p, p < nP V → 0 ≤ V' 66 p ∧ V' 66 p < 48 ∧ (V' 69 p = 0 ∨ V' 69 p = 1)) (h5 : ∀ g, g < 3 → nG V ≤ g → V' 55 g = 0) (h4 : ∀ x, x < nH V → ∀ u : Nat, 0 ≤ V 62 x → V 62 x ≤ u → V 74 (12 * u + x) = 0 → V' 74 (12 * u + x) = 0) (h6 : ∀ x, x < nH V → rgI (V' 60 x)) (h73 : ∀ x, x < nH V → ∀ u : Nat, (u : Int) < V 54 (V 59 x).toNat → rgI (V 73 (12 * u + x)) → rgI (V' 73 (12 * u + x))) : Inv V' := by
  have e61 : ∀ j, V' 61 j = V 61 j := fun j => h 61 j rfl
  have e58 : ∀ j, V' 58 j = V 58 j := fun j => h 58 j rfl
  have e51 : ∀ j, V' 51 j = V 51 j := fun j => h 51 j rfl
  have e52 : ∀ j, V' 52 j = V 52 j := fun j => h 52 j rfl
  have e53 : ∀ j, V' 53 j = V 53 j := fun j => h 53 j rfl
  have e54 : ∀ j, V' 54 j = V 54 j := fun j => h 54 j rfl
  have e56 : ∀ j, V' 56 j = V 56 j := fun j => h 56 j rfl
  have e59 : ∀ j, V' 59 j = V 59 j := fun j => h 59 j rfl
  have e62 : ∀ j, V' 62 j = V 62 j := fun j => h 62 j rfl
  have e63 : ∀ j, V' 63 j = V 63 j := fun j => h 63 j rfl
  have e65 : ∀ j, V' 65 j = V 65 j := fun j => h 65 j rfl
  have e67 : ∀ j, V' 67 j = V 67 j := fun j => h 67 j rfl
  have e68 : ∀ j, V' 68 j = V 68 j := fun j => h 68 j rfl
  have e75 : ∀ j, V' 75 j = V 75 j := fun j => h 75 j rfl
  have e76 : ∀ j, V' 76 j = V 76 j := fun j => h 76 j rfl
  have e77 : ∀ j, V' 77 j = V 77 j := fun j => h 77 j rfl
  have e78 : ∀ j, V' 78 j = V 78 j := fun j => h 78 j rfl
  have e79 : ∀ j, V' 79 j = V 79 j := fun j => h 79 j rfl
  have e80 : ∀ j, V' 80 j = V 80 j := fun j => h 80 j rfl
  have e81 : ∀ j, V' 81 j = V 81 j := fun j => h 81 j rfl
  have e82 : ∀ j, V' 82 j = V 82 j := fun j => h 82 j rfl
  have e83 : ∀ j, V' 83 j = V 83 j := fun j => h 83 j rfl
  have e84 : ∀ j, V' 84 j = V 84 j := fun j => h 84 j rfl
  have e85 : ∀ j, V' 85 j = V 85 j := fun j => h 85 j rfl
  have e86 : ∀ j, V' 86 j = V 86 j := fun j => h 86 j rfl
  have e87 : ∀ j, V' 87 j = V 87 j := fun j => h 87 j rfl
  have e88 : ∀ j, V' 88 j = V 88 j := fun j => h 88 j rfl
  have e89 : ∀ j, V' 89 j = V 89 j := fun j => h 89 j rfl
  have e90 : ∀ j, V' 90 j = V 90 j := fun j => h 90 j rfl
  have e91 : ∀ j, V' 91 j = V 91 j := fun j => h 91 j rfl
  have e92 : ∀ j, V' 92 j = V 92 j := fun j => h 92 j rfl
  have e93 : ∀ j, V' 93 j = V 93 j := fun j => h 93 j rfl
  have e106 : ∀ j, V' 106 j = V 106 j := fun j => h 106 j rfl
  have e107 : ∀ j, V' 107 j = V 107 j := fun j => h 107 j rfl
  have e108 : ∀ j, V' 108 j = V 108 j := fun j => h 108 j rfl
  have e109 : ∀ j, V' 109 j = V 109 j := fun j => h 109 j rfl
  have e115 : ∀ j, V' 115 j = V 115 j := fun j => h 115 j rfl
  have e116 : ∀ j, V' 116 j = V 116 j := fun j => h 116 j rfl
  have egm : ∀ p, fgm V' p = fgm V p := fun p => by unfold fgm; rw [e59, e65]
  have etx : ∀ r, ftx V' r = ftx V r := fun r => by unfold ftx; simp only [e76, e77]
  intro i
  have q := hI i
  match i, q with
  | 0, q => (simp only [invc, e51] at q ⊢; exact q)
  | 1, q =>
    intro g hg
    obtain ⟨q1, q2, q3, q4⟩ := q g hg
    simp only [e51, e53, e54, e56, nG] at q1 q2 q3 q4 ⊢
    exact ⟨q1, q2, fun z => ⟨(q3 z).1, h5 g hg z⟩, q4⟩
  | 2, q => (simp only [invc, nH, e51, e59, e62, e63] at q ⊢; exact q)
  | 3, q =>
    intro p hp
    have hp : p < nP V := by
      have hp : p < (V' 51 23).toNat := hp
      rw [e51] at hp
      exact hp
    obtain ⟨q1, q2, q3, q4, q5, q6, q7, q8, q9⟩ := q p hp
    obtain ⟨r1, r2, r3⟩ := h3 p hp
    rw [e65, e51, e67, e68]
    exact ⟨q1, q2, r1, r2, q5, q6, r3, q8, q9⟩
  | 8, q => (simp only [invc, e51, e75] at q ⊢; exact q)
  | 9, q => (simp only [invc, nR, e51, e76, e77, e78, e79, e80, etx] at q ⊢; exact q)
  | 10, q => (simp only [invc, nC, e51, e62, e63, e81, e82, e83, e84, e85, e86] at q ⊢; exact q)
  | 11, q => (simp only [invc, nO, e51, e65, e82, e87, e88, e89, e90, e91, egm] at q ⊢; exact q)
  | 12, q => (simp only [invc, nO, e51, e81, e82, e87, e88, e92, e93] at q ⊢; exact q)
  | 13, q => (simp only [invc, e51, e65, e106, e107, e108, e109, egm] at q ⊢; exact q)
  | 14, q => (simp only [invc, e51] at q ⊢; exact q)
  | 15, q => (simp only [invc, e51, e115, e116] at q ⊢; exact q)
  | 4, q =>
    intro x hx u hu z1 z2
    have hx : x < nH V := by
      have hx : x < (V' 51 15).toNat := hx
      rw [e51] at hx
      exact hx
    rw [e54, e59] at hu
    rw [e62] at z1 z2
    exact h4 x hx u z1 z2 (q x hx u hu z1 z2)
  | 5, q => (simp only [invc, e58] at q ⊢; exact q)
  | 6, q =>
    intro x hx
    have hx : x < nH V := by
      have hx : x < (V' 51 15).toNat := hx
      rw [e51] at hx
      exact hx
    obtain ⟨q1, q2, q3⟩ := q x hx
    rw [e61, e54, e59]
    exact ⟨h6 x hx, q2, fun u hu => h73 x hx u hu (q3 u hu)⟩
  | 7, _ => trivial
  | n + 16, _ => trivial
theorem w32_rg (x : Int) : rgI (w32 x) := by
  rw [w32_eq]
  unfold rgI
  have a := @Int.le_bmod x 4294967296 (by decide)
  have b := @Int.bmod_lt x 4294967296 (by decide)
  omega
theorem ffe_dM (V : TVw) (g : Int) (A T I : Nat → Int) (h : Nat) (t n : Int) : ffe (dM V g A T I) h t n = ffe V h t n := rfl
section
variable {V : TVw} {g : Int} {A T I : Nat → Int}
theorem dMk_inv (hI : Inv V) (hA : mVA V g A T) (k : Nat) : Inv (dMk V g A T I k) := by
  refine hI.con (fun x j hx => ?_) (fun p hp => ?_) (fun g hg hn => (hI 1 g hg).2.2.1 hn |>.2) (fun x hx u _ _ e => e) (fun x hx => (hI 6 x hx).1) (fun x hx u _ e => e)
  · unfold dMk
    rw [if_neg (by rintro rfl; cases hx), if_neg (by rintro rfl; cases hx)]
  · obtain ⟨-, -, q3, q4, -, -, q7, -⟩ := hI 3 p hp
    refine ⟨?_, ?_, ?_⟩
    · show 0 ≤ (if p < k ∧ mGo V g A T I p = true then T p else V 66 p)
      split
      · next e =>
        have e := e.2
        unfold mGo at e
        rw [Bool.and_eq_true] at e
        have m := mMv_iff.mp e.1
        rcases hA p hp m.1 with z | z | z <;> omega
      · exact q3
    · show (if p < k ∧ mGo V g A T I p = true then T p else V 66 p) < 48
      split
      · next e =>
        have e := e.2
        unfold mGo at e
        rw [Bool.and_eq_true] at e
        have m := mMv_iff.mp e.1
        rcases hA p hp m.1 with z | z | z <;> omega
      · exact q4
    · show (if p < k ∧ mGn V g A T I p = true then (1 : Int) else V 69 p) = 0 ∨ (if p < k ∧ mGn V g A T I p = true then (1 : Int) else V 69 p) = 1
      split
      · exact .inr rfl
      · exact q7
theorem dNk_inv (hI : Inv V) (hA : mVA V g A T) (t : Int) (k : Nat) : Inv (dNk V g A T I t k) := by
  have h1 := dMk_inv (I := I) hI hA (nP V)
  refine h1.con (fun x j hx => ?_) (fun p hp => ?_) (fun g hg hn => (h1 1 g hg).2.2.1 hn |>.2) (fun x hx u _ _ e => e) (fun x hx => ?_) (fun x hx u _ e => e)
  · unfold dNk
    rw [if_neg (by rintro rfl; cases hx)]
    rfl
  · obtain ⟨-, -, q3, q4, -, -, q7, -⟩ := h1 3 p hp
    exact ⟨q3, q4, q7⟩
  · show rgI (if x < k then dC V g A T I t x else V 60 x)
    split
    · unfold dC
      split
      · exact w32_rg _
      · exact (hI 6 x hx).1
    · exact (hI 6 x hx).1
end
