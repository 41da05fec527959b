-- the world between two calls; what a change of few rows leaves
def cod (k j : Nat) : Nat := cond (Nat.beq k 0 || (Nat.beq k 23 || (Nat.beq k 26 || (Nat.beq k 35 || Nat.beq k 51)))) (1000 + 128 * k + j) k
def tn_in : List Nat → Nat → Bool
  | [], _ => false
  | a :: l, c => Nat.beq a c || tn_in l c
def cdep (i : Nat) : List Nat := match i with
  | 0 => [1000, 1002, 1004, 1007, 1009, 1011, 1013, 3944, 7528, 7536, 7543, 7551, 7569, 7577, 7562, 7556]
  | 1 => [38, 52, 53, 54, 55, 56, 7536]
  | 2 => [39, 40, 57, 58]
  | 3 => [41, 59, 60, 62, 63, 64, 7543]
  | 4 => [42, 43, 61, 73, 74, 54, 59, 7543]
  | 5 => [17, 65, 66, 68, 69, 70, 71, 59, 7551]
  | 6 => [17, 69, 71, 7551]
  | 7 => [18, 19, 67, 72, 54, 59, 65, 7551]
  | 8 => [24, 75, 7556]
  | 9 => [46, 47, 76, 77, 78, 79, 80, 7562]
  | 10 => [44, 81, 82, 83, 84, 85, 86, 7569]
  | 11 => [45, 87, 88, 89, 90, 91, 92, 93, 7577]
  | 12 => [4328, 4329, 27, 28, 29, 30, 34, 7600, 7602, 106, 107, 108, 109, 110]
  | 13 => [5481, 36, 7608, 114]
  | 14 => [49, 50, 115, 116, 117]
  | 15 => [119, 120]
  | _ => []
def idep (i : Nat) : List Nat := match i with
  | 0 => [7528, 7536, 7543, 7551, 7569, 7577, 7562, 7556]
  | 1 => [54, 55, 53, 56, 7536, 7543]
  | 2 => [59, 62, 63, 7543, 7536]
  | 3 => [65, 66, 67, 68, 69, 7551, 7543]
  | 4 => [59, 62, 54, 74, 7543]
  | 5 => [58]
  | 6 => [59, 60, 61, 54, 73, 7543]
  | 8 => [75, 7556]
  | 9 => [76, 77, 78, 79, 80, 7562, 7536, 7528]
  | 10 => [81, 82, 83, 84, 85, 86, 62, 63, 7569, 7543, 7528]
  | 11 => [87, 88, 89, 90, 91, 65, 82, 59, 7577, 7569, 7551]
  | 12 => [87, 92, 93, 81, 82, 88, 7577]
  | 13 => [106, 107, 108, 109, 65, 59, 7600, 7602, 7551]
  | 14 => [7608]
  | 15 => [115, 116, 7577]
  | _ => []
def djT (T l : List Nat) : Bool := l.all (fun c => Bool.not (tn_in T c))
theorem djT_in {T l : List Nat} (h : djT T l = true) : ∀ c, c ∈ l → tn_in T c = false := fun c hc => by
  have := List.all_eq_true.mp h c hc
  simpa using this
/-- of the class's rows only those of T have changed -/
def Uc (T : List Nat) (σ σ' : TM) : Prop := ∀ k i j, (Nat.blt k 51 || Nat.ble 119 k) = true → tn_in T (cod k j) = false → σ' k i j = σ k i j
/-- of the picture's rows only those of T have changed -/
def Uv (T : List Nat) (V V' : TVw) : Prop := ∀ k j, (Nat.ble 51 k && Nat.blt k 119) = true → tn_in T (cod k j) = false → V' k j = V k j
section
variable {σ σ' : TM} {V V' : TVw} {T : List Nat}
theorem crc_k0 (hσ : Uc T σ σ') (hV : Uv T V V') (hd : djT T (cdep 0) = true) (h : crc σ V 0) : crc σ' V' 0 := by
  have d := djT_in hd
  have q0_0 : σ' 0 0 0 = σ 0 0 0 := hσ 0 0 0 rfl (d 1000 (by decide))
  have q0_2 : σ' 0 0 2 = σ 0 0 2 := hσ 0 0 2 rfl (d 1002 (by decide))
  have q0_4 : σ' 0 0 4 = σ 0 0 4 := hσ 0 0 4 rfl (d 1004 (by decide))
  have q0_7 : σ' 0 0 7 = σ 0 0 7 := hσ 0 0 7 rfl (d 1007 (by decide))
  have q0_9 : σ' 0 0 9 = σ 0 0 9 := hσ 0 0 9 rfl (d 1009 (by decide))
  have q0_11 : σ' 0 0 11 = σ 0 0 11 := hσ 0 0 11 rfl (d 1011 (by decide))
  have q0_13 : σ' 0 0 13 = σ 0 0 13 := hσ 0 0 13 rfl (d 1013 (by decide))
  have q23_0 : σ' 23 0 0 = σ 23 0 0 := hσ 23 0 0 rfl (d 3944 (by decide))
  have e51_0 : V' 51 0 = V 51 0 := hV 51 0 rfl (d 7528 (by decide))
  have e51_8 : V' 51 8 = V 51 8 := hV 51 8 rfl (d 7536 (by decide))
  have e51_15 : V' 51 15 = V 51 15 := hV 51 15 rfl (d 7543 (by decide))
  have e51_23 : V' 51 23 = V 51 23 := hV 51 23 rfl (d 7551 (by decide))
  have e51_41 : V' 51 41 = V 51 41 := hV 51 41 rfl (d 7569 (by decide))
  have e51_49 : V' 51 49 = V 51 49 := hV 51 49 rfl (d 7577 (by decide))
  have e51_34 : V' 51 34 = V 51 34 := hV 51 34 rfl (d 7562 (by decide))
  have e51_28 : V' 51 28 = V 51 28 := hV 51 28 rfl (d 7556 (by decide))
  simp only [crc, nG, nH, nP, nC, nO, nR, q0_0, q0_2, q0_4, q0_7, q0_9, q0_11, q0_13, q23_0, e51_0, e51_8, e51_15, e51_23, e51_41, e51_49, e51_34, e51_28] at h ⊢
  exact h
theorem crc_k1 (hσ : Uc T σ σ') (hV : Uv T V V') (hd : djT T (cdep 1) = true) (h : crc σ V 1) : crc σ' V' 1 := by
  have d := djT_in hd
  have q38 : ∀ i j, σ' 38 i j = σ 38 i j := fun i j => hσ 38 i j rfl (d 38 (by decide))
  have e52 : ∀ j, V' 52 j = V 52 j := fun j => hV 52 j rfl (d 52 (by decide))
  have e53 : ∀ j, V' 53 j = V 53 j := fun j => hV 53 j rfl (d 53 (by decide))
  have e54 : ∀ j, V' 54 j = V 54 j := fun j => hV 54 j rfl (d 54 (by decide))
  have e55 : ∀ j, V' 55 j = V 55 j := fun j => hV 55 j rfl (d 55 (by decide))
  have e56 : ∀ j, V' 56 j = V 56 j := fun j => hV 56 j rfl (d 56 (by decide))
  have e51_8 : V' 51 8 = V 51 8 := hV 51 8 rfl (d 7536 (by decide))
  simp only [crc, nG, nH, nP, nC, nO, nR, q38, e52, e53, e54, e55, e56, e51_8] at h ⊢
  exact h
theorem crc_k2 (hσ : Uc T σ σ') (hV : Uv T V V') (hd : djT T (cdep 2) = true) (h : crc σ V 2) : crc σ' V' 2 := by
  have d := djT_in hd
  have q39 : ∀ i j, σ' 39 i j = σ 39 i j := fun i j => hσ 39 i j rfl (d 39 (by decide))
  have q40 : ∀ i j, σ' 40 i j = σ 40 i j := fun i j => hσ 40 i j rfl (d 40 (by decide))
  have e57 : ∀ j, V' 57 j = V 57 j := fun j => hV 57 j rfl (d 57 (by decide))
  have e58 : ∀ j, V' 58 j = V 58 j := fun j => hV 58 j rfl (d 58 (by decide))
  simp only [crc, nG, nH, nP, nC, nO, nR, q39, q40, e57, e58] at h ⊢
  exact h
theorem crc_k3 (hσ : Uc T σ σ') (hV : Uv T V V') (hd : djT T (cdep 3) = true) (h : crc σ V 3) : crc σ' V' 3 := by
  have d := djT_in hd
  have q41 : ∀ i j, σ' 41 i j = σ 41 i j := fun i j => hσ 41 i j rfl (d 41 (by decide))
  have e59 : ∀ j, V' 59 j = V 59 j := fun j => hV 59 j rfl (d 59 (by decide))
  have e60 : ∀ j, V' 60 j = V 60 j := fun j => hV 60 j rfl (d 60 (by decide))
  have e62 : ∀ j, V' 62 j = V 62 j := fun j => hV 62 j rfl (d 62 (by decide))
  have e63 : ∀ j, V' 63 j = V 63 j := fun j => hV 63 j rfl (d 63 (by decide))
  have e64 : ∀ j, V' 64 j = V 64 j := fun j => hV 64 j rfl (d 64 (by decide))
  have e51_15 : V' 51 15 = V 51 15 := hV 51 15 rfl (d 7543 (by decide))
  simp only [crc, nG, nH, nP, nC, nO, nR, q41, e59, e60, e62, e63, e64, e51_15] at h ⊢
  exact h
theorem crc_k4 (hσ : Uc T σ σ') (hV : Uv T V V') (hd : djT T (cdep 4) = true) (h : crc σ V 4) : crc σ' V' 4 := by
  have d := djT_in hd
  have q42 : ∀ i j, σ' 42 i j = σ 42 i j := fun i j => hσ 42 i j rfl (d 42 (by decide))
  have q43 : ∀ i j, σ' 43 i j = σ 43 i j := fun i j => hσ 43 i j rfl (d 43 (by decide))
  have e61 : ∀ j, V' 61 j = V 61 j := fun j => hV 61 j rfl (d 61 (by decide))
  have e73 : ∀ j, V' 73 j = V 73 j := fun j => hV 73 j rfl (d 73 (by decide))
  have e74 : ∀ j, V' 74 j = V 74 j := fun j => hV 74 j rfl (d 74 (by decide))
  have e54 : ∀ j, V' 54 j = V 54 j := fun j => hV 54 j rfl (d 54 (by decide))
  have e59 : ∀ j, V' 59 j = V 59 j := fun j => hV 59 j rfl (d 59 (by decide))
  have e51_15 : V' 51 15 = V 51 15 := hV 51 15 rfl (d 7543 (by decide))
  simp only [crc, nG, nH, nP, nC, nO, nR, q42, q43, e61, e73, e74, e54, e59, e51_15] at h ⊢
  exact h
theorem crc_k5 (hσ : Uc T σ σ') (hV : Uv T V V') (hd : djT T (cdep 5) = true) (h : crc σ V 5) : crc σ' V' 5 := by
  have d := djT_in hd
  have q17 : ∀ i j, σ' 17 i j = σ 17 i j := fun i j => hσ 17 i j rfl (d 17 (by decide))
  have e65 : ∀ j, V' 65 j = V 65 j := fun j => hV 65 j rfl (d 65 (by decide))
  have e66 : ∀ j, V' 66 j = V 66 j := fun j => hV 66 j rfl (d 66 (by decide))
  have e68 : ∀ j, V' 68 j = V 68 j := fun j => hV 68 j rfl (d 68 (by decide))
  have e69 : ∀ j, V' 69 j = V 69 j := fun j => hV 69 j rfl (d 69 (by decide))
  have e70 : ∀ j, V' 70 j = V 70 j := fun j => hV 70 j rfl (d 70 (by decide))
  have e71 : ∀ j, V' 71 j = V 71 j := fun j => hV 71 j rfl (d 71 (by decide))
  have e59 : ∀ j, V' 59 j = V 59 j := fun j => hV 59 j rfl (d 59 (by decide))
  have e51_23 : V' 51 23 = V 51 23 := hV 51 23 rfl (d 7551 (by decide))
  have egm : ∀ p, fgm V' p = fgm V p := fun p => by unfold fgm; rw [e59, e65]
  simp only [crc, nG, nH, nP, nC, nO, nR, q17, e65, e66, e68, e69, e70, e71, e59, e51_23, egm] at h ⊢
  exact h
theorem crc_k6 (hσ : Uc T σ σ') (hV : Uv T V V') (hd : djT T (cdep 6) = true) (h : crc σ V 6) : crc σ' V' 6 := by
  have d := djT_in hd
  have q17 : ∀ i j, σ' 17 i j = σ 17 i j := fun i j => hσ 17 i j rfl (d 17 (by decide))
  have e69 : ∀ j, V' 69 j = V 69 j := fun j => hV 69 j rfl (d 69 (by decide))
  have e71 : ∀ j, V' 71 j = V 71 j := fun j => hV 71 j rfl (d 71 (by decide))
  have e51_23 : V' 51 23 = V 51 23 := hV 51 23 rfl (d 7551 (by decide))
  simp only [crc, nG, nH, nP, nC, nO, nR, q17, e69, e71, e51_23] at h ⊢
  exact h
theorem crc_k7 (hσ : Uc T σ σ') (hV : Uv T V V') (hd : djT T (cdep 7) = true) (h : crc σ V 7) : crc σ' V' 7 := by
  have d := djT_in hd
  have q18 : ∀ i j, σ' 18 i j = σ 18 i j := fun i j => hσ 18 i j rfl (d 18 (by decide))
  have q19 : ∀ i j, σ' 19 i j = σ 19 i j := fun i j => hσ 19 i j rfl (d 19 (by decide))
  have e67 : ∀ j, V' 67 j = V 67 j := fun j => hV 67 j rfl (d 67 (by decide))
  have e72 : ∀ j, V' 72 j = V 72 j := fun j => hV 72 j rfl (d 72 (by decide))
  have e54 : ∀ j, V' 54 j = V 54 j := fun j => hV 54 j rfl (d 54 (by decide))
  have e59 : ∀ j, V' 59 j = V 59 j := fun j => hV 59 j rfl (d 59 (by decide))
  have e65 : ∀ j, V' 65 j = V 65 j := fun j => hV 65 j rfl (d 65 (by decide))
  have e51_23 : V' 51 23 = V 51 23 := hV 51 23 rfl (d 7551 (by decide))
  have egm : ∀ p, fgm V' p = fgm V p := fun p => by unfold fgm; rw [e59, e65]
  simp only [crc, nG, nH, nP, nC, nO, nR, q18, q19, e67, e72, e54, e59, e65, e51_23, egm] at h ⊢
  exact h
theorem crc_k8 (hσ : Uc T σ σ') (hV : Uv T V V') (hd : djT T (cdep 8) = true) (h : crc σ V 8) : crc σ' V' 8 := by
  have d := djT_in hd
  have q24 : ∀ i j, σ' 24 i j = σ 24 i j := fun i j => hσ 24 i j rfl (d 24 (by decide))
  have e75 : ∀ j, V' 75 j = V 75 j := fun j => hV 75 j rfl (d 75 (by decide))
  have e51_28 : V' 51 28 = V 51 28 := hV 51 28 rfl (d 7556 (by decide))
  simp only [crc, nG, nH, nP, nC, nO, nR, q24, e75, e51_28] at h ⊢
  exact h
theorem crc_k9 (hσ : Uc T σ σ') (hV : Uv T V V') (hd : djT T (cdep 9) = true) (h : crc σ V 9) : crc σ' V' 9 := by
  have d := djT_in hd
  have q46 : ∀ i j, σ' 46 i j = σ 46 i j := fun i j => hσ 46 i j rfl (d 46 (by decide))
  have q47 : ∀ i j, σ' 47 i j = σ 47 i j := fun i j => hσ 47 i j rfl (d 47 (by decide))
  have e76 : ∀ j, V' 76 j = V 76 j := fun j => hV 76 j rfl (d 76 (by decide))
  have e77 : ∀ j, V' 77 j = V 77 j := fun j => hV 77 j rfl (d 77 (by decide))
  have e78 : ∀ j, V' 78 j = V 78 j := fun j => hV 78 j rfl (d 78 (by decide))
  have e79 : ∀ j, V' 79 j = V 79 j := fun j => hV 79 j rfl (d 79 (by decide))
  have e80 : ∀ j, V' 80 j = V 80 j := fun j => hV 80 j rfl (d 80 (by decide))
  have e51_34 : V' 51 34 = V 51 34 := hV 51 34 rfl (d 7562 (by decide))
  have etx : ∀ r, ftx V' r = ftx V r := fun r => by unfold ftx; simp only [e76, e77]
  simp only [crc, nG, nH, nP, nC, nO, nR, q46, q47, e76, e77, e78, e79, e80, e51_34, etx] at h ⊢
  exact h
theorem crc_k10 (hσ : Uc T σ σ') (hV : Uv T V V') (hd : djT T (cdep 10) = true) (h : crc σ V 10) : crc σ' V' 10 := by
  have d := djT_in hd
  have q44 : ∀ i j, σ' 44 i j = σ 44 i j := fun i j => hσ 44 i j rfl (d 44 (by decide))
  have e81 : ∀ j, V' 81 j = V 81 j := fun j => hV 81 j rfl (d 81 (by decide))
  have e82 : ∀ j, V' 82 j = V 82 j := fun j => hV 82 j rfl (d 82 (by decide))
  have e83 : ∀ j, V' 83 j = V 83 j := fun j => hV 83 j rfl (d 83 (by decide))
  have e84 : ∀ j, V' 84 j = V 84 j := fun j => hV 84 j rfl (d 84 (by decide))
  have e85 : ∀ j, V' 85 j = V 85 j := fun j => hV 85 j rfl (d 85 (by decide))
  have e86 : ∀ j, V' 86 j = V 86 j := fun j => hV 86 j rfl (d 86 (by decide))
  have e51_41 : V' 51 41 = V 51 41 := hV 51 41 rfl (d 7569 (by decide))
  simp only [crc, nG, nH, nP, nC, nO, nR, q44, e81, e82, e83, e84, e85, e86, e51_41] at h ⊢
  exact h
theorem crc_k11 (hσ : Uc T σ σ') (hV : Uv T V V') (hd : djT T (cdep 11) = true) (h : crc σ V 11) : crc σ' V' 11 := by
  have d := djT_in hd
  have q45 : ∀ i j, σ' 45 i j = σ 45 i j := fun i j => hσ 45 i j rfl (d 45 (by decide))
  have e87 : ∀ j, V' 87 j = V 87 j := fun j => hV 87 j rfl (d 87 (by decide))
  have e88 : ∀ j, V' 88 j = V 88 j := fun j => hV 88 j rfl (d 88 (by decide))
  have e89 : ∀ j, V' 89 j = V 89 j := fun j => hV 89 j rfl (d 89 (by decide))
  have e90 : ∀ j, V' 90 j = V 90 j := fun j => hV 90 j rfl (d 90 (by decide))
  have e91 : ∀ j, V' 91 j = V 91 j := fun j => hV 91 j rfl (d 91 (by decide))
  have e92 : ∀ j, V' 92 j = V 92 j := fun j => hV 92 j rfl (d 92 (by decide))
  have e93 : ∀ j, V' 93 j = V 93 j := fun j => hV 93 j rfl (d 93 (by decide))
  have e51_49 : V' 51 49 = V 51 49 := hV 51 49 rfl (d 7577 (by decide))
  simp only [crc, nG, nH, nP, nC, nO, nR, q45, e87, e88, e89, e90, e91, e92, e93, e51_49] at h ⊢
  exact h
theorem crc_k12 (hσ : Uc T σ σ') (hV : Uv T V V') (hd : djT T (cdep 12) = true) (h : crc σ V 12) : crc σ' V' 12 := by
  have d := djT_in hd
  have q26_0 : σ' 26 0 0 = σ 26 0 0 := hσ 26 0 0 rfl (d 4328 (by decide))
  have q26_1 : σ' 26 0 1 = σ 26 0 1 := hσ 26 0 1 rfl (d 4329 (by decide))
  have q27 : ∀ i j, σ' 27 i j = σ 27 i j := fun i j => hσ 27 i j rfl (d 27 (by decide))
  have q28 : ∀ i j, σ' 28 i j = σ 28 i j := fun i j => hσ 28 i j rfl (d 28 (by decide))
  have q29 : ∀ i j, σ' 29 i j = σ 29 i j := fun i j => hσ 29 i j rfl (d 29 (by decide))
  have q30 : ∀ i j, σ' 30 i j = σ 30 i j := fun i j => hσ 30 i j rfl (d 30 (by decide))
  have q34 : ∀ i j, σ' 34 i j = σ 34 i j := fun i j => hσ 34 i j rfl (d 34 (by decide))
  have e51_72 : V' 51 72 = V 51 72 := hV 51 72 rfl (d 7600 (by decide))
  have e51_74 : V' 51 74 = V 51 74 := hV 51 74 rfl (d 7602 (by decide))
  have e106 : ∀ j, V' 106 j = V 106 j := fun j => hV 106 j rfl (d 106 (by decide))
  have e107 : ∀ j, V' 107 j = V 107 j := fun j => hV 107 j rfl (d 107 (by decide))
  have e108 : ∀ j, V' 108 j = V 108 j := fun j => hV 108 j rfl (d 108 (by decide))
  have e109 : ∀ j, V' 109 j = V 109 j := fun j => hV 109 j rfl (d 109 (by decide))
  have e110 : ∀ j, V' 110 j = V 110 j := fun j => hV 110 j rfl (d 110 (by decide))
  simp only [crc, nG, nH, nP, nC, nO, nR, q26_0, q26_1, q27, q28, q29, q30, q34, e51_72, e51_74, e106, e107, e108, e109, e110] at h ⊢
  exact h
theorem crc_k13 (hσ : Uc T σ σ') (hV : Uv T V V') (hd : djT T (cdep 13) = true) (h : crc σ V 13) : crc σ' V' 13 := by
  have d := djT_in hd
  have q35_1 : σ' 35 0 1 = σ 35 0 1 := hσ 35 0 1 rfl (d 5481 (by decide))
  have q36 : ∀ i j, σ' 36 i j = σ 36 i j := fun i j => hσ 36 i j rfl (d 36 (by decide))
  have e51_80 : V' 51 80 = V 51 80 := hV 51 80 rfl (d 7608 (by decide))
  have e114 : ∀ j, V' 114 j = V 114 j := fun j => hV 114 j rfl (d 114 (by decide))
  simp only [crc, nG, nH, nP, nC, nO, nR, q35_1, q36, e51_80, e114] at h ⊢
  exact h
theorem crc_k14 (hσ : Uc T σ σ') (hV : Uv T V V') (hd : djT T (cdep 14) = true) (h : crc σ V 14) : crc σ' V' 14 := by
  have d := djT_in hd
  have q49 : ∀ i j, σ' 49 i j = σ 49 i j := fun i j => hσ 49 i j rfl (d 49 (by decide))
  have q50 : ∀ i j, σ' 50 i j = σ 50 i j := fun i j => hσ 50 i j rfl (d 50 (by decide))
  have e115 : ∀ j, V' 115 j = V 115 j := fun j => hV 115 j rfl (d 115 (by decide))
  have e116 : ∀ j, V' 116 j = V 116 j := fun j => hV 116 j rfl (d 116 (by decide))
  have e117 : ∀ j, V' 117 j = V 117 j := fun j => hV 117 j rfl (d 117 (by decide))
  simp only [crc, nG, nH, nP, nC, nO, nR, q49, q50, e115, e116, e117] at h ⊢
  exact h
theorem crc_k15 (hσ : Uc T σ σ') (hV : Uv T V V') (hd : djT T (cdep 15) = true) (h : crc σ V 15) : crc σ' V' 15 := by
  have d := djT_in hd
  have q119 : ∀ i j, σ' 119 i j = σ 119 i j := fun i j => hσ 119 i j rfl (d 119 (by decide))
  have q120 : ∀ i j, σ' 120 i j = σ 120 i j := fun i j => hσ 120 i j rfl (d 120 (by decide))
  simp only [crc, nG, nH, nP, nC, nO, nR, q119, q120] at h ⊢
  exact h
theorem crc_k (hσ : Uc T σ σ') (hV : Uv T V V') : ∀ i, i < 16 → djT T (cdep i) = true → crc σ V i → crc σ' V' i
  | 0, _, d, h => crc_k0 hσ hV d h
  | 1, _, d, h => crc_k1 hσ hV d h
  | 2, _, d, h => crc_k2 hσ hV d h
  | 3, _, d, h => crc_k3 hσ hV d h
  | 4, _, d, h => crc_k4 hσ hV d h
  | 5, _, d, h => crc_k5 hσ hV d h
  | 6, _, d, h => crc_k6 hσ hV d h
  | 7, _, d, h => crc_k7 hσ hV d h
  | 8, _, d, h => crc_k8 hσ hV d h
  | 9, _, d, h => crc_k9 hσ hV d h
  | 10, _, d, h => crc_k10 hσ hV d h
  | 11, _, d, h => crc_k11 hσ hV d h
  | 12, _, d, h => crc_k12 hσ hV d h
  | 13, _, d, h => crc_k13 hσ hV d h
  | 14, _, d, h => crc_k14 hσ hV d h
  | 15, _, d, h => crc_k15 hσ hV d h
  | n + 16, h, _, _ => absurd h (by omega)
theorem inv_k0 (hV : Uv T V V') (hd : djT T (idep 0) = true) (h : invc V 0) : invc V' 0 := by
  have d := djT_in hd
  have e51_0 : V' 51 0 = V 51 0 := hV 51 0 rfl (d 7528 (by decide))
  have e51_8 : V' 51 8 = V 51 8 := hV 51 8 rfl (d 7536 (by decide))
  have e51_15 : V' 51 15 = V 51 15 := hV 51 15 rfl (d 7543 (by decide))
  have e51_23 : V' 51 23 = V 51 23 := hV 51 23 rfl (d 7551 (by decide))
  have e51_41 : V' 51 41 = V 51 41 := hV 51 41 rfl (d 7569 (by decide))
  have e51_49 : V' 51 49 = V 51 49 := hV 51 49 rfl (d 7577 (by decide))
  have e51_34 : V' 51 34 = V 51 34 := hV 51 34 rfl (d 7562 (by decide))
  have e51_28 : V' 51 28 = V 51 28 := hV 51 28 rfl (d 7556 (by decide))
  simp only [invc, nG, nH, nP, nC, nO, nR, e51_0, e51_8, e51_15, e51_23, e51_41, e51_49, e51_34, e51_28] at h ⊢
  exact h
theorem inv_k1 (hV : Uv T V V') (hd : djT T (idep 1) = true) (h : invc V 1) : invc V' 1 := by
  have d := djT_in hd
  have e54 : ∀ j, V' 54 j = V 54 j := fun j => hV 54 j rfl (d 54 (by decide))
  have e55 : ∀ j, V' 55 j = V 55 j := fun j => hV 55 j rfl (d 55 (by decide))
  have e53 : ∀ j, V' 53 j = V 53 j := fun j => hV 53 j rfl (d 53 (by decide))
  have e56 : ∀ j, V' 56 j = V 56 j := fun j => hV 56 j rfl (d 56 (by decide))
  have e51_8 : V' 51 8 = V 51 8 := hV 51 8 rfl (d 7536 (by decide))
  have e51_15 : V' 51 15 = V 51 15 := hV 51 15 rfl (d 7543 (by decide))
  simp only [invc, nG, nH, nP, nC, nO, nR, e54, e55, e53, e56, e51_8, e51_15] at h ⊢
  exact h
theorem inv_k2 (hV : Uv T V V') (hd : djT T (idep 2) = true) (h : invc V 2) : invc V' 2 := by
  have d := djT_in hd
  have e59 : ∀ j, V' 59 j = V 59 j := fun j => hV 59 j rfl (d 59 (by decide))
  have e62 : ∀ j, V' 62 j = V 62 j := fun j => hV 62 j rfl (d 62 (by decide))
  have e63 : ∀ j, V' 63 j = V 63 j := fun j => hV 63 j rfl (d 63 (by decide))
  have e51_15 : V' 51 15 = V 51 15 := hV 51 15 rfl (d 7543 (by decide))
  have e51_8 : V' 51 8 = V 51 8 := hV 51 8 rfl (d 7536 (by decide))
  simp only [invc, nG, nH, nP, nC, nO, nR, e59, e62, e63, e51_15, e51_8] at h ⊢
  exact h
theorem inv_k3 (hV : Uv T V V') (hd : djT T (idep 3) = true) (h : invc V 3) : invc V' 3 := by
  have d := djT_in hd
  have e65 : ∀ j, V' 65 j = V 65 j := fun j => hV 65 j rfl (d 65 (by decide))
  have e66 : ∀ j, V' 66 j = V 66 j := fun j => hV 66 j rfl (d 66 (by decide))
  have e67 : ∀ j, V' 67 j = V 67 j := fun j => hV 67 j rfl (d 67 (by decide))
  have e68 : ∀ j, V' 68 j = V 68 j := fun j => hV 68 j rfl (d 68 (by decide))
  have e69 : ∀ j, V' 69 j = V 69 j := fun j => hV 69 j rfl (d 69 (by decide))
  have e51_23 : V' 51 23 = V 51 23 := hV 51 23 rfl (d 7551 (by decide))
  have e51_15 : V' 51 15 = V 51 15 := hV 51 15 rfl (d 7543 (by decide))
  simp only [invc, nG, nH, nP, nC, nO, nR, e65, e66, e67, e68, e69, e51_23, e51_15] at h ⊢
  exact h
theorem inv_k8 (hV : Uv T V V') (hd : djT T (idep 8) = true) (h : invc V 8) : invc V' 8 := by
  have d := djT_in hd
  have e75 : ∀ j, V' 75 j = V 75 j := fun j => hV 75 j rfl (d 75 (by decide))
  have e51_28 : V' 51 28 = V 51 28 := hV 51 28 rfl (d 7556 (by decide))
  simp only [invc, nG, nH, nP, nC, nO, nR, e75, e51_28] at h ⊢
  exact h
theorem inv_k9 (hV : Uv T V V') (hd : djT T (idep 9) = true) (h : invc V 9) : invc V' 9 := by
  have d := djT_in hd
  have e76 : ∀ j, V' 76 j = V 76 j := fun j => hV 76 j rfl (d 76 (by decide))
  have e77 : ∀ j, V' 77 j = V 77 j := fun j => hV 77 j rfl (d 77 (by decide))
  have e78 : ∀ j, V' 78 j = V 78 j := fun j => hV 78 j rfl (d 78 (by decide))
  have e79 : ∀ j, V' 79 j = V 79 j := fun j => hV 79 j rfl (d 79 (by decide))
  have e80 : ∀ j, V' 80 j = V 80 j := fun j => hV 80 j rfl (d 80 (by decide))
  have e51_34 : V' 51 34 = V 51 34 := hV 51 34 rfl (d 7562 (by decide))
  have e51_8 : V' 51 8 = V 51 8 := hV 51 8 rfl (d 7536 (by decide))
  have e51_0 : V' 51 0 = V 51 0 := hV 51 0 rfl (d 7528 (by decide))
  have etx : ∀ r, ftx V' r = ftx V r := fun r => by unfold ftx; simp only [e76, e77]
  simp only [invc, nG, nH, nP, nC, nO, nR, e76, e77, e78, e79, e80, e51_34, e51_8, e51_0, etx] at h ⊢
  exact h
theorem inv_k10 (hV : Uv T V V') (hd : djT T (idep 10) = true) (h : invc V 10) : invc V' 10 := by
  have d := djT_in hd
  have e81 : ∀ j, V' 81 j = V 81 j := fun j => hV 81 j rfl (d 81 (by decide))
  have e82 : ∀ j, V' 82 j = V 82 j := fun j => hV 82 j rfl (d 82 (by decide))
  have e83 : ∀ j, V' 83 j = V 83 j := fun j => hV 83 j rfl (d 83 (by decide))
  have e84 : ∀ j, V' 84 j = V 84 j := fun j => hV 84 j rfl (d 84 (by decide))
  have e85 : ∀ j, V' 85 j = V 85 j := fun j => hV 85 j rfl (d 85 (by decide))
  have e86 : ∀ j, V' 86 j = V 86 j := fun j => hV 86 j rfl (d 86 (by decide))
  have e62 : ∀ j, V' 62 j = V 62 j := fun j => hV 62 j rfl (d 62 (by decide))
  have e63 : ∀ j, V' 63 j = V 63 j := fun j => hV 63 j rfl (d 63 (by decide))
  have e51_41 : V' 51 41 = V 51 41 := hV 51 41 rfl (d 7569 (by decide))
  have e51_15 : V' 51 15 = V 51 15 := hV 51 15 rfl (d 7543 (by decide))
  have e51_0 : V' 51 0 = V 51 0 := hV 51 0 rfl (d 7528 (by decide))
  simp only [invc, nG, nH, nP, nC, nO, nR, e81, e82, e83, e84, e85, e86, e62, e63, e51_41, e51_15, e51_0] at h ⊢
  exact h
theorem inv_k11 (hV : Uv T V V') (hd : djT T (idep 11) = true) (h : invc V 11) : invc V' 11 := by
  have d := djT_in hd
  have e87 : ∀ j, V' 87 j = V 87 j := fun j => hV 87 j rfl (d 87 (by decide))
  have e88 : ∀ j, V' 88 j = V 88 j := fun j => hV 88 j rfl (d 88 (by decide))
  have e89 : ∀ j, V' 89 j = V 89 j := fun j => hV 89 j rfl (d 89 (by decide))
  have e90 : ∀ j, V' 90 j = V 90 j := fun j => hV 90 j rfl (d 90 (by decide))
  have e91 : ∀ j, V' 91 j = V 91 j := fun j => hV 91 j rfl (d 91 (by decide))
  have e65 : ∀ j, V' 65 j = V 65 j := fun j => hV 65 j rfl (d 65 (by decide))
  have e82 : ∀ j, V' 82 j = V 82 j := fun j => hV 82 j rfl (d 82 (by decide))
  have e59 : ∀ j, V' 59 j = V 59 j := fun j => hV 59 j rfl (d 59 (by decide))
  have e51_49 : V' 51 49 = V 51 49 := hV 51 49 rfl (d 7577 (by decide))
  have e51_41 : V' 51 41 = V 51 41 := hV 51 41 rfl (d 7569 (by decide))
  have e51_23 : V' 51 23 = V 51 23 := hV 51 23 rfl (d 7551 (by decide))
  have egm : ∀ p, fgm V' p = fgm V p := fun p => by unfold fgm; rw [e59, e65]
  simp only [invc, nG, nH, nP, nC, nO, nR, e87, e88, e89, e90, e91, e65, e82, e59, e51_49, e51_41, e51_23, egm] at h ⊢
  exact h
theorem inv_k12 (hV : Uv T V V') (hd : djT T (idep 12) = true) (h : invc V 12) : invc V' 12 := by
  have d := djT_in hd
  have e87 : ∀ j, V' 87 j = V 87 j := fun j => hV 87 j rfl (d 87 (by decide))
  have e92 : ∀ j, V' 92 j = V 92 j := fun j => hV 92 j rfl (d 92 (by decide))
  have e93 : ∀ j, V' 93 j = V 93 j := fun j => hV 93 j rfl (d 93 (by decide))
  have e81 : ∀ j, V' 81 j = V 81 j := fun j => hV 81 j rfl (d 81 (by decide))
  have e82 : ∀ j, V' 82 j = V 82 j := fun j => hV 82 j rfl (d 82 (by decide))
  have e88 : ∀ j, V' 88 j = V 88 j := fun j => hV 88 j rfl (d 88 (by decide))
  have e51_49 : V' 51 49 = V 51 49 := hV 51 49 rfl (d 7577 (by decide))
  simp only [invc, nG, nH, nP, nC, nO, nR, e87, e92, e93, e81, e82, e88, e51_49] at h ⊢
  exact h
theorem inv_k13 (hV : Uv T V V') (hd : djT T (idep 13) = true) (h : invc V 13) : invc V' 13 := by
  have d := djT_in hd
  have e106 : ∀ j, V' 106 j = V 106 j := fun j => hV 106 j rfl (d 106 (by decide))
  have e107 : ∀ j, V' 107 j = V 107 j := fun j => hV 107 j rfl (d 107 (by decide))
  have e108 : ∀ j, V' 108 j = V 108 j := fun j => hV 108 j rfl (d 108 (by decide))
  have e109 : ∀ j, V' 109 j = V 109 j := fun j => hV 109 j rfl (d 109 (by decide))
  have e65 : ∀ j, V' 65 j = V 65 j := fun j => hV 65 j rfl (d 65 (by decide))
  have e59 : ∀ j, V' 59 j = V 59 j := fun j => hV 59 j rfl (d 59 (by decide))
  have e51_72 : V' 51 72 = V 51 72 := hV 51 72 rfl (d 7600 (by decide))
  have e51_74 : V' 51 74 = V 51 74 := hV 51 74 rfl (d 7602 (by decide))
  have e51_23 : V' 51 23 = V 51 23 := hV 51 23 rfl (d 7551 (by decide))
  have egm : ∀ p, fgm V' p = fgm V p := fun p => by unfold fgm; rw [e59, e65]
  simp only [invc, nG, nH, nP, nC, nO, nR, e106, e107, e108, e109, e65, e59, e51_72, e51_74, e51_23, egm] at h ⊢
  exact h
theorem inv_k14 (hV : Uv T V V') (hd : djT T (idep 14) = true) (h : invc V 14) : invc V' 14 := by
  have d := djT_in hd
  have e51_80 : V' 51 80 = V 51 80 := hV 51 80 rfl (d 7608 (by decide))
  simp only [invc, nG, nH, nP, nC, nO, nR, e51_80] at h ⊢
  exact h
theorem inv_k15 (hV : Uv T V V') (hd : djT T (idep 15) = true) (h : invc V 15) : invc V' 15 := by
  have d := djT_in hd
  have e115 : ∀ j, V' 115 j = V 115 j := fun j => hV 115 j rfl (d 115 (by decide))
  have e116 : ∀ j, V' 116 j = V 116 j := fun j => hV 116 j rfl (d 116 (by decide))
  have e51_49 : V' 51 49 = V 51 49 := hV 51 49 rfl (d 7577 (by decide))
  simp only [invc, nG, nH, nP, nC, nO, nR, e115, e116, e51_49] at h ⊢
  exact h
theorem inv_k4 (hV : Uv T V V') (hd : djT T (idep 4) = true) (h : invc V 4) : invc V' 4 := by
  have d := djT_in hd
  have e59 : ∀ j, V' 59 j = V 59 j := fun j => hV 59 j rfl (d 59 (by decide))
  have e62 : ∀ j, V' 62 j = V 62 j := fun j => hV 62 j rfl (d 62 (by decide))
  have e54 : ∀ j, V' 54 j = V 54 j := fun j => hV 54 j rfl (d 54 (by decide))
  have e74 : ∀ j, V' 74 j = V 74 j := fun j => hV 74 j rfl (d 74 (by decide))
  have e51_15 : V' 51 15 = V 51 15 := hV 51 15 rfl (d 7543 (by decide))
  simp only [invc, nG, nH, nP, nC, nO, nR, e59, e62, e54, e74, e51_15] at h ⊢
  exact h
theorem inv_k5 (hV : Uv T V V') (hd : djT T (idep 5) = true) (h : invc V 5) : invc V' 5 := by
  have d := djT_in hd
  have e58 : ∀ j, V' 58 j = V 58 j := fun j => hV 58 j rfl (d 58 (by decide))
  simp only [invc, nG, nH, nP, nC, nO, nR, e58] at h ⊢
  exact h
theorem inv_k6 (hV : Uv T V V') (hd : djT T (idep 6) = true) (h : invc V 6) : invc V' 6 := by
  have d := djT_in hd
  have e59 : ∀ j, V' 59 j = V 59 j := fun j => hV 59 j rfl (d 59 (by decide))
  have e60 : ∀ j, V' 60 j = V 60 j := fun j => hV 60 j rfl (d 60 (by decide))
  have e61 : ∀ j, V' 61 j = V 61 j := fun j => hV 61 j rfl (d 61 (by decide))
  have e54 : ∀ j, V' 54 j = V 54 j := fun j => hV 54 j rfl (d 54 (by decide))
  have e73 : ∀ j, V' 73 j = V 73 j := fun j => hV 73 j rfl (d 73 (by decide))
  have e51_15 : V' 51 15 = V 51 15 := hV 51 15 rfl (d 7543 (by decide))
  simp only [invc, nG, nH, nP, nC, nO, nR, e59, e60, e61, e54, e73, e51_15] at h ⊢
  exact h
theorem inv_k (hV : Uv T V V') : ∀ i, i < 16 → djT T (idep i) = true → invc V i → invc V' i
  | 0, _, d, h => inv_k0 hV d h
  | 1, _, d, h => inv_k1 hV d h
  | 2, _, d, h => inv_k2 hV d h
  | 3, _, d, h => inv_k3 hV d h
  | 4, _, d, h => inv_k4 hV d h
  | 5, _, d, h => inv_k5 hV d h
  | 6, _, d, h => inv_k6 hV d h
  | 7, _, _, _ => trivial
  | 8, _, d, h => inv_k8 hV d h
  | 9, _, d, h => inv_k9 hV d h
  | 10, _, d, h => inv_k10 hV d h
  | 11, _, d, h => inv_k11 hV d h
  | 12, _, d, h => inv_k12 hV d h
  | 13, _, d, h => inv_k13 hV d h
  | 14, _, d, h => inv_k14 hV d h
  | 15, _, d, h => inv_k15 hV d h
  | n + 16, h, _, _ => absurd h (by omega)
theorem Inv.k (hV : Uv T V V') (h : Inv V) (ha : ∀ i, i < 16 → djT T (idep i) = false → invc V' i) : Inv V' := fun i => by
  by_cases hi : i < 16
  · cases e : djT T (idep i) with
    | true => exact inv_k hV i hi e (h i)
    | false => exact ha i hi e
  · obtain ⟨n, rfl⟩ : ∃ n, i = n + 16 := ⟨i - 16, by omega⟩
    trivial
theorem CR.k (hσ : Uc T σ σ') (hV : Uv T V V') (h : CR σ V) (hI : Inv V') (ha : ∀ i, i < 16 → djT T (cdep i) = false → crc σ' V' i) : CR σ' V' := fun i => by
  by_cases hi : i < 16
  · cases e : djT T (cdep i) with
    | true => exact crc_k hσ hV i hi e (h i)
    | false => exact ha i hi e
  · obtain ⟨n, rfl⟩ : ∃ n, i = n + 16 := ⟨i - 16, by omega⟩
    exact hI
theorem KW.k (hσ : Uc T σ σ') (hV : Uv T V V') (h : KW σ V) (hd : djT T [66, 67, 69, 72, 59, 65, 54, 18, 7551, 7536] = true) : KW σ' V' := by
  have d := djT_in hd
  have e66 : ∀ j, V' 66 j = V 66 j := fun j => hV 66 j rfl (d 66 (by decide))
  have e67 : ∀ j, V' 67 j = V 67 j := fun j => hV 67 j rfl (d 67 (by decide))
  have e69 : ∀ j, V' 69 j = V 69 j := fun j => hV 69 j rfl (d 69 (by decide))
  have e72 : ∀ j, V' 72 j = V 72 j := fun j => hV 72 j rfl (d 72 (by decide))
  have e59 : ∀ j, V' 59 j = V 59 j := fun j => hV 59 j rfl (d 59 (by decide))
  have e65 : ∀ j, V' 65 j = V 65 j := fun j => hV 65 j rfl (d 65 (by decide))
  have e54 : ∀ j, V' 54 j = V 54 j := fun j => hV 54 j rfl (d 54 (by decide))
  have e18 : ∀ i j, σ' 18 i j = σ 18 i j := fun i j => hσ 18 i j rfl (d 18 (by decide))
  have e51_23 : V' 51 23 = V 51 23 := hV 51 23 rfl (d 7551 (by decide))
  have e51_8 : V' 51 8 = V 51 8 := hV 51 8 rfl (d 7536 (by decide))
  have egm : ∀ p, fgm V' p = fgm V p := fun p => by unfold fgm; rw [e59, e65]
  intro g g0 g1
  rw [e51_8] at g1
  rw [e54]
  obtain ⟨k1, k2⟩ := h g g0 g1
  exact ⟨k1.cong e51_23 (fun p _ => egm p) (fun p _ _ => ⟨e66 p, e67 p, e69 p, fun u _ => e72 _⟩), k2.cong e51_23 (fun p _ => egm p) (fun p _ _ => ⟨e66 p, fun u _ => e72 _⟩) (fun p _ _ j _ => e18 p j)⟩
end
/-- what the class's and the reference's runs leave alone -/
def FC (σ σ' : TM) : Prop := ∀ k i j, 51 ≤ k → σ' k i j = σ k i j
def FR (σ σ' : TM) : Prop := ∀ k i j, k < 51 ∨ 119 ≤ k → σ' k i j = σ k i j
/-- what stands between two calls -/
def WW (σ : TM) (V : TVw) : Prop := CR σ V ∧ RV σ V ∧ KW σ V
/-- the rows with one place changed -/
def vu (V : TVw) (k j : Nat) (v : Int) : TVw := fun x y => if x = k ∧ y = j then v else V x y
section
variable {σ σ1 σ2 σ' : TM} {V V' : TVw} {T : List Nat} {k i j : Nat} {v : Int}
theorem FC.rf : FC σ σ := fun _ _ _ _ => rfl
theorem FC.tr (h : FC σ σ1) (h2 : FC σ1 σ2) : FC σ σ2 := fun k i j q => (h2 k i j q).trans (h k i j q)
theorem FC.up (h : FC σ σ1) (q : Nat.blt k 51 = true) : FC σ (t_upd σ1 k i j v) := fun a b c r => by
  have q : k + 1 ≤ 51 := Nat.le_of_ble_eq_true q
  rw [up_k (by omega)]
  exact h a b c r
theorem FC.of {S : Nat → Nat → Bool} (h : Sc S σ σ1) (q : ∀ k j, S k j = true → k < 51) : FC σ σ1 := fun k i j r => h k i j (by
  cases e : S k j with
  | false => rfl
  | true =>
    have := q k j e
    omega)
theorem FR.rf : FR σ σ := fun _ _ _ _ => rfl
theorem FR.tr (h : FR σ σ1) (h2 : FR σ1 σ2) : FR σ σ2 := fun k i j q => (h2 k i j q).trans (h k i j q)
theorem FR.up (h : FR σ σ1) (q : (Nat.ble 51 k && Nat.blt k 119) = true) : FR σ (t_upd σ1 k i j v) := fun a b c r => by
  rw [Bool.and_eq_true] at q
  have q1 : 51 ≤ k := Nat.le_of_ble_eq_true q.1
  have q2 : k + 1 ≤ 119 := Nat.le_of_ble_eq_true q.2
  rw [up_k (by omega)]
  exact h a b c r
theorem FR.of {S : Nat → Nat → Bool} (h : Sc S σ σ1) (q : ∀ k j, S k j = true → 51 ≤ k ∧ k < 119) : FR σ σ1 := fun k i j r => h k i j (by
  cases e : S k j with
  | false => rfl
  | true =>
    have := q k j e
    omega)
theorem s1_C (k j : Nat) (h : s1 k j = true) : k < 51 := by
  simp only [s1, Bool.or_eq_true, Nat.beq_eq] at h
  omega
theorem s2_R (k j : Nat) (h : s2 k j = true) : 51 ≤ k ∧ k < 119 := by
  simp only [s2, Bool.or_eq_true, Bool.and_eq_true, Nat.beq_eq, Nat.ble_eq] at h
  omega
theorem sct_C (k j : Nat) (h : sct k j = true) : k < 51 := by
  simp only [sct, sgo, sb, s1, sst, Bool.or_eq_true, Bool.and_eq_true, Nat.beq_eq, Nat.ble_eq] at h
  omega
theorem srd_R (k j : Nat) (h : srd k j = true) : 51 ≤ k ∧ k < 119 := by
  simp only [srd, srg, srm, s2, dkk, Bool.or_eq_true, Bool.and_eq_true, Nat.beq_eq, Nat.ble_eq] at h
  omega
theorem RV.fc (h : RV σ V) (q : FC σ σ1) : RV σ1 V := fun k j a b c => (q k 0 j (Nat.le_of_ble_eq_true a)).trans (h k j a b c)
theorem FR.uc (q : FR σ σ1) : Uc [] σ σ1 := fun k i j a _ => q k i j (by
  rw [Bool.or_eq_true] at a
  rcases a with a | a
  · exact .inl (Nat.le_of_ble_eq_true a)
  · exact .inr (Nat.le_of_ble_eq_true a))
theorem Uv.rf : Uv T V V := fun _ _ _ _ => rfl
theorem CR.fr (h : CR σ V) (q : FR σ σ1) : CR σ1 V := h.k (T := []) q.uc Uv.rf h.inv (fun i hi hd => by
  exfalso
  have : ∀ i, i < 16 → djT [] (cdep i) = true := by decide
  rw [this i hi] at hd
  cases hd)
theorem KW.fr (h : KW σ V) (q : FR σ σ1) : KW σ1 V := KW.k (T := []) q.uc Uv.rf h rfl
theorem KW.sc {S : Nat → Nat → Bool} (h : KW σ V) (q : Sc S σ σ1) (hS : ∀ j, S 18 j = false) : KW σ1 V := fun g g0 g1 => by
  obtain ⟨k1, k2⟩ := h g g0 g1
  exact ⟨k1, k2.cong rfl (fun p _ => rfl) (fun p _ _ => ⟨rfl, fun u _ => rfl⟩) (fun p _ _ j _ => q 18 p j (hS j))⟩
theorem RV.up (h : RV σ V) : RV (t_upd σ k 0 j v) (vu V k j v) := fun x y a b c => by
  rw [t_upd_eq]
  unfold vu
  by_cases e : x = k ∧ y = j
  · rw [if_pos ⟨e.1, rfl, e.2⟩, if_pos e]
  · rw [if_neg (fun q => e ⟨q.1, q.2.2⟩), if_neg e]
    exact h x y a b c
theorem vu_same : vu V k j v k j = v := if_pos ⟨rfl, rfl⟩
theorem vu_k {a b : Nat} (h : a ≠ k) : vu V k j v a b = V a b := if_neg (fun q => h q.1)
theorem vu_j {a b : Nat} (h : b ≠ j) : vu V k j v a b = V a b := if_neg (fun q => h q.2)
theorem vu_r {a b : Nat} : vu V k j v a b = if a = k ∧ b = j then v else V a b := rfl
theorem Uv.up (h : Uv T V V') (q : tn_in T (cod k j) = true) : Uv T V (vu V' k j v) := fun a b c d => by
  rw [vu_r, if_neg]
  · exact h a b c d
  · rintro ⟨rfl, rfl⟩
    rw [q] at d
    cases d
theorem Uc.rf : Uc T σ σ := fun _ _ _ _ _ => rfl
theorem Uc.up (h : Uc T σ σ1) (q : tn_in T (cod k j) = true) : Uc T σ (t_upd σ1 k i j v) := fun a b c d e => by
  rw [t_upd_eq, if_neg]
  · exact h a b c d e
  · rintro ⟨rfl, -, rfl⟩
    rw [q] at e
    cases e
end
/-- a call of both sides, from a world to a world -/
def Two (d kc kr : Nat) (as : List TV) (σ : TM) : Prop := ∃ r σ1 σ2 V2, t_run tbl mtb d kc (vh 0 0 :: as) σ = some (some r, σ1) ∧ t_run tbl mtb d kr (vh 51 0 :: as) σ1 = some (some r, σ2) ∧ WW σ2 V2
theorem two_of {d kc kr : Nat} {as : List TV} {σ : TM} {V V' : TVw} {r : TV} (hW : WW σ V) (hc : ∃ s, FC σ s ∧ CR s V' ∧ KW s V' ∧ t_run tbl mtb d kc (vh 0 0 :: as) σ = some (some r, s)) (hr : ∀ s, RV s V → ∃ s2, FR s s2 ∧ RV s2 V' ∧ t_run tbl mtb d kr (vh 51 0 :: as) s = some (some r, s2)) : Two d kc kr as σ := by
  obtain ⟨s, a1, a2, a3, a4⟩ := hc
  obtain ⟨s2, b1, b2, b3⟩ := hr s (hW.2.1.fc a1)
  exact ⟨r, s, s2, V', a4, b3, a2.fr b1, b2, a3.fr b1⟩
/-- a question asked of both sides, which both answer by a pure answer -/
theorem two_ask {d kc kr : Nat} {as : List TV} {σ : TM} {V : TVw} {r : TV} (hW : WW σ V) (hc : ∃ s, Sc s1 σ s ∧ t_run tbl mtb d kc (vh 0 0 :: as) σ = some (some r, s)) (hr : ∀ s, RV s V → ∃ s', Sc s2 s s' ∧ t_run tbl mtb d kr (vh 51 0 :: as) s = some (some r, s')) : Two d kc kr as σ := by
  obtain ⟨s, a1, a2⟩ := hc
  refine two_of (V' := V) hW ⟨s, FC.of a1 s1_C, hW.1.sc (a1.mono s1_scr), hW.2.2.sc a1 (fun j => rfl), a2⟩ (fun s' hs => ?_)
  obtain ⟨s2', b1, b2⟩ := hr s' hs
  exact ⟨s2', FR.of b1 s2_R, hs.sc (b1.mono s2_scr), b2⟩
