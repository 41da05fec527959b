-- the class's picture of V, the reference's picture of V, what holds of V
def scr (k j : Nat) : Bool := cond (Nat.blt k 51)
  (Nat.beq k 25 || (Nat.beq k 48 || ((Nat.ble 5 k && Nat.ble k 16) || (Nat.beq k 3 || ((Nat.beq k 17 && Nat.ble 9 j) || ((Nat.beq k 23 && Nat.beq j 2) || ((Nat.ble 31 k && Nat.ble k 33) || (Nat.beq k 35 && Nat.ble 2 j))))))))
  ((Nat.ble 94 k && Nat.ble k 105) || ((Nat.ble 111 k && Nat.ble k 113) || (Nat.beq k 118 || (Nat.beq k 51 && ((Nat.ble 50 j && Nat.ble j 54) || (Nat.beq j 64 || (Nat.beq j 78 || Nat.beq j 81)))))))
def s1 (k _ : Nat) : Bool := Nat.beq k 25 || Nat.beq k 48
def s2 (k j : Nat) : Bool := Nat.beq k 94 || (Nat.beq k 51 && (Nat.ble 50 j && Nat.ble j 54))
theorem s1_scr (k j : Nat) (h : scr k j = false) : s1 k j = false := by
  unfold s1
  cases a : Nat.beq k 25 with
  | true => rw [Nat.eq_of_beq_eq_true a] at h; cases h
  | false => cases b : Nat.beq k 48 with
    | true => rw [Nat.eq_of_beq_eq_true b] at h; cases h
    | false => rfl
theorem s2_scr (k j : Nat) (h : scr k j = false) : s2 k j = false := by
  unfold s2
  cases a : Nat.beq k 94 with
  | true => rw [Nat.eq_of_beq_eq_true a] at h; cases h
  | false => cases b : Nat.beq k 51 with
    | true =>
      rw [Nat.eq_of_beq_eq_true b] at h
      have h : ((Nat.ble 50 j && Nat.ble j 54) || (Nat.beq j 64 || (Nat.beq j 78 || Nat.beq j 81))) = false := h
      rw [Bool.or_eq_false_iff] at h
      simp [h.1]
    | false => rfl
def RV (σ : TM) (V : TVw) : Prop := ∀ k j, Nat.blt 50 k = true → Nat.blt k 119 = true → scr k j = false → σ k 0 j = V k j
theorem RV.sc {σ σ' : TM} {V : TVw} (h : RV σ V) (q : Sc scr σ σ') : RV σ' V := fun k j a b c => (q k 0 j c).trans (h k j a b c)
def rgI (v : Int) : Prop := -2147483648 ≤ v ∧ v ≤ 2147483647
def invc (V : TVw) (i : Nat) : Prop := match i with
  | 0 => 0 ≤ V 51 0 ∧ V 51 0 ≤ 999 ∧ 0 ≤ V 51 8 ∧ V 51 8 ≤ 3 ∧ 0 ≤ V 51 15 ∧ V 51 15 ≤ 12 ∧ 0 ≤ V 51 23 ∧ V 51 23 ≤ 40 ∧ 0 ≤ V 51 41 ∧ V 51 41 ≤ 150 ∧ 0 ≤ V 51 49 ∧ V 51 49 ≤ 300 ∧ 0 ≤ V 51 34 ∧ V 51 34 ≤ 20 ∧ 0 ≤ V 51 28 ∧ V 51 28 ≤ 160
  | 1 => ∀ g, g < 3 → 0 ≤ V 54 g ∧ V 54 g ≤ 30 ∧ (nG V ≤ g → V 54 g = 0 ∧ V 55 g = 0) ∧ (g < nG V → 0 ≤ V 53 g ∧ V 53 g ≤ 999 ∧ -1 ≤ V 56 g ∧ V 56 g < V 51 15)
  | 2 => ∀ h, h < nH V → 0 ≤ V 59 h ∧ V 59 h < V 51 8 ∧ -1 ≤ V 62 h ∧ V 62 h ≤ 30 ∧ (V 63 h = -1 ∨ 0 ≤ V 63 h ∧ V 63 h < V 51 15 ∧ V 59 (V 63 h).toNat = V 59 h)
  | 3 => ∀ p, p < nP V → 0 ≤ V 65 p ∧ V 65 p < V 51 15 ∧ 0 ≤ V 66 p ∧ V 66 p < 48 ∧ 0 ≤ V 67 p ∧ V 67 p < 48 ∧ (V 69 p = 0 ∨ V 69 p = 1) ∧ 1 ≤ V 68 p ∧ V 68 p ≤ 9
  | 4 => ∀ x, x < nH V → ∀ u : Nat, (u : Int) < V 54 (V 59 x).toNat → 0 ≤ V 62 x → V 62 x ≤ u → V 74 (12 * u + x) = 0
  | 5 => ∀ j, j < 144 → V 58 j = 0 ∨ V 58 j = 1
  | 6 => ∀ x, x < nH V → rgI (V 60 x) ∧ rgI (V 61 x) ∧ ∀ u : Nat, (u : Int) < V 54 (V 59 x).toNat → rgI (V 73 (12 * u + x))
  | 8 => ∀ i, i < (V 51 28).toNat → 0 ≤ V 75 i ∧ V 75 i ≤ 255
  | 9 => ∀ r, r < nR V → 0 ≤ V 78 r ∧ V 78 r / 10 < V 51 8 ∧ V 78 r % 10 < 5 ∧ 0 ≤ V 79 r ∧ V 79 r ≤ V 51 0 ∧ 0 ≤ V 80 r ∧ V 80 r < 30 ∧ 0 ≤ V 77 r ∧ V 77 r ≤ 160 ∧ (∀ i, i < (V 77 r).toNat → 0 ≤ V 76 (160 * r + i) ∧ V 76 (160 * r + i) ≤ 255) ∧ ∃ c v, ftx V r = .inr (c, v)
  | 10 => ∀ c, c < nC V → 0 ≤ V 81 c ∧ V 81 c < V 51 15 ∧ 0 ≤ V 82 c ∧ V 82 c < V 51 15 ∧ 0 ≤ V 83 c ∧ V 83 c ≤ V 51 0 ∧ V 83 c ≤ V 84 c ∧ V 84 c ≤ V 83 c + 9 ∧ -1 ≤ V 85 c ∧ V 85 c < 30 ∧ 0 ≤ V 86 c ∧ V 86 c ≤ 30 ∧ (V 81 c ≠ V 82 c → 0 ≤ V 62 (V 82 c).toNat ∧ V 63 (V 82 c).toNat = V 81 c)
  | 11 => ∀ o, o < nO V → 0 ≤ V 88 o ∧ V 88 o < V 51 41 ∧ 1 ≤ V 87 o ∧ V 87 o ≤ 6 ∧ (V 87 o = 6 → V 89 o = -1) ∧ (V 87 o ≠ 6 → 0 ≤ V 89 o ∧ V 89 o < V 51 23 ∧ V 65 (V 89 o).toNat = V 82 (V 88 o).toNat ∧ 0 ≤ V 90 o ∧ V 90 o ≤ 2 ∧ (V 90 o = 1 → 0 ≤ V 91 o ∧ V 91 o < 48) ∧ (V 90 o = 2 → 0 ≤ V 91 o ∧ V 91 o < V 51 23 ∧ V 91 o ≠ V 89 o ∧ fgm V (V 91 o).toNat = fgm V (V 89 o).toNat))
  | 12 => ∀ o, o < nO V → (V 87 o = 2 → 0 ≤ V 92 o ∧ V 92 o < 48 ∧ (V 93 o = 0 ∨ V 93 o = 1)) ∧ (V 87 o = 3 ∨ V 87 o = 5 → 0 ≤ V 92 o ∧ V 92 o < 30) ∧ (V 87 o = 4 → 0 ≤ V 92 o ∧ V 92 o < 300) ∧ (V 87 o = 3 → V 81 (V 88 o).toNat = V 82 (V 88 o).toNat) ∧ (V 87 o = 5 → V 81 (V 88 o).toNat ≠ V 82 (V 88 o).toNat)
  | 13 => 0 ≤ V 51 72 ∧ V 51 72 ≤ 3 ∧ 0 ≤ V 51 74 ∧ V 51 74 ≤ 3 ∧ ∀ s : Nat, (s : Int) < V 51 72 → 0 ≤ V 106 s ∧ V 106 s < V 51 23 ∧ V 65 (V 106 s).toNat = V 65 (V 106 0).toNat ∧ 1 ≤ V 109 s ∧ V 109 s ≤ 4 ∧ (∀ z : Nat, (z : Int) < V 51 72 → z ≠ s → V 106 z ≠ V 106 s) ∧ ∀ w : Nat, (w : Int) < V 109 s → 0 ≤ V 107 (4 * s + w) ∧ V 107 (4 * s + w) ≤ 2 ∧ (V 107 (4 * s + w) = 1 → 0 ≤ V 108 (4 * s + w) ∧ V 108 (4 * s + w) < 48) ∧ (V 107 (4 * s + w) = 2 → 0 ≤ V 108 (4 * s + w) ∧ V 108 (4 * s + w) < V 51 23 ∧ V 108 (4 * s + w) ≠ V 106 s ∧ fgm V (V 108 (4 * s + w)).toNat = fgm V (V 106 s).toNat)
  | 14 => 0 ≤ V 51 80 ∧ V 51 80 ≤ 1000
  | 15 => ∀ x, x < 6 → -1 ≤ V 115 x ∧ V 115 x ≤ 304 ∧ (V 115 x < 300 → V 115 x < V 51 49) ∧ 0 ≤ V 116 x ∧ V 116 x ≤ 60
  | _ => True
def Inv (V : TVw) : Prop := ∀ i, invc V i
def invk (V : TVw) (i : Nat) : Prop := match i with
  | 0 => ∀ p, p < nP V → ∀ t : Nat, (t : Int) < V 54 (fgm V p).toNat → -1 ≤ V 72 (40 * t + p) ∧ V 72 (40 * t + p) < 48
  | 1 => ∀ p, p < nP V → (V 54 (fgm V p).toNat = 0 → V 66 p = V 67 p ∧ V 69 p = 0) ∧ (∀ t : Nat, V 54 (fgm V p).toNat = (t : Int) + 1 → (V 69 p = 0 → V 72 (40 * t + p) = V 66 p) ∧ (V 69 p ≠ 0 → V 72 (40 * t + p) = -1))
  | 2 => ∀ p q, p < nP V → q < nP V → p ≠ q → fgm V p = fgm V q → V 67 p ≠ V 67 q
  | 3 => ∀ p q, p < nP V → q < nP V → p ≠ q → fgm V p = fgm V q → ∀ t : Nat, (t : Int) < V 54 (fgm V p).toNat → V 72 (40 * t + p) = V 72 (40 * t + q) → V 72 (40 * t + p) = -1
  | _ => True
/-- what holds of the turns that are kept -/
def InvK (V : TVw) : Prop := ∀ i, invk V i
def crc (σ : TM) (V : TVw) (i : Nat) : Prop := match i with
  | 0 => σ 0 0 0 = V 51 0 ∧ σ 0 0 2 = V 51 8 ∧ σ 0 0 4 = V 51 15 ∧ σ 0 0 7 = V 51 23 ∧ σ 0 0 9 = V 51 41 ∧ σ 0 0 11 = V 51 49 ∧ σ 0 0 13 = V 51 34 ∧ σ 23 0 0 = V 51 28
  | 1 => ∀ g, g < 3 → σ 38 g 2 = V 54 g ∧ σ 38 g 4 = V 55 g ∧ (g < nG V → σ 38 g 0 = V 52 g ∧ σ 38 g 1 = V 53 g ∧ σ 38 g 3 = V 56 g) ∧ (nG V ≤ g → σ 38 g 3 = -1)
  | 2 => ∀ g c, g < 3 → c < 48 → σ 39 g c = V 57 (48 * g + c) ∧ σ 40 g c = V 58 (48 * g + c)
  | 3 => ∀ h, h < 12 → σ 41 h 4 = V 64 h ∧ (h < nH V → σ 41 h 0 = V 59 h ∧ σ 41 h 1 = V 60 h ∧ σ 41 h 2 = V 62 h ∧ σ 41 h 3 = V 63 h) ∧ (nH V ≤ h → σ 41 h 2 = -1 ∧ σ 41 h 3 = -1)
  | 4 => ∀ h, h < nH V → σ 42 h 0 = V 61 h ∧ ∀ t : Nat, (t : Int) < V 54 (V 59 h).toNat → σ 42 h (t + 1) = V 73 (12 * t + h) ∧ σ 43 h t = V 74 (12 * t + h)
  | 5 => ∀ p, p < nP V → σ 17 p 0 = fgm V p ∧ σ 17 p 1 = V 65 p ∧ σ 17 p 2 = V 68 p ∧ σ 17 p 3 = V 66 p ∧ σ 17 p 4 = V 70 p ∧ σ 17 p 5 = V 71 p ∧ σ 17 p 6 = V 69 p
  | 6 => ∀ p, p < 40 → nP V ≤ p → σ 17 p 4 = -1 ∧ σ 17 p 5 = 0 ∧ σ 17 p 6 = 0 ∧ V 69 p = 0 ∧ V 71 p = 0
  | 7 => ∀ p, p < 40 → σ 19 p 0 = 0 ∧ (p < nP V → σ 18 p 0 = V 67 p ∧ ∀ t : Nat, (t : Int) < V 54 (fgm V p).toNat → (0 ≤ V 72 (40 * t + p) → σ 19 p (t + 1) = 0 ∧ σ 18 p (t + 1) = V 72 (40 * t + p)) ∧ (V 72 (40 * t + p) < 0 → σ 19 p (t + 1) = 1))
  | 8 => ∀ i, i < (V 51 28).toNat → σ 24 0 i = V 75 i
  | 9 => ∀ r, r < nR V → 0 ≤ σ 46 r 0 ∧ σ 46 r 0 < 3 ∧ 0 ≤ σ 46 r 1 ∧ σ 46 r 1 < 5 ∧ 10 * σ 46 r 0 + σ 46 r 1 = V 78 r ∧ σ 46 r 2 = V 79 r ∧ σ 46 r 3 = V 80 r ∧ ∀ c v, ftx V r = .inr (c, v) → σ 46 r 4 = c.length ∧ ∀ i x, t_nth c i = some x → σ 47 r i = x
  | 10 => ∀ c, c < nC V → σ 44 c 0 = V 81 c ∧ σ 44 c 1 = V 82 c ∧ σ 44 c 2 = V 83 c ∧ σ 44 c 3 = V 84 c ∧ σ 44 c 4 = V 86 c ∧ σ 44 c 5 = V 85 c
  | 11 => ∀ o, o < 300 → (o < nO V → σ 45 o 0 = V 88 o ∧ σ 45 o 1 = V 87 o ∧ σ 45 o 2 = V 89 o ∧ σ 45 o 3 = V 90 o ∧ σ 45 o 4 = V 91 o ∧ σ 45 o 5 = V 92 o ∧ σ 45 o 6 = V 93 o) ∧ (nO V ≤ o → σ 45 o 5 = -1 ∧ σ 45 o 6 = -1)
  | 12 => σ 26 0 0 = V 51 72 ∧ σ 26 0 1 = V 51 74 ∧ (∀ s : Nat, (s : Int) < V 51 72 → σ 27 0 s = V 106 s ∧ σ 28 0 s = V 109 s ∧ ∀ w : Nat, (w : Int) < V 109 s → σ 29 0 (4 * s + w) = V 107 (4 * s + w) ∧ σ 30 0 (4 * s + w) = V 108 (4 * s + w)) ∧ ∀ s : Nat, (s : Int) < V 51 74 → σ 34 0 s = V 110 s
  | 13 => σ 35 0 1 = V 51 80 ∧ ∀ i : Nat, i < 24 → (i : Int) < V 51 80 → σ 36 0 i = V 114 i
  | 14 => ∀ x, x < 6 → (V 115 x = -1 → σ 49 x 0 = -2) ∧ (0 ≤ V 115 x → V 115 x < 300 → σ 49 x 0 = -1 ∧ σ 49 x 1 = V 115 x) ∧ (300 ≤ V 115 x → σ 49 x 0 = V 115 x - 300 ∧ σ 49 x 2 = V 116 x) ∧ ∀ i, i < 60 → σ 50 x i = V 117 (60 * x + i)
  | 15 => σ 119 0 1 = 0 ∧ ∀ j, j < 11 → σ 120 0 j = strB j
  | _ => Inv V
def CR (σ : TM) (V : TVw) : Prop := ∀ i, crc σ V i
/-- where a gone piece's kept cells stand in the class's rows -/
def CRK (σ : TM) (V : TVw) : Prop := ∀ p, p < nP V → ∀ t : Nat, (t : Int) < V 54 (fgm V p).toNat → V 72 (40 * t + p) < 0 → σ 18 p (t + 1) = σ 18 p t
theorem CRK.sc {σ σ' : TM} {V : TVw} (h : CRK σ V) (q : Sc scr σ σ') : CRK σ' V := fun p hp t ht hv => by
  rw [q 18 p (t + 1) rfl, q 18 p t rfl]
  exact h p hp t ht hv
theorem CR.inv {σ : TM} {V : TVw} (h : CR σ V) : Inv V := h 16
theorem crc_sc {σ σ' : TM} {V : TVw} (q : Sc scr σ σ') (i : Nat) (h : crc σ V i) : crc σ' V i := by
  have q0 : ∀ i j, σ' 0 i j = σ 0 i j := fun i j => q 0 i j rfl
  have q18 : ∀ i j, σ' 18 i j = σ 18 i j := fun i j => q 18 i j rfl
  have q19 : ∀ i j, σ' 19 i j = σ 19 i j := fun i j => q 19 i j rfl
  have q24 : ∀ i j, σ' 24 i j = σ 24 i j := fun i j => q 24 i j rfl
  have q26 : ∀ i j, σ' 26 i j = σ 26 i j := fun i j => q 26 i j rfl
  have q27 : ∀ i j, σ' 27 i j = σ 27 i j := fun i j => q 27 i j rfl
  have q28 : ∀ i j, σ' 28 i j = σ 28 i j := fun i j => q 28 i j rfl
  have q29 : ∀ i j, σ' 29 i j = σ 29 i j := fun i j => q 29 i j rfl
  have q30 : ∀ i j, σ' 30 i j = σ 30 i j := fun i j => q 30 i j rfl
  have q34 : ∀ i j, σ' 34 i j = σ 34 i j := fun i j => q 34 i j rfl
  have q36 : ∀ i j, σ' 36 i j = σ 36 i j := fun i j => q 36 i j rfl
  have q38 : ∀ i j, σ' 38 i j = σ 38 i j := fun i j => q 38 i j rfl
  have q39 : ∀ i j, σ' 39 i j = σ 39 i j := fun i j => q 39 i j rfl
  have q40 : ∀ i j, σ' 40 i j = σ 40 i j := fun i j => q 40 i j rfl
  have q41 : ∀ i j, σ' 41 i j = σ 41 i j := fun i j => q 41 i j rfl
  have q42 : ∀ i j, σ' 42 i j = σ 42 i j := fun i j => q 42 i j rfl
  have q43 : ∀ i j, σ' 43 i j = σ 43 i j := fun i j => q 43 i j rfl
  have q44 : ∀ i j, σ' 44 i j = σ 44 i j := fun i j => q 44 i j rfl
  have q45 : ∀ i j, σ' 45 i j = σ 45 i j := fun i j => q 45 i j rfl
  have q46 : ∀ i j, σ' 46 i j = σ 46 i j := fun i j => q 46 i j rfl
  have q47 : ∀ i j, σ' 47 i j = σ 47 i j := fun i j => q 47 i j rfl
  have q49 : ∀ i j, σ' 49 i j = σ 49 i j := fun i j => q 49 i j rfl
  have q50 : ∀ i j, σ' 50 i j = σ 50 i j := fun i j => q 50 i j rfl
  have q119 : ∀ i j, σ' 119 i j = σ 119 i j := fun i j => q 119 i j rfl
  have q120 : ∀ i j, σ' 120 i j = σ 120 i j := fun i j => q 120 i j rfl
  match i, h with
  | 0, h => (simp only [crc, q0, q 23 0 0 rfl, q38, q39, q40, q41, q42, q43, q18, q19, q24, q26, q27, q28, q29, q30, q34, q36, q44, q45, q46, q47, q49, q50, q119, q120, q 35 0 1 rfl, q 17 _ 0 rfl, q 17 _ 1 rfl, q 17 _ 2 rfl, q 17 _ 3 rfl, q 17 _ 4 rfl, q 17 _ 5 rfl, q 17 _ 6 rfl] at h ⊢; exact h)
  | 1, h => (simp only [crc, q0, q 23 0 0 rfl, q38, q39, q40, q41, q42, q43, q18, q19, q24, q26, q27, q28, q29, q30, q34, q36, q44, q45, q46, q47, q49, q50, q119, q120, q 35 0 1 rfl, q 17 _ 0 rfl, q 17 _ 1 rfl, q 17 _ 2 rfl, q 17 _ 3 rfl, q 17 _ 4 rfl, q 17 _ 5 rfl, q 17 _ 6 rfl] at h ⊢; exact h)
  | 2, h => (simp only [crc, q0, q 23 0 0 rfl, q38, q39, q40, q41, q42, q43, q18, q19, q24, q26, q27, q28, q29, q30, q34, q36, q44, q45, q46, q47, q49, q50, q119, q120, q 35 0 1 rfl, q 17 _ 0 rfl, q 17 _ 1 rfl, q 17 _ 2 rfl, q 17 _ 3 rfl, q 17 _ 4 rfl, q 17 _ 5 rfl, q 17 _ 6 rfl] at h ⊢; exact h)
  | 3, h => (simp only [crc, q0, q 23 0 0 rfl, q38, q39, q40, q41, q42, q43, q18, q19, q24, q26, q27, q28, q29, q30, q34, q36, q44, q45, q46, q47, q49, q50, q119, q120, q 35 0 1 rfl, q 17 _ 0 rfl, q 17 _ 1 rfl, q 17 _ 2 rfl, q 17 _ 3 rfl, q 17 _ 4 rfl, q 17 _ 5 rfl, q 17 _ 6 rfl] at h ⊢; exact h)
  | 4, h => (simp only [crc, q0, q 23 0 0 rfl, q38, q39, q40, q41, q42, q43, q18, q19, q24, q26, q27, q28, q29, q30, q34, q36, q44, q45, q46, q47, q49, q50, q119, q120, q 35 0 1 rfl, q 17 _ 0 rfl, q 17 _ 1 rfl, q 17 _ 2 rfl, q 17 _ 3 rfl, q 17 _ 4 rfl, q 17 _ 5 rfl, q 17 _ 6 rfl] at h ⊢; exact h)
  | 5, h => (simp only [crc, q0, q 23 0 0 rfl, q38, q39, q40, q41, q42, q43, q18, q19, q24, q26, q27, q28, q29, q30, q34, q36, q44, q45, q46, q47, q49, q50, q119, q120, q 35 0 1 rfl, q 17 _ 0 rfl, q 17 _ 1 rfl, q 17 _ 2 rfl, q 17 _ 3 rfl, q 17 _ 4 rfl, q 17 _ 5 rfl, q 17 _ 6 rfl] at h ⊢; exact h)
  | 6, h => (simp only [crc, q0, q 23 0 0 rfl, q38, q39, q40, q41, q42, q43, q18, q19, q24, q26, q27, q28, q29, q30, q34, q36, q44, q45, q46, q47, q49, q50, q119, q120, q 35 0 1 rfl, q 17 _ 0 rfl, q 17 _ 1 rfl, q 17 _ 2 rfl, q 17 _ 3 rfl, q 17 _ 4 rfl, q 17 _ 5 rfl, q 17 _ 6 rfl] at h ⊢; exact h)
  | 7, h => (simp only [crc, q0, q 23 0 0 rfl, q38, q39, q40, q41, q42, q43, q18, q19, q24, q26, q27, q28, q29, q30, q34, q36, q44, q45, q46, q47, q49, q50, q119, q120, q 35 0 1 rfl, q 17 _ 0 rfl, q 17 _ 1 rfl, q 17 _ 2 rfl, q 17 _ 3 rfl, q 17 _ 4 rfl, q 17 _ 5 rfl, q 17 _ 6 rfl] at h ⊢; exact h)
  | 8, h => (simp only [crc, q0, q 23 0 0 rfl, q38, q39, q40, q41, q42, q43, q18, q19, q24, q26, q27, q28, q29, q30, q34, q36, q44, q45, q46, q47, q49, q50, q119, q120, q 35 0 1 rfl, q 17 _ 0 rfl, q 17 _ 1 rfl, q 17 _ 2 rfl, q 17 _ 3 rfl, q 17 _ 4 rfl, q 17 _ 5 rfl, q 17 _ 6 rfl] at h ⊢; exact h)
  | 9, h => (simp only [crc, q0, q 23 0 0 rfl, q38, q39, q40, q41, q42, q43, q18, q19, q24, q26, q27, q28, q29, q30, q34, q36, q44, q45, q46, q47, q49, q50, q119, q120, q 35 0 1 rfl, q 17 _ 0 rfl, q 17 _ 1 rfl, q 17 _ 2 rfl, q 17 _ 3 rfl, q 17 _ 4 rfl, q 17 _ 5 rfl, q 17 _ 6 rfl] at h ⊢; exact h)
  | 10, h => (simp only [crc, q0, q 23 0 0 rfl, q38, q39, q40, q41, q42, q43, q18, q19, q24, q26, q27, q28, q29, q30, q34, q36, q44, q45, q46, q47, q49, q50, q119, q120, q 35 0 1 rfl, q 17 _ 0 rfl, q 17 _ 1 rfl, q 17 _ 2 rfl, q 17 _ 3 rfl, q 17 _ 4 rfl, q 17 _ 5 rfl, q 17 _ 6 rfl] at h ⊢; exact h)
  | 11, h => (simp only [crc, q0, q 23 0 0 rfl, q38, q39, q40, q41, q42, q43, q18, q19, q24, q26, q27, q28, q29, q30, q34, q36, q44, q45, q46, q47, q49, q50, q119, q120, q 35 0 1 rfl, q 17 _ 0 rfl, q 17 _ 1 rfl, q 17 _ 2 rfl, q 17 _ 3 rfl, q 17 _ 4 rfl, q 17 _ 5 rfl, q 17 _ 6 rfl] at h ⊢; exact h)
  | 12, h => (simp only [crc, q0, q 23 0 0 rfl, q38, q39, q40, q41, q42, q43, q18, q19, q24, q26, q27, q28, q29, q30, q34, q36, q44, q45, q46, q47, q49, q50, q119, q120, q 35 0 1 rfl, q 17 _ 0 rfl, q 17 _ 1 rfl, q 17 _ 2 rfl, q 17 _ 3 rfl, q 17 _ 4 rfl, q 17 _ 5 rfl, q 17 _ 6 rfl] at h ⊢; exact h)
  | 13, h => (simp only [crc, q0, q 23 0 0 rfl, q38, q39, q40, q41, q42, q43, q18, q19, q24, q26, q27, q28, q29, q30, q34, q36, q44, q45, q46, q47, q49, q50, q119, q120, q 35 0 1 rfl, q 17 _ 0 rfl, q 17 _ 1 rfl, q 17 _ 2 rfl, q 17 _ 3 rfl, q 17 _ 4 rfl, q 17 _ 5 rfl, q 17 _ 6 rfl] at h ⊢; exact h)
  | 14, h => (simp only [crc, q0, q 23 0 0 rfl, q38, q39, q40, q41, q42, q43, q18, q19, q24, q26, q27, q28, q29, q30, q34, q36, q44, q45, q46, q47, q49, q50, q119, q120, q 35 0 1 rfl, q 17 _ 0 rfl, q 17 _ 1 rfl, q 17 _ 2 rfl, q 17 _ 3 rfl, q 17 _ 4 rfl, q 17 _ 5 rfl, q 17 _ 6 rfl] at h ⊢; exact h)
  | 15, h => (simp only [crc, q0, q 23 0 0 rfl, q38, q39, q40, q41, q42, q43, q18, q19, q24, q26, q27, q28, q29, q30, q34, q36, q44, q45, q46, q47, q49, q50, q119, q120, q 35 0 1 rfl, q 17 _ 0 rfl, q 17 _ 1 rfl, q 17 _ 2 rfl, q 17 _ 3 rfl, q 17 _ 4 rfl, q 17 _ 5 rfl, q 17 _ 6 rfl] at h ⊢; exact h)
  | n + 16, h => exact h
theorem CR.sc {σ σ' : TM} {V : TVw} (h : CR σ V) (q : Sc scr σ σ') : CR σ' V := fun i => crc_sc q i (h i)
-- what the pictures say, one by one
theorem CR.day {σ : TM} {V : TVw} (h : CR σ V) : σ 0 0 0 = V 51 0 := (h 0).1
theorem CR.ng {σ : TM} {V : TVw} (h : CR σ V) : σ 0 0 2 = V 51 8 := (h 0).2.1
theorem CR.nh {σ : TM} {V : TVw} (h : CR σ V) : σ 0 0 4 = V 51 15 := (h 0).2.2.1
theorem CR.np {σ : TM} {V : TVw} (h : CR σ V) : σ 0 0 7 = V 51 23 := (h 0).2.2.2.1
theorem CR.nc {σ : TM} {V : TVw} (h : CR σ V) : σ 0 0 9 = V 51 41 := (h 0).2.2.2.2.1
theorem CR.no {σ : TM} {V : TVw} (h : CR σ V) : σ 0 0 11 = V 51 49 := (h 0).2.2.2.2.2.1
theorem CR.nr {σ : TM} {V : TVw} (h : CR σ V) : σ 0 0 13 = V 51 34 := (h 0).2.2.2.2.2.2.1
theorem CR.tl {σ : TM} {V : TVw} (h : CR σ V) : σ 23 0 0 = V 51 28 := (h 0).2.2.2.2.2.2.2
theorem Inv.cnt {V : TVw} (h : Inv V) : 0 ≤ V 51 0 ∧ V 51 0 ≤ 999 ∧ 0 ≤ V 51 8 ∧ V 51 8 ≤ 3 ∧ 0 ≤ V 51 15 ∧ V 51 15 ≤ 12 ∧ 0 ≤ V 51 23 ∧ V 51 23 ≤ 40 ∧ 0 ≤ V 51 41 ∧ V 51 41 ≤ 150 ∧ 0 ≤ V 51 49 ∧ V 51 49 ≤ 300 ∧ 0 ≤ V 51 34 ∧ V 51 34 ≤ 20 ∧ 0 ≤ V 51 28 ∧ V 51 28 ≤ 160 ∧ (nG V : Int) = V 51 8 ∧ (nH V : Int) = V 51 15 ∧ (nP V : Int) = V 51 23 ∧ (nC V : Int) = V 51 41 ∧ (nO V : Int) = V 51 49 ∧ (nR V : Int) = V 51 34 := by
  obtain ⟨a1, a2, a3, a4, a5, a6, a7, a8, a9, a10, a11, a12, a13, a14, a15, a16⟩ := h 0
  refine ⟨a1, a2, a3, a4, a5, a6, a7, a8, a9, a10, a11, a12, a13, a14, a15, a16, ?_, ?_, ?_, ?_, ?_, ?_⟩ <;> exact Int.toNat_of_nonneg (by assumption)
theorem CR.cnt {σ : TM} {V : TVw} (h : CR σ V) : 0 ≤ V 51 0 ∧ V 51 0 ≤ 999 ∧ 0 ≤ V 51 8 ∧ V 51 8 ≤ 3 ∧ 0 ≤ V 51 15 ∧ V 51 15 ≤ 12 ∧ 0 ≤ V 51 23 ∧ V 51 23 ≤ 40 ∧ 0 ≤ V 51 41 ∧ V 51 41 ≤ 150 ∧ 0 ≤ V 51 49 ∧ V 51 49 ≤ 300 ∧ 0 ≤ V 51 34 ∧ V 51 34 ≤ 20 ∧ 0 ≤ V 51 28 ∧ V 51 28 ≤ 160 ∧ (nG V : Int) = V 51 8 ∧ (nH V : Int) = V 51 15 ∧ (nP V : Int) = V 51 23 ∧ (nC V : Int) = V 51 41 ∧ (nO V : Int) = V 51 49 ∧ (nR V : Int) = V 51 34 := h.inv.cnt
-- ends of runs
theorem leaf_b {O : TO} {k n : Nat} {σ : TM} {x : Int} {C : Prop} [Decidable C] (h : x = 1 ∧ C ∨ x = 0 ∧ ¬C) : t_out (t_nx O k n (some (.inr (some (vi x), σ)))) = some (some (vi (bi (decide C))), σ) := by
  rcases h with ⟨rfl, h⟩ | ⟨rfl, h⟩
  · rw [decide_eq_true h]; rfl
  · rw [decide_eq_false h]; rfl
theorem leaf_i {O : TO} {k n : Nat} {σ : TM} {x y : Int} (h : x = y) : t_out (t_nx O k n (some (.inr (some (vi x), σ)))) = some (some (vi y), σ) := by rw [h]; rfl
