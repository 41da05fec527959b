-- again(): the rows gone back
def lc (V : TVw) (p : Nat) : Nat → Int
  | 0 => V 67 p
  | u + 1 => if V 72 (40 * u + p) < 0 then lc V p u else V 72 (40 * u + p)
def gn (V : TVw) (p : Nat) : Nat → Int
  | 0 => 0
  | u + 1 => if V 72 (40 * u + p) < 0 then 1 else 0
def bk (V : TVw) (t h : Nat) : Int := if t = 0 then V 61 h else V 73 (12 * (t - 1) + h)
/-- the pieces before kp and the holders before kh gone back to turn t -/
def aBk (V : TVw) (g : Int) (t kp kh : Nat) : TVw := fun x j =>
  if x = 66 then (if j < kp ∧ fgm V j = g then lc V j t else V 66 j)
  else if x = 69 then (if j < kp ∧ fgm V j = g then gn V j t else V 69 j)
  else if x = 60 then (if j < kh ∧ V 59 j = g then bk V t j else V 60 j)
  else V x j
def aB (V : TVw) (g : Int) (t : Nat) : TVw := aBk V g t (nP V) (nH V)
/-- what is kept of turns, game g's by i of them -/
def KX (σ : TM) (V : TVw) (g : Int) (i : Nat) : Prop := KG V g i ∧ CG σ V g i ∧ ∀ g2, 0 ≤ g2 → g2 < V 51 8 → g2 ≠ g → KG V g2 (V 54 g2.toNat).toNat ∧ CG σ V g2 (V 54 g2.toNat).toNat
section
variable {σ σ' : TM} {V : TVw} {g : Int} {t : Nat}
theorem gn_s (V : TVw) (p u : Nat) : gn V p (u + 1) = if V 72 (40 * u + p) < 0 then 1 else 0 := rfl
theorem gn_r (V : TVw) (p : Nat) : ∀ t, gn V p t = 0 ∨ gn V p t = 1
  | 0 => .inl rfl
  | u + 1 => by
    rw [gn_s]
    split
    · exact .inr rfl
    · exact .inl rfl
theorem lc_r {i : Nat} (hI : Inv V) (hK : KG V g i) {p : Nat} (hp : p < nP V) (hpg : fgm V p = g) : ∀ t, t ≤ i → 0 ≤ lc V p t ∧ lc V p t < 48
  | 0, _ => by
    obtain ⟨-, -, -, -, q5, q6, -⟩ := hI 3 p hp
    exact ⟨q5, q6⟩
  | u + 1, h => by
    have q := hK.1 p hp hpg u h
    have ih := lc_r hI hK hp hpg u (by omega)
    unfold lc
    split
    · exact ih
    · omega
theorem lc_c (h : CR σ V) {p : Nat} (hp : p < nP V) (hC : CG σ V g (V 54 (fgm V p).toNat).toNat) (hpg : fgm V p = g) : ∀ t, t ≤ (V 54 (fgm V p).toNat).toNat → σ 18 p t = lc V p t ∧ σ 19 p t = gn V p t := by
  have h0 := h.cnt
  obtain ⟨q1, q2⟩ := h 7 p (by omega)
  obtain ⟨q3, q4⟩ := q2 hp
  intro t
  induction t with
  | zero => exact fun _ => ⟨q3, q1⟩
  | succ u ih =>
    intro hu
    obtain ⟨i1, i2⟩ := ih (by omega)
    obtain ⟨w1, w2⟩ := q4 u (by omega)
    rw [gn_s]
    unfold lc
    by_cases z : V 72 (40 * u + p) < 0
    · rw [if_pos z, if_pos z, (hC p hp hpg).1 u hu z]
      exact ⟨i1, w2 z⟩
    · rw [if_neg z, if_neg z]
      exact ⟨(w1 (by omega)).2, (w1 (by omega)).1⟩
theorem bk_c (h : CR σ V) {x : Nat} (hx : x < nH V) (ht : (t : Int) ≤ V 54 (V 59 x).toNat) : σ 42 x t = bk V t x := by
  obtain ⟨q1, q2⟩ := h 4 x hx
  unfold bk
  cases t with
  | zero => exact q1
  | succ u =>
    rw [if_neg (by omega)]
    exact (q2 u (by omega)).1
theorem aBk_o {kp kh x j : Nat} (h : dkk x = false) : aBk V g t kp kh x j = V x j := by
  unfold aBk
  rw [if_neg (by rintro rfl; cases h), if_neg (by rintro rfl; cases h), if_neg (by rintro rfl; cases h)]
theorem aBk_inv {i kp kh : Nat} (hI : Inv V) (hK : KG V g i) (ht : t ≤ i) (ht2 : t ≤ (V 54 g.toNat).toNat) : Inv (aBk V g t kp kh) := by
  refine hI.con (fun x j hx => aBk_o hx) (fun p hp => ?_) (fun x hx hn => ((hI 1 x hx).2.2.1 hn).2) (fun x hx u _ _ e => e) (fun x hx => by
    obtain ⟨q1, q2, q3⟩ := hI 6 x hx
    show rgI (if x < kh ∧ V 59 x = g then bk V t x else V 60 x)
    by_cases z : x < kh ∧ V 59 x = g
    · rw [if_pos z]
      unfold bk
      by_cases y : t = 0
      · rw [if_pos y]
        exact q2
      · rw [if_neg y]
        exact q3 (t - 1) (by rw [z.2]; omega)
    · rw [if_neg z]
      exact q1) (fun x hx u _ e => e)
  obtain ⟨-, -, q3, q4, -, -, q7, -⟩ := hI 3 p hp
  show 0 ≤ (if p < kp ∧ fgm V p = g then lc V p t else V 66 p) ∧ (if p < kp ∧ fgm V p = g then lc V p t else V 66 p) < 48 ∧ ((if p < kp ∧ fgm V p = g then gn V p t else V 69 p) = 0 ∨ (if p < kp ∧ fgm V p = g then gn V p t else V 69 p) = 1)
  by_cases z : p < kp ∧ fgm V p = g
  · rw [if_pos z, if_pos z]
    obtain ⟨l1, l2⟩ := lc_r hI hK hp z.2 t ht
    exact ⟨l1, l2, gn_r V p t⟩
  · rw [if_neg z, if_neg z]
    exact ⟨q3, q4, q7⟩
theorem aB_66 {p : Nat} (hp : p < nP V) (hpg : fgm V p = g) : aB V g t 66 p = lc V p t ∧ aB V g t 69 p = gn V p t := ⟨if_pos ⟨hp, hpg⟩, if_pos ⟨hp, hpg⟩⟩
theorem aB_no {p : Nat} (hpg : fgm V p ≠ g) : aB V g t 66 p = V 66 p ∧ aB V g t 69 p = V 69 p := ⟨if_neg (fun q => hpg q.2), if_neg (fun q => hpg q.2)⟩
theorem aB_KG {i : Nat} (hK : KG V g i) (ht : t ≤ i) : KG (aB V g t) g t := by
  obtain ⟨k1, k2, k3, k4⟩ := hK
  refine ⟨fun p hp hpg u hu => k1 p hp hpg u (by omega), fun p hp hpg => ?_, k3, fun p q hp hq n hpg hqg u hu => k4 p q hp hq n hpg hqg u (by omega)⟩
  have hp : p < nP V := hp
  have hpg : fgm V p = g := hpg
  obtain ⟨e1, e2⟩ := aB_66 (t := t) hp hpg
  rw [e1, e2]
  refine ⟨fun z => ?_, fun u hu => ?_⟩
  · subst z
    exact ⟨rfl, rfl⟩
  · subst hu
    show (gn V p (u + 1) = 0 → V 72 (40 * u + p) = lc V p (u + 1)) ∧ (gn V p (u + 1) ≠ 0 → V 72 (40 * u + p) = -1)
    have q := k1 p hp hpg u (by omega)
    rw [gn_s]
    unfold lc
    by_cases z : V 72 (40 * u + p) < 0
    · rw [if_pos z, if_pos z]
      exact ⟨fun y => absurd y (by decide), fun _ => by omega⟩
    · rw [if_neg z, if_neg z]
      exact ⟨fun _ => rfl, fun y => absurd rfl y⟩
theorem KW.kx (h : KW σ V) (hg : 0 ≤ g ∧ g < V 51 8) : KX σ V g (V 54 g.toNat).toNat := ⟨(h g hg.1 hg.2).1, (h g hg.1 hg.2).2, fun g2 h1 h2 _ => h g2 h1 h2⟩
theorem KX.kw (h : KX σ V g (V 54 g.toNat).toNat) : KW σ V := fun g2 h1 h2 => by
  by_cases e : g2 = g
  · subst e
    exact ⟨h.1, h.2.1⟩
  · exact h.2.2 g2 h1 h2 e
theorem KX.turn (hI : Inv V) (h : KX σ V g t) (hg : 0 ≤ g ∧ g < V 51 8) (e1 : ∀ p, p < nP V → fgm V p = g → σ' 18 p (t + 1) = dT V g t 66 p) (e2 : ∀ p j, ¬ (p < nP V ∧ fgm V p = g ∧ j = t + 1) → σ' 18 p j = σ 18 p j) : KX σ' (dT V g t) g (t + 1) :=
  ⟨h.1.turn hI hg, h.2.1.turn hI e1 e2, fun g2 h1 h2 h3 => ⟨(h.2.2 g2 h1 h2 h3).1.other hI h3, (h.2.2 g2 h1 h2 h3).2.other hI h3 e2⟩⟩
theorem KX.back (h : CR σ V) (hX : KX σ V g (V 54 g.toNat).toNat) (ht : t ≤ (V 54 g.toNat).toNat) (es : ∀ p j, σ' 18 p j = σ 18 p j) : KX σ' (aB V g t) g t := by
  obtain ⟨k1, k2, k3⟩ := hX
  refine ⟨aB_KG k1 ht, fun p hp hpg => ?_, fun g2 h1 h2 h3 => ?_⟩
  · have hp : p < nP V := hp
    have hpg : fgm V p = g := hpg
    rw [(aB_66 (t := t) hp hpg).1, es]
    refine ⟨fun u hu hv => ?_, ((lc_c h hp (by rw [hpg]; exact k2) hpg) t (by rw [hpg]; exact ht)).1⟩
    rw [es, es]
    exact (k2 p hp hpg).1 u (by omega) hv
  · obtain ⟨j1, j2⟩ := k3 g2 h1 h2 h3
    exact ⟨j1.cong rfl (fun p _ => rfl) (fun p _ hpg => ⟨(aB_no (by rw [hpg]; exact h3)).1, rfl, (aB_no (by rw [hpg]; exact h3)).2, fun u _ => rfl⟩), j2.cong rfl (fun p _ => rfl) (fun p _ hpg => ⟨(aB_no (by rw [hpg]; exact h3)).1, fun u _ => rfl⟩) (fun p _ _ j _ => es p j)⟩
/-- turns done again from t on -/
noncomputable def aRn (W : TVw) (g : Int) (t : Nat) : Nat → TVw
  | 0 => W
  | n + 1 => dT (aRn W g t n) g (t + n)
noncomputable def aW (V : TVw) (g : Int) (t : Nat) : TVw := aRn (aB V g t) g t ((V 54 g.toNat).toNat - t)
theorem dT_o {x j : Nat} (h : dkk x = false) : dT V g t x j = V x j := by
  have h2 := h
  unfold dkk at h2
  simp only [Bool.or_eq_false_iff] at h2
  unfold dT
  rw [if_neg (by rintro rfl; cases h), dTk_o V g t _ _ x j h2.2.2.2.2]
  unfold aN dN dNk dM dMk
  rw [if_neg (by rintro rfl; cases h), if_neg (by rintro rfl; cases h), if_neg (by rintro rfl; cases h)]
theorem aRn_o (W : TVw) (g : Int) (t : Nat) {x j : Nat} (h : dkk x = false) : ∀ n, aRn W g t n x j = W x j
  | 0 => rfl
  | n + 1 => by
    show dT (aRn W g t n) g (t + n) x j = W x j
    rw [dT_o h, aRn_o W g t h n]
theorem aRn_gm (W : TVw) (g : Int) (t n p : Nat) : fgm (aRn W g t n) p = fgm W p := by
  unfold fgm
  rw [aRn_o W g t rfl n, aRn_o W g t rfl n]
theorem aRn_no (W : TVw) (g : Int) (t : Nat) {p : Nat} (hpg : fgm W p ≠ g) : ∀ n, aRn W g t n 66 p = W 66 p ∧ aRn W g t n 69 p = W 69 p
  | 0 => ⟨rfl, rfl⟩
  | n + 1 => by
    have e := dT_no (V := aRn W g t n) (g := g) (t := t + n) (p := p) (by rw [aRn_gm]; exact hpg)
    have i := aRn_no W g t hpg n
    exact ⟨e.1.trans i.1, e.2.trans i.2⟩
/-- how it is told whether a piece is elsewhere -/
def aEl (V V' : TVw) (p : Nat) : Int := if (if V 69 p = 0 then V 66 p else -1) = (if V' 69 p = 0 then V' 66 p else -1) then 0 else 1
theorem aEl_r (V V' : TVw) : ∀ n, 0 ≤ fS (aEl V V') n ∧ fS (aEl V V') n ≤ n
  | 0 => ⟨Int.le_refl _, Int.le_refl _⟩
  | n + 1 => by
    have := aEl_r V V' n
    rw [fS]
    unfold aEl at this ⊢
    split <;> omega
end
