-- behind a turn no two pieces stand in one cell; what is kept of turns
section
variable {V : TVw} {g : Int} {A T I : Nat → Int}
theorem mIt_z0 : ∀ (k x : Nat), mIt V g A T I k x = 0 → mF0 V g A T I x = 0
  | 0, _, h => h
  | k + 1, x, h => mIt_z0 k x (mPk_z V g A T _ _ x h)
theorem mGo_F1 {p : Nat} (h : mGo V g A T I p = true) : mMv V g A p = true ∧ mF1 V g A T I p = false := by
  unfold mGo at h
  rw [Bool.and_eq_true, decide_eq_true_eq] at h
  refine ⟨h.1, ?_⟩
  have q := mIt_z0 (nP V + 1) p h.2
  unfold mF0 at q
  rw [if_pos h.1] at q
  by_cases e : mF1 V g A T I p = true
  · rw [if_pos e] at q
    exact absurd q (by decide)
  · simpa using e
theorem mGo_1 {p q : Nat} (hp : p < nP V) (hq : q < nP V) (h : mGo V g A T I p = true) (h2 : mGo V g A T I q = true) (e : T p = T q) : p = q := by
  by_cases n : q = p
  · exact n.symm
  · exfalso
    obtain ⟨a1, a2⟩ := mGo_F1 h
    obtain ⟨b1, b2⟩ := mGo_F1 h2
    have x : (decide (q ≠ p) && mBt V g A T I q p) = false := fE_false.mp a2 q hq
    have y : (decide (p ≠ q) && mBt V g A T I p q) = false := fE_false.mp b2 p hp
    rw [decide_eq_true n, Bool.true_and] at x
    rw [decide_eq_true (Ne.symm n), Bool.true_and] at y
    unfold mBt at x y
    rw [b1, Bool.true_and, decide_eq_false_iff_not] at x
    rw [a1, Bool.true_and, decide_eq_false_iff_not] at y
    have x2 : ¬ (mSt V g A T p < mSt V g A T q ∨ mSt V g A T p = mSt V g A T q ∧ I p ≤ I q) := fun z => x ⟨e.symm, z⟩
    have y2 : ¬ (mSt V g A T q < mSt V g A T p ∨ mSt V g A T q = mSt V g A T p ∧ I q ≤ I p) := fun z => y ⟨e, z⟩
    omega
theorem dM_in {p : Nat} (hp : p < nP V) (h69 : dM V g A T I 69 p = 0) (hg : fgm V p = g) : mIn V g p = true ∧ mGn V g A T I p = false ∧ dM V g A T I 66 p = mCl V g A T I p := by
  have h1 : (if p < nP V ∧ mGn V g A T I p = true then (1:Int) else V 69 p) = 0 := h69
  by_cases z : mGn V g A T I p = true
  · rw [if_pos ⟨hp, z⟩] at h1
    exact absurd h1 (by decide)
  · rw [if_neg (fun y => z y.2)] at h1
    refine ⟨?_, by simpa using z, ?_⟩
    · unfold mIn
      rw [decide_eq_true_eq]
      exact ⟨h1, hg⟩
    · show (if p < nP V ∧ mGo V g A T I p = true then T p else V 66 p) = _
      unfold mCl
      by_cases y : mGo V g A T I p = true
      · rw [if_pos ⟨hp, y⟩, if_pos y]
      · rw [if_neg (fun w => y w.2), if_neg y]
theorem dM_U (hU : mU V g) {p q : Nat} (hp : p < nP V) (hq : q < nP V) (hp9 : dM V g A T I 69 p = 0) (hpg : fgm V p = g) (hq9 : dM V g A T I 69 q = 0) (hqg : fgm V q = g) (e : dM V g A T I 66 p = dM V g A T I 66 q) : p = q := by
  obtain ⟨a1, a2, a3⟩ := dM_in hp hp9 hpg
  obtain ⟨b1, b2, b3⟩ := dM_in hq hq9 hqg
  rw [a3, b3] at e
  unfold mCl at e
  unfold mGn at a2 b2
  rw [a1, Bool.true_and] at a2
  rw [b1, Bool.true_and] at b2
  by_cases x : mGo V g A T I p = true
  · by_cases y : mGo V g A T I q = true
    · rw [if_pos x, if_pos y] at e
      exact mGo_1 hp hq x y e
    · rw [if_pos x, if_neg y] at e
      exfalso
      have y : mGo V g A T I q = false := by simpa using y
      rw [y, Bool.not_false, Bool.true_and] at b2
      have z := fE_false.mp b2 p hp
      rw [x, Bool.true_and, decide_eq_false_iff_not] at z
      exact z e
  · by_cases y : mGo V g A T I q = true
    · rw [if_neg x, if_pos y] at e
      exfalso
      have x : mGo V g A T I p = false := by simpa using x
      rw [x, Bool.not_false, Bool.true_and] at a2
      have z := fE_false.mp a2 q hq
      rw [y, Bool.true_and, decide_eq_false_iff_not] at z
      exact z e.symm
    · rw [if_neg x, if_neg y] at e
      exact hU p q hp hq a1 b1 e
/-- one that is gone behind the turn is where it was ahead of it -/
theorem dM_gone (hI : Inv V) {p : Nat} (hp : p < nP V) (hpg : fgm V p = g) (h : dM V g A T I 69 p ≠ 0) : dM V g A T I 66 p = V 66 p := by
  have e : dM V g A T I 66 p = if p < nP V ∧ mGo V g A T I p = true then T p else V 66 p := rfl
  rw [e]
  by_cases y : mGo V g A T I p = true
  · exfalso
    apply h
    have e : dM V g A T I 69 p = if p < nP V ∧ mGn V g A T I p = true then 1 else V 69 p := rfl
    have hn : mGn V g A T I p = false := by
      unfold mGn
      rw [y, Bool.not_true, Bool.and_false, Bool.false_and]
    rw [e, hn, if_neg (fun z => by cases z.2)]
    have m := (mGo_F1 y).1
    unfold mMv mIn at m
    rw [Bool.and_eq_true, decide_eq_true_eq] at m
    exact m.1.1
  · rw [if_neg (fun z => y z.2)]
end
/-- what holds of a game's i turns that are kept -/
def KG (V : TVw) (g : Int) (i : Nat) : Prop :=
  (∀ p, p < nP V → fgm V p = g → ∀ u, u < i → -1 ≤ V 72 (40 * u + p) ∧ V 72 (40 * u + p) < 48) ∧
  (∀ p, p < nP V → fgm V p = g → (i = 0 → V 66 p = V 67 p ∧ V 69 p = 0) ∧ ∀ u, i = u + 1 → (V 69 p = 0 → V 72 (40 * u + p) = V 66 p) ∧ (V 69 p ≠ 0 → V 72 (40 * u + p) = -1)) ∧
  (∀ p q, p < nP V → q < nP V → p ≠ q → fgm V p = g → fgm V q = g → V 67 p ≠ V 67 q) ∧
  (∀ p q, p < nP V → q < nP V → p ≠ q → fgm V p = g → fgm V q = g → ∀ u, u < i → V 72 (40 * u + p) = V 72 (40 * u + q) → V 72 (40 * u + p) = -1)
/-- where the class keeps the cells of one that is gone -/
def CG (σ : TM) (V : TVw) (g : Int) (i : Nat) : Prop := ∀ p, p < nP V → fgm V p = g → (∀ u, u < i → V 72 (40 * u + p) < 0 → σ 18 p (u + 1) = σ 18 p u) ∧ σ 18 p i = V 66 p
def KW (σ : TM) (V : TVw) : Prop := ∀ g, 0 ≤ g → g < V 51 8 → KG V g (V 54 g.toNat).toNat ∧ CG σ V g (V 54 g.toNat).toNat
section
variable {σ σ' : TM} {V V' : TVw} {g : Int} {t : Nat}
theorem KG.mU {i : Nat} (hI : Inv V) (h : KG V g i) : mU V g := by
  intro p q hp hq h1 h2 e
  unfold mIn at h1 h2
  rw [decide_eq_true_eq] at h1 h2
  by_cases n : p = q
  · exact n
  · exfalso
    obtain ⟨-, -, p66, -⟩ := hI 3 p hp
    obtain ⟨k1, k2, k3, k4⟩ := h
    have a := k2 p hp h1.2
    have b := k2 q hq h2.2
    cases i with
    | zero =>
      have a := (a.1 rfl).1
      have b := (b.1 rfl).1
      exact k3 p q hp hq n h1.2 h2.2 (by rw [← a, ← b, e])
    | succ u =>
      have a := (a.2 u rfl).1 h1.1
      have b := (b.2 u rfl).1 h2.1
      have := k4 p q hp hq n h1.2 h2.2 u (Nat.lt_succ_self u) (by rw [a, b, e])
      omega
theorem KG.cong {i : Nat} (h : KG V g i) (e51 : V' 51 23 = V 51 23) (egm : ∀ p, p < nP V → fgm V' p = fgm V p) (e : ∀ p, p < nP V → fgm V p = g → V' 66 p = V 66 p ∧ V' 67 p = V 67 p ∧ V' 69 p = V 69 p ∧ ∀ u, u < i → V' 72 (40 * u + p) = V 72 (40 * u + p)) : KG V' g i := by
  have en : nP V' = nP V := congrArg Int.toNat e51
  obtain ⟨k1, k2, k3, k4⟩ := h
  refine ⟨?_, ?_, ?_, ?_⟩
  · intro p hp hg u hu
    rw [en] at hp
    rw [egm p hp] at hg
    rw [(e p hp hg).2.2.2 u hu]
    exact k1 p hp hg u hu
  · intro p hp hg
    rw [en] at hp
    rw [egm p hp] at hg
    obtain ⟨a1, a2, a3, a4⟩ := e p hp hg
    rw [a1, a2, a3]
    refine ⟨(k2 p hp hg).1, fun u hu => ?_⟩
    rw [a4 u (by omega)]
    exact (k2 p hp hg).2 u hu
  · intro p q hp hq n hg hg2
    rw [en] at hp hq
    rw [egm p hp] at hg
    rw [egm q hq] at hg2
    rw [(e p hp hg).2.1, (e q hq hg2).2.1]
    exact k3 p q hp hq n hg hg2
  · intro p q hp hq n hg hg2 u hu
    rw [en] at hp hq
    rw [egm p hp] at hg
    rw [egm q hq] at hg2
    rw [(e p hp hg).2.2.2 u hu, (e q hq hg2).2.2.2 u hu]
    exact k4 p q hp hq n hg hg2 u hu
theorem CG.cong {i : Nat} (h : CG σ V g i) (e51 : V' 51 23 = V 51 23) (egm : ∀ p, p < nP V → fgm V' p = fgm V p) (e : ∀ p, p < nP V → fgm V p = g → V' 66 p = V 66 p ∧ ∀ u, u < i → V' 72 (40 * u + p) = V 72 (40 * u + p)) (es : ∀ p, p < nP V → fgm V p = g → ∀ j, j ≤ i → σ' 18 p j = σ 18 p j) : CG σ' V' g i := by
  have en : nP V' = nP V := congrArg Int.toNat e51
  intro p hp hg
  rw [en] at hp
  rw [egm p hp] at hg
  obtain ⟨a1, a2⟩ := e p hp hg
  obtain ⟨b1, b2⟩ := h p hp hg
  rw [a1, es p hp hg i (Nat.le_refl i)]
  refine ⟨fun u hu => ?_, b2⟩
  rw [a2 u hu, es p hp hg (u + 1) hu, es p hp hg u (by omega)]
  exact b1 u hu
theorem dT_72 (V : TVw) (g : Int) (t u p : Nat) (hp : p < 40) : dT V g t 72 (40 * u + p) = if u = t ∧ p < nP V ∧ fgm V p = g then dX V g t p else V 72 (40 * u + p) := by
  have e1 : (40 * u + p) / 40 = u := by omega
  have e2 : (40 * u + p) % 40 = p := by omega
  show (if (40 * u + p) / 40 = t ∧ (40 * u + p) % 40 < nP V ∧ fgm V ((40 * u + p) % 40) = g then dX V g t ((40 * u + p) % 40) else V 72 (40 * u + p)) = _
  rw [e1, e2]
theorem dT_no {p : Nat} (hpg : fgm V p ≠ g) : dT V g t 66 p = V 66 p ∧ dT V g t 69 p = V 69 p := by
  have hi : mIn V g p = false := by
    unfold mIn
    exact decide_eq_false (fun q => hpg q.2)
  constructor
  · show (if p < nP V ∧ mGo V g (aA V t) (aT V t) (aI V t) p = true then aT V t p else V 66 p) = _
    rw [if_neg]
    rintro ⟨-, q⟩
    unfold mGo mMv at q
    rw [hi, Bool.false_and, Bool.false_and] at q
    cases q
  · show (if p < nP V ∧ mGn V g (aA V t) (aT V t) (aI V t) p = true then (1 : Int) else V 69 p) = _
    rw [if_neg]
    rintro ⟨-, q⟩
    unfold mGn at q
    rw [hi, Bool.false_and, Bool.false_and] at q
    cases q
theorem KG.other {g2 : Int} {i : Nat} (hI : Inv V) (h : KG V g2 i) (hg : g2 ≠ g) : KG (dT V g t) g2 i := by
  have h0 := hI.cnt
  refine h.cong rfl (fun p hp => rfl) (fun p hp hpg => ⟨(dT_no (by rw [hpg]; exact hg)).1, rfl, (dT_no (by rw [hpg]; exact hg)).2, fun u hu => ?_⟩)
  rw [dT_72 V g t u p (by omega), if_neg]
  rintro ⟨-, -, q⟩
  exact hg (hpg.symm.trans q)
theorem KG.turn (hI : Inv V) (h : KG V g t) (hg : 0 ≤ g ∧ g < V 51 8) : KG (dT V g t) g (t + 1) := by
  have h0 := hI.cnt
  have hU := h.mU hI
  have hI2 := dT_inv (t := t) hI hg
  obtain ⟨k1, k2, k3, k4⟩ := h
  have eX : ∀ p, p < nP V → fgm V p = g → (dT V g t 69 p = 0 → dX V g t p = dT V g t 66 p) ∧ (dT V g t 69 p ≠ 0 → dX V g t p = -1) := fun p hp hpg => ⟨fun z => if_pos z, fun z => if_neg z⟩
  have e72 : ∀ p, p < nP V → fgm V p = g → ∀ u, u < t + 1 → dT V g t 72 (40 * u + p) = if u = t then dX V g t p else V 72 (40 * u + p) := by
    intro p hp hpg u hu
    rw [dT_72 V g t u p (by omega)]
    by_cases e : u = t
    · rw [if_pos ⟨e, hp, hpg⟩, if_pos e]
    · rw [if_neg (fun q => e q.1), if_neg e]
  have rX : ∀ p, p < nP V → fgm V p = g → -1 ≤ dX V g t p ∧ dX V g t p < 48 := by
    intro p hp hpg
    obtain ⟨-, -, q3, q4, -, -, q7, -⟩ := hI2 3 p hp
    rcases q7 with z | z
    · rw [(eX p hp hpg).1 z]
      exact ⟨by omega, q4⟩
    · rw [(eX p hp hpg).2 (by omega)]
      omega
  refine ⟨fun p hp hpg u hu => ?_, fun p hp hpg => ⟨fun z => by omega, fun u hu => ?_⟩, k3, fun p q hp hq n hpg hqg u hu => ?_⟩
  · have hp : p < nP V := hp
    have hpg : fgm V p = g := hpg
    rw [e72 p hp hpg u hu]
    by_cases e : u = t
    · rw [if_pos e]
      exact rX p hp hpg
    · rw [if_neg e]
      exact k1 p hp hpg u (by omega)
  · have hp : p < nP V := hp
    have hpg : fgm V p = g := hpg
    have e : u = t := by omega
    rw [e72 p hp hpg u (by omega), if_pos e]
    exact eX p hp hpg
  · have hp : p < nP V := hp
    have hpg : fgm V p = g := hpg
    have hq : q < nP V := hq
    have hqg : fgm V q = g := hqg
    rw [e72 p hp hpg u hu, e72 q hq hqg u hu]
    by_cases e : u = t
    · rw [if_pos e, if_pos e]
      intro ee
      obtain ⟨-, -, q3, -, -, -, q7, -⟩ := hI2 3 p hp
      obtain ⟨-, -, r3, -, -, -, r7, -⟩ := hI2 3 q hq
      by_cases z : dT V g t 69 p = 0
      · exfalso
        by_cases y : dT V g t 69 q = 0
        · rw [(eX p hp hpg).1 z, (eX q hq hqg).1 y] at ee
          exact n (dM_U hU hp hq z hpg y hqg ee)
        · rw [(eX p hp hpg).1 z, (eX q hq hqg).2 y] at ee
          omega
      · exact (eX p hp hpg).2 z
    · rw [if_neg e, if_neg e]
      exact k4 p q hp hq n hpg hqg u (by omega)
theorem CG.turn (hI : Inv V) (h : CG σ V g t) (e1 : ∀ p, p < nP V → fgm V p = g → σ' 18 p (t + 1) = dT V g t 66 p) (e2 : ∀ p j, ¬ (p < nP V ∧ fgm V p = g ∧ j = t + 1) → σ' 18 p j = σ 18 p j) : CG σ' (dT V g t) g (t + 1) := by
  have h0 := hI.cnt
  intro p hp hpg
  have hp : p < nP V := hp
  have hpg : fgm V p = g := hpg
  obtain ⟨b1, b2⟩ := h p hp hpg
  refine ⟨fun u hu hv => ?_, e1 p hp hpg⟩
  rw [dT_72 V g t u p (by omega)] at hv
  by_cases e : u = t
  · subst e
    rw [if_pos ⟨rfl, hp, hpg⟩] at hv
    rw [e1 p hp hpg, e2 p u (fun q => by have := q.2.2; omega), b2]
    refine dM_gone hI hp hpg (fun z => ?_)
    have ex : dX V g u p = dT V g u 66 p := if_pos z
    rw [ex] at hv
    have q3 : 0 ≤ aN V g u 66 p := by
      have hA : mVA V g (aA V u) (aT V u) := oVA (t := u) hI nt_TW
      exact (dNk_inv (I := aI V u) hI hA u (nH V) 3 p hp).2.2.1
    have hv : aN V g u 66 p < 0 := hv
    omega
  · rw [if_neg (fun q => e q.1)] at hv
    rw [e2 p (u + 1) (fun q => by have := q.2.2; omega), e2 p u (fun q => by have := q.2.2; omega)]
    exact b1 u (by omega) hv
theorem CG.other {g2 : Int} {i : Nat} (hI : Inv V) (h : CG σ V g2 i) (hg : g2 ≠ g) (e2 : ∀ p j, ¬ (p < nP V ∧ fgm V p = g ∧ j = t + 1) → σ' 18 p j = σ 18 p j) : CG σ' (dT V g t) g2 i := by
  have h0 := hI.cnt
  refine h.cong rfl (fun p hp => rfl) (fun p hp hpg => ⟨(dT_no (by rw [hpg]; exact hg)).1, fun u hu => ?_⟩) (fun p hp hpg j hj => e2 p j (fun q => hg (hpg.symm.trans q.2.1)))
  rw [dT_72 V g t u p (by omega), if_neg]
  rintro ⟨-, -, q⟩
  exact hg (hpg.symm.trans q)
end
