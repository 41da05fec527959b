-- a turn worked out, over pure rows: A what each does, T where to (or whom), I ties
def fE (P : Nat → Bool) : Nat → Bool
  | 0 => false
  | n + 1 => fE P n || P n
theorem fE_iff {P : Nat → Bool} : ∀ {n : Nat}, fE P n = true ↔ ∃ p, p < n ∧ P p = true
  | 0 => ⟨fun h => (by cases h), fun ⟨p, h, _⟩ => by omega⟩
  | n + 1 => by
    rw [fE, Bool.or_eq_true, fE_iff]
    constructor
    · rintro (⟨p, h1, h2⟩ | h)
      · exact ⟨p, by omega, h2⟩
      · exact ⟨n, by omega, h⟩
    · rintro ⟨p, h1, h2⟩
      by_cases e : p = n
      · subst e; exact .inr h2
      · exact .inl ⟨p, by omega, h2⟩
theorem fE_false {P : Nat → Bool} {n : Nat} : fE P n = false ↔ ∀ p, p < n → P p = false := by
  constructor
  · intro h p hp
    cases hP : P p with
    | false => rfl
    | true =>
      have := fE_iff.mpr ⟨p, hp, hP⟩
      rw [h] at this
      cases this
  · intro h
    cases hE : fE P n with
    | false => rfl
    | true =>
      obtain ⟨p, h1, h2⟩ := fE_iff.mp hE
      rw [h p h1] at h2
      cases h2
def mlist (P : Nat → Bool) : Nat → List Nat
  | 0 => []
  | n + 1 => if P n = true then mlist P n ++ [n] else mlist P n
theorem mlist_le (P : Nat → Bool) : ∀ n, (mlist P n).length ≤ n
  | 0 => Nat.le_refl _
  | n + 1 => by
    have := mlist_le P n
    unfold mlist
    split
    · rw [List.length_append, List.length_singleton]; omega
    · omega
theorem mlist_mono (P : Nat → Bool) : ∀ {k n : Nat}, k ≤ n → (mlist P k).length ≤ (mlist P n).length ∧ ∀ m p, t_nth (mlist P k) m = some p → t_nth (mlist P n) m = some p
  | k, 0, h => by
    have : k = 0 := by omega
    subst this
    exact ⟨Nat.le_refl _, fun m p h => h⟩
  | k, n + 1, h => by
    by_cases e : k = n + 1
    · subst e
      exact ⟨Nat.le_refl _, fun m p h => h⟩
    · obtain ⟨h1, h2⟩ := mlist_mono P (k := k) (n := n) (by omega)
      have e2 : mlist P (n + 1) = if P n = true then mlist P n ++ [n] else mlist P n := rfl
      rw [e2]
      split
      · rw [List.length_append, List.length_singleton]
        exact ⟨by omega, fun m p hm => t_nth_app_l _ _ _ _ (h2 m p hm)⟩
      · exact ⟨h1, h2⟩
theorem mlist_at (P : Nat → Bool) {p n : Nat} (hp : p < n) (hP : P p = true) : t_nth (mlist P n) (mlist P p).length = some p ∧ (mlist P (p + 1)).length = (mlist P p).length + 1 := by
  have e : mlist P (p + 1) = mlist P p ++ [p] := by rw [mlist, if_pos hP]
  refine ⟨(mlist_mono P (k := p + 1) (n := n) (by omega)).2 _ _ ?_, by rw [e, List.length_append, List.length_singleton]⟩
  rw [e]
  exact t_nth_app (mlist P p) [p] 0 p rfl
theorem mlist_no (P : Nat → Bool) {p : Nat} (hP : P p = false) : mlist P (p + 1) = mlist P p := by
  rw [mlist, if_neg (by rw [hP]; decide)]
theorem mlist_mem (P : Nat → Bool) : ∀ {n m p : Nat}, t_nth (mlist P n) m = some p → p < n ∧ P p = true
  | 0, m, p, h => by cases h
  | n + 1, m, p, h => by
    unfold mlist at h
    split at h
    · next hP =>
      rcases t_nth_snoc _ _ _ _ h with q | ⟨_, rfl⟩
      · have := mlist_mem P q
        exact ⟨by omega, this.2⟩
      · exact ⟨by omega, hP⟩
    · have := mlist_mem P h
      exact ⟨by omega, this.2⟩
theorem mlist_next (P : Nat → Bool) {n : Nat} : ∀ (z k : Nat), k + z = n → (mlist P k).length < (mlist P n).length → ∃ p, k ≤ p ∧ p < n ∧ P p = true ∧ (∀ q, k ≤ q → q < p → P q = false) ∧ (mlist P p).length = (mlist P k).length
  | 0, k, h, hl => by
    have : k = n := by omega
    subst this
    omega
  | z + 1, k, h, hl => by
    cases hP : P k with
    | true => exact ⟨k, Nat.le_refl _, by omega, hP, fun q h1 h2 => by omega, rfl⟩
    | false =>
      have e := mlist_no P hP
      obtain ⟨p, h1, h2, h3, h4, h5⟩ := mlist_next P (n := n) z (k + 1) (by omega) (by rw [e]; exact hl)
      refine ⟨p, by omega, h2, h3, fun q h6 h7 => ?_, by rw [h5, e]⟩
      by_cases e2 : q = k
      · rw [e2]; exact hP
      · exact h4 q (by omega) h7
/-- a loop over the members of a game, seen as one over all pieces -/
theorem loop_mem {O : TO} {kk pc n : Nat} {α : Type} (P : Nat → Bool) (Lf : Nat → α → TL) (J : Nat → α → TM → Prop) (hskip : ∀ q a s, q < n → P q = false → J q a s → J (q + 1) a s)
    (hstep : ∀ q m a s, q < n → P q = true → t_nth (mlist P n) m = some q → m < (mlist P n).length → J q a s → ∃ a' s', J (q + 1) a' s' ∧ ∀ N, t_tr tbl mtb O kk (N + 1) pc (Lf m a) [] s = t_tr tbl mtb O kk N pc (Lf (m + 1) a') [] s')
    {a : α} {s : TM} (h : J 0 a s) : ∃ a' s', J n a' s' ∧ ∀ N, t_tr tbl mtb O kk (N + (mlist P n).length) pc (Lf 0 a) [] s = t_tr tbl mtb O kk N pc (Lf (mlist P n).length a') [] s' := by
  have skip : ∀ (z q : Nat) (a : α) (s : TM) (p : Nat), q + z = p → p ≤ n → (∀ x, q ≤ x → x < p → P x = false) → J q a s → J p a s := by
    intro z
    induction z with
    | zero =>
      intro q a s p h1 h2 h3 h4
      have : q = p := by omega
      subst this
      exact h4
    | succ z ih =>
      intro q a s p h1 h2 h3 h4
      exact ih (q + 1) a s p (by omega) h2 (fun x h5 h6 => h3 x (by omega) h6) (hskip q a s (by omega) (h3 q (Nat.le_refl _) (by omega)) h4)
  have main : ∀ (z m k : Nat) (a : α) (s : TM), m + z = (mlist P n).length → k ≤ n → (mlist P k).length = m → J k a s → ∃ a' s', J n a' s' ∧ ∀ N, t_tr tbl mtb O kk (N + z) pc (Lf m a) [] s = t_tr tbl mtb O kk N pc (Lf (mlist P n).length a') [] s' := by
    intro z
    induction z with
    | zero =>
      intro m k a s h1 h2 h3 h4
      have : m = (mlist P n).length := by omega
      subst this
      refine ⟨a, s, skip (n - k) k a s n (by omega) (Nat.le_refl _) (fun x h5 h6 => ?_) h4, fun N => rfl⟩
      cases hP : P x with
      | false => rfl
      | true =>
        have := (mlist_at P h6 hP).2
        have := (mlist_mono P (k := k) (n := x) h5).1
        have := (mlist_mono P (k := x + 1) (n := n) (by omega)).1
        omega
    | succ z ih =>
      intro m k a s h1 h2 h3 h4
      obtain ⟨p, p1, p2, p3, p4, p5⟩ := mlist_next P (n := n) (n - k) k (by omega) (by omega)
      have hJ := skip (p - k) k a s p (by omega) (by omega) p4 h4
      have hat := mlist_at P p2 p3
      rw [p5, h3] at hat
      obtain ⟨a1, s1, hJ1, e1⟩ := hstep p m a s p2 p3 hat.1 (by omega) hJ
      obtain ⟨a2, s2, hJ2, e2⟩ := ih (m + 1) (p + 1) a1 s1 (by omega) (by omega) hat.2 hJ1
      exact ⟨a2, s2, hJ2, fun N => (e1 (N + z)).trans (e2 N)⟩
  obtain ⟨a', s', h1, h2⟩ := main (mlist P n).length 0 0 a s (by omega) (by omega) rfl h
  exact ⟨a', s', h1, h2⟩
section
variable (V : TVw) (g : Int) (A T I : Nat → Int)
def mIn (p : Nat) : Bool := decide (V 69 p = 0 ∧ fgm V p = g)
def mMv (p : Nat) : Bool := mIn V g p && decide (A p = 1)
def mCut (h : Nat) : Bool := fE (fun p => mMv V g A p && decide (T p = V 66 h ∧ V 65 p ≠ V 65 h)) (nP V)
def mWh (p : Nat) : Int := if A p = 1 then T p else V 66 p
def mHp (p q : Nat) : Bool := mIn V g q && decide (A q = 2 ∧ T q = (p : Int) ∧ fwy (V 66 q) (mWh V A T p) = 1) && !mCut V g A T q
def mSt (p : Nat) : Int := V 68 p + fS (fun q => if mHp V g A T p q = true then V 68 q else 0) (nP V)
def mBt (q p : Nat) : Bool := mMv V g A q && decide (T q = T p ∧ (mSt V g A T p < mSt V g A T q ∨ mSt V g A T p = mSt V g A T q ∧ I p ≤ I q))
def mF1 (p : Nat) : Bool := fE (fun q => decide (q ≠ p) && mBt V g A T I q p) (nP V)
def mSw (p q : Nat) : Bool := decide (q ≠ p) && mMv V g A q && !mF1 V g A T I q && decide (T p = V 66 q ∧ T q = V 66 p)
def mF2 (p : Nat) : Bool := fE (fun q => mSw V g A T I p q && decide (mSt V g A T p ≤ mSt V g A T q)) (nP V)
def mF0 (p : Nat) : Int := if mMv V g A p = true then (if mF1 V g A T I p = true then 1 else if mF2 V g A T I p = true then 2 else 0) else 0
def mHo (q : Nat) : Int := if mMv V g A q = true then V 68 q else mSt V g A T q
def mBl (F : Nat → Int) (p : Nat) : Bool := decide (0 ≤ fat V g (T p)) && (!mMv V g A (fat V g (T p)).toNat || decide (F (fat V g (T p)).toNat ≠ 0)) && decide (V 65 (fat V g (T p)).toNat = V 65 p ∨ mSt V g A T p ≤ mHo V g A T (fat V g (T p)).toNat)
def mPk (F : Nat → Int) : Nat → Nat → Int
  | 0 => F
  | k + 1 => fun x => if x = k ∧ mMv V g A k = true ∧ mPk F k k = 0 ∧ mBl V g A T (mPk F k) k = true then 3 else mPk F k x
def mIt : Nat → Nat → Int
  | 0 => mF0 V g A T I
  | k + 1 => mPk V g A T (mIt k) (nP V)
def mFf : Nat → Int := mIt V g A T I (nP V + 1)
def mGo (p : Nat) : Bool := mMv V g A p && decide (mFf V g A T I p = 0)
def mGn (p : Nat) : Bool := mIn V g p && !mGo V g A T I p && fE (fun q => mGo V g A T I q && decide (T q = V 66 p)) (nP V)
def mCl (p : Nat) : Int := if mGo V g A T I p = true then T p else V 66 p
def mZ (F : Nat → Int) (n : Nat) : Int := fS (fun p => if mMv V g A p = true ∧ F p = 0 then 1 else 0) n
theorem mPk_ch (F : Nat → Int) : ∀ k x, mPk V g A T F k x = F x ∨ (x < k ∧ mMv V g A x = true ∧ F x = 0 ∧ mPk V g A T F k x = 3)
  | 0, x => .inl rfl
  | k + 1, x => by
    have e : mPk V g A T F (k + 1) x = if x = k ∧ mMv V g A k = true ∧ mPk V g A T F k k = 0 ∧ mBl V g A T (mPk V g A T F k) k = true then 3 else mPk V g A T F k x := rfl
    rw [e]
    split
    · next h =>
      obtain ⟨rfl, h2, h3, h4⟩ := h
      rcases mPk_ch F x x with q | ⟨q, _⟩
      · exact .inr ⟨by omega, h2, by rw [← q]; exact h3, rfl⟩
      · omega
    · rcases mPk_ch F k x with q | ⟨q1, q2, q3, q4⟩
      · exact .inl q
      · exact .inr ⟨by omega, q2, q3, q4⟩
theorem mZ_r (F : Nat → Int) : ∀ n, 0 ≤ mZ V g A F n ∧ mZ V g A F n ≤ (mlist (mIn V g) n).length
  | 0 => ⟨Int.le_refl _, Int.le_refl _⟩
  | n + 1 => by
    have := mZ_r F n
    unfold mZ at this ⊢
    rw [fS]
    have hm : mMv V g A n = true → mIn V g n = true := fun h => by
      unfold mMv at h
      rw [Bool.and_eq_true] at h
      exact h.1
    have hl := (mlist_mono (mIn V g) (k := n) (n := n + 1) (by omega)).1
    split
    · next h =>
      have := (mlist_at (mIn V g) (p := n) (n := n + 1) (by omega) (hm h.1)).2
      omega
    · omega
theorem mZ_le {F G : Nat → Int} (h : ∀ x, G x = 0 → F x = 0) : ∀ n, mZ V g A G n ≤ mZ V g A F n ∧ ((∃ x, x < n ∧ mMv V g A x = true ∧ F x = 0 ∧ G x ≠ 0) → mZ V g A G n + 1 ≤ mZ V g A F n)
  | 0 => ⟨Int.le_refl _, fun ⟨x, h1, _⟩ => by omega⟩
  | n + 1 => by
    obtain ⟨h1, h2⟩ := mZ_le h n
    unfold mZ at h1 h2 ⊢
    rw [fS, fS]
    constructor
    · split
      · next q => rw [if_pos ⟨q.1, h n q.2⟩]; omega
      · split <;> omega
    · rintro ⟨x, x1, x2, x3, x4⟩
      by_cases e : x = n
      · subst e
        rw [if_neg (fun q => x4 q.2), if_pos ⟨x2, x3⟩]
        omega
      · have h2 := h2 ⟨x, by omega, x2, x3, x4⟩
        split
        · next q => rw [if_pos ⟨q.1, h n q.2⟩]; omega
        · split <;> omega
theorem mPk_z (F : Nat → Int) (k x : Nat) (h : mPk V g A T F k x = 0) : F x = 0 := by
  rcases mPk_ch V g A T F k x with q | ⟨_, _, q, _⟩
  · rw [← q]; exact h
  · exact q
/-- a round that changes something leaves fewer -/
theorem mIt_dec (k x : Nat) (hx : x < nP V) (h : mIt V g A T I (k + 1) x ≠ mIt V g A T I k x) : mZ V g A (mIt V g A T I (k + 1)) (nP V) + 1 ≤ mZ V g A (mIt V g A T I k) (nP V) := by
  refine (mZ_le V g A (fun y hy => mPk_z V g A T _ _ y hy) (nP V)).2 ⟨x, hx, ?_⟩
  rcases mPk_ch V g A T (mIt V g A T I k) (nP V) x with q | ⟨_, q2, q3, q4⟩
  · exact absurd q h
  · refine ⟨q2, q3, ?_⟩
    show mPk V g A T (mIt V g A T I k) (nP V) x ≠ 0
    rw [q4]
    decide
theorem mIt_st {k : Nat} (h : ∀ x, x < nP V → mIt V g A T I (k + 1) x = mIt V g A T I k x) : ∀ j, mIt V g A T I (k + j) = mIt V g A T I k := by
  have h0 : mIt V g A T I (k + 1) = mIt V g A T I k := by
    funext x
    by_cases hx : x < nP V
    · exact h x hx
    · rcases mPk_ch V g A T (mIt V g A T I k) (nP V) x with q | ⟨q, _⟩
      · exact q
      · omega
  intro j
  induction j with
  | zero => rfl
  | succ j ih =>
    have e : mIt V g A T I (k + j + 1) = mPk V g A T (mIt V g A T I (k + j)) (nP V) := rfl
    rw [← Nat.add_assoc, e, ih]
    exact h0
theorem mFf_of {k : Nat} (hk : k ≤ nP V + 1) (h : ∀ x, x < nP V → mIt V g A T I (k + 1) x = mIt V g A T I k x) : mFf V g A T I = mIt V g A T I k := by
  have := mIt_st V g A T I h (nP V + 1 - k)
  rw [show k + (nP V + 1 - k) = nP V + 1 by omega] at this
  exact this
end
