-- the class's doTurn(): the moves worked out
section
variable {σ : TM} {V : TVw} {g : Int} {t : Nat} {d : Nat}
theorem mIt_no (V : TVw) (g : Int) (A T I : Nat → Int) {p : Nat} (h : mMv V g A p = false) : ∀ k, mIt V g A T I k p = 0
  | 0 => by
    show mF0 V g A T I p = 0
    unfold mF0
    rw [h, if_neg (by decide)]
  | k + 1 => by
    show mPk V g A T (mIt V g A T I k) (nP V) p = 0
    rcases mPk_ch V g A T (mIt V g A T I k) (nP V) p with q | ⟨_, q, _⟩
    · rw [q]; exact mIt_no V g A T I h k
    · rw [h] at q; cases q
theorem sw_sgo (k j : Nat) (h : sgo k j = false) : sw k j = false := by
  have h := sb_sgo k j h
  unfold sw
  cases a1 : Nat.beq k 7 with
  | true => rw [Nat.eq_of_beq_eq_true a1] at h; cases h
  | false =>
    cases a2 : Nat.beq k 11 with
    | true => rw [Nat.eq_of_beq_eq_true a2] at h; cases h
    | false =>
      cases a3 : Nat.beq k 12 with
      | true => rw [Nat.eq_of_beq_eq_true a3] at h; cases h
      | false =>
        cases a4 : Nat.beq k 13 with
        | true => rw [Nat.eq_of_beq_eq_true a4] at h; cases h
        | false =>
          cases a5 : Nat.beq k 15 with
          | true => rw [Nat.eq_of_beq_eq_true a5] at h; cases h
          | false =>
            cases a6 : Nat.beq k 16 with
            | true => rw [Nat.eq_of_beq_eq_true a6] at h; cases h
            | false => rfl
theorem CR.ms (h : CR σ V) {A T I : Nat → Int} (hg : 0 ≤ g ∧ g < 3) (h2 : σ 3 0 2 = ((mlist (mIn V g) (nP V)).length : Int)) (hm : ∀ m p, t_nth (mlist (mIn V g) (nP V)) m = some p → σ 5 0 m = p) (h7 : ∀ p, p < nP V → σ 7 0 p = if mIn V g p = true then mAf V g A T I p else -1) : MS σ V g A T I := by
  have h0 := h.inv.cnt
  obtain ⟨a1, -, a2, a3, -, -, a4, -⟩ := h 0
  refine ⟨⟨a1, a2, a3, a4⟩, h 9, fun p hp => ?_, fun x hx => ?_, fun c hc => (h 2 g.toNat c (by omega) hc).1, h2, hm, h7⟩
  · obtain ⟨b1, b2, -⟩ := h 5 p hp
    exact ⟨b1, b2⟩
  · obtain ⟨-, b, -⟩ := h 3 x (by omega)
    obtain ⟨b1, -, b3, -⟩ := b hx
    exact ⟨b1, b3⟩
set_option maxHeartbeats 2000000 in
theorem c_turn1 (h : CR σ V) (hU : mU V g) (hg : 0 ≤ g ∧ g < 3) : ∃ s1 s, Sc sgo σ s ∧ MS s V g (aA V t) (aT V t) (aI V t) ∧ (∀ p, p < nP V → fgm V p = g → s 6 0 p = dL V g t p ∧ s 12 0 p = mFf V g (aA V t) (aT V t) (aI V t) p ∧ coE s p = aN V g t 66 p ∧ coG s p = aN V g t 69 p) ∧ t_run tbl mtb (d + 7) 109 [vh 0 0, vi g, vi t] σ = some (none, s1) ∧ t_run tbl mtb (d + 7) 14 [vh 3 0] s1 = some (none, s) := by
  have hI := h.inv
  have h0 := hI.cnt
  have hA : mVA V g (aA V t) (aT V t) := oVA (t := t) hI nt_TW
  obtain ⟨s1', a1, a2, a3, a4, a5⟩ := c_giveOrders (d := d) (t := t) h hU
  obtain ⟨s2', b1, b2, b3, b4⟩ := c_workOut (d := d + 3) hI hA hU a2
  have cr2 : CR s2' V := (h.sc (a1.mono sgo_scr)).sc ((b1.mono sw_sgo).mono sgo_scr)
  have h7 : ∀ p, p < nP V → s2' 7 0 p = if mIn V g p = true then mAf V g (aA V t) (aT V t) (aI V t) p else -1 := by
    intro p hp
    by_cases hi : mIn V g p = true
    · rw [if_pos hi, (b2 p hp hi).2]
    · have hi' : mIn V g p = false := by simpa using hi
      rw [if_neg hi, (b3 p hp hi').1, (a4 p (by omega)).2]
  refine ⟨s1', s2', a1.tr (b1.mono sw_sgo), cr2.ms hg ?_ (fun m p hm => ?_) h7, fun p hp hpg => ⟨?_, ?_, ?_⟩, a5, b4⟩
  · rw [b1 3 0 2 rfl, a2.1]
  · rw [b1 5 0 m rfl, a2.2.1 m p hm]
  · rw [b1 6 0 p rfl, a3 p hp hpg]
  · by_cases hi : mIn V g p = true
    · exact (b2 p hp hi).1
    · have hi' : mIn V g p = false := by simpa using hi
      rw [(b3 p hp hi').2, (a4 p (by omega)).1]
      refine (mIt_no V g _ _ _ ?_ _).symm
      unfold mMv
      rw [hi', Bool.false_and]
  · have q7 := h7 p hp
    obtain ⟨-, -, -, q3, -, -, q6⟩ := cr2 5 p hp
    have e66 : aN V g t 66 p = mCl V g (aA V t) (aT V t) (aI V t) p := by
      show (if p < nP V ∧ mGo V g (aA V t) (aT V t) (aI V t) p = true then aT V t p else V 66 p) = _
      unfold mCl
      by_cases q : mGo V g (aA V t) (aT V t) (aI V t) p = true
      · rw [if_pos ⟨hp, q⟩, if_pos q]
      · rw [if_neg (fun y => q y.2), if_neg q]
    have e69 : aN V g t 69 p = if mGn V g (aA V t) (aT V t) (aI V t) p = true then 1 else V 69 p := by
      show (if p < nP V ∧ mGn V g (aA V t) (aT V t) (aI V t) p = true then (1 : Int) else V 69 p) = _
      by_cases q : mGn V g (aA V t) (aT V t) (aI V t) p = true
      · rw [if_pos ⟨hp, q⟩, if_pos q]
      · rw [if_neg (fun y => q y.2), if_neg q]
    have hn : mGo V g (aA V t) (aT V t) (aI V t) p = false → mCl V g (aA V t) (aT V t) (aI V t) p = V 66 p := fun q => by
      unfold mCl
      rw [q, if_neg (by decide)]
    obtain ⟨-, -, -, -, -, -, y9, -⟩ := hI 3 p hp
    unfold coE coG
    rw [e66, e69]
    by_cases hi : mIn V g p = true
    · rw [if_pos hi] at q7
      have h9 : V 69 p = 0 := by
        unfold mIn at hi
        rw [decide_eq_true_eq] at hi
        exact hi.1
      rcases mAf_r (I := aI V t) hI hA hp hi with ⟨w1, w2⟩ | ⟨w1, w2, w3, w4⟩
      · have hgo : mGo V g (aA V t) (aT V t) (aI V t) p = false := by
          unfold mGn at w2
          rw [Bool.and_eq_true, Bool.and_eq_true] at w2
          simpa using w2.1.2
        rw [q7, if_pos w1, if_pos w1, q3, hn hgo, if_pos w2]
        exact ⟨rfl, rfl⟩
      · rw [q7, if_neg (by omega), if_neg (by omega), w4, if_neg (by rw [w3]; decide), h9]
        exact ⟨rfl, rfl⟩
    · have hi' : mIn V g p = false := by simpa using hi
      rw [if_neg hi] at q7
      have hgo : mGo V g (aA V t) (aT V t) (aI V t) p = false := by
        unfold mGo mMv
        rw [hi', Bool.false_and, Bool.false_and]
      have hgn : mGn V g (aA V t) (aT V t) (aI V t) p = false := by
        unfold mGn
        rw [hi', Bool.false_and, Bool.false_and]
      have h9 : V 69 p = 1 := by
        rcases y9 with z | z
        · exact absurd (by unfold mIn; rw [decide_eq_true_eq]; exact ⟨z, hpg⟩) hi
        · exact z
      rw [q7, if_pos rfl, if_pos rfl, q3, hn hgo, hgn, if_neg (by decide), h9]
      exact ⟨rfl, rfl⟩
end
