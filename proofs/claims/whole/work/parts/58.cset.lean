-- the class's settle() and carryOut()
section
variable {σ : TM} {V : TVw} {g : Int} {A T I : Nat → Int} {d : Nat} {t : Nat}
theorem c_settle (hI : Inv V) (hA : mVA V g A T) (h : MS σ V g A T I) {x : Nat} (hx : x < nH V) (hg : V 59 x = g) (h60 : σ 41 x 1 = V 60 x) (ht : t < 30) : ∃ s0, Sc s1 σ s0 ∧ t_run tbl mtb (d + 5) 111 [vh 0 0, vi x, vi t] σ = some (none, t_upd (t_upd (t_upd s0 41 x 1 (dC V g A T I t x)) 43 x t (dF V g A T I t x)) 42 x (t + 1) (dC V g A T I t x)) := by
  have h0 := hI.cnt
  have r1 : 0 ≤ (x : Int) ∧ (x : Int) < 12 := by omega
  have r2 : 0 ≤ (t : Int) ∧ (t : Int) < 30 := by omega
  have r3 : 0 ≤ ((t + 1 : Nat) : Int) ∧ ((t + 1 : Nat) : Int) < 31 := by omega
  have u41 : ∀ s : TM, ∀ v w, t_upd (t_upd s 41 x 1 v) 43 x t w 41 x 1 = v := fun s v w => by rw [up_k (by decide), up_same]
  rw [run_go (k := 111) (as := [vh 0 0, vi x, vi t]) mt_111 (Nat.ne_of_beq_eq_false rfl) rfl (s_kX11_settle_0 _ x t σ), if_pos r1, ci_of (c_plays (d := d + 3) hI h hx t)]
  simp only [bi_0, Int.toNat_natCast]
  by_cases hp : fpl V x t = true
  · obtain ⟨s2, b1, b2⟩ := h.fee (d := d + 1) hI hx h60 t (fst (dM V g A T I) x)
    have hM2 : MS s2 V g A T I := h.sc (b1.mono s1_sst)
    obtain ⟨s3, c1, c2⟩ := c_coinsAfter (d := d) (t := t) hI hA hM2 hx hg (by rw [b1 41 x 1 rfl]; exact h60)
    have hdF : dF V g A T I t x = ffe V x t (fst (dM V g A T I) x) := if_pos ⟨hg, hp⟩
    refine ⟨s3, b1.tr c1, ?_⟩
    rw [if_neg (by rw [hp]; decide), ci_of (h.num (d := d + 3) hI hA hg), ci_of b2, ci_of c2, if_pos r2, w32_nat (by omega), if_pos r3, u41, ← hdF]
    rfl
  · have hp' : fpl V x t = false := by simpa using hp
    obtain ⟨s3, c1, c2⟩ := c_coinsAfter (d := d) (t := t) hI hA h hx hg h60
    have hdF : dF V g A T I t x = 0 := if_neg (fun q => hp q.2)
    refine ⟨s3, c1, ?_⟩
    rw [hp', if_pos rfl, ci_of c2, if_pos r2, w32_nat (by omega), if_pos r3, u41, hdF]
    rfl
/-- what carryOut() makes of a piece: its cell behind the turn -/
def coE (σ : TM) (p : Nat) : Int := if σ 7 0 p = -1 then σ 17 p 3 else σ 7 0 p
def coG (σ : TM) (p : Nat) : Int := if σ 7 0 p = -1 then 1 else 0
set_option maxHeartbeats 2000000 in
theorem c_carryOut {p : Nat} (hp : p < 40) (ht : t < 30) : ∃ s, (∀ k i j, ¬ (k = 17 ∧ i = p ∧ 3 ≤ j ∧ j ≤ 6) → ¬ (k = 18 ∧ i = p ∧ j = t + 1) → ¬ (k = 19 ∧ i = p ∧ j = t + 1) → s k i j = σ k i j) ∧ s 17 p 3 = coE σ p ∧ s 17 p 4 = σ 6 0 p ∧ s 17 p 5 = σ 12 0 p ∧ s 17 p 6 = coG σ p ∧ s 18 p (t + 1) = coE σ p ∧ s 19 p (t + 1) = coG σ p ∧ t_run tbl mtb (d + 1) 24 [vh 3 0, vi p, vi t] σ = some (none, s) := by
  have r1 : 0 ≤ (p : Int) ∧ (p : Int) < 40 := by omega
  have r3 : 0 ≤ ((t + 1 : Nat) : Int) ∧ ((t + 1 : Nat) : Int) < 31 := by omega
  rw [run_go (k := 24) (as := [vh 3 0, vi p, vi t]) mt_24 (Nat.ne_of_beq_eq_false rfl) rfl (s_kX4_carryOut_0 _ p t σ)]
  simp only [t_upd_eq, Nat.reduceEqDiff, false_and, and_false, if_false, true_and, and_true, and_self, if_true, if_pos r1, Int.toNat_natCast, w32_nat (show t < 2147483647 by omega), if_pos r3]
  have c17 : ∀ {k i j n : Nat}, ¬ (k = 17 ∧ i = p ∧ 3 ≤ j ∧ j ≤ 6) → 3 ≤ n → n ≤ 6 → ¬ (k = 17 ∧ i = p ∧ j = n) := fun h a b q => h ⟨q.1, q.2.1, by have := q.2.2; omega, by have := q.2.2; omega⟩
  unfold coE coG
  by_cases q : σ 7 0 p = -1
  · simp only [if_pos q, if_neg (show ¬ (1 : Int) = 0 by decide), if_pos (show (0 : Int) ≤ 1 ∧ (1 : Int) ≤ 1 by decide)]
    refine ⟨_, ?_, ?_, ?_, ?_, ?_, ?_, ?_, rfl⟩
    · intro k i j h1 h2 h3
      rw [t_upd_eq, if_neg h3, t_upd_eq, if_neg h2, t_upd_eq, if_neg (c17 h1 (by decide) (by decide)), t_upd_eq, if_neg (c17 h1 (by decide) (by decide)), t_upd_eq, if_neg (c17 h1 (by decide) (by decide))]
    all_goals simp [t_upd_eq]
  · simp only [if_neg q, if_pos (show (0 : Int) ≤ 0 ∧ (0 : Int) ≤ 1 by decide)]
    refine ⟨_, ?_, ?_, ?_, ?_, ?_, ?_, ?_, rfl⟩
    · intro k i j h1 h2 h3
      rw [t_upd_eq, if_neg h3, t_upd_eq, if_neg h2, t_upd_eq, if_neg (c17 h1 (by decide) (by decide)), t_upd_eq, if_neg (c17 h1 (by decide) (by decide)), t_upd_eq, if_neg (c17 h1 (by decide) (by decide)), t_upd_eq, if_neg (c17 h1 (by decide) (by decide))]
    all_goals simp [t_upd_eq]
end
