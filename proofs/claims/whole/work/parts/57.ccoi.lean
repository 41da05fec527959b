-- the class's coinsAfter()
def sst (k j : Nat) : Bool := s1 k j || ((Nat.beq k 41 && Nat.beq j 1) || (Nat.beq k 42 || (Nat.beq k 43 || ((Nat.beq k 17 && (Nat.ble 3 j && Nat.ble j 6)) || (Nat.beq k 18 || (Nat.beq k 19 || (Nat.beq k 38 && Nat.beq j 4)))))))
theorem s1_sst (k j : Nat) (h : sst k j = false) : s1 k j = false := (Bool.or_eq_false_iff.mp h).1
/-- the class's rows while a turn whose moves are worked out is carried out -/
def MS (s : TM) (V : TVw) (g : Int) (A T I : Nat → Int) : Prop :=
  (s 0 0 0 = V 51 0 ∧ s 0 0 4 = V 51 15 ∧ s 0 0 7 = V 51 23 ∧ s 0 0 13 = V 51 34) ∧ crc s V 9 ∧ (∀ p, p < nP V → s 17 p 0 = fgm V p ∧ s 17 p 1 = V 65 p) ∧ (∀ h, h < nH V → s 41 h 0 = V 59 h ∧ s 41 h 2 = V 62 h) ∧ (∀ c, c < 48 → s 39 g.toNat c = V 57 (48 * g.toNat + c)) ∧ s 3 0 2 = ((mlist (mIn V g) (nP V)).length : Int) ∧ (∀ m p, t_nth (mlist (mIn V g) (nP V)) m = some p → s 5 0 m = p) ∧ (∀ p, p < nP V → s 7 0 p = if mIn V g p = true then mAf V g A T I p else -1)
theorem MS.sc {s s' : TM} {V : TVw} {g : Int} {A T I : Nat → Int} (h : MS s V g A T I) (q : Sc sst s s') : MS s' V g A T I := by
  obtain ⟨⟨a1, a2, a3, a4⟩, b, c, d, e, f1, f2, f3⟩ := h
  refine ⟨⟨by rw [q 0 0 0 rfl]; exact a1, by rw [q 0 0 4 rfl]; exact a2, by rw [q 0 0 7 rfl]; exact a3, by rw [q 0 0 13 rfl]; exact a4⟩, ?_, fun p hp => ?_, fun h hh => ?_, fun c hc => ?_, ?_, fun m p hm => ?_, fun p hp => ?_⟩
  · have q46 : ∀ i j, s' 46 i j = s 46 i j := fun i j => q 46 i j rfl
    have q47 : ∀ i j, s' 47 i j = s 47 i j := fun i j => q 47 i j rfl
    simp only [crc, q46, q47] at b ⊢
    exact b
  · rw [q 17 p 0 rfl, q 17 p 1 rfl]; exact c p hp
  · rw [q 41 h 0 rfl, q 41 h 2 rfl]; exact d h hh
  · rw [q 39 _ c rfl]; exact e c hc
  · rw [q 3 0 2 rfl]; exact f1
  · rw [q 5 0 m rfl]; exact f2 m p hm
  · rw [q 7 0 p rfl]; exact f3 p hp
section
variable {σ : TM} {V : TVw} {g : Int} {A T I : Nat → Int} {d : Nat} {t : Int}
theorem c_plays (hI : Inv V) (h : MS σ V g A T I) {x : Nat} (hx : x < nH V) (t : Int) : t_run tbl mtb (d + 1) 110 [vh 0 0, vi x, vi t] σ = some (some (vi (bi (fpl V x t))), σ) := by
  have h0 := hI.cnt
  obtain ⟨i1, i2, i3, i4, -⟩ := hI 2 x (by omega)
  rw [run_go (k := 110) (as := [vh 0 0, vi x, vi t]) mt_110 (Nat.ne_of_beq_eq_false rfl) rfl (s_kX11_playsIn_0 _ x t σ), Int.toNat_natCast, (h.2.2.2.1 x hx).2, if_pos (by omega)]
  unfold fpl
  (repeat' split) <;> exact leaf_b (by omega)
theorem MS.num (hI : Inv V) (hA : mVA V g A T) (h : MS σ V g A T I) {x : Nat} (hg : V 59 x = g) : t_run tbl mtb (d + 1) 23 [vh 3 0, vi x] σ = some (some (vi (fst (dM V g A T I) x)), σ) :=
  c_numberAfter hI hA h.2.2.2.2.2.1 h.2.2.2.2.2.2.1 (fun p hp hi => by rw [h.2.2.2.2.2.2.2 p hp, if_pos hi]) (fun p hp => (h.2.2.1 p hp).2) hg
theorem MS.fee (hI : Inv V) (h : MS σ V g A T I) {x : Nat} (hx : x < nH V) (h60 : σ 41 x 1 = V 60 x) (t n : Int) : ∃ σ', Sc s1 σ σ' ∧ t_run tbl mtb (d + 3) 87 [vh 0 0, vi x, vi t, vi n] σ = some (some (vi (ffe V x t n)), σ') :=
  c_feeOf h.1.2.2.2 h.1.1 h.2.1 hI hx (h.2.2.2.1 x hx).1 h60 t n
set_option maxHeartbeats 4000000 in
theorem c_coinsAfter (hI : Inv V) (hA : mVA V g A T) (h : MS σ V g A T I) {x : Nat} (hx : x < nH V) (hg : V 59 x = g) (h60 : σ 41 x 1 = V 60 x) : ∃ σ', Sc s1 σ σ' ∧ t_run tbl mtb (d + 4) 112 [vh 0 0, vi x, vi t] σ = some (some (vi (dC V g A T I t x)), σ') := by
  have h0 := hI.cnt
  obtain ⟨i1, i2, -⟩ := hI 2 x (by omega)
  have r1 : 0 ≤ (x : Int) ∧ (x : Int) < 12 := by omega
  rw [run_go (k := 112) (as := [vh 0 0, vi x, vi t]) mt_112 (Nat.ne_of_beq_eq_false rfl) rfl (s_kX11_coinsAfter_0 _ x t σ), if_pos r1, ci_of (c_plays (d := d + 2) hI h hx t)]
  simp only [bi_0, Int.toNat_natCast, (h.2.2.2.1 x hx).1, h60]
  by_cases hp : fpl V x t = true
  · have hdC : dC V g A T I t x = w32 (V 60 x + fS (dS V g A T I x) (nP V) - ffe V x t (fst (dM V g A T I) x)) := if_pos ⟨hg, hp⟩
    rw [if_neg (by rw [hp]; decide), if_pos (by omega), nx_inl]
    obtain ⟨L, s, ⟨rfl, rfl⟩, e⟩ := loop_rel (O := t_run tbl mtb (d + 3)) (k := 112) (pc := 41) (fun k L s => s = σ ∧ L = [some (vh 0 0), some (vi x), some (vi t), some (vh 41 x), some (vh 39 g.toNat), some (vi (w32 (fS (dS V g A T I x) k))), some (vi (k : Int))]) (nP V) (by
      rintro k L s hk ⟨rfl, rfl⟩
      have r2 : 0 ≤ (k : Int) ∧ (k : Int) < 40 := by omega
      obtain ⟨y0, y1⟩ := h.2.2.1 k hk
      have y7 := h.2.2.2.2.2.2.2 k hk
      have st := fun N => tr_step (n := N) (s_kX11_coinsAfter_41b (t_run tbl mtb (d + 3)) x t x g.toNat (w32 (fS (dS V g A T I x) k)) k s )
      simp only [h.1.2.2.1, if_pos (show (k : Int) < V 51 23 by omega), w32_nat (show k < 2147483647 by omega), Int.toNat_natCast, if_pos r2, y1, w32_add_l] at st
      refine ⟨_, _, ⟨rfl, rfl⟩, fun N => ?_⟩
      have st := st N
      rw [fS]
      by_cases z : V 65 k = (x : Int)
      · simp only [if_pos z] at st
        have hfg : fgm V k = g := by
          unfold fgm
          rw [z, Int.toNat_natCast, hg]
        by_cases hi : mIn V g k = true
        · rw [if_pos hi] at y7
          have h9 : V 69 k = 0 := by
            unfold mIn at hi
            rw [decide_eq_true_eq] at hi
            exact hi.1
          rcases mAf_r (I := I) hI hA hk hi with ⟨w1, w2⟩ | ⟨w1, w2, w3, w4⟩
          · rw [y7, if_pos w1] at st
            have : dS V g A T I x k = 0 := by
              unfold dS
              rw [if_neg]
              rintro ⟨-, q⟩
              rw [((dM69 hI hk).mp q).2] at w2
              cases w2
            rw [this, Int.add_zero]
            exact st
          · rw [y7, if_neg (by omega), if_pos ⟨w1, w2⟩] at st
            have h66 : dM V g A T I 66 k = mCl V g A T I k := by
              show (if k < nP V ∧ mGo V g A T I k = true then T k else V 66 k) = mCl V g A T I k
              unfold mCl
              by_cases q : mGo V g A T I k = true
              · rw [if_pos ⟨hk, q⟩, if_pos q]
              · rw [if_neg (fun y => q y.2), if_neg q]
            have : dS V g A T I x k = s 39 g.toNat (mAf V g A T I k).toNat := by
              unfold dS
              rw [if_pos ⟨z, (dM69 hI hk).mpr ⟨h9, w3⟩⟩, h66, ← w4, h.2.2.2.2.1 _ (by omega)]
              congr 1
              omega
            rw [this]
            exact st
        · rw [if_neg hi] at y7
          rw [y7, if_pos rfl] at st
          have : dS V g A T I x k = 0 := by
            unfold dS
            rw [if_neg]
            rintro ⟨-, q⟩
            apply hi
            unfold mIn
            rw [decide_eq_true_eq]
            exact ⟨((dM69 hI hk).mp q).1, hfg⟩
          rw [this, Int.add_zero]
          exact st
      · simp only [if_neg z] at st
        have : dS V g A T I x k = 0 := by
          unfold dS
          rw [if_neg (fun q => z q.1)]
        rw [this, Int.add_zero]
        exact st) (nP V) 0 [some (vh 0 0), some (vi x), some (vi t), some (vh 41 x), some (vh 39 g.toNat), some (vi (w32 (fS (dS V g A T I x) 0))), some (vi ((0 : Nat) : Int))] σ (by omega) ⟨rfl, rfl⟩
    obtain ⟨s2, b1, b2⟩ := h.fee (d := d) hI hx h60 t (fst (dM V g A T I) x)
    refine ⟨s2, b1, ?_⟩
    have f := e (999999 - nP V)
    rw [Nat.sub_add_cancel (by omega)] at f
    have e0 : w32 (fS (dS V g A T I x) 0) = 0 := w32_id (show (-2147483648 : Int) ≤ 0 by decide) (show (0 : Int) ≤ 2147483647 by decide)
    rw [e0] at f
    have f : t_tr tbl mtb (t_run tbl mtb (d + 3)) 112 999999 41 [some (vh 0 0), some (vi x), some (vi t), some (vh 41 x), some (vh 39 g.toNat), some (vi 0), some (vi 0)] [] s = _ := f
    have hsum : w32 (V 60 x + w32 (fS (dS V g A T I x) (nP V)) - ffe V x t (fst (dM V g A T I) x)) = w32 (V 60 x + fS (dS V g A T I x) (nP V) - ffe V x t (fst (dM V g A T I) x)) := by
      rw [show V 60 x + w32 (fS (dS V g A T I x) (nP V)) - ffe V x t (fst (dM V g A T I) x) = (V 60 x - ffe V x t (fst (dM V g A T I) x)) + w32 (fS (dS V g A T I x) (nP V)) by omega, w32_add_r]
      congr 1
      omega
    rw [hg, f, show 999999 - nP V = 999999 - nP V - 1 + 1 by omega, tr_step (s_kX11_coinsAfter_41b _ x t x g.toNat (w32 (fS (dS V g A T I x) (nP V))) (nP V : Int) s), h.1.2.2.1, if_neg (by omega), ci_of (h.num (d := d + 2) hI hA hg), ci_of b2, h60, w32_sub_l, hsum, ← hdC]
    rfl
  · have hdC : dC V g A T I t x = V 60 x := if_neg (fun q => hp q.2)
    have hp' : fpl V x t = false := by simpa using hp
    rw [hp', if_pos rfl, hdC]
    exact ⟨σ, Sc.rf, rfl⟩
end
