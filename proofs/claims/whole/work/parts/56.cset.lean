-- the class's settle(): the row of coinsAfter() whose values are a game's
set_option maxRecDepth 1000000 in
theorem s_kX11_coinsAfter_41b (O : TO) (v1 : Int) (v2 : Int) (v3 : Nat) (v4 : Nat) (v5 : Int) (v6 : Int) (σ : TM) : t_seg tbl mtb O 112 1000 41 [some (vh 0 0), some (vi v1), some (vi v2), some (vh 41 v3), some (vh 39 v4), some (vi v5), some (vi v6)] [] σ = (if v6 < (σ 0 0 7) then (if 0 ≤ v6 ∧ v6 < 40 then (if (σ 17 v6.toNat 1) = v1 then (if 0 ≤ v6 ∧ v6 < 40 then (if (σ 7 0 v6.toNat) = (-1) then some (.inl (41, [some (vh 0 0), some (vi v1), some (vi v2), some (vh 41 v3), some (vh 39 v4), some (vi v5), some (vi (w32 (v6 + 1)))], [], σ)) else (if 0 ≤ v6 ∧ v6 < 40 then (if 0 ≤ (σ 7 0 v6.toNat) ∧ (σ 7 0 v6.toNat) < 48 then some (.inl (41, [some (vh 0 0), some (vi v1), some (vi v2), some (vh 41 v3), some (vh 39 v4), some (vi (w32 (v5 + (σ 39 v4 ((σ 7 0 v6.toNat).toNat))))), some (vi (w32 (v6 + 1)))], [], σ)) else none) else none)) else none) else some (.inl (41, [some (vh 0 0), some (vi v1), some (vi v2), some (vh 41 v3), some (vh 39 v4), some (vi v5), some (vi (w32 (v6 + 1)))], [], σ))) else none) else (t_calli (O 23 [vh 3 0, vi v1] σ) fun x1 s1 => (t_calli (O 87 [vh 0 0, vi v1, vi v2, vi x1] s1) fun x2 s2 => some (.inr (some (vi (w32 ((w32 ((σ 41 v3 1) + v5)) - x2))), s2))))) := rfl
section
variable {σ : TM} {V : TVw} {g : Int} {A T I : Nat → Int} {d : Nat}
theorem dM69 (hI : Inv V) {p : Nat} (hp : p < nP V) : dM V g A T I 69 p = 0 ↔ V 69 p = 0 ∧ mGn V g A T I p = false := by
  show (if p < nP V ∧ mGn V g A T I p = true then (1 : Int) else V 69 p) = 0 ↔ _
  by_cases q : mGn V g A T I p = true
  · rw [if_pos ⟨hp, q⟩]
    exact ⟨fun z => by omega, fun z => by rw [q] at z; cases z.2⟩
  · rw [if_neg (fun z => q z.2)]
    exact ⟨fun z => ⟨z, by simpa using q⟩, fun z => z.1⟩
set_option maxHeartbeats 4000000 in
theorem c_numberAfter (hI : Inv V) (hA : mVA V g A T) (h2 : σ 3 0 2 = ((mlist (mIn V g) (nP V)).length : Int)) (hm : ∀ m p, t_nth (mlist (mIn V g) (nP V)) m = some p → σ 5 0 m = p) (h7 : ∀ p, p < nP V → mIn V g p = true → σ 7 0 p = mAf V g A T I p) (h17 : ∀ p, p < nP V → σ 17 p 1 = V 65 p) {h : Nat} (hh : V 59 h = g) : t_run tbl mtb (d + 1) 23 [vh 3 0, vi h] σ = some (some (vi (fst (dM V g A T I) h)), σ) := by
  have h0 := hI.cnt
  have hM := mlist_le (mIn V g) (nP V)
  rw [run_go (k := 23) (as := [vh 3 0, vi h]) mt_23 (Nat.ne_of_beq_eq_false rfl) rfl (s_kX4_numberAfter_0 _ h σ), nx_inl]
  obtain ⟨c, s2, ⟨rfl, c2⟩, e2⟩ := loop_mem (O := t_run tbl mtb d) (kk := 23) (pc := 4) (n := nP V) (mIn V g) (fun m (c : Int) => [some (vh 3 0), some (vi h), some (vi c), some (vi (m : Int))]) (fun k c s => s = σ ∧ c = fS (fst1 (dM V g A T I) h) k) (by
    rintro k c s hk hP ⟨rfl, b2⟩
    refine ⟨rfl, ?_⟩
    rw [fS, b2]
    have : fst1 (dM V g A T I) h k = 0 := by
      unfold fst1
      rw [if_neg]
      rintro ⟨z1, z2⟩
      have z1 : V 65 k = (h : Int) := z1
      have z2 := ((dM69 hI hk).mp z2).1
      have : mIn V g k = true := by
        unfold mIn
        rw [decide_eq_true_eq]
        refine ⟨z2, ?_⟩
        unfold fgm
        rw [z1, Int.toNat_natCast, hh]
      rw [hP] at this
      cases this
    rw [this, Int.add_zero]) (by
    rintro k m c s hk hP hmm hml ⟨rfl, b2⟩
    have r5 : 0 ≤ (k : Int) ∧ (k : Int) < 40 := by omega
    have hcr : 0 ≤ fS (fst1 (dM V g A T I) h) k ∧ fS (fst1 (dM V g A T I) h) k ≤ k := by
      have := fS_count (P := fun p => decide (dM V g A T I 65 p = (h : Int) ∧ dM V g A T I 69 p = 0)) k
      have e : fS (fst1 (dM V g A T I) h) k = fS (fun p => if (fun p => decide (dM V g A T I 65 p = (h : Int) ∧ dM V g A T I 69 p = 0)) p = true then 1 else 0) k := fS_congr (fun p hp => by
        unfold fst1
        simp only [decide_eq_true_eq])
      rw [e]
      exact this
    have st := fun N => tr_step (n := N) (s_kX4_numberAfter_4 (t_run tbl mtb d) h c m s)
    simp only [Int.toNat_natCast, hm m k hmm, if_pos r5, h2, if_pos (show (m : Int) < ((mlist (mIn V g) (nP V)).length : Int) by omega), if_pos (show 0 ≤ (m : Int) ∧ (m : Int) < 40 by omega), w32_nat (show m < 2147483647 by omega), h17 k hk, h7 k hk hP] at st
    have hI9 : V 69 k = 0 := by
      unfold mIn at hP
      rw [decide_eq_true_eq] at hP
      exact hP.1
    by_cases z : V 65 k = (h : Int)
    · simp only [if_pos z] at st
      rcases mAf_r (I := I) hI hA hk hP with ⟨y1, y2⟩ | ⟨y1, y2, y3, y4⟩
      · simp only [if_pos y1] at st
        refine ⟨_, _, ⟨rfl, ?_⟩, st⟩
        rw [fS, b2]
        have : fst1 (dM V g A T I) h k = 0 := by
          unfold fst1
          rw [if_neg]
          rintro ⟨-, z2⟩
          rw [((dM69 hI hk).mp z2).2] at y2
          cases y2
        rw [this, Int.add_zero]
      · simp only [if_neg (show ¬ mAf V g A T I k = -1 by omega)] at st
        refine ⟨_, _, ⟨rfl, ?_⟩, st⟩
        rw [fS, b2, w32_id (by omega) (by omega)]
        have : fst1 (dM V g A T I) h k = 1 := by
          unfold fst1
          rw [if_pos]
          exact ⟨z, (dM69 hI hk).mpr ⟨hI9, y3⟩⟩
        rw [this]
    · simp only [if_neg z] at st
      refine ⟨_, _, ⟨rfl, ?_⟩, st⟩
      rw [fS, b2]
      have : fst1 (dM V g A T I) h k = 0 := by
        unfold fst1
        rw [if_neg (fun q => z q.1)]
      rw [this, Int.add_zero]) (a := 0) (s := σ) ⟨rfl, rfl⟩
  have f2 := e2 (999999 - (mlist (mIn V g) (nP V)).length)
  rw [Nat.sub_add_cancel (by omega)] at f2
  have f2 : t_tr tbl mtb (t_run tbl mtb d) 23 999999 4 [some (vh 3 0), some (vi h), some (vi 0), some (vi 0)] [] s2 = _ := f2
  rw [f2, show 999999 - (mlist (mIn V g) (nP V)).length = 999999 - (mlist (mIn V g) (nP V)).length - 1 + 1 by omega, tr_step (s_kX4_numberAfter_4 _ h c ((mlist (mIn V g) (nP V)).length : Int) s2), h2, if_neg (by omega), c2]
  rfl
end
