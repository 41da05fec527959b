-- the reference's goThrough(), whole
noncomputable def oI (V : TVw) (tw ta : Nat → Int) (t : Int) (p : Nat) : Int := fti V p (oT V tw ta t p) t
def srg (k j : Nat) : Bool := srm k j || (Nat.beq k 60 || (Nat.beq k 66 || Nat.beq k 69))
theorem srm_srg (k j : Nat) (h : srg k j = false) : srm k j = false := (Bool.or_eq_false_iff.mp h).1
theorem s6_srg (k j : Nat) (h : srg k j = false) : s6 k j = false := by
  have h := (Bool.or_eq_false_iff.mp h).2
  rw [Bool.or_eq_false_iff] at h
  exact h.2
theorem s7_srg (k j : Nat) (h : srg k j = false) : s7 k j = false := by
  have h1 := (Bool.or_eq_false_iff.mp h).1
  have h2 := (Bool.or_eq_false_iff.mp h).2
  unfold s7
  rw [s2_srm k j h1, Bool.false_or]
  rw [Bool.or_eq_false_iff] at h2
  rw [h2.1, Bool.false_or]
  unfold srm at h1
  rw [Bool.or_eq_false_iff, Bool.or_eq_false_iff, Bool.or_eq_false_iff] at h1
  exact h1.2.2.2
section
variable {σ : TM} {V : TVw} {g t : Int} {tw ta : Nat → Int} {d : Nat}
set_option maxHeartbeats 4000000 in
theorem r_goThrough (hV : RV σ V) (hI : Inv V) (hT : TW V g tw ta) (hS : TS σ V g tw ta) (hg : 0 ≤ g ∧ g < 3) : ∃ s, Sc srg σ s ∧ RV s (dN V g (oA V tw ta t) (oT V tw ta t) (oI V tw ta t) t) ∧ (∀ h, h < nH V → s 104 0 h = dF V g (oA V tw ta t) (oT V tw ta t) (oI V tw ta t) t h) ∧ (∀ p, p < nP V → s 99 0 p = mFf V g (oA V tw ta t) (oT V tw ta t) (oI V tw ta t) p ∧ s 100 0 p = if mIn V g p = true then oB V tw t p else -1) ∧ t_run tbl mtb (d + 73) 211 [vh 51 0, vi g, vi t, vi (V 51 0)] σ = some (none, s) := by
  have h0 := hI.cnt
  have hA := oVA (t := t) hI hT
  obtain ⟨s1, a1, a2, a3, a4⟩ := r_findOrders (d := d) (t := t) hV hI hT hS
  have v1 := hV.sc a1.rm
  obtain ⟨s2', b1, b2, b3, b4, b5, b6⟩ := r_findStrengths (d := d + 5) v1 hI hA hg a2 t
  have v2 := v1.sc b1.rm
  obtain ⟨s3, c1, c2, c3⟩ := r_findFailed (d := d + 68) (I := oI V tw ta t) v2 hI ⟨Sc.rf, b2, b3, b4, fun p => rfl⟩ (fun p hp => by rw [(b5 p).1]; exact (a3 p hp).1)
  have v3 := v2.sc c1.1.rm
  obtain ⟨s4, d1, d2, d3, d4, d5⟩ := r_go1 (d := d) (t := t) v3 hI c1.2.1 c2
  have v4 := v3.sc d1.rm
  obtain ⟨s5, e1, e2, e3, e4, e5⟩ := r_go2 (d := d) (t := t) v4 hI d2 d4
  have v5 := v4.sc e1.rm
  obtain ⟨s6', f1, f2, f3⟩ := r_go3 (d := d) (t := t) v5 hI hA e2 (fun p hp => by rw [(e3 p).2.2]; exact d4 p hp) e4
  obtain ⟨s7', g1, g2, g3, c, g4, g5⟩ := r_go4 (d := d) (t := t) f2 hI hA hg
  refine ⟨s7', ?_, g2, g3, fun p hp => ⟨?_, ?_⟩, ?_⟩
  · exact (((((a1.tr b1).tr c1.1).tr d1).tr e1).mono srm_srg).tr ((f1.mono s6_srg).tr (g1.mono s7_srg))
  · rw [g1 99 0 p rfl, f1 99 0 p rfl, (e3 p).1, (d3 p).1, c2 p hp]
  · rw [g1 100 0 p rfl, f1 100 0 p rfl, (e3 p).2.1, (d3 p).2, c1.2.2.2.2 p, (b5 p).2, (a3 p hp).2]
  · have hb : nP V * (nP V + 2) ≤ 40 * 42 := Nat.mul_le_mul (by omega) (by omega)
    have hb2 : nH V * (nP V + 2) ≤ 12 * 42 := Nat.mul_le_mul (by omega) (by omega)
    obtain ⟨N, hN⟩ : ∃ N, 999999 = N + 1 + c + 1 + nP V + 1 + nP V * (nP V + 2) + 1 + nP V := ⟨999999 - (c + nP V + nP V * (nP V + 2) + nP V + 4), by omega⟩
    have q4 : s4 51 0 23 = V 51 23 := v4 51 23 rfl rfl rfl
    have q5 : s5 51 0 23 = V 51 23 := v5 51 23 rfl rfl rfl
    have q6 : s6' 51 0 23 = V 51 23 := f2 51 23 rfl rfl rfl
    have q7 : s7' 51 0 15 = V 51 15 := g2 51 15 rfl rfl rfl
    rw [run_go (k := 211) (as := [vh 51 0, vi g, vi t, vi (V 51 0)]) mt_211 (Nat.ne_of_beq_eq_false rfl) rfl (s_kX12_goThrough_0 _ g t (V 51 0) σ), cv_of a4, cv_of b6, cv_of c3, nx_inl, hN, d5, tr_step (s_kX12_goThrough_22 _ g t (V 51 0) (nP V : Int) s4), q4, if_neg (by omega), nx_inl, e5, tr_step (s_kX12_goThrough_72 _ g t (V 51 0) (nP V : Int) s5), q5, if_neg (by omega), nx_inl, f3, tr_step (s_kX12_goThrough_187 _ g t (V 51 0) (nP V : Int) s6'), q6, if_neg (by omega), nx_inl, g5, tr_step (s_kX12_goThrough_282 _ g t (V 51 0) (nH V : Int) s7'), q7, if_neg (by omega)]
    rfl
end
