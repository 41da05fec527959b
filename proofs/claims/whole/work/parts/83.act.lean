-- act(): both sides
/-- a body has run -/
def tA (V : TVw) (b : Int) : TVw := vu (if V 51 80 < 24 then vu V 114 (V 51 80).toNat b else V) 51 80 (V 51 80 + 1)
def tAs (V : TVw) (l : List Int) : TVw := l.foldl tA V
theorem tA_80 (V : TVw) (b : Int) : tA V b 51 80 = V 51 80 + 1 := vu_same
theorem tA_o {V : TVw} {b : Int} {k j : Nat} (h : k ≠ 114) (h2 : ¬ (k = 51 ∧ j = 80)) : tA V b k j = V k j := by
  unfold tA
  rw [vu_r, if_neg h2]
  split
  · exact vu_k h
  · rfl
theorem tAs_80 : ∀ (l : List Int) (V : TVw), tAs V l 51 80 = V 51 80 + (l.length : Int)
  | [], V => by simp [tAs]
  | b :: l, V => by
    show tAs (tA V b) l 51 80 = _
    rw [tAs_80 l, tA_80, List.length_cons]
    omega
theorem tAs_o {k j : Nat} (h : k ≠ 114) (h2 : ¬ (k = 51 ∧ j = 80)) : ∀ (l : List Int) (V : TVw), tAs V l k j = V k j
  | [], V => rfl
  | b :: l, V => by
    show tAs (tA V b) l k j = _
    rw [tAs_o h h2 l, tA_o h h2]
theorem tAs_app (V : TVw) (l m : List Int) : tAs V (l ++ m) = tAs (tAs V l) m := List.foldl_append
theorem tAs_cons (V : TVw) (b : Int) (l : List Int) : tAs V (b :: l) = tAs (tA V b) l := rfl
def mnL (k : Int) : List Int := if k = 0 then [1] else if k = 4 then [50, 20, 1] else if k = 6 then [70, 20, 1] else [20, 1]
noncomputable def mnX (o p w k x : Int) : Int := if k = 0 then w32 (x + o) else if k = 4 then w32 (w32 (w32 (x + o) + p) * 3) else if k = 6 then w32 (w32 (w32 (x + o) + p) - w) else w32 (w32 (x + o) + p)
def clL (K k : Int) : List Int := if k = 3 then 40 :: 10 :: mnL K else if k = 5 then 60 :: 40 :: 10 :: mnL K else 10 :: mnL K
noncomputable def clX (o p w K k x : Int) : Int := if k = 3 then w32 (w32 (mnX o p w K x * 2) - 1) else if k = 5 then w32 (-(w32 (w32 (mnX o p w K x * 2) - 1))) else w32 (mnX o p w K x * 2)
def hdL (K k : Int) : List Int := if k = 2 then 30 :: 11 :: mnL K else if k = 5 then [61, 11] else [11]
noncomputable def hdX (o p w K k x : Int) : Int := if k = 2 then w32 (i_xor x o + mnX o p w K 2) else if k = 5 then i_xor (i_xor x o) 9 else i_xor x o
def enL (K k : Int) : List Int := if k = 3 ∨ k = 5 then 41 :: 2 :: (clL K K ++ hdL K K) else 2 :: (clL K K ++ hdL K K)
noncomputable def enX (o p w K k x : Int) : Int := if k = 3 ∨ k = 5 then w32 (clX o p w K K (w32 (x + 1)) - hdX o p w K K 1) else w32 (clX o p w K K x - hdX o p w K K 1)
theorem mnL_len (k : Int) : (mnL k).length ≤ 3 := by
  unfold mnL
  (repeat' split) <;> simp
theorem clL_len (K k : Int) : (clL K k).length ≤ 6 := by
  have := mnL_len K
  unfold clL
  (repeat' split) <;> simp <;> omega
theorem hdL_len (K k : Int) : (hdL K k).length ≤ 5 := by
  have := mnL_len K
  unfold hdL
  (repeat' split) <;> simp <;> omega
/-- the class's acts stand for the trace of V -/
def CA (σ : TM) (V : TVw) (o p w K : Int) : Prop := σ 35 0 1 = V 51 80 ∧ (∀ i : Nat, i < 24 → (i : Int) < V 51 80 → σ 36 0 i = V 114 i) ∧ σ 35 0 2 = o ∧ σ 35 0 3 = p ∧ σ 35 0 4 = w ∧ σ 35 0 5 = K
def FA (σ σ' : TM) : Prop := ∀ k i j, ¬ (k = 35 ∧ j = 1 ∨ k = 36) → σ' k i j = σ k i j
/-- the reference's rows stand for V, order o at hand -/
def RA (σ : TM) (V : TVw) (o p w K : Int) : Prop := RV σ V ∧ σ 51 0 81 = o ∧ σ 87 0 o.toNat = K ∧ σ 89 0 o.toNat = p ∧ σ 90 0 o.toNat = w ∧ 0 ≤ o ∧ o < 300
theorem FA.rf {σ : TM} : FA σ σ := fun _ _ _ _ => rfl
theorem FA.tr {σ σ1 σ2 : TM} (h : FA σ σ1) (h2 : FA σ1 σ2) : FA σ σ2 := fun k i j q => (h2 k i j q).trans (h k i j q)
section
variable {σ : TM} {V : TVw} {o p w K : Int} {d : Nat}
theorem tA_114 {i : Nat} (h0 : 0 ≤ V 51 80) (b : Int) (hi : i < 24) : tA V b 114 i = if (i : Int) = V 51 80 then b else V 114 i := by
  unfold tA
  rw [vu_k (by decide)]
  by_cases e : V 51 80 < 24
  · rw [if_pos e, vu_r]
    by_cases z : i = (V 51 80).toNat
    · rw [if_pos ⟨rfl, z⟩, if_pos (by omega)]
    · rw [if_neg (fun q => z q.2), if_neg (by omega)]
  · rw [if_neg e, if_neg (by omega)]
theorem c_began (h : CA σ V o p w K) (h0 : 0 ≤ V 51 80) (h1 : V 51 80 < 1000) (b : Int) : ∃ s, FA σ s ∧ CA s (tA V b) o p w K ∧ t_run tbl mtb (d + 1) 2 [vh 35 0, vi b] σ = some (none, s) := by
  obtain ⟨a1, a2, a3, a4, a5, a6⟩ := h
  have ew : w32 (V 51 80 + 1) = V 51 80 + 1 := w32_id (by omega) (by omega)
  by_cases e : V 51 80 < 24
  · have r : 0 ≤ V 51 80 ∧ V 51 80 < 24 := ⟨h0, e⟩
    have g : ∀ j, j ≠ 1 → t_upd (t_upd σ 36 0 (V 51 80).toNat b) 35 0 1 (V 51 80 + 1) 35 0 j = σ 35 0 j := fun j hj => by rw [up_j hj, up_k (show (35 : Nat) ≠ 36 by decide)]
    refine ⟨t_upd (t_upd σ 36 0 (V 51 80).toNat b) 35 0 1 (V 51 80 + 1), fun k i j q => ?_, ⟨?_, fun i hi hv => ?_, ?_, ?_, ?_, ?_⟩, ?_⟩
    · rw [t_upd_eq, if_neg (fun z => q (.inl ⟨z.1, z.2.2⟩)), t_upd_eq, if_neg (fun z => q (.inr z.1))]
    · rw [up_same, tA_80]
    · rw [tA_80] at hv
      rw [up_k (show (36 : Nat) ≠ 35 by decide), tA_114 h0 b hi]
      by_cases z : (i : Int) = V 51 80
      · rw [if_pos z, show (V 51 80).toNat = i by omega, up_same]
      · rw [if_neg z, up_j (by omega)]
        exact a2 i hi (by omega)
    · rw [g 2 (by decide)]; exact a3
    · rw [g 3 (by decide)]; exact a4
    · rw [g 4 (by decide)]; exact a5
    · rw [g 5 (by decide)]; exact a6
    · rw [run_go (k := 2) (as := [vh 35 0, vi b]) mt_2 (Nat.ne_of_beq_eq_false rfl) rfl (s_kX0_began_0 _ b σ)]
      simp only [a1, up_k (show (35 : Nat) ≠ 36 by decide), ew, if_pos e, if_pos r]
      rfl
  · refine ⟨t_upd σ 35 0 1 (V 51 80 + 1), fun k i j q => ?_, ⟨?_, fun i hi hv => ?_, ?_, ?_, ?_, ?_⟩, ?_⟩
    · rw [t_upd_eq, if_neg (fun z => q (.inl ⟨z.1, z.2.2⟩))]
    · rw [up_same, tA_80]
    · rw [up_k (show (36 : Nat) ≠ 35 by decide), tA_114 h0 b hi, if_neg (by omega)]
      exact a2 i hi (by omega)
    · rw [up_j (show (2 : Nat) ≠ 1 by decide)]; exact a3
    · rw [up_j (show (3 : Nat) ≠ 1 by decide)]; exact a4
    · rw [up_j (show (4 : Nat) ≠ 1 by decide)]; exact a5
    · rw [up_j (show (5 : Nat) ≠ 1 by decide)]; exact a6
    · rw [run_go (k := 2) (as := [vh 35 0, vi b]) mt_2 (Nat.ne_of_beq_eq_false rfl) rfl (s_kX0_began_0 _ b σ)]
      simp only [a1, ew, if_neg e]
      rfl
theorem r_ran (h : RA σ V o p w K) (h0 : 0 ≤ V 51 80) (h1 : V 51 80 < 1000) (b : Int) : ∃ s, FR σ s ∧ RA s (tA V b) o p w K ∧ t_run tbl mtb (d + 1) 230 [vh 51 0, vi b] σ = some (none, s) := by
  obtain ⟨hV, a1, a2, a3, a4, a5⟩ := h
  have ew : w32 (V 51 80 + 1) = V 51 80 + 1 := w32_id (by omega) (by omega)
  have q80 : σ 51 0 80 = V 51 80 := hV 51 80 rfl rfl rfl
  by_cases e : V 51 80 < 24
  · have r : 0 ≤ V 51 80 ∧ V 51 80 < 24 := ⟨h0, e⟩
    have et : tA V b = vu (vu V 114 (V 51 80).toNat b) 51 80 (V 51 80 + 1) := by
      unfold tA
      rw [if_pos e]
    refine ⟨t_upd (t_upd σ 114 0 (V 51 80).toNat b) 51 0 80 (V 51 80 + 1), (FR.rf.up rfl).up rfl, ⟨by rw [et]; exact hV.up.up, ?_, ?_, ?_, ?_, a5⟩, ?_⟩
    · rw [up_j (show (81 : Nat) ≠ 80 by decide), up_k (show (51 : Nat) ≠ 114 by decide)]; exact a1
    · rw [up_k (show (87 : Nat) ≠ 51 by decide), up_k (show (87 : Nat) ≠ 114 by decide)]; exact a2
    · rw [up_k (show (89 : Nat) ≠ 51 by decide), up_k (show (89 : Nat) ≠ 114 by decide)]; exact a3
    · rw [up_k (show (90 : Nat) ≠ 51 by decide), up_k (show (90 : Nat) ≠ 114 by decide)]; exact a4
    · rw [run_go (k := 230) (as := [vh 51 0, vi b]) mt_230 (Nat.ne_of_beq_eq_false rfl) rfl (s_kX12_ranBody_0 _ b σ)]
      simp only [q80, up_k (show (51 : Nat) ≠ 114 by decide), ew, if_pos e, if_pos r]
      rfl
  · have et : tA V b = vu V 51 80 (V 51 80 + 1) := by
      unfold tA
      rw [if_neg e]
    refine ⟨t_upd σ 51 0 80 (V 51 80 + 1), FR.rf.up rfl, ⟨by rw [et]; exact hV.up, ?_, ?_, ?_, ?_, a5⟩, ?_⟩
    · rw [up_j (show (81 : Nat) ≠ 80 by decide)]; exact a1
    · rw [up_k (show (87 : Nat) ≠ 51 by decide)]; exact a2
    · rw [up_k (show (89 : Nat) ≠ 51 by decide)]; exact a3
    · rw [up_k (show (90 : Nat) ≠ 51 by decide)]; exact a4
    · rw [run_go (k := 230) (as := [vh 51 0, vi b]) mt_230 (Nat.ne_of_beq_eq_false rfl) rfl (s_kX12_ranBody_0 _ b σ)]
      simp only [q80, ew, if_neg e]
      rfl
theorem c_mean0 (h : CA σ V o p w K) (h0 : 0 ≤ V 51 80) (h1 : V 51 80 < 1000) (x : Int) : ∃ s, FA σ s ∧ CA s (tAs V [1]) o p w K ∧ t_run tbl mtb (d + 2) 4 [vh 35 0, vi 0, vi x] σ = some (some (vi (w32 (x + o))), s) := by
  obtain ⟨s, a1, a2, a3⟩ := c_began (d := d) h h0 h1 1
  refine ⟨s, a1, a2, ?_⟩
  rw [run_go (k := 4) (as := [vh 35 0, vi 0, vi x]) mt_4 (Nat.ne_of_beq_eq_false rfl) rfl (s_kX0_means_0 _ 0 x σ), if_pos rfl, cv_of a3, a2.2.2.1]
  rfl
theorem c_mean1 (h : CA σ V o p w K) (h0 : 0 ≤ V 51 80) (h1 : V 51 80 + 2 ≤ 1000) {k : Int} (hk : k ≠ 0 ∧ k ≠ 4 ∧ k ≠ 6) (x : Int) : ∃ s, FA σ s ∧ CA s (tAs V [20, 1]) o p w K ∧ t_run tbl mtb (d + 3) 4 [vh 35 0, vi k, vi x] σ = some (some (vi (w32 (w32 (x + o) + p))), s) := by
  obtain ⟨s, a1, a2, a3⟩ := c_began (d := d + 1) h h0 (by omega) 20
  obtain ⟨s', b1, b2, b3⟩ := c_mean0 (d := d) a2 (by rw [tA_80]; omega) (by rw [tA_80]; omega) x
  refine ⟨s', a1.tr b1, b2, ?_⟩
  rw [run_go (k := 4) (as := [vh 35 0, vi k, vi x]) mt_4 (Nat.ne_of_beq_eq_false rfl) rfl (s_kX0_means_0 _ k x σ), if_neg hk.1, if_neg hk.2.1, if_neg hk.2.2, cv_of a3, ci_of b3, b2.2.2.2.1]
  rfl
theorem c_means (h : CA σ V o p w K) (h0 : 0 ≤ V 51 80) (h1 : V 51 80 + 3 ≤ 1000) (k x : Int) : ∃ s, FA σ s ∧ CA s (tAs V (mnL k)) o p w K ∧ t_run tbl mtb (d + 4) 4 [vh 35 0, vi k, vi x] σ = some (some (vi (mnX o p w k x)), s) := by
  unfold mnL mnX
  by_cases k0 : k = 0
  · subst k0
    rw [if_pos rfl, if_pos rfl]
    exact c_mean0 (d := d + 2) h h0 (by omega) x
  · rw [if_neg k0, if_neg k0]
    by_cases k4 : k = 4
    · subst k4
      obtain ⟨s, a1, a2, a3⟩ := c_began (d := d + 2) h h0 (by omega) 50
      obtain ⟨s', b1, b2, b3⟩ := c_mean1 (d := d) a2 (by rw [tA_80]; omega) (by rw [tA_80]; omega) (k := 1) (by decide) x
      rw [if_pos rfl, if_pos rfl]
      refine ⟨s', a1.tr b1, b2, ?_⟩
      rw [run_go (k := 4) (as := [vh 35 0, vi 4, vi x]) mt_4 (Nat.ne_of_beq_eq_false rfl) rfl (s_kX0_means_0 _ 4 x σ), if_neg (by decide), if_pos rfl, cv_of a3, ci_of b3]
      rfl
    · rw [if_neg k4, if_neg k4]
      by_cases k6 : k = 6
      · subst k6
        obtain ⟨s, a1, a2, a3⟩ := c_began (d := d + 2) h h0 (by omega) 70
        obtain ⟨s', b1, b2, b3⟩ := c_mean1 (d := d) a2 (by rw [tA_80]; omega) (by rw [tA_80]; omega) (k := 1) (by decide) x
        rw [if_pos rfl, if_pos rfl]
        refine ⟨s', a1.tr b1, b2, ?_⟩
        rw [run_go (k := 4) (as := [vh 35 0, vi 6, vi x]) mt_4 (Nat.ne_of_beq_eq_false rfl) rfl (s_kX0_means_0 _ 6 x σ), if_neg (by decide), if_neg (by decide), if_pos rfl, cv_of a3, ci_of b3, b2.2.2.2.2.1]
        rfl
      · rw [if_neg k6, if_neg k6]
        exact c_mean1 (d := d + 1) h h0 (by omega) ⟨k0, k4, k6⟩ x
theorem r_mean0 (h : RA σ V o p w K) (h0 : 0 ≤ V 51 80) (h1 : V 51 80 < 1000) (x : Int) : ∃ s, FR σ s ∧ RA s (tAs V [1]) o p w K ∧ t_run tbl mtb (d + 2) 231 [vh 51 0, vi 0, vi x] σ = some (some (vi (w32 (x + o))), s) := by
  obtain ⟨s, a1, a2, a3⟩ := r_ran (d := d) h h0 h1 1
  refine ⟨s, a1, a2, ?_⟩
  rw [run_go (k := 231) (as := [vh 51 0, vi 0, vi x]) mt_231 (Nat.ne_of_beq_eq_false rfl) rfl (s_kX12_means_0 _ 0 x σ), if_pos rfl, cv_of a3, a2.2.1]
  rfl
theorem r_mean1 (h : RA σ V o p w K) (h0 : 0 ≤ V 51 80) (h1 : V 51 80 + 2 ≤ 1000) (x : Int) : ∃ s, FR σ s ∧ RA s (tAs V [20, 1]) o p w K ∧ t_run tbl mtb (d + 3) 231 [vh 51 0, vi 1, vi x] σ = some (some (vi (w32 (w32 (x + o) + p))), s) := by
  obtain ⟨s, a1, a2, a3⟩ := r_ran (d := d + 1) h h0 (by omega) 20
  obtain ⟨s', b1, b2, b3⟩ := r_mean0 (d := d) a2 (by rw [tA_80]; omega) (by rw [tA_80]; omega) x
  refine ⟨s', a1.tr b1, b2, ?_⟩
  rw [run_go (k := 231) (as := [vh 51 0, vi 1, vi x]) mt_231 (Nat.ne_of_beq_eq_false rfl) rfl (s_kX12_means_0 _ 1 x σ), if_neg (by decide), if_pos rfl, cv_of a3, ci_of (r_above (d := d + 1) 1), show fup 1 = 0 from rfl, ci_of b3, b2.2.1, if_pos ⟨b2.2.2.2.2.2.1, b2.2.2.2.2.2.2⟩, b2.2.2.2.1]
  rfl
theorem r_means (h : RA σ V o p w K) (h0 : 0 ≤ V 51 80) (h1 : V 51 80 + 3 ≤ 1000) {k : Int} (hk : 0 ≤ k ∧ k ≤ 6) (x : Int) : ∃ s, FR σ s ∧ RA s (tAs V (mnL k)) o p w K ∧ t_run tbl mtb (d + 6) 231 [vh 51 0, vi k, vi x] σ = some (some (vi (mnX o p w k x)), s) := by
  rcases (by omega : k = 0 ∨ k = 1 ∨ k = 2 ∨ k = 3 ∨ k = 4 ∨ k = 5 ∨ k = 6) with rfl | rfl | rfl | rfl | rfl | rfl | rfl
  · exact r_mean0 (d := d + 4) h h0 (by omega) x
  · exact r_mean1 (d := d + 3) h h0 (by omega) x
  · obtain ⟨s, a1, a2, a3⟩ := r_mean1 (d := d + 2) h h0 (by omega) x
    refine ⟨s, a1, a2, ?_⟩
    rw [run_go (k := 231) (as := [vh 51 0, vi 2, vi x]) mt_231 (Nat.ne_of_beq_eq_false rfl) rfl (s_kX12_means_0 _ 2 x σ), if_neg (by decide), if_neg (by decide), if_pos rfl, ci_of (r_above (d := d + 4) 2), show fup 2 = 1 from rfl, ci_of a3]
    rfl
  · obtain ⟨s, a1, a2, a3⟩ := r_mean1 (d := d + 2) h h0 (by omega) x
    refine ⟨s, a1, a2, ?_⟩
    rw [run_go (k := 231) (as := [vh 51 0, vi 3, vi x]) mt_231 (Nat.ne_of_beq_eq_false rfl) rfl (s_kX12_means_0 _ 3 x σ), if_neg (by decide), if_neg (by decide), if_neg (by decide), if_pos rfl, ci_of (r_above (d := d + 4) 3), show fup 3 = 1 from rfl, ci_of a3]
    rfl
  · obtain ⟨s, a1, a2, a3⟩ := r_ran (d := d + 4) h h0 (by omega) 50
    obtain ⟨s', b1, b2, b3⟩ := r_mean1 (d := d + 2) a2 (by rw [tA_80]; omega) (by rw [tA_80]; omega) x
    refine ⟨s', a1.tr b1, b2, ?_⟩
    rw [run_go (k := 231) (as := [vh 51 0, vi 4, vi x]) mt_231 (Nat.ne_of_beq_eq_false rfl) rfl (s_kX12_means_0 _ 4 x σ), if_neg (by decide), if_neg (by decide), if_neg (by decide), if_neg (by decide), if_pos rfl, cv_of a3, ci_of (r_above (d := d + 4) 4), show fup 4 = 1 from rfl, ci_of b3]
    rfl
  · obtain ⟨s, a1, a2, a3⟩ := r_mean1 (d := d + 1) h h0 (by omega) x
    have e3 : t_run tbl mtb (d + 5) 231 [vh 51 0, vi 3, vi x] σ = some (some (vi (w32 (w32 (x + o) + p))), s) := by
      rw [run_go (k := 231) (as := [vh 51 0, vi 3, vi x]) mt_231 (Nat.ne_of_beq_eq_false rfl) rfl (s_kX12_means_0 _ 3 x σ), if_neg (by decide), if_neg (by decide), if_neg (by decide), if_pos rfl, ci_of (r_above (d := d + 3) 3), show fup 3 = 1 from rfl, ci_of a3]
      rfl
    refine ⟨s, a1, a2, ?_⟩
    rw [run_go (k := 231) (as := [vh 51 0, vi 5, vi x]) mt_231 (Nat.ne_of_beq_eq_false rfl) rfl (s_kX12_means_0 _ 5 x σ), if_neg (by decide), if_neg (by decide), if_neg (by decide), if_neg (by decide), if_neg (by decide), if_pos rfl, ci_of (r_above (d := d + 4) 5), show fup 5 = 3 from rfl, ci_of e3]
    rfl
  · obtain ⟨s, a1, a2, a3⟩ := r_ran (d := d + 4) h h0 (by omega) 70
    obtain ⟨s', b1, b2, b3⟩ := r_mean1 (d := d + 2) a2 (by rw [tA_80]; omega) (by rw [tA_80]; omega) x
    refine ⟨s', a1.tr b1, b2, ?_⟩
    rw [run_go (k := 231) (as := [vh 51 0, vi 6, vi x]) mt_231 (Nat.ne_of_beq_eq_false rfl) rfl (s_kX12_means_0 _ 6 x σ), if_neg (by decide), if_neg (by decide), if_neg (by decide), if_neg (by decide), if_neg (by decide), if_neg (by decide), if_pos rfl, cv_of a3, ci_of (r_above (d := d + 4) 6), show fup 6 = 1 from rfl, ci_of b3, b2.2.1, if_pos ⟨b2.2.2.2.2.2.1, b2.2.2.2.2.2.2⟩, b2.2.2.2.2.1]
    rfl
-- clashes
theorem c_clash0 (h : CA σ V o p w K) (h0 : 0 ≤ V 51 80) (h1 : V 51 80 + 4 ≤ 1000) {k : Int} (hk : k ≠ 3 ∧ k ≠ 5) (x : Int) : ∃ s, FA σ s ∧ CA s (tAs V (10 :: mnL K)) o p w K ∧ t_run tbl mtb (d + 5) 5 [vh 35 0, vi k, vi x] σ = some (some (vi (w32 (mnX o p w K x * 2))), s) := by
  obtain ⟨s, a1, a2, a3⟩ := c_began (d := d + 3) h h0 (by omega) 10
  obtain ⟨s', b1, b2, b3⟩ := c_means (d := d) a2 (by rw [tA_80]; omega) (by rw [tA_80]; omega) K x
  refine ⟨s', a1.tr b1, b2, ?_⟩
  rw [run_go (k := 5) (as := [vh 35 0, vi k, vi x]) mt_5 (Nat.ne_of_beq_eq_false rfl) rfl (s_kX0_clashes_0 _ k x σ), if_neg hk.1, if_neg hk.2, cv_of a3, a2.2.2.2.2.2, ci_of b3]
  rfl
theorem c_clash3 (h : CA σ V o p w K) (h0 : 0 ≤ V 51 80) (h1 : V 51 80 + 5 ≤ 1000) (x : Int) : ∃ s, FA σ s ∧ CA s (tAs V (40 :: 10 :: mnL K)) o p w K ∧ t_run tbl mtb (d + 6) 5 [vh 35 0, vi 3, vi x] σ = some (some (vi (w32 (w32 (mnX o p w K x * 2) - 1))), s) := by
  obtain ⟨s, a1, a2, a3⟩ := c_began (d := d + 4) h h0 (by omega) 40
  obtain ⟨s', b1, b2, b3⟩ := c_clash0 (d := d) a2 (by rw [tA_80]; omega) (by rw [tA_80]; omega) (k := 1) (by decide) x
  refine ⟨s', a1.tr b1, b2, ?_⟩
  rw [run_go (k := 5) (as := [vh 35 0, vi 3, vi x]) mt_5 (Nat.ne_of_beq_eq_false rfl) rfl (s_kX0_clashes_0 _ 3 x σ), if_pos rfl, cv_of a3, ci_of b3]
  rfl
theorem c_clashes (h : CA σ V o p w K) (h0 : 0 ≤ V 51 80) (h1 : V 51 80 + 6 ≤ 1000) (k x : Int) : ∃ s, FA σ s ∧ CA s (tAs V (clL K k)) o p w K ∧ t_run tbl mtb (d + 7) 5 [vh 35 0, vi k, vi x] σ = some (some (vi (clX o p w K k x)), s) := by
  unfold clL clX
  by_cases k3 : k = 3
  · subst k3
    rw [if_pos rfl, if_pos rfl]
    exact c_clash3 (d := d + 1) h h0 (by omega) x
  · rw [if_neg k3, if_neg k3]
    by_cases k5 : k = 5
    · subst k5
      obtain ⟨s, a1, a2, a3⟩ := c_began (d := d + 5) h h0 (by omega) 60
      obtain ⟨s', b1, b2, b3⟩ := c_clash3 (d := d) a2 (by rw [tA_80]; omega) (by rw [tA_80]; omega) x
      rw [if_pos rfl, if_pos rfl]
      refine ⟨s', a1.tr b1, b2, ?_⟩
      rw [run_go (k := 5) (as := [vh 35 0, vi 5, vi x]) mt_5 (Nat.ne_of_beq_eq_false rfl) rfl (s_kX0_clashes_0 _ 5 x σ), if_neg (by decide), if_pos rfl, cv_of a3, ci_of b3]
      rfl
    · rw [if_neg k5, if_neg k5]
      exact c_clash0 (d := d + 2) h h0 (by omega) ⟨k3, k5⟩ x
theorem r_clash0 (h : RA σ V o p w K) (hK : 0 ≤ K ∧ K ≤ 6) (h0 : 0 ≤ V 51 80) (h1 : V 51 80 + 4 ≤ 1000) (x : Int) : ∃ s, FR σ s ∧ RA s (tAs V (10 :: mnL K)) o p w K ∧ t_run tbl mtb (d + 7) 232 [vh 51 0, vi 0, vi x] σ = some (some (vi (w32 (mnX o p w K x * 2))), s) := by
  obtain ⟨s, a1, a2, a3⟩ := r_ran (d := d + 5) h h0 (by omega) 10
  obtain ⟨s', b1, b2, b3⟩ := r_means (d := d) a2 (by rw [tA_80]; omega) (by rw [tA_80]; omega) hK x
  refine ⟨s', a1.tr b1, b2, ?_⟩
  rw [run_go (k := 232) (as := [vh 51 0, vi 0, vi x]) mt_232 (Nat.ne_of_beq_eq_false rfl) rfl (s_kX12_clashes_0 _ 0 x σ), if_pos rfl, cv_of a3, a2.2.1, if_pos ⟨a2.2.2.2.2.2.1, a2.2.2.2.2.2.2⟩, a2.2.2.1, ci_of b3]
  rfl
theorem r_clash1 (h : RA σ V o p w K) (hK : 0 ≤ K ∧ K ≤ 6) (h0 : 0 ≤ V 51 80) (h1 : V 51 80 + 4 ≤ 1000) (x : Int) : ∃ s, FR σ s ∧ RA s (tAs V (10 :: mnL K)) o p w K ∧ t_run tbl mtb (d + 8) 232 [vh 51 0, vi 1, vi x] σ = some (some (vi (w32 (mnX o p w K x * 2))), s) := by
  obtain ⟨s, a1, a2, a3⟩ := r_clash0 (d := d) h hK h0 h1 x
  refine ⟨s, a1, a2, ?_⟩
  rw [run_go (k := 232) (as := [vh 51 0, vi 1, vi x]) mt_232 (Nat.ne_of_beq_eq_false rfl) rfl (s_kX12_clashes_0 _ 1 x σ), if_neg (by decide), if_neg (by decide), if_neg (by decide), ci_of (r_above (d := d + 6) 1), show fup 1 = 0 from rfl, ci_of a3]
  rfl
theorem r_clash3 (h : RA σ V o p w K) (hK : 0 ≤ K ∧ K ≤ 6) (h0 : 0 ≤ V 51 80) (h1 : V 51 80 + 5 ≤ 1000) (x : Int) : ∃ s, FR σ s ∧ RA s (tAs V (40 :: 10 :: mnL K)) o p w K ∧ t_run tbl mtb (d + 9) 232 [vh 51 0, vi 3, vi x] σ = some (some (vi (w32 (w32 (mnX o p w K x * 2) - 1))), s) := by
  obtain ⟨s, a1, a2, a3⟩ := r_ran (d := d + 7) h h0 (by omega) 40
  obtain ⟨s', b1, b2, b3⟩ := r_clash1 (d := d) a2 hK (by rw [tA_80]; omega) (by rw [tA_80]; omega) x
  refine ⟨s', a1.tr b1, b2, ?_⟩
  rw [run_go (k := 232) (as := [vh 51 0, vi 3, vi x]) mt_232 (Nat.ne_of_beq_eq_false rfl) rfl (s_kX12_clashes_0 _ 3 x σ), if_neg (by decide), if_pos rfl, cv_of a3, ci_of (r_above (d := d + 7) 3), show fup 3 = 1 from rfl, ci_of b3]
  rfl
theorem r_clashes (h : RA σ V o p w K) (hK : 0 ≤ K ∧ K ≤ 6) (h0 : 0 ≤ V 51 80) (h1 : V 51 80 + 6 ≤ 1000) {k : Int} (hk : 1 ≤ k ∧ k ≤ 6) (x : Int) : ∃ s, FR σ s ∧ RA s (tAs V (clL K k)) o p w K ∧ t_run tbl mtb (d + 10) 232 [vh 51 0, vi k, vi x] σ = some (some (vi (clX o p w K k x)), s) := by
  rcases (by omega : k = 1 ∨ k = 2 ∨ k = 3 ∨ k = 4 ∨ k = 5 ∨ k = 6) with rfl | rfl | rfl | rfl | rfl | rfl
  · exact r_clash1 (d := d + 2) h hK h0 (by omega) x
  · obtain ⟨s, a1, a2, a3⟩ := r_clash1 (d := d + 1) h hK h0 (by omega) x
    refine ⟨s, a1, a2, ?_⟩
    rw [run_go (k := 232) (as := [vh 51 0, vi 2, vi x]) mt_232 (Nat.ne_of_beq_eq_false rfl) rfl (s_kX12_clashes_0 _ 2 x σ), if_neg (by decide), if_neg (by decide), if_neg (by decide), ci_of (r_above (d := d + 8) 2), show fup 2 = 1 from rfl, ci_of a3]
    rfl
  · exact r_clash3 (d := d + 1) h hK h0 (by omega) x
  · obtain ⟨s, a1, a2, a3⟩ := r_clash1 (d := d + 1) h hK h0 (by omega) x
    refine ⟨s, a1, a2, ?_⟩
    rw [run_go (k := 232) (as := [vh 51 0, vi 4, vi x]) mt_232 (Nat.ne_of_beq_eq_false rfl) rfl (s_kX12_clashes_0 _ 4 x σ), if_neg (by decide), if_neg (by decide), if_neg (by decide), ci_of (r_above (d := d + 8) 4), show fup 4 = 1 from rfl, ci_of a3]
    rfl
  · obtain ⟨s, a1, a2, a3⟩ := r_ran (d := d + 8) h h0 (by omega) 60
    obtain ⟨s', b1, b2, b3⟩ := r_clash3 (d := d) a2 hK (by rw [tA_80]; omega) (by rw [tA_80]; omega) x
    refine ⟨s', a1.tr b1, b2, ?_⟩
    rw [run_go (k := 232) (as := [vh 51 0, vi 5, vi x]) mt_232 (Nat.ne_of_beq_eq_false rfl) rfl (s_kX12_clashes_0 _ 5 x σ), if_neg (by decide), if_neg (by decide), if_pos rfl, cv_of a3, ci_of (r_above (d := d + 8) 5), show fup 5 = 3 from rfl, ci_of b3]
    rfl
  · obtain ⟨s, a1, a2, a3⟩ := r_clash1 (d := d + 1) h hK h0 (by omega) x
    refine ⟨s, a1, a2, ?_⟩
    rw [run_go (k := 232) (as := [vh 51 0, vi 6, vi x]) mt_232 (Nat.ne_of_beq_eq_false rfl) rfl (s_kX12_clashes_0 _ 6 x σ), if_neg (by decide), if_neg (by decide), if_neg (by decide), ci_of (r_above (d := d + 8) 6), show fup 6 = 1 from rfl, ci_of a3]
    rfl
-- hides
theorem c_hide0 (h : CA σ V o p w K) (h0 : 0 ≤ V 51 80) (h1 : V 51 80 < 1000) {k : Int} (hk : k ≠ 2 ∧ k ≠ 5) (x : Int) : ∃ s, FA σ s ∧ CA s (tAs V [11]) o p w K ∧ t_run tbl mtb (d + 2) 6 [vh 35 0, vi k, vi x] σ = some (some (vi (i_xor x o)), s) := by
  obtain ⟨s, a1, a2, a3⟩ := c_began (d := d) h h0 h1 11
  refine ⟨s, a1, a2, ?_⟩
  rw [run_go (k := 6) (as := [vh 35 0, vi k, vi x]) mt_6 (Nat.ne_of_beq_eq_false rfl) rfl (s_kX0_hides_0 _ k x σ), if_neg hk.1, if_neg hk.2, cv_of a3, a2.2.2.1]
  rfl
theorem c_hides (h : CA σ V o p w K) (h0 : 0 ≤ V 51 80) (h1 : V 51 80 + 5 ≤ 1000) (k x : Int) : ∃ s, FA σ s ∧ CA s (tAs V (hdL K k)) o p w K ∧ t_run tbl mtb (d + 5) 6 [vh 35 0, vi k, vi x] σ = some (some (vi (hdX o p w K k x)), s) := by
  unfold hdL hdX
  by_cases k2 : k = 2
  · subst k2
    obtain ⟨s, a1, a2, a3⟩ := c_began (d := d + 3) h h0 (by omega) 30
    obtain ⟨s', b1, b2, b3⟩ := c_hide0 (d := d + 2) a2 (by rw [tA_80]; omega) (by rw [tA_80]; omega) (k := 1) (by decide) x
    obtain ⟨t, c1, c2, c3⟩ := c_means (d := d) b2 (by rw [tAs_80, tA_80]; simp; omega) (by rw [tAs_80, tA_80]; simp; omega) K 2
    rw [if_pos rfl, if_pos rfl]
    refine ⟨t, (a1.tr b1).tr c1, c2, ?_⟩
    rw [run_go (k := 6) (as := [vh 35 0, vi 2, vi x]) mt_6 (Nat.ne_of_beq_eq_false rfl) rfl (s_kX0_hides_0 _ 2 x σ), if_pos rfl, cv_of a3, ci_of b3, b2.2.2.2.2.2, ci_of c3]
    rfl
  · rw [if_neg k2, if_neg k2]
    by_cases k5 : k = 5
    · subst k5
      obtain ⟨s, a1, a2, a3⟩ := c_began (d := d + 3) h h0 (by omega) 61
      obtain ⟨s', b1, b2, b3⟩ := c_hide0 (d := d + 2) a2 (by rw [tA_80]; omega) (by rw [tA_80]; omega) (k := 3) (by decide) x
      rw [if_pos rfl, if_pos rfl]
      refine ⟨s', a1.tr b1, b2, ?_⟩
      rw [run_go (k := 6) (as := [vh 35 0, vi 5, vi x]) mt_6 (Nat.ne_of_beq_eq_false rfl) rfl (s_kX0_hides_0 _ 5 x σ), if_neg (by decide), if_pos rfl, cv_of a3, ci_of b3]
      rfl
    · rw [if_neg k5, if_neg k5]
      exact c_hide0 (d := d + 3) h h0 (by omega) ⟨k2, k5⟩ x
theorem r_hide0 (h : RA σ V o p w K) (h0 : 0 ≤ V 51 80) (h1 : V 51 80 < 1000) (x : Int) : ∃ s, FR σ s ∧ RA s (tAs V [11]) o p w K ∧ t_run tbl mtb (d + 2) 233 [vh 51 0, vi 0, vi x] σ = some (some (vi (i_xor x o)), s) := by
  obtain ⟨s, a1, a2, a3⟩ := r_ran (d := d) h h0 h1 11
  refine ⟨s, a1, a2, ?_⟩
  rw [run_go (k := 233) (as := [vh 51 0, vi 0, vi x]) mt_233 (Nat.ne_of_beq_eq_false rfl) rfl (s_kX12_hides_0 _ 0 x σ), if_pos rfl, cv_of a3, a2.2.1]
  rfl
theorem r_hide1 (h : RA σ V o p w K) (h0 : 0 ≤ V 51 80) (h1 : V 51 80 < 1000) (x : Int) : ∃ s, FR σ s ∧ RA s (tAs V [11]) o p w K ∧ t_run tbl mtb (d + 3) 233 [vh 51 0, vi 1, vi x] σ = some (some (vi (i_xor x o)), s) := by
  obtain ⟨s, a1, a2, a3⟩ := r_hide0 (d := d) h h0 h1 x
  refine ⟨s, a1, a2, ?_⟩
  rw [run_go (k := 233) (as := [vh 51 0, vi 1, vi x]) mt_233 (Nat.ne_of_beq_eq_false rfl) rfl (s_kX12_hides_0 _ 1 x σ), if_neg (by decide), if_neg (by decide), if_neg (by decide), ci_of (r_above (d := d + 1) 1), show fup 1 = 0 from rfl, ci_of a3]
  rfl
theorem r_hide3 (h : RA σ V o p w K) (h0 : 0 ≤ V 51 80) (h1 : V 51 80 < 1000) (x : Int) : ∃ s, FR σ s ∧ RA s (tAs V [11]) o p w K ∧ t_run tbl mtb (d + 4) 233 [vh 51 0, vi 3, vi x] σ = some (some (vi (i_xor x o)), s) := by
  obtain ⟨s, a1, a2, a3⟩ := r_hide1 (d := d) h h0 h1 x
  refine ⟨s, a1, a2, ?_⟩
  rw [run_go (k := 233) (as := [vh 51 0, vi 3, vi x]) mt_233 (Nat.ne_of_beq_eq_false rfl) rfl (s_kX12_hides_0 _ 3 x σ), if_neg (by decide), if_neg (by decide), if_neg (by decide), ci_of (r_above (d := d + 2) 3), show fup 3 = 1 from rfl, ci_of a3]
  rfl
theorem r_hides (h : RA σ V o p w K) (hK : 0 ≤ K ∧ K ≤ 6) (h0 : 0 ≤ V 51 80) (h1 : V 51 80 + 5 ≤ 1000) {k : Int} (hk : 1 ≤ k ∧ k ≤ 6) (x : Int) : ∃ s, FR σ s ∧ RA s (tAs V (hdL K k)) o p w K ∧ t_run tbl mtb (d + 7) 233 [vh 51 0, vi k, vi x] σ = some (some (vi (hdX o p w K k x)), s) := by
  rcases (by omega : k = 1 ∨ k = 2 ∨ k = 3 ∨ k = 4 ∨ k = 5 ∨ k = 6) with rfl | rfl | rfl | rfl | rfl | rfl
  · exact r_hide1 (d := d + 4) h h0 (by omega) x
  · obtain ⟨s, a1, a2, a3⟩ := r_ran (d := d + 5) h h0 (by omega) 30
    obtain ⟨s', b1, b2, b3⟩ := r_hide1 (d := d + 3) a2 (by rw [tA_80]; omega) (by rw [tA_80]; omega) x
    obtain ⟨t, c1, c2, c3⟩ := r_means (d := d) b2 (by rw [tAs_80, tA_80]; simp; omega) (by rw [tAs_80, tA_80]; simp; omega) hK 2
    refine ⟨t, (a1.tr b1).tr c1, c2, ?_⟩
    rw [run_go (k := 233) (as := [vh 51 0, vi 2, vi x]) mt_233 (Nat.ne_of_beq_eq_false rfl) rfl (s_kX12_hides_0 _ 2 x σ), if_neg (by decide), if_pos rfl, cv_of a3, ci_of (r_above (d := d + 5) 2), show fup 2 = 1 from rfl, ci_of b3, b2.2.1, if_pos ⟨b2.2.2.2.2.2.1, b2.2.2.2.2.2.2⟩, b2.2.2.1, ci_of c3]
    rfl
  · exact r_hide3 (d := d + 3) h h0 (by omega) x
  · obtain ⟨s, a1, a2, a3⟩ := r_hide1 (d := d + 3) h h0 (by omega) x
    refine ⟨s, a1, a2, ?_⟩
    rw [run_go (k := 233) (as := [vh 51 0, vi 4, vi x]) mt_233 (Nat.ne_of_beq_eq_false rfl) rfl (s_kX12_hides_0 _ 4 x σ), if_neg (by decide), if_neg (by decide), if_neg (by decide), ci_of (r_above (d := d + 5) 4), show fup 4 = 1 from rfl, ci_of a3]
    rfl
  · obtain ⟨s, a1, a2, a3⟩ := r_ran (d := d + 5) h h0 (by omega) 61
    obtain ⟨s', b1, b2, b3⟩ := r_hide3 (d := d + 2) a2 (by rw [tA_80]; omega) (by rw [tA_80]; omega) x
    refine ⟨s', a1.tr b1, b2, ?_⟩
    rw [run_go (k := 233) (as := [vh 51 0, vi 5, vi x]) mt_233 (Nat.ne_of_beq_eq_false rfl) rfl (s_kX12_hides_0 _ 5 x σ), if_neg (by decide), if_neg (by decide), if_pos rfl, cv_of a3, ci_of (r_above (d := d + 5) 5), show fup 5 = 3 from rfl, ci_of b3]
    rfl
  · obtain ⟨s, a1, a2, a3⟩ := r_hide1 (d := d + 3) h h0 (by omega) x
    refine ⟨s, a1, a2, ?_⟩
    rw [run_go (k := 233) (as := [vh 51 0, vi 6, vi x]) mt_233 (Nat.ne_of_beq_eq_false rfl) rfl (s_kX12_hides_0 _ 6 x σ), if_neg (by decide), if_neg (by decide), if_neg (by decide), ci_of (r_above (d := d + 5) 6), show fup 6 = 1 from rfl, ci_of a3]
    rfl
-- ends
theorem c_end0 (h : CA σ V o p w K) (h0 : 0 ≤ V 51 80) (h1 : V 51 80 + 12 ≤ 1000) {k : Int} (hk : k ≠ 3 ∧ k ≠ 5) (x : Int) : ∃ s, FA σ s ∧ CA s (tAs V (2 :: (clL K K ++ hdL K K))) o p w K ∧ t_run tbl mtb (d + 8) 7 [vh 35 0, vi k, vi x] σ = some (some (vi (w32 (clX o p w K K x - hdX o p w K K 1))), s) := by
  have l1 := clL_len K K
  obtain ⟨s, a1, a2, a3⟩ := c_began (d := d + 6) h h0 (by omega) 2
  obtain ⟨s', b1, b2, b3⟩ := c_clashes (d := d) a2 (by rw [tA_80]; omega) (by rw [tA_80]; omega) K x
  obtain ⟨t, c1, c2, c3⟩ := c_hides (d := d + 2) b2 (by rw [tAs_80, tA_80]; omega) (by rw [tAs_80, tA_80]; omega) K 1
  refine ⟨t, (a1.tr b1).tr c1, ?_, ?_⟩
  · rw [tAs_cons, tAs_app]
    exact c2
  · rw [run_go (k := 7) (as := [vh 35 0, vi k, vi x]) mt_7 (Nat.ne_of_beq_eq_false rfl) rfl (s_kX0_ends_0 _ k x σ), if_neg hk.1, if_neg hk.2, cv_of a3, a2.2.2.2.2.2, ci_of b3, b2.2.2.2.2.2, ci_of c3]
    rfl
theorem c_ends (h : CA σ V o p w K) (h0 : 0 ≤ V 51 80) (h1 : V 51 80 + 13 ≤ 1000) (k x : Int) : ∃ s, FA σ s ∧ CA s (tAs V (enL K k)) o p w K ∧ t_run tbl mtb (d + 9) 7 [vh 35 0, vi k, vi x] σ = some (some (vi (enX o p w K k x)), s) := by
  unfold enL enX
  by_cases k3 : k = 3 ∨ k = 5
  · obtain ⟨s, a1, a2, a3⟩ := c_began (d := d + 7) h h0 (by omega) 41
    obtain ⟨s', b1, b2, b3⟩ := c_end0 (d := d) a2 (by rw [tA_80]; omega) (by rw [tA_80]; omega) (k := 1) (by decide) (w32 (x + 1))
    rw [if_pos k3, if_pos k3]
    refine ⟨s', a1.tr b1, b2, ?_⟩
    rcases k3 with rfl | rfl
    · rw [run_go (k := 7) (as := [vh 35 0, vi 3, vi x]) mt_7 (Nat.ne_of_beq_eq_false rfl) rfl (s_kX0_ends_0 _ 3 x σ), if_pos rfl, cv_of a3, ci_of b3]
      rfl
    · rw [run_go (k := 7) (as := [vh 35 0, vi 5, vi x]) mt_7 (Nat.ne_of_beq_eq_false rfl) rfl (s_kX0_ends_0 _ 5 x σ), if_neg (by decide), if_pos rfl, cv_of a3, ci_of b3]
      rfl
  · rw [if_neg k3, if_neg k3]
    exact c_end0 (d := d + 1) h h0 (by omega) ⟨fun q => k3 (.inl q), fun q => k3 (.inr q)⟩ x
theorem r_end0 (h : RA σ V o p w K) (hK : 1 ≤ K ∧ K ≤ 6) (h0 : 0 ≤ V 51 80) (h1 : V 51 80 + 12 ≤ 1000) (x : Int) : ∃ s, FR σ s ∧ RA s (tAs V (2 :: (clL K K ++ hdL K K))) o p w K ∧ t_run tbl mtb (d + 11) 234 [vh 51 0, vi 0, vi x] σ = some (some (vi (w32 (clX o p w K K x - hdX o p w K K 1))), s) := by
  have l1 := clL_len K K
  obtain ⟨s, a1, a2, a3⟩ := r_ran (d := d + 9) h h0 (by omega) 2
  obtain ⟨s', b1, b2, b3⟩ := r_clashes (d := d) a2 ⟨by omega, hK.2⟩ (by rw [tA_80]; omega) (by rw [tA_80]; omega) hK x
  obtain ⟨t, c1, c2, c3⟩ := r_hides (d := d + 3) b2 ⟨by omega, hK.2⟩ (by rw [tAs_80, tA_80]; omega) (by rw [tAs_80, tA_80]; omega) hK 1
  refine ⟨t, (a1.tr b1).tr c1, ?_, ?_⟩
  · rw [tAs_cons, tAs_app]
    exact c2
  · rw [run_go (k := 234) (as := [vh 51 0, vi 0, vi x]) mt_234 (Nat.ne_of_beq_eq_false rfl) rfl (s_kX12_endsOf_0 _ 0 x σ), if_pos rfl, cv_of a3, a2.2.1, if_pos ⟨a2.2.2.2.2.2.1, a2.2.2.2.2.2.2⟩, a2.2.2.1, ci_of b3, b2.2.1, if_pos ⟨b2.2.2.2.2.2.1, b2.2.2.2.2.2.2⟩, b2.2.2.1, ci_of c3]
    rfl
theorem r_end1 (h : RA σ V o p w K) (hK : 1 ≤ K ∧ K ≤ 6) (h0 : 0 ≤ V 51 80) (h1 : V 51 80 + 12 ≤ 1000) (x : Int) : ∃ s, FR σ s ∧ RA s (tAs V (2 :: (clL K K ++ hdL K K))) o p w K ∧ t_run tbl mtb (d + 12) 234 [vh 51 0, vi 1, vi x] σ = some (some (vi (w32 (clX o p w K K x - hdX o p w K K 1))), s) := by
  obtain ⟨s, a1, a2, a3⟩ := r_end0 (d := d) h hK h0 h1 x
  refine ⟨s, a1, a2, ?_⟩
  rw [run_go (k := 234) (as := [vh 51 0, vi 1, vi x]) mt_234 (Nat.ne_of_beq_eq_false rfl) rfl (s_kX12_endsOf_0 _ 1 x σ), if_neg (by decide), if_neg (by decide), ci_of (r_above (d := d + 10) 1), show fup 1 = 0 from rfl, ci_of a3]
  rfl
theorem r_end3 (h : RA σ V o p w K) (hK : 1 ≤ K ∧ K ≤ 6) (h0 : 0 ≤ V 51 80) (h1 : V 51 80 + 13 ≤ 1000) (x : Int) : ∃ s, FR σ s ∧ RA s (tAs V (41 :: 2 :: (clL K K ++ hdL K K))) o p w K ∧ t_run tbl mtb (d + 13) 234 [vh 51 0, vi 3, vi x] σ = some (some (vi (w32 (clX o p w K K (w32 (x + 1)) - hdX o p w K K 1))), s) := by
  obtain ⟨s, a1, a2, a3⟩ := r_ran (d := d + 11) h h0 (by omega) 41
  obtain ⟨s', b1, b2, b3⟩ := r_end1 (d := d) a2 hK (by rw [tA_80]; omega) (by rw [tA_80]; omega) (w32 (x + 1))
  refine ⟨s', a1.tr b1, b2, ?_⟩
  rw [run_go (k := 234) (as := [vh 51 0, vi 3, vi x]) mt_234 (Nat.ne_of_beq_eq_false rfl) rfl (s_kX12_endsOf_0 _ 3 x σ), if_neg (by decide), if_pos rfl, cv_of a3, ci_of (r_above (d := d + 11) 3), show fup 3 = 1 from rfl, ci_of b3]
  rfl
theorem r_ends (h : RA σ V o p w K) (hK : 1 ≤ K ∧ K ≤ 6) (h0 : 0 ≤ V 51 80) (h1 : V 51 80 + 13 ≤ 1000) {k : Int} (hk : 1 ≤ k ∧ k ≤ 6) (x : Int) : ∃ s, FR σ s ∧ RA s (tAs V (enL K k)) o p w K ∧ t_run tbl mtb (d + 14) 234 [vh 51 0, vi k, vi x] σ = some (some (vi (enX o p w K k x)), s) := by
  have up : ∀ k : Int, k = 2 ∨ k = 4 ∨ k = 6 → ∃ s, FR σ s ∧ RA s (tAs V (2 :: (clL K K ++ hdL K K))) o p w K ∧ t_run tbl mtb (d + 14) 234 [vh 51 0, vi k, vi x] σ = some (some (vi (w32 (clX o p w K K x - hdX o p w K K 1))), s) := by
    intro k hk
    obtain ⟨s, a1, a2, a3⟩ := r_end1 (d := d + 1) h hK h0 (by omega) x
    refine ⟨s, a1, a2, ?_⟩
    have eu : fup k = 1 := by rcases hk with rfl | rfl | rfl <;> rfl
    rw [run_go (k := 234) (as := [vh 51 0, vi k, vi x]) mt_234 (Nat.ne_of_beq_eq_false rfl) rfl (s_kX12_endsOf_0 _ k x σ), if_neg (by omega), if_neg (by omega), ci_of (r_above (d := d + 12) k), eu, ci_of a3]
    rfl
  rcases (by omega : k = 1 ∨ k = 2 ∨ k = 3 ∨ k = 4 ∨ k = 5 ∨ k = 6) with rfl | rfl | rfl | rfl | rfl | rfl
  · exact r_end1 (d := d + 2) h hK h0 (by omega) x
  · exact up 2 (.inl rfl)
  · exact r_end3 (d := d + 1) h hK h0 (by omega) x
  · exact up 4 (.inr (.inl rfl))
  · obtain ⟨s, a1, a2, a3⟩ := r_end3 (d := d) h hK h0 (by omega) x
    refine ⟨s, a1, a2, ?_⟩
    rw [run_go (k := 234) (as := [vh 51 0, vi 5, vi x]) mt_234 (Nat.ne_of_beq_eq_false rfl) rfl (s_kX12_endsOf_0 _ 5 x σ), if_neg (by decide), if_neg (by decide), ci_of (r_above (d := d + 12) 5), show fup 5 = 3 from rfl, ci_of a3]
    rfl
  · exact up 6 (.inr (.inr rfl))
end
