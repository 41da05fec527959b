-- act(), whole; check(): both sides
section
variable {σ : TM} {V : TVw} {d : Nat}
def acL (a K : Int) : List Int := if a = 0 then mnL K else if a = 1 then clL K K else if a = 2 then hdL K K else enL K K
noncomputable def acX (a o p w K x : Int) : Int := if a = 0 then mnX o p w K x else if a = 1 then clX o p w K K x else if a = 2 then hdX o p w K K x else enX o p w K K x
theorem acL_len (a K : Int) : (acL a K).length ≤ 13 := by
  have l1 := mnL_len K
  have l2 := clL_len K K
  have l3 := hdL_len K K
  unfold acL enL
  (repeat' split) <;> simp <;> omega
/-- the rows behind acts of which l have run -/
theorem act_cr {s : TM} {l : List Int} (h : CR σ V) (hK : KW σ V) (hl : l.length ≤ 13) (hs : ∀ k i j, ¬ (k = 35 ∧ 1 ≤ j ∧ j ≤ 5 ∨ k = 36) → s k i j = σ k i j) (h1 : s 35 0 1 = tAs (vu V 51 80 0) l 51 80) (h2 : ∀ i : Nat, i < 24 → (i : Int) < tAs (vu V 51 80 0) l 51 80 → s 36 0 i = tAs (vu V 51 80 0) l 114 i) : FC σ s ∧ CR s (tAs (vu V 51 80 0) l) ∧ KW s (tAs (vu V 51 80 0) l) := by
  have hI := h.inv
  have e80 : tAs (vu V 51 80 0) l 51 80 = (l.length : Int) := by rw [tAs_80, vu_same]; omega
  have uV : Uv [36, 5481, 5482, 5483, 5484, 5485, 114, 7608] V (tAs (vu V 51 80 0) l) := fun a b _ q => by
    rw [tAs_o (by rintro rfl; cases q) (by rintro ⟨rfl, rfl⟩; cases q), vu_r, if_neg (by rintro ⟨rfl, rfl⟩; cases q)]
  have uS : Uc [36, 5481, 5482, 5483, 5484, 5485, 114, 7608] σ s := fun a i j _ q => hs a i j (by
    rintro (⟨rfl, z1, z2⟩ | rfl)
    · rcases (by omega : j = 1 ∨ j = 2 ∨ j = 3 ∨ j = 4 ∨ j = 5) with rfl | rfl | rfl | rfl | rfl <;> cases q
    · cases q)
  have hI2 : Inv (tAs (vu V 51 80 0) l) := Inv.k uV hI (fun i hi hd => by
    rcases (by decide : ∀ i, i < 16 → djT [36, 5481, 5482, 5483, 5484, 5485, 114, 7608] (idep i) = false → i = 14) i hi hd with rfl
    show 0 ≤ tAs (vu V 51 80 0) l 51 80 ∧ tAs (vu V 51 80 0) l 51 80 ≤ 1000
    rw [e80]
    omega)
  refine ⟨fun k i j hk => hs k i j (by omega), CR.k uS uV h hI2 (fun i hi hd => ?_), KW.k uS uV hK rfl⟩
  rcases (by decide : ∀ i, i < 16 → djT [36, 5481, 5482, 5483, 5484, 5485, 114, 7608] (cdep i) = false → i = 13) i hi hd with rfl
  exact ⟨h1, h2⟩
theorem two_act (hW : WW σ V) (o a x : Int) : Two (d + 100) 125 235 [vi o, vi a, vi x] σ := by
  have h := hW.1
  have hI := h.inv
  have h0 := hI.cnt
  have ebeg : t_run tbl mtb (d + 99) 0 [vh 35 0] σ = some (none, t_upd σ 35 0 1 0) := by
    rw [run_go (k := 0) (as := [vh 35 0]) mt_0 (Nat.ne_of_beq_eq_false rfl) rfl (s_kX0_begin_0 _ σ)]
    rfl
  have eor : t_run tbl mtb (d + 99) 67 [vh 0 0, vi o] (t_upd σ 35 0 1 0) = some (some (vi (bi (decide (0 ≤ o ∧ o < V 51 49)))), t_upd σ 35 0 1 0) := by
    rw [run_go (k := 67) (as := [vh 0 0, vi o]) mt_67 (Nat.ne_of_beq_eq_false rfl) rfl (s_kX11_isOrder_0 _ o (t_upd σ 35 0 1 0)), up_k (show (0 : Nat) ≠ 35 by decide), h.no]
    (repeat' split) <;> exact leaf_b (by omega)
  have hV0 : ∀ s, RV s V → RV (t_upd s 51 0 80 0) (vu V 51 80 0) := fun s hV => hV.up
  by_cases hx : (0 ≤ o ∧ o < V 51 49) ∧ 0 ≤ a ∧ a ≤ 3
  · obtain ⟨ho, ha⟩ := hx
    obtain ⟨o, rfl⟩ : ∃ o' : Nat, o = (o' : Int) := ⟨o.toNat, by omega⟩
    have hoN : o < nO V := by omega
    have r3 : 0 ≤ (o : Int) ∧ (o : Int) < 300 := by omega
    obtain ⟨k1, k2, k3, k4, -⟩ := hI 11 o hoN
    obtain ⟨m0, m1, m2, m3, -⟩ := (h 11 o (by omega)).1 hoN
    have hK : 1 ≤ V 87 o ∧ V 87 o ≤ 6 := ⟨k3, k4⟩
    have hl := acL_len a (V 87 o)
    -- the class
    have eof : t_run tbl mtb (d + 99) 1 [vh 35 0, vi o, vh 45 o] (t_upd σ 35 0 1 0) = some (none, t_upd (t_upd (t_upd (t_upd (t_upd σ 35 0 1 0) 35 0 2 o) 35 0 3 (V 89 o)) 35 0 4 (V 90 o)) 35 0 5 (V 87 o)) := by
      rw [run_go (k := 1) (as := [vh 35 0, vi (o : Int), vh 45 o]) mt_1 (Nat.ne_of_beq_eq_false rfl) rfl (s_kX0_of_0 _ (o : Int) o (t_upd σ 35 0 1 0))]
      simp only [up_k (show (45 : Nat) ≠ 35 by decide), m1, m2, m3]
      rfl
    have hA : CA (t_upd (t_upd (t_upd (t_upd (t_upd σ 35 0 1 0) 35 0 2 o) 35 0 3 (V 89 o)) 35 0 4 (V 90 o)) 35 0 5 (V 87 o)) (vu V 51 80 0) o (V 89 o) (V 90 o) (V 87 o) := by
      refine ⟨?_, fun i hi hv => ?_, ?_, ?_, ?_, ?_⟩
      · rw [up_j (show (1 : Nat) ≠ 5 by decide), up_j (show (1 : Nat) ≠ 4 by decide), up_j (show (1 : Nat) ≠ 3 by decide), up_j (show (1 : Nat) ≠ 2 by decide), up_same, vu_same]
      · rw [vu_same] at hv
        omega
      · rw [up_j (show (2 : Nat) ≠ 5 by decide), up_j (show (2 : Nat) ≠ 4 by decide), up_j (show (2 : Nat) ≠ 3 by decide), up_same]
      · rw [up_j (show (3 : Nat) ≠ 5 by decide), up_j (show (3 : Nat) ≠ 4 by decide), up_same]
      · rw [up_j (show (4 : Nat) ≠ 5 by decide), up_same]
      · rw [up_same]
    have e80 : vu V 51 80 0 51 80 = 0 := vu_same
    have hrun : ∃ s, FA (t_upd (t_upd (t_upd (t_upd (t_upd σ 35 0 1 0) 35 0 2 o) 35 0 3 (V 89 o)) 35 0 4 (V 90 o)) 35 0 5 (V 87 o)) s ∧ CA s (tAs (vu V 51 80 0) (acL a (V 87 o))) o (V 89 o) (V 90 o) (V 87 o) ∧ t_run tbl mtb (d + 99) 3 [vh 35 0, vi a, vi (V 87 o), vi x] (t_upd (t_upd (t_upd (t_upd (t_upd σ 35 0 1 0) 35 0 2 o) 35 0 3 (V 89 o)) 35 0 4 (V 90 o)) 35 0 5 (V 87 o)) = some (some (vi (acX a o (V 89 o) (V 90 o) (V 87 o) x)), s) := by
      unfold acL acX
      by_cases a0 : a = 0
      · obtain ⟨s, b1, b2, b3⟩ := c_means (d := d + 94) hA (by rw [e80]; decide) (by rw [e80]; decide) (V 87 o) x
        rw [if_pos a0, if_pos a0]
        refine ⟨s, b1, b2, ?_⟩
        rw [run_go (k := 3) (as := [vh 35 0, vi a, vi (V 87 o), vi x]) mt_3 (Nat.ne_of_beq_eq_false rfl) rfl (s_kX0_run_0 _ a (V 87 o) x _), if_pos a0, ci_of b3]
        rfl
      · rw [if_neg a0, if_neg a0]
        by_cases a1 : a = 1
        · obtain ⟨s, b1, b2, b3⟩ := c_clashes (d := d + 91) hA (by rw [e80]; decide) (by rw [e80]; decide) (V 87 o) x
          rw [if_pos a1, if_pos a1]
          refine ⟨s, b1, b2, ?_⟩
          rw [run_go (k := 3) (as := [vh 35 0, vi a, vi (V 87 o), vi x]) mt_3 (Nat.ne_of_beq_eq_false rfl) rfl (s_kX0_run_0 _ a (V 87 o) x _), if_neg a0, if_pos a1, ci_of b3]
          rfl
        · rw [if_neg a1, if_neg a1]
          by_cases a2 : a = 2
          · obtain ⟨s, b1, b2, b3⟩ := c_hides (d := d + 93) hA (by rw [e80]; decide) (by rw [e80]; decide) (V 87 o) x
            rw [if_pos a2, if_pos a2]
            refine ⟨s, b1, b2, ?_⟩
            rw [run_go (k := 3) (as := [vh 35 0, vi a, vi (V 87 o), vi x]) mt_3 (Nat.ne_of_beq_eq_false rfl) rfl (s_kX0_run_0 _ a (V 87 o) x _), if_neg a0, if_neg a1, if_pos a2, ci_of b3]
            rfl
          · rw [if_neg a2, if_neg a2]
            obtain ⟨s, b1, b2, b3⟩ := c_ends (d := d + 89) hA (by rw [e80]; decide) (by rw [e80]; decide) (V 87 o) x
            refine ⟨s, b1, b2, ?_⟩
            rw [run_go (k := 3) (as := [vh 35 0, vi a, vi (V 87 o), vi x]) mt_3 (Nat.ne_of_beq_eq_false rfl) rfl (s_kX0_run_0 _ a (V 87 o) x _), if_neg a0, if_neg a1, if_neg a2, ci_of b3]
            rfl
    obtain ⟨s, b1, b2, b3⟩ := hrun
    obtain ⟨c1, c2, c3⟩ := act_cr (s := s) (l := acL a (V 87 o)) h hW.2.2 hl (fun k i j q => by
      rw [b1 k i j (by omega), t_upd_eq, if_neg (by omega), t_upd_eq, if_neg (by omega), t_upd_eq, if_neg (by omega), t_upd_eq, if_neg (by omega), t_upd_eq, if_neg (by omega)]) b2.1 b2.2.1
    refine two_of (r := vi (acX a o (V 89 o) (V 90 o) (V 87 o) x)) hW ⟨s, c1, c2, c3, ?_⟩ (fun s hV => ?_)
    · have e45 : t_upd (t_upd (t_upd (t_upd (t_upd σ 35 0 1 0) 35 0 2 o) 35 0 3 (V 89 o)) 35 0 4 (V 90 o)) 35 0 5 (V 87 o) 45 o 1 = V 87 o := by
        rw [up_k (show (45 : Nat) ≠ 35 by decide), up_k (show (45 : Nat) ≠ 35 by decide), up_k (show (45 : Nat) ≠ 35 by decide), up_k (show (45 : Nat) ≠ 35 by decide), up_k (show (45 : Nat) ≠ 35 by decide)]
        exact m1
      rw [run_go (k := 125) (as := [vh 0 0, vi (o : Int), vi a, vi x]) mt_125 (Nat.ne_of_beq_eq_false rfl) rfl (s_kX11_act_0 _ (o : Int) a x σ), cv_of ebeg, ci_of eor]
      simp only [bi_0, decide_eq_false_iff_not, Int.toNat_natCast]
      rw [if_neg (by omega), if_neg (by omega), if_neg (by omega), if_pos r3, cv_of eof, if_pos r3, e45, ci_of b3]
      rfl
    · have v0 := hV0 s hV
      have hR : RA (t_upd (t_upd s 51 0 80 0) 51 0 81 o) (vu V 51 80 0) o (V 89 o) (V 90 o) (V 87 o) := by
        refine ⟨v0.sc (Sc.rf.up rfl), up_same, ?_, ?_, ?_, r3⟩
        · rw [up_k (show (87 : Nat) ≠ 51 by decide), up_k (show (87 : Nat) ≠ 51 by decide)]; exact hV 87 o rfl rfl rfl
        · rw [up_k (show (89 : Nat) ≠ 51 by decide), up_k (show (89 : Nat) ≠ 51 by decide)]; exact hV 89 o rfl rfl rfl
        · rw [up_k (show (90 : Nat) ≠ 51 by decide), up_k (show (90 : Nat) ≠ 51 by decide)]; exact hV 90 o rfl rfl rfl
      have f0 : FR s (t_upd (t_upd s 51 0 80 0) 51 0 81 (o : Int)) := (FR.rf.up rfl).up rfl
      have e87 : t_upd (t_upd s 51 0 80 0) 51 0 81 (o : Int) 87 0 o = V 87 o := hR.2.2.1
      have eir : t_run tbl mtb (d + 99) 194 [vh 51 0, vi (o : Int)] (t_upd s 51 0 80 0) = some (some (vi (bi (decide (0 ≤ (o : Int) ∧ (o : Int) < V 51 49)))), t_upd s 51 0 80 0) := r_isOrder (d := d + 98) v0 o
      have ri : t_run tbl mtb (d + 100) 235 [vh 51 0, vi o, vi a, vi x] s = _ := run_go (k := 235) (as := [vh 51 0, vi (o : Int), vi a, vi x]) mt_235 (Nat.ne_of_beq_eq_false rfl) rfl (s_kX12_act_0 _ (o : Int) a x s)
      rw [ci_of eir, ci_of (r_within (d := d + 98) a 0 3)] at ri
      simp only [bi_0, decide_eq_false_iff_not, Int.toNat_natCast, e87, if_pos r3] at ri
      rw [if_neg (by omega), if_neg (by omega)] at ri
      unfold acL acX
      by_cases a0 : a = 0
      · obtain ⟨t, d1, d2, d3⟩ := r_means (d := d + 93) hR (by rw [e80]; decide) (by rw [e80]; decide) ⟨by omega, hK.2⟩ x
        rw [if_pos a0, if_pos a0]
        rw [if_pos a0, ci_of d3] at ri
        exact ⟨t, f0.tr d1, d2.1, ri⟩
      · rw [if_neg a0, if_neg a0]
        rw [if_neg a0] at ri
        by_cases a1 : a = 1
        · obtain ⟨t, d1, d2, d3⟩ := r_clashes (d := d + 89) hR ⟨by omega, hK.2⟩ (by rw [e80]; decide) (by rw [e80]; decide) hK x
          rw [if_pos a1, if_pos a1]
          rw [if_pos a1, ci_of d3] at ri
          exact ⟨t, f0.tr d1, d2.1, ri⟩
        · rw [if_neg a1, if_neg a1]
          rw [if_neg a1] at ri
          by_cases a2 : a = 2
          · obtain ⟨t, d1, d2, d3⟩ := r_hides (d := d + 92) hR ⟨by omega, hK.2⟩ (by rw [e80]; decide) (by rw [e80]; decide) hK x
            rw [if_pos a2, if_pos a2]
            rw [if_pos a2, ci_of d3] at ri
            exact ⟨t, f0.tr d1, d2.1, ri⟩
          · obtain ⟨t, d1, d2, d3⟩ := r_ends (d := d + 85) hR hK (by rw [e80]; decide) (by rw [e80]; decide) hK x
            rw [if_neg a2, if_neg a2]
            rw [if_neg a2, ci_of d3] at ri
            exact ⟨t, f0.tr d1, d2.1, ri⟩
  · obtain ⟨c1, c2, c3⟩ := act_cr (s := t_upd σ 35 0 1 0) (l := []) h hW.2.2 (by decide) (fun k i j q => by rw [t_upd_eq, if_neg (by omega)]) (by rw [up_same]; exact (vu_same (V := V) (k := 51) (j := 80) (v := 0)).symm) (fun i hi hv => by
      have hv : (i : Int) < vu V 51 80 0 51 80 := hv
      rw [vu_same] at hv
      omega)
    refine two_of (r := vi 0) hW ⟨_, c1, c2, c3, ?_⟩ (fun s hV => ⟨t_upd s 51 0 80 0, FR.rf.up rfl, hV0 s hV, ?_⟩)
    · rw [run_go (k := 125) (as := [vh 0 0, vi o, vi a, vi x]) mt_125 (Nat.ne_of_beq_eq_false rfl) rfl (s_kX11_act_0 _ o a x σ), cv_of ebeg, ci_of eor]
      simp only [bi_0, decide_eq_false_iff_not]
      by_cases y1 : 0 ≤ o ∧ o < V 51 49
      · rw [if_neg (by omega)]
        by_cases y2 : a < 0
        · rw [if_pos y2]
          rfl
        · rw [if_neg y2, if_pos (by omega)]
          rfl
      · rw [if_pos y1]
        rfl
    · have eir : t_run tbl mtb (d + 99) 194 [vh 51 0, vi o] (t_upd s 51 0 80 0) = some (some (vi (bi (decide (0 ≤ o ∧ o < V 51 49)))), t_upd s 51 0 80 0) := r_isOrder (d := d + 98) (hV0 s hV) o
      rw [run_go (k := 235) (as := [vh 51 0, vi o, vi a, vi x]) mt_235 (Nat.ne_of_beq_eq_false rfl) rfl (s_kX12_act_0 _ o a x s), ci_of eir, ci_of (r_within (d := d + 98) a 0 3)]
      simp only [bi_0, decide_eq_false_iff_not]
      by_cases y1 : 0 ≤ o ∧ o < V 51 49
      · rw [if_neg (by omega), if_pos (by omega)]
        rfl
      · rw [if_pos y1]
        rfl
end
