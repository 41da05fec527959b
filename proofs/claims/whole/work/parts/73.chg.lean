-- days(), runs(), pay(), drops(): both sides
section
variable {σ : TM} {V : TVw} {d : Nat}
theorem two_days (hW : WW σ V) (n : Int) : Two (d + 100) 53 146 [vi n] σ := by
  have h := hW.1
  have hI := h.inv
  have h0 := hI.cnt
  by_cases hn : 1 ≤ n ∧ n ≤ 60
  · have ew : w32 (V 51 0 + n) = V 51 0 + n := w32_id (by omega) (by omega)
    by_cases hd : V 51 0 + n ≤ 999
    · have uV : Uv [1000, 7528] V (vu V 51 0 (V 51 0 + n)) := Uv.up Uv.rf rfl
      have hI2 : Inv (vu V 51 0 (V 51 0 + n)) := Inv.k uV hI (fun i hi hd2 => by
        rcases (by decide : ∀ i, i < 16 → djT [1000, 7528] (idep i) = false → i = 0 ∨ i = 9 ∨ i = 10) i hi hd2 with rfl | rfl | rfl
        · obtain ⟨-, -, q⟩ := hI 0
          exact ⟨by show 0 ≤ V 51 0 + n; omega, hd, q⟩
        · intro r hr
          obtain ⟨q1, q2, q3, q4, q5, q6⟩ := hI 9 r hr
          refine ⟨q1, q2, q3, q4, ?_, q6⟩
          show V 79 r ≤ V 51 0 + n
          omega
        · intro c hc
          obtain ⟨q1, q2, q3, q4, q5, q6, q7⟩ := hI 10 c hc
          refine ⟨q1, q2, q3, q4, q5, ?_, q7⟩
          show V 83 c ≤ V 51 0 + n
          omega)
      have uS : Uc [1000, 7528] σ (t_upd σ 0 0 0 (V 51 0 + n)) := Uc.up Uc.rf rfl
      refine two_of (r := vi (V 51 0 + n)) (V' := vu V 51 0 (V 51 0 + n)) hW ⟨t_upd σ 0 0 0 (V 51 0 + n), FC.rf.up rfl, CR.k uS uV h hI2 (fun i hi hd2 => ?_), KW.k uS uV hW.2.2 rfl, ?_⟩ (fun s hV => ⟨_, FR.rf.up rfl, hV.up, ?_⟩)
      · rcases (by decide : ∀ i, i < 16 → djT [1000, 7528] (cdep i) = false → i = 0) i hi hd2 with rfl
        obtain ⟨q1, q2, q3, q4, q5, q6, q7, q8⟩ := h 0
        refine ⟨up_same, ?_, ?_, ?_, ?_, ?_, ?_, ?_⟩
        · rw [up_j (by decide)]; exact q2
        · rw [up_j (by decide)]; exact q3
        · rw [up_j (by decide)]; exact q4
        · rw [up_j (by decide)]; exact q5
        · rw [up_j (by decide)]; exact q6
        · rw [up_j (by decide)]; exact q7
        · rw [up_k (by decide)]; exact q8
      · rw [run_go (k := 53) (as := [vh 0 0, vi n]) mt_53 (Nat.ne_of_beq_eq_false rfl) rfl (s_kX11_days_0 _ n σ), h.day, ew, if_neg (by omega), if_neg (by omega), if_neg (by omega), up_same]
        rfl
      · rw [run_go (k := 146) (as := [vh 51 0, vi n]) mt_146 (Nat.ne_of_beq_eq_false rfl) rfl (s_kX12_days_0 _ n s), ci_of (r_within (d := d + 98) n 1 60), hV 51 0 rfl rfl rfl, ew]
        simp only [bi_0, decide_eq_false_iff_not]
        rw [if_neg (by omega), if_neg (by omega), up_same]
        rfl
    · refine two_ask (r := vi (-1)) hW ⟨σ, Sc.rf, ?_⟩ (fun s hV => ⟨s, Sc.rf, ?_⟩)
      · rw [run_go (k := 53) (as := [vh 0 0, vi n]) mt_53 (Nat.ne_of_beq_eq_false rfl) rfl (s_kX11_days_0 _ n σ), h.day, ew]
        (repeat' split) <;> first | rfl | (exfalso; omega)
      · rw [run_go (k := 146) (as := [vh 51 0, vi n]) mt_146 (Nat.ne_of_beq_eq_false rfl) rfl (s_kX12_days_0 _ n s), ci_of (r_within (d := d + 98) n 1 60), hV 51 0 rfl rfl rfl, ew]
        (repeat' split) <;> first | rfl | (exfalso; omega)
  · refine two_ask (r := vi (-1)) hW ⟨σ, Sc.rf, ?_⟩ (fun s hV => ⟨s, Sc.rf, ?_⟩)
    · rw [run_go (k := 53) (as := [vh 0 0, vi n]) mt_53 (Nat.ne_of_beq_eq_false rfl) rfl (s_kX11_days_0 _ n σ)]
      by_cases q : n < 1
      · rw [if_pos q]
        rfl
      · rw [if_neg q, if_pos (by omega)]
        rfl
    · rw [run_go (k := 146) (as := [vh 51 0, vi n]) mt_146 (Nat.ne_of_beq_eq_false rfl) rfl (s_kX12_days_0 _ n s), ci_of (r_within (d := d + 98) n 1 60)]
      simp only [bi_0, decide_eq_false_iff_not]
      rw [if_pos hn]
      rfl
theorem two_runs (hW : WW σ V) (x g : Int) : Two (d + 100) 57 151 [vi x, vi g] σ := by
  have h := hW.1
  have hI := h.inv
  have h0 := hI.cnt
  by_cases hx : (0 ≤ x ∧ x < V 51 15) ∧ 0 ≤ g ∧ g < V 51 8
  · obtain ⟨hx, hg⟩ := hx
    have rg : 0 ≤ g ∧ g < 3 := by omega
    have e56 : ∀ z, vu V 56 g.toNat x 56 z = if z = g.toNat then x else V 56 z := fun z => by
      rw [vu_r]
      by_cases e : z = g.toNat
      · rw [if_pos ⟨rfl, e⟩, if_pos e]
      · rw [if_neg (fun q => e q.2), if_neg e]
    have uV : Uv [38, 56] V (vu V 56 g.toNat x) := Uv.up Uv.rf rfl
    have uS : Uc [38, 56] σ (t_upd σ 38 g.toNat 3 x) := Uc.up Uc.rf rfl
    have hI2 : Inv (vu V 56 g.toNat x) := Inv.k uV hI (fun i hi hd => by
      rcases (by decide : ∀ i, i < 16 → djT [38, 56] (idep i) = false → i = 1) i hi hd with rfl
      intro z hz
      obtain ⟨q1, q2, q3, q4⟩ := hI 1 z hz
      refine ⟨q1, q2, q3, fun w => ?_⟩
      obtain ⟨w1, w2, w3, w4⟩ := q4 w
      refine ⟨w1, w2, ?_⟩
      show -1 ≤ vu V 56 g.toNat x 56 z ∧ vu V 56 g.toNat x 56 z < V 51 15
      rw [e56]
      split <;> omega)
    obtain ⟨-, -, p5, -⟩ := h 1 g.toNat (by omega)
    obtain ⟨-, -, p3⟩ := p5 (by omega)
    refine two_of (r := vi (V 56 g.toNat)) (V' := vu V 56 g.toNat x) hW ⟨t_upd σ 38 g.toNat 3 x, FC.rf.up rfl, CR.k uS uV h hI2 (fun i hi hd => ?_), KW.k uS uV hW.2.2 rfl, ?_⟩ (fun s hV => ⟨_, FR.rf.up rfl, hV.up, ?_⟩)
    · rcases (by decide : ∀ i, i < 16 → djT [38, 56] (cdep i) = false → i = 1) i hi hd with rfl
      intro z hz
      obtain ⟨q1, q2, q3, q4⟩ := h 1 z hz
      rw [up_j (by decide), up_j (by decide), up_j (by decide), up_j (by decide)]
      refine ⟨q1, q2, fun w => ?_, fun w => ?_⟩
      · obtain ⟨w1, w2, w3⟩ := q3 w
        refine ⟨w1, w2, ?_⟩
        rw [e56]
        by_cases e : z = g.toNat
        · subst e
          rw [up_same, if_pos rfl]
        · rw [up_i e, if_neg e]
          exact w3
      · have w : nG V ≤ z := w
        rw [up_i (by omega)]
        exact q4 w
    · rw [run_go (k := 57) (as := [vh 0 0, vi x, vi g]) mt_57 (Nat.ne_of_beq_eq_false rfl) rfl (s_kX11_runs_0 _ x g σ), ci_of (c_isHolder (d := d + 98) h x), ci_of (c_isGame (d := d + 98) h g)]
      simp only [bi_0, decide_eq_false_iff_not]
      rw [if_neg (by omega), if_neg (by omega), if_pos rg, if_pos rg, p3]
      rfl
    · rw [run_go (k := 151) (as := [vh 51 0, vi x, vi g]) mt_151 (Nat.ne_of_beq_eq_false rfl) rfl (s_kX12_runs_0 _ x g s), ci_of (r_isHolder (d := d + 98) hV x), ci_of (r_isGame (d := d + 98) hV g)]
      simp only [bi_0, decide_eq_false_iff_not]
      rw [if_neg (by omega), if_neg (by omega), if_pos rg, if_pos rg, hV 56 _ rfl rfl rfl]
      rfl
  · refine two_ask (r := vi (-2000000000)) hW ⟨σ, Sc.rf, ?_⟩ (fun s hV => ⟨s, Sc.rf, ?_⟩)
    · rw [run_go (k := 57) (as := [vh 0 0, vi x, vi g]) mt_57 (Nat.ne_of_beq_eq_false rfl) rfl (s_kX11_runs_0 _ x g σ), ci_of (c_isHolder (d := d + 98) h x), ci_of (c_isGame (d := d + 98) h g)]
      simp only [bi_0, decide_eq_false_iff_not]
      (repeat' split) <;> first | rfl | (exfalso; omega)
    · rw [run_go (k := 151) (as := [vh 51 0, vi x, vi g]) mt_151 (Nat.ne_of_beq_eq_false rfl) rfl (s_kX12_runs_0 _ x g s), ci_of (r_isHolder (d := d + 98) hV x), ci_of (r_isGame (d := d + 98) hV g)]
      simp only [bi_0, decide_eq_false_iff_not]
      (repeat' split) <;> first | rfl | (exfalso; omega)
theorem two_pay (hW : WW σ V) (x n : Int) : Two (d + 100) 123 227 [vi x, vi n] σ := by
  have h := hW.1
  have hI := h.inv
  have h0 := hI.cnt
  by_cases hx : (0 ≤ x ∧ x < V 51 15) ∧ 1 ≤ n ∧ n ≤ 99999
  · obtain ⟨hx, hn⟩ := hx
    have r12 : 0 ≤ x ∧ x < 12 := by omega
    have e41 : σ 41 x.toNat 4 = V 64 x.toNat := (h 3 x.toNat (by omega)).1
    have uV : Uv [41, 64] V (vu V 64 x.toNat (w32 (V 64 x.toNat + n))) := Uv.up Uv.rf rfl
    have uS : Uc [41, 64] σ (t_upd σ 41 x.toNat 4 (w32 (V 64 x.toNat + n))) := Uc.up Uc.rf rfl
    have hI2 : Inv (vu V 64 x.toNat (w32 (V 64 x.toNat + n))) := Inv.k uV hI (fun i hi hd => by
      exact absurd hd (by rw [(by decide : ∀ i, i < 16 → djT [41, 64] (idep i) = true) i hi]; decide))
    refine two_of (r := vi (w32 (V 64 x.toNat + n))) (V' := vu V 64 x.toNat (w32 (V 64 x.toNat + n))) hW ⟨t_upd σ 41 x.toNat 4 (w32 (V 64 x.toNat + n)), FC.rf.up rfl, CR.k uS uV h hI2 (fun i hi hd => ?_), KW.k uS uV hW.2.2 rfl, ?_⟩ (fun s hV => ⟨_, FR.rf.up rfl, hV.up, ?_⟩)
    · rcases (by decide : ∀ i, i < 16 → djT [41, 64] (cdep i) = false → i = 3) i hi hd with rfl
      intro z hz
      obtain ⟨q1, q2, q3⟩ := h 3 z hz
      have f : ∀ j, j ≠ 4 → t_upd σ 41 x.toNat 4 (w32 (V 64 x.toNat + n)) 41 z j = σ 41 z j := fun j h1 => up_j h1
      rw [f 0 (by decide), f 1 (by decide), f 2 (by decide), f 3 (by decide)]
      refine ⟨?_, q2, q3⟩
      rw [vu_r]
      by_cases e : z = x.toNat
      · subst e
        rw [up_same, if_pos ⟨rfl, rfl⟩]
      · rw [up_i e, if_neg (fun q => e q.2)]
        exact q1
    · rw [run_go (k := 123) (as := [vh 0 0, vi x, vi n]) mt_123 (Nat.ne_of_beq_eq_false rfl) rfl (s_kX11_pay_0 _ x n σ), ci_of (c_isHolder (d := d + 98) h x), e41]
      simp only [bi_0, decide_eq_false_iff_not]
      rw [if_neg (by omega), if_neg (by omega), if_neg (by omega), if_pos r12, if_pos r12, up_same]
      rfl
    · rw [run_go (k := 227) (as := [vh 51 0, vi x, vi n]) mt_227 (Nat.ne_of_beq_eq_false rfl) rfl (s_kX12_pay_0 _ x n s), ci_of (r_isHolder (d := d + 98) hV x), ci_of (r_within (d := d + 98) n 1 99999), hV 64 _ rfl rfl rfl]
      simp only [bi_0, decide_eq_false_iff_not]
      rw [if_neg (by omega), if_neg (by omega), if_pos r12, if_pos r12, if_pos r12, up_same]
      rfl
  · refine two_ask (r := vi (-1)) hW ⟨σ, Sc.rf, ?_⟩ (fun s hV => ⟨s, Sc.rf, ?_⟩)
    · rw [run_go (k := 123) (as := [vh 0 0, vi x, vi n]) mt_123 (Nat.ne_of_beq_eq_false rfl) rfl (s_kX11_pay_0 _ x n σ), ci_of (c_isHolder (d := d + 98) h x)]
      simp only [bi_0, decide_eq_false_iff_not]
      (repeat' split) <;> first | rfl | (exfalso; omega)
    · rw [run_go (k := 227) (as := [vh 51 0, vi x, vi n]) mt_227 (Nat.ne_of_beq_eq_false rfl) rfl (s_kX12_pay_0 _ x n s), ci_of (r_isHolder (d := d + 98) hV x), ci_of (r_within (d := d + 98) n 1 99999)]
      simp only [bi_0, decide_eq_false_iff_not]
      (repeat' split) <;> first | rfl | (exfalso; omega)
def dpV (V : TVw) (x : Nat) (p : Int) : TVw := vu (vu V 62 x (V 54 (V 59 x).toNat)) 63 x p
theorem two_drops (hW : WW σ V) (x p : Int) : Two (d + 100) 58 152 [vi x, vi p] σ := by
  have h := hW.1
  have hI := h.inv
  have h0 := hI.cnt
  by_cases hx : 0 ≤ x ∧ x < V 51 15
  · obtain ⟨y, rfl⟩ : ∃ y : Nat, x = (y : Int) := ⟨x.toNat, by omega⟩
    have hy : y < nH V := by omega
    have r12 : 0 ≤ (y : Int) ∧ (y : Int) < 12 := by omega
    obtain ⟨-, q2, -⟩ := h 3 y (by omega)
    obtain ⟨c0, -, c2, c3⟩ := q2 hy
    obtain ⟨g1, g2, g3, g4, g5⟩ := hI 2 y hy
    have r3 : 0 ≤ V 59 y ∧ V 59 y < 3 := by omega
    obtain ⟨b1, b2, -⟩ := hI 1 (V 59 y).toNat (by omega)
    have e38 := (h 1 (V 59 y).toNat (by omega)).1
    -- the class, past its first tests
    by_cases hp : p = -1 ∨ (0 ≤ p ∧ p < V 51 15) ∧ p ≠ y ∧ V 59 p.toNat = V 59 y
    · by_cases hd : V 62 y = -1
      · have e62 : ∀ z, dpV V y p 62 z = if z = y then V 54 (V 59 y).toNat else V 62 z := fun z => by
          unfold dpV
          rw [vu_k (by decide), vu_r]
          by_cases e : z = y
          · rw [if_pos ⟨rfl, e⟩, if_pos e]
          · rw [if_neg (fun q => e q.2), if_neg e]
        have e63 : ∀ z, dpV V y p 63 z = if z = y then p else V 63 z := fun z => by
          unfold dpV
          rw [vu_r]
          by_cases e : z = y
          · rw [if_pos ⟨rfl, e⟩, if_pos e]
          · rw [if_neg (fun q => e q.2), if_neg e, vu_k (by decide)]
        have uV : Uv [41, 62, 63] V (dpV V y p) := Uv.up (Uv.up Uv.rf rfl) rfl
        have uS : Uc [41, 62, 63] σ (t_upd (t_upd σ 41 y 2 (V 54 (V 59 y).toNat)) 41 y 3 p) := Uc.up (Uc.up Uc.rf rfl) rfl
        have hI2 : Inv (dpV V y p) := Inv.k uV hI (fun i hi hd2 => by
          rcases (by decide : ∀ i, i < 16 → djT [41, 62, 63] (idep i) = false → i = 2 ∨ i = 4 ∨ i = 10) i hi hd2 with rfl | rfl | rfl
          · intro z hz
            obtain ⟨w1, w2, w3, w4, w5⟩ := hI 2 z hz
            rw [e62, e63]
            by_cases e : z = y
            · subst e
              rw [if_pos rfl, if_pos rfl]
              refine ⟨w1, w2, by omega, by omega, ?_⟩
              rcases hp with q | ⟨q1, q2, q3⟩
              · exact .inl q
              · exact .inr ⟨q1.1, q1.2, q3⟩
            · rw [if_neg e, if_neg e]
              exact ⟨w1, w2, w3, w4, w5⟩
          · intro z hz u hu w1 w2
            rw [e62] at w1 w2
            have hu : (u : Int) < V 54 (V 59 z).toNat := hu
            by_cases e : z = y
            · subst e
              rw [if_pos rfl] at w2
              omega
            · rw [if_neg e] at w1 w2
              exact hI 4 z hz u hu w1 w2
          · intro c hc
            obtain ⟨w1, w2, w3, w4, w5, w6, w7, w8, w9, w10, w11, w12, w13⟩ := hI 10 c hc
            refine ⟨w1, w2, w3, w4, w5, w6, w7, w8, w9, w10, w11, w12, fun ne => ?_⟩
            have w13 := w13 ne
            have e : (dpV V y p 82 c).toNat ≠ y := by
              intro e
              have e : (V 82 c).toNat = y := e
              rw [e] at w13
              omega
            rw [e62, e63, if_neg e, if_neg e]
            exact w13)
        refine two_of (r := vi 1) (V' := dpV V y p) hW ⟨t_upd (t_upd σ 41 y 2 (V 54 (V 59 y).toNat)) 41 y 3 p, (FC.rf.up rfl).up rfl, CR.k uS uV h hI2 (fun i hi hd2 => ?_), KW.k uS uV hW.2.2 rfl, ?_⟩ (fun s hV => ⟨_, (FR.rf.up rfl).up rfl, hV.up.up, ?_⟩)
        · rcases (by decide : ∀ i, i < 16 → djT [41, 62, 63] (cdep i) = false → i = 3) i hi hd2 with rfl
          intro z hz
          obtain ⟨w1, w2, w3⟩ := h 3 z hz
          have f : ∀ j, j ≠ 2 → j ≠ 3 → t_upd (t_upd σ 41 y 2 (V 54 (V 59 y).toNat)) 41 y 3 p 41 z j = σ 41 z j := fun j h1 h2 => by rw [up_j h2, up_j h1]
          rw [f 0 (by decide) (by decide), f 1 (by decide) (by decide), f 4 (by decide) (by decide), e62, e63]
          refine ⟨w1, fun w => ?_, fun w => ?_⟩
          · obtain ⟨v0, v1, v2, v3⟩ := w2 w
            by_cases e : z = y
            · subst e
              rw [up_j (by decide), up_same, up_same, if_pos rfl, if_pos rfl]
              exact ⟨v0, v1, rfl, rfl⟩
            · rw [up_i e, up_i e, up_i e, up_i e, if_neg e, if_neg e]
              exact ⟨v0, v1, v2, v3⟩
          · have w : nH V ≤ z := w
            have e : z ≠ y := by omega
            rw [up_i e, up_i e, up_i e, up_i e]
            exact w3 w
        · rw [run_go (k := 58) (as := [vh 0 0, vi y, vi p]) mt_58 (Nat.ne_of_beq_eq_false rfl) rfl (s_kX11_drops_0 _ y p σ), ci_of (c_isHolder (d := d + 98) h (y : Int)), ci_of (c_isHolder (d := d + 98) h p)]
          simp only [bi_0, decide_eq_false_iff_not, Int.toNat_natCast, c0, c2, e38, if_pos r12, if_pos r3, if_pos hd]
          rw [if_neg (by omega), if_neg (by omega)]
          rcases hp with q | ⟨q1, q2, q3⟩
          · rw [if_pos q, if_pos q]
            rfl
          · have p0 : σ 41 p.toNat 0 = V 59 p.toNat := ((h 3 p.toNat (by omega)).2.1 (by omega)).1
            rw [if_neg (by omega), if_neg (by omega), if_neg q2, if_neg (by omega), if_pos (by omega), p0, if_pos q3]
            rfl
        · have q62 := hV 62 y rfl rfl rfl
          have q59 := hV 59 y rfl rfl rfl
          have q54 := hV 54 (V 59 y).toNat rfl rfl rfl
          have q59p := hV 59 p.toNat rfl rfl rfl
          rw [run_go (k := 152) (as := [vh 51 0, vi y, vi p]) mt_152 (Nat.ne_of_beq_eq_false rfl) rfl (s_kX12_drops_0 _ y p s), ci_of (r_isHolder (d := d + 98) hV (y : Int)), ci_of (r_isHolder (d := d + 98) hV p)]
          simp only [bi_0, decide_eq_false_iff_not, Int.toNat_natCast, q62, q59, q54, q59p, if_pos r12, if_pos r3, if_pos (show V 62 y < 0 by omega)]
          rw [if_neg (by omega)]
          rcases hp with q | ⟨q1, q2, q3⟩
          · rw [if_pos q]
            rfl
          · rw [if_neg (by omega), if_neg (by omega), if_neg q2, if_pos (by omega), if_pos q3]
            rfl
      · refine two_ask (r := vi (-4)) hW ⟨σ, Sc.rf, ?_⟩ (fun s hV => ⟨s, Sc.rf, ?_⟩)
        · rw [run_go (k := 58) (as := [vh 0 0, vi y, vi p]) mt_58 (Nat.ne_of_beq_eq_false rfl) rfl (s_kX11_drops_0 _ y p σ), ci_of (c_isHolder (d := d + 98) h (y : Int)), ci_of (c_isHolder (d := d + 98) h p)]
          simp only [bi_0, decide_eq_false_iff_not, Int.toNat_natCast, c0, c2, if_pos r12, if_neg hd]
          rw [if_neg (by omega), if_neg (by omega)]
          rcases hp with q | ⟨q1, q2, q3⟩
          · rw [if_pos q, if_pos q]
            rfl
          · have p0 : σ 41 p.toNat 0 = V 59 p.toNat := ((h 3 p.toNat (by omega)).2.1 (by omega)).1
            rw [if_neg (by omega), if_neg (by omega), if_neg q2, if_neg (by omega), if_pos (by omega), p0, if_pos q3]
            rfl
        · have q62 := hV 62 y rfl rfl rfl
          have q59 := hV 59 y rfl rfl rfl
          have q59p := hV 59 p.toNat rfl rfl rfl
          rw [run_go (k := 152) (as := [vh 51 0, vi y, vi p]) mt_152 (Nat.ne_of_beq_eq_false rfl) rfl (s_kX12_drops_0 _ y p s), ci_of (r_isHolder (d := d + 98) hV (y : Int)), ci_of (r_isHolder (d := d + 98) hV p)]
          simp only [bi_0, decide_eq_false_iff_not, Int.toNat_natCast, q62, q59, q59p, if_pos r12, if_neg (show ¬ V 62 y < 0 by omega)]
          rw [if_neg (by omega)]
          rcases hp with q | ⟨q1, q2, q3⟩
          · rw [if_pos q]
            rfl
          · rw [if_neg (by omega), if_neg (by omega), if_neg q2, if_pos (by omega), if_pos q3]
            rfl
    · refine two_ask (r := vi (-1)) hW ⟨σ, Sc.rf, ?_⟩ (fun s hV => ⟨s, Sc.rf, ?_⟩)
      · rw [run_go (k := 58) (as := [vh 0 0, vi y, vi p]) mt_58 (Nat.ne_of_beq_eq_false rfl) rfl (s_kX11_drops_0 _ y p σ), ci_of (c_isHolder (d := d + 98) h (y : Int)), ci_of (c_isHolder (d := d + 98) h p)]
        simp only [bi_0, decide_eq_false_iff_not, Int.toNat_natCast, c0, if_pos r12]
        rw [if_neg (by omega)]
        by_cases p1 : p < -1
        · rw [if_pos p1]
          rfl
        · rw [if_neg p1, if_neg (by omega)]
          by_cases q1 : 0 ≤ p ∧ p < V 51 15
          · rw [if_neg (by omega)]
            by_cases q2 : p = y
            · rw [if_pos q2]
              rfl
            · have p0 : σ 41 p.toNat 0 = V 59 p.toNat := ((h 3 p.toNat (by omega)).2.1 (by omega)).1
              rw [if_neg q2, if_neg (by omega), if_pos (by omega), p0, if_neg (fun q => hp (.inr ⟨q1, q2, q⟩))]
              rfl
          · rw [if_pos q1]
            rfl
      · have q59 := hV 59 y rfl rfl rfl
        have q59p := hV 59 p.toNat rfl rfl rfl
        rw [run_go (k := 152) (as := [vh 51 0, vi y, vi p]) mt_152 (Nat.ne_of_beq_eq_false rfl) rfl (s_kX12_drops_0 _ y p s), ci_of (r_isHolder (d := d + 98) hV (y : Int)), ci_of (r_isHolder (d := d + 98) hV p)]
        simp only [bi_0, decide_eq_false_iff_not, Int.toNat_natCast, q59, q59p, if_pos r12]
        rw [if_neg (by omega), if_neg (by omega)]
        by_cases q1 : 0 ≤ p ∧ p < V 51 15
        · rw [if_neg (by omega)]
          by_cases q2 : p = y
          · rw [if_pos q2]
            rfl
          · rw [if_neg q2, if_pos (by omega), if_neg (fun q => hp (.inr ⟨q1, q2, q⟩))]
            rfl
        · rw [if_pos q1]
          rfl
  · refine two_ask (r := vi (-1)) hW ⟨σ, Sc.rf, ?_⟩ (fun s hV => ⟨s, Sc.rf, ?_⟩)
    · rw [run_go (k := 58) (as := [vh 0 0, vi x, vi p]) mt_58 (Nat.ne_of_beq_eq_false rfl) rfl (s_kX11_drops_0 _ x p σ), ci_of (c_isHolder (d := d + 98) h x)]
      simp only [bi_0, decide_eq_false_iff_not]
      rw [if_pos hx]
      rfl
    · rw [run_go (k := 152) (as := [vh 51 0, vi x, vi p]) mt_152 (Nat.ne_of_beq_eq_false rfl) rfl (s_kX12_drops_0 _ x p s), ci_of (r_isHolder (d := d + 98) hV x)]
      simp only [bi_0, decide_eq_false_iff_not]
      rw [if_pos hx]
      rfl
end
