-- done()
section
variable {σ : TM} {V : TVw} {g : Int} {d : Nat}
/-- the rows behind done() -/
noncomputable def dD (V : TVw) (g : Int) : TVw := vu (dT V g (V 54 g.toNat).toNat) 54 g.toNat (V 54 g.toNat + 1)
theorem dD_54 (x : Nat) : dD V g 54 x = if x = g.toNat then V 54 g.toNat + 1 else V 54 x := by
  unfold dD
  rw [vu_r]
  by_cases z : x = g.toNat
  · rw [if_pos ⟨rfl, z⟩, if_pos z]
  · rw [if_neg (fun q => z q.2), if_neg z]
    rfl
theorem dD_o {k : Nat} (hk : k ≠ 54) (x : Nat) : dD V g k x = dT V g (V 54 g.toNat).toNat k x := vu_k hk
theorem dD_inv (hI : Inv V) (hg : 0 ≤ g ∧ g < V 51 8) (ht : V 54 g.toNat < 30) : Inv (dD V g) := by
  have h0 := hI.cnt
  have h1 := dT_inv (t := (V 54 g.toNat).toNat) hI hg
  refine Inv.k (T := [54]) (Uv.up Uv.rf rfl) h1 (fun i hi hd => ?_)
  rcases (by decide : ∀ i, i < 16 → djT [54] (idep i) = false → i = 1 ∨ i = 4 ∨ i = 6) i hi hd with rfl | rfl | rfl
  rotate_left
  · intro x hx u hu q1 q2
    have hx : x < nH V := hx
    have q1 : 0 ≤ V 62 x := q1
    have q2 : V 62 x ≤ u := q2
    have hu : (u : Int) < dD V g 54 (V 59 x).toNat := hu
    rw [dD_54] at hu
    obtain ⟨b1, -⟩ := hI 1 g.toNat (by omega)
    obtain ⟨c1, -⟩ := hI 2 x hx
    show dTk V g (V 54 g.toNat).toNat (nP V) (nH V) 74 (12 * u + x) = 0
    refine dTk_74 (by omega) q1 q2 (fun c => hI 4 x hx u ?_ q1 q2)
    by_cases z : V 59 x = g
    · rw [if_pos (by rw [z])] at hu
      rw [z]
      have : u ≠ (V 54 g.toNat).toNat := fun e => c ⟨e, hx, z⟩
      omega
    · rw [if_neg (by omega)] at hu
      exact hu
  · intro x hx
    have hx : x < nH V := hx
    obtain ⟨b1, -⟩ := hI 1 g.toNat (by omega)
    obtain ⟨c1, -⟩ := hI 2 x hx
    refine ⟨(h1 6 x hx).1, (h1 6 x hx).2.1, fun u hu => ?_⟩
    have hu : (u : Int) < dD V g 54 (V 59 x).toNat := hu
    rw [dD_54] at hu
    show rgI (dTk V g (V 54 g.toNat).toNat (nP V) (nH V) 73 (12 * u + x))
    refine dTk_73 (by omega) (h1 6 x hx).1 (fun c => (hI 6 x hx).2.2 u ?_)
    by_cases z : V 59 x = g
    · rw [if_pos (by rw [z])] at hu
      rw [z]
      have : u ≠ (V 54 g.toNat).toNat := fun e => c ⟨e, hx, z⟩
      omega
    · rw [if_neg (by omega)] at hu
      exact hu
  intro x hx
  obtain ⟨a1, a2, a3, a4⟩ := h1 1 x hx
  obtain ⟨b1, -⟩ := hI 1 g.toNat (by omega)
  show 0 ≤ dD V g 54 x ∧ dD V g 54 x ≤ 30 ∧ (nG V ≤ x → dD V g 54 x = 0 ∧ dT V g (V 54 g.toNat).toNat 55 x = 0) ∧ _
  rw [dD_54]
  have a1 : 0 ≤ V 54 x := a1
  have a2 : V 54 x ≤ 30 := a2
  have a3 : nG V ≤ x → V 54 x = 0 ∧ dT V g (V 54 g.toNat).toNat 55 x = 0 := a3
  refine ⟨?_, ?_, fun z => ?_, a4⟩
  · split <;> omega
  · split <;> omega
  · rw [if_neg (by omega)]
    exact a3 z
set_option maxHeartbeats 4000000 in
theorem c_done (h : CR σ V) (hK : KW σ V) (hg : 0 ≤ g ∧ g < V 51 8) (ht : V 54 g.toNat < 30) (hd : ¬ V 51 0 < V 53 g.toNat + 7 * (V 54 g.toNat + 1)) : ∃ s, FC σ s ∧ CR s (dD V g) ∧ KW s (dD V g) ∧ t_run tbl mtb (d + 9) 105 [vh 0 0, vi g] σ = some (some (vi (V 54 g.toNat + 1)), s) := by
  have hI := h.inv
  have h0 := hI.cnt
  have rg : 0 ≤ g ∧ g < 3 := by omega
  obtain ⟨b1, -⟩ := hI 1 g.toNat (by omega)
  obtain ⟨k1, k2⟩ := hK g hg.1 hg.2
  have et : ((V 54 g.toNat).toNat : Int) = V 54 g.toNat := Int.toNat_of_nonneg b1
  obtain ⟨e2, -⟩ := h 1 g.toNat (by omega)
  obtain ⟨s, a1, a2, a4, a5, a6, a7⟩ := c_doTurn (d := d) (t := (V 54 g.toNat).toNat) h (k1.mU hI) hg (by omega)
  rw [et] at a7
  have f1 : FC σ s := FC.of a1 sct_C
  obtain ⟨f2, -⟩ := a2 1 g.toNat (by omega)
  have f2 : s 38 g.toNat 2 = V 54 g.toNat := f2
  have ew : w32 (V 54 g.toNat + 1) = V 54 g.toNat + 1 := w32_id (by omega) (by omega)
  have hI2 := dD_inv hI hg ht
  refine ⟨t_upd s 38 g.toNat 2 (V 54 g.toNat + 1), f1.up rfl, ?_, ?_, ?_⟩
  · refine CR.k (T := [38, 54]) (Uc.up Uc.rf rfl) (Uv.up Uv.rf rfl) a2 hI2 (fun i hi hd => ?_)
    rcases (by decide : ∀ i, i < 16 → djT [38, 54] (cdep i) = false → i = 1 ∨ i = 4 ∨ i = 7) i hi hd with rfl | rfl | rfl
    · intro x hx
      obtain ⟨q1, q2, q3, q4⟩ := a2 1 x hx
      have f : ∀ j, j ≠ 2 → t_upd s 38 g.toNat 2 (V 54 g.toNat + 1) 38 x j = s 38 x j := fun j hj => up_j hj
      rw [f 0 (by decide), f 1 (by decide), f 3 (by decide), f 4 (by decide)]
      refine ⟨?_, q2, q3, q4⟩
      rw [dD_54]
      by_cases z : x = g.toNat
      · subst z
        rw [up_same, if_pos rfl]
      · rw [up_i z, if_neg z]
        exact q1
    · intro x hx
      have hx : x < nH V := hx
      obtain ⟨q1, q2⟩ := a2 4 x hx
      refine ⟨?_, fun u hu => ?_⟩
      · rw [up_k (by decide)]
        exact q1
      · rw [up_k (by decide), up_k (by decide)]
        have hu : (u : Int) < dD V g 54 (V 59 x).toNat := hu
        rw [dD_54] at hu
        show s 42 x (u + 1) = dT V g (V 54 g.toNat).toNat 73 (12 * u + x) ∧ s 43 x u = dT V g (V 54 g.toNat).toNat 74 (12 * u + x)
        obtain ⟨g1, g2, -⟩ := hI 2 x hx
        by_cases z : V 59 x = g ∧ u = (V 54 g.toNat).toNat
        · obtain ⟨y1, y2⟩ := a5 x hx z.1
          have e1 : (12 * u + x) / 12 = u := by omega
          have e3 : (12 * u + x) % 12 = x := by omega
          show s 42 x (u + 1) = (if (12 * u + x) / 12 = (V 54 g.toNat).toNat ∧ (12 * u + x) % 12 < nH V ∧ V 59 ((12 * u + x) % 12) = g then aN V g (V 54 g.toNat).toNat 60 ((12 * u + x) % 12) else V 73 (12 * u + x)) ∧ s 43 x u = (if (12 * u + x) / 12 = (V 54 g.toNat).toNat ∧ (12 * u + x) % 12 < nH V ∧ V 59 ((12 * u + x) % 12) = g then dF V g (aA V (V 54 g.toNat).toNat) (aT V (V 54 g.toNat).toNat) (aI V (V 54 g.toNat).toNat) (V 54 g.toNat).toNat ((12 * u + x) % 12) else V 74 (12 * u + x))
          rw [e1, e3, if_pos ⟨z.2, hx, z.1⟩, if_pos ⟨z.2, hx, z.1⟩, z.2, y1, y2]
          exact ⟨rfl, rfl⟩
        · have hu2 : (u : Int) < V 54 (V 59 x).toNat := by
            by_cases y : (V 59 x).toNat = g.toNat
            · rw [if_pos y] at hu
              have : V 59 x = g := by omega
              rw [y]
              by_cases w : u = (V 54 g.toNat).toNat
              · exact absurd ⟨this, w⟩ z
              · omega
            · rw [if_neg y] at hu
              exact hu
          exact q2 u hu2
    · intro p hp
      obtain ⟨q1, q2⟩ := a2 7 p hp
      rw [up_k (by decide)]
      refine ⟨q1, fun hpn => ?_⟩
      have hpn : p < nP V := hpn
      obtain ⟨q3, q4⟩ := q2 hpn
      rw [up_k (by decide)]
      refine ⟨q3, fun u hu => ?_⟩
      have hu : (u : Int) < dD V g 54 (fgm V p).toNat := hu
      rw [dD_54] at hu
      rw [up_k (by decide), up_k (by decide)]
      show (0 ≤ dT V g (V 54 g.toNat).toNat 72 (40 * u + p) → s 19 p (u + 1) = 0 ∧ s 18 p (u + 1) = dT V g (V 54 g.toNat).toNat 72 (40 * u + p)) ∧ (dT V g (V 54 g.toNat).toNat 72 (40 * u + p) < 0 → s 19 p (u + 1) = 1)
      have hgm := gm_r hI hpn
      by_cases z : fgm V p = g ∧ u = (V 54 g.toNat).toNat
      · obtain ⟨y1, y2⟩ := a4 p hpn z.1
        rw [dT_72 V g _ u p hp, if_pos ⟨z.2, hpn, z.1⟩, z.2, y1, y2]
        obtain ⟨-, -, w1, w2, -, -, w3, -⟩ := dT_inv (t := (V 54 g.toNat).toNat) hI hg 3 p hpn
        have eX : dX V g (V 54 g.toNat).toNat p = if dT V g (V 54 g.toNat).toNat 69 p = 0 then dT V g (V 54 g.toNat).toNat 66 p else -1 := rfl
        rw [eX]
        rcases w3 with w | w
        · rw [if_pos w, w]
          exact ⟨fun _ => ⟨rfl, rfl⟩, fun q => by omega⟩
        · rw [if_neg (by omega), w]
          exact ⟨fun q => by omega, fun _ => rfl⟩
      · have hu2 : (u : Int) < V 54 (fgm V p).toNat := by
          by_cases y : (fgm V p).toNat = g.toNat
          · rw [if_pos y] at hu
            have : fgm V p = g := by omega
            rw [y]
            by_cases w : u = (V 54 g.toNat).toNat
            · exact absurd ⟨this, w⟩ z
            · omega
          · rw [if_neg y] at hu
            exact hu
        exact q4 u hu2
  · intro g2 g0 g1
    have g1 : g2 < V 51 8 := g1
    rw [dD_54]
    have e18 : ∀ p j, t_upd s 38 g.toNat 2 (V 54 g.toNat + 1) 18 p j = s 18 p j := fun p j => up_k (by decide)
    by_cases z : g2 = g
    · subst z
      rw [if_pos rfl, show (V 54 g2.toNat + 1).toNat = (V 54 g2.toNat).toNat + 1 by omega]
      exact ⟨(k1.turn hI hg).cong rfl (fun p _ => rfl) (fun p _ _ => ⟨rfl, rfl, rfl, fun u _ => rfl⟩), (k2.turn hI (fun p hp hpg => (a4 p hp hpg).1) a6).cong rfl (fun p _ => rfl) (fun p _ _ => ⟨rfl, fun u _ => rfl⟩) (fun p _ _ j _ => e18 p j)⟩
    · rw [if_neg (by omega)]
      obtain ⟨j1, j2⟩ := hK g2 g0 g1
      exact ⟨(j1.other hI z).cong rfl (fun p _ => rfl) (fun p _ _ => ⟨rfl, rfl, rfl, fun u _ => rfl⟩), (j2.other hI z a6).cong rfl (fun p _ => rfl) (fun p _ _ => ⟨rfl, fun u _ => rfl⟩) (fun p _ _ j _ => e18 p j)⟩
  · have ed := c_due (d := d + 7) h (g := g.toNat) (by omega) (t := V 54 g.toNat) b1 (by omega)
    rw [run_go (k := 105) (as := [vh 0 0, vi g]) mt_105 (Nat.ne_of_beq_eq_false rfl) rfl (s_kX11_done_0 _ g σ), ci_of (c_isGame (d := d + 7) h g)]
    simp only [bi_0, decide_eq_false_iff_not]
    rw [if_neg (by omega), if_pos rg, e2, if_pos ht, ci_of ed, h.day, if_neg hd, e2, cv_of a7]
    simp only [f2, ew, up_same]
    rfl
theorem r_done (hV : RV σ V) (hI : Inv V) (hg : 0 ≤ g ∧ g < V 51 8) (ht : V 54 g.toNat < 30) (hd : ¬ V 51 0 < V 53 g.toNat + 7 * (V 54 g.toNat + 1)) : ∃ s, FR σ s ∧ RV s (dD V g) ∧ t_run tbl mtb (d + 75) 213 [vh 51 0, vi g] σ = some (some (vi (V 54 g.toNat + 1)), s) := by
  have h0 := hI.cnt
  have rg : 0 ≤ g ∧ g < 3 := by omega
  obtain ⟨b1, -⟩ := hI 1 g.toNat (by omega)
  have et : ((V 54 g.toNat).toNat : Int) = V 54 g.toNat := Int.toNat_of_nonneg b1
  have eg : (g.toNat : Int) = g := Int.toNat_of_nonneg hg.1
  obtain ⟨s, a1, a2, a3⟩ := r_doTurn (d := d) (t := (V 54 g.toNat).toNat) hV hI hg (by omega)
  rw [et] at a3
  have e54 : s 54 0 g.toNat = V 54 g.toNat := a2 54 g.toNat rfl rfl rfl
  have ew : w32 (V 54 g.toNat + 1) = V 54 g.toNat + 1 := w32_id (by omega) (by omega)
  have ed := r_dueOn (d := d + 73) hV hI (g := g.toNat) (by omega) (t := V 54 g.toNat) b1 (by omega)
  rw [eg] at ed
  refine ⟨t_upd s 54 0 g.toNat (V 54 g.toNat + 1), (FR.of a1 srd_R).up rfl, a2.up, ?_⟩
  rw [run_go (k := 213) (as := [vh 51 0, vi g]) mt_213 (Nat.ne_of_beq_eq_false rfl) rfl (s_kX12_done_0 _ g σ), ci_of (r_isGame (d := d + 73) hV g)]
  simp only [bi_0, decide_eq_false_iff_not]
  rw [if_neg (by omega), if_pos rg, hV 54 _ rfl rfl rfl, if_neg (by omega), if_pos rg, ci_of ed, hV 51 0 rfl rfl rfl, if_neg hd, if_pos rg, hV 54 _ rfl rfl rfl, cv_of a3, if_pos rg, if_pos rg, if_pos rg]
  simp only [e54, ew, up_same]
  rfl
theorem two_done (hW : WW σ V) (g : Int) : Two (d + 100) 105 213 [vi g] σ := by
  have h := hW.1
  have hI := h.inv
  have h0 := hI.cnt
  by_cases hg : 0 ≤ g ∧ g < V 51 8
  · have rg : 0 ≤ g ∧ g < 3 := by omega
    obtain ⟨b1, b2, -⟩ := hI 1 g.toNat (by omega)
    obtain ⟨e2, -⟩ := h 1 g.toNat (by omega)
    have eg : (g.toNat : Int) = g := Int.toNat_of_nonneg hg.1
    by_cases ht : V 54 g.toNat < 30
    · by_cases hd : V 51 0 < V 53 g.toNat + 7 * (V 54 g.toNat + 1)
      · refine two_ask (r := vi (-2)) hW ⟨σ, Sc.rf, ?_⟩ (fun s hV => ⟨s, Sc.rf, ?_⟩)
        · have ed := c_due (d := d + 98) h (g := g.toNat) (by omega) (t := V 54 g.toNat) b1 (by omega)
          rw [run_go (k := 105) (as := [vh 0 0, vi g]) mt_105 (Nat.ne_of_beq_eq_false rfl) rfl (s_kX11_done_0 _ g σ), ci_of (c_isGame (d := d + 98) h g)]
          simp only [bi_0, decide_eq_false_iff_not]
          rw [if_neg (by omega), if_pos rg, e2, if_pos ht, ci_of ed, h.day, if_pos hd]
          rfl
        · have ed := r_dueOn (d := d + 98) hV hI (g := g.toNat) (by omega) (t := V 54 g.toNat) b1 (by omega)
          rw [eg] at ed
          rw [run_go (k := 213) (as := [vh 51 0, vi g]) mt_213 (Nat.ne_of_beq_eq_false rfl) rfl (s_kX12_done_0 _ g s), ci_of (r_isGame (d := d + 98) hV g)]
          simp only [bi_0, decide_eq_false_iff_not]
          rw [if_neg (by omega), if_pos rg, hV 54 _ rfl rfl rfl, if_neg (by omega), if_pos rg, ci_of ed, hV 51 0 rfl rfl rfl, if_pos hd]
          rfl
      · exact two_of hW (c_done (d := d + 91) h hW.2.2 hg ht hd) (fun s hV => r_done (d := d + 25) hV hI hg ht hd)
    · refine two_ask (r := vi (-3)) hW ⟨σ, Sc.rf, ?_⟩ (fun s hV => ⟨s, Sc.rf, ?_⟩)
      · rw [run_go (k := 105) (as := [vh 0 0, vi g]) mt_105 (Nat.ne_of_beq_eq_false rfl) rfl (s_kX11_done_0 _ g σ), ci_of (c_isGame (d := d + 98) h g)]
        simp only [bi_0, decide_eq_false_iff_not]
        rw [if_neg (by omega), if_pos rg, e2, if_neg ht]
        rfl
      · rw [run_go (k := 213) (as := [vh 51 0, vi g]) mt_213 (Nat.ne_of_beq_eq_false rfl) rfl (s_kX12_done_0 _ g s), ci_of (r_isGame (d := d + 98) hV g)]
        simp only [bi_0, decide_eq_false_iff_not]
        rw [if_neg (by omega), if_pos rg, hV 54 _ rfl rfl rfl, if_pos (by omega)]
        rfl
  · refine two_ask (r := vi (-1)) hW ⟨σ, Sc.rf, ?_⟩ (fun s hV => ⟨s, Sc.rf, ?_⟩)
    · rw [run_go (k := 105) (as := [vh 0 0, vi g]) mt_105 (Nat.ne_of_beq_eq_false rfl) rfl (s_kX11_done_0 _ g σ), ci_of (c_isGame (d := d + 98) h g)]
      simp only [bi_0, decide_eq_false_iff_not]
      rw [if_pos hg]
      rfl
    · rw [run_go (k := 213) (as := [vh 51 0, vi g]) mt_213 (Nat.ne_of_beq_eq_false rfl) rfl (s_kX12_done_0 _ g s), ci_of (r_isGame (d := d + 98) hV g)]
      simp only [bi_0, decide_eq_false_iff_not]
      rw [if_pos hg]
      rfl
end
