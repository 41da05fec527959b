-- what rules say, on both sides
theorem fgv_no {V : TVw} {w t k : Int} {N : Nat → Int} {wo : Int} (h : fru V w t k = -1) : fgv V w t k N wo = wo := by
  unfold fgv
  rw [if_pos (by omega)]
theorem fgv_yes {V : TVw} {w t k : Int} {N : Nat → Int} {wo : Int} (h : 0 ≤ fru V w t k) : fgv V w t k N wo = fev V (fru V w t k).toNat N := by
  unfold fgv
  rw [if_neg (by omega)]
section
variable {σ : TM} {V : TVw} {d : Nat}
theorem c_mayBe (h : CR σ V) {p : Nat} (hp : p < nP V) {w a t : Int} (hw : w = 1 → 0 ≤ a ∧ a < 48) : ∃ σ', Sc s1 σ σ' ∧ t_run tbl mtb (d + 3) 84 [vh 0 0, vi p, vi w, vi a, vi t] σ = some (some (vi (bi (fmy V p w a t))), σ') := by
  have h0 := h.cnt
  have hg := gm_r h.inv hp
  obtain ⟨e0, -⟩ := h 5 p hp
  rw [run_go (k := 84) (as := [vh 0 0, vi p, vi w, vi a, vi t]) mt_84 (Nat.ne_of_beq_eq_false rfl) rfl (s_kX11_mayBe_0 _ p w a t σ), Int.toNat_natCast, if_pos (by omega), e0, h.day, ci_of (c_ruleIn h.nr (h 9) h.inv hg.1 (by omega) (by decide) (by decide)), Int.add_zero]
  unfold fmy
  rcases fru_r V (10 * fgm V p) t (V 51 0) with q | ⟨q1, q2, q3⟩
  · rw [if_pos q, fgv_no q]
    exact ⟨σ, Sc.rf, rfl⟩
  · obtain ⟨σ1, a1, a2, a3⟩ := c_namePiece (d := d) h hp (t := t) hw
    have h1 := h.sc a1.s1
    obtain ⟨σ2, b1, b2⟩ := c_worth (d := d) (h1 9) h.inv q2 a2
    rw [if_neg (by omega), cv_of a3, if_pos (by omega), ci_of b2, fgv_yes q1]
    refine ⟨σ2, a1.tr b1, ?_⟩
    split <;> exact leaf_b (by omega)
theorem c_tieOf (h : CR σ V) {p : Nat} (hp : p < nP V) {a t : Int} (ha : 0 ≤ a ∧ a < 48) : ∃ σ', Sc s1 σ σ' ∧ t_run tbl mtb (d + 3) 85 [vh 0 0, vi p, vi 1, vi a, vi t] σ = some (some (vi (fti V p a t)), σ') := by
  have h0 := h.cnt
  have hg := gm_r h.inv hp
  obtain ⟨e0, -⟩ := h 5 p hp
  rw [run_go (k := 85) (as := [vh 0 0, vi p, vi 1, vi a, vi t]) mt_85 (Nat.ne_of_beq_eq_false rfl) rfl (s_kX11_tieOf_0 _ p 1 a t σ), Int.toNat_natCast, if_pos (by omega), e0, h.day, ci_of (c_ruleIn h.nr (h 9) h.inv hg.1 (by omega) (by decide) (by decide))]
  unfold fti
  rcases fru_r V (10 * fgm V p + 1) t (V 51 0) with q | ⟨q1, q2, q3⟩
  · rw [if_pos q, fgv_no q]
    exact ⟨σ, Sc.rf, rfl⟩
  · obtain ⟨σ1, a1, a2, a3⟩ := c_namePiece (d := d) h hp (w := 1) (t := t) (fun _ => ha)
    have h1 := h.sc a1.s1
    have hS2 : Sc s1 σ1 (t_upd σ1 25 0 9 (fdr V p t)) := Sc.rf.up rfl
    have hN : ∀ k, k < 11 → t_upd σ1 25 0 9 (fdr V p t) 25 0 k = fNp V p t 1 a (fdr V p t) k := by
      intro k hk
      by_cases e : k = 9
      · rw [e, up_same]
        rfl
      · rw [up_j e, a2 k hk]
        rcases (by omega : k = 0 ∨ k = 1 ∨ k = 2 ∨ k = 3 ∨ k = 4 ∨ k = 5 ∨ k = 6 ∨ k = 7 ∨ k = 8 ∨ k = 10) with rfl | rfl | rfl | rfl | rfl | rfl | rfl | rfl | rfl | rfl <;> rfl
    obtain ⟨σ2, b1, b2⟩ := c_worth (d := d) ((h1.sc hS2.s1) 9) h.inv q2 hN
    rw [if_neg (by omega), cv_of a3, ci_of (c_drawnFor h1 hp t), if_pos (by omega), ci_of b2, fgv_yes q1]
    exact ⟨σ2, (a1.tr hS2).tr b1, rfl⟩
theorem c_sightOf (h : CR σ V) {p : Nat} (hp : p < nP V) : ∃ σ', Sc s1 σ σ' ∧ t_run tbl mtb (d + 3) 86 [vh 0 0, vi p] σ = some (some (vi (fsi V p (V 54 (fgm V p).toNat))), σ') := by
  have h0 := h.cnt
  have hg := gm_r h.inv hp
  obtain ⟨e0, -⟩ := h 5 p hp
  obtain ⟨g2, -⟩ := h 1 (fgm V p).toNat (by omega)
  rw [run_go (k := 86) (as := [vh 0 0, vi p]) mt_86 (Nat.ne_of_beq_eq_false rfl) rfl (s_kX11_sightOf_0 _ p σ), Int.toNat_natCast, if_pos (by omega), e0, if_pos (by omega), h.day, g2, ci_of (c_ruleIn h.nr (h 9) h.inv hg.1 (by omega) (by decide) (by decide))]
  unfold fsi
  rcases fru_r V (10 * fgm V p + 2) (V 54 (fgm V p).toNat) (V 51 0) with q | ⟨q1, q2, q3⟩
  · rw [if_pos q, fgv_no q]
    exact ⟨σ, Sc.rf, rfl⟩
  · obtain ⟨σ1, a1, a2, a3⟩ := c_namePiece (d := d) h hp (w := 0) (a := 0) (t := V 54 (fgm V p).toNat) (by omega)
    have h1 := h.sc a1.s1
    obtain ⟨σ2, b1, b2⟩ := c_worth (d := d) (h1 9) h.inv q2 a2
    rw [if_neg (by omega), cv_of a3, if_pos (by omega), ci_of b2, ci_of (c_within _ 9 (by decide)), fgv_yes q1]
    exact ⟨σ2, a1.tr b1, rfl⟩
theorem c_feeOf (hr : σ 0 0 13 = V 51 34) (hd : σ 0 0 0 = V 51 0) (h9 : crc σ V 9) (hI : Inv V) {x : Nat} (hx : x < nH V) (hx0 : σ 41 x 0 = V 59 x) (hx1 : σ 41 x 1 = V 60 x) (t n : Int) : ∃ σ', Sc s1 σ σ' ∧ t_run tbl mtb (d + 3) 87 [vh 0 0, vi x, vi t, vi n] σ = some (some (vi (ffe V x t n)), σ') := by
  have h0 := hI.cnt
  obtain ⟨g1, g2, -⟩ := hI 2 x hx
  rw [run_go (k := 87) (as := [vh 0 0, vi x, vi t, vi n]) mt_87 (Nat.ne_of_beq_eq_false rfl) rfl (s_kX11_feeOf_0 _ x t n σ), Int.toNat_natCast, if_pos (by omega), hx0, hd, ci_of (c_ruleIn hr h9 hI g1 (by omega) (by decide) (by decide))]
  unfold ffe
  rcases fru_r V (10 * V 59 x + 4) t (V 51 0) with q | ⟨q1, q2, q3⟩
  · rw [if_pos q, fgv_no q]
    exact ⟨σ, Sc.rf, rfl⟩
  · obtain ⟨σ1, a1, a2, a3⟩ := c_clearNames (σ := σ) (d := d + 1)
    have hS2 : Sc s1 σ1 (t_upd (t_upd (t_upd (t_upd σ1 25 0 0 t) 25 0 3 (x : Int)) 25 0 8 n) 25 0 10 (V 60 x)) := (((Sc.rf.up rfl).up rfl).up rfl).up rfl
    have hN : ∀ k, k < 11 → t_upd (t_upd (t_upd (t_upd σ1 25 0 0 t) 25 0 3 (x : Int)) 25 0 8 n) 25 0 10 (V 60 x) 25 0 k = fNh t x n (V 60 x) k := by
      intro k hk
      rcases (by omega : k = 0 ∨ k = 1 ∨ k = 2 ∨ k = 3 ∨ k = 4 ∨ k = 5 ∨ k = 6 ∨ k = 7 ∨ k = 8 ∨ k = 9 ∨ k = 10) with rfl | rfl | rfl | rfl | rfl | rfl | rfl | rfl | rfl | rfl | rfl
      · rw [up_j (by decide), up_j (by decide), up_j (by decide), up_same]; rfl
      · rw [up_j (by decide), up_j (by decide), up_j (by decide), up_j (by decide), a2 _ hk]; rfl
      · rw [up_j (by decide), up_j (by decide), up_j (by decide), up_j (by decide), a2 _ hk]; rfl
      · rw [up_j (by decide), up_j (by decide), up_same]; rfl
      · rw [up_j (by decide), up_j (by decide), up_j (by decide), up_j (by decide), a2 _ hk]; rfl
      · rw [up_j (by decide), up_j (by decide), up_j (by decide), up_j (by decide), a2 _ hk]; rfl
      · rw [up_j (by decide), up_j (by decide), up_j (by decide), up_j (by decide), a2 _ hk]; rfl
      · rw [up_j (by decide), up_j (by decide), up_j (by decide), up_j (by decide), a2 _ hk]; rfl
      · rw [up_j (by decide), up_same]; rfl
      · rw [up_j (by decide), up_j (by decide), up_j (by decide), up_j (by decide), a2 _ hk]; rfl
      · rw [up_same]; rfl
    have h9' : crc (t_upd (t_upd (t_upd (t_upd σ1 25 0 0 t) 25 0 3 (x : Int)) 25 0 8 n) 25 0 10 (V 60 x)) V 9 := crc_sc (a1.tr hS2).s1 9 h9
    obtain ⟨σ2, b1, b2⟩ := c_worth (d := d) h9' hI q2 hN
    rw [if_neg (by omega), cv_of a3, if_pos (by omega), up_k (by decide), up_k (by decide), up_k (by decide), a1 41 x 1 rfl, hx1, ci_of b2, ci_of (c_within _ 9999 (by decide)), fgv_yes q1]
    exact ⟨σ2, (a1.tr hS2).tr b1, rfl⟩
theorem c_cardCounts (h : CR σ V) {c : Nat} (hc : c < nC V) : ∃ σ', Sc s1 σ σ' ∧ t_run tbl mtb (d + 3) 100 [vh 0 0, vh 44 c] σ = some (some (vi (bi (fct V c))), σ') := by
  have h0 := h.cnt
  obtain ⟨k0, k1, k2, k3, k4, k5⟩ := h 10 c hc
  obtain ⟨i1, i2, i3, i4, i5, i6, i7, i8, i9, i10, i11, i12, -⟩ := h.inv 10 c hc
  obtain ⟨g1, g2, -⟩ := h.inv 2 (V 82 c).toNat (by omega)
  obtain ⟨-, hh, -⟩ := h 3 (V 82 c).toNat (by omega)
  have hh := (hh (by omega)).1
  rw [run_go (k := 100) (as := [vh 0 0, vh 44 c]) mt_100 (Nat.ne_of_beq_eq_false rfl) rfl (s_kX11_cardCounts_0 _ c σ), k5]
  by_cases a : V 85 c = -1
  · rw [if_pos a]
    refine ⟨σ, Sc.rf, ?_⟩
    have : fct V c = false := by
      unfold fct
      simp only [decide_eq_false_iff_not]
      omega
    rw [this]
    rfl
  rw [if_neg a, ci_of (c_late h hc), bi_0']
  by_cases b : V 85 c = V 86 c
  · have : flt V c = false := by
      unfold flt
      simp only [decide_eq_false_iff_not]
      omega
    rw [if_pos this]
    refine ⟨σ, Sc.rf, ?_⟩
    have : fct V c = true := by
      unfold fct
      simp only [decide_eq_true_eq]
      exact ⟨by omega, .inl b⟩
    rw [this]
    rfl
  have hl : ¬ flt V c = false := by
    unfold flt
    simp only [decide_eq_false_iff_not]
    omega
  rw [if_neg hl, k1, if_pos (by omega), hh, k4, k3, ci_of (c_ruleIn h.nr (h 9) h.inv g1 (by omega) (by decide) (by decide))]
  have e : fct V c = decide (fgv V (10 * V 59 (V 82 c).toNat + 3) (V 86 c) (V 84 c) (fNh (V 86 c) (V 82 c) 0 0) 1 ≠ 0) := by
    unfold fct
    refine decide_eq_decide.mpr ⟨fun q => ?_, fun q => ⟨by omega, .inr q⟩⟩
    rcases q.2 with q | q
    · exact absurd q b
    · exact q
  rw [e]
  rcases fru_r V (10 * V 59 (V 82 c).toNat + 3) (V 86 c) (V 84 c) with q | ⟨q1, q2, q3⟩
  · rw [if_pos q, fgv_no q]
    exact ⟨σ, Sc.rf, rfl⟩
  · obtain ⟨σ1, a1, a2, a3⟩ := c_clearNames (σ := σ) (d := d + 1)
    have hS2 : Sc s1 σ1 (t_upd (t_upd σ1 25 0 0 (V 86 c)) 25 0 3 (V 82 c)) := (Sc.rf.up rfl).up rfl
    have hN : ∀ k, k < 11 → t_upd (t_upd σ1 25 0 0 (V 86 c)) 25 0 3 (V 82 c) 25 0 k = fNh (V 86 c) (V 82 c) 0 0 k := by
      intro k hk
      rcases (by omega : k = 0 ∨ k = 1 ∨ k = 2 ∨ k = 3 ∨ k = 4 ∨ k = 5 ∨ k = 6 ∨ k = 7 ∨ k = 8 ∨ k = 9 ∨ k = 10) with rfl | rfl | rfl | rfl | rfl | rfl | rfl | rfl | rfl | rfl | rfl
      · rw [up_j (by decide), up_same]; rfl
      · rw [up_j (by decide), up_j (by decide), a2 _ hk]; rfl
      · rw [up_j (by decide), up_j (by decide), a2 _ hk]; rfl
      · rw [up_same]; rfl
      · rw [up_j (by decide), up_j (by decide), a2 _ hk]; rfl
      · rw [up_j (by decide), up_j (by decide), a2 _ hk]; rfl
      · rw [up_j (by decide), up_j (by decide), a2 _ hk]; rfl
      · rw [up_j (by decide), up_j (by decide), a2 _ hk]; rfl
      · rw [up_j (by decide), up_j (by decide), a2 _ hk]; rfl
      · rw [up_j (by decide), up_j (by decide), a2 _ hk]; rfl
      · rw [up_j (by decide), up_j (by decide), a2 _ hk]; rfl
    obtain ⟨σ2, b1, b2⟩ := c_worth (d := d) ((h.sc (a1.tr hS2).s1) 9) h.inv q2 hN
    rw [if_neg (by omega), cv_of a3, if_pos (by omega), up_k (by decide), a1 44 c 4 rfl, a1 44 c 1 rfl, k4, k1, ci_of b2, fgv_yes q1]
    refine ⟨σ2, (a1.tr hS2).tr b1, ?_⟩
    split <;> exact leaf_b (by omega)
-- the reference
theorem r_gives (hV : RV σ V) (hI : Inv V) {g u t k wo : Int} {N : Nat → Int} (hg : 0 ≤ g) (hg3 : g < 3) (hu : 0 ≤ u) (hu5 : u < 5) (hN : ∀ k, k < 11 → σ 94 0 k = N k) : ∃ σ', Sc s2 σ σ' ∧ t_run tbl mtb (d + 66) 177 [vh 51 0, vi g, vi u, vi t, vi k, vi wo] σ = some (some (vi (fgv V (10 * g + u) t k N wo)), σ') := by
  have h0 := hI.cnt
  rw [run_go (k := 177) (as := [vh 51 0, vi g, vi u, vi t, vi k, vi wo]) mt_177 (Nat.ne_of_beq_eq_false rfl) rfl (s_kX12_gives_0 _ g u t k wo σ), w32_id (x := 10 * g) (by omega) (by omega), w32_id (x := 10 * g + u) (by omega) (by omega), ci_of (r_ruleFor hV hI _ t k)]
  rcases fru_r V (10 * g + u) t k with q | ⟨q1, q2, q3⟩
  · rw [if_pos (by omega), fgv_no q]
    exact ⟨σ, Sc.rf, rfl⟩
  · obtain ⟨-, -, -, -, -, -, -, t1, t2, hb, c, v, e⟩ := hI 9 _ q2
    rw [if_neg (by omega), if_pos (by omega), hV 77 _ rfl rfl rfl, w32_id (by omega) (by omega), fgv_yes q1]
    generalize hz : (fru V (10 * g + u) t k).toNat = z at *
    obtain ⟨σ', a1, x, a2, a3⟩ := r_workOut (d := d) (n := (V 77 z).toNat) (b := fun i => V 76 (160 * z + i)) (N := N) (σ := σ) (B := 160 * fru V (10 * g + u) t k) (by omega) hb (.inr ⟨by omega, by omega, fun i hi => by rw [show (160 * fru V (10 * g + u) t k).toNat + i = 160 * z + i by omega, hV 76 _ rfl rfl rfl]⟩) hN
    have e2 : p_tx (fun i => V 76 (160 * z + i)) (V 77 z).toNat 161 0 0 = .inr (c, v) := e
    rw [e2] at a3
    rw [Int.toNat_of_nonneg t1] at a2
    refine ⟨σ', a1, ?_⟩
    rw [ci_of a2, show fev V z N = v N by unfold fev; rw [e], ← a3.2]
    rfl
theorem r_nameOrder (hV : RV σ V) (hI : Inv V) {p : Nat} (hp : p < nP V) {w a t : Int} (hw : w = 1 → 0 ≤ a ∧ a < 48) : ∃ σ', Sc s2 σ σ' ∧ (∀ k, k < 11 → σ' 94 0 k = fNp V p t w a 0 k) ∧ t_run tbl mtb (d + 2) 180 [vh 51 0, vi p, vi t, vi w, vi a] σ = some (none, σ') := by
  have h0 := hI.cnt
  have hg := gm_r hI hp
  obtain ⟨i1, i2, k1, k2, -⟩ := hI 3 p hp
  have r1 : 0 ≤ (p : Int) ∧ (p : Int) < 40 := by omega
  obtain ⟨σ1, a1, a2, a3⟩ := r_noNames (σ := σ) (d := d) t
  have v1 := hV.sc a1.s2
  rw [run_go (k := 180) (as := [vh 51 0, vi p, vi t, vi w, vi a]) mt_180 (Nat.ne_of_beq_eq_false rfl) rfl (s_kX12_nameOrder_0 _ p t w a σ), if_pos r1, cv_of a3]
  have u94 : ∀ (σ : TM) (j : Nat) (v : Int) (k b c : Nat), k ≠ 94 → t_upd σ 94 0 j v k b c = σ k b c := fun _ _ _ _ _ _ h => up_k h
  have e68 : ∀ j, σ1 68 0 j = V 68 j := fun j => v1 68 j rfl rfl rfl
  have e66 : ∀ j, σ1 66 0 j = V 66 j := fun j => v1 66 j rfl rfl rfl
  have e65 : ∀ j, σ 65 0 j = V 65 j := fun j => hV 65 j rfl rfl rfl
  simp only [Int.toNat_natCast, if_pos r1, u94 _ _ _ 68 _ _ (by decide), u94 _ _ _ 66 _ _ (by decide), e65, e66, e68]
  have key : ∀ G : Int, 0 ≤ G → G < 48 → G = (if w = 1 then a else V 66 p) → ∀ σ2, σ2 = t_upd (t_upd (t_upd (t_upd (t_upd (t_upd σ1 94 0 1 (p : Int)) 94 0 2 (V 68 p)) 94 0 3 (V 65 p)) 94 0 4 (V 66 p)) 94 0 5 w) 94 0 6 G → t_run tbl mtb (d + 1) 145 [vh 51 0, vi p] σ2 = some (some (vi (fgm V p)), σ2) ∧ w32 (w32 (48 * fgm V p) + σ2 94 0 6) = 48 * fgm V p + G ∧ σ2 57 0 (48 * fgm V p + G).toNat = V 57 (48 * fgm V p + G).toNat ∧ t_run tbl mtb (d + 1) 155 [vh 51 0, vi (V 65 p)] (t_upd σ2 94 0 7 (V 57 (48 * fgm V p + G).toNat)) = some (some (vi (fst V (V 65 p))), t_upd σ2 94 0 7 (V 57 (48 * fgm V p + G).toNat)) ∧ (t_upd (t_upd σ2 94 0 7 (V 57 (48 * fgm V p + G).toNat)) 94 0 8 (fst V (V 65 p))) 60 0 (V 65 p).toNat = V 60 (V 65 p).toNat ∧ Sc s2 σ (t_upd (t_upd (t_upd σ2 94 0 7 (V 57 (48 * fgm V p + G).toNat)) 94 0 8 (fst V (V 65 p))) 94 0 10 (V 60 (V 65 p).toNat)) ∧ ∀ k, k < 11 → t_upd (t_upd (t_upd σ2 94 0 7 (V 57 (48 * fgm V p + G).toNat)) 94 0 8 (fst V (V 65 p))) 94 0 10 (V 60 (V 65 p).toNat) 94 0 k = fNp V p t w a 0 k := by
    intro G g1 g2 g3 σ2 hσ2
    have hS2 : Sc s2 σ σ2 := by
      rw [hσ2]
      exact (((((a1.up rfl).up rfl).up rfl).up rfl).up rfl).up rfl
    have v2 := hV.sc hS2.s2
    have hS3 : Sc s2 σ (t_upd σ2 94 0 7 (V 57 (48 * fgm V p + G).toNat)) := hS2.up rfl
    refine ⟨r_gameOf v2 hI hp, ?_, v2 57 _ rfl rfl rfl, r_standing (hV.sc hS3.s2) hI _, ?_, (hS3.up rfl).up rfl, ?_⟩
    · rw [hσ2, up_same, w32_id (x := 48 * fgm V p) (by omega) (by omega), w32_id (by omega) (by omega)]
    · rw [up_k (by decide), up_k (by decide), v2 60 _ rfl rfl rfl]
    · intro k hk
      have a2 := a2 k hk
      subst hσ2
      rcases (by omega : k = 0 ∨ k = 1 ∨ k = 2 ∨ k = 3 ∨ k = 4 ∨ k = 5 ∨ k = 6 ∨ k = 7 ∨ k = 8 ∨ k = 9 ∨ k = 10) with rfl | rfl | rfl | rfl | rfl | rfl | rfl | rfl | rfl | rfl | rfl
      · rw [up_j (by decide), up_j (by decide), up_j (by decide), up_j (by decide), up_j (by decide), up_j (by decide), up_j (by decide), up_j (by decide), up_j (by decide), a2]; rfl
      · rw [up_j (by decide), up_j (by decide), up_j (by decide), up_j (by decide), up_j (by decide), up_j (by decide), up_j (by decide), up_j (by decide), up_same]; rfl
      · rw [up_j (by decide), up_j (by decide), up_j (by decide), up_j (by decide), up_j (by decide), up_j (by decide), up_j (by decide), up_same]; rfl
      · rw [up_j (by decide), up_j (by decide), up_j (by decide), up_j (by decide), up_j (by decide), up_j (by decide), up_same]; rfl
      · rw [up_j (by decide), up_j (by decide), up_j (by decide), up_j (by decide), up_j (by decide), up_same]; rfl
      · rw [up_j (by decide), up_j (by decide), up_j (by decide), up_j (by decide), up_same]; rfl
      · rw [up_j (by decide), up_j (by decide), up_j (by decide), up_same]; exact g3
      · rw [up_j (by decide), up_j (by decide), up_same, g3]; rfl
      · rw [up_j (by decide), up_same]; rfl
      · rw [up_j (by decide), up_j (by decide), up_j (by decide), up_j (by decide), up_j (by decide), up_j (by decide), up_j (by decide), up_j (by decide), up_j (by decide), a2]; rfl
      · rw [up_same]; rfl
  by_cases hw1 : w = 1
  · have ha := hw hw1
    obtain ⟨z1, z2, z3, z4, z5, z6, z7⟩ := key a ha.1 ha.2 (by rw [if_pos hw1]) _ rfl
    refine ⟨_, z6, z7, ?_⟩
    rw [if_pos hw1, ci_of z1, z2, if_pos (by omega), z3, ci_of z4, if_pos (by omega), z5]
    rfl
  · obtain ⟨z1, z2, z3, z4, z5, z6, z7⟩ := key (V 66 p) k1 k2 (by rw [if_neg hw1]) _ rfl
    refine ⟨_, z6, z7, ?_⟩
    rw [if_neg hw1, ci_of z1, z2, if_pos (by omega), z3, ci_of z4, if_pos (by omega), z5]
    rfl
theorem r_mayBe (hV : RV σ V) (hI : Inv V) {p : Nat} (hp : p < nP V) {w a t : Int} (hw : w = 1 → 0 ≤ a ∧ a < 48) : ∃ σ', Sc s2 σ σ' ∧ t_run tbl mtb (d + 67) 200 [vh 51 0, vi p, vi t, vi (V 51 0), vi w, vi a] σ = some (some (vi (bi (fmy V p w a t))), σ') := by
  have h0 := hI.cnt
  have hg := gm_r hI hp
  obtain ⟨σ1, a1, a2, a3⟩ := r_nameOrder (d := d + 64) hV hI hp (t := t) hw
  have v1 := hV.sc a1.s2
  obtain ⟨σ2, b1, b2⟩ := r_gives (d := d) (u := 0) (t := t) (k := V 51 0) (wo := 1) v1 hI hg.1 (by omega) (by decide) (by decide) a2
  rw [run_go (k := 200) (as := [vh 51 0, vi p, vi t, vi (V 51 0), vi w, vi a]) mt_200 (Nat.ne_of_beq_eq_false rfl) rfl (s_kX12_mayBe_0 _ p t (V 51 0) w a σ), cv_of a3, ci_of (r_gameOf v1 hI hp), ci_of b2, Int.add_zero]
  refine ⟨σ2, a1.tr b1, ?_⟩
  unfold fmy
  split <;> exact leaf_b (by omega)
theorem r_sightOf (hV : RV σ V) (hI : Inv V) {p : Nat} (hp : p < nP V) (t : Int) : ∃ σ', Sc s2 σ σ' ∧ t_run tbl mtb (d + 67) 181 [vh 51 0, vi p, vi t] σ = some (some (vi (fsi V p t)), σ') := by
  have h0 := hI.cnt
  have hg := gm_r hI hp
  obtain ⟨σ1, a1, a2, a3⟩ := r_nameOrder (d := d + 64) hV hI hp (w := 0) (a := 0) (t := t) (by omega)
  have v1 := hV.sc a1.s2
  obtain ⟨σ2, b1, b2⟩ := r_gives (d := d) (u := 2) (t := t) (k := V 51 0) (wo := 2) v1 hI hg.1 (by omega) (by decide) (by decide) a2
  rw [run_go (k := 181) (as := [vh 51 0, vi p, vi t]) mt_181 (Nat.ne_of_beq_eq_false rfl) rfl (s_kX12_sightOf_0 _ p t σ), cv_of a3, ci_of (r_gameOf v1 hI hp), v1 51 0 rfl rfl rfl, ci_of b2, ci_of (r_held _ 9)]
  exact ⟨σ2, a1.tr b1, rfl⟩
theorem r_feeOf (hV : RV σ V) (hI : Inv V) {x : Nat} (hx : x < nH V) (t : Int) : ∃ σ', Sc s2 σ σ' ∧ t_run tbl mtb (d + 67) 182 [vh 51 0, vi x, vi t, vi (V 51 0)] σ = some (some (vi (ffe V x t (fst V x))), σ') := by
  have h0 := hI.cnt
  obtain ⟨g1, g2, -⟩ := hI 2 x hx
  obtain ⟨σ1, a1, a2, a3⟩ := r_noNames (σ := σ) (d := d + 65) t
  have hS2 : Sc s2 σ (t_upd σ1 94 0 3 (x : Int)) := a1.up rfl
  have v2 := hV.sc hS2.s2
  have hS3 : Sc s2 σ (t_upd (t_upd (t_upd σ1 94 0 3 (x : Int)) 94 0 8 (fst V x)) 94 0 10 (V 60 x)) := (hS2.up rfl).up rfl
  have v3 := hV.sc hS3.s2
  have hN : ∀ k, k < 11 → t_upd (t_upd (t_upd σ1 94 0 3 (x : Int)) 94 0 8 (fst V x)) 94 0 10 (V 60 x) 94 0 k = fNh t x (fst V x) (V 60 x) k := by
    intro k hk
    have a2 := a2 k hk
    rcases (by omega : k = 0 ∨ k = 1 ∨ k = 2 ∨ k = 3 ∨ k = 4 ∨ k = 5 ∨ k = 6 ∨ k = 7 ∨ k = 8 ∨ k = 9 ∨ k = 10) with rfl | rfl | rfl | rfl | rfl | rfl | rfl | rfl | rfl | rfl | rfl
    · rw [up_j (by decide), up_j (by decide), up_j (by decide), a2]; rfl
    · rw [up_j (by decide), up_j (by decide), up_j (by decide), a2]; rfl
    · rw [up_j (by decide), up_j (by decide), up_j (by decide), a2]; rfl
    · rw [up_j (by decide), up_j (by decide), up_same]; rfl
    · rw [up_j (by decide), up_j (by decide), up_j (by decide), a2]; rfl
    · rw [up_j (by decide), up_j (by decide), up_j (by decide), a2]; rfl
    · rw [up_j (by decide), up_j (by decide), up_j (by decide), a2]; rfl
    · rw [up_j (by decide), up_j (by decide), up_j (by decide), a2]; rfl
    · rw [up_j (by decide), up_same]; rfl
    · rw [up_j (by decide), up_j (by decide), up_j (by decide), a2]; rfl
    · rw [up_same]; rfl
  obtain ⟨σ2, b1, b2⟩ := r_gives (d := d) (u := 4) (t := t) (k := V 51 0) (wo := 0) v3 hI g1 (by omega) (by decide) (by decide) hN
  rw [run_go (k := 182) (as := [vh 51 0, vi x, vi t, vi (V 51 0)]) mt_182 (Nat.ne_of_beq_eq_false rfl) rfl (s_kX12_feeOf_0 _ x t (V 51 0) σ), cv_of a3, ci_of (r_standing v2 hI _), Int.toNat_natCast, show t_upd (t_upd σ1 94 0 3 (x : Int)) 94 0 8 (fst V x) 60 0 x = V 60 x by rw [up_k (by decide), v2 60 _ rfl rfl rfl], v3 59 _ rfl rfl rfl, if_pos (by omega), if_pos (by omega), ci_of b2, ci_of (r_held _ 9999)]
  exact ⟨σ2, hS3.tr b1, rfl⟩
end
