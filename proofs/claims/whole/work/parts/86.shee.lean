-- sheets: sees(), alike()
section
variable {σ : TM} {V : TVw} {d : Nat}
noncomputable def fseP (V : TVw) (x c : Int) (p : Nat) : Bool := decide (V 65 p = x ∧ V 69 p = 0) && decide (fwy (V 66 p) c ≤ fsi V p (V 54 (fgm V p).toNat))
noncomputable def fse (V : TVw) (x c : Int) : Bool := fE (fseP V x c) (nP V)
theorem bit_i (m c : Nat) : ((m / 2 ^ c % 2 : Nat) : Int) = bi (m.testBit c) := by
  rw [Nat.testBit_eq_decide_div_mod_eq]
  rcases Nat.mod_two_eq_zero_or_one (m / 2 ^ c) with e | e <;> rw [e] <;> rfl
theorem c_sheet_in (h : CR σ V) {p : Nat} (hp : p < nP V) (x w : Int) {m0 : Nat} (hm0 : m0 < 2 ^ 48) : ∃ m : Nat, m < 2 ^ 48 ∧ (∀ i : Nat, i < 48 → m.testBit i = (m0.testBit i || decide (fwy (V 66 p) i ≤ w))) ∧ ∀ n, t_tr tbl mtb (t_run tbl mtb (d + 3)) 115 (n + 49) 54 [some (vh 0 0), some (vi x), some (vj m0), none, some (vi p), some (vh 17 p), some (vi w), some (vi ((0 : Nat) : Int))] [] σ = t_tr tbl mtb (t_run tbl mtb (d + 3)) 115 n 5 [some (vh 0 0), some (vi x), some (vj m), none, some (vi ((p + 1 : Nat) : Int)), none, none, none] [] σ := by
  have h0 := h.cnt
  obtain ⟨-, -, k1, k2, -⟩ := h.inv 3 p hp
  obtain ⟨-, -, -, e3, -⟩ := h 5 p hp
  obtain ⟨L, s, ⟨rfl, m, rfl, hm, hb⟩, e⟩ := loop_rel (O := t_run tbl mtb (d + 3)) (k := 115) (pc := 54) (fun c L s => s = σ ∧ ∃ m : Nat, L = [some (vh 0 0), some (vi x), some (vj m), none, some (vi p), some (vh 17 p), some (vi w), some (vi (c : Int))] ∧ m < 2 ^ 48 ∧ ∀ i : Nat, i < 48 → m.testBit i = (m0.testBit i || (decide (i < c) && decide (fwy (V 66 p) i ≤ w)))) 48 (by
    rintro c L s hc ⟨rfl, m, rfl, hm, hb⟩
    have c2 := c_distance (σ := s) (d := d + 1) k1 k2 (show (0 : Int) ≤ (c : Int) by omega) (show (c : Int) < 48 by omega)
    have st := fun N => tr_step (n := N) (s_kX11_sheetOf_54 (t_run tbl mtb (d + 3)) x m p p w c s )
    simp only [if_pos (show (c : Int) < 48 by omega), e3, c2, ci_ok, w32_nat (show c < 2147483647 by omega)] at st
    by_cases q : w < fwy (V 66 p) c
    · simp only [if_pos q] at st
      refine ⟨_, _, ⟨rfl, m, rfl, hm, fun i hi => ?_⟩, st⟩
      rw [hb i hi]
      by_cases z : i = c
      · subst z
        rw [decide_eq_false (show ¬ fwy (V 66 p) i ≤ w by omega), Bool.and_false, Bool.and_false]
      · rw [show decide (i < c + 1) = decide (i < c) from decide_eq_decide.mpr (by omega)]
    · simp only [if_neg q, jj_shl (show c < 63 by omega), jj_or (show m < 2 ^ 63 by omega) (show 2 ^ c < 2 ^ 63 from Nat.pow_lt_pow_right (by decide) (by omega))] at st
      refine ⟨_, _, ⟨rfl, m ||| 2 ^ c, rfl, Nat.or_lt_two_pow hm (Nat.pow_lt_pow_right (by decide) (by omega)), fun i hi => ?_⟩, st⟩
      rw [Nat.testBit_or, Nat.testBit_two_pow, hb i hi]
      by_cases z : i = c
      · subst z
        rw [decide_eq_true (show fwy (V 66 p) i ≤ w by omega), decide_eq_true (show i < i + 1 by omega), decide_eq_true (show i = i from rfl), Bool.or_true, Bool.and_true, Bool.or_true]
      · rw [show decide (i < c + 1) = decide (i < c) from decide_eq_decide.mpr (by omega), decide_eq_false (show ¬ c = i by omega), Bool.or_false]) 48 0 [some (vh 0 0), some (vi x), some (vj m0), none, some (vi p), some (vh 17 p), some (vi w), some (vi ((0 : Nat) : Int))] σ (by omega) ⟨rfl, m0, rfl, hm0, fun i hi => by rw [decide_eq_false (show ¬ i < 0 by omega), Bool.false_and, Bool.or_false]⟩
  refine ⟨m, hm, fun i hi => by rw [hb i hi, decide_eq_true hi, Bool.true_and], fun n => ?_⟩
  have st := fun N => tr_step (n := N) (s_kX11_sheetOf_54 (t_run tbl mtb (d + 3)) x m p p w ((48 : Nat) : Int) s )
  simp only [if_neg (show ¬ ((48 : Nat) : Int) < 48 by omega), w32_nat (show p < 2147483647 by omega)] at st
  exact (e (n + 1)).trans (st n)
theorem c_sheetOf (h : CR σ V) (x : Int) : ∃ s, ∃ m : Nat, Sc s1 σ s ∧ m < 2 ^ 48 ∧ (∀ i : Nat, i < 48 → m.testBit i = fse V x i) ∧ t_run tbl mtb (d + 4) 115 [vh 0 0, vi x] σ = some (some (vj m), s) := by
  have h0 := h.cnt
  obtain ⟨L, s, cc, hcc, ⟨a1, m, rfl, hm, hb⟩, e⟩ := loop_relv (C := 50) (O := t_run tbl mtb (d + 3)) (k := 115) (pc := 5) (fun k L s => Sc s1 σ s ∧ ∃ m : Nat, L = [some (vh 0 0), some (vi x), some (vj m), none, some (vi (k : Int)), none, none, none] ∧ m < 2 ^ 48 ∧ ∀ i : Nat, i < 48 → m.testBit i = fE (fseP V x i) k) (nP V) (by
    rintro p L s hp ⟨a1, m, rfl, hm, hb⟩
    have h1 := h.sc a1.s1
    have r1 : 0 ≤ (p : Int) ∧ (p : Int) < 40 := by omega
    obtain ⟨-, f1, -, -, -, -, f6⟩ := h1 5 p hp
    have st := fun N => tr_step (n := N) (s_kX11_sheetOf_5 (t_run tbl mtb (d + 3)) x m p s )
    simp only [h1.np, if_pos (show (p : Int) < V 51 23 by omega), Int.toNat_natCast, if_pos r1, f1, f6, w32_nat (show p < 2147483647 by omega)] at st
    by_cases q : V 65 p = x ∧ V 69 p = 0
    · obtain ⟨s2, b1, b2⟩ := c_sightOf (d := d) h1 hp
      simp only [if_pos q.1, if_pos q.2, b2, ci_ok] at st
      obtain ⟨m2, c1, c2, c3⟩ := c_sheet_in (d := d) (h1.sc b1.s1) hp x (fsi V p (V 54 (fgm V p).toNat)) hm
      refine ⟨_, _, 50, Nat.le_refl _, ⟨a1.tr b1, m2, rfl, c1, fun i hi => ?_⟩, fun n => (st (n + 49)).trans (c3 n)⟩
      rw [c2 i hi, hb i hi, fE, fseP, decide_eq_true q, Bool.true_and]
    · refine ⟨_, _, 1, by omega, ⟨a1, m, rfl, hm, fun i hi => ?_⟩, fun n => ?_⟩
      · rw [hb i hi, fE, fseP, decide_eq_false q, Bool.false_and, Bool.or_false]
      · have st := st n
        by_cases q1 : V 65 p = x
        · simp only [if_pos q1, if_neg (fun z => q ⟨q1, z⟩)] at st
          exact st
        · simp only [if_neg q1] at st
          exact st) (nP V) 0 [some (vh 0 0), some (vi x), some (vj ((0 : Nat) : Int)), none, some (vi ((0 : Nat) : Int)), none, none, none] σ (by omega) ⟨Sc.rf, 0, rfl, by decide, fun i hi => by rw [Nat.zero_testBit]; rfl⟩
  refine ⟨s, m, a1, hm, hb, ?_⟩
  have h1 := h.sc a1.s1
  rw [run_go (k := 115) (as := [vh 0 0, vi x]) mt_115 (Nat.ne_of_beq_eq_false rfl) rfl (s_kX11_sheetOf_0 _ x σ), nx_inl]
  have e := e (999998 - cc + 1)
  rw [show 999998 - cc + 1 + cc = 999999 by omega] at e
  have st := fun N => tr_step (n := N) (s_kX11_sheetOf_5 (t_run tbl mtb (d + 3)) x m (nP V) s )
  simp only [h1.np, if_neg (show ¬ ((nP V : Nat) : Int) < V 51 23 by omega)] at st
  exact out_of (e.trans (st (999998 - cc)))
theorem r_seesIn (hV : RV σ V) (hI : Inv V) {x : Nat} (hx : x < nH V) {c : Int} (hc : 0 ≤ c) (hc2 : c < 48) : ∃ s, Sc s2 σ s ∧ t_run tbl mtb (d + 68) 217 [vh 51 0, vi x, vi c] σ = some (some (vi (bi (fse V x c))), s) := by
  have h0 := hI.cnt
  obtain ⟨g1, g2, -⟩ := hI 2 x hx
  have r12 : 0 ≤ (x : Int) ∧ (x : Int) < 12 := by omega
  have r3 : 0 ≤ V 59 x ∧ V 59 x < 3 := by omega
  obtain ⟨L, s, ⟨a1, rfl⟩, e⟩ := loop_rel (O := t_run tbl mtb (d + 67)) (k := 217) (pc := 5) (fun k L s => Sc s2 σ s ∧ L = [some (vh 51 0), some (vi x), some (vi c), some (vi (bi (fE (fseP V x c) k))), some (vi (k : Int))]) (nP V) (by
    rintro p L s hp ⟨a1, rfl⟩
    have v1 := hV.sc a1.s2
    obtain ⟨-, -, k1, k2, -⟩ := hI 3 p hp
    have r1 : 0 ≤ (p : Int) ∧ (p : Int) < 40 := by omega
    have q51 : s 51 0 23 = V 51 23 := v1 51 23 rfl rfl rfl
    have q65 : s 65 0 p = V 65 p := v1 65 p rfl rfl rfl
    have q66 : s 66 0 p = V 66 p := v1 66 p rfl rfl rfl
    have q69 : s 69 0 p = V 69 p := v1 69 p rfl rfl rfl
    have q59 : s 59 0 x = V 59 x := v1 59 x rfl rfl rfl
    have q54 : s 54 0 (V 59 x).toNat = V 54 (V 59 x).toNat := v1 54 _ rfl rfl rfl
    have w2 := r_wayOf (σ := s) (d := d + 65) k1 k2 hc hc2
    have st := fun N => tr_step (n := N) (s_kX12_seesIn_5 (t_run tbl mtb (d + 67)) x c (bi (fE (fseP V x c) p)) p s )
    simp only [q51, if_pos (show (p : Int) < V 51 23 by omega), Int.toNat_natCast, if_pos r1, if_pos r12, q65, q66, q69, w2, ci_ok, q59, q54, if_pos r3, w32_nat (show p < 2147483647 by omega)] at st
    by_cases q : V 65 p = (x : Int) ∧ V 69 p = 0
    · have eP : fE (fseP V x c) (p + 1) = (fE (fseP V x c) p || decide (fwy (V 66 p) c ≤ fsi V p (V 54 (fgm V p).toNat))) := by rw [fE, fseP, decide_eq_true q, Bool.true_and]
      have eg : V 59 x = fgm V p := by
        unfold fgm
        rw [q.1, Int.toNat_natCast]
      cases hb : fE (fseP V x c) p with
      | true =>
        rw [hb] at eP st
        refine ⟨_, _, ⟨a1, rfl⟩, fun n => ?_⟩
        have st := st n
        simp only [if_pos q.1, if_pos q.2, show bi true = 1 from rfl, if_neg (show ¬ (1 : Int) = 0 by decide)] at st
        rw [eP, Bool.true_or]
        exact st
      | false =>
        rw [hb] at eP st
        obtain ⟨s2, b1, b2⟩ := r_sightOf (d := d) v1 hI hp (V 54 (fgm V p).toNat)
        refine ⟨_, _, ⟨a1.tr b1, rfl⟩, fun n => ?_⟩
        have st := st n
        simp only [if_pos q.1, if_pos q.2, show bi false = 0 from rfl, if_true, eg, b2, ci_ok] at st
        rw [eP, Bool.false_or]
        by_cases z : fsi V p (V 54 (fgm V p).toNat) < fwy (V 66 p) c
        · rw [if_pos z] at st
          rw [decide_eq_false (by omega)]
          exact st
        · rw [if_neg z] at st
          rw [decide_eq_true (by omega)]
          exact st
    · refine ⟨_, _, ⟨a1, rfl⟩, fun n => ?_⟩
      rw [fE, fseP, decide_eq_false q, Bool.false_and, Bool.or_false]
      have st := st n
      by_cases q1 : V 65 p = (x : Int)
      · simp only [if_pos q1, if_neg (fun z => q ⟨q1, z⟩)] at st
        exact st
      · simp only [if_neg q1] at st
        exact st) (nP V) 0 [some (vh 51 0), some (vi x), some (vi c), some (vi 0), some (vi ((0 : Nat) : Int))] σ (by omega) ⟨Sc.rf, rfl⟩
  refine ⟨s, a1, ?_⟩
  have v1 := hV.sc a1.s2
  rw [run_go (k := 217) (as := [vh 51 0, vi x, vi c]) mt_217 (Nat.ne_of_beq_eq_false rfl) rfl (s_kX12_seesIn_0 _ x c σ), nx_inl]
  have e := e (999998 - nP V + 1)
  rw [show 999998 - nP V + 1 + nP V = 999999 by omega] at e
  have st := fun N => tr_step (n := N) (s_kX12_seesIn_5 (t_run tbl mtb (d + 67)) x c (bi (fE (fseP V x c) (nP V))) (nP V) s )
  have q51 : s 51 0 23 = V 51 23 := v1 51 23 rfl rfl rfl
  simp only [q51, if_neg (show ¬ ((nP V : Nat) : Int) < V 51 23 by omega), if_pos (bi_r _)] at st
  exact out_of (e.trans (st (999998 - nP V)))
theorem two_sees (hW : WW σ V) (x c : Int) : Two (d + 100) 113 218 [vi x, vi c] σ := by
  have h := hW.1
  have hI := h.inv
  have h0 := hI.cnt
  by_cases hx : 0 ≤ x ∧ x < V 51 15
  · obtain ⟨p, rfl⟩ : ∃ p : Nat, x = (p : Int) := ⟨x.toNat, by omega⟩
    have hp : p < nH V := by omega
    have r12 : 0 ≤ (p : Int) ∧ (p : Int) < 12 := by omega
    by_cases hc : 0 ≤ c ∧ c < 48
    · obtain ⟨i, rfl⟩ : ∃ i : Nat, c = (i : Int) := ⟨c.toNat, by omega⟩
      have hi : i < 48 := by omega
      have hf := fat_r V (V 59 p) i
      refine two_ask (r := vi (if fse V p i = false then -5 else if fat V (V 59 p) i = -1 then -2 else fat V (V 59 p) i)) hW ?_ (fun s hV => ?_)
      · obtain ⟨s, m, a1, a2, a3, a4⟩ := c_sheetOf (d := d + 95) h p
        have h1 := h.sc a1.s1
        refine ⟨s, a1, ?_⟩
        obtain ⟨-, p5, -⟩ := h1 3 p (by omega)
        obtain ⟨p0, -⟩ := p5 hp
        rw [run_go (k := 113) (as := [vh 0 0, vi p, vi i]) mt_113 (Nat.ne_of_beq_eq_false rfl) rfl (s_kX11_sees_0 _ p i σ), ci_of (c_isHolder (d := d + 98) h p)]
        simp only [bi_0, decide_eq_false_iff_not, Int.toNat_natCast]
        rw [if_neg (by omega), ci_of (c_isCell (d := d + 98) i)]
        simp only [bi_0, decide_eq_false_iff_not]
        rw [if_neg (by omega), cj_of a4]
        simp only [jj_bit (show m < 2 ^ 63 by omega) (show i < 64 by omega), bit_i, a3 i hi, bi_0, if_pos r12, p0, c_pieceIn (d := d + 98) h1 (V 59 p) i, ci_ok]
        have hb := bi_r (fse V p i)
        rw [if_neg (by omega)]
        by_cases z : fse V p i = false
        · rw [if_pos z, if_pos z]
          rfl
        · rw [if_neg z, if_neg z]
          by_cases y : fat V (V 59 p) i = -1
          · rw [if_pos y, if_pos y]
            rfl
          · rw [if_neg y, if_neg y]
            rfl
      · obtain ⟨s', a1, a2⟩ := r_seesIn (d := d + 31) hV hI hp (c := i) (by omega) (by omega)
        have v1 := hV.sc a1.s2
        refine ⟨s', a1, ?_⟩
        have q59 : s' 59 0 p = V 59 p := v1 59 p rfl rfl rfl
        rw [run_go (k := 218) (as := [vh 51 0, vi p, vi i]) mt_218 (Nat.ne_of_beq_eq_false rfl) rfl (s_kX12_sees_0 _ p i s), ci_of (r_isHolder (d := d + 98) hV p)]
        simp only [bi_0, decide_eq_false_iff_not, Int.toNat_natCast]
        rw [if_neg (by omega), ci_of (r_isCell (d := d + 97) i)]
        simp only [bi_0, decide_eq_false_iff_not]
        rw [if_neg (by omega), ci_of a2]
        simp only [bi_0, if_pos r12, q59, r_pieceAt (d := d + 97) v1 hI (V 59 p) i, ci_ok]
        by_cases z : fse V p i = false
        · rw [if_pos z, if_pos z]
          rfl
        · rw [if_neg z, if_neg z]
          by_cases y : fat V (V 59 p) i = -1
          · rw [if_pos (by omega), if_pos y]
            rfl
          · rw [if_neg (by omega), if_neg y]
            rfl
    · refine two_ask (r := vi (-1)) hW ⟨σ, Sc.rf, ?_⟩ (fun s hV => ⟨s, Sc.rf, ?_⟩)
      · rw [run_go (k := 113) (as := [vh 0 0, vi p, vi c]) mt_113 (Nat.ne_of_beq_eq_false rfl) rfl (s_kX11_sees_0 _ p c σ), ci_of (c_isHolder (d := d + 98) h p)]
        simp only [bi_0, decide_eq_false_iff_not]
        rw [if_neg (by omega), ci_of (c_isCell (d := d + 98) c)]
        simp only [bi_0, decide_eq_false_iff_not]
        rw [if_pos hc]
        rfl
      · rw [run_go (k := 218) (as := [vh 51 0, vi p, vi c]) mt_218 (Nat.ne_of_beq_eq_false rfl) rfl (s_kX12_sees_0 _ p c s), ci_of (r_isHolder (d := d + 98) hV p)]
        simp only [bi_0, decide_eq_false_iff_not]
        rw [if_neg (by omega), ci_of (r_isCell (d := d + 97) c)]
        simp only [bi_0, decide_eq_false_iff_not]
        rw [if_pos hc]
        rfl
  · refine two_ask (r := vi (-1)) hW ⟨σ, Sc.rf, ?_⟩ (fun s hV => ⟨s, Sc.rf, ?_⟩)
    · rw [run_go (k := 113) (as := [vh 0 0, vi x, vi c]) mt_113 (Nat.ne_of_beq_eq_false rfl) rfl (s_kX11_sees_0 _ x c σ), ci_of (c_isHolder (d := d + 98) h x)]
      simp only [bi_0, decide_eq_false_iff_not]
      rw [if_pos hx]
      rfl
    · rw [run_go (k := 218) (as := [vh 51 0, vi x, vi c]) mt_218 (Nat.ne_of_beq_eq_false rfl) rfl (s_kX12_sees_0 _ x c s), ci_of (r_isHolder (d := d + 98) hV x)]
      simp only [bi_0, decide_eq_false_iff_not]
      rw [if_pos hx]
      rfl
noncomputable def fal (V : TVw) (x y : Int) (i : Nat) : Int := if fse V x i = fse V y i then 1 else 0
theorem fal_r (V : TVw) (x y : Int) : ∀ n : Nat, 0 ≤ fS (fal V x y) n ∧ fS (fal V x y) n ≤ n
  | 0 => ⟨Int.le_refl _, Int.le_refl _⟩
  | n + 1 => by
    have := fal_r V x y n
    rw [fS]
    unfold fal at this ⊢
    split <;> omega
theorem fal_bcn {V : TVw} {x y : Int} {m1 m2 : Nat} (h1 : ∀ i : Nat, i < 48 → m1.testBit i = fse V x i) (h2 : ∀ i : Nat, i < 48 → m2.testBit i = fse V y i) : ∀ n : Nat, n ≤ 48 → (bcn (m1 ^^^ m2) n : Int) + fS (fal V x y) n = n
  | 0, _ => rfl
  | n + 1, hn => by
    have ih := fal_bcn h1 h2 n (by omega)
    rw [fS, bcn, Nat.testBit_xor, h1 n (by omega), h2 n (by omega)]
    unfold fal at ih ⊢
    cases fse V x n <;> cases fse V y n <;> simp <;> omega
theorem r_same (hV : RV σ V) (hI : Inv V) {x y : Nat} (hx : x < nH V) (hy : y < nH V) : ∃ s, Sc s2 σ s ∧ t_out (t_tr tbl mtb (t_run tbl mtb (d + 99)) 219 999999 38 [some (vh 51 0), some (vi x), some (vi y), some (vi 0), some (vi 0)] [] σ) = some (some (vi (fS (fal V x y) 48)), s) := by
  obtain ⟨L, s, ⟨a1, rfl⟩, e⟩ := loop_rel (O := t_run tbl mtb (d + 99)) (k := 219) (pc := 38) (fun c L s => Sc s2 σ s ∧ L = [some (vh 51 0), some (vi x), some (vi y), some (vi (fS (fal V x y) c)), some (vi (c : Int))]) 48 (by
    rintro c L s hc ⟨a1, rfl⟩
    have v1 := hV.sc a1.s2
    obtain ⟨s2, b1, b2⟩ := r_seesIn (d := d + 31) v1 hI hx (c := c) (by omega) (by omega)
    have v2 := v1.sc b1.s2
    obtain ⟨s3, c1, c2⟩ := r_seesIn (d := d + 31) v2 hI hy (c := c) (by omega) (by omega)
    have r := fal_r V x y c
    have st := fun N => tr_step (n := N) (s_kX12_alike_38 (t_run tbl mtb (d + 99)) x y (fS (fal V x y) c) c s )
    simp only [if_pos (show (c : Int) < 48 by omega), b2, c2, ci_ok, w32_nat (show c < 2147483647 by omega), w32_id (x := fS (fal V x y) c + 1) (by omega) (by omega), w32_id (x := fS (fal V x y) c + 0) (by omega) (by omega)] at st
    refine ⟨_, _, ⟨(a1.tr b1).tr c1, rfl⟩, fun n => ?_⟩
    have st := st n
    rw [fS]
    unfold fal at st ⊢
    cases z1 : fse V x c <;> cases z2 : fse V y c <;> rw [z1, z2] at st <;> exact st) 48 0 [some (vh 51 0), some (vi x), some (vi y), some (vi 0), some (vi ((0 : Nat) : Int))] σ (by omega) ⟨Sc.rf, rfl⟩
  refine ⟨s, a1, ?_⟩
  have e := e (999950 + 1)
  have st := fun N => tr_step (n := N) (s_kX12_alike_38 (t_run tbl mtb (d + 99)) x y (fS (fal V x y) 48) ((48 : Nat) : Int) s )
  simp only [if_neg (show ¬ ((48 : Nat) : Int) < 48 by omega)] at st
  exact out_of (e.trans (st 999950))
theorem two_alike (hW : WW σ V) (x y : Int) : Two (d + 100) 114 219 [vi x, vi y] σ := by
  have h := hW.1
  have hI := h.inv
  have h0 := hI.cnt
  by_cases hx : 0 ≤ x ∧ x < V 51 15
  · obtain ⟨p, rfl⟩ : ∃ p : Nat, x = (p : Int) := ⟨x.toNat, by omega⟩
    have hp : p < nH V := by omega
    have r12 : 0 ≤ (p : Int) ∧ (p : Int) < 12 := by omega
    by_cases hy : 0 ≤ y ∧ y < V 51 15
    · obtain ⟨q, rfl⟩ : ∃ q : Nat, y = (q : Int) := ⟨y.toNat, by omega⟩
      have hq : q < nH V := by omega
      have r12q : 0 ≤ (q : Int) ∧ (q : Int) < 12 := by omega
      refine two_ask (r := vi (if V 59 p = V 59 q then fS (fal V p q) 48 else -1)) hW ?_ (fun s hV => ?_)
      · obtain ⟨-, p5, -⟩ := h 3 p (by omega)
        obtain ⟨p0, -⟩ := p5 hp
        obtain ⟨-, q5, -⟩ := h 3 q (by omega)
        obtain ⟨q0, -⟩ := q5 hq
        obtain ⟨s, m, a1, a2, a3, a4⟩ := c_sheetOf (d := d + 95) h p
        have h1 := h.sc a1.s1
        obtain ⟨s', m', b1, b2, b3, b4⟩ := c_sheetOf (d := d + 95) h1 q
        by_cases e : V 59 p = V 59 q
        · refine ⟨s', a1.tr b1, ?_⟩
          rw [run_go (k := 114) (as := [vh 0 0, vi p, vi q]) mt_114 (Nat.ne_of_beq_eq_false rfl) rfl (s_kX11_alike_0 _ p q σ), ci_of (c_isHolder (d := d + 98) h p)]
          simp only [bi_0, decide_eq_false_iff_not, Int.toNat_natCast]
          rw [if_neg (by omega), ci_of (c_isHolder (d := d + 98) h q)]
          simp only [bi_0, decide_eq_false_iff_not, p0, q0]
          rw [if_neg (by omega), if_pos r12, if_pos r12q, if_pos e, cj_of a4, cj_of b4, jj_xor (show m < 2 ^ 63 by omega) (show m' < 2 ^ 63 by omega), ci_of (j_bitCount (d := d + 98) (Nat.xor_lt_two_pow a2 b2)), if_pos e]
          have f := fal_bcn a3 b3 48 (Nat.le_refl _)
          have r := fal_r V p q 48
          exact leaf_i ((w32_id (by omega) (by omega)).trans (by omega))
        · refine ⟨σ, Sc.rf, ?_⟩
          rw [run_go (k := 114) (as := [vh 0 0, vi p, vi q]) mt_114 (Nat.ne_of_beq_eq_false rfl) rfl (s_kX11_alike_0 _ p q σ), ci_of (c_isHolder (d := d + 98) h p)]
          simp only [bi_0, decide_eq_false_iff_not, Int.toNat_natCast]
          rw [if_neg (by omega), ci_of (c_isHolder (d := d + 98) h q)]
          simp only [bi_0, decide_eq_false_iff_not, p0, q0]
          rw [if_neg (by omega), if_pos r12, if_pos r12q, if_neg e, if_neg e]
          rfl
      · have p0 : s 59 0 p = V 59 p := hV 59 p rfl rfl rfl
        have q0 : s 59 0 q = V 59 q := hV 59 q rfl rfl rfl
        by_cases e : V 59 p = V 59 q
        · obtain ⟨s', a1, a2⟩ := r_same (d := d) hV hI hp hq
          refine ⟨s', a1, ?_⟩
          rw [run_go (k := 219) (as := [vh 51 0, vi p, vi q]) mt_219 (Nat.ne_of_beq_eq_false rfl) rfl (s_kX12_alike_0 _ p q s), ci_of (r_isHolder (d := d + 98) hV p)]
          simp only [bi_0, decide_eq_false_iff_not, Int.toNat_natCast]
          rw [if_neg (by omega), ci_of (r_isHolder (d := d + 98) hV q)]
          simp only [bi_0, decide_eq_false_iff_not, p0, q0]
          rw [if_neg (by omega), if_pos r12, if_pos r12q, if_pos e, if_pos e]
          exact a2
        · refine ⟨s, Sc.rf, ?_⟩
          rw [run_go (k := 219) (as := [vh 51 0, vi p, vi q]) mt_219 (Nat.ne_of_beq_eq_false rfl) rfl (s_kX12_alike_0 _ p q s), ci_of (r_isHolder (d := d + 98) hV p)]
          simp only [bi_0, decide_eq_false_iff_not, Int.toNat_natCast]
          rw [if_neg (by omega), ci_of (r_isHolder (d := d + 98) hV q)]
          simp only [bi_0, decide_eq_false_iff_not, p0, q0]
          rw [if_neg (by omega), if_pos r12, if_pos r12q, if_neg e, if_neg e]
          rfl
    · refine two_ask (r := vi (-1)) hW ⟨σ, Sc.rf, ?_⟩ (fun s hV => ⟨s, Sc.rf, ?_⟩)
      · rw [run_go (k := 114) (as := [vh 0 0, vi p, vi y]) mt_114 (Nat.ne_of_beq_eq_false rfl) rfl (s_kX11_alike_0 _ p y σ), ci_of (c_isHolder (d := d + 98) h p)]
        simp only [bi_0, decide_eq_false_iff_not]
        rw [if_neg (by omega), ci_of (c_isHolder (d := d + 98) h y)]
        simp only [bi_0, decide_eq_false_iff_not]
        rw [if_pos hy]
        rfl
      · rw [run_go (k := 219) (as := [vh 51 0, vi p, vi y]) mt_219 (Nat.ne_of_beq_eq_false rfl) rfl (s_kX12_alike_0 _ p y s), ci_of (r_isHolder (d := d + 98) hV p)]
        simp only [bi_0, decide_eq_false_iff_not]
        rw [if_neg (by omega), ci_of (r_isHolder (d := d + 98) hV y)]
        simp only [bi_0, decide_eq_false_iff_not]
        rw [if_pos hy]
        rfl
  · refine two_ask (r := vi (-1)) hW ⟨σ, Sc.rf, ?_⟩ (fun s hV => ⟨s, Sc.rf, ?_⟩)
    · rw [run_go (k := 114) (as := [vh 0 0, vi x, vi y]) mt_114 (Nat.ne_of_beq_eq_false rfl) rfl (s_kX11_alike_0 _ x y σ), ci_of (c_isHolder (d := d + 98) h x)]
      simp only [bi_0, decide_eq_false_iff_not]
      rw [if_pos hx]
      rfl
    · rw [run_go (k := 219) (as := [vh 51 0, vi x, vi y]) mt_219 (Nat.ne_of_beq_eq_false rfl) rfl (s_kX12_alike_0 _ x y s), ci_of (r_isHolder (d := d + 98) hV x)]
      simp only [bi_0, decide_eq_false_iff_not]
      rw [if_pos hx]
      rfl
end
