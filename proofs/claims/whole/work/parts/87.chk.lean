-- check(): both sides
theorem fE_first {P : Nat → Bool} : ∀ {n : Nat}, fE P n = true → ∃ p, p < n ∧ P p = true ∧ ∀ q, q < p → P q = false
  | 0, h => by cases h
  | n + 1, h => by
    cases e : fE P n with
    | true =>
      obtain ⟨p, h1, h2, h3⟩ := fE_first e
      exact ⟨p, by omega, h2, h3⟩
    | false =>
      rw [fE, e, Bool.false_or] at h
      exact ⟨n, by omega, h, fE_false.mp e⟩
def fcw (V : TVw) (g : Int) (p : Nat) : Bool := mIn V g p && decide (V 58 (48 * g + V 66 p).toNat ≠ 0)
def fcBt (V : TVw) (g : Int) (c p : Nat) : Bool := mIn V g p && decide (V 66 p = (c : Int))
def fkS (V : TVw) (g : Int) (t x p : Nat) : Int := if V 65 p = x ∧ 0 ≤ V 72 (40 * t + p) then V 57 (48 * g + V 72 (40 * t + p)).toNat else 0
noncomputable def fbt (V : TVw) (g : Int) (t x : Nat) : Bool := if fpl V x t = true then decide (w32 (bk V t x + fS (fkS V g t x) (nP V) - V 74 (12 * t + x)) = V 73 (12 * t + x)) else decide (bk V t x = V 73 (12 * t + x))
noncomputable def fbl (V : TVw) (g : Int) (x : Nat) : Bool := if V 54 g.toNat - 1 < 0 then true else fbt V g (V 54 g.toNat - 1).toNat x
noncomputable def fub (V : TVw) (g : Int) (x : Nat) : Bool := decide (V 59 x = g) && !fbl V g x
noncomputable def fck (V : TVw) (g : Int) : Int := if fE (fcw V g) (nP V) = true then 2 else if fE (fub V g) (nH V) = true then 3 else 0
section
variable {σ : TM} {V : TVw} {g : Int} {d : Nat}
theorem sum_st {y b z : Int} (h : w32 y = w32 b) : w32 (w32 (y + z)) = w32 (b + z) := by
  rw [w32_w32, ← w32_add_l, h, w32_add_l]
theorem sum_en {y b z : Int} (h : w32 y = w32 b) : w32 (y - z) = w32 (b - z) := by
  rw [← w32_sub_l, h, w32_sub_l]
set_option maxHeartbeats 2000000 in
theorem c_isBalanced (h : CR σ V) (hg : 0 ≤ g ∧ g < V 51 8) (hK : KG V g (V 54 g.toNat).toNat) {x : Nat} (hx : x < nH V) (hxg : V 59 x = g) : t_run tbl mtb (d + 2) 137 [vh 0 0, vi x] σ = some (some (vi (bi (fbl V g x))), σ) := by
  have hI := h.inv
  have h0 := hI.cnt
  obtain ⟨b1, b2, -⟩ := hI 1 g.toNat (by omega)
  obtain ⟨e38, -⟩ := h 1 g.toNat (by omega)
  obtain ⟨-, p5, -⟩ := h 3 x (by omega)
  obtain ⟨e41, -⟩ := p5 hx
  have r12 : 0 ≤ (x : Int) ∧ (x : Int) < 12 := by omega
  have r3 : 0 ≤ g ∧ g < 3 := by omega
  have ew : w32 (V 54 g.toNat - 1) = V 54 g.toNat - 1 := w32_id (by omega) (by omega)
  rw [run_go (k := 137) (as := [vh 0 0, vi x]) mt_137 (Nat.ne_of_beq_eq_false rfl) rfl (s_kX11_isBalanced_0 _ x σ)]
  simp only [if_pos r12, Int.toNat_natCast, e41, hxg, if_pos r3, e38, ew]
  unfold fbl
  by_cases z : V 54 g.toNat - 1 < 0
  · rw [if_pos z, if_pos z]
    rfl
  · rw [if_neg z, if_neg z]
    obtain ⟨t, ht⟩ : ∃ t : Nat, V 54 g.toNat = (t : Int) + 1 := ⟨(V 54 g.toNat - 1).toNat, by omega⟩
    have et : V 54 g.toNat - 1 = (t : Int) := by omega
    have htg : (t : Int) < V 54 (V 59 x).toNat := by rw [hxg]; omega
    obtain ⟨-, q4⟩ := h 4 x hx
    obtain ⟨q42, q43⟩ := q4 t htg
    have q42' := bk_c (t := t) h hx (by omega)
    have rt : 0 ≤ (t : Int) ∧ (t : Int) < 31 := by omega
    have rt2 : 0 ≤ (t : Int) ∧ (t : Int) < 30 := by omega
    have rt1 : 0 ≤ ((t + 1 : Nat) : Int) ∧ ((t + 1 : Nat) : Int) < 31 := by omega
    have wt : w32 ((t : Int) + 1) = ((t + 1 : Nat) : Int) := w32_nat (by omega)
    rw [et]
    simp only [if_pos rt, c_playsIn (d := d) h hx t, ci_ok, wt, if_pos rt1, Int.toNat_natCast, q42, q42', bi_0]
    unfold fbt
    by_cases y : fpl V x t = true
    · rw [if_neg (by rw [y]; decide), if_pos y, nx_inl]
      refine out_of ?_
      obtain ⟨L, s, ⟨rfl, v, rfl, hv⟩, e⟩ := loop_rel (O := t_run tbl mtb (d + 1)) (k := 137) (pc := 54) (fun k L s => s = σ ∧ ∃ v, L = [some (vh 0 0), some (vi x), some (vh 41 x), some (vh 38 g.toNat), some (vi (t : Int)), some (vi v), some (vi (k : Int)), none] ∧ w32 v = w32 (bk V t x + fS (fkS V g t x) k)) (nP V) (by
        rintro p L s hp ⟨rfl, v, rfl, hv⟩
        obtain ⟨-, f1, -⟩ := h 5 p hp
        have r40 : 0 ≤ (p : Int) ∧ (p : Int) < 40 := by omega
        obtain ⟨-, q2⟩ := h 7 p (by omega)
        obtain ⟨-, q4⟩ := q2 hp
        have st := fun N => tr_step (n := N) (s_kX11_isBalanced_54 (t_run tbl mtb (d + 1)) x x g.toNat t v p s )
        simp only [h.np, if_pos (show (p : Int) < V 51 23 by omega), Int.toNat_natCast, if_pos r40, f1, wt, if_pos rt1, w32_nat (show p < 2147483647 by omega)] at st
        have eS : fS (fkS V g t x) (p + 1) = fS (fkS V g t x) p + fkS V g t x p := rfl
        by_cases q : V 65 p = (x : Int)
        · have egm : fgm V p = g := by
            unfold fgm
            rw [q, Int.toNat_natCast, hxg]
          obtain ⟨k1, k2⟩ := hK.1 p hp egm t (by omega)
          obtain ⟨q5, q6⟩ := q4 t (by rw [egm]; omega)
          by_cases w : V 72 (40 * t + p) < 0
          · simp only [if_pos q, q6 w, if_neg (show ¬ (1 : Int) = 0 by decide)] at st
            refine ⟨_, _, ⟨rfl, v, rfl, ?_⟩, st⟩
            rw [eS, fkS, if_neg (by omega), Int.add_zero]
            exact hv
          · obtain ⟨q7, q8⟩ := q5 (by omega)
            have r48 : 0 ≤ V 72 (40 * t + p) ∧ V 72 (40 * t + p) < 48 := by omega
            obtain ⟨q9, -⟩ := h 2 g.toNat (V 72 (40 * t + p)).toNat (by omega) (by omega)
            simp only [if_pos q, q7, if_true, q8, if_pos r48, q9] at st
            refine ⟨_, _, ⟨rfl, _, rfl, ?_⟩, st⟩
            rw [eS, fkS, if_pos (by omega), show (48 * g + V 72 (40 * t + p)).toNat = 48 * g.toNat + (V 72 (40 * t + p)).toNat by omega, ← Int.add_assoc]
            exact sum_st hv
        · simp only [if_neg q] at st
          refine ⟨_, _, ⟨rfl, v, rfl, ?_⟩, st⟩
          rw [eS, fkS, if_neg (fun z => q z.1), Int.add_zero]
          exact hv) (nP V) 0 [some (vh 0 0), some (vi x), some (vh 41 x), some (vh 38 g.toNat), some (vi (t : Int)), some (vi (bk V t x)), some (vi ((0 : Nat) : Int)), none] σ (by omega) ⟨rfl, _, rfl, by
            show _ = w32 (bk V t x + 0)
            rw [Int.add_zero]⟩
      have e := e (999998 - nP V + 1)
      rw [show 999998 - nP V + 1 + nP V = 999999 by omega] at e
      have st := fun N => tr_step (n := N) (s_kX11_isBalanced_54 (t_run tbl mtb (d + 1)) x x g.toNat t v (nP V) s )
      simp only [h.np, if_neg (show ¬ ((nP V : Nat) : Int) < V 51 23 by omega), Int.toNat_natCast, if_pos rt2, wt, if_pos rt1, q42, q43, sum_en hv] at st
      refine e.trans ((st (999998 - nP V)).trans ?_)
      by_cases u : w32 (bk V t x + fS (fkS V g t x) (nP V) - V 74 (12 * t + x)) = V 73 (12 * t + x)
      · rw [if_pos u, decide_eq_true u]
        rfl
      · rw [if_neg u, decide_eq_false u]
        rfl
    · rw [if_pos (by simpa using y), if_neg y]
      by_cases u : bk V t x = V 73 (12 * t + x)
      · rw [if_pos u, decide_eq_true u]
        rfl
      · rw [if_neg u, decide_eq_false u]
        rfl
set_option maxHeartbeats 2000000 in
theorem c_check (h : CR σ V) (hg : 0 ≤ g ∧ g < V 51 8) (hK : KG V g (V 54 g.toNat).toNat) : t_run tbl mtb (d + 3) 133 [vh 0 0, vi g] σ = some (some (vi (fck V g)), σ) := by
  have hI := h.inv
  have h0 := hI.cnt
  have hU := hK.mU hI
  have r3 : 0 ≤ g ∧ g < 3 := by omega
  rw [run_go (k := 133) (as := [vh 0 0, vi g]) mt_133 (Nat.ne_of_beq_eq_false rfl) rfl (s_kX11_check_0 _ g σ), ci_of (c_isGame (d := d + 1) h g)]
  simp only [bi_0, decide_eq_false_iff_not]
  rw [if_neg (by omega), nx_inl]
  refine out_of ?_
  obtain ⟨L, s, ⟨rfl, m, rfl, hm, hb⟩, e⟩ := loop_rel (O := t_run tbl mtb (d + 2)) (k := 133) (pc := 18) (fun k L s => s = σ ∧ ∃ m : Nat, L = [some (vh 0 0), some (vi g), some (vj m), none, some (vi (bi (fE (fcw V g) k))), some (vi (k : Int)), none] ∧ m < 2 ^ 48 ∧ ∀ i : Nat, i < 48 → m.testBit i = fE (fcBt V g i) k) (nP V) (by
    rintro p L s hp ⟨rfl, m, rfl, hm, hb⟩
    obtain ⟨f0, -, -, f3, -, -, f6⟩ := h 5 p hp
    obtain ⟨-, -, k1, k2, -⟩ := hI 3 p hp
    obtain ⟨c, hc⟩ : ∃ c : Nat, V 66 p = (c : Int) := ⟨(V 66 p).toNat, by omega⟩
    have r40 : 0 ≤ (p : Int) ∧ (p : Int) < 40 := by omega
    have r48 : 0 ≤ (c : Int) ∧ (c : Int) < 48 := by omega
    have st := fun N => tr_step (n := N) (s_kX11_check_18 (t_run tbl mtb (d + 2)) g m (bi (fE (fcw V g) p)) p s )
    simp only [h.np, if_pos (show (p : Int) < V 51 23 by omega), Int.toNat_natCast, if_pos r40, f0, f3, f6, w32_nat (show p < 2147483647 by omega), hc, jj_bit (show m < 2 ^ 63 by omega) (show c < 64 by omega), bit_i, hb c (by omega), bi_0, if_neg (show ¬ bi (fE (fcBt V g c) p) < 0 from fun z => by have := bi_r (fE (fcBt V g c) p); omega)] at st
    by_cases q : V 69 p = 0 ∧ fgm V p = g
    · have hi : mIn V g p = true := decide_eq_true q
      have hF : fE (fcBt V g c) p = false := fE_false.mpr (fun r hr => by
        cases w : fcBt V g c r with
        | false => rfl
        | true =>
          unfold fcBt at w
          rw [Bool.and_eq_true, decide_eq_true_eq] at w
          have := hU r p (by omega) hp w.1 hi (by rw [w.2, hc])
          omega)
      obtain ⟨-, q9⟩ := h 2 g.toNat c (by omega) (by omega)
      simp only [if_pos q.1, if_pos q.2, hF, if_true, if_pos r3, if_pos r48, q9, jj_shl (show c < 63 by omega), jj_or (show m < 2 ^ 63 by omega) (show 2 ^ c < 2 ^ 63 from Nat.pow_lt_pow_right (by decide) (by omega))] at st
      have ew : fE (fcw V g) (p + 1) = (fE (fcw V g) p || decide (V 58 (48 * g.toNat + c) ≠ 0)) := by
        rw [fE, fcw, hi, Bool.true_and, hc, show (48 * g + (c : Int)).toNat = 48 * g.toNat + c by omega]
      have hm' : m ||| 2 ^ c < 2 ^ 48 := Nat.or_lt_two_pow hm (Nat.pow_lt_pow_right (by decide) (by omega))
      have hb' : ∀ i : Nat, i < 48 → (m ||| 2 ^ c).testBit i = fE (fcBt V g i) (p + 1) := fun i hi' => by
        rw [Nat.testBit_or, Nat.testBit_two_pow, hb i hi', fE, show fcBt V g i p = decide (c = i) from by
          unfold fcBt
          rw [hi, Bool.true_and, hc]
          exact decide_eq_decide.mpr (by omega)]
      by_cases z : V 58 (48 * g.toNat + c) = 0
      · have ez : decide (V 58 (48 * g.toNat + c) ≠ 0) = false := decide_eq_false (fun w => w z)
        simp only [if_pos z] at st
        refine ⟨_, _, ⟨rfl, m ||| 2 ^ c, ?_, hm', hb'⟩, st⟩
        rw [ew, ez, Bool.or_false]
      · have ez : decide (V 58 (48 * g.toNat + c) ≠ 0) = true := decide_eq_true z
        simp only [if_neg z] at st
        refine ⟨_, _, ⟨rfl, m ||| 2 ^ c, ?_, hm', hb'⟩, st⟩
        rw [ew, ez, Bool.or_true, show bi true = 1 from rfl]
    · have hi : mIn V g p = false := decide_eq_false q
      refine ⟨_, _, ⟨rfl, m, rfl, hm, fun i hi' => ?_⟩, fun n => ?_⟩
      · rw [hb i hi', fE, fcBt, hi, Bool.false_and, Bool.or_false]
      · have st := st n
        rw [fE, fcw, hi, Bool.false_and, Bool.or_false]
        by_cases q1 : fgm V p = g
        · simp only [if_pos q1, if_neg (show ¬ V 69 p = 0 from fun z => q ⟨z, q1⟩)] at st
          exact st
        · simp only [if_neg q1] at st
          exact st) (nP V) 0 [some (vh 0 0), some (vi g), some (vj ((0 : Nat) : Int)), none, some (vi (bi (fE (fcw V g) 0))), some (vi ((0 : Nat) : Int)), none] σ (by omega) ⟨rfl, 0, rfl, by decide, fun i hi => by rw [Nat.zero_testBit]; rfl⟩
  have e := e (999998 - nP V + 1)
  rw [show 999998 - nP V + 1 + nP V = 999999 by omega] at e
  refine e.trans ?_
  have st := fun N => tr_step (n := N) (s_kX11_check_18 (t_run tbl mtb (d + 2)) g m (bi (fE (fcw V g) (nP V))) (nP V) s )
  simp only [h.np, if_neg (show ¬ ((nP V : Nat) : Int) < V 51 23 by omega), bi_0] at st
  refine (st (999998 - nP V)).trans ?_
  unfold fck
  cases q : fE (fcw V g) (nP V) with
  | true => rfl
  | false =>
    rw [if_pos rfl, if_neg (by decide), nx_inl]
    have hst : ∀ x, x < nH V → ∀ n, t_tr tbl mtb (t_run tbl mtb (d + 2)) 133 (n + 1) 119 [some (vh 0 0), some (vi g), none, none, none, some (vi (x : Int)), none] [] s = if fub V g x = true then some (.inr (some (vi 3), s)) else t_tr tbl mtb (t_run tbl mtb (d + 2)) 133 n 119 [some (vh 0 0), some (vi g), none, none, none, some (vi ((x + 1 : Nat) : Int)), none] [] s := by
      intro x hx n
      obtain ⟨-, p5, -⟩ := h 3 x (by omega)
      obtain ⟨e41, -⟩ := p5 hx
      have r12 : 0 ≤ (x : Int) ∧ (x : Int) < 12 := by omega
      have st := fun N => tr_step (n := N) (s_kX11_check_119 (t_run tbl mtb (d + 2)) g x s )
      simp only [h.nh, if_pos (show (x : Int) < V 51 15 by omega), Int.toNat_natCast, if_pos r12, e41, w32_nat (show x < 2147483647 by omega)] at st
      rw [st n]
      unfold fub
      by_cases y : V 59 x = g
      · simp only [if_pos y, c_isBalanced (d := d) h hg hK hx y, ci_ok, bi_0]
        rw [decide_eq_true y, Bool.true_and]
        cases fbl V g x <;> rfl
      · rw [if_neg y, decide_eq_false y, Bool.false_and]
        rfl
    have hlp : ∀ N, N ≤ nH V → (∀ x, x < N → fub V g x = false) → ∀ n, t_tr tbl mtb (t_run tbl mtb (d + 2)) 133 (n + N) 119 [some (vh 0 0), some (vi g), none, none, none, some (vi ((0 : Nat) : Int)), none] [] s = t_tr tbl mtb (t_run tbl mtb (d + 2)) 133 n 119 [some (vh 0 0), some (vi g), none, none, none, some (vi (N : Int)), none] [] s := by
      intro N hN hf
      obtain ⟨L, s', ⟨rfl, rfl⟩, e⟩ := loop_rel (O := t_run tbl mtb (d + 2)) (k := 133) (pc := 119) (fun k L s' => s' = s ∧ L = [some (vh 0 0), some (vi g), none, none, none, some (vi (k : Int)), none]) N (by
        rintro x L s' hx ⟨rfl, rfl⟩
        refine ⟨_, _, ⟨rfl, rfl⟩, fun n => ?_⟩
        rw [hst x (by omega) n, hf x hx]
        rfl) N 0 _ s (by omega) ⟨rfl, rfl⟩
      exact e
    cases w : fE (fub V g) (nH V) with
    | true =>
      obtain ⟨x, hx, hx1, hx2⟩ := fE_first w
      have e := hlp x (by omega) hx2 (999997 - nP V - x + 1)
      rw [show 999997 - nP V - x + 1 + x = 999998 - nP V by omega] at e
      refine e.trans ?_
      rw [hst x hx, if_pos hx1]
      rfl
    | false =>
      have e := hlp (nH V) (Nat.le_refl _) (fE_false.mp w) (999997 - nP V - nH V + 1)
      rw [show 999997 - nP V - nH V + 1 + nH V = 999998 - nP V by omega] at e
      refine e.trans ?_
      have st := fun N => tr_step (n := N) (s_kX11_check_119 (t_run tbl mtb (d + 2)) g (nH V) s )
      simp only [h.nh, if_neg (show ¬ ((nH V : Nat) : Int) < V 51 15 by omega)] at st
      exact st _
set_option maxHeartbeats 2000000 in
theorem r_bal (hV : RV σ V) (hI : Inv V) (hg : 0 ≤ g ∧ g < V 51 8) (hK : KG V g (V 54 g.toNat).toNat) {t : Nat} (ht : V 54 g.toNat = (t : Int) + 1) {x : Nat} (hx : x < nH V) (hxg : V 59 x = g) : ∃ c, c ≤ nP V + 2 ∧ ∀ n, t_tr tbl mtb (t_run tbl mtb (d + 99)) 246 (n + c) 109 [some (vh 51 0), some (vi g), some (vi (t : Int)), some (vi (x : Int)), none, none, none] [] σ = if fbt V g t x = true then t_tr tbl mtb (t_run tbl mtb (d + 99)) 246 n 109 [some (vh 51 0), some (vi g), some (vi (t : Int)), some (vi ((x + 1 : Nat) : Int)), none, none, none] [] σ else some (.inr (some (vi 3), σ)) := by
  have h0 := hI.cnt
  obtain ⟨b1, b2, -⟩ := hI 1 g.toNat (by omega)
  have r12 : 0 ≤ (x : Int) ∧ (x : Int) < 12 := by omega
  have q15 : σ 51 0 15 = V 51 15 := hV 51 15 rfl rfl rfl
  have q23 : σ 51 0 23 = V 51 23 := hV 51 23 rfl rfl rfl
  have q59 : σ 59 0 x = V 59 x := hV 59 x rfl rfl rfl
  have q61 : σ 61 0 x = V 61 x := hV 61 x rfl rfl rfl
  have q62 : σ 62 0 x = V 62 x := hV 62 x rfl rfl rfl
  have q73 : ∀ j, σ 73 0 j = V 73 j := fun j => hV 73 j rfl rfl rfl
  have q74 : ∀ j, σ 74 0 j = V 74 j := fun j => hV 74 j rfl rfl rfl
  have htg : (t : Int) < V 54 (V 59 x).toNat := by rw [hxg]; omega
  have w1 : w32 (w32 (12 * (t : Int)) + (x : Int)) = ((12 * t + x : Nat) : Int) := by
    rw [w32_add_l, w32_id (by omega) (by omega)]
    omega
  have r1 : 0 ≤ ((12 * t + x : Nat) : Int) ∧ ((12 * t + x : Nat) : Int) < 360 := by omega
  -- into the sum
  have s1 : ∀ n, t_tr tbl mtb (t_run tbl mtb (d + 99)) 246 (n + 1) 109 [some (vh 51 0), some (vi g), some (vi (t : Int)), some (vi (x : Int)), none, none, none] [] σ = t_tr tbl mtb (t_run tbl mtb (d + 99)) 246 n 162 [some (vh 51 0), some (vi g), some (vi (t : Int)), some (vi (x : Int)), some (vi (bk V t x)), some (vi 0), none] [] σ := by
    intro n
    have st := fun N => tr_step (n := N) (s_kX12_check_109 (t_run tbl mtb (d + 99)) g t x σ )
    simp only [q15, if_pos (show (x : Int) < V 51 15 by omega), if_neg (show ¬ (t : Int) < 0 by omega), if_pos r12, Int.toNat_natCast, q59, if_pos hxg, q61, q73] at st
    rw [st n]
    unfold bk
    by_cases z : t = 0
    · rw [if_pos (by omega), if_pos z]
      rfl
    · have w2 : w32 (w32 (12 * w32 ((t : Int) - 1)) + (x : Int)) = ((12 * (t - 1) + x : Nat) : Int) := by
        rw [w32_id (x := (t : Int) - 1) (by omega) (by omega), w32_add_l, w32_id (by omega) (by omega)]
        omega
      rw [if_neg (by omega), if_neg z, w2, if_pos (by omega), Int.toNat_natCast]
      rfl
  by_cases y : fpl V x t = true
  · have y2 : V 62 x < 0 ∨ (t : Int) < V 62 x := by
      unfold fpl at y
      exact of_decide_eq_true y
    obtain ⟨L, s, ⟨rfl, v, rfl, hv⟩, e⟩ := loop_rel (O := t_run tbl mtb (d + 99)) (k := 246) (pc := 162) (fun k L s => s = σ ∧ ∃ v, L = [some (vh 51 0), some (vi g), some (vi (t : Int)), some (vi (x : Int)), some (vi v), some (vi (k : Int)), none] ∧ w32 v = w32 (bk V t x + fS (fkS V g t x) k)) (nP V) (by
      rintro p L s hp ⟨rfl, v, rfl, hv⟩
      have r40 : 0 ≤ (p : Int) ∧ (p : Int) < 40 := by omega
      have q65 : s 65 0 p = V 65 p := hV 65 p rfl rfl rfl
      have q72 : ∀ j, s 72 0 j = V 72 j := fun j => hV 72 j rfl rfl rfl
      have q57 : ∀ j, s 57 0 j = V 57 j := fun j => hV 57 j rfl rfl rfl
      have w3 : w32 (w32 (40 * (t : Int)) + (p : Int)) = ((40 * t + p : Nat) : Int) := by
        rw [w32_add_l, w32_id (by omega) (by omega)]
        omega
      have r3 : 0 ≤ ((40 * t + p : Nat) : Int) ∧ ((40 * t + p : Nat) : Int) < 1200 := by omega
      have st := fun N => tr_step (n := N) (s_kX12_check_162 (t_run tbl mtb (d + 99)) g t x v p s )
      simp only [q23, if_pos (show (p : Int) < V 51 23 by omega), if_pos r12, Int.toNat_natCast, q62, w3, if_pos r3, if_pos r40, q65, q72, w32_nat (show p < 2147483647 by omega)] at st
      have eS : fS (fkS V g t x) (p + 1) = fS (fkS V g t x) p + fkS V g t x p := rfl
      by_cases q : V 65 p = (x : Int) ∧ 0 ≤ V 72 (40 * t + p)
      · have egm : fgm V p = g := by
          unfold fgm
          rw [q.1, Int.toNat_natCast, hxg]
        obtain ⟨k1, k2⟩ := hK.1 p hp egm t (by omega)
        have w4 : w32 (w32 (48 * g) + V 72 (40 * t + p)) = 48 * g + V 72 (40 * t + p) := by
          rw [w32_add_l, w32_id (by omega) (by omega)]
        refine ⟨_, _, ⟨rfl, w32 (v + fkS V g t x p), rfl, ?_⟩, fun n => ?_⟩
        · rw [eS, ← Int.add_assoc]
          exact sum_st hv
        · have st := st n
          simp only [if_pos q.1, if_neg (show ¬ V 72 (40 * t + p) < 0 by omega), w4, if_pos (show 0 ≤ 48 * g + V 72 (40 * t + p) ∧ 48 * g + V 72 (40 * t + p) < 144 by omega), q57] at st
          rw [fkS, if_pos q]
          rcases y2 with y2 | y2
          · rw [if_pos y2] at st
            exact st
          · rw [if_pos y2] at st
            by_cases z : V 62 x < 0
            · rw [if_pos z] at st
              exact st
            · rw [if_neg z] at st
              exact st
      · refine ⟨_, _, ⟨rfl, w32 (v + 0), rfl, ?_⟩, fun n => ?_⟩
        · rw [eS, ← Int.add_assoc, fkS, if_neg q]
          exact sum_st hv
        · have st := st n
          have ee : (if V 62 x < 0 then (0 : Int) else if (t : Int) < V 62 x then 0 else 1) = 0 := by
            rcases y2 with y2 | y2
            · rw [if_pos y2]
            · rw [if_pos y2]
              split <;> rfl
          by_cases q1 : V 65 p = (x : Int)
          · simp only [if_pos q1, if_pos (show V 72 (40 * t + p) < 0 by omega)] at st
            by_cases z : V 62 x < 0
            · rw [if_pos z] at st
              exact st
            · rw [if_neg z, if_pos (show (t : Int) < V 62 x by omega)] at st
              exact st
          · simp only [if_neg q1] at st
            by_cases z : V 62 x < 0
            · rw [if_pos z] at st
              exact st
            · rw [if_neg z, if_pos (show (t : Int) < V 62 x by omega)] at st
              exact st) (nP V) 0 [some (vh 51 0), some (vi g), some (vi (t : Int)), some (vi (x : Int)), some (vi (bk V t x)), some (vi ((0 : Nat) : Int)), none] σ (by omega) ⟨rfl, _, rfl, by
        show _ = w32 (bk V t x + 0)
        rw [Int.add_zero]⟩
    refine ⟨nP V + 2, Nat.le_refl _, fun n => ?_⟩
    have st := fun N => tr_step (n := N) (s_kX12_check_162 (t_run tbl mtb (d + 99)) g t x v (nP V) s )
    simp only [q23, if_neg (show ¬ ((nP V : Nat) : Int) < V 51 23 by omega), w1, if_pos r1, Int.toNat_natCast, q73, q74, sum_en hv, w32_nat (show x < 2147483647 by omega)] at st
    have e := e (n + 1)
    rw [show n + (nP V + 2) = n + 1 + nP V + 1 by omega]
    refine (s1 _).trans (e.trans ((st n).trans ?_))
    unfold fbt
    rw [if_pos y]
    by_cases u : w32 (bk V t x + fS (fkS V g t x) (nP V) - V 74 (12 * t + x)) = V 73 (12 * t + x)
    · rw [if_pos u, if_pos (decide_eq_true u)]
      rfl
    · rw [if_neg u, if_neg (by rw [decide_eq_false u]; decide)]
      rfl
  · have y2 : ¬ V 62 x < 0 ∧ ¬ (t : Int) < V 62 x := by
      unfold fpl at y
      rw [decide_eq_true_eq] at y
      omega
    have z74 : V 74 (12 * t + x) = 0 := hI 4 x hx t htg (by omega) (by omega)
    have rbk : rgI (bk V t x) := by
      obtain ⟨z1, z2, z3⟩ := hI 6 x hx
      unfold bk
      by_cases z : t = 0
      · rw [if_pos z]
        exact z2
      · rw [if_neg z]
        exact z3 (t - 1) (by omega)
    refine ⟨2, by omega, fun n => ?_⟩
    have st := fun N => tr_step (n := N) (s_kX12_check_162 (t_run tbl mtb (d + 99)) g t x (bk V t x) 0 σ )
    simp only [q62, Int.toNat_natCast, if_pos r12, if_neg y2.1, if_neg y2.2, w1, if_pos r1, q73, q74, z74, Int.sub_zero, w32_id rbk.1 rbk.2, w32_nat (show x < 2147483647 by omega), ite_self] at st
    refine (s1 _).trans ((st n).trans ?_)
    unfold fbt
    rw [if_neg y]
    by_cases u : bk V t x = V 73 (12 * t + x)
    · rw [if_pos u, if_pos (decide_eq_true u)]
      rfl
    · rw [if_neg u, if_neg (by rw [decide_eq_false u]; decide)]
      rfl
set_option maxHeartbeats 2000000 in
theorem r_check (hV : RV σ V) (hI : Inv V) (hg : 0 ≤ g ∧ g < V 51 8) (hK : KG V g (V 54 g.toNat).toNat) : t_run tbl mtb (d + 100) 246 [vh 51 0, vi g] σ = some (some (vi (fck V g)), σ) := by
  have h0 := hI.cnt
  have hU := hK.mU hI
  have r3 : 0 ≤ g ∧ g < 3 := by omega
  obtain ⟨b1, b2, -⟩ := hI 1 g.toNat (by omega)
  have q15 : σ 51 0 15 = V 51 15 := hV 51 15 rfl rfl rfl
  have q23 : σ 51 0 23 = V 51 23 := hV 51 23 rfl rfl rfl
  have q54 : σ 54 0 g.toNat = V 54 g.toNat := hV 54 _ rfl rfl rfl
  have q66 : ∀ p, σ 66 0 p = V 66 p := fun p => hV 66 p rfl rfl rfl
  have q58 : ∀ p, σ 58 0 p = V 58 p := fun p => hV 58 p rfl rfl rfl
  have ein : ∀ p, p < nP V → t_run tbl mtb (d + 99) 205 [vh 51 0, vi (p : Int), vi g] σ = some (some (vi (bi (mIn V g p))), σ) := fun p hp => r_isIn (d := d + 97) hV hI hp g
  rw [run_go (k := 246) (as := [vh 51 0, vi g]) mt_246 (Nat.ne_of_beq_eq_false rfl) rfl (s_kX12_check_0 _ g σ), ci_of (r_isGame (d := d + 98) hV g)]
  simp only [bi_0, decide_eq_false_iff_not]
  rw [if_neg (by omega), nx_inl]
  refine out_of ?_
  -- no two in one cell
  have e12 : ∀ n, t_tr tbl mtb (t_run tbl mtb (d + 99)) 246 (n + 1 + nP V) 12 [some (vh 51 0), some (vi g), some (vi 0), none, none, none, none] [] σ = t_tr tbl mtb (t_run tbl mtb (d + 99)) 246 n 54 [some (vh 51 0), some (vi g), some (vi 0), none, none, none, none] [] σ := by
    obtain ⟨L, s, ⟨rfl, rfl⟩, e⟩ := loop_rel (O := t_run tbl mtb (d + 99)) (k := 246) (pc := 12) (fun k L s => s = σ ∧ L = [some (vh 51 0), some (vi g), some (vi (k : Int)), none, none, none, none]) (nP V) (by
      rintro p L s hp ⟨rfl, rfl⟩
      have r40 : 0 ≤ (p : Int) ∧ (p : Int) < 40 := by omega
      have st := fun N => tr_step (n := N) (s_kX12_check_12 (t_run tbl mtb (d + 99)) g p s )
      simp only [q23, if_pos (show (p : Int) < V 51 23 by omega), ein p hp, ci_ok, bi_0, Int.toNat_natCast, if_pos r40, q66, w32_nat (show p < 2147483647 by omega)] at st
      refine ⟨_, _, ⟨rfl, rfl⟩, fun n => ?_⟩
      have st := st n
      cases q : mIn V g p with
      | false =>
        rw [if_pos q] at st
        exact st
      | true =>
        have e1 : t_run tbl mtb (d + 99) 148 [vh 51 0, vi g, vi (V 66 p)] s = some (some (vi (p : Int)), s) := by
          have e2 := r_pieceAt (d := d + 97) hV hI g (V 66 p)
          rw [(fat_iff hI hU (V 66 p) hp).mpr ⟨q, rfl⟩] at e2
          exact e2
        rw [if_neg (by rw [q]; decide), e1, ci_ok, if_pos rfl] at st
        exact st) (nP V) 0 [some (vh 51 0), some (vi g), some (vi ((0 : Nat) : Int)), none, none, none, none] σ (by omega) ⟨rfl, rfl⟩
    intro n
    refine (e (n + 1)).trans ?_
    have st := fun N => tr_step (n := N) (s_kX12_check_12 (t_run tbl mtb (d + 99)) g (nP V) s )
    simp only [q23, if_neg (show ¬ ((nP V : Nat) : Int) < V 51 23 by omega)] at st
    exact st n
  -- walls
  have h54 : ∀ p, p < nP V → ∀ n, t_tr tbl mtb (t_run tbl mtb (d + 99)) 246 (n + 1) 54 [some (vh 51 0), some (vi g), some (vi (p : Int)), none, none, none, none] [] σ = if fcw V g p = true then some (.inr (some (vi 2), σ)) else t_tr tbl mtb (t_run tbl mtb (d + 99)) 246 n 54 [some (vh 51 0), some (vi g), some (vi ((p + 1 : Nat) : Int)), none, none, none, none] [] σ := by
    intro p hp n
    have r40 : 0 ≤ (p : Int) ∧ (p : Int) < 40 := by omega
    obtain ⟨-, -, k1, k2, -⟩ := hI 3 p hp
    have w4 : w32 (w32 (48 * g) + V 66 p) = 48 * g + V 66 p := by
      rw [w32_add_l, w32_id (by omega) (by omega)]
    have st := fun N => tr_step (n := N) (s_kX12_check_54 (t_run tbl mtb (d + 99)) g p σ )
    simp only [q23, if_pos (show (p : Int) < V 51 23 by omega), ein p hp, ci_ok, bi_0, Int.toNat_natCast, if_pos r40, q66, w32_nat (show p < 2147483647 by omega), w4, if_pos (show 0 ≤ 48 * g + V 66 p ∧ 48 * g + V 66 p < 144 by omega), q58] at st
    rw [st n]
    unfold fcw
    cases q : mIn V g p with
    | false =>
      rw [if_pos rfl, Bool.false_and]
      rfl
    | true =>
      rw [if_neg (by decide), Bool.true_and]
      by_cases z : V 58 (48 * g + V 66 p).toNat = 0
      · rw [if_pos z, if_neg (by rw [decide_eq_false (fun w => w z)]; decide)]
        rfl
      · rw [if_neg z, if_pos (decide_eq_true z)]
        rfl
  have l54 : ∀ N, N ≤ nP V → (∀ p, p < N → fcw V g p = false) → ∀ n, t_tr tbl mtb (t_run tbl mtb (d + 99)) 246 (n + N) 54 [some (vh 51 0), some (vi g), some (vi ((0 : Nat) : Int)), none, none, none, none] [] σ = t_tr tbl mtb (t_run tbl mtb (d + 99)) 246 n 54 [some (vh 51 0), some (vi g), some (vi (N : Int)), none, none, none, none] [] σ := by
    intro N hN hf
    obtain ⟨L, s', ⟨rfl, rfl⟩, e⟩ := loop_rel (O := t_run tbl mtb (d + 99)) (k := 246) (pc := 54) (fun k L s' => s' = σ ∧ L = [some (vh 51 0), some (vi g), some (vi (k : Int)), none, none, none, none]) N (by
      rintro x L s' hx ⟨rfl, rfl⟩
      refine ⟨_, _, ⟨rfl, rfl⟩, fun n => ?_⟩
      rw [h54 x (by omega) n, hf x hx]
      rfl) N 0 [some (vh 51 0), some (vi g), some (vi ((0 : Nat) : Int)), none, none, none, none] σ (by omega) ⟨rfl, rfl⟩
    exact e
  unfold fck
  cases q : fE (fcw V g) (nP V) with
  | true =>
    rw [if_pos rfl]
    obtain ⟨p, hp, hp1, hp2⟩ := fE_first q
    have E := (e12 (999997 - nP V - p + 1 + p)).trans (l54 p (by omega) hp2 (999997 - nP V - p + 1))
    rw [show 999997 - nP V - p + 1 + p + 1 + nP V = 999999 by omega, h54 p hp, if_pos hp1] at E
    exact E
  | false =>
    rw [if_neg (by decide)]
    have e54 : ∀ n, t_tr tbl mtb (t_run tbl mtb (d + 99)) 246 (n + 1 + nP V + 1 + nP V) 12 [some (vh 51 0), some (vi g), some (vi 0), none, none, none, none] [] σ = t_tr tbl mtb (t_run tbl mtb (d + 99)) 246 n 109 [some (vh 51 0), some (vi g), some (vi (V 54 g.toNat - 1)), some (vi ((0 : Nat) : Int)), none, none, none] [] σ := by
      intro n
      refine (e12 _).trans ((l54 (nP V) (Nat.le_refl _) (fE_false.mp q) (n + 1)).trans ?_)
      have st := fun N => tr_step (n := N) (s_kX12_check_54 (t_run tbl mtb (d + 99)) g (nP V) σ )
      simp only [q23, if_neg (show ¬ ((nP V : Nat) : Int) < V 51 23 by omega), if_pos r3, q54, w32_id (x := V 54 g.toNat - 1) (by omega) (by omega)] at st
      exact st n
    by_cases z : V 54 g.toNat - 1 < 0
    · have hf : fE (fub V g) (nH V) = false := fE_false.mpr (fun x hx => by
        unfold fub fbl
        rw [if_pos z]
        exact Bool.and_false _)
      have E := e54 (999996 - nP V - nP V + 1)
      rw [show 999996 - nP V - nP V + 1 + 1 + nP V + 1 + nP V = 999999 by omega] at E
      have st := fun N => tr_step (n := N) (s_kX12_check_109 (t_run tbl mtb (d + 99)) g (V 54 g.toNat - 1) ((0 : Nat) : Int) σ )
      simp only [if_pos z, ite_self] at st
      rw [hf, if_neg (by decide)]
      exact E.trans (st _)
    · obtain ⟨t, ht⟩ : ∃ t : Nat, V 54 g.toNat = (t : Int) + 1 := ⟨(V 54 g.toNat - 1).toNat, by omega⟩
      have et : V 54 g.toNat - 1 = (t : Int) := by omega
      have hbl : ∀ x, fbl V g x = fbt V g t x := fun x => by
        unfold fbl
        rw [if_neg z, et, Int.toNat_natCast]
      rw [et] at e54
      have hst : ∀ x, x < nH V → ∃ c, c ≤ nP V + 2 ∧ ∀ n, t_tr tbl mtb (t_run tbl mtb (d + 99)) 246 (n + c) 109 [some (vh 51 0), some (vi g), some (vi (t : Int)), some (vi (x : Int)), none, none, none] [] σ = if fub V g x = true then some (.inr (some (vi 3), σ)) else t_tr tbl mtb (t_run tbl mtb (d + 99)) 246 n 109 [some (vh 51 0), some (vi g), some (vi (t : Int)), some (vi ((x + 1 : Nat) : Int)), none, none, none] [] σ := by
        intro x hx
        unfold fub
        rw [hbl]
        by_cases y : V 59 x = g
        · obtain ⟨c, hc, e⟩ := r_bal (d := d) hV hI hg hK ht hx y
          refine ⟨c, hc, fun n => ?_⟩
          rw [e n, decide_eq_true y, Bool.true_and]
          cases fbt V g t x <;> rfl
        · refine ⟨1, by omega, fun n => ?_⟩
          have r12 : 0 ≤ (x : Int) ∧ (x : Int) < 12 := by omega
          have q59 : σ 59 0 x = V 59 x := hV 59 x rfl rfl rfl
          have st := fun N => tr_step (n := N) (s_kX12_check_109 (t_run tbl mtb (d + 99)) g t x σ )
          simp only [q15, if_pos (show (x : Int) < V 51 15 by omega), if_neg (show ¬ (t : Int) < 0 by omega), if_pos r12, Int.toNat_natCast, q59, if_neg y, w32_nat (show x < 2147483647 by omega)] at st
          rw [st n, decide_eq_false y, Bool.false_and]
          rfl
      have hlp : ∀ N, N ≤ nH V → (∀ x, x < N → fub V g x = false) → ∃ c, c ≤ N * (nP V + 2) ∧ ∀ n, t_tr tbl mtb (t_run tbl mtb (d + 99)) 246 (n + c) 109 [some (vh 51 0), some (vi g), some (vi (t : Int)), some (vi ((0 : Nat) : Int)), none, none, none] [] σ = t_tr tbl mtb (t_run tbl mtb (d + 99)) 246 n 109 [some (vh 51 0), some (vi g), some (vi (t : Int)), some (vi (N : Int)), none, none, none] [] σ := by
        intro N hN hf
        obtain ⟨L, s', c, hc, ⟨rfl, rfl⟩, e⟩ := loop_relv (C := nP V + 2) (O := t_run tbl mtb (d + 99)) (k := 246) (pc := 109) (fun k L s' => s' = σ ∧ L = [some (vh 51 0), some (vi g), some (vi (t : Int)), some (vi (k : Int)), none, none, none]) N (by
          rintro x L s' hx ⟨rfl, rfl⟩
          obtain ⟨c, hc, e⟩ := hst x (by omega)
          refine ⟨_, _, c, hc, ⟨rfl, rfl⟩, fun n => ?_⟩
          rw [e n, hf x hx]
          rfl) N 0 [some (vh 51 0), some (vi g), some (vi (t : Int)), some (vi ((0 : Nat) : Int)), none, none, none] σ (by omega) ⟨rfl, rfl⟩
        exact ⟨c, hc, e⟩
      have hmul : ∀ N, N ≤ nH V → N * (nP V + 2) ≤ 12 * 42 := fun N hN => Nat.mul_le_mul (by omega) (by omega)
      cases w : fE (fub V g) (nH V) with
      | true =>
        obtain ⟨x, hx, hx1, hx2⟩ := fE_first w
        obtain ⟨c, hc, e⟩ := hlp x (by omega) hx2
        obtain ⟨c2, hc2, e2⟩ := hst x hx
        have hm := hmul x (by omega)
        have E := (e54 (999997 - nP V - nP V - c - c2 + c2 + c)).trans (e (999997 - nP V - nP V - c - c2 + c2))
        rw [e2, if_pos hx1, show 999997 - nP V - nP V - c - c2 + c2 + c + 1 + nP V + 1 + nP V = 999999 by omega] at E
        exact E
      | false =>
        obtain ⟨c, hc, e⟩ := hlp (nH V) (Nat.le_refl _) (fE_false.mp w)
        have hm := hmul (nH V) (Nat.le_refl _)
        have E := (e54 (999996 - nP V - nP V - c + 1 + c)).trans (e (999996 - nP V - nP V - c + 1))
        rw [show 999996 - nP V - nP V - c + 1 + c + 1 + nP V + 1 + nP V = 999999 by omega] at E
        refine E.trans ?_
        have st := fun N => tr_step (n := N) (s_kX12_check_109 (t_run tbl mtb (d + 99)) g t (nH V) σ )
        simp only [q15, if_neg (show ¬ ((nH V : Nat) : Int) < V 51 15 by omega)] at st
        exact st _
theorem two_check (hW : WW σ V) (g : Int) : Two (d + 100) 133 246 [vi g] σ := by
  have h := hW.1
  have hI := h.inv
  have h0 := hI.cnt
  by_cases hg : 0 ≤ g ∧ g < V 51 8
  · have hK := (hW.2.2 g hg.1 hg.2).1
    exact two_ask (r := vi (fck V g)) hW ⟨σ, Sc.rf, c_check (d := d + 97) h hg hK⟩ (fun s hV => ⟨s, Sc.rf, r_check (d := d) hV hI hg hK⟩)
  · refine two_ask (r := vi (-1)) hW ⟨σ, Sc.rf, ?_⟩ (fun s hV => ⟨s, Sc.rf, ?_⟩)
    · rw [run_go (k := 133) (as := [vh 0 0, vi g]) mt_133 (Nat.ne_of_beq_eq_false rfl) rfl (s_kX11_check_0 _ g σ), ci_of (c_isGame (d := d + 98) h g)]
      simp only [bi_0, decide_eq_false_iff_not]
      rw [if_pos hg]
      rfl
    · rw [run_go (k := 246) (as := [vh 51 0, vi g]) mt_246 (Nat.ne_of_beq_eq_false rfl) rfl (s_kX12_check_0 _ g s), ci_of (r_isGame (d := d + 98) hV g)]
      simp only [bi_0, decide_eq_false_iff_not]
      rw [if_pos hg]
      rfl
end
