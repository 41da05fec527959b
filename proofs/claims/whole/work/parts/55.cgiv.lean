-- the class's giveOrders()
def sgo (k j : Nat) : Bool := sb k j || s1 k j
theorem sgo_scr (k j : Nat) (h : scr k j = false) : sgo k j = false := by
  unfold sgo
  rw [sb_scr k j h, s1_scr k j h]
  rfl
theorem sb_sgo (k j : Nat) (h : sgo k j = false) : sb k j = false := (Bool.or_eq_false_iff.mp h).1
theorem s1_sgo (k j : Nat) (h : sgo k j = false) : s1 k j = false := (Bool.or_eq_false_iff.mp h).2
section
variable {σ : TM} {V : TVw} {g : Int} {t : Nat} {d : Nat}
/-- order o is THE ORDER of piece p, if none later is -/
noncomputable def gP (V : TVw) (t : Nat) (p : Nat) (o : Nat) : Bool := decide (V 89 o = (p : Int)) && fgd V o t
theorem ford_gP (V : TVw) (t p : Nat) : ford V p t = fL (gP V t p) (nO V) := rfl
/-- piece p's row while orders from m on have been looked at -/
def GV (s : TM) (V : TVw) (t p m : Nat) : Prop := (s 6 0 p = -1 ∧ s 8 0 p = 0 ∧ ford V p t = fL (gP V t p) m) ∨ (0 ≤ ford V p t ∧ s 6 0 p = ford V p t ∧ s 8 0 p = V 90 (ford V p t).toNat ∧ s 9 0 p = V 91 (ford V p t).toNat ∧ (V 90 (ford V p t).toNat = 1 → s 10 0 p = fti V p (V 91 (ford V p t).toNat) t))
theorem GV.cong {s s' : TM} {p m : Nat} (h : GV s V t p m) (h6 : s' 6 0 p = s 6 0 p) (h8 : s' 8 0 p = s 8 0 p) (h9 : s' 9 0 p = s 9 0 p) (h10 : s' 10 0 p = s 10 0 p) : GV s' V t p m := by
  unfold GV
  rw [h6, h8, h9, h10]
  exact h
theorem GV.down {s : TM} {p m : Nat} (h : GV s V t p (m + 1)) (hP : gP V t p m = false) : GV s V t p m := by
  rcases h with ⟨h1, h2, h3⟩ | h
  · refine .inl ⟨h1, h2, ?_⟩
    rw [h3, fL, if_neg (by rw [hP]; decide)]
  · exact .inr h
theorem c_give {p : Nat} (hp : p < 40) (w a i : Int) (σ : TM) : t_run tbl mtb (d + 1) 13 [vh 3 0, vi p, vi w, vi a, vi i] σ = some (none, t_upd (t_upd (t_upd σ 8 0 p w) 9 0 p a) 10 0 p i) := by
  have r1 : 0 ≤ (p : Int) ∧ (p : Int) < 40 := by omega
  rw [run_go (k := 13) (as := [vh 3 0, vi p, vi w, vi a, vi i]) mt_13 (Nat.ne_of_beq_eq_false rfl) rfl (s_kX4_give_0 _ p w a i σ), if_pos r1, if_pos r1, if_pos r1, Int.toNat_natCast]
  rfl
set_option maxHeartbeats 4000000 in
theorem c_giveOrders (h : CR σ V) (hU : mU V g) : ∃ σ', Sc sgo σ σ' ∧ MR σ' V g (aA V t) (aT V t) (aI V t) ∧ (∀ p, p < nP V → fgm V p = g → σ' 6 0 p = dL V g t p) ∧ (∀ p, p < 40 → σ' 12 0 p = 0 ∧ σ' 7 0 p = -1) ∧ t_run tbl mtb (d + 7) 109 [vh 0 0, vi g, vi t] σ = some (none, σ') := by
  have hI := h.inv
  have h0 := hI.cnt
  obtain ⟨s1', a1, a2, a3, a4, a5, a6⟩ := c_begin (d := d + 5) (h 5) hI hU
  have cr1 := h.sc a1.sb
  have e7 : σ 0 0 7 = V 51 23 := (h 0).2.2.2.1
  have e11 : s1' 0 0 11 = V 51 49 := (cr1 0).2.2.2.2.2.1
  rw [run_go (k := 109) (as := [vh 0 0, vi g, vi t]) mt_109 (Nat.ne_of_beq_eq_false rfl) rfl (s_kX11_giveOrders_0 _ g t σ), e7, cv_of a6, nx_inl, e11, w32_id (by omega) (by omega)]
  obtain ⟨L2, s2', ⟨b1, rfl, b2, b3, b4⟩, e2⟩ := loop_rel (O := t_run tbl mtb (d + 6)) (k := 109) (pc := 19) (fun i L s => Sc sgo s1' s ∧ L = [some (vh 0 0), some (vi g), some (vi (t : Int)), some (vi ((nO V : Int) - 1 - i)), none, none] ∧ (∀ p, p < nP V → fgm V p = g → GV s V t p (nO V - i)) ∧ (∀ p, p < 40 → s 12 0 p = 0 ∧ s 7 0 p = -1) ∧ (s 3 0 2 = s1' 3 0 2 ∧ (∀ m, s 5 0 m = s1' 5 0 m) ∧ (∀ c, s 14 0 c = s1' 14 0 c))) (nO V) (by
    rintro i L s hi ⟨c1, rfl, c2, c3, c4⟩
    have hs := cr1.sc (c1.mono sgo_scr)
    have e1 : (nO V : Int) - 1 - i = ((nO V - (i + 1) : Nat) : Int) := by omega
    have e3 : w32 (((nO V - (i + 1) : Nat) : Int) + (-1)) = (nO V : Int) - 1 - ((i + 1 : Nat) : Int) := by rw [w32_id (by omega) (by omega)]; omega
    have e4 : nO V - i = nO V - (i + 1) + 1 := by omega
    rw [e1]
    rw [e4] at c2
    have ho : nO V - (i + 1) < nO V := by omega
    generalize nO V - (i + 1) = o at *
    obtain ⟨f, -⟩ := hs 11 o (by omega)
    obtain ⟨f0, f1, f2, f3, f4, f5, f6⟩ := f ho
    have ro : 0 ≤ (o : Int) ∧ (o : Int) < 300 := by omega
    have eip := c_isPiece (d := d + 5) hs (V 89 o)
    have st := fun N => tr_step (n := N) (s_kX11_giveOrders_19 (t_run tbl mtb (d + 6)) g t o s )
    simp only [if_neg (show ¬ (o : Int) < 0 by omega), if_pos ro, Int.toNat_natCast, f2, eip, ci_ok, bi_0, decide_eq_false_iff_not, e3] at st
    have hno : ∀ s', Sc sgo s s' → (∀ p, s' 6 0 p = s 6 0 p ∧ s' 8 0 p = s 8 0 p ∧ s' 9 0 p = s 9 0 p ∧ s' 10 0 p = s 10 0 p ∧ s' 12 0 p = s 12 0 p ∧ s' 7 0 p = s 7 0 p ∧ s' 5 0 p = s 5 0 p ∧ s' 14 0 p = s 14 0 p) → s' 3 0 2 = s 3 0 2 → (∀ p, p < nP V → fgm V p = g → gP V t p o = false ∨ s 6 0 p ≠ -1) → Sc sgo s1' s' ∧ [some (vh 0 0), some (vi g), some (vi (t : Int)), some (vi ((nO V : Int) - 1 - ((i + 1 : Nat) : Int))), none, none] = [some (vh 0 0), some (vi g), some (vi (t : Int)), some (vi ((nO V : Int) - 1 - ((i + 1 : Nat) : Int))), none, none] ∧ (∀ p, p < nP V → fgm V p = g → GV s' V t p o) ∧ (∀ p, p < 40 → s' 12 0 p = 0 ∧ s' 7 0 p = -1) ∧ (s' 3 0 2 = s1' 3 0 2 ∧ (∀ m, s' 5 0 m = s1' 5 0 m) ∧ (∀ c, s' 14 0 c = s1' 14 0 c)) := by
      intro s' q1 q2 q3 q4
      refine ⟨c1.tr q1, rfl, fun p hp hpg => ?_, fun p hp => ?_, by rw [q3]; exact c4.1, fun m => by rw [(q2 m).2.2.2.2.2.2.1]; exact c4.2.1 m, fun c => by rw [(q2 c).2.2.2.2.2.2.2]; exact c4.2.2 c⟩
      · obtain ⟨w1, w2, w3, w4, -⟩ := q2 p
        refine GV.cong ?_ w1 w2 w3 w4
        rcases q4 p hp hpg with z | z
        · exact (c2 p hp hpg).down z
        · rcases c2 p hp hpg with ⟨y, -⟩ | y
          · exact absurd y z
          · exact .inr y
      · obtain ⟨-, -, -, -, w1, w2, -⟩ := q2 p
        rw [w1, w2]
        exact c3 p hp
    have same : ∀ p, s 6 0 p = s 6 0 p ∧ s 8 0 p = s 8 0 p ∧ s 9 0 p = s 9 0 p ∧ s 10 0 p = s 10 0 p ∧ s 12 0 p = s 12 0 p ∧ s 7 0 p = s 7 0 p ∧ s 5 0 p = s 5 0 p ∧ s 14 0 p = s 14 0 p := fun p => ⟨rfl, rfl, rfl, rfl, rfl, rfl, rfl, rfl⟩
    have gPn : ∀ p : Nat, V 89 o ≠ (p : Int) → gP V t p o = false := fun p z => by
      unfold gP
      rw [decide_eq_false z, Bool.false_and]
    by_cases hp : 0 ≤ V 89 o ∧ V 89 o < V 51 23
    · obtain ⟨p, hpe⟩ : ∃ p : Nat, V 89 o = (p : Int) := ⟨(V 89 o).toNat, by omega⟩
      have hpn : p < nP V := by omega
      have r1 : 0 ≤ (p : Int) ∧ (p : Int) < 40 := by omega
      obtain ⟨z0, -⟩ := hs 5 p hpn
      simp only [hpe, Int.toNat_natCast] at st hp
      simp only [if_neg (Decidable.not_not.mpr hp), if_pos r1, z0] at st
      by_cases hg : fgm V p = g
      · simp only [if_pos hg] at st
        by_cases h6 : s 6 0 p = -1
        · simp only [if_pos h6] at st
          obtain ⟨s2, d1, d2⟩ := c_holdsGood (d := d + 1) hs ho t
          have hs2 := hs.sc d1.s1
          obtain ⟨f', -⟩ := hs2 11 o (by omega)
          obtain ⟨-, -, f2', f3', f4', -⟩ := f' ho
          simp only [d2, ci_ok, bi_0, f2', f3', f4', hpe] at st
          have same2 : ∀ p, s2 6 0 p = s 6 0 p ∧ s2 8 0 p = s 8 0 p ∧ s2 9 0 p = s 9 0 p ∧ s2 10 0 p = s 10 0 p ∧ s2 12 0 p = s 12 0 p ∧ s2 7 0 p = s 7 0 p ∧ s2 5 0 p = s 5 0 p ∧ s2 14 0 p = s 14 0 p := fun p => ⟨d1 6 0 p rfl, d1 8 0 p rfl, d1 9 0 p rfl, d1 10 0 p rfl, d1 12 0 p rfl, d1 7 0 p rfl, d1 5 0 p rfl, d1 14 0 p rfl⟩
          by_cases hq : fgd V o t = true
          · simp only [hq, if_neg (show ¬ true = false by decide)] at st
            have hgp : gP V t p o = true := by
              unfold gP
              rw [decide_eq_true hpe, hq]
              rfl
            have hfo : ford V p t = (o : Int) := by
              rcases c2 p hpn hg with ⟨y1, y2, y3⟩ | ⟨y1, y2, -⟩
              · rw [y3, fL, if_pos hgp]
              · omega
            -- what is given
            have hset : ∀ s3 v, Sc sgo s s3 → (∀ p, s3 6 0 p = s 6 0 p ∧ s3 8 0 p = s 8 0 p ∧ s3 9 0 p = s 9 0 p ∧ s3 10 0 p = s 10 0 p ∧ s3 12 0 p = s 12 0 p ∧ s3 7 0 p = s 7 0 p ∧ s3 5 0 p = s 5 0 p ∧ s3 14 0 p = s 14 0 p) → s3 3 0 2 = s 3 0 2 → (V 90 o = 1 → v = fti V p (V 91 o) t) → Sc sgo s1' (t_upd (t_upd (t_upd (t_upd s3 6 0 p o) 8 0 p (V 90 o)) 9 0 p (V 91 o)) 10 0 p v) ∧ [some (vh 0 0), some (vi g), some (vi (t : Int)), some (vi ((nO V : Int) - 1 - ((i + 1 : Nat) : Int))), none, none] = [some (vh 0 0), some (vi g), some (vi (t : Int)), some (vi ((nO V : Int) - 1 - ((i + 1 : Nat) : Int))), none, none] ∧ (∀ q, q < nP V → fgm V q = g → GV (t_upd (t_upd (t_upd (t_upd s3 6 0 p o) 8 0 p (V 90 o)) 9 0 p (V 91 o)) 10 0 p v) V t q o) ∧ (∀ q, q < 40 → t_upd (t_upd (t_upd (t_upd s3 6 0 p o) 8 0 p (V 90 o)) 9 0 p (V 91 o)) 10 0 p v 12 0 q = 0 ∧ t_upd (t_upd (t_upd (t_upd s3 6 0 p o) 8 0 p (V 90 o)) 9 0 p (V 91 o)) 10 0 p v 7 0 q = -1) ∧ (t_upd (t_upd (t_upd (t_upd s3 6 0 p o) 8 0 p (V 90 o)) 9 0 p (V 91 o)) 10 0 p v 3 0 2 = s1' 3 0 2 ∧ (∀ m, t_upd (t_upd (t_upd (t_upd s3 6 0 p o) 8 0 p (V 90 o)) 9 0 p (V 91 o)) 10 0 p v 5 0 m = s1' 5 0 m) ∧ (∀ c, t_upd (t_upd (t_upd (t_upd s3 6 0 p o) 8 0 p (V 90 o)) 9 0 p (V 91 o)) 10 0 p v 14 0 c = s1' 14 0 c)) := by
              intro s3 v q1 q2 q3 q4
              refine ⟨((((c1.tr q1).up rfl).up rfl).up rfl).up rfl, rfl, fun q hq hqg => ?_, fun q hq => ?_, ?_, fun m => ?_, fun c => ?_⟩
              · by_cases e : q = p
                · subst e
                  refine .inr ?_
                  rw [hfo, Int.toNat_natCast]
                  refine ⟨by omega, ?_, ?_, ?_, fun z => ?_⟩
                  · rw [up_k (by decide), up_k (by decide), up_k (by decide), up_same]
                  · rw [up_k (by decide), up_k (by decide), up_same]
                  · rw [up_k (by decide), up_same]
                  · rw [up_same]; exact q4 z
                · obtain ⟨w1, w2, w3, w4, -⟩ := q2 q
                  refine GV.cong ((c2 q hq hqg).down (gPn q (by rw [hpe]; omega))) ?_ ?_ ?_ ?_
                  · rw [up_k (by decide), up_k (by decide), up_k (by decide), up_j e, w1]
                  · rw [up_k (by decide), up_k (by decide), up_j e, up_k (by decide), w2]
                  · rw [up_k (by decide), up_j e, up_k (by decide), up_k (by decide), w3]
                  · rw [up_j e, up_k (by decide), up_k (by decide), up_k (by decide), w4]
              · obtain ⟨-, -, -, -, w1, w2, -⟩ := q2 q
                rw [up_k (by decide), up_k (by decide), up_k (by decide), up_k (by decide), up_k (by decide), up_k (by decide), up_k (by decide), up_k (by decide), w1, w2]
                exact c3 q hq
              · rw [up_k (by decide), up_k (by decide), up_k (by decide), up_k (by decide), q3]; exact c4.1
              · rw [up_k (by decide), up_k (by decide), up_k (by decide), up_k (by decide), (q2 m).2.2.2.2.2.2.1]; exact c4.2.1 m
              · rw [up_k (by decide), up_k (by decide), up_k (by decide), up_k (by decide), (q2 c).2.2.2.2.2.2.2]; exact c4.2.2 c
            by_cases hw : V 90 o = 1
            · obtain ⟨-, -, -, -, k5, k6⟩ := hI 11 o ho
              have h6' : V 87 o ≠ 6 := by
                intro e
                have := k5 e
                omega
              obtain ⟨-, -, -, -, -, k9, -⟩ := k6 h6'
              obtain ⟨s3, g1, g2⟩ := c_tieOf (d := d + 3) hs2 hpn (a := V 91 o) (t := t) (k9 hw)
              have hs3 := hs2.sc g1.s1
              obtain ⟨f', -⟩ := hs3 11 o (by omega)
              obtain ⟨-, -, g2', g3', g4', -⟩ := f' ho
              have u2 : t_upd s3 6 0 p o 45 o 2 = V 89 o := by rw [up_k (by decide)]; exact g2'
              have u3 : t_upd s3 6 0 p o 45 o 3 = V 90 o := by rw [up_k (by decide)]; exact g3'
              have u4 : t_upd s3 6 0 p o 45 o 4 = V 91 o := by rw [up_k (by decide)]; exact g4'
              have eg := c_give (d := d + 5) (p := p) (by omega) (V 90 o) (V 91 o) (fti V p (V 91 o) t) (t_upd s3 6 0 p o)
              simp only [if_pos hw, g2, ci_ok, g2', hpe, if_pos r1, Int.toNat_natCast, u2, u3, u4, eg, cv_ok] at st
              refine ⟨_, _, hset s3 _ ((d1.tr g1).mono s1_sgo) (fun p => ?_) ?_ (fun _ => rfl), st⟩
              · obtain ⟨w1, w2, w3, w4, w5, w6, w7, w8⟩ := same2 p
                exact ⟨(g1 6 0 p rfl).trans w1, (g1 8 0 p rfl).trans w2, (g1 9 0 p rfl).trans w3, (g1 10 0 p rfl).trans w4, (g1 12 0 p rfl).trans w5, (g1 7 0 p rfl).trans w6, (g1 5 0 p rfl).trans w7, (g1 14 0 p rfl).trans w8⟩
              · exact (g1 3 0 2 rfl).trans (d1 3 0 2 rfl)
            · have u2 : t_upd s2 6 0 p o 45 o 2 = V 89 o := by rw [up_k (by decide)]; exact f2'
              have u3 : t_upd s2 6 0 p o 45 o 3 = V 90 o := by rw [up_k (by decide)]; exact f3'
              have u4 : t_upd s2 6 0 p o 45 o 4 = V 91 o := by rw [up_k (by decide)]; exact f4'
              have eg := c_give (d := d + 5) (p := p) (by omega) (V 90 o) (V 91 o) 0 (t_upd s2 6 0 p o)
              simp only [if_neg hw, if_pos r1, Int.toNat_natCast, u2, u3, u4, hpe, eg, cv_ok] at st
              exact ⟨_, _, hset s2 _ (d1.mono s1_sgo) same2 (d1 3 0 2 rfl) (fun z => absurd z hw), st⟩
          · have hq' : fgd V o t = false := by simpa using hq
            simp only [hq', if_true] at st
            refine ⟨_, s2, hno s2 (d1.mono s1_sgo) same2 (d1 3 0 2 rfl) (fun q hq hqg => .inl ?_), st⟩
            unfold gP
            rw [hq', Bool.and_false]
        · simp only [if_neg h6] at st
          refine ⟨_, s, hno s Sc.rf same rfl (fun q hq hqg => ?_), st⟩
          by_cases e : q = p
          · subst e; exact .inr h6
          · exact .inl (gPn q (by rw [hpe]; omega))
      · simp only [if_neg hg] at st
        refine ⟨_, s, hno s Sc.rf same rfl (fun q hq hqg => .inl (gPn q ?_)), st⟩
        rw [hpe]
        intro e
        have : p = q := by omega
        subst this
        exact hg hqg
    · simp only [if_pos hp] at st
      exact ⟨_, s, hno s Sc.rf same rfl (fun q hq hqg => .inl (gPn q (by intro e; apply hp; omega))), st⟩) (nO V) 0 [some (vh 0 0), some (vi g), some (vi (t : Int)), some (vi ((nO V : Int) - 1 - ((0 : Nat) : Int))), none, none] s1' (by omega) ⟨Sc.rf, rfl, fun p hp hpg => .inl ⟨(a2 p (by omega)).1, (a2 p (by omega)).2.1, ford_gP V t p⟩, fun p hp => ⟨(a2 p hp).2.2.1, (a2 p hp).2.2.2⟩, rfl, fun m => rfl, fun c => rfl⟩
  have cr2 := cr1.sc (b1.mono sgo_scr)
  have hgv : ∀ p, p < nP V → fgm V p = g → (ford V p t = -1 ∧ s2' 6 0 p = -1 ∧ s2' 8 0 p = 0) ∨ (0 ≤ ford V p t ∧ s2' 6 0 p = ford V p t ∧ s2' 8 0 p = V 90 (ford V p t).toNat ∧ s2' 9 0 p = V 91 (ford V p t).toNat ∧ (V 90 (ford V p t).toNat = 1 → s2' 10 0 p = fti V p (V 91 (ford V p t).toNat) t)) := by
    intro p hp hg
    rcases b2 p hp hg with ⟨z1, z2, z3⟩ | z
    · rw [Nat.sub_self] at z3
      exact .inl ⟨z3, z1, z2⟩
    · exact .inr z
  have hg_in : ∀ p, mIn V g p = true → V 69 p = 0 ∧ fgm V p = g := by
    intro p z
    unfold mIn at z
    rw [decide_eq_true_eq] at z
    exact z
  refine ⟨s2', (a1.mono sb_sgo).tr b1, ⟨by rw [b4.1, a3], fun m p hm => by rw [b4.2.1, a4 m p hm], fun p hp hi => ?_, fun c hc => by rw [b4.2.2, a5 c hc], fun p hp => ?_⟩, fun p hp hg => ?_, b3, ?_⟩
  · have hA : aA V t p = if ford V p t < 0 then 0 else V 90 (ford V p t).toNat := if_pos (show (-1 : Int) < 0 by decide)
    have hT : aT V t p = if aA V t p = 0 then V 66 p else V 91 (ford V p t).toNat := by
      show (if oA V nt nt t p = 0 then V 66 p else if nt p < 0 then V 91 (ford V p t).toNat else nt p) = _
      rw [if_pos (show nt p < 0 from (by decide : (-1 : Int) < 0))]
    rcases hgv p hp (hg_in p hi).2 with ⟨z1, z2, z3⟩ | ⟨z1, z2, z3, z4, z5⟩
    · have e : aA V t p = 0 := by rw [hA, if_pos (by omega)]
      rw [e, z3]
      exact ⟨rfl, fun q => absurd rfl q, fun q => by omega⟩
    · have e : aA V t p = V 90 (ford V p t).toNat := by rw [hA, if_neg (by omega)]
      refine ⟨by rw [e, z3], fun q => by rw [hT, if_neg q, z4], fun q => ?_⟩
      rw [e] at q
      rw [z5 q]
      show _ = fti V p (aT V t p) t
      rw [hT, if_neg (by rw [e, q]; decide)]
  · obtain ⟨-, q1, q2, q3, -⟩ := cr2 5 p hp
    exact ⟨q1, q2, q3⟩
  · unfold dL
    rcases hgv p hp hg with ⟨z1, z2, -⟩ | ⟨z1, z2, -⟩
    · rw [z2, z1]
      split <;> rfl
    · rw [z2, if_pos]
      rcases ford_r V p t with y | ⟨o, y1, y2, y3, y4⟩
      · omega
      · unfold fgd fok at y4
        simp only [Bool.and_eq_true, decide_eq_true_eq] at y4
        have y5 := y4.1.1.1.2
        rw [y3, Int.toNat_natCast] at y5
        unfold mIn
        rw [decide_eq_true_eq]
        exact ⟨y5, hg⟩
  · have f := e2 (999999 - nO V)
    rw [Nat.sub_add_cancel (by omega)] at f
    have f : t_tr tbl mtb (t_run tbl mtb (d + 6)) 109 999999 19 [some (vh 0 0), some (vi g), some (vi (t : Int)), some (vi ((nO V : Int) - 1 - ((0 : Nat) : Int))), none, none] [] s1' = _ := f
    rw [show V 51 49 - 1 = (nO V : Int) - 1 - ((0 : Nat) : Int) by omega, f, show 999999 - nO V = 999999 - nO V - 1 + 1 by omega, tr_step (s_kX11_giveOrders_19 _ g t ((nO V : Int) - 1 - (nO V : Nat)) s2'), if_pos (by omega)]
    rfl
end
