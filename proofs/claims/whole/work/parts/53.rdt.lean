-- the reference's doTurn()
def nt : Nat → Int := fun _ => -1
section
variable (V : TVw) (g : Int) (t : Nat)
noncomputable abbrev aA : Nat → Int := oA V nt nt t
noncomputable abbrev aT : Nat → Int := oT V nt nt t
noncomputable abbrev aI : Nat → Int := oI V nt nt t
noncomputable abbrev aN : TVw := dN V g (aA V t) (aT V t) (aI V t) t
noncomputable def dTp (k : Nat) (j : Nat) : Prop := j < k ∧ fgm V j = g
noncomputable def dL (p : Nat) : Int := if mIn V g p = true then ford V p t else -1
noncomputable def dX (p : Nat) : Int := if aN V g t 69 p = 0 then aN V g t 66 p else -1
/-- the rows where the pieces before the kp-th and the holders before the kh-th are kept too -/
noncomputable def dTk (kp kh : Nat) : TVw := fun x j =>
  if x = 70 then (if j < kp ∧ fgm V j = g then dL V g t j else V 70 j)
  else if x = 71 then (if j < kp ∧ fgm V j = g then mFf V g (aA V t) (aT V t) (aI V t) j else V 71 j)
  else if x = 72 then (if j / 40 = t ∧ j % 40 < kp ∧ fgm V (j % 40) = g then dX V g t (j % 40) else V 72 j)
  else if x = 73 then (if j / 12 = t ∧ j % 12 < kh ∧ V 59 (j % 12) = g then aN V g t 60 (j % 12) else V 73 j)
  else if x = 74 then (if j / 12 = t ∧ j % 12 < kh ∧ V 59 (j % 12) = g then dF V g (aA V t) (aT V t) (aI V t) t (j % 12) else V 74 j)
  else aN V g t x j
/-- the rows behind the turn -/
noncomputable def dT : TVw := fun x j => if x = 55 then (if j = g.toNat then w32 (V 55 j + 1) else V 55 j) else dTk V g t (nP V) (nH V) x j
end
section
variable {σ : TM} {V : TVw} {g : Int} {t : Nat} {d : Nat}
theorem nt_TW : TW V g nt nt := fun p hp hi => .inl (by decide : (-1 : Int) < 0)
theorem dTk_o (V : TVw) (g : Int) (t kp kh x j : Nat) (h : (Nat.ble 70 x && Nat.ble x 74) = false) : dTk V g t kp kh x j = aN V g t x j := by
  unfold dTk
  rw [if_neg (by rintro rfl; cases h), if_neg (by rintro rfl; cases h), if_neg (by rintro rfl; cases h), if_neg (by rintro rfl; cases h), if_neg (by rintro rfl; cases h)]
theorem dTk_74 {kp kh x u : Nat} (hx : x < 12) (q1 : 0 ≤ V 62 x) (q2 : V 62 x ≤ u) (e : ¬ (u = t ∧ x < kh ∧ V 59 x = g) → V 74 (12 * u + x) = 0) : dTk V g t kp kh 74 (12 * u + x) = 0 := by
  show (if (12 * u + x) / 12 = t ∧ (12 * u + x) % 12 < kh ∧ V 59 ((12 * u + x) % 12) = g then dF V g (aA V t) (aT V t) (aI V t) t ((12 * u + x) % 12) else V 74 (12 * u + x)) = 0
  rw [show (12 * u + x) / 12 = u by omega, show (12 * u + x) % 12 = x by omega]
  by_cases c : u = t ∧ x < kh ∧ V 59 x = g
  · rw [if_pos c]
    unfold dF fpl
    rw [if_neg]
    rintro ⟨-, z⟩
    rw [decide_eq_true_eq] at z
    have := c.1
    omega
  · rw [if_neg c]
    exact e c
theorem dTk_73 {kp kh x u : Nat} (hx : x < 12) (a : rgI (aN V g t 60 x)) (e : ¬ (u = t ∧ x < kh ∧ V 59 x = g) → rgI (V 73 (12 * u + x))) : rgI (dTk V g t kp kh 73 (12 * u + x)) := by
  show rgI (if (12 * u + x) / 12 = t ∧ (12 * u + x) % 12 < kh ∧ V 59 ((12 * u + x) % 12) = g then aN V g t 60 ((12 * u + x) % 12) else V 73 (12 * u + x))
  rw [show (12 * u + x) / 12 = u by omega, show (12 * u + x) % 12 = x by omega]
  by_cases c : u = t ∧ x < kh ∧ V 59 x = g
  · rw [if_pos c]
    exact a
  · rw [if_neg c]
    exact e c
theorem dTk_inv (hI : Inv V) (kp kh : Nat) : Inv (dTk V g t kp kh) := by
  have hA := oVA (t := t) hI (nt_TW (V := V) (g := g))
  have h1 : Inv (aN V g t) := dNk_inv (I := aI V t) hI hA t (nH V)
  refine h1.con (fun x j hx => dTk_o V g t kp kh x j ?_) (fun p hp => ?_) (fun g hg hn => (h1 1 g hg).2.2.1 hn |>.2) (fun x hx u q1 q2 e => dTk_74 (by have h0 := hI.cnt; have hx : x < nH V := hx; omega) q1 q2 (fun _ => e)) (fun x hx => (h1 6 x hx).1) (fun x hx u _ e => dTk_73 (by have h0 := hI.cnt; have hx : x < nH V := hx; omega) (h1 6 x hx).1 (fun _ => e))
  · unfold dkk at hx
    simp only [Bool.or_eq_false_iff] at hx
    exact hx.2.2.2.2
  · obtain ⟨-, -, q3, q4, -, -, q7, -⟩ := h1 3 p hp
    exact ⟨q3, q4, q7⟩
theorem dT_inv (hI : Inv V) (hg : 0 ≤ g ∧ g < V 51 8) : Inv (dT V g t) := by
  have h0 := hI.cnt
  have h1 := dTk_inv (g := g) (t := t) hI (nP V) (nH V)
  refine h1.con (fun x j hx => ?_) (fun p hp => ?_) (fun q hq hn => ?_) (fun x hx u _ _ e => e) (fun x hx => (h1 6 x hx).1) (fun x hx u _ e => e)
  · unfold dT
    rw [if_neg (by rintro rfl; cases hx)]
  · obtain ⟨-, -, q3, q4, -, -, q7, -⟩ := h1 3 p hp
    exact ⟨q3, q4, q7⟩
  · have hn : nG V ≤ q := hn
    show (if q = g.toNat then w32 (V 55 q + 1) else V 55 q) = 0
    rw [if_neg (by omega)]
    exact ((hI 1 q hq).2.2.1 hn).2
def srd (k j : Nat) : Bool := srg k j || (dkk k || (Nat.beq k 51 && Nat.beq j 64))
theorem srg_srd (k j : Nat) (h : srd k j = false) : srg k j = false := (Bool.or_eq_false_iff.mp h).1
def s70 (k _ : Nat) : Bool := Nat.ble 70 k && Nat.ble k 74
theorem s70_srd (k j : Nat) (h : srd k j = false) : s70 k j = false := by
  have h := (Bool.or_eq_false_iff.mp h).2
  have h := (Bool.or_eq_false_iff.mp h).1
  unfold dkk at h
  simp only [Bool.or_eq_false_iff] at h
  exact h.2.2.2.2
set_option maxHeartbeats 4000000 in
theorem r_doTurn (hV : RV σ V) (hI : Inv V) (hg : 0 ≤ g ∧ g < V 51 8) (ht : t < 30) : ∃ s, Sc srd σ s ∧ RV s (dT V g t) ∧ t_run tbl mtb (d + 74) 212 [vh 51 0, vi g, vi t] σ = some (none, s) := by
  have h0 := hI.cnt
  have v0 : RV (t_upd σ 51 0 64 0) V := hV.sc (Sc.rf.up rfl)
  have hSt : TS (t_upd σ 51 0 64 0) V g nt nt := fun p hp hi => .inl ⟨(by decide : (-1 : Int) < 0), .inl up_same⟩
  obtain ⟨s1, a1, a2, a3, a4, a5⟩ := r_goThrough (d := d) (t := t) v0 hI nt_TW hSt (by omega)
  have e51 : t_upd σ 51 0 64 0 51 0 0 = V 51 0 := by rw [up_j (by decide)]; exact hV 51 0 rfl rfl rfl
  have w0 : RV s1 (dTk V g t 0 0) := by
    intro x j h1 h2 h3
    rw [a2 x j h1 h2 h3]
    by_cases q : (Nat.ble 70 x && Nat.ble x 74) = false
    · rw [dTk_o V g t 0 0 x j q]
    · have q : (Nat.ble 70 x && Nat.ble x 74) = true := by simpa using q
      rw [Bool.and_eq_true] at q
      have q1 := Nat.le_of_ble_eq_true q.1
      have q2 := Nat.le_of_ble_eq_true q.2
      rcases (by omega : x = 70 ∨ x = 71 ∨ x = 72 ∨ x = 73 ∨ x = 74) with rfl | rfl | rfl | rfl | rfl
      · show V 70 j = if j < 0 ∧ fgm V j = g then dL V g t j else V 70 j
        rw [if_neg (fun z => Nat.not_lt_zero _ z.1)]
      · show V 71 j = if j < 0 ∧ fgm V j = g then mFf V g (aA V t) (aT V t) (aI V t) j else V 71 j
        rw [if_neg (fun z => Nat.not_lt_zero _ z.1)]
      · show V 72 j = if j / 40 = t ∧ j % 40 < 0 ∧ fgm V (j % 40) = g then dX V g t (j % 40) else V 72 j
        rw [if_neg (fun z => Nat.not_lt_zero _ z.2.1)]
      · show V 73 j = if j / 12 = t ∧ j % 12 < 0 ∧ V 59 (j % 12) = g then aN V g t 60 (j % 12) else V 73 j
        rw [if_neg (fun z => Nat.not_lt_zero _ z.2.1)]
      · show V 74 j = if j / 12 = t ∧ j % 12 < 0 ∧ V 59 (j % 12) = g then dF V g (aA V t) (aT V t) (aI V t) t (j % 12) else V 74 j
        rw [if_neg (fun z => Nat.not_lt_zero _ z.2.1)]
  obtain ⟨L2, s2', ⟨b1, rfl, b2⟩, e2⟩ := loop_rel (O := t_run tbl mtb (d + 73)) (k := 212) (pc := 17) (fun k L s => Sc s70 s1 s ∧ L = [some (vh 51 0), some (vi g), some (vi (t : Int)), some (vi (k : Int))] ∧ RV s (dTk V g t k 0)) (nP V) (by
    rintro k L s hk ⟨c1, rfl, c2⟩
    have r1 : 0 ≤ (k : Int) ∧ (k : Int) < 40 := by omega
    have hIk := dTk_inv (g := g) (t := t) hI k 0
    have eg : t_run tbl mtb (d + 73) 145 [vh 51 0, vi (k : Int)] s = some (some (vi (fgm V k)), s) := r_gameOf (d := d + 72) c2 hIk hk
    have q51 : s 51 0 23 = V 51 23 := c2 51 23 rfl rfl rfl
    have q100 : s 100 0 k = dL V g t k := by
      rw [c1 100 0 k rfl, (a4 k hk).2]
      rfl
    have q99 : s 99 0 k = mFf V g (aA V t) (aT V t) (aI V t) k := by rw [c1 99 0 k rfl, (a4 k hk).1]
    have q69 : s 69 0 k = aN V g t 69 k := c2 69 k rfl rfl rfl
    have q66 : s 66 0 k = aN V g t 66 k := c2 66 k rfl rfl rfl
    have ew : w32 (w32 (40 * (t : Int)) + (k : Int)) = ((40 * t + k : Nat) : Int) := by
      rw [w32_add_l, w32_id (by omega) (by omega)]
      omega
    have rw1 : 0 ≤ ((40 * t + k : Nat) : Int) ∧ ((40 * t + k : Nat) : Int) < 1200 := by omega
    have u99 : ∀ a, t_upd s 70 0 k a 99 0 k = mFf V g (aA V t) (aT V t) (aI V t) k := fun a => by rw [up_k (by decide), q99]
    have u69 : ∀ a b, t_upd (t_upd s 70 0 k a) 71 0 k b 69 0 k = aN V g t 69 k := fun a b => by rw [up_k (by decide), up_k (by decide), q69]
    have u66 : ∀ a b, t_upd (t_upd s 70 0 k a) 71 0 k b 66 0 k = aN V g t 66 k := fun a b => by rw [up_k (by decide), up_k (by decide), q66]
    have st := fun N => tr_step (n := N) (s_kX12_doTurn_17 (t_run tbl mtb (d + 73)) g t k s )
    simp only [q51, if_pos (show (k : Int) < V 51 23 by omega), w32_nat (show k < 2147483647 by omega), Int.toNat_natCast, if_pos r1, eg, ci_ok, q100, u99, u69, u66, ew, if_pos rw1] at st
    by_cases z : fgm V k = g
    · simp only [if_pos z] at st
      have st : ∀ N, t_tr tbl mtb (t_run tbl mtb (d + 73)) 212 (N + 1) 17 [some (vh 51 0), some (vi g), some (vi (t : Int)), some (vi (k : Int))] [] s = t_tr tbl mtb (t_run tbl mtb (d + 73)) 212 N 17 [some (vh 51 0), some (vi g), some (vi (t : Int)), some (vi ((k + 1 : Nat) : Int))] [] (t_upd (t_upd (t_upd s 70 0 k (dL V g t k)) 71 0 k (mFf V g (aA V t) (aT V t) (aI V t) k)) 72 0 (40 * t + k) (dX V g t k)) := by
        intro N
        have st := st N
        unfold dX
        by_cases y : aN V g t 69 k = 0
        · rw [if_pos y] at st ⊢
          exact st
        · rw [if_neg y] at st ⊢
          exact st
      refine ⟨_, _, ⟨((c1.up rfl).up rfl).up rfl, rfl, fun x j h1 h2 h3 => ?_⟩, st⟩
      have hs := c2 x j h1 h2 h3
      by_cases x70 : x = 70
      · subst x70
        rw [up_k (by decide), up_k (by decide)]
        show _ = if j < k + 1 ∧ fgm V j = g then dL V g t j else V 70 j
        have hs : s 70 0 j = if j < k ∧ fgm V j = g then dL V g t j else V 70 j := hs
        by_cases y : j = k
        · subst y
          rw [up_same, if_pos ⟨Nat.lt_succ_self j, z⟩]
        · rw [up_j y, hs]
          by_cases y2 : j < k ∧ fgm V j = g
          · rw [if_pos y2, if_pos ⟨by omega, y2.2⟩]
          · rw [if_neg y2, if_neg (fun q => y2 ⟨by omega, q.2⟩)]
      · by_cases x71 : x = 71
        · subst x71
          rw [up_k (by decide)]
          show _ = if j < k + 1 ∧ fgm V j = g then mFf V g (aA V t) (aT V t) (aI V t) j else V 71 j
          have hs : s 71 0 j = if j < k ∧ fgm V j = g then mFf V g (aA V t) (aT V t) (aI V t) j else V 71 j := hs
          by_cases y : j = k
          · subst y
            rw [up_same, if_pos ⟨Nat.lt_succ_self j, z⟩]
          · rw [up_j y, up_k (by decide), hs]
            by_cases y2 : j < k ∧ fgm V j = g
            · rw [if_pos y2, if_pos ⟨by omega, y2.2⟩]
            · rw [if_neg y2, if_neg (fun q => y2 ⟨by omega, q.2⟩)]
        · by_cases x72 : x = 72
          · subst x72
            show _ = if j / 40 = t ∧ j % 40 < k + 1 ∧ fgm V (j % 40) = g then dX V g t (j % 40) else V 72 j
            have hs : s 72 0 j = if j / 40 = t ∧ j % 40 < k ∧ fgm V (j % 40) = g then dX V g t (j % 40) else V 72 j := hs
            by_cases y : j = 40 * t + k
            · have y1 : j % 40 = k := by omega
              rw [y1, if_pos ⟨by omega, Nat.lt_succ_self k, z⟩, y, up_same]
            · rw [up_j y, up_k (by decide), up_k (by decide), hs]
              by_cases y2 : j / 40 = t ∧ j % 40 < k ∧ fgm V (j % 40) = g
              · rw [if_pos y2, if_pos ⟨y2.1, by omega, y2.2.2⟩]
              · rw [if_neg y2, if_neg (fun q => y2 ⟨q.1, by omega, q.2.2⟩)]
          · rw [up_k x72, up_k x71, up_k x70, hs]
            unfold dTk
            rw [if_neg x70, if_neg x71, if_neg x72, if_neg x70, if_neg x71, if_neg x72]
    · simp only [if_neg z] at st
      refine ⟨_, _, ⟨c1, rfl, fun x j h1 h2 h3 => ?_⟩, st⟩
      have hs := c2 x j h1 h2 h3
      rw [hs]
      unfold dTk
      by_cases x70 : x = 70
      · rw [if_pos x70, if_pos x70]
        by_cases y2 : j < k ∧ fgm V j = g
        · rw [if_pos y2, if_pos ⟨by omega, y2.2⟩]
        · rw [if_neg y2, if_neg]
          rintro ⟨q1, q2⟩
          by_cases y : j = k
          · subst y; exact z q2
          · exact y2 ⟨by omega, q2⟩
      · rw [if_neg x70, if_neg x70]
        by_cases x71 : x = 71
        · rw [if_pos x71, if_pos x71]
          by_cases y2 : j < k ∧ fgm V j = g
          · rw [if_pos y2, if_pos ⟨by omega, y2.2⟩]
          · rw [if_neg y2, if_neg]
            rintro ⟨q1, q2⟩
            by_cases y : j = k
            · subst y; exact z q2
            · exact y2 ⟨by omega, q2⟩
        · rw [if_neg x71, if_neg x71]
          by_cases x72 : x = 72
          · rw [if_pos x72, if_pos x72]
            by_cases y2 : j / 40 = t ∧ j % 40 < k ∧ fgm V (j % 40) = g
            · rw [if_pos y2, if_pos ⟨y2.1, by omega, y2.2.2⟩]
            · rw [if_neg y2, if_neg]
              rintro ⟨q0, q1, q2⟩
              by_cases y : j % 40 = k
              · rw [y] at q2; exact z q2
              · exact y2 ⟨q0, by omega, q2⟩
          · rw [if_neg x72, if_neg x72]) (nP V) 0 [some (vh 51 0), some (vi g), some (vi (t : Int)), some (vi ((0 : Nat) : Int))] s1 (by omega) ⟨Sc.rf, rfl, w0⟩
  obtain ⟨L3, s3, ⟨c1, rfl, c2⟩, e3⟩ := loop_rel (O := t_run tbl mtb (d + 73)) (k := 212) (pc := 96) (fun k L s => Sc s70 s1 s ∧ L = [some (vh 51 0), some (vi g), some (vi (t : Int)), some (vi (k : Int))] ∧ RV s (dTk V g t (nP V) k)) (nH V) (by
    rintro k L s hk ⟨c1, rfl, c2⟩
    have r1 : 0 ≤ (k : Int) ∧ (k : Int) < 12 := by omega
    have q51 : s 51 0 15 = V 51 15 := c2 51 15 rfl rfl rfl
    have q59 : s 59 0 k = V 59 k := c2 59 k rfl rfl rfl
    have q60 : s 60 0 k = aN V g t 60 k := c2 60 k rfl rfl rfl
    have q104 : s 104 0 k = dF V g (aA V t) (aT V t) (aI V t) t k := by rw [c1 104 0 k rfl, a3 k hk]
    have ew : w32 (w32 (12 * (t : Int)) + (k : Int)) = ((12 * t + k : Nat) : Int) := by
      rw [w32_add_l, w32_id (by omega) (by omega)]
      omega
    have rw1 : 0 ≤ ((12 * t + k : Nat) : Int) ∧ ((12 * t + k : Nat) : Int) < 360 := by omega
    have u104 : ∀ a b, t_upd s 73 0 a b 104 0 k = dF V g (aA V t) (aT V t) (aI V t) t k := fun a b => by rw [up_k (by decide), q104]
    have st := fun N => tr_step (n := N) (s_kX12_doTurn_96 (t_run tbl mtb (d + 73)) g t k s )
    simp only [q51, if_pos (show (k : Int) < V 51 15 by omega), w32_nat (show k < 2147483647 by omega), Int.toNat_natCast, if_pos r1, q59, q60, ew, if_pos rw1, u104] at st
    by_cases z : V 59 k = g
    · simp only [if_pos z] at st
      refine ⟨_, _, ⟨(c1.up rfl).up rfl, rfl, fun x j h1 h2 h3 => ?_⟩, st⟩
      have hs := c2 x j h1 h2 h3
      by_cases x73 : x = 73
      · subst x73
        rw [up_k (by decide)]
        show _ = if j / 12 = t ∧ j % 12 < k + 1 ∧ V 59 (j % 12) = g then aN V g t 60 (j % 12) else V 73 j
        have hs : s 73 0 j = if j / 12 = t ∧ j % 12 < k ∧ V 59 (j % 12) = g then aN V g t 60 (j % 12) else V 73 j := hs
        by_cases y : j = 12 * t + k
        · have y1 : j % 12 = k := by omega
          rw [y1, if_pos ⟨by omega, Nat.lt_succ_self k, z⟩, y, up_same]
        · rw [up_j y, hs]
          by_cases y2 : j / 12 = t ∧ j % 12 < k ∧ V 59 (j % 12) = g
          · rw [if_pos y2, if_pos ⟨y2.1, by omega, y2.2.2⟩]
          · rw [if_neg y2, if_neg (fun q => y2 ⟨q.1, by omega, q.2.2⟩)]
      · by_cases x74 : x = 74
        · subst x74
          show _ = if j / 12 = t ∧ j % 12 < k + 1 ∧ V 59 (j % 12) = g then dF V g (aA V t) (aT V t) (aI V t) t (j % 12) else V 74 j
          have hs : s 74 0 j = if j / 12 = t ∧ j % 12 < k ∧ V 59 (j % 12) = g then dF V g (aA V t) (aT V t) (aI V t) t (j % 12) else V 74 j := hs
          by_cases y : j = 12 * t + k
          · have y1 : j % 12 = k := by omega
            rw [y1, if_pos ⟨by omega, Nat.lt_succ_self k, z⟩, y, up_same]
          · rw [up_j y, up_k (by decide), hs]
            by_cases y2 : j / 12 = t ∧ j % 12 < k ∧ V 59 (j % 12) = g
            · rw [if_pos y2, if_pos ⟨y2.1, by omega, y2.2.2⟩]
            · rw [if_neg y2, if_neg (fun q => y2 ⟨q.1, by omega, q.2.2⟩)]
        · rw [up_k x74, up_k x73, hs]
          unfold dTk
          simp only [if_neg x73, if_neg x74]
    · simp only [if_neg z] at st
      refine ⟨_, _, ⟨c1, rfl, fun x j h1 h2 h3 => ?_⟩, st⟩
      have hs := c2 x j h1 h2 h3
      rw [hs]
      unfold dTk
      have key : (j / 12 = t ∧ j % 12 < k ∧ V 59 (j % 12) = g) = (j / 12 = t ∧ j % 12 < k + 1 ∧ V 59 (j % 12) = g) := by
        refine propext ⟨fun y2 => ⟨y2.1, by omega, y2.2.2⟩, ?_⟩
        rintro ⟨q0, q1, q2⟩
        by_cases y : j % 12 = k
        · rw [y] at q2; exact absurd q2 z
        · exact ⟨q0, by omega, q2⟩
      simp only [key]) (nH V) 0 [some (vh 51 0), some (vi g), some (vi (t : Int)), some (vi ((0 : Nat) : Int))] s2' (by omega) ⟨b1, rfl, b2⟩
  have q2 : s2' 51 0 23 = V 51 23 := b2 51 23 rfl rfl rfl
  have q3 : s3 51 0 15 = V 51 15 := c2 51 15 rfl rfl rfl
  have q4 : s3 55 0 g.toNat = V 55 g.toNat := c2 55 g.toNat rfl rfl rfl
  have rg : 0 ≤ g ∧ g < 3 := by omega
  refine ⟨t_upd s3 55 0 g.toNat (w32 (V 55 g.toNat + 1)), ?_, fun x j h1 h2 h3 => ?_, ?_⟩
  · exact ((((Sc.rf.up rfl : Sc srd σ (t_upd σ 51 0 64 0))).tr (a1.mono srg_srd)).tr (c1.mono s70_srd)).up rfl
  · have hs := c2 x j h1 h2 h3
    unfold dT
    by_cases x55 : x = 55
    · subst x55
      rw [if_pos rfl]
      by_cases y : j = g.toNat
      · subst y
        rw [up_same, if_pos rfl]
      · rw [up_j y, if_neg y, hs]
        rfl
    · rw [up_k x55, if_neg x55, hs]
  · obtain ⟨N, hN⟩ : ∃ N, 999999 = N + 1 + nH V + 1 + nP V := ⟨999999 - (nH V + nP V + 2), by omega⟩
    have e2 := e2 (N + 1 + nH V + 1)
    have e2 : t_tr tbl mtb (t_run tbl mtb (d + 73)) 212 (N + 1 + nH V + 1 + nP V) 17 [some (vh 51 0), some (vi g), some (vi (t : Int)), some (vi 0)] [] s1 = _ := e2
    have e3 := e3 (N + 1)
    have e3 : t_tr tbl mtb (t_run tbl mtb (d + 73)) 212 (N + 1 + nH V) 96 [some (vh 51 0), some (vi g), some (vi (t : Int)), some (vi 0)] [] s2' = _ := e3
    rw [run_go (k := 212) (as := [vh 51 0, vi g, vi t]) mt_212 (Nat.ne_of_beq_eq_false rfl) rfl (s_kX12_doTurn_0 _ g t σ), e51, cv_of a5, nx_inl, hN, e2, tr_step (s_kX12_doTurn_17 _ g t (nP V : Int) s2'), q2, if_neg (by omega), nx_inl, e3, tr_step (s_kX12_doTurn_96 _ g t (nH V : Int) s3), q3, if_neg (by omega)]
    simp only [if_pos rg, q4]
    rfl
end
