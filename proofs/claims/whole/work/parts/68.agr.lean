-- the reference's again()
section
variable {σ : TM} {V : TVw} {g : Int} {t : Nat} {d : Nat}
theorem r_lastCell {s : TM} {p : Nat} (hp : p < 40) (h67 : s 67 0 p = V 67 p) (h72 : ∀ j, s 72 0 j = V 72 j) (u : Nat) (hu : u < 30) : t_run tbl mtb (d + 1) 215 [vh 51 0, vi p, vi u] s = some (some (vi (lc V p (u + 1))), s) := by
  have r1 : 0 ≤ (p : Int) ∧ (p : Int) < 40 := by omega
  have L : ∀ u n : Nat, u < 31 → u < n → t_tr tbl mtb (t_run tbl mtb d) 215 n 2 [some (vh 51 0), some (vi p), none, some (vi ((u : Int) - 1))] [] s = some (.inr (some (vi (lc V p u)), s)) := by
    intro u
    induction u with
    | zero =>
      intro n _ hn
      obtain ⟨n, rfl⟩ : ∃ k, n = k + 1 := ⟨n - 1, by omega⟩
      rw [tr_step (s_kX12_lastCell_2 _ p (((0 : Nat) : Int) - 1) s), if_pos (by omega), if_pos (by omega), if_pos r1, Int.toNat_natCast, h67]
      rfl
    | succ u ih =>
      intro n h1 hn
      obtain ⟨n, rfl⟩ : ∃ k, n = k + 1 := ⟨n - 1, by omega⟩
      have e1 : ((u + 1 : Nat) : Int) - 1 = (u : Int) := by omega
      have ew : w32 (w32 (40 * (u : Int)) + (p : Int)) = ((40 * u + p : Nat) : Int) := by
        rw [w32_add_l, w32_id (by omega) (by omega)]
        omega
      have rw1 : 0 ≤ ((40 * u + p : Nat) : Int) ∧ ((40 * u + p : Nat) : Int) < 1200 := by omega
      have ew2 : w32 ((u : Int) + (-1)) = (u : Int) - 1 := by rw [w32_id (by omega) (by omega)]; omega
      rw [e1, tr_step (s_kX12_lastCell_2 _ p (u : Int) s), if_neg (by omega), ew, if_pos rw1, Int.toNat_natCast, h72, ew2]
      unfold lc
      by_cases z : V 72 (40 * u + p) < 0
      · rw [if_pos z, if_pos z, nx_inl]
        exact ih n (by omega) (by omega)
      · rw [if_neg z, if_neg z, if_neg (by omega), if_pos rw1]
        rfl
  rw [run_go (k := 215) (as := [vh 51 0, vi p, vi (u : Int)]) mt_215 (Nat.ne_of_beq_eq_false rfl) rfl (s_kX12_lastCell_0 _ p (u : Int) s), nx_inl]
  have q := L (u + 1) 999999 (by omega) (by omega)
  rw [show ((u + 1 : Nat) : Int) - 1 = (u : Int) by omega] at q
  rw [q]
  rfl
def s105 (k _ : Nat) : Bool := Nat.beq k 66 || (Nat.beq k 69 || Nat.beq k 105)
def s60 (k _ : Nat) : Bool := Nat.beq k 60
def cw (V : TVw) (p : Nat) : Int := if V 69 p = 0 then V 66 p else -1
set_option maxHeartbeats 8000000 in
theorem r_ag1 (hV : RV σ V) (hI : Inv V) (hK : KG V g (V 54 g.toNat).toNat) (hg : 0 ≤ g ∧ g < V 51 8) (ht : t < (V 54 g.toNat).toNat) : ∃ s, Sc s105 σ s ∧ RV s (aBk V g t (nP V) 0) ∧ (∀ p, p < nP V → s 105 0 p = cw V p) ∧ ∀ n, t_tr tbl mtb (t_run tbl mtb (d + 74)) 214 (n + nP V) 32 [some (vh 51 0), some (vi g), some (vi (t : Int)), some (vi 0), none, none] [] σ = t_tr tbl mtb (t_run tbl mtb (d + 74)) 214 n 32 [some (vh 51 0), some (vi g), some (vi (t : Int)), some (vi (nP V : Int)), none, none] [] s := by
  have h0 := hI.cnt
  obtain ⟨b1, b2, -⟩ := hI 1 g.toNat (by omega)
  have v0 : RV σ (aBk V g t 0 0) := by
    intro x j h1 h2 h3
    rw [hV x j h1 h2 h3]
    unfold aBk
    rw [if_neg (fun q : j < 0 ∧ _ => Nat.not_lt_zero _ q.1), if_neg (fun q : j < 0 ∧ _ => Nat.not_lt_zero _ q.1), if_neg (fun q : j < 0 ∧ _ => Nat.not_lt_zero _ q.1)]
    by_cases x66 : x = 66
    · rw [if_pos x66, x66]
    · rw [if_neg x66]
      by_cases x69 : x = 69
      · rw [if_pos x69, x69]
      · rw [if_neg x69]
        by_cases x60 : x = 60
        · rw [if_pos x60, x60]
        · rw [if_neg x60]
  obtain ⟨L, s, ⟨a1, rfl, a2, a3⟩, e⟩ := loop_rel (O := t_run tbl mtb (d + 74)) (k := 214) (pc := 32) (fun k L s => Sc s105 σ s ∧ L = [some (vh 51 0), some (vi g), some (vi (t : Int)), some (vi (k : Int)), none, none] ∧ RV s (aBk V g t k 0) ∧ ∀ p, p < k → s 105 0 p = cw V p) (nP V) (by
    rintro k L s hk ⟨c1, rfl, c2, c3⟩
    have r1 : 0 ≤ (k : Int) ∧ (k : Int) < 40 := by omega
    have hIk : Inv (aBk V g t k 0) := aBk_inv hI hK (by omega) (by omega)
    have q51 : s 51 0 23 = V 51 23 := c2 51 23 rfl rfl rfl
    have q69 : s 69 0 k = V 69 k := (c2 69 k rfl rfl rfl).trans (show (if k < k ∧ fgm V k = g then gn V k t else V 69 k) = V 69 k from if_neg (fun q => Nat.lt_irrefl k q.1))
    have q66 : s 66 0 k = V 66 k := (c2 66 k rfl rfl rfl).trans (show (if k < k ∧ fgm V k = g then lc V k t else V 66 k) = V 66 k from if_neg (fun q => Nat.lt_irrefl k q.1))
    have q67 : s 67 0 k = V 67 k := c2 67 k rfl rfl rfl
    have q72 : ∀ j, s 72 0 j = V 72 j := fun j => c2 72 j rfl rfl rfl
    have eg : ∀ c, t_run tbl mtb (d + 74) 145 [vh 51 0, vi (k : Int)] (t_upd s 105 0 k c) = some (some (vi (fgm V k)), t_upd s 105 0 k c) := fun c => r_gameOf (d := d + 73) (c2.sc (Sc.rf.up rfl)) hIk hk
    have u67 : ∀ c, t_upd s 105 0 k c 67 0 k = V 67 k := fun c => by rw [up_k (by decide), q67]
    have u72 : ∀ c j, t_upd s 105 0 k c 72 0 j = V 72 j := fun c j => by rw [up_k (by decide), q72]
    have el : ∀ c b u, u < 30 → t_run tbl mtb (d + 74) 215 [vh 51 0, vi (k : Int), vi ((u : Nat) : Int)] (t_upd (t_upd s 105 0 k c) 69 0 k b) = some (some (vi (lc V k (u + 1))), t_upd (t_upd s 105 0 k c) 69 0 k b) := fun c b u hu => r_lastCell (V := V) (d := d + 73) (by omega) (by rw [up_k (by decide), u67]) (fun j => by rw [up_k (by decide), u72]) u hu
    have h67 : ¬ V 67 k < 0 := by
      obtain ⟨-, -, -, -, q5, -⟩ := hI 3 k hk
      omega
    have st := fun N => tr_step (n := N) (s_kX12_again_32 (t_run tbl mtb (d + 74)) g t k s )
    simp only [q51, if_pos (show (k : Int) < V 51 23 by omega), w32_nat (show k < 2147483647 by omega), Int.toNat_natCast, if_pos r1, q69, q66, eg, ci_ok] at st
    have h9 : (fun c => RV (t_upd s 105 0 k c) (aBk V g t k 0)) (cw V k) := c2.sc (Sc.rf.up rfl)
    have h95 : ∀ (y : TM), (∀ j, y 105 0 j = t_upd s 105 0 k (cw V k) 105 0 j) → ∀ p, p < k + 1 → y 105 0 p = cw V p := fun y hy p hp => by
      rw [hy]
      by_cases e : p = k
      · subst e
        exact up_same
      · rw [up_j e]
        exact c3 p (by omega)
    by_cases z : fgm V k = g
    · simp only [if_pos z] at st
      have hst : ∀ N, t_tr tbl mtb (t_run tbl mtb (d + 74)) 214 (N + 1) 32 [some (vh 51 0), some (vi g), some (vi (t : Int)), some (vi (k : Int)), none, none] [] s = t_tr tbl mtb (t_run tbl mtb (d + 74)) 214 N 32 [some (vh 51 0), some (vi g), some (vi (t : Int)), some (vi ((k + 1 : Nat) : Int)), none, none] [] (t_upd (t_upd (t_upd s 105 0 k (cw V k)) 69 0 k (gn V k t)) 66 0 k (lc V k t)) := by
        intro N
        rw [st N]
        rcases Nat.eq_zero_or_pos t with t0 | t0
        · have et : (t : Int) = 0 := by omega
          have eL : lc V k t = V 67 k := by rw [t0]; rfl
          have eG : gn V k t = 0 := by rw [t0]; rfl
          rw [eL, eG]
          by_cases z9 : V 69 k = 0
          · have ec : cw V k = V 66 k := if_pos z9
            simp only [if_pos z9, if_pos et, u67, if_neg h67, ec]
            rfl
          · have ec : cw V k = -1 := if_neg z9
            simp only [if_neg z9, if_pos et, u67, if_neg h67, ec]
            rfl
        · obtain ⟨u, hu⟩ : ∃ u, t = u + 1 := ⟨t - 1, by omega⟩
          have et : ¬ (t : Int) = 0 := by omega
          have ew1 : w32 ((t : Int) - 1) = (u : Int) := by rw [w32_id (by omega) (by omega)]; omega
          have ew : w32 (w32 (40 * (u : Int)) + (k : Int)) = ((40 * u + k : Nat) : Int) := by
            rw [w32_add_l, w32_id (by omega) (by omega)]
            omega
          have rw1 : 0 ≤ ((40 * u + k : Nat) : Int) ∧ ((40 * u + k : Nat) : Int) < 1200 := by omega
          have el := fun c b => el c b u (by omega)
          rw [hu]
          by_cases y : V 72 (40 * u + k) < 0
          · have eG : gn V k (u + 1) = 1 := if_pos y
            rw [eG]
            by_cases z9 : V 69 k = 0
            · have ec : cw V k = V 66 k := if_pos z9
              simp only [if_pos z9, ← hu, if_neg et, ew1, ew, Int.toNat_natCast, if_pos rw1, u72, if_pos y, el, ci_ok, ec]
              rfl
            · have ec : cw V k = -1 := if_neg z9
              simp only [if_neg z9, ← hu, if_neg et, ew1, ew, Int.toNat_natCast, if_pos rw1, u72, if_pos y, el, ci_ok, ec]
              rfl
          · have eG : gn V k (u + 1) = 0 := if_neg y
            have eL : lc V k (u + 1) = V 72 (40 * u + k) := if_neg y
            rw [eG, eL]
            by_cases z9 : V 69 k = 0
            · have ec : cw V k = V 66 k := if_pos z9
              simp only [if_pos z9, ← hu, if_neg et, ew1, ew, Int.toNat_natCast, if_pos rw1, u72, if_neg y, ec]
              rfl
            · have ec : cw V k = -1 := if_neg z9
              simp only [if_neg z9, ← hu, if_neg et, ew1, ew, Int.toNat_natCast, if_pos rw1, u72, if_neg y, ec]
              rfl
      refine ⟨_, _, ⟨((c1.up rfl).up rfl).up rfl, rfl, fun x j h1 h2 h3 => ?_, h95 _ (fun j => by rw [up_k (by decide), up_k (by decide)])⟩, hst⟩
      have hs := h9 x j h1 h2 h3
      by_cases x66 : x = 66
      · subst x66
        show _ = if j < k + 1 ∧ fgm V j = g then lc V j t else V 66 j
        have hs : t_upd s 105 0 k (cw V k) 66 0 j = if j < k ∧ fgm V j = g then lc V j t else V 66 j := hs
        by_cases y : j = k
        · subst y
          rw [up_same, if_pos ⟨Nat.lt_succ_self j, z⟩]
        · rw [up_j y, up_k (by decide), hs]
          by_cases y2 : j < k ∧ fgm V j = g
          · rw [if_pos y2, if_pos ⟨by omega, y2.2⟩]
          · rw [if_neg y2, if_neg (fun q => y2 ⟨by omega, q.2⟩)]
      · by_cases x69 : x = 69
        · subst x69
          rw [up_k (by decide)]
          show _ = if j < k + 1 ∧ fgm V j = g then gn V j t else V 69 j
          have hs : t_upd s 105 0 k (cw V k) 69 0 j = if j < k ∧ fgm V j = g then gn V j t else V 69 j := hs
          by_cases y : j = k
          · subst y
            rw [up_same, if_pos ⟨Nat.lt_succ_self j, z⟩]
          · rw [up_j y, hs]
            by_cases y2 : j < k ∧ fgm V j = g
            · rw [if_pos y2, if_pos ⟨by omega, y2.2⟩]
            · rw [if_neg y2, if_neg (fun q => y2 ⟨by omega, q.2⟩)]
        · rw [up_k x66, up_k x69, hs]
          unfold aBk
          rw [if_neg x66, if_neg x69, if_neg x66, if_neg x69]
    · simp only [if_neg z] at st
      have hst : ∀ N, t_tr tbl mtb (t_run tbl mtb (d + 74)) 214 (N + 1) 32 [some (vh 51 0), some (vi g), some (vi (t : Int)), some (vi (k : Int)), none, none] [] s = t_tr tbl mtb (t_run tbl mtb (d + 74)) 214 N 32 [some (vh 51 0), some (vi g), some (vi (t : Int)), some (vi ((k + 1 : Nat) : Int)), none, none] [] (t_upd s 105 0 k (cw V k)) := by
        intro N
        rw [st N]
        by_cases z9 : V 69 k = 0
        · have ec : cw V k = V 66 k := if_pos z9
          rw [if_pos z9, ec]
          rfl
        · have ec : cw V k = -1 := if_neg z9
          rw [if_neg z9, ec]
          rfl
      refine ⟨_, _, ⟨c1.up rfl, rfl, fun x j h1 h2 h3 => ?_, h95 _ (fun j => rfl)⟩, hst⟩
      rw [h9 x j h1 h2 h3]
      unfold aBk
      have key : (j < k ∧ fgm V j = g) = (j < k + 1 ∧ fgm V j = g) := by
        refine propext ⟨fun y2 => ⟨by omega, y2.2⟩, ?_⟩
        rintro ⟨q1, q2⟩
        by_cases y : j = k
        · rw [y] at q2; exact absurd q2 z
        · exact ⟨by omega, q2⟩
      simp only [key]) (nP V) 0 [some (vh 51 0), some (vi g), some (vi (t : Int)), some (vi ((0 : Nat) : Int)), none, none] σ (by omega) ⟨Sc.rf, rfl, v0, fun p hp => by omega⟩
  exact ⟨s, a1, a2, a3, e⟩
set_option maxHeartbeats 2000000 in
theorem r_ag2 {s0 : TM} (hV : RV s0 (aBk V g t (nP V) 0)) (hI : Inv V) (hg : 0 ≤ g ∧ g < V 51 8) (ht : t < (V 54 g.toNat).toNat) : ∃ s, Sc s60 s0 s ∧ RV s (aB V g t) ∧ ∀ n, t_tr tbl mtb (t_run tbl mtb (d + 74)) 214 (n + nH V) 150 [some (vh 51 0), some (vi g), some (vi (t : Int)), some (vi 0), none, none] [] s0 = t_tr tbl mtb (t_run tbl mtb (d + 74)) 214 n 150 [some (vh 51 0), some (vi g), some (vi (t : Int)), some (vi (nH V : Int)), none, none] [] s := by
  have h0 := hI.cnt
  obtain ⟨b1, b2, -⟩ := hI 1 g.toNat (by omega)
  obtain ⟨L, s, ⟨a1, rfl, a2⟩, e⟩ := loop_rel (O := t_run tbl mtb (d + 74)) (k := 214) (pc := 150) (fun k L s => Sc s60 s0 s ∧ L = [some (vh 51 0), some (vi g), some (vi (t : Int)), some (vi (k : Int)), none, none] ∧ RV s (aBk V g t (nP V) k)) (nH V) (by
    rintro k L s hk ⟨c1, rfl, c2⟩
    have r1 : 0 ≤ (k : Int) ∧ (k : Int) < 12 := by omega
    have q51 : s 51 0 15 = V 51 15 := c2 51 15 rfl rfl rfl
    have q59 : s 59 0 k = V 59 k := c2 59 k rfl rfl rfl
    have q61 : s 61 0 k = V 61 k := c2 61 k rfl rfl rfl
    have q73 : ∀ j, s 73 0 j = V 73 j := fun j => c2 73 j rfl rfl rfl
    have st := fun N => tr_step (n := N) (s_kX12_again_150 (t_run tbl mtb (d + 74)) g t k s )
    simp only [q51, if_pos (show (k : Int) < V 51 15 by omega), w32_nat (show k < 2147483647 by omega), Int.toNat_natCast, if_pos r1, q59, q61] at st
    by_cases z : V 59 k = g
    · simp only [if_pos z] at st
      have hst : ∀ N, t_tr tbl mtb (t_run tbl mtb (d + 74)) 214 (N + 1) 150 [some (vh 51 0), some (vi g), some (vi (t : Int)), some (vi (k : Int)), none, none] [] s = t_tr tbl mtb (t_run tbl mtb (d + 74)) 214 N 150 [some (vh 51 0), some (vi g), some (vi (t : Int)), some (vi ((k + 1 : Nat) : Int)), none, none] [] (t_upd s 60 0 k (bk V t k)) := by
        intro N
        rw [st N]
        unfold bk
        rcases Nat.eq_zero_or_pos t with t0 | t0
        · rw [if_pos (show (t : Int) = 0 by omega), if_pos t0]
          rfl
        · obtain ⟨u, hu⟩ : ∃ u, t = u + 1 := ⟨t - 1, by omega⟩
          have ew1 : w32 ((t : Int) - 1) = (u : Int) := by rw [w32_id (by omega) (by omega)]; omega
          have ew : w32 (w32 (12 * (u : Int)) + (k : Int)) = ((12 * u + k : Nat) : Int) := by
            rw [w32_add_l, w32_id (by omega) (by omega)]
            omega
          have rw1 : 0 ≤ ((12 * u + k : Nat) : Int) ∧ ((12 * u + k : Nat) : Int) < 360 := by omega
          simp only [if_neg (show ¬ (t : Int) = 0 by omega), if_neg (show ¬ t = 0 by omega), ew1, ew, if_pos rw1, Int.toNat_natCast, q73, show t - 1 = u by omega]
          rfl
      refine ⟨_, _, ⟨c1.up rfl, rfl, fun x j h1 h2 h3 => ?_⟩, hst⟩
      have hs := c2 x j h1 h2 h3
      by_cases x60 : x = 60
      · subst x60
        show _ = if j < k + 1 ∧ V 59 j = g then bk V t j else V 60 j
        have hs : s 60 0 j = if j < k ∧ V 59 j = g then bk V t j else V 60 j := hs
        by_cases y : j = k
        · subst y
          rw [up_same, if_pos ⟨Nat.lt_succ_self j, z⟩]
        · rw [up_j y, hs]
          by_cases y2 : j < k ∧ V 59 j = g
          · rw [if_pos y2, if_pos ⟨by omega, y2.2⟩]
          · rw [if_neg y2, if_neg (fun q => y2 ⟨by omega, q.2⟩)]
      · rw [up_k x60, hs]
        unfold aBk
        simp only [if_neg x60]
    · simp only [if_neg z] at st
      refine ⟨_, _, ⟨c1, rfl, fun x j h1 h2 h3 => ?_⟩, st⟩
      rw [c2 x j h1 h2 h3]
      unfold aBk
      have key : (j < k ∧ V 59 j = g) = (j < k + 1 ∧ V 59 j = g) := by
        refine propext ⟨fun y2 => ⟨by omega, y2.2⟩, ?_⟩
        rintro ⟨q1, q2⟩
        by_cases y : j = k
        · rw [y] at q2; exact absurd q2 z
        · exact ⟨by omega, q2⟩
      simp only [key]) (nH V) 0 [some (vh 51 0), some (vi g), some (vi (t : Int)), some (vi ((0 : Nat) : Int)), none, none] s0 (by omega) ⟨Sc.rf, rfl, hV⟩
  exact ⟨s, a1, a2, e⟩
set_option maxHeartbeats 4000000 in
theorem r_again (hV : RV σ V) (hI : Inv V) (hK : KG V g (V 54 g.toNat).toNat) (hg : 0 ≤ g ∧ g < V 51 8) (ht : (t : Int) < V 54 g.toNat) : ∃ s, FR σ s ∧ RV s (aW V g t) ∧ t_run tbl mtb (d + 75) 214 [vh 51 0, vi g, vi t] σ = some (some (vi (fS (aEl V (aW V g t)) (nP V))), s) := by
  have h0 := hI.cnt
  have rg : 0 ≤ g ∧ g < 3 := by omega
  obtain ⟨b1, b2, -⟩ := hI 1 g.toNat (by omega)
  have et : ((V 54 g.toNat).toNat : Int) = V 54 g.toNat := Int.toNat_of_nonneg b1
  have htn : t < (V 54 g.toNat).toNat := by omega
  obtain ⟨s1', c1, c2, c3, e1⟩ := r_ag1 (d := d) hV hI hK hg htn
  obtain ⟨s2', d1, d2, e2⟩ := r_ag2 (d := d) c2 hI hg htn
  have hI0 : Inv (aB V g t) := aBk_inv hI hK (by omega) (by omega)
  have o51 : ∀ n j, aRn (aB V g t) g t n 51 j = V 51 j := fun n j => by rw [aRn_o _ _ _ rfl]; rfl
  obtain ⟨L3, s3, ⟨f1, f2, f3, rfl⟩, e3⟩ := loop_rel (O := t_run tbl mtb (d + 74)) (k := 214) (pc := 216) (fun n L s => Sc srd s2' s ∧ RV s (aRn (aB V g t) g t n) ∧ Inv (aRn (aB V g t) g t n) ∧ L = [some (vh 51 0), some (vi g), none, some (vi (V 54 g.toNat)), some (vi ((t + n : Nat) : Int)), none]) ((V 54 g.toNat).toNat - t) (by
    rintro n L s hn ⟨q1, q2, q3, rfl⟩
    obtain ⟨s', w1, w2, w3⟩ := r_doTurn (d := d) (t := t + n) q2 q3 (by rw [o51]; exact hg) (by omega)
    have st := fun N => tr_step (n := N) (s_kX12_again_216 (t_run tbl mtb (d + 74)) g (V 54 g.toNat) ((t + n : Nat) : Int) s )
    simp only [if_pos (show ((t + n : Nat) : Int) < V 54 g.toNat by omega), w3, cv_ok, w32_nat (show t + n < 2147483647 by omega)] at st
    exact ⟨_, s', ⟨q1.tr w1, w2, dT_inv q3 (by rw [o51]; exact hg), rfl⟩, st⟩) ((V 54 g.toNat).toNat - t) 0 [some (vh 51 0), some (vi g), none, some (vi (V 54 g.toNat)), some (vi ((t + 0 : Nat) : Int)), none] s2' (by omega) ⟨Sc.rf, d2, hI0, rfl⟩
  have eT : t + ((V 54 g.toNat).toNat - t) = (V 54 g.toNat).toNat := by omega
  rw [eT] at e3
  have f2 : RV s3 (aW V g t) := f2
  have w51 : ∀ j, aW V g t 51 j = V 51 j := fun j => o51 _ j
  obtain ⟨L4, s4, ⟨rfl, rfl⟩, e4⟩ := loop_rel (O := t_run tbl mtb (d + 74)) (k := 214) (pc := 241) (fun k L s => s = s3 ∧ L = [some (vh 51 0), none, none, none, some (vi (fS (aEl V (aW V g t)) k)), some (vi (k : Int))]) (nP V) (by
    rintro k L s hk ⟨rfl, rfl⟩
    have r1 : 0 ≤ (k : Int) ∧ (k : Int) < 40 := by omega
    have q51 : s 51 0 23 = V 51 23 := (f2 51 23 rfl rfl rfl).trans (w51 23)
    have q69 : s 69 0 k = aW V g t 69 k := f2 69 k rfl rfl rfl
    have q66 : s 66 0 k = aW V g t 66 k := f2 66 k rfl rfl rfl
    have q105 : s 105 0 k = cw V k := by rw [f1 105 0 k rfl, d1 105 0 k rfl, c3 k hk]
    have eS : fS (aEl V (aW V g t)) (k + 1) = fS (aEl V (aW V g t)) k + aEl V (aW V g t) k := rfl
    have rS := aEl_r V (aW V g t) k
    have st := fun N => tr_step (n := N) (s_kX12_again_241 (t_run tbl mtb (d + 74)) (fS (aEl V (aW V g t)) k) k s )
    simp only [q51, if_pos (show (k : Int) < V 51 23 by omega), w32_nat (show k < 2147483647 by omega), Int.toNat_natCast, if_pos r1, q69, q66, q105] at st
    refine ⟨_, s, ⟨rfl, rfl⟩, fun N => ?_⟩
    rw [st N, eS, w32_id (x := fS (aEl V (aW V g t)) k + 0) (by omega) (by omega), w32_id (x := fS (aEl V (aW V g t)) k + 1) (by omega) (by omega)]
    have eE : aEl V (aW V g t) k = if cw V k = (if aW V g t 69 k = 0 then aW V g t 66 k else -1) then 0 else 1 := rfl
    rw [eE]
    by_cases z : aW V g t 69 k = 0
    · rw [if_pos z, if_pos z]
      by_cases y : cw V k = aW V g t 66 k
      · rw [if_pos y, if_pos y]
        rfl
      · rw [if_neg y, if_neg y]
        rfl
    · rw [if_neg z, if_neg z]
      by_cases y : cw V k = -1
      · rw [if_pos y, if_pos y]
        rfl
      · rw [if_neg y, if_neg y]
        rfl) (nP V) 0 [some (vh 51 0), none, none, none, some (vi (fS (aEl V (aW V g t)) 0)), some (vi ((0 : Nat) : Int))] s3 (by omega) ⟨rfl, rfl⟩
  refine ⟨s4, ?_, f2, ?_⟩
  · refine ((FR.of c1 (fun k j h => ?_)).tr (FR.of d1 (fun k j h => ?_))).tr (FR.of f1 srd_R)
    · simp only [s105, Bool.or_eq_true, Nat.beq_eq] at h
      omega
    · simp only [s60, Nat.beq_eq] at h
      omega
  obtain ⟨N, hN⟩ : ∃ N, 999999 = N + 1 + nP V + 1 + ((V 54 g.toNat).toNat - t) + 1 + nH V + 1 + nP V := ⟨999999 - (nP V + ((V 54 g.toNat).toNat - t) + nH V + nP V + 4), by omega⟩
  have q1 : s1' 51 0 23 = V 51 23 := c2 51 23 rfl rfl rfl
  have q2 : s2' 51 0 15 = V 51 15 := d2 51 15 rfl rfl rfl
  have q2b : s2' 54 0 g.toNat = V 54 g.toNat := d2 54 _ rfl rfl rfl
  have q4 : s4 51 0 23 = V 51 23 := (f2 51 23 rfl rfl rfl).trans (w51 23)
  have e3 : t_tr tbl mtb (t_run tbl mtb (d + 74)) 214 (N + 1 + nP V + 1 + ((V 54 g.toNat).toNat - t)) 216 [some (vh 51 0), some (vi g), none, some (vi (V 54 g.toNat)), some (vi (t : Int)), none] [] s2' = _ := e3 _
  have e4 : t_tr tbl mtb (t_run tbl mtb (d + 74)) 214 (N + 1 + nP V) 241 [some (vh 51 0), none, none, none, some (vi 0), some (vi 0)] [] s4 = _ := e4 _
  rw [run_go (k := 214) (as := [vh 51 0, vi g, vi t]) mt_214 (Nat.ne_of_beq_eq_false rfl) rfl (s_kX12_again_0 _ g t σ), ci_of (r_isGame (d := d + 73) hV g)]
  simp only [bi_0, decide_eq_false_iff_not]
  rw [if_neg (by omega), ci_of (r_isTurn (d := d + 72) (t : Int))]
  simp only [bi_0, decide_eq_false_iff_not]
  rw [if_neg (by omega), if_pos rg, hV 54 _ rfl rfl rfl, if_pos ht, nx_inl, hN, e1, tr_step (s_kX12_again_32 _ g t (nP V : Int) s1'), q1, if_neg (by omega), nx_inl, e2, tr_step (s_kX12_again_150 _ g t (nH V : Int) s2'), q2, if_neg (by omega), if_pos rg, q2b, nx_inl, e3, et, tr_step (s_kX12_again_216 _ g (V 54 g.toNat) (V 54 g.toNat) s4), if_neg (by omega), nx_inl, e4, tr_step (s_kX12_again_241 _ (fS (aEl V (aW V g t)) (nP V)) (nP V : Int) s4), q4, if_neg (by omega)]
  rfl
theorem two_again (hW : WW σ V) (g x : Int) : Two (d + 100) 106 214 [vi g, vi x] σ := by
  have h := hW.1
  have hI := h.inv
  have h0 := hI.cnt
  by_cases hg : 0 ≤ g ∧ g < V 51 8
  · have rg : 0 ≤ g ∧ g < 3 := by omega
    obtain ⟨e2, -⟩ := h 1 g.toNat (by omega)
    obtain ⟨b1, b2, -⟩ := hI 1 g.toNat (by omega)
    by_cases hx : 0 ≤ x ∧ x < 30
    · by_cases ht : x < V 54 g.toNat
      · obtain ⟨t, rfl⟩ : ∃ t : Nat, x = (t : Int) := ⟨x.toNat, by omega⟩
        exact two_of hW (c_again (d := d + 91) h hW.2.2 hg ht) (fun s hV => r_again (d := d + 25) hV hI (hW.2.2 g hg.1 hg.2).1 hg ht)
      · refine two_ask (r := vi (-2)) hW ⟨σ, Sc.rf, ?_⟩ (fun s hV => ⟨s, Sc.rf, ?_⟩)
        · rw [run_go (k := 106) (as := [vh 0 0, vi g, vi x]) mt_106 (Nat.ne_of_beq_eq_false rfl) rfl (s_kX11_again_0 _ g x σ), ci_of (c_isGame (d := d + 98) h g)]
          simp only [bi_0, decide_eq_false_iff_not]
          rw [if_neg (by omega), ci_of (c_isTurn (d := d + 98) x)]
          simp only [bi_0, decide_eq_false_iff_not]
          rw [if_neg (by omega), if_pos rg, e2, if_neg ht]
          rfl
        · rw [run_go (k := 214) (as := [vh 51 0, vi g, vi x]) mt_214 (Nat.ne_of_beq_eq_false rfl) rfl (s_kX12_again_0 _ g x s), ci_of (r_isGame (d := d + 98) hV g)]
          simp only [bi_0, decide_eq_false_iff_not]
          rw [if_neg (by omega), ci_of (r_isTurn (d := d + 97) x)]
          simp only [bi_0, decide_eq_false_iff_not]
          rw [if_neg (by omega), if_pos rg, hV 54 _ rfl rfl rfl, if_neg ht]
          rfl
    · refine two_ask (r := vi (-1)) hW ⟨σ, Sc.rf, ?_⟩ (fun s hV => ⟨s, Sc.rf, ?_⟩)
      · rw [run_go (k := 106) (as := [vh 0 0, vi g, vi x]) mt_106 (Nat.ne_of_beq_eq_false rfl) rfl (s_kX11_again_0 _ g x σ), ci_of (c_isGame (d := d + 98) h g)]
        simp only [bi_0, decide_eq_false_iff_not]
        rw [if_neg (by omega), ci_of (c_isTurn (d := d + 98) x)]
        simp only [bi_0, decide_eq_false_iff_not]
        rw [if_pos hx]
        rfl
      · rw [run_go (k := 214) (as := [vh 51 0, vi g, vi x]) mt_214 (Nat.ne_of_beq_eq_false rfl) rfl (s_kX12_again_0 _ g x s), ci_of (r_isGame (d := d + 98) hV g)]
        simp only [bi_0, decide_eq_false_iff_not]
        rw [if_neg (by omega), ci_of (r_isTurn (d := d + 97) x)]
        simp only [bi_0, decide_eq_false_iff_not]
        rw [if_pos hx]
        rfl
  · refine two_ask (r := vi (-1)) hW ⟨σ, Sc.rf, ?_⟩ (fun s hV => ⟨s, Sc.rf, ?_⟩)
    · rw [run_go (k := 106) (as := [vh 0 0, vi g, vi x]) mt_106 (Nat.ne_of_beq_eq_false rfl) rfl (s_kX11_again_0 _ g x σ), ci_of (c_isGame (d := d + 98) h g)]
      simp only [bi_0, decide_eq_false_iff_not]
      rw [if_pos hg]
      rfl
    · rw [run_go (k := 214) (as := [vh 51 0, vi g, vi x]) mt_214 (Nat.ne_of_beq_eq_false rfl) rfl (s_kX12_again_0 _ g x s), ci_of (r_isGame (d := d + 98) hV g)]
      simp only [bi_0, decide_eq_false_iff_not]
      rw [if_pos hg]
      rfl
end
