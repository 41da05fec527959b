-- the reference's goThrough(): the holders' coins, and the whole
theorem loop_relv {O : TO} {k pc C : Nat} (I : Nat → TL → TM → Prop) (N : Nat) (hs : ∀ p L σ, p < N → I p L σ → ∃ L' σ' c, c ≤ C ∧ I (p + 1) L' σ' ∧ ∀ n, t_tr tbl mtb O k (n + c) pc L [] σ = t_tr tbl mtb O k n pc L' [] σ') : ∀ m p L σ, p + m = N → I p L σ → ∃ L' σ' c, c ≤ m * C ∧ I N L' σ' ∧ ∀ n, t_tr tbl mtb O k (n + c) pc L [] σ = t_tr tbl mtb O k n pc L' [] σ'
  | 0, p, L, σ, h, hI => by
    subst h
    exact ⟨L, σ, 0, Nat.zero_le _, hI, fun n => rfl⟩
  | m + 1, p, L, σ, h, hI => by
    obtain ⟨L1, σ1, c1, hc1, hI1, e1⟩ := hs p L σ (by omega) hI
    obtain ⟨L2, σ2, c2, hc2, hI2, e2⟩ := loop_relv I N hs m (p + 1) L1 σ1 (by omega) hI1
    refine ⟨L2, σ2, c2 + c1, by rw [Nat.succ_mul]; omega, hI2, fun n => ?_⟩
    rw [← Nat.add_assoc]
    exact (e1 (n + c2)).trans (e2 n)
section
variable {σ : TM} {V : TVw} {g t : Int} {A T I : Nat → Int} {d : Nat}
def s7 (k j : Nat) : Bool := s2 k j || (Nat.beq k 60 || Nat.beq k 104)
theorem s2_s7 (k j : Nat) (h : s7 k j = false) : s2 k j = false := (Bool.or_eq_false_iff.mp h).1
theorem ffe_dNk (V : TVw) (g : Int) (A T I : Nat → Int) (t : Int) (k : Nat) (n : Int) : ffe (dNk V g A T I t k) k t n = ffe V k t n := by
  have e : dNk V g A T I t k 60 k = V 60 k := by
    unfold dNk
    rw [if_pos rfl, if_neg (Nat.lt_irrefl k)]
  have : ffe (dNk V g A T I t k) k t n = fhl (fgv V (10 * V 59 k + 4) t (V 51 0) (fNh t k n (dNk V g A T I t k 60 k)) 0) 9999 := rfl
  rw [this, e]
  rfl
theorem fst_dNk (V : TVw) (g : Int) (A T I : Nat → Int) (t : Int) (k : Nat) (h : Int) : fst (dNk V g A T I t k) h = fst (dM V g A T I) h := rfl
set_option maxHeartbeats 4000000 in
theorem r_go4 (hV : RV σ (dM V g A T I)) (hI : Inv V) (hA : mVA V g A T) (hg : 0 ≤ g ∧ g < 3) : ∃ s, Sc s7 σ s ∧ RV s (dN V g A T I t) ∧ (∀ h, h < nH V → s 104 0 h = dF V g A T I t h) ∧ ∃ c, c ≤ nH V * (nP V + 2) ∧ ∀ n, t_tr tbl mtb (t_run tbl mtb (d + 72)) 211 (n + c) 282 [some (vh 51 0), some (vi g), some (vi t), some (vi (V 51 0)), some (vi 0), none, none] [] σ = t_tr tbl mtb (t_run tbl mtb (d + 72)) 211 n 282 [some (vh 51 0), some (vi g), some (vi t), some (vi (V 51 0)), some (vi (nH V : Int)), none, none] [] s := by
  have h0 := hI.cnt
  obtain ⟨L, s, cc, hcc, ⟨a1, rfl, a2, a3⟩, e⟩ := loop_relv (C := nP V + 2) (O := t_run tbl mtb (d + 72)) (k := 211) (pc := 282) (fun k L s => Sc s7 σ s ∧ L = [some (vh 51 0), some (vi g), some (vi t), some (vi (V 51 0)), some (vi (k : Int)), none, none] ∧ RV s (dNk V g A T I t k) ∧ (∀ h, h < k → s 104 0 h = dF V g A T I t h)) (nH V) (by
    rintro k L s hk ⟨b1, rfl, b2, b3⟩
    have hIk := dNk_inv (I := I) hI hA t k
    have r1 : 0 ≤ (k : Int) ∧ (k : Int) < 12 := by omega
    have e51 : s 51 0 15 = V 51 15 := b2 51 15 rfl rfl rfl
    have e60 : s 60 0 k = V 60 k := by
      rw [b2 60 k rfl rfl rfl]
      unfold dNk
      rw [if_pos rfl, if_neg (Nat.lt_irrefl k)]
    have u59 : t_upd s 104 0 k 0 59 0 k = V 59 k := by rw [up_k (by decide)]; exact b2 59 k rfl rfl rfl
    have u62 : t_upd s 104 0 k 0 62 0 k = V 62 k := by rw [up_k (by decide)]; exact b2 62 k rfl rfl rfl
    have st := fun N => tr_step (n := N) (s_kX12_goThrough_282 (t_run tbl mtb (d + 72)) g t (V 51 0) k s )
    simp only [e51, if_pos (show (k : Int) < V 51 15 by omega), w32_nat (show k < 2147483647 by omega), Int.toNat_natCast, if_pos r1, u59, u62] at st
    have b2' : RV (t_upd s 104 0 k 0) (dNk V g A T I t k) := b2.sc (Sc.rf.up rfl)
    -- the holder as it stands behind
    have hrv : ∀ s', RV s' (dNk V g A T I t k) → ∀ v, v = dC V g A T I t k → RV (t_upd s' 60 0 k v) (dNk V g A T I t (k + 1)) := by
      intro s' h v hv x j hx1 hx2 hx3
      have hs := h x j hx1 hx2 hx3
      unfold dNk at hs ⊢
      by_cases q1 : x = 60
      · subst q1
        rw [if_pos rfl] at hs ⊢
        by_cases q2 : j = k
        · subst q2
          rw [up_same, hv, if_pos (Nat.lt_succ_self j)]
        · rw [up_j q2, hs]
          by_cases q3 : j < k
          · rw [if_pos q3, if_pos (by omega)]
          · rw [if_neg q3, if_neg (by omega)]
      · rw [if_neg q1] at hs ⊢
        rw [up_k q1, hs]
    have hrv0 : ∀ s', RV s' (dNk V g A T I t k) → dC V g A T I t k = V 60 k → RV s' (dNk V g A T I t (k + 1)) := by
      intro s' h hv x j hx1 hx2 hx3
      have hs := h x j hx1 hx2 hx3
      unfold dNk at hs ⊢
      by_cases q1 : x = 60
      · subst q1
        rw [if_pos rfl] at hs ⊢
        rw [hs]
        by_cases q3 : j < k
        · rw [if_pos q3, if_pos (by omega)]
        · rw [if_neg q3]
          by_cases q2 : j = k
          · subst q2
            rw [if_pos (Nat.lt_succ_self j), hv]
          · rw [if_neg (by omega)]
      · rw [if_neg q1] at hs ⊢
        exact hs
    by_cases c : V 59 k = g ∧ fpl V k t = true
    · have hdC : dC V g A T I t k = w32 (V 60 k + fS (dS V g A T I k) (nP V) - ffe V k t (fst (dM V g A T I) k)) := if_pos c
      have hdF : dF V g A T I t k = ffe V k t (fst (dM V g A T I) k) := if_pos c
      have hpl := c.2
      unfold fpl at hpl
      rw [decide_eq_true_eq] at hpl
      obtain ⟨s1, c1, c2⟩ := r_feeOf (d := d + 5) (σ := t_upd s 104 0 k 0) b2' hIk (x := k) hk t
      have c2 : t_run tbl mtb (d + 72) 182 [vh 51 0, vi (k : Int), vi t, vi (V 51 0)] (t_upd s 104 0 k 0) = some (some (vi (dF V g A T I t k)), s1) := by
        rw [hdF, ← ffe_dNk V g A T I t k, ← fst_dNk V g A T I t k]
        exact c2
      have st : ∀ N, t_tr tbl mtb (t_run tbl mtb (d + 72)) 211 (N + 1) 282 [some (vh 51 0), some (vi g), some (vi t), some (vi (V 51 0)), some (vi (k : Int)), none, none] [] s = t_tr tbl mtb (t_run tbl mtb (d + 72)) 211 N 352 [some (vh 51 0), some (vi g), some (vi t), some (vi (V 51 0)), some (vi (k : Int)), some (vi 0), some (vi 0)] [] (t_upd s1 104 0 k (dF V g A T I t k)) := by
        intro N
        have st := st N
        by_cases q : V 62 k < 0
        · simp only [if_pos c.1, if_pos q, c2, ci_ok] at st
          exact st
        · have q2 : t < V 62 k := by omega
          simp only [if_pos c.1, if_neg q, if_pos q2, c2, ci_ok] at st
          exact st
      have b3' : RV (t_upd s1 104 0 k (dF V g A T I t k)) (dNk V g A T I t k) := b2'.sc (c1.s2.up rfl)
      generalize hs2 : t_upd s1 104 0 k (dF V g A T I t k) = s2' at st b3'
      obtain ⟨L', s', ⟨rfl, rfl⟩, e⟩ := loop_rel (O := t_run tbl mtb (d + 72)) (k := 211) (pc := 352) (fun q L s' => s' = s2' ∧ L = [some (vh 51 0), some (vi g), some (vi t), some (vi (V 51 0)), some (vi (k : Int)), some (vi (w32 (fS (dS V g A T I k) q))), some (vi (q : Int))]) (nP V) (by
        rintro q L s' hq ⟨rfl, rfl⟩
        have r2 : 0 ≤ (q : Int) ∧ (q : Int) < 40 := by omega
        obtain ⟨-, -, y1, y2, -⟩ := hIk 3 q hq
        have y1 : 0 ≤ dM V g A T I 66 q := y1
        have y2 : dM V g A T I 66 q < 48 := y2
        have v51 : s' 51 0 23 = V 51 23 := b3' 51 23 rfl rfl rfl
        have v65 : s' 65 0 q = V 65 q := b3' 65 q rfl rfl rfl
        have v66 : s' 66 0 q = dM V g A T I 66 q := b3' 66 q rfl rfl rfl
        have v69 : s' 69 0 q = dM V g A T I 69 q := b3' 69 q rfl rfl rfl
        have v57 : ∀ j, s' 57 0 j = V 57 j := fun j => b3' 57 j rfl rfl rfl
        have ew : w32 (w32 (48 * g) + dM V g A T I 66 q) = 48 * g + dM V g A T I 66 q := by
          rw [w32_add_l, w32_id (by omega) (by omega)]
        have rw1 : 0 ≤ 48 * g + dM V g A T I 66 q ∧ 48 * g + dM V g A T I 66 q < 144 := by omega
        have st := fun N => tr_step (n := N) (s_kX12_goThrough_352 (t_run tbl mtb (d + 72)) g t (V 51 0) k (w32 (fS (dS V g A T I k) q)) q s' )
        simp only [v51, if_pos (show (q : Int) < V 51 23 by omega), w32_nat (show q < 2147483647 by omega), Int.toNat_natCast, if_pos r2, v65, v66, v69, v57, ew, if_pos rw1, w32_add_l] at st
        have hS : fS (dS V g A T I k) (q + 1) = fS (dS V g A T I k) q + dS V g A T I k q := rfl
        refine ⟨_, _, ⟨rfl, rfl⟩, fun N => ?_⟩
        rw [hS]
        have st := st N
        unfold dS
        by_cases q1 : V 65 q = (k : Int)
        · simp only [if_pos q1] at st
          by_cases q2 : dM V g A T I 69 q = 0
          · simp only [if_pos q2] at st
            rw [if_pos ⟨q1, q2⟩]
            exact st
          · simp only [if_neg q2] at st
            rw [if_neg (fun z => q2 z.2)]
            exact st
        · simp only [if_neg q1] at st
          rw [if_neg (fun z => q1 z.1)]
          exact st) (nP V) 0 [some (vh 51 0), some (vi g), some (vi t), some (vi (V 51 0)), some (vi (k : Int)), some (vi (w32 (fS (dS V g A T I k) 0))), some (vi ((0 : Nat) : Int))] s2' (by omega) ⟨rfl, rfl⟩
      have hb : Sc s7 s s' := by
        subst hs2
        exact ((Sc.rf.up rfl).tr (c1.mono s2_s7)).up rfl
      have v60 : s' 60 0 k = V 60 k := by
        rw [b3' 60 k rfl rfl rfl]
        unfold dNk
        rw [if_pos rfl, if_neg (Nat.lt_irrefl k)]
      have v104 : s' 104 0 k = dF V g A T I t k := by
        subst hs2
        exact up_same
      have v51 : s' 51 0 23 = V 51 23 := b3' 51 23 rfl rfl rfl
      have hval : w32 (V 60 k + w32 (w32 (fS (dS V g A T I k) (nP V)) - dF V g A T I t k)) = dC V g A T I t k := by
        rw [w32_sub_l, w32_add_r, hdC, hdF]
        congr 1
        omega
      refine ⟨_, t_upd s' 60 0 k (dC V g A T I t k), nP V + 2, Nat.le_refl _, ⟨(b1.tr hb).up rfl, rfl, hrv s' b3' _ rfl, fun h hh => ?_⟩, fun n => ?_⟩
      · rw [up_k (by decide)]
        by_cases z : h = k
        · subst z
          exact v104
        · rw [← b3 h (by omega)]
          subst hs2
          rw [up_j z, c1 104 0 h rfl, up_j z]
      · have e := e (n + 1)
        have e0 : w32 (fS (dS V g A T I k) 0) = 0 := w32_id (show (-2147483648 : Int) ≤ 0 by decide) (show (0 : Int) ≤ 2147483647 by decide)
        rw [e0] at e
        have e : t_tr tbl mtb (t_run tbl mtb (d + 72)) 211 (n + 1 + nP V) 352 [some (vh 51 0), some (vi g), some (vi t), some (vi (V 51 0)), some (vi (k : Int)), some (vi 0), some (vi 0)] [] s' = _ := e
        rw [show n + (nP V + 2) = n + 1 + nP V + 1 by omega, st, e, tr_step (s_kX12_goThrough_352 _ g t (V 51 0) k (w32 (fS (dS V g A T I k) (nP V))) (nP V : Int) s'), v51, if_neg (by omega)]
        simp only [if_pos r1, Int.toNat_natCast, v60, v104, hval, w32_nat (show k < 2147483647 by omega)]
        rfl
    · have hdC : dC V g A T I t k = V 60 k := if_neg c
      have hdF : dF V g A T I t k = 0 := if_neg c
      have st : ∀ N, t_tr tbl mtb (t_run tbl mtb (d + 72)) 211 (N + 1) 282 [some (vh 51 0), some (vi g), some (vi t), some (vi (V 51 0)), some (vi (k : Int)), none, none] [] s = t_tr tbl mtb (t_run tbl mtb (d + 72)) 211 N 282 [some (vh 51 0), some (vi g), some (vi t), some (vi (V 51 0)), some (vi ((k + 1 : Nat) : Int)), none, none] [] (t_upd s 104 0 k 0) := by
        intro N
        have st := st N
        by_cases c1 : V 59 k = g
        · have hpl : ¬ fpl V k t = true := fun z => c ⟨c1, z⟩
          unfold fpl at hpl
          rw [decide_eq_true_eq] at hpl
          simp only [if_pos c1, if_neg (show ¬ V 62 k < 0 by omega), if_neg (show ¬ t < V 62 k by omega)] at st
          exact st
        · simp only [if_neg c1] at st
          exact st
      refine ⟨_, _, 1, by omega, ⟨b1.up rfl, rfl, hrv0 _ b2' hdC, fun h hh => ?_⟩, st⟩
      by_cases z : h = k
      · subst z
        rw [up_same, hdF]
      · rw [up_j z]
        exact b3 h (by omega)) (nH V) 0 [some (vh 51 0), some (vi g), some (vi t), some (vi (V 51 0)), some (vi ((0 : Nat) : Int)), none, none] σ (by omega) ⟨Sc.rf, rfl, fun x j hx1 hx2 hx3 => by
        rw [hV x j hx1 hx2 hx3]
        unfold dNk
        by_cases q1 : x = 60
        · rw [if_pos q1, if_neg (Nat.not_lt_zero _), q1]
          rfl
        · rw [if_neg q1], fun h hh => by omega⟩
  exact ⟨s, a1, a2, a3, cc, hcc, e⟩
end
