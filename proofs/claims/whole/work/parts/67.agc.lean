-- the class's again()
section
variable {σ : TM} {V : TVw} {g : Int} {t : Nat} {d : Nat}
theorem c_goBack {p : Nat} (h6 : 0 ≤ σ 17 p 6 ∧ σ 17 p 6 ≤ 1) (h19 : 0 ≤ σ 19 p t ∧ σ 19 p t ≤ 1) (ht : t < 31) : ∃ s, (∀ x i j, ¬ (x = 17 ∧ i = p ∧ (j = 3 ∨ j = 6 ∨ j = 9 ∨ j = 10)) → s x i j = σ x i j) ∧ s 17 p 3 = σ 18 p t ∧ s 17 p 6 = σ 19 p t ∧ s 17 p 9 = σ 17 p 3 ∧ s 17 p 10 = σ 17 p 6 ∧ t_run tbl mtb (d + 1) 25 [vh 17 p, vi t] σ = some (none, s) := by
  have r1 : 0 ≤ (t : Int) ∧ (t : Int) < 31 := by omega
  have e6 : ∀ v, t_upd σ 17 p 9 v 17 p 6 = σ 17 p 6 := fun v => up_j (by decide)
  have e18 : ∀ v w, t_upd (t_upd σ 17 p 9 v) 17 p 10 w 18 p t = σ 18 p t := fun v w => by rw [up_k (by decide), up_k (by decide)]
  have e19 : ∀ v w y, t_upd (t_upd (t_upd σ 17 p 9 v) 17 p 10 w) 17 p 3 y 19 p t = σ 19 p t := fun v w y => by rw [up_k (by decide), up_k (by decide), up_k (by decide)]
  refine ⟨t_upd (t_upd (t_upd (t_upd σ 17 p 9 (σ 17 p 3)) 17 p 10 (σ 17 p 6)) 17 p 3 (σ 18 p t)) 17 p 6 (σ 19 p t), fun x i j hx => ?_, ?_, ?_, ?_, ?_, ?_⟩
  · rw [t_upd_eq, if_neg (fun q => hx ⟨q.1, q.2.1, .inr (.inl q.2.2)⟩), t_upd_eq, if_neg (fun q => hx ⟨q.1, q.2.1, .inl q.2.2⟩), t_upd_eq, if_neg (fun q => hx ⟨q.1, q.2.1, .inr (.inr (.inr q.2.2))⟩), t_upd_eq, if_neg (fun q => hx ⟨q.1, q.2.1, .inr (.inr (.inl q.2.2))⟩)]
  · rw [up_j (by decide), up_same]
  · rw [up_same]
  · rw [up_j (by decide), up_j (by decide), up_j (by decide), up_same]
  · rw [up_j (by decide), up_j (by decide), up_same]
  · rw [run_go (k := 25) (as := [vh 17 p, vi t]) mt_25 (Nat.ne_of_beq_eq_false rfl) rfl (s_kX6_goBack_0 _ p t σ)]
    simp only [e6, Int.toNat_natCast, e18, e19, if_pos h6, if_pos r1, if_pos h19]
    rfl
/-- the class's pieces before k gone back -/
def CB (s0 s : TM) (V : TVw) (g : Int) (t k : Nat) : Prop := (∀ x i j, ¬ (i < k ∧ fgm V i = g ∧ x = 17 ∧ (j = 3 ∨ j = 6 ∨ j = 9 ∨ j = 10)) → s x i j = s0 x i j) ∧ ∀ p, p < k → fgm V p = g → s 17 p 3 = lc V p t ∧ s 17 p 6 = gn V p t ∧ s 17 p 9 = V 66 p ∧ s 17 p 10 = V 69 p
set_option maxHeartbeats 2000000 in
theorem c_ag1 (h : CR σ V) (hX : KX σ V g (V 54 g.toNat).toNat) (hg : 0 ≤ g ∧ g < V 51 8) (ht : t ≤ (V 54 g.toNat).toNat) : ∃ s, CB σ s V g t (nP V) ∧ ∀ n, t_tr tbl mtb (t_run tbl mtb (d + 8)) 106 (n + nP V) 38 [some (vh 0 0), some (vi g), some (vi (t : Int)), some (vh 38 g.toNat), some (vi 0), none] [] σ = t_tr tbl mtb (t_run tbl mtb (d + 8)) 106 n 38 [some (vh 0 0), some (vi g), some (vi (t : Int)), some (vh 38 g.toNat), some (vi (nP V : Int)), none] [] s := by
  have hI := h.inv
  have h0 := hI.cnt
  obtain ⟨b1, b2, -⟩ := hI 1 g.toNat (by omega)
  obtain ⟨L, s, ⟨a1, rfl⟩, e⟩ := loop_rel (O := t_run tbl mtb (d + 8)) (k := 106) (pc := 38) (fun k L s => CB σ s V g t k ∧ L = [some (vh 0 0), some (vi g), some (vi (t : Int)), some (vh 38 g.toNat), some (vi (k : Int)), none]) (nP V) (by
    rintro k L s hk ⟨c1, rfl⟩
    have r1 : 0 ≤ (k : Int) ∧ (k : Int) < 40 := by omega
    have e7 : s 0 0 7 = V 51 23 := (c1.1 0 0 7 (by rintro ⟨-, -, q, -⟩; cases q)).trans h.np
    obtain ⟨p0, p1, p2, p3, -, -, p6⟩ := h 5 k hk
    obtain ⟨-, -, -, -, -, -, v9, -⟩ := hI 3 k hk
    have eo : ∀ j, s 17 k j = σ 17 k j := fun j => c1.1 17 k j (fun q => Nat.lt_irrefl k q.1)
    have st := fun N => tr_step (n := N) (s_kX11_again_38 (t_run tbl mtb (d + 8)) g t g.toNat k s )
    simp only [e7, if_pos (show (k : Int) < V 51 23 by omega), w32_nat (show k < 2147483647 by omega), Int.toNat_natCast, if_pos r1, eo 0, p0] at st
    by_cases z : fgm V k = g
    · obtain ⟨l1, l2⟩ := lc_c h hk (by rw [z]; exact hX.2.1) z t (by rw [z]; exact ht)
      have e18 : s 18 k t = lc V k t := (c1.1 18 k t (by rintro ⟨-, -, q, -⟩; cases q)).trans l1
      have e19 : s 19 k t = gn V k t := (c1.1 19 k t (by rintro ⟨-, -, q, -⟩; cases q)).trans l2
      have g1 := gn_r V k t
      obtain ⟨s1', d1, d2, d3, d4, d5, d6⟩ := c_goBack (σ := s) (d := d + 7) (p := k) (t := t) (by rw [eo 6, p6]; omega) (by rw [e19]; omega) (by omega)
      simp only [if_pos z, d6, cv_ok] at st
      refine ⟨_, _, ⟨⟨fun x i j hx => ?_, fun p hp hpg => ?_⟩, rfl⟩, st⟩
      · rw [d1 x i j (by rintro ⟨rfl, rfl, q⟩; exact hx ⟨Nat.lt_succ_self _, z, rfl, q⟩)]
        exact c1.1 x i j (fun q => hx ⟨by omega, q.2⟩)
      · by_cases y : p = k
        · subst y
          rw [d2, d3, d4, d5, e18, e19, eo 3, eo 6, p3, p6]
          exact ⟨rfl, rfl, rfl, rfl⟩
        · have hne : ∀ j, s1' 17 p j = s 17 p j := fun j => d1 17 p j (fun q => y q.2.1)
          rw [hne, hne, hne, hne]
          exact c1.2 p (by omega) hpg
    · simp only [if_neg z] at st
      refine ⟨_, s, ⟨⟨fun x i j hx => c1.1 x i j (fun q => hx ⟨by omega, q.2⟩), fun p hp hpg => ?_⟩, rfl⟩, st⟩
      have y : p ≠ k := by rintro rfl; exact z hpg
      exact c1.2 p (by omega) hpg) (nP V) 0 [some (vh 0 0), some (vi g), some (vi (t : Int)), some (vh 38 g.toNat), some (vi ((0 : Nat) : Int)), none] σ (by omega) ⟨⟨fun x i j hx => rfl, fun p hp => by omega⟩, rfl⟩
  exact ⟨s, a1, e⟩
/-- the class's holders before k have their coins of then -/
def CH2 (s0 s : TM) (V : TVw) (g : Int) (t k : Nat) : Prop := (∀ x i j, ¬ (i < k ∧ V 59 i = g ∧ x = 41 ∧ j = 1) → s x i j = s0 x i j) ∧ ∀ x, x < k → V 59 x = g → s 41 x 1 = bk V t x
set_option maxHeartbeats 2000000 in
theorem c_ag2 {s0 : TM} (h : CR σ V) (hB : CB σ s0 V g t (nP V)) (hg : 0 ≤ g ∧ g < V 51 8) (ht : t ≤ (V 54 g.toNat).toNat) : ∃ s, CH2 s0 s V g t (nH V) ∧ ∀ n, t_tr tbl mtb (t_run tbl mtb (d + 8)) 106 (n + nH V) 81 [some (vh 0 0), some (vi g), some (vi (t : Int)), some (vh 38 g.toNat), some (vi 0), none] [] s0 = t_tr tbl mtb (t_run tbl mtb (d + 8)) 106 n 81 [some (vh 0 0), some (vi g), some (vi (t : Int)), some (vh 38 g.toNat), some (vi (nH V : Int)), none] [] s := by
  have hI := h.inv
  have h0 := hI.cnt
  obtain ⟨b1, b2, -⟩ := hI 1 g.toNat (by omega)
  have r31 : 0 ≤ (t : Int) ∧ (t : Int) < 31 := by omega
  obtain ⟨L, s, ⟨a1, rfl⟩, e⟩ := loop_rel (O := t_run tbl mtb (d + 8)) (k := 106) (pc := 81) (fun k L s => CH2 s0 s V g t k ∧ L = [some (vh 0 0), some (vi g), some (vi (t : Int)), some (vh 38 g.toNat), some (vi (k : Int)), none]) (nH V) (by
    rintro k L s hk ⟨c1, rfl⟩
    have r1 : 0 ≤ (k : Int) ∧ (k : Int) < 12 := by omega
    have eo : ∀ x i j, x ≠ 17 → s0 x i j = σ x i j := fun x i j hx => hB.1 x i j (fun q => hx q.2.2.1)
    have e4 : s 0 0 4 = V 51 15 := by rw [c1.1 0 0 4 (by rintro ⟨-, -, q, -⟩; cases q), eo 0 0 4 (by decide)]; exact h.nh
    obtain ⟨-, p0, -⟩ := h 3 k (by omega)
    have e0 : s 41 k 0 = V 59 k := by rw [c1.1 41 k 0 (by rintro ⟨-, -, -, q⟩; cases q), eo 41 k 0 (by decide)]; exact (p0 hk).1
    have st := fun N => tr_step (n := N) (s_kX11_again_81 (t_run tbl mtb (d + 8)) g t g.toNat k s )
    simp only [e4, if_pos (show (k : Int) < V 51 15 by omega), w32_nat (show k < 2147483647 by omega), Int.toNat_natCast, if_pos r1, if_pos r31, e0] at st
    by_cases z : V 59 k = g
    · simp only [if_pos z] at st
      have e42 : s 42 k t = bk V t k := by
        rw [c1.1 42 k t (by rintro ⟨-, -, q, -⟩; cases q), eo 42 k t (by decide)]
        exact bk_c h hk (by rw [z]; omega)
      rw [e42] at st
      refine ⟨_, _, ⟨⟨fun x i j hx => ?_, fun p hp hpg => ?_⟩, rfl⟩, st⟩
      · rw [t_upd_eq, if_neg (by rintro ⟨rfl, rfl, rfl⟩; exact hx ⟨Nat.lt_succ_self _, z, rfl, rfl⟩)]
        exact c1.1 x i j (fun q => hx ⟨by omega, q.2⟩)
      · by_cases y : p = k
        · subst y
          exact up_same
        · rw [up_i y]
          exact c1.2 p (by omega) hpg
    · simp only [if_neg z] at st
      refine ⟨_, s, ⟨⟨fun x i j hx => c1.1 x i j (fun q => hx ⟨by omega, q.2⟩), fun p hp hpg => ?_⟩, rfl⟩, st⟩
      have y : p ≠ k := by rintro rfl; exact z hpg
      exact c1.2 p (by omega) hpg) (nH V) 0 [some (vh 0 0), some (vi g), some (vi (t : Int)), some (vh 38 g.toNat), some (vi ((0 : Nat) : Int)), none] s0 (by omega) ⟨⟨fun x i j hx => rfl, fun p hp => by omega⟩, rfl⟩
  exact ⟨s, a1, e⟩
theorem c_agB {s0 s : TM} (h : CR σ V) (hX : KX σ V g (V 54 g.toNat).toNat) (ht : t ≤ (V 54 g.toNat).toNat) (hB : CB σ s0 V g t (nP V)) (hH : CH2 s0 s V g t (nH V)) : CR s (aB V g t) ∧ KX s (aB V g t) g t ∧ (∀ p, p < nP V → fgm V p = g → s 17 p 9 = V 66 p ∧ s 17 p 10 = V 69 p) ∧ FC σ s := by
  have hI := h.inv
  have h0 := hI.cnt
  have ef : ∀ x i j, x ≠ 17 → x ≠ 41 → s x i j = σ x i j := fun x i j h1 h2 => by
    rw [hH.1 x i j (fun q => h2 q.2.2.1), hB.1 x i j (fun q => h1 q.2.2.1)]
  have e17 : ∀ p j, s 17 p j = s0 17 p j := fun p j => hH.1 17 p j (by rintro ⟨-, -, q, -⟩; cases q)
  have hI2 : Inv (aB V g t) := aBk_inv hI hX.1 ht ht
  refine ⟨?_, KX.back h hX ht (fun p j => ef 18 p j (by decide) (by decide)), fun p hp hpg => ?_, fun k i j hk => ef k i j (by omega) (by omega)⟩
  · refine CR.k (T := [17, 41, 66, 69, 60]) (fun k i j _ q => ef k i j (by rintro rfl; cases q) (by rintro rfl; cases q)) (fun k j _ q => ?_) h hI2 (fun i hi hd => ?_)
    · unfold aB aBk
      rw [if_neg (by rintro rfl; cases q), if_neg (by rintro rfl; cases q), if_neg (by rintro rfl; cases q)]
    rcases (by decide : ∀ i, i < 16 → djT [17, 41, 66, 69, 60] (cdep i) = false → i = 3 ∨ i = 5 ∨ i = 6) i hi hd with rfl | rfl | rfl
    · intro x hx
      obtain ⟨k1, k2, k3⟩ := h 3 x hx
      have f : ∀ j, j ≠ 1 → s 41 x j = σ 41 x j := fun j hj => by
        rw [hH.1 41 x j (fun q => hj q.2.2.2), hB.1 41 x j (by rintro ⟨-, -, q, -⟩; cases q)]
      rw [f 0 (by decide), f 2 (by decide), f 3 (by decide), f 4 (by decide)]
      refine ⟨k1, fun hx2 => ⟨(k2 hx2).1, ?_, (k2 hx2).2.2.1, (k2 hx2).2.2.2⟩, k3⟩
      have hx2 : x < nH V := hx2
      show _ = if x < nH V ∧ V 59 x = g then bk V t x else V 60 x
      by_cases z : V 59 x = g
      · rw [if_pos ⟨hx2, z⟩]
        exact hH.2 x hx2 z
      · rw [if_neg (fun q => z q.2), hH.1 41 x 1 (fun q => z q.2.1), hB.1 41 x 1 (by rintro ⟨-, -, q, -⟩; cases q)]
        exact (k2 hx2).2.1
    · intro p hp
      have hp : p < nP V := hp
      obtain ⟨k0, k1, k2, k3, k4, k5, k6⟩ := h 5 p hp
      rw [e17, e17, e17, e17, e17, e17, e17]
      have f : ∀ j, j ≠ 3 → j ≠ 6 → j ≠ 9 → j ≠ 10 → s0 17 p j = σ 17 p j := fun j h1 h2 h3 h4 => hB.1 17 p j (by rintro ⟨-, -, -, q | q | q | q⟩ <;> contradiction)
      rw [f 0 (by decide) (by decide) (by decide) (by decide), f 1 (by decide) (by decide) (by decide) (by decide), f 2 (by decide) (by decide) (by decide) (by decide), f 4 (by decide) (by decide) (by decide) (by decide), f 5 (by decide) (by decide) (by decide) (by decide)]
      refine ⟨k0, k1, k2, ?_, k4, k5, ?_⟩
      · show _ = if p < nP V ∧ fgm V p = g then lc V p t else V 66 p
        by_cases z : fgm V p = g
        · rw [if_pos ⟨hp, z⟩]
          exact (hB.2 p hp z).1
        · rw [if_neg (fun q => z q.2), hB.1 17 p 3 (fun q => z q.2.1)]
          exact k3
      · show _ = if p < nP V ∧ fgm V p = g then gn V p t else V 69 p
        by_cases z : fgm V p = g
        · rw [if_pos ⟨hp, z⟩]
          exact (hB.2 p hp z).2.1
        · rw [if_neg (fun q => z q.2), hB.1 17 p 6 (fun q => z q.2.1)]
          exact k6
    · intro p hp hpn
      have hpn : nP V ≤ p := hpn
      obtain ⟨k1, k2, k3, k4, k5⟩ := h 6 p hp hpn
      have f : ∀ j, s0 17 p j = σ 17 p j := fun j => hB.1 17 p j (fun q => by have := q.1; omega)
      rw [e17, e17, e17, f, f, f]
      refine ⟨k1, k2, k3, ?_, k5⟩
      show (if p < nP V ∧ fgm V p = g then gn V p t else V 69 p) = 0
      rw [if_neg (fun q => by have := q.1; omega)]
      exact k4
  · rw [e17, e17]
    exact (hB.2 p hp hpg).2.2
set_option maxHeartbeats 4000000 in
theorem c_again (h : CR σ V) (hK : KW σ V) (hg : 0 ≤ g ∧ g < V 51 8) (ht : (t : Int) < V 54 g.toNat) : ∃ s, FC σ s ∧ CR s (aW V g t) ∧ KW s (aW V g t) ∧ t_run tbl mtb (d + 9) 106 [vh 0 0, vi g, vi t] σ = some (some (vi (fS (aEl V (aW V g t)) (nP V))), s) := by
  have hI := h.inv
  have h0 := hI.cnt
  have rg : 0 ≤ g ∧ g < 3 := by omega
  obtain ⟨b1, b2, -⟩ := hI 1 g.toNat (by omega)
  have et : ((V 54 g.toNat).toNat : Int) = V 54 g.toNat := Int.toNat_of_nonneg b1
  have hX := hK.kx hg
  have htn : t ≤ (V 54 g.toNat).toNat := by omega
  obtain ⟨s1', c1, e1⟩ := c_ag1 (d := d) h hX hg htn
  obtain ⟨s2', c2, e2⟩ := c_ag2 (d := d) h c1 hg htn
  obtain ⟨d1, d2, d3, d4⟩ := c_agB h hX htn c1 c2
  have e2g : σ 38 g.toNat 2 = V 54 g.toNat := (h 1 g.toNat (by omega)).1
  have o51 : ∀ n j, aRn (aB V g t) g t n 51 j = V 51 j := fun n j => by rw [aRn_o _ _ _ rfl]; rfl
  have o54 : ∀ n j, aRn (aB V g t) g t n 54 j = V 54 j := fun n j => by rw [aRn_o _ _ _ rfl]; rfl
  have ogm : ∀ n p, fgm (aRn (aB V g t) g t n) p = fgm V p := fun n p => by rw [aRn_gm]; rfl
  -- the turns done again
  obtain ⟨L3, s3, ⟨f1, f2, f3, rfl⟩, e3⟩ := loop_rel (O := t_run tbl mtb (d + 8)) (k := 106) (pc := 135) (fun n L s => Sc sct s2' s ∧ CR s (aRn (aB V g t) g t n) ∧ KX s (aRn (aB V g t) g t n) g (t + n) ∧ L = [some (vh 0 0), some (vi g), none, some (vh 38 g.toNat), some (vi ((t + n : Nat) : Int)), none]) ((V 54 g.toNat).toNat - t) (by
    rintro n L s hn ⟨q1, q2, q3, rfl⟩
    obtain ⟨s', w1, w2, w3, w4, w5, w6⟩ := c_doTurn (d := d) (t := t + n) q2 (q3.1.mU q2.inv) (by rw [o51]; exact hg) (by omega)
    have e38 : s 38 g.toNat 2 = V 54 g.toNat := by rw [(q2 1 g.toNat (by omega)).1, o54]
    have st := fun N => tr_step (n := N) (s_kX11_again_135 (t_run tbl mtb (d + 8)) g g.toNat ((t + n : Nat) : Int) s )
    simp only [e38, if_pos (show ((t + n : Nat) : Int) < V 54 g.toNat by omega), w6, cv_ok, w32_nat (show t + n < 2147483647 by omega)] at st
    exact ⟨_, s', ⟨q1.tr w1, w2, q3.turn q2.inv (by rw [o51]; exact hg) (fun p hp hpg => (w3 p hp hpg).1) w5, rfl⟩, st⟩) ((V 54 g.toNat).toNat - t) 0 [some (vh 0 0), some (vi g), none, some (vh 38 g.toNat), some (vi ((t + 0 : Nat) : Int)), none] s2' (by omega) ⟨Sc.rf, d1, d2, rfl⟩
  have eT : t + ((V 54 g.toNat).toNat - t) = (V 54 g.toNat).toNat := by omega
  rw [eT] at f3 e3
  have f2 : CR s3 (aW V g t) := f2
  have f3 : KX s3 (aW V g t) g (V 54 g.toNat).toNat := f3
  have w51 : ∀ j, aW V g t 51 j = V 51 j := fun j => o51 _ j
  have w54 : ∀ j, aW V g t 54 j = V 54 j := fun j => o54 _ j
  have wgm : ∀ p, fgm (aW V g t) p = fgm V p := fun p => ogm _ p
  have wnP : nP (aW V g t) = nP V := by unfold nP; rw [w51]
  -- how many are elsewhere
  obtain ⟨L4, s4, ⟨rfl, rfl⟩, e4⟩ := loop_rel (O := t_run tbl mtb (d + 8)) (k := 106) (pc := 163) (fun k L s => s = s3 ∧ L = [some (vh 0 0), some (vi g), none, none, some (vi (fS (aEl V (aW V g t)) k)), some (vi (k : Int))]) (nP V) (by
    rintro k L s hk ⟨rfl, rfl⟩
    have r1 : 0 ≤ (k : Int) ∧ (k : Int) < 40 := by omega
    obtain ⟨p0, -, -, p3, -, -, p6⟩ := f2 5 k (by rw [wnP]; exact hk)
    have e7 : s 0 0 7 = V 51 23 := by rw [f2.np, w51]
    have eS : fS (aEl V (aW V g t)) (k + 1) = fS (aEl V (aW V g t)) k + aEl V (aW V g t) k := rfl
    have rS := aEl_r V (aW V g t) k
    obtain ⟨-, -, v3, v4, -, -, v9, -⟩ := hI 3 k hk
    obtain ⟨-, -, u3, u4, -, -, u9, -⟩ := f2.inv 3 k (by rw [wnP]; exact hk)
    have st := fun N => tr_step (n := N) (s_kX11_again_163 (t_run tbl mtb (d + 8)) g (fS (aEl V (aW V g t)) k) k s )
    simp only [e7, if_pos (show (k : Int) < V 51 23 by omega), w32_nat (show k < 2147483647 by omega), Int.toNat_natCast, if_pos r1, p0, wgm] at st
    refine ⟨_, s, ⟨rfl, rfl⟩, fun N => ?_⟩
    rw [st N, eS]
    by_cases z : fgm V k = g
    · obtain ⟨m1, m2⟩ := d3 k hk z
      have m9 : s 17 k 9 = V 66 k := (f1 17 k 9 rfl).trans m1
      have m10 : s 17 k 10 = V 69 k := (f1 17 k 10 rfl).trans m2
      have ee : t_run tbl mtb (d + 8) 26 [vh 17 k] s = some (some (vi (aEl V (aW V g t) k)), s) := by
        rw [run_go (k := 26) (as := [vh 17 k]) mt_26 (Nat.ne_of_beq_eq_false rfl) rfl (s_kX6_isElsewhere_0 _ k s), p3, p6, m9, m10]
        unfold aEl
        (repeat' split) <;> first | exact leaf_i rfl | (exfalso; omega)
      rw [if_pos z, ci_of ee, w32_id (by omega) (by omega)]
      have r01 : aEl V (aW V g t) k = 0 ∨ aEl V (aW V g t) k = 1 := by
        unfold aEl
        (repeat' split) <;> first | exact .inl rfl | exact .inr rfl
      rcases r01 with y | y
      · rw [if_pos y, y, Int.add_zero]
        rfl
      · rw [if_neg (by omega), y]
        rfl
    · have y : aEl V (aW V g t) k = 0 := by
        have q : aW V g t 66 k = V 66 k ∧ aW V g t 69 k = V 69 k := by
          have q := aRn_no (aB V g t) g t (p := k) z ((V 54 g.toNat).toNat - t)
          have q2 := aB_no (V := V) (g := g) (t := t) z
          exact ⟨q.1.trans q2.1, q.2.trans q2.2⟩
        unfold aEl
        rw [q.1, q.2, if_pos rfl]
      rw [if_neg z, y, Int.add_zero]
      rfl) (nP V) 0 [some (vh 0 0), some (vi g), none, none, some (vi (fS (aEl V (aW V g t)) 0)), some (vi ((0 : Nat) : Int))] s3 (by omega) ⟨rfl, rfl⟩
  refine ⟨s4, d4.tr (FC.of f1 sct_C), f2, KX.kw (by rw [w54]; exact f3), ?_⟩
  obtain ⟨N, hN⟩ : ∃ N, 999999 = N + 1 + nP V + 1 + ((V 54 g.toNat).toNat - t) + 1 + nH V + 1 + nP V := ⟨999999 - (nP V + ((V 54 g.toNat).toNat - t) + nH V + nP V + 4), by omega⟩
  have q1 : s1' 0 0 7 = V 51 23 := (c1.1 0 0 7 (by rintro ⟨-, -, q, -⟩; cases q)).trans h.np
  have q2 : s2' 0 0 4 = V 51 15 := d1.nh
  have q3 : s4 38 g.toNat 2 = V 54 g.toNat := by rw [(f2 1 g.toNat (by omega)).1, w54]
  have q4 : s4 0 0 7 = V 51 23 := by rw [f2.np, w51]
  have e3 : t_tr tbl mtb (t_run tbl mtb (d + 8)) 106 (N + 1 + nP V + 1 + ((V 54 g.toNat).toNat - t)) 135 [some (vh 0 0), some (vi g), none, some (vh 38 g.toNat), some (vi (t : Int)), none] [] s2' = _ := e3 _
  have e4 : t_tr tbl mtb (t_run tbl mtb (d + 8)) 106 (N + 1 + nP V) 163 [some (vh 0 0), some (vi g), none, none, some (vi 0), some (vi 0)] [] s4 = _ := e4 _
  rw [run_go (k := 106) (as := [vh 0 0, vi g, vi t]) mt_106 (Nat.ne_of_beq_eq_false rfl) rfl (s_kX11_again_0 _ g t σ), ci_of (c_isGame (d := d + 7) h g)]
  simp only [bi_0, decide_eq_false_iff_not]
  rw [if_neg (by omega), ci_of (c_isTurn (d := d + 7) (t : Int))]
  simp only [bi_0, decide_eq_false_iff_not]
  rw [if_neg (by omega), if_pos rg, e2g, if_pos ht, nx_inl, hN, e1, tr_step (s_kX11_again_38 _ g t g.toNat (nP V : Int) s1'), q1, if_neg (by omega), nx_inl, e2, tr_step (s_kX11_again_81 _ g t g.toNat (nH V : Int) s2'), q2, if_neg (by omega), nx_inl, e3, et, tr_step (s_kX11_again_135 _ g g.toNat (V 54 g.toNat) s4), q3, if_neg (by omega), nx_inl, e4, tr_step (s_kX11_again_163 _ g (fS (aEl V (aW V g t)) (nP V)) (nP V : Int) s4), q4, if_neg (by omega)]
  rfl
end
