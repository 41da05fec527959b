-- holder(), piece(): both sides
section
variable {σ : TM} {V : TVw} {d : Nat}
/-- a number read in a row with one more -/
theorem vu_at {k j : Nat} {v : Int} (z : Nat) : vu V k j v k z = if z = j then v else V k z := by
  rw [vu_r]
  by_cases e : z = j
  · rw [if_pos ⟨rfl, e⟩, if_pos e]
  · rw [if_neg (fun q => e q.2), if_neg e]
def hoV (V : TVw) (g n : Int) : TVw := vu (vu (vu (vu (vu (vu V 59 (nH V) g) 60 (nH V) n) 61 (nH V) n) 62 (nH V) (-1)) 63 (nH V) (-1)) 51 15 (V 51 15 + 1)
set_option maxHeartbeats 4000000 in
theorem two_holder (hW : WW σ V) (g n : Int) : Two (d + 100) 56 150 [vi g, vi n] σ := by
  have h := hW.1
  have hI := h.inv
  have h0 := hI.cnt
  by_cases hg : (0 ≤ g ∧ g < V 51 8) ∧ 0 ≤ n ∧ n ≤ 9999
  · obtain ⟨hg, hn⟩ := hg
    have rg : 0 ≤ g ∧ g < 3 := by omega
    have e38 : σ 38 g.toNat 2 = V 54 g.toNat := (h 1 g.toNat (by omega)).1
    by_cases ht : 0 < V 54 g.toNat
    · refine two_ask (r := vi (-4)) hW ⟨σ, Sc.rf, ?_⟩ (fun s hV => ⟨s, Sc.rf, ?_⟩)
      · rw [run_go (k := 56) (as := [vh 0 0, vi g, vi n]) mt_56 (Nat.ne_of_beq_eq_false rfl) rfl (s_kX11_holder_0 _ g n σ), ci_of (c_isGame (d := d + 98) h g)]
        simp only [bi_0, decide_eq_false_iff_not]
        rw [if_neg (by omega), if_neg (by omega), if_neg (by omega), if_pos rg, e38, if_pos ht]
        rfl
      · rw [run_go (k := 150) (as := [vh 51 0, vi g, vi n]) mt_150 (Nat.ne_of_beq_eq_false rfl) rfl (s_kX12_holder_0 _ g n s), ci_of (r_isGame (d := d + 98) hV g), ci_of (r_within (d := d + 98) n 0 9999)]
        simp only [bi_0, decide_eq_false_iff_not]
        rw [if_neg (by omega), if_neg (by omega), if_pos rg, hV 54 _ rfl rfl rfl, if_pos ht]
        rfl
    · by_cases hf : V 51 15 < 12
      · have en : (nH V : Int) = V 51 15 := by omega
        have rn : 0 ≤ V 51 15 ∧ V 51 15 < 12 := by omega
        have e5115 : hoV V g n 51 15 = V 51 15 + 1 := vu_same
        have e51 : ∀ j, j ≠ 15 → hoV V g n 51 j = V 51 j := fun j hj => by
          unfold hoV
          rw [vu_j hj, vu_k (by decide), vu_k (by decide), vu_k (by decide), vu_k (by decide), vu_k (by decide)]
        have enH : nH (hoV V g n) = nH V + 1 := by
          unfold nH
          rw [e5115]
          omega
        have e59 : ∀ z, hoV V g n 59 z = if z = nH V then g else V 59 z := fun z => by
          unfold hoV
          rw [vu_k (by decide), vu_k (by decide), vu_k (by decide), vu_k (by decide), vu_k (by decide), vu_at]
        have e60 : ∀ z, hoV V g n 60 z = if z = nH V then n else V 60 z := fun z => by
          unfold hoV
          rw [vu_k (by decide), vu_k (by decide), vu_k (by decide), vu_k (by decide), vu_at, vu_k (by decide)]
        have e61 : ∀ z, hoV V g n 61 z = if z = nH V then n else V 61 z := fun z => by
          unfold hoV
          rw [vu_k (by decide), vu_k (by decide), vu_k (by decide), vu_at, vu_k (by decide), vu_k (by decide)]
        have e62 : ∀ z, hoV V g n 62 z = if z = nH V then -1 else V 62 z := fun z => by
          unfold hoV
          rw [vu_k (by decide), vu_k (by decide), vu_at, vu_k (by decide), vu_k (by decide), vu_k (by decide)]
        have e63 : ∀ z, hoV V g n 63 z = if z = nH V then -1 else V 63 z := fun z => by
          unfold hoV
          rw [vu_k (by decide), vu_at, vu_k (by decide), vu_k (by decide), vu_k (by decide), vu_k (by decide)]
        have eo : ∀ a b, a ≠ 51 → a ≠ 59 → a ≠ 60 → a ≠ 61 → a ≠ 62 → a ≠ 63 → hoV V g n a b = V a b := fun a b h1 h2 h3 h4 h5 h6 => by
          unfold hoV
          rw [vu_k h1, vu_k h6, vu_k h5, vu_k h4, vu_k h3, vu_k h2]
        have egm : ∀ p, p < nP V → fgm (hoV V g n) p = fgm V p := fun p hp => by
          obtain ⟨i1, i2, -⟩ := hI 3 p hp
          show hoV V g n 59 (V 65 p).toNat = V 59 (V 65 p).toNat
          rw [e59, if_neg (by omega)]
        have uV : Uv [41, 42, 1004, 59, 60, 61, 62, 63, 7543] V (hoV V g n) := Uv.up (Uv.up (Uv.up (Uv.up (Uv.up (Uv.up Uv.rf rfl) rfl) rfl) rfl) rfl) rfl
        have uS : Uc [41, 42, 1004, 59, 60, 61, 62, 63, 7543] σ (t_upd (t_upd (t_upd (t_upd σ 41 (nH V) 0 g) 41 (nH V) 1 n) 42 (nH V) 0 n) 0 0 4 (V 51 15 + 1)) := Uc.up (Uc.up (Uc.up (Uc.up Uc.rf rfl) rfl) rfl) rfl
        have hI2 : Inv (hoV V g n) := Inv.k uV hI (fun i hi hd => by
          rcases (by decide : ∀ i, i < 16 → djT [41, 42, 1004, 59, 60, 61, 62, 63, 7543] (idep i) = false → i = 0 ∨ i = 1 ∨ i = 2 ∨ i = 3 ∨ i = 4 ∨ i = 6 ∨ i = 10 ∨ i = 11 ∨ i = 13) i hi hd with rfl | rfl | rfl | rfl | rfl | rfl | rfl | rfl | rfl
          · obtain ⟨q1, q2, q3, q4, q5, q6, q7⟩ := hI 0
            refine ⟨q1, q2, q3, q4, ?_, ?_, q7⟩
            · rw [e5115]; omega
            · rw [e5115]; omega
          · intro z hz
            obtain ⟨q1, q2, q3, q4⟩ := hI 1 z hz
            rw [e5115]
            refine ⟨q1, q2, q3, fun w => ?_⟩
            obtain ⟨w1, w2, w3, w4⟩ := q4 w
            refine ⟨w1, w2, w3, ?_⟩
            show V 56 z < V 51 15 + 1
            omega
          · intro z hz
            rw [enH] at hz
            rw [e59, e62, e63, e5115, e51 8 (by decide)]
            by_cases e : z = nH V
            · rw [if_pos e, if_pos e, if_pos e]
              exact ⟨hg.1, hg.2, by decide, by decide, .inl rfl⟩
            · rw [if_neg e, if_neg e, if_neg e]
              obtain ⟨w1, w2, w3, w4, w5⟩ := hI 2 z (by omega)
              refine ⟨w1, w2, w3, w4, ?_⟩
              rcases w5 with w5 | ⟨w5, w6, w7⟩
              · exact .inl w5
              · refine .inr ⟨w5, by omega, ?_⟩
                rw [e59, if_neg (by omega)]
                exact w7
          · intro p hp
            obtain ⟨w1, w2, w3⟩ := hI 3 p hp
            rw [e5115]
            refine ⟨w1, ?_, w3⟩
            show V 65 p < V 51 15 + 1
            omega
          · intro z hz u hu w1 w2
            rw [enH] at hz
            rw [e62] at w1 w2
            have hu : (u : Int) < V 54 (hoV V g n 59 z).toNat := hu
            rw [e59] at hu
            by_cases e : z = nH V
            · rw [if_pos e] at w1
              omega
            · rw [if_neg e] at w1 w2 hu
              exact hI 4 z (by omega) u hu w1 w2
          · intro z hz
            rw [enH] at hz
            rw [e60, e61]
            by_cases e : z = nH V
            · rw [if_pos e, if_pos e]
              refine ⟨⟨by omega, by omega⟩, ⟨by omega, by omega⟩, fun u hu => ?_⟩
              have hu : (u : Int) < V 54 (hoV V g n 59 z).toNat := hu
              rw [e59, if_pos e] at hu
              omega
            · rw [if_neg e, if_neg e]
              obtain ⟨w1, w2, w3⟩ := hI 6 z (by omega)
              refine ⟨w1, w2, fun u hu => w3 u ?_⟩
              have hu : (u : Int) < V 54 (hoV V g n 59 z).toNat := hu
              rw [e59, if_neg e] at hu
              exact hu
          · intro c hc
            obtain ⟨w1, w2, w3, w4, w5⟩ := hI 10 c hc
            rw [e5115, e62, e63]
            refine ⟨w1, ?_, w3, ?_, ?_⟩
            · show V 81 c < V 51 15 + 1
              omega
            · show V 82 c < V 51 15 + 1
              omega
            · rw [if_neg (show ¬ (hoV V g n 82 c).toNat = nH V from fun q => by
                have q : (V 82 c).toNat = nH V := q
                omega), if_neg (show ¬ (hoV V g n 82 c).toNat = nH V from fun q => by
                have q : (V 82 c).toNat = nH V := q
                omega)]
              exact w5
          · intro o ho
            obtain ⟨w1, w2, w3, w4, w5, w6⟩ := hI 11 o ho
            refine ⟨w1, w2, w3, w4, w5, fun q => ?_⟩
            obtain ⟨v1, v2, v3, v4, v5, v6, v7⟩ := w6 q
            refine ⟨v1, v2, v3, v4, v5, v6, fun q2 => ?_⟩
            obtain ⟨u1, u2, u3, u4⟩ := v7 q2
            refine ⟨u1, u2, u3, ?_⟩
            have y1 : (V 91 o).toNat < nP V := by
              have : V 91 o < V 51 23 := u2
              have : 0 ≤ V 91 o := u1
              omega
            have y2 : (V 89 o).toNat < nP V := by
              have : V 89 o < V 51 23 := v2
              have : 0 ≤ V 89 o := v1
              omega
            exact (egm _ y1).trans (u4.trans (egm _ y2).symm)
          · obtain ⟨w1, w2, w3, w4, w5⟩ := hI 13
            refine ⟨w1, w2, w3, w4, fun s hs => ?_⟩
            obtain ⟨v1, v2, v3, v4, v5, v6, v7⟩ := w5 s hs
            refine ⟨v1, v2, v3, v4, v5, v6, fun w hw => ?_⟩
            obtain ⟨u1, u2, u3, u4⟩ := v7 w hw
            refine ⟨u1, u2, u3, fun q2 => ?_⟩
            obtain ⟨t1, t2, t3, t4⟩ := u4 q2
            refine ⟨t1, t2, t3, ?_⟩
            have y1 : (V 108 (4 * s + w)).toNat < nP V := by
              have : V 108 (4 * s + w) < V 51 23 := t2
              have : 0 ≤ V 108 (4 * s + w) := t1
              omega
            have y2 : (V 106 s).toNat < nP V := by
              have : V 106 s < V 51 23 := v2
              have : 0 ≤ V 106 s := v1
              omega
            exact (egm _ y1).trans (t4.trans (egm _ y2).symm))
        have M41 : ∀ z j, t_upd (t_upd (t_upd (t_upd σ 41 (nH V) 0 g) 41 (nH V) 1 n) 42 (nH V) 0 n) 0 0 4 (V 51 15 + 1) 41 z j = if z = nH V ∧ j = 0 then g else if z = nH V ∧ j = 1 then n else σ 41 z j := fun z j => by
          rw [up_k (show (41 : Nat) ≠ 0 by decide), up_k (show (41 : Nat) ≠ 42 by decide), t_upd_eq]
          by_cases e1 : z = nH V ∧ j = 1
          · rw [if_pos ⟨rfl, e1⟩, if_neg (by omega), if_pos e1]
          · rw [if_neg (fun q => e1 q.2), if_neg e1, t_upd_eq]
            by_cases e0 : z = nH V ∧ j = 0
            · rw [if_pos ⟨rfl, e0⟩, if_pos e0]
            · rw [if_neg (fun q => e0 q.2), if_neg e0]
        refine two_of (r := vi (V 51 15)) (V' := hoV V g n) hW ⟨t_upd (t_upd (t_upd (t_upd σ 41 (nH V) 0 g) 41 (nH V) 1 n) 42 (nH V) 0 n) 0 0 4 (V 51 15 + 1), (((FC.rf.up rfl).up rfl).up rfl).up rfl, CR.k uS uV h hI2 (fun i hi hd => ?_), ?_, ?_⟩ (fun s hV => ⟨_, (((((FR.rf.up rfl).up rfl).up rfl).up rfl).up rfl).up rfl, hV.up.up.up.up.up.up, ?_⟩)
        · rcases (by decide : ∀ i, i < 16 → djT [41, 42, 1004, 59, 60, 61, 62, 63, 7543] (cdep i) = false → i = 0 ∨ i = 3 ∨ i = 4 ∨ i = 5 ∨ i = 7) i hi hd with rfl | rfl | rfl | rfl | rfl
          · obtain ⟨q1, q2, q3, q4, q5, q6, q7, q8⟩ := h 0
            have f : ∀ j, j ≠ 4 → t_upd (t_upd (t_upd (t_upd σ 41 (nH V) 0 g) 41 (nH V) 1 n) 42 (nH V) 0 n) 0 0 4 (V 51 15 + 1) 0 0 j = σ 0 0 j := fun j hj => by rw [up_j hj, up_k (show (0 : Nat) ≠ 42 by decide), up_k (show (0 : Nat) ≠ 41 by decide), up_k (show (0 : Nat) ≠ 41 by decide)]
            refine ⟨?_, ?_, ?_, ?_, ?_, ?_, ?_, ?_⟩
            · rw [f 0 (by decide)]; exact q1
            · rw [f 2 (by decide)]; exact q2
            · rw [up_same]; exact e5115.symm
            · rw [f 7 (by decide)]; exact q4
            · rw [f 9 (by decide)]; exact q5
            · rw [f 11 (by decide)]; exact q6
            · rw [f 13 (by decide)]; exact q7
            · rw [up_k (show (23 : Nat) ≠ 0 by decide), up_k (show (23 : Nat) ≠ 42 by decide), up_k (show (23 : Nat) ≠ 41 by decide), up_k (show (23 : Nat) ≠ 41 by decide)]; exact q8
          · intro z hz
            obtain ⟨q1, q2, q3⟩ := h 3 z hz
            rw [M41, M41, M41, M41, M41, enH, e59, e60, e62, e63]
            rw [if_neg (show ¬ (z = nH V ∧ (4 : Nat) = 0) by omega), if_neg (show ¬ (z = nH V ∧ (4 : Nat) = 1) by omega), if_neg (show ¬ (z = nH V ∧ (2 : Nat) = 0) by omega), if_neg (show ¬ (z = nH V ∧ (2 : Nat) = 1) by omega), if_neg (show ¬ (z = nH V ∧ (3 : Nat) = 0) by omega), if_neg (show ¬ (z = nH V ∧ (3 : Nat) = 1) by omega), if_neg (show ¬ (z = nH V ∧ (1 : Nat) = 0) by omega)]
            refine ⟨q1, fun w => ?_, fun w => q3 (by show nH V ≤ z; omega)⟩
            by_cases e : z = nH V
            · rw [if_pos (show z = nH V ∧ (0 : Nat) = 0 from ⟨e, rfl⟩), if_pos (show z = nH V ∧ (1 : Nat) = 1 from ⟨e, rfl⟩), if_pos e, if_pos e, if_pos e, if_pos e]
              obtain ⟨w1, w2⟩ := q3 (by show nH V ≤ z; omega)
              exact ⟨rfl, rfl, w1, w2⟩
            · rw [if_neg (show ¬ (z = nH V ∧ (0 : Nat) = 0) from fun q => e q.1), if_neg (show ¬ (z = nH V ∧ (0 : Nat) = 1) from fun q => e q.1), if_neg (show ¬ (z = nH V ∧ (1 : Nat) = 1) from fun q => e q.1), if_neg e, if_neg e, if_neg e, if_neg e]
              exact q2 (by show z < nH V; omega)
          · intro z hz
            rw [enH] at hz
            rw [e61, e59]
            have m42 : ∀ j, t_upd (t_upd (t_upd (t_upd σ 41 (nH V) 0 g) 41 (nH V) 1 n) 42 (nH V) 0 n) 0 0 4 (V 51 15 + 1) 42 z j = if z = nH V ∧ j = 0 then n else σ 42 z j := fun j => by
              rw [up_k (show (42 : Nat) ≠ 0 by decide), t_upd_eq]
              by_cases e : z = nH V ∧ j = 0
              · rw [if_pos ⟨rfl, e⟩, if_pos e]
              · rw [if_neg (fun q => e q.2), if_neg e, up_k (show (42 : Nat) ≠ 41 by decide), up_k (show (42 : Nat) ≠ 41 by decide)]
            rw [m42]
            by_cases e : z = nH V
            · rw [if_pos ⟨e, rfl⟩, if_pos e, if_pos e]
              refine ⟨rfl, fun u hu => ?_⟩
              have hu : (u : Int) < V 54 g.toNat := hu
              omega
            · rw [if_neg (fun q => e q.1), if_neg e, if_neg e]
              obtain ⟨q1, q2⟩ := h 4 z (by show z < nH V; omega)
              refine ⟨q1, fun u hu => ?_⟩
              rw [m42, if_neg (fun q => e q.1), up_k (show (43 : Nat) ≠ 0 by decide), up_k (show (43 : Nat) ≠ 42 by decide), up_k (show (43 : Nat) ≠ 41 by decide), up_k (show (43 : Nat) ≠ 41 by decide)]
              exact q2 u hu
          · intro p hp
            have hp : p < nP V := hp
            obtain ⟨k0, k1⟩ := h 5 p hp
            rw [egm p hp]
            have f : ∀ j, t_upd (t_upd (t_upd (t_upd σ 41 (nH V) 0 g) 41 (nH V) 1 n) 42 (nH V) 0 n) 0 0 4 (V 51 15 + 1) 17 p j = σ 17 p j := fun j => by rw [up_k (show (17 : Nat) ≠ 0 by decide), up_k (show (17 : Nat) ≠ 42 by decide), up_k (show (17 : Nat) ≠ 41 by decide), up_k (show (17 : Nat) ≠ 41 by decide)]
            simp only [f]
            exact ⟨k0, k1⟩
          · intro p hp
            obtain ⟨k0, k1⟩ := h 7 p hp
            have f18 : ∀ j, t_upd (t_upd (t_upd (t_upd σ 41 (nH V) 0 g) 41 (nH V) 1 n) 42 (nH V) 0 n) 0 0 4 (V 51 15 + 1) 18 p j = σ 18 p j := fun j => by rw [up_k (show (18 : Nat) ≠ 0 by decide), up_k (show (18 : Nat) ≠ 42 by decide), up_k (show (18 : Nat) ≠ 41 by decide), up_k (show (18 : Nat) ≠ 41 by decide)]
            have f19 : ∀ j, t_upd (t_upd (t_upd (t_upd σ 41 (nH V) 0 g) 41 (nH V) 1 n) 42 (nH V) 0 n) 0 0 4 (V 51 15 + 1) 19 p j = σ 19 p j := fun j => by rw [up_k (show (19 : Nat) ≠ 0 by decide), up_k (show (19 : Nat) ≠ 42 by decide), up_k (show (19 : Nat) ≠ 41 by decide), up_k (show (19 : Nat) ≠ 41 by decide)]
            simp only [f18, f19]
            refine ⟨k0, fun hpn => ?_⟩
            have hpn : p < nP V := hpn
            rw [egm p hpn]
            exact k1 hpn
        · intro g2 g0 g1
          have e18 : ∀ p j, t_upd (t_upd (t_upd (t_upd σ 41 (nH V) 0 g) 41 (nH V) 1 n) 42 (nH V) 0 n) 0 0 4 (V 51 15 + 1) 18 p j = σ 18 p j := fun p j => by rw [up_k (show (18 : Nat) ≠ 0 by decide), up_k (show (18 : Nat) ≠ 42 by decide), up_k (show (18 : Nat) ≠ 41 by decide), up_k (show (18 : Nat) ≠ 41 by decide)]
          obtain ⟨k1, k2⟩ := hW.2.2 g2 g0 g1
          exact ⟨k1.cong rfl egm (fun p _ _ => ⟨rfl, rfl, rfl, fun u _ => rfl⟩), k2.cong rfl egm (fun p _ _ => ⟨rfl, fun u _ => rfl⟩) (fun p _ _ j _ => e18 p j)⟩
        · have e1 : ∀ a b c, t_upd (t_upd (t_upd σ 41 (V 51 15).toNat 0 a) 41 (V 51 15).toNat 1 b) 42 (V 51 15).toNat 0 c 0 0 4 = V 51 15 := fun a b c => by
            rw [up_k (show (0 : Nat) ≠ 42 by decide), up_k (show (0 : Nat) ≠ 41 by decide), up_k (show (0 : Nat) ≠ 41 by decide)]
            exact h.nh
          rw [run_go (k := 56) (as := [vh 0 0, vi g, vi n]) mt_56 (Nat.ne_of_beq_eq_false rfl) rfl (s_kX11_holder_0 _ g n σ), ci_of (c_isGame (d := d + 98) h g)]
          simp only [bi_0, decide_eq_false_iff_not, h.nh, e38, e1, up_same, if_pos rg, if_neg ht, if_pos rn, if_pos hf]
          rw [if_neg (by omega), if_neg (by omega), if_neg (by omega), w32_id (x := V 51 15 + 1) (by omega) (by omega), w32_id (x := V 51 15 + 1 - 1) (by omega) (by omega), Int.add_sub_cancel]
          rfl
        · have q15 := hV 51 15 rfl rfl rfl
          have q54 := hV 54 g.toNat rfl rfl rfl
          have e1 : ∀ a, t_upd s 59 0 (V 51 15).toNat a 51 0 15 = V 51 15 := fun a => by rw [up_k (show (51 : Nat) ≠ 59 by decide)]; exact q15
          have e2 : ∀ a b, t_upd (t_upd s 59 0 (V 51 15).toNat a) 60 0 (V 51 15).toNat b 51 0 15 = V 51 15 := fun a b => by rw [up_k (show (51 : Nat) ≠ 60 by decide)]; exact e1 a
          have e3 : ∀ a b c, t_upd (t_upd (t_upd s 59 0 (V 51 15).toNat a) 60 0 (V 51 15).toNat b) 61 0 (V 51 15).toNat c 51 0 15 = V 51 15 := fun a b c => by rw [up_k (show (51 : Nat) ≠ 61 by decide)]; exact e2 a b
          have e4 : ∀ a b c d, t_upd (t_upd (t_upd (t_upd s 59 0 (V 51 15).toNat a) 60 0 (V 51 15).toNat b) 61 0 (V 51 15).toNat c) 62 0 (V 51 15).toNat d 51 0 15 = V 51 15 := fun a b c d => by rw [up_k (show (51 : Nat) ≠ 62 by decide)]; exact e3 a b c
          have e5 : ∀ a b c d e, t_upd (t_upd (t_upd (t_upd (t_upd s 59 0 (V 51 15).toNat a) 60 0 (V 51 15).toNat b) 61 0 (V 51 15).toNat c) 62 0 (V 51 15).toNat d) 63 0 (V 51 15).toNat e 51 0 15 = V 51 15 := fun a b c d e => by rw [up_k (show (51 : Nat) ≠ 63 by decide)]; exact e4 a b c d
          rw [run_go (k := 150) (as := [vh 51 0, vi g, vi n]) mt_150 (Nat.ne_of_beq_eq_false rfl) rfl (s_kX12_holder_0 _ g n s), ci_of (r_isGame (d := d + 98) hV g), ci_of (r_within (d := d + 98) n 0 9999)]
          simp only [bi_0, decide_eq_false_iff_not, q15, q54, e1, e2, e3, e4, e5, up_same, if_pos rg, if_neg ht, if_pos rn]
          rw [if_neg (by omega), if_neg (by omega), if_neg (by omega), w32_id (x := V 51 15 + 1) (by omega) (by omega), w32_id (x := V 51 15 + 1 - 1) (by omega) (by omega), Int.add_sub_cancel]
          rfl
      · refine two_ask (r := vi (-3)) hW ⟨σ, Sc.rf, ?_⟩ (fun s hV => ⟨s, Sc.rf, ?_⟩)
        · rw [run_go (k := 56) (as := [vh 0 0, vi g, vi n]) mt_56 (Nat.ne_of_beq_eq_false rfl) rfl (s_kX11_holder_0 _ g n σ), ci_of (c_isGame (d := d + 98) h g)]
          simp only [bi_0, decide_eq_false_iff_not]
          rw [if_neg (by omega), if_neg (by omega), if_neg (by omega), if_pos rg, e38, if_neg ht, h.nh, if_neg hf]
          rfl
        · rw [run_go (k := 150) (as := [vh 51 0, vi g, vi n]) mt_150 (Nat.ne_of_beq_eq_false rfl) rfl (s_kX12_holder_0 _ g n s), ci_of (r_isGame (d := d + 98) hV g), ci_of (r_within (d := d + 98) n 0 9999)]
          simp only [bi_0, decide_eq_false_iff_not]
          rw [if_neg (by omega), if_neg (by omega), if_pos rg, hV 54 _ rfl rfl rfl, if_neg ht, hV 51 15 rfl rfl rfl, if_pos (by omega)]
          rfl
  · refine two_ask (r := vi (-1)) hW ⟨σ, Sc.rf, ?_⟩ (fun s hV => ⟨s, Sc.rf, ?_⟩)
    · rw [run_go (k := 56) (as := [vh 0 0, vi g, vi n]) mt_56 (Nat.ne_of_beq_eq_false rfl) rfl (s_kX11_holder_0 _ g n σ), ci_of (c_isGame (d := d + 98) h g)]
      simp only [bi_0, decide_eq_false_iff_not]
      by_cases y1 : 0 ≤ g ∧ g < V 51 8
      · rw [if_neg (by omega)]
        by_cases y2 : n < 0
        · rw [if_pos y2]
          rfl
        · rw [if_neg y2, if_pos (by omega)]
          rfl
      · rw [if_pos y1]
        rfl
    · rw [run_go (k := 150) (as := [vh 51 0, vi g, vi n]) mt_150 (Nat.ne_of_beq_eq_false rfl) rfl (s_kX12_holder_0 _ g n s), ci_of (r_isGame (d := d + 98) hV g), ci_of (r_within (d := d + 98) n 0 9999)]
      simp only [bi_0, decide_eq_false_iff_not]
      by_cases y1 : 0 ≤ g ∧ g < V 51 8
      · rw [if_neg (by omega), if_pos (by omega)]
        rfl
      · rw [if_pos y1]
        rfl
end
