-- turn(): both sides
section
variable {σ : TM} {V : TVw} {d : Nat}
/-- whether a kind can be told of the latest order -/
def tuG (V : TVw) (k a b : Int) : Bool := fkt k a b && !decide (k = 4 ∧ a = V 51 49 - 1)
def tuK (V : TVw) (o : Nat) (k : Int) : Int := if k = 3 ∧ V 81 (V 88 o).toNat ≠ V 82 (V 88 o).toNat then 5 else k
def tuV (V : TVw) (o : Nat) (k a b : Int) : TVw := vu (vu (vu V 87 o (tuK V o k)) 92 o a) 93 o (if k = 2 then b else -1)
theorem r_turn0 (hV : RV σ V) (hI : Inv V) (k a b : Int) (K : Option (Option TV × TM)) : t_run tbl mtb (d + 100) 195 [vh 51 0, vi k, vi a, vi b] σ = K ↔ t_out (t_tr tbl mtb (t_run tbl mtb (d + 99)) 195 999999 76 [some (vh 51 0), some (vi k), some (vi a), some (vi b), some (vi (bi (tuG V k a b))), none, none] [] σ) = K := by
  have h0 := hI.cnt
  have ew : w32 (V 51 49 - 1) = V 51 49 - 1 := w32_id (by omega) (by omega)
  have eG : tuG V k a b = decide ((k = 2 ∧ 0 ≤ a ∧ a < 48 ∧ (b = 0 ∨ b = 1) ∨ k = 3 ∧ 0 ≤ a ∧ a < 30 ∨ k = 4 ∧ 0 ≤ a ∧ a < 300) ∧ ¬ (k = 4 ∧ a = V 51 49 - 1)) := by
    unfold tuG fkt
    rw [← decide_not, ← Bool.decide_and]
  rw [eG, run_go (k := 195) (as := [vh 51 0, vi k, vi a, vi b]) mt_195 (Nat.ne_of_beq_eq_false rfl) rfl (s_kX12_turn_0 _ k a b σ)]
  by_cases k2 : k = 2
  · rw [if_pos k2, ci_of (r_isCell (d := d + 97) a)]
    simp only [bi_0, decide_eq_false_iff_not]
    by_cases y1 : 0 ≤ a ∧ a < 48
    · rw [if_neg (by omega), ci_of (r_within (d := d + 98) b 0 1)]
      simp only [bi_0, decide_eq_false_iff_not]
      by_cases y2 : 0 ≤ b ∧ b ≤ 1
      · rw [if_neg (by omega), decide_eq_true (by omega)]
        rfl
      · rw [if_pos y2, decide_eq_false (by omega)]
        rfl
    · rw [if_pos y1, decide_eq_false (by omega)]
      rfl
  · rw [if_neg k2]
    by_cases k3 : k = 3
    · rw [if_pos k3, ci_of (r_isTurn (d := d + 97) a)]
      rw [show decide ((k = 2 ∧ 0 ≤ a ∧ a < 48 ∧ (b = 0 ∨ b = 1) ∨ k = 3 ∧ 0 ≤ a ∧ a < 30 ∨ k = 4 ∧ 0 ≤ a ∧ a < 300) ∧ ¬ (k = 4 ∧ a = V 51 49 - 1)) = decide (0 ≤ a ∧ a < 30) from decide_eq_decide.mpr (by omega)]
      rfl
    · rw [if_neg k3]
      by_cases k4 : k = 4
      · rw [if_pos k4, ci_of (r_within (d := d + 98) a 0 299), hV 51 49 rfl rfl rfl, ew]
        simp only [bi_0, decide_eq_false_iff_not]
        by_cases y1 : 0 ≤ a ∧ a ≤ 299
        · rw [if_neg (by omega)]
          by_cases y2 : a = V 51 49 - 1
          · rw [if_pos y2, decide_eq_false (by omega)]
            rfl
          · rw [if_neg y2, decide_eq_true (by omega)]
            rfl
        · rw [if_pos y1, decide_eq_false (by omega)]
          rfl
      · rw [if_neg k4, decide_eq_false (by omega)]
        rfl
theorem fkt_c {k a b : Int} (h : fkt k a b = true) : k = 2 ∧ 0 ≤ a ∧ a < 48 ∧ (b = 0 ∨ b = 1) ∨ k = 3 ∧ 0 ≤ a ∧ a < 30 ∨ k = 4 ∧ 0 ≤ a ∧ a < 300 := by
  unfold fkt at h
  rw [decide_eq_true_eq] at h
  exact h
theorem tuK_all {k a b : Int} {x y : Int} (h : fkt k a b = true) : (2 ≤ (if k = 3 ∧ x ≠ y then 5 else k) ∧ (if k = 3 ∧ x ≠ y then 5 else k) ≤ 5) ∧ ((if k = 3 ∧ x ≠ y then 5 else k) = 2 → 0 ≤ a ∧ a < 48 ∧ ((if k = 2 then b else -1) = 0 ∨ (if k = 2 then b else -1) = 1)) ∧ ((if k = 3 ∧ x ≠ y then 5 else k) = 3 ∨ (if k = 3 ∧ x ≠ y then 5 else k) = 5 → 0 ≤ a ∧ a < 30) ∧ ((if k = 3 ∧ x ≠ y then 5 else k) = 4 → 0 ≤ a ∧ a < 300) ∧ ((if k = 3 ∧ x ≠ y then 5 else k) = 3 → x = y) ∧ ((if k = 3 ∧ x ≠ y then 5 else k) = 5 → x ≠ y) := by
  rcases fkt_c h with ⟨rfl, h1, h2, h3⟩ | ⟨rfl, h1, h2⟩ | ⟨rfl, h1, h2⟩
  · rw [if_neg (show ¬ ((2 : Int) = 3 ∧ x ≠ y) by omega), if_pos rfl]
    exact ⟨by decide, fun _ => ⟨h1, h2, h3⟩, fun q => by omega, fun q => by omega, fun q => by omega, fun q => by omega⟩
  · by_cases e : x = y
    · rw [if_neg (show ¬ ((3 : Int) = 3 ∧ x ≠ y) from fun q => q.2 e)]
      exact ⟨by decide, fun q => by omega, fun _ => ⟨h1, h2⟩, fun q => by omega, fun _ => e, fun q => by omega⟩
    · rw [if_pos (show ((3 : Int) = 3 ∧ x ≠ y) from ⟨rfl, e⟩)]
      exact ⟨by decide, fun q => by omega, fun _ => ⟨h1, h2⟩, fun q => by omega, fun q => by omega, fun _ => e⟩
  · rw [if_neg (show ¬ ((4 : Int) = 3 ∧ x ≠ y) by omega)]
    exact ⟨by decide, fun q => by omega, fun q => by omega, fun _ => ⟨h1, h2⟩, fun q => by omega, fun q => by omega⟩
set_option maxHeartbeats 1000000 in
theorem two_turn (hW : WW σ V) (k a b : Int) : Two (d + 100) 92 195 [vi k, vi a, vi b] σ := by
  have h := hW.1
  have hI := h.inv
  have h0 := hI.cnt
  have ew : w32 (V 51 49 - 1) = V 51 49 - 1 := w32_id (by omega) (by omega)
  have ck := c_isKindTold (σ := σ) (d := d + 97) k a b
  by_cases hG : tuG V k a b = true
  · have hG2 := hG
    unfold tuG at hG2
    rw [Bool.and_eq_true, Bool.not_eq_true', decide_eq_false_iff_not] at hG2
    obtain ⟨f1, f2⟩ := hG2
    -- the class past its first tests
    have ci : t_run tbl mtb (d + 100) 92 [vh 0 0, vi k, vi a, vi b] σ = _ := run_go (k := 92) (as := [vh 0 0, vi k, vi a, vi b]) mt_92 (Nat.ne_of_beq_eq_false rfl) rfl (s_kX11_turn_0 _ k a b σ)
    rw [ci_of ck, f1] at ci
    simp only [bi_0, h.no, ew, if_neg (show ¬ (true = false) by decide)] at ci
    by_cases hn : V 51 49 = 0
    · refine two_ask (r := vi (-4)) hW ⟨σ, Sc.rf, ?_⟩ (fun s hV => ⟨s, Sc.rf, (r_turn0 hV hI k a b _).mpr ?_⟩)
      · rw [ci]
        by_cases k4 : k = 4
        · rw [if_pos k4, if_neg (fun q => f2 ⟨k4, q⟩), if_pos (by omega)]
          rfl
        · rw [if_neg k4, if_pos (by omega)]
          rfl
      · rw [hG, show 999999 = 999998 + 1 from rfl, tr_step (s_kX12_turn_76 _ k a b (bi true) s), hV 51 49 rfl rfl rfl, if_neg (by decide), if_pos hn]
        rfl
    · obtain ⟨o, ho⟩ : ∃ o : Nat, V 51 49 = (o : Int) + 1 := ⟨(V 51 49).toNat - 1, by omega⟩
      have eo : V 51 49 - 1 = (o : Int) := by omega
      have hoN : o < nO V := by omega
      have r3 : 0 ≤ (o : Int) ∧ (o : Int) < 300 := by omega
      obtain ⟨i1, i2, -⟩ := hI 11 o hoN
      obtain ⟨c, hc⟩ : ∃ c : Nat, V 88 o = (c : Int) := ⟨(V 88 o).toNat, by omega⟩
      have rc : 0 ≤ (c : Int) ∧ (c : Int) < 150 := by omega
      have hcN : c < nC V := by omega
      obtain ⟨m0, m1, -⟩ := (h 11 o (by omega)).1 hoN
      rw [hc] at m0
      obtain ⟨n0, n1, n2, -⟩ := h 10 c hcN
      obtain ⟨-, -, -, -, -, j6, -⟩ := hI 10 c hcN
      rw [eo] at ci
      simp only [Int.toNat_natCast, m0, m1, n0, n1, n2, h.day, if_pos r3, if_pos rc, if_neg (show ¬ (o : Int) < 0 by omega)] at ci
      have ri : ∀ s, RV s V → ∀ K, t_run tbl mtb (d + 100) 195 [vh 51 0, vi k, vi a, vi b] s = K ↔ t_out (t_nx (t_run tbl mtb (d + 99)) 195 999998 (if V 87 o = 1 then (if V 83 c < V 51 0 then some (.inr (some (vi (-4)), s)) else some (.inl (153, [some (vh 51 0), some (vi k), some (vi a), some (vi b), none, some (vi (o : Int)), none], [], s))) else some (.inr (some (vi (-4)), s)))) = K := fun s hV K => by
        have q49 := hV 51 49 rfl rfl rfl
        have q0 := hV 51 0 rfl rfl rfl
        have q87 := hV 87 o rfl rfl rfl
        have q88 := (hV 88 o rfl rfl rfl).trans hc
        have q83 := hV 83 c rfl rfl rfl
        rw [r_turn0 hV hI, hG, show 999999 = 999998 + 1 from rfl, tr_step (s_kX12_turn_76 _ k a b (bi true) s)]
        simp only [q49, show w32 (V 51 49 - 1) = (o : Int) from ew.trans eo, Int.toNat_natCast, q87, q88, q83, q0, if_pos r3, if_pos rc, if_neg hn]
        rw [if_neg (show ¬ bi true = 0 by decide)]
      by_cases hs : V 87 o = 1 ∧ V 83 c = V 51 0
      · obtain ⟨s1', s2'⟩ := hs
        have e82 : (V 88 o).toNat = c := by rw [hc]; rfl
        have eK : tuK V o k = if k = 3 ∧ V 81 c ≠ V 82 c then 5 else k := by unfold tuK; rw [e82]
        have e87 : ∀ z, tuV V o k a b 87 z = if z = o then tuK V o k else V 87 z := fun z => by
          unfold tuV
          rw [vu_k (by decide), vu_k (by decide), vu_at]
        have e92 : ∀ z, tuV V o k a b 92 z = if z = o then a else V 92 z := fun z => by
          unfold tuV
          rw [vu_k (by decide), vu_at, vu_k (by decide)]
        have e93 : ∀ z, tuV V o k a b 93 z = if z = o then (if k = 2 then b else -1) else V 93 z := fun z => by
          unfold tuV
          rw [vu_at, vu_k (by decide), vu_k (by decide)]
        have uV : Uv [45, 87, 92, 93] V (tuV V o k a b) := Uv.up (Uv.up (Uv.up Uv.rf rfl) rfl) rfl
        have uS : Uc [45, 87, 92, 93] σ (t_upd (t_upd (t_upd σ 45 o 1 (tuK V o k)) 45 o 5 a) 45 o 6 (if k = 2 then b else -1)) := Uc.up (Uc.up (Uc.up Uc.rf rfl) rfl) rfl
        have TA := tuK_all (x := V 81 c) (y := V 82 c) f1
        rw [← eK] at TA
        obtain ⟨T6, T1, T2, T3, T4, T5⟩ := TA
        have hI2 : Inv (tuV V o k a b) := Inv.k uV hI (fun i hi hd => by
          rcases (by decide : ∀ i, i < 16 → djT [45, 87, 92, 93] (idep i) = false → i = 11 ∨ i = 12) i hi hd with rfl | rfl
          · intro z hz
            obtain ⟨w1, w2, w3, w4, w5, w6⟩ := hI 11 z hz
            rw [e87]
            by_cases e : z = o
            · subst e
              rw [if_pos rfl]
              have n6 : tuK V z k ≠ 6 := fun q => absurd (q ▸ T6.2) (by decide)
              exact ⟨w1, w2, Int.le_trans (by decide) T6.1, Int.le_trans T6.2 (by decide), fun q => absurd q n6, fun _ => w6 (by rw [s1']; decide)⟩
            · rw [if_neg e]
              exact ⟨w1, w2, w3, w4, w5, w6⟩
          · intro z hz
            have w := hI 12 z hz
            rw [e87, e92, e93]
            by_cases e : z = o
            · subst e
              rw [if_pos rfl, if_pos rfl, if_pos rfl]
              refine ⟨T1, T2, T3, fun q => ?_, fun q => ?_⟩
              · show V 81 (V 88 z).toNat = V 82 (V 88 z).toNat
                rw [e82]
                exact T4 q
              · show V 81 (V 88 z).toNat ≠ V 82 (V 88 z).toNat
                rw [e82]
                exact T5 q
            · rw [if_neg e, if_neg e, if_neg e]
              exact w)
        clear T1 T2 T3 T4 T5
        refine two_of (r := vi (tuK V o k)) (V' := tuV V o k a b) hW ⟨_, ((FC.rf.up rfl).up rfl).up rfl, CR.k uS uV h hI2 (fun i hi hd => ?_), KW.k uS uV hW.2.2 rfl, ?_⟩ (fun s hV => ⟨_, ((FR.rf.up rfl).up rfl).up rfl, hV.up.up.up, (ri s hV _).mpr ?_⟩)
        · rcases (by decide : ∀ i, i < 16 → djT [45, 87, 92, 93] (cdep i) = false → i = 11) i hi hd with rfl
          intro z hz
          obtain ⟨q1, q2⟩ := h 11 z hz
          have f : ∀ j, j ≠ 1 → j ≠ 5 → j ≠ 6 → t_upd (t_upd (t_upd σ 45 o 1 (tuK V o k)) 45 o 5 a) 45 o 6 (if k = 2 then b else -1) 45 z j = σ 45 z j := fun j h1 h2 h3 => by rw [up_j h3, up_j h2, up_j h1]
          have g1 : t_upd (t_upd (t_upd σ 45 o 1 (tuK V o k)) 45 o 5 a) 45 o 6 (if k = 2 then b else -1) 45 z 1 = if z = o then tuK V o k else σ 45 z 1 := by
            rw [up_j (show (1 : Nat) ≠ 6 by decide), up_j (show (1 : Nat) ≠ 5 by decide), t_upd_eq]
            by_cases e : z = o
            · rw [if_pos ⟨rfl, e, rfl⟩, if_pos e]
            · rw [if_neg (fun q => e q.2.1), if_neg e]
          have g5 : t_upd (t_upd (t_upd σ 45 o 1 (tuK V o k)) 45 o 5 a) 45 o 6 (if k = 2 then b else -1) 45 z 5 = if z = o then a else σ 45 z 5 := by
            rw [up_j (show (5 : Nat) ≠ 6 by decide), t_upd_eq]
            by_cases e : z = o
            · rw [if_pos ⟨rfl, e, rfl⟩, if_pos e]
            · rw [if_neg (fun q => e q.2.1), if_neg e, up_j (show (5 : Nat) ≠ 1 by decide)]
          have g6 : t_upd (t_upd (t_upd σ 45 o 1 (tuK V o k)) 45 o 5 a) 45 o 6 (if k = 2 then b else -1) 45 z 6 = if z = o then (if k = 2 then b else -1) else σ 45 z 6 := by
            rw [t_upd_eq]
            by_cases e : z = o
            · rw [if_pos ⟨rfl, e, rfl⟩, if_pos e]
            · rw [if_neg (fun q => e q.2.1), if_neg e, up_j (show (6 : Nat) ≠ 5 by decide), up_j (show (6 : Nat) ≠ 1 by decide)]
          rw [f 0 (by decide) (by decide) (by decide), f 2 (by decide) (by decide) (by decide), f 3 (by decide) (by decide) (by decide), f 4 (by decide) (by decide) (by decide), g1, g5, g6, e87, e92, e93]
          by_cases e : z = o
          · rw [if_pos e, if_pos e, if_pos e, if_pos e, if_pos e, if_pos e]
            refine ⟨fun w => ?_, fun w => ?_⟩
            · obtain ⟨w0, w1, w2, w3, w4, w5, w6⟩ := q1 w
              exact ⟨w0, rfl, w2, w3, w4, rfl, rfl⟩
            · have w : nO V ≤ z := w
              omega
          · rw [if_neg e, if_neg e, if_neg e, if_neg e, if_neg e, if_neg e]
            exact ⟨q1, q2⟩
        · rw [ci, s1', s2', eK]
          simp only [if_true]
          rcases fkt_c f1 with ⟨rfl, -⟩ | ⟨rfl, -⟩ | ⟨rfl, -⟩
          · rw [if_neg (by decide), if_neg (by decide), if_pos rfl, if_neg (by omega), if_pos rfl, up_j (show (1 : Nat) ≠ 6 by decide), up_j (show (1 : Nat) ≠ 5 by decide), up_same]
            rfl
          · by_cases y : V 81 c = V 82 c
            · rw [if_neg (show ¬ (3 : Int) = 4 by decide), if_pos (show (3 : Int) = 3 from rfl), if_pos y, if_neg (show ¬ (3 : Int) = 2 by decide), if_neg (show ¬ ((3 : Int) = 3 ∧ V 81 c ≠ V 82 c) from fun q => q.2 y), if_neg (show ¬ (3 : Int) = 2 by decide), up_j (show (1 : Nat) ≠ 6 by decide), up_j (show (1 : Nat) ≠ 5 by decide), up_same]
              rfl
            · rw [if_neg (show ¬ (3 : Int) = 4 by decide), if_pos (show (3 : Int) = 3 from rfl), if_neg y, if_neg (show ¬ (3 : Int) = 2 by decide), if_pos (show ((3 : Int) = 3 ∧ V 81 c ≠ V 82 c) from ⟨rfl, y⟩), if_neg (show ¬ (3 : Int) = 2 by decide), up_j (show (1 : Nat) ≠ 6 by decide), up_j (show (1 : Nat) ≠ 5 by decide), up_same]
              rfl
          · rw [if_pos rfl, if_neg (fun q => f2 ⟨rfl, by omega⟩), if_neg (show ¬ (4 : Int) = 3 by decide), if_neg (show ¬ (4 : Int) = 2 by decide), if_neg (show ¬ ((4 : Int) = 3 ∧ V 81 c ≠ V 82 c) by omega), if_neg (show ¬ (4 : Int) = 2 by decide), up_j (show (1 : Nat) ≠ 6 by decide), up_j (show (1 : Nat) ≠ 5 by decide), up_same]
            rfl
        · have q88 := (hV 88 o rfl rfl rfl).trans hc
          have q81 := hV 81 c rfl rfl rfl
          have q82 := hV 82 c rfl rfl rfl
          rw [if_pos s1', if_neg (by omega), nx_inl, show 999998 = 999997 + 1 from rfl, tr_step (s_kX12_turn_153 _ k a b (o : Int) s)]
          simp only [Int.toNat_natCast, q88, q81, q82, if_pos r3, if_pos rc, eK]
          rcases fkt_c f1 with ⟨rfl, -⟩ | ⟨rfl, -⟩ | ⟨rfl, -⟩
          · simp only [if_neg (show ¬ (2 : Int) = 3 by decide), if_neg (show ¬ ((2 : Int) = 3 ∧ V 81 c ≠ V 82 c) by omega), if_true, up_k (show (87 : Nat) ≠ 93 by decide), up_k (show (87 : Nat) ≠ 92 by decide), up_same]
            split <;> rfl
          · by_cases y : V 81 c = V 82 c
            · rw [if_neg (show ¬ ((3 : Int) = 3 ∧ V 81 c ≠ V 82 c) from fun q => q.2 y)]
              simp only [if_neg (show ¬ (3 : Int) = 2 by decide), if_pos y, if_true, up_k (show (87 : Nat) ≠ 93 by decide), up_k (show (87 : Nat) ≠ 92 by decide), up_same]
              rfl
            · rw [if_pos (show ((3 : Int) = 3 ∧ V 81 c ≠ V 82 c) from ⟨rfl, y⟩)]
              simp only [if_neg (show ¬ (3 : Int) = 2 by decide), if_neg y, if_true, up_k (show (87 : Nat) ≠ 93 by decide), up_k (show (87 : Nat) ≠ 92 by decide), up_same]
              rfl
          · simp only [if_neg (show ¬ (4 : Int) = 2 by decide), if_neg (show ¬ (4 : Int) = 3 by decide), if_neg (show ¬ ((4 : Int) = 3 ∧ V 81 c ≠ V 82 c) by omega), up_k (show (87 : Nat) ≠ 93 by decide), up_k (show (87 : Nat) ≠ 92 by decide), up_same]
            split <;> rfl
      · refine two_ask (r := vi (-4)) hW ⟨σ, Sc.rf, ?_⟩ (fun s hV => ⟨s, Sc.rf, (ri s hV _).mpr ?_⟩)
        · rw [ci]
          by_cases k4 : k = 4
          · rw [if_pos k4, if_neg (fun q => f2 ⟨k4, by omega⟩)]
            by_cases y : V 87 o = 1
            · rw [if_pos y, if_neg (fun q => hs ⟨y, q⟩)]
              rfl
            · rw [if_neg y]
              rfl
          · rw [if_neg k4]
            by_cases y : V 87 o = 1
            · rw [if_pos y, if_neg (fun q => hs ⟨y, q⟩)]
              rfl
            · rw [if_neg y]
              rfl
        · by_cases y : V 87 o = 1
          · rw [if_pos y, if_pos (by omega)]
            rfl
          · rw [if_neg y]
            rfl
  · have hG : tuG V k a b = false := by simpa using hG
    refine two_ask (r := vi (-1)) hW ⟨σ, Sc.rf, ?_⟩ (fun s hV => ⟨s, Sc.rf, (r_turn0 hV hI k a b _).mpr ?_⟩)
    · rw [run_go (k := 92) (as := [vh 0 0, vi k, vi a, vi b]) mt_92 (Nat.ne_of_beq_eq_false rfl) rfl (s_kX11_turn_0 _ k a b σ), ci_of ck]
      by_cases f1 : fkt k a b = true
      · unfold tuG at hG
        rw [f1, Bool.true_and, Bool.not_eq_false', decide_eq_true_eq] at hG
        rw [f1, if_neg (by decide), if_pos hG.1, h.no, ew, if_pos hG.2]
        rfl
      · have f1 : fkt k a b = false := by simpa using f1
        rw [f1, if_pos (by decide)]
        rfl
    · rw [hG, show 999999 = 999998 + 1 from rfl, tr_step (s_kX12_turn_76 _ k a b (bi false) s), if_pos (by decide)]
      rfl
end
