-- names, and what rules say: mayBe, tie, sight, fee, whether a card counts
theorem fru_r (V : TVw) (w t k : Int) : fru V w t k = -1 ∨ 0 ≤ fru V w t k ∧ (fru V w t k).toNat < nR V ∧ ((fru V w t k).toNat : Int) = fru V w t k := by
  unfold fru
  rcases fL_range (fruP V w t k) (nR V) with h | ⟨q, h, h1, -⟩
  · exact .inl h
  · rw [h]
    exact .inr ⟨by omega, by omega, by omega⟩
theorem Sc.s1 {σ σ' : TM} (h : Sc s1 σ σ') : Sc scr σ σ' := h.mono s1_scr
theorem Sc.s2 {σ σ' : TM} (h : Sc s2 σ σ') : Sc scr σ σ' := h.mono s2_scr
section
variable {σ : TM} {V : TVw} {d : Nat}
theorem c_clearNames : ∃ σ', Sc s1 σ σ' ∧ (∀ k, k < 11 → σ' 25 0 k = 0) ∧ t_run tbl mtb (d + 1) 82 [vh 0 0] σ = some (none, σ') := by
  rw [run_go (k := 82) (as := [vh 0 0]) mt_82 (Nat.ne_of_beq_eq_false rfl) rfl (s_kX11_clearNames_0 _ σ), nx_inl]
  obtain ⟨L', σ', ⟨h1, h2, h3⟩, e⟩ := loop_rel (O := t_run tbl mtb d) (k := 82) (pc := 2) (fun p L σ' => Sc s1 σ σ' ∧ L = [some (vh 0 0), some (vi (p : Int))] ∧ ∀ k, k < p → σ' 25 0 k = 0) 11 (by
    rintro p L s hp ⟨h1, rfl, h3⟩
    refine ⟨_, t_upd s 25 0 p 0, ⟨h1.up rfl, rfl, fun k hk => ?_⟩, fun n => ?_⟩
    · by_cases e : k = p
      · rw [e, up_same]
      · rw [up_j e, h3 k (by omega)]
    · rw [tr_step (s_kX11_clearNames_2 _ p s), if_pos (by omega), if_pos (by omega), w32_nat (by omega), Int.toNat_natCast]
      rfl) 11 0 [some (vh 0 0), some (vi ((0 : Nat) : Int))] σ rfl ⟨Sc.rf, rfl, fun k hk => by omega⟩
  have e := e 999988
  refine ⟨σ', h1, h3, ?_⟩
  have e : t_tr tbl mtb (t_run tbl mtb d) 82 999999 2 [some (vh 0 0), some (vi 0)] [] σ = t_tr tbl mtb (t_run tbl mtb d) 82 999988 2 L' [] σ' := e
  rw [e, h2, show 999988 = 999987 + 1 from rfl, tr_step (s_kX11_clearNames_2 _ ((11 : Nat) : Int) σ'), if_neg (by omega)]
  rfl
theorem r_noNames (t : Int) : ∃ σ', Sc s2 σ σ' ∧ (∀ k, k < 11 → σ' 94 0 k = if k = 0 then t else 0) ∧ t_run tbl mtb (d + 1) 179 [vh 51 0, vi t] σ = some (none, σ') := by
  rw [run_go (k := 179) (as := [vh 51 0, vi t]) mt_179 (Nat.ne_of_beq_eq_false rfl) rfl (s_kX12_noNames_0 _ t σ), nx_inl]
  obtain ⟨L', σ', ⟨h1, h2, h3⟩, e⟩ := loop_rel (O := t_run tbl mtb d) (k := 179) (pc := 2) (fun p L σ' => Sc s2 σ σ' ∧ L = [some (vh 51 0), some (vi t), some (vi (p : Int))] ∧ ∀ k, k < p → σ' 94 0 k = 0) 11 (by
    rintro p L s hp ⟨h1, rfl, h3⟩
    refine ⟨_, t_upd s 94 0 p 0, ⟨h1.up rfl, rfl, fun k hk => ?_⟩, fun n => ?_⟩
    · by_cases e : k = p
      · rw [e, up_same]
      · rw [up_j e, h3 k (by omega)]
    · rw [tr_step (s_kX12_noNames_2 _ t p s), if_pos (by omega), if_pos (by omega), w32_nat (by omega), Int.toNat_natCast]
      rfl) 11 0 [some (vh 51 0), some (vi t), some (vi ((0 : Nat) : Int))] σ rfl ⟨Sc.rf, rfl, fun k hk => by omega⟩
  have e := e 999988
  refine ⟨t_upd σ' 94 0 0 t, h1.up rfl, fun k hk => ?_, ?_⟩
  · by_cases ek : k = 0
    · rw [ek, up_same, if_pos rfl]
    · rw [up_j ek, h3 k hk, if_neg ek]
  have e : t_tr tbl mtb (t_run tbl mtb d) 179 999999 2 [some (vh 51 0), some (vi t), some (vi 0)] [] σ = t_tr tbl mtb (t_run tbl mtb d) 179 999988 2 L' [] σ' := e
  rw [e, h2, show 999988 = 999987 + 1 from rfl, tr_step (s_kX12_noNames_2 _ t ((11 : Nat) : Int) σ'), if_neg (by omega)]
  rfl
theorem c_namePiece (h : CR σ V) {p : Nat} (hp : p < nP V) {w a t : Int} (hw : w = 1 → 0 ≤ a ∧ a < 48) : ∃ σ', Sc s1 σ σ' ∧ (∀ k, k < 11 → σ' 25 0 k = fNp V p t w a 0 k) ∧ t_run tbl mtb (d + 2) 83 [vh 0 0, vi p, vi w, vi a, vi t] σ = some (none, σ') := by
  have h0 := h.cnt
  have hg := gm_r h.inv hp
  obtain ⟨i1, i2, k1, k2, -⟩ := h.inv 3 p hp
  obtain ⟨e0, e1, e2, e3, e4, e5, e6⟩ := h 5 p hp
  obtain ⟨-, hh, -⟩ := h 3 (V 65 p).toNat (by omega)
  have hh1 := (hh (by omega)).2.1
  rw [run_go (k := 83) (as := [vh 0 0, vi p, vi w, vi a, vi t]) mt_83 (Nat.ne_of_beq_eq_false rfl) rfl (s_kX11_namePiece_0 _ p w a t σ), if_pos (by omega)]
  have u17 : ∀ (σ : TM) (i j : Nat) (v : Int) (b c : Nat), t_upd σ 25 i j v 17 b c = σ 17 b c := fun _ _ _ _ _ _ => up_k (by decide)
  have u39 : ∀ (σ : TM) (i j : Nat) (v : Int) (b c : Nat), t_upd σ 25 i j v 39 b c = σ 39 b c := fun _ _ _ _ _ _ => up_k (by decide)
  have u41 : ∀ (σ : TM) (i j : Nat) (v : Int) (b c : Nat), t_upd σ 25 i j v 41 b c = σ 41 b c := fun _ _ _ _ _ _ => up_k (by decide)
  have key : ∀ G : Int, 0 ≤ G → G < 48 → (∀ k, k = 6 → G = fNp V p t w a 0 k) → ∃ σ', Sc s1 σ σ' ∧ (∀ k, k < 11 → σ' 25 0 k = fNp V p t w a 0 k) ∧ ∀ σ2, σ2 = t_upd (t_upd (t_upd (t_upd (t_upd (t_upd (t_upd (t_upd σ 25 0 0 t) 25 0 1 (p : Int)) 25 0 2 (V 68 p)) 25 0 3 (V 65 p)) 25 0 4 (V 66 p)) 25 0 5 w) 25 0 6 G) 25 0 7 (σ 39 (fgm V p).toNat G.toNat) → t_run tbl mtb (d + 1) 73 [vh 0 0, vi (V 65 p)] σ2 = some (some (vi (fst V (V 65 p))), σ2) ∧ σ' = t_upd (t_upd (t_upd σ2 25 0 8 (fst V (V 65 p))) 25 0 9 0) 25 0 10 (V 60 (V 65 p).toNat) := by
    intro G g1 g2 g3
    have hS : Sc s1 σ (t_upd (t_upd (t_upd (t_upd (t_upd (t_upd (t_upd (t_upd σ 25 0 0 t) 25 0 1 (p : Int)) 25 0 2 (V 68 p)) 25 0 3 (V 65 p)) 25 0 4 (V 66 p)) 25 0 5 w) 25 0 6 G) 25 0 7 (σ 39 (fgm V p).toNat G.toNat)) := (((((((Sc.rf.up rfl).up rfl).up rfl).up rfl).up rfl).up rfl).up rfl).up rfl
    refine ⟨_, ((hS.up rfl).up rfl).up rfl, ?_, fun σ2 hσ2 => ⟨?_, by rw [hσ2]⟩⟩
    · have hv := (h 2 (fgm V p).toNat G.toNat (by omega) (by omega)).1
      have hG := g3 6 rfl
      intro k hk
      rcases (by omega : k = 0 ∨ k = 1 ∨ k = 2 ∨ k = 3 ∨ k = 4 ∨ k = 5 ∨ k = 6 ∨ k = 7 ∨ k = 8 ∨ k = 9 ∨ k = 10) with rfl | rfl | rfl | rfl | rfl | rfl | rfl | rfl | rfl | rfl | rfl
      · simp only [up_j (show (0 : Nat) ≠ 10 by decide), up_j (show (0 : Nat) ≠ 9 by decide), up_j (show (0 : Nat) ≠ 8 by decide), up_j (show (0 : Nat) ≠ 7 by decide), up_j (show (0 : Nat) ≠ 6 by decide), up_j (show (0 : Nat) ≠ 5 by decide), up_j (show (0 : Nat) ≠ 4 by decide), up_j (show (0 : Nat) ≠ 3 by decide), up_j (show (0 : Nat) ≠ 2 by decide), up_j (show (0 : Nat) ≠ 1 by decide), up_same]; rfl
      · simp only [up_j (show (1 : Nat) ≠ 10 by decide), up_j (show (1 : Nat) ≠ 9 by decide), up_j (show (1 : Nat) ≠ 8 by decide), up_j (show (1 : Nat) ≠ 7 by decide), up_j (show (1 : Nat) ≠ 6 by decide), up_j (show (1 : Nat) ≠ 5 by decide), up_j (show (1 : Nat) ≠ 4 by decide), up_j (show (1 : Nat) ≠ 3 by decide), up_j (show (1 : Nat) ≠ 2 by decide), up_same]; rfl
      · simp only [up_j (show (2 : Nat) ≠ 10 by decide), up_j (show (2 : Nat) ≠ 9 by decide), up_j (show (2 : Nat) ≠ 8 by decide), up_j (show (2 : Nat) ≠ 7 by decide), up_j (show (2 : Nat) ≠ 6 by decide), up_j (show (2 : Nat) ≠ 5 by decide), up_j (show (2 : Nat) ≠ 4 by decide), up_j (show (2 : Nat) ≠ 3 by decide), up_same]; rfl
      · simp only [up_j (show (3 : Nat) ≠ 10 by decide), up_j (show (3 : Nat) ≠ 9 by decide), up_j (show (3 : Nat) ≠ 8 by decide), up_j (show (3 : Nat) ≠ 7 by decide), up_j (show (3 : Nat) ≠ 6 by decide), up_j (show (3 : Nat) ≠ 5 by decide), up_j (show (3 : Nat) ≠ 4 by decide), up_same]; rfl
      · simp only [up_j (show (4 : Nat) ≠ 10 by decide), up_j (show (4 : Nat) ≠ 9 by decide), up_j (show (4 : Nat) ≠ 8 by decide), up_j (show (4 : Nat) ≠ 7 by decide), up_j (show (4 : Nat) ≠ 6 by decide), up_j (show (4 : Nat) ≠ 5 by decide), up_same]; rfl
      · simp only [up_j (show (5 : Nat) ≠ 10 by decide), up_j (show (5 : Nat) ≠ 9 by decide), up_j (show (5 : Nat) ≠ 8 by decide), up_j (show (5 : Nat) ≠ 7 by decide), up_j (show (5 : Nat) ≠ 6 by decide), up_same]; rfl
      · simp only [up_j (show (6 : Nat) ≠ 10 by decide), up_j (show (6 : Nat) ≠ 9 by decide), up_j (show (6 : Nat) ≠ 8 by decide), up_j (show (6 : Nat) ≠ 7 by decide), up_same]; exact hG
      · simp only [up_j (show (7 : Nat) ≠ 10 by decide), up_j (show (7 : Nat) ≠ 9 by decide), up_j (show (7 : Nat) ≠ 8 by decide), up_same]
        have hG : G = if w = 1 then a else V 66 p := hG
        show _ = V 57 (48 * fgm V p + (if w = 1 then a else V 66 p)).toNat
        rw [hv, ← hG, show (48 * fgm V p + G).toNat = 48 * (fgm V p).toNat + G.toNat by omega]
      · simp only [up_j (show (8 : Nat) ≠ 10 by decide), up_j (show (8 : Nat) ≠ 9 by decide), up_same]; rfl
      · simp only [up_j (show (9 : Nat) ≠ 10 by decide), up_same]; rfl
      · simp only [up_same]; rfl
    · rw [hσ2]
      exact c_piecesOf (h.sc hS.s1) _
  by_cases hw1 : w = 1
  · have ha := hw hw1
    obtain ⟨σ', s1', s2', s3'⟩ := key a ha.1 ha.2 (fun k hk => by rw [hk]; show a = if w = 1 then a else V 66 p; rw [if_pos hw1])
    rw [if_pos hw1, ci_of (c_isCell a)]
    simp only [bi_0, decide_eq_false_iff_not, Int.toNat_natCast, u17, u39, u41, e0, e1, e2, e3]
    rw [if_neg (by omega), if_pos (by omega), if_pos ha]
    obtain ⟨z1, z2⟩ := s3' _ rfl
    refine ⟨σ', s1', s2', ?_⟩
    rw [ci_of z1]
    simp only [u17, u41, e1]
    rw [if_pos (by omega), hh1, z2]
    rfl
  · obtain ⟨σ', s1', s2', s3'⟩ := key (V 66 p) k1 k2 (fun k hk => by rw [hk]; show V 66 p = if w = 1 then a else V 66 p; rw [if_neg hw1])
    rw [if_neg hw1]
    simp only [Int.toNat_natCast, u17, u39, u41, e0, e1, e2, e3]
    rw [if_pos (by omega), if_pos (by omega)]
    obtain ⟨z1, z2⟩ := s3' _ rfl
    refine ⟨σ', s1', s2', ?_⟩
    rw [ci_of z1]
    simp only [u17, u41, e1]
    rw [if_pos (by omega), hh1, z2]
    rfl
end
