-- the reference's workOut()
section
variable {n d : Nat} {b N : Nat → Int}
abbrev wkL (g y m : Int) : TL := [some (vh 51 0), none, none, some (vi g), some (vi y), some (vi m), none, none]
theorem r_wkEnd {σ : TM} {g y : Int} (h : 0 ≤ σ 51 0 53) (M : Nat) : t_tr tbl mtb (t_run tbl mtb (d + 1)) 171 (M + 1) 33 (wkL g y 0) [] σ = some (.inr (some (vi y), σ)) := by
  rw [tr_step (s_kX12_workOut_33 _ g y 0 σ), if_pos rfl, if_neg (by omega)]
  rfl
theorem r_wkOk {σ : TM} {g y : Int} {q o : Nat} (hs : Sr b n N σ q o) (hq : n ≤ q) (M : Nat) : t_tr tbl mtb (t_run tbl mtb (d + 1)) 171 (M + 1) 33 (wkL g y 0) [] σ = some (.inr (some (vi y), σ)) := by
  rw [tr_step (s_kX12_workOut_33 _ g y 0 σ), if_pos rfl, if_pos (by have := hs.1; omega), if_neg (by have := hs.2.1; have := hs.2.2.1; omega)]
  rfl
theorem r_wkBad {σ : TM} {g y : Int} {q o : Nat} (hs : Sr b n N σ q o) (hq : q < n) (M : Nat) : t_tr tbl mtb (t_run tbl mtb (d + 1)) 171 (M + 1) 33 (wkL g y 0) [] σ = some (.inr (some (vi 0), t_upd σ 51 0 53 (q : Int))) := by
  rw [tr_step (s_kX12_workOut_33 _ g y 0 σ), if_pos rfl, if_pos (by have := hs.1; omega), if_pos (by have := hs.2.1; have := hs.2.2.1; omega), ci_of (r_wrong (by have := hs.1; omega) hs.2.1)]
  rfl
def RX (N : Nat → Int) (σ0 : TM) (g y : Int) (X : Option (Option TV × TM)) : Nat ⊕ (List Int × ((Nat → Int) → Int)) → Prop
  | .inl e => ∃ σ' x, Sc s3 σ0 σ' ∧ σ' 51 0 53 = (e : Int) ∧ X = some (some (vi x), σ')
  | .inr (_, v) => ∃ σ', Sc s3 σ0 σ' ∧ σ' 51 0 53 = -1 ∧ X = some (some (vi (if g = 0 then v N else y)), σ')
theorem RX.sc {σ0 σ1 : TM} {g y : Int} {X : Option (Option TV × TM)} (h : Sc s3 σ0 σ1) : ∀ {z : Nat ⊕ (List Int × ((Nat → Int) → Int))}, RX N σ1 g y X z → RX N σ0 g y X z
  | .inl e, ⟨σ', x, h1, h2⟩ => ⟨σ', x, h.tr h1, h2⟩
  | .inr (c, v), ⟨σ', h1, h2⟩ => ⟨σ', h.tr h1, h2⟩
set_option maxHeartbeats 4000000 in
theorem r_wkLoop (hn : n ≤ 160) (hb : ∀ i, i < n → 0 ≤ b i ∧ b i ≤ 255) : ∀ (f q o : Nat) (g y : Int) (σ : TM) (M : Nat), Sr b n N σ q 0 → q ≤ n → n - q < f → (g = 0 ∧ y = 0 ∨ g = 1) → f + 1 < M → RX N σ g y (t_out (t_tr tbl mtb (t_run tbl mtb (d + 64)) 171 M 33 (wkL g y 1) [] σ)) (p_tx b n f o q)
  | 0, q, o, g, y, σ, M, _, _, h, _, _ => by omega
  | f + 1, q, o, g, y, σ, M, hs, hq, hf, hg, hM => by
    have ih := r_wkLoop hn hb f
    have i1 := r_ps (d := d) (N := N) hn hb 60 0 0 q σ (by omega) (by omega) (by omega) hs hq
    have hl1 := fun q s => p_s_ok b n 60 0 0 q s (by omega) (by omega)
    have hl1a := hl1 q
    -- what comes behind a line
    have aft : ∀ (q' o' : Nat) (σ3 : TM) (g' y' : Int), Sr b n N σ3 q' 0 → q' ≤ n → q < q' → Sc s3 σ σ3 → (g' = 0 ∧ y' = 0 ∨ g' = 1) →
        (n ≤ q' → ∃ σ', Sc s3 σ σ' ∧ σ' 51 0 53 = -1 ∧ t_out (t_nx (t_run tbl mtb (d + 64)) 171 (M - 1) (t_calli (t_run tbl mtb (d + 64) 163 [vh 51 0, vi 59] σ3) fun x4 s4 => some (.inl (33, wkL g' y' x4, [], s4)))) = some (some (vi y'), σ'))
        ∧ (¬ n ≤ q' → p_at b n q' = 59 → RX N σ g' y' (t_out (t_nx (t_run tbl mtb (d + 64)) 171 (M - 1) (t_calli (t_run tbl mtb (d + 64) 163 [vh 51 0, vi 59] σ3) fun x4 s4 => some (.inl (33, wkL g' y' x4, [], s4))))) (p_tx b n f o' (q' + 1)))
        ∧ (¬ n ≤ q' → ¬ p_at b n q' = 59 → ∃ σ' x, Sc s3 σ σ' ∧ σ' 51 0 53 = (q' : Int) ∧ t_out (t_nx (t_run tbl mtb (d + 64)) 171 (M - 1) (t_calli (t_run tbl mtb (d + 64) 163 [vh 51 0, vi 59] σ3) fun x4 s4 => some (.inl (33, wkL g' y' x4, [], s4)))) = some (some (vi x), σ')) := by
      intro q' o' σ3 g' y' hs3 hq3 hqq hS3 hg'
      have et := r_takes (d := d + 62) (c := 59) hb hs3 hq3 hn (by decide)
      refine ⟨fun h => ?_, fun h h2 => ?_, fun h h2 => ?_⟩
      · have hne : ¬ p_at b n q' = 59 := by
          unfold p_at
          rw [if_neg (by omega)]
          decide
        rw [if_neg hne] at et
        rw [ci_of et, nx_inl, show M - 1 = M - 2 + 1 by omega, r_wkOk (d := d + 63) hs3 h (M - 2)]
        exact ⟨σ3, hS3, hs3.1, rfl⟩
      · rw [if_pos h2] at et
        rw [ci_of et, nx_inl]
        exact (ih (q' + 1) o' g' y' _ (M - 1) (hs3.mv rfl) (by omega) (by omega) hg' (by omega)).sc (hS3.up rfl)
      · rw [if_neg h2] at et
        rw [ci_of et, nx_inl, show M - 1 = M - 2 + 1 by omega, r_wkBad (d := d + 63) hs3 (by omega) (M - 2)]
        exact ⟨_, _, hS3.up rfl, up_same, rfl⟩
    have flt : ∀ (σ3 : TM) (e : Nat), Sc s3 σ σ3 → σ3 51 0 53 = (e : Int) → RX N σ g y (t_out (t_nx (t_run tbl mtb (d + 64)) 171 (M - 1) (t_calli (t_run tbl mtb (d + 64) 163 [vh 51 0, vi 59] σ3) fun x4 s4 => some (.inl (33, wkL g y x4, [], s4))))) (.inl e) := by
      intro σ3 e hS3 he
      rw [ci_of (r_takes_no (d := d + 62) (c := 59) (by omega)), nx_inl, show M - 1 = M - 2 + 1 by omega, r_wkEnd (d := d + 63) (by omega) (M - 2)]
      exact ⟨σ3, _, hS3, he, rfl⟩
    rw [show M = M - 1 + 1 by omega, tr_step (s_kX12_workOut_33 _ g y 1 σ), if_neg (by decide)]
    unfold p_tx p_ln
    cases hp : p_s b n 60 0 0 q with
    | inl e =>
      rw [hp] at i1
      obtain ⟨σ2, x, a1, a2, a3, a4⟩ := i1
      have a4 : t_run tbl mtb (d + 64) 164 [vh 51 0] σ = some (some (vi x), σ2) := a4
      rw [ci_of a4, ci_of (r_takes_no (d := d + 62) (c := 63) (by omega)), if_pos rfl, if_neg (by omega)]
      exact flt σ2 e a1 a2
    | inr s =>
      obtain ⟨q', c, v⟩ := s
      obtain ⟨-, hl2, hl3, -⟩ := hl1a _ hq hp
      rw [hp] at i1
      obtain ⟨σ2, a1, a2, a3⟩ := i1
      have a3 : t_run tbl mtb (d + 64) 164 [vh 51 0] σ = some (some (vi (v N)), σ2) := a3
      simp only [] at hl2 hl3 ⊢
      have et := r_takes (d := d + 62) (c := 63) hb a2 hl3 hn (by decide)
      rw [ci_of a3]
      by_cases h63 : p_at b n q' = 63
      · have hlq : q' < n := p_at_lt (b := b) (by omega)
        rw [if_pos h63] at et
        rw [if_pos h63, ci_of et, if_neg (by decide)]
        have i2 := r_ps (d := d) (N := N) hn hb 60 0 0 (q' + 1) _ (by omega) (by omega) (by omega) (a2.mv (v := ((q' + 1 : Nat) : Int)) rfl) hlq
        have hS2 : Sc s3 σ (t_upd σ2 51 0 51 ((q' + 1 : Nat) : Int)) := a1.up rfl
        have hl2a := hl1 (q' + 1)
        cases hp2 : p_s b n 60 0 0 (q' + 1) with
        | inl e =>
          rw [hp2] at i2
          obtain ⟨σ3, x, z1, z2, z3, z4⟩ := i2
          have z4 : t_run tbl mtb (d + 64) 164 [vh 51 0] (t_upd σ2 51 0 51 ((q' + 1 : Nat) : Int)) = some (some (vi x), σ3) := z4
          simp only [z4, ci_ok]
          have hx3 : ¬ σ3 51 0 53 < 0 := by omega
          simp only [if_neg hx3, ite_self]
          exact flt σ3 e (hS2.tr z1) z2
        | inr s =>
          obtain ⟨q2, c2, v2⟩ := s
          obtain ⟨-, k2, k3, -⟩ := hl2a _ hlq hp2
          rw [hp2] at i2
          obtain ⟨σ3, z1, z2, z3⟩ := i2
          have z3 : t_run tbl mtb (d + 64) 164 [vh 51 0] (t_upd σ2 51 0 51 ((q' + 1 : Nat) : Int)) = some (some (vi (v2 N)), σ3) := z3
          simp only [] at k2 k3 ⊢
          simp only [z3, ci_ok]
          rw [if_pos (show σ3 51 0 53 < 0 by have := z2.1; omega), if_pos (show σ3 51 0 53 < 0 by have := z2.1; omega)]
          have hS3 := hS2.tr z1
          by_cases hv : v N = 0
          · obtain ⟨f1, f2, f3⟩ := aft q2 (o + (c ++ ((30000 + ((o + c.length + c2.length + 2 : Nat) : Int)) :: (c2 ++ [40000]))).length) σ3 g y z2 k3 (by omega) hS3 hg
            rw [if_pos hv]
            by_cases hnq : n ≤ q2
            · rw [if_pos hnq]
              obtain ⟨σ', y1, y2, y3⟩ := f1 hnq
              refine ⟨σ', y1, y2, y3.trans ?_⟩
              rcases hg with ⟨h1, h2⟩ | h1
              · simp [h1, h2, hv]
              · simp [h1]
            · rw [if_neg hnq]
              by_cases h59 : p_at b n q2 = 59
              · rw [if_pos h59]
                have f2 := f2 hnq h59
                cases hp3 : p_tx b n f (o + (c ++ ((30000 + ((o + c.length + c2.length + 2 : Nat) : Int)) :: (c2 ++ [40000]))).length) (q2 + 1) with
                | inl e =>
                  rw [hp3] at f2
                  exact f2
                | inr s =>
                  rw [hp3] at f2
                  obtain ⟨σ', y1, y2, y3⟩ := f2
                  refine ⟨σ', y1, y2, y3.trans ?_⟩
                  simp [hv]
              · rw [if_neg h59]
                exact f3 hnq h59
          · have hg2 : ∀ G Y : Int, (g = 0 ∧ G = 1 ∧ Y = v2 N ∨ g = 1 ∧ G = 1 ∧ Y = y) → RX N σ g y (t_out (t_nx (t_run tbl mtb (d + 64)) 171 (M - 1) (t_calli (t_run tbl mtb (d + 64) 163 [vh 51 0, vi 59] σ3) fun x4 s4 => some (.inl (33, wkL G Y x4, [], s4))))) (if n ≤ q2 then .inr (c ++ ((30000 + ((o + c.length + c2.length + 2 : Nat) : Int)) :: (c2 ++ [40000])), fun N => if decide (v N ≠ 0) = true then v2 N else 0) else if p_at b n q2 = 59 then (match p_tx b n f (o + (c ++ ((30000 + ((o + c.length + c2.length + 2 : Nat) : Int)) :: (c2 ++ [40000]))).length) (q2 + 1) with
                | .inl e => .inl e
                | .inr (c3, v3) => .inr (c ++ ((30000 + ((o + c.length + c2.length + 2 : Nat) : Int)) :: (c2 ++ [40000])) ++ c3, fun N => if decide (v N ≠ 0) = true then v2 N else v3 N)) else .inl q2) := by
              intro G Y hGY
              have hG : ¬ G = 0 := by omega
              obtain ⟨f1, f2, f3⟩ := aft q2 (o + (c ++ ((30000 + ((o + c.length + c2.length + 2 : Nat) : Int)) :: (c2 ++ [40000]))).length) σ3 G Y z2 k3 (by omega) hS3 (by omega)
              have fin : Y = if g = 0 then v2 N else y := by
                rcases hGY with ⟨h1, h2, h3⟩ | ⟨h1, h2, h3⟩
                · rw [if_pos h1, h3]
                · rw [if_neg (by omega), h3]
              by_cases hnq : n ≤ q2
              · rw [if_pos hnq]
                obtain ⟨σ', y1, y2, y3⟩ := f1 hnq
                refine ⟨σ', y1, y2, y3.trans ?_⟩
                simp [hv, fin]
              · rw [if_neg hnq]
                by_cases h59 : p_at b n q2 = 59
                · rw [if_pos h59]
                  have f2 := f2 hnq h59
                  cases hp3 : p_tx b n f (o + (c ++ ((30000 + ((o + c.length + c2.length + 2 : Nat) : Int)) :: (c2 ++ [40000]))).length) (q2 + 1) with
                  | inl e =>
                    rw [hp3] at f2
                    exact f2
                  | inr s =>
                    rw [hp3] at f2
                    obtain ⟨σ', y1, y2, y3⟩ := f2
                    refine ⟨σ', y1, y2, y3.trans ?_⟩
                    rw [if_neg hG]
                    simp [hv, fin]
                · rw [if_neg h59]
                  exact f3 hnq h59
            rw [if_neg hv]
            rcases hg with ⟨h1, h2⟩ | h1
            · rw [if_pos h1]
              exact hg2 1 (v2 N) (.inl ⟨h1, rfl, rfl⟩)
            · rw [if_neg (show ¬ g = 0 by omega)]
              exact hg2 g y (.inr ⟨h1, h1, rfl⟩)
      · rw [if_neg h63] at et
        rw [if_neg h63, ci_of et, if_pos rfl, if_pos (show σ2 51 0 53 < 0 by have := a2.1; omega)]
        have hg2 : ∀ G Y : Int, (g = 0 ∧ G = 1 ∧ Y = v N ∨ g = 1 ∧ G = 1 ∧ Y = y) → RX N σ g y (t_out (t_nx (t_run tbl mtb (d + 64)) 171 (M - 1) (t_calli (t_run tbl mtb (d + 64) 163 [vh 51 0, vi 59] σ2) fun x4 s4 => some (.inl (33, wkL G Y x4, [], s4))))) (if n ≤ q' then .inr (c ++ [40000], fun N => if true = true then v N else 0) else if p_at b n q' = 59 then (match p_tx b n f (o + (c ++ [40000]).length) (q' + 1) with
            | .inl e => .inl e
            | .inr (c3, v3) => .inr (c ++ [40000] ++ c3, fun N => if true = true then v N else v3 N)) else .inl q') := by
          intro G Y hGY
          have hG : ¬ G = 0 := by omega
          obtain ⟨f1, f2, f3⟩ := aft q' (o + (c ++ [40000]).length) σ2 G Y a2 hl3 hl2 a1 (by omega)
          have fin : Y = if g = 0 then v N else y := by
            rcases hGY with ⟨h1, h2, h3⟩ | ⟨h1, h2, h3⟩
            · rw [if_pos h1, h3]
            · rw [if_neg (by omega), h3]
          by_cases hnq : n ≤ q'
          · rw [if_pos hnq]
            obtain ⟨σ', y1, y2, y3⟩ := f1 hnq
            refine ⟨σ', y1, y2, y3.trans ?_⟩
            simp [fin]
          · rw [if_neg hnq]
            by_cases h59 : p_at b n q' = 59
            · rw [if_pos h59]
              have f2 := f2 hnq h59
              cases hp3 : p_tx b n f (o + (c ++ [40000]).length) (q' + 1) with
              | inl e =>
                rw [hp3] at f2
                exact f2
              | inr s =>
                rw [hp3] at f2
                obtain ⟨σ', y1, y2, y3⟩ := f2
                refine ⟨σ', y1, y2, y3.trans ?_⟩
                rw [if_neg hG]
                simp [fin]
            · rw [if_neg h59]
              exact f3 hnq h59
        rcases hg with ⟨h1, h2⟩ | h1
        · rw [if_pos h1]
          exact hg2 1 (v N) (.inl ⟨h1, rfl, rfl⟩)
        · rw [if_neg (show ¬ g = 0 by omega)]
          exact hg2 g y (.inr ⟨h1, h1, rfl⟩)
theorem r_workOut (hn : n ≤ 160) (hb : ∀ i, i < n → 0 ≤ b i ∧ b i ≤ 255) {σ : TM} {B : Int} (hB : (B < 0 ∧ ∀ i, i < n → σ 75 0 i = b i) ∨ (0 ≤ B ∧ B + n ≤ 3200 ∧ ∀ i, i < n → σ 76 0 (B.toNat + i) = b i)) (hN : ∀ k, k < 11 → σ 94 0 k = N k) : ∃ σ', Sc s2 σ σ' ∧ ∃ x, t_run tbl mtb (d + 65) 171 [vh 51 0, vi B, vi (n : Int)] σ = some (some (vi x), σ') ∧ match p_tx b n 161 0 0 with
    | .inl e => σ' 51 0 53 = (e : Int)
    | .inr (_, v) => σ' 51 0 53 = -1 ∧ x = v N := by
  have hS0 : Sc s2 σ (t_upd (t_upd (t_upd (t_upd (t_upd σ 51 0 50 B) 51 0 51 0) 51 0 52 (n : Int)) 51 0 53 (-1)) 51 0 54 0) := ((((Sc.rf.up rfl).up rfl).up rfl).up rfl).up rfl
  have hs : Sr b n N (t_upd (t_upd (t_upd (t_upd (t_upd σ 51 0 50 B) 51 0 51 0) 51 0 52 (n : Int)) 51 0 53 (-1)) 51 0 54 0) 0 0 := by
    refine ⟨by rw [up_j (by decide), up_same], by rw [up_j (by decide), up_j (by decide), up_j (by decide), up_same]; rfl, by rw [up_j (by decide), up_j (by decide), up_same], up_same, ?_, fun k hk => by rw [up_k (by decide), up_k (by decide), up_k (by decide), up_k (by decide), up_k (by decide), hN k hk]⟩
    have e50 : t_upd (t_upd (t_upd (t_upd (t_upd σ 51 0 50 B) 51 0 51 0) 51 0 52 (n : Int)) 51 0 53 (-1)) 51 0 54 0 51 0 50 = B := by
      rw [up_j (by decide), up_j (by decide), up_j (by decide), up_j (by decide), up_same]
    rcases hB with ⟨h1, h2⟩ | ⟨h1, h2, h3⟩
    · exact .inl ⟨by rw [e50]; exact h1, hn, fun i hi => by rw [hS0 75 0 i rfl, h2 i hi]⟩
    · exact .inr ⟨B.toNat, by rw [e50]; omega, by omega, fun i hi => by rw [hS0 76 0 _ rfl, h3 i hi]⟩
  have h := r_wkLoop (d := d) hn hb 161 0 0 0 0 _ 999999 hs (by omega) (by omega) (.inl ⟨rfl, rfl⟩) (by omega)
  rw [run_go (k := 171) (as := [vh 51 0, vi B, vi (n : Int)]) mt_171 (Nat.ne_of_beq_eq_false rfl) rfl (s_kX12_workOut_0 _ B (n : Int) σ), nx_inl]
  cases hp : p_tx b n 161 0 0 with
  | inl e =>
    rw [hp] at h
    obtain ⟨σ', x, h1, h2, h3⟩ := h
    exact ⟨σ', hS0.tr (h1.mono s3_s2), x, h3, h2⟩
  | inr s =>
    obtain ⟨c, v⟩ := s
    rw [hp] at h
    obtain ⟨σ', h1, h2, h3⟩ := h
    exact ⟨σ', hS0.tr (h1.mono s3_s2), _, h3, h2, rfl⟩
end
