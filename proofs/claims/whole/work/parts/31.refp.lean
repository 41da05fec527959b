-- the reference's reader of texts
def s3 (k j : Nat) : Bool := Nat.beq k 51 && (Nat.beq j 51 || (Nat.beq j 53 || Nat.beq j 54))
theorem s3_s2 (k j : Nat) (h : s2 k j = false) : s3 k j = false := by
  unfold s2 at h
  unfold s3
  cases hk : Nat.beq k 51 with
  | false => rfl
  | true =>
    rw [hk, Bool.or_eq_false_iff] at h
    have h := h.2
    rw [Bool.true_and] at h ⊢
    cases a : Nat.beq j 51 with
    | true => rw [Nat.eq_of_beq_eq_true a] at h; cases h
    | false => cases b : Nat.beq j 53 with
      | true => rw [Nat.eq_of_beq_eq_true b] at h; cases h
      | false => cases c : Nat.beq j 54 with
        | true => rw [Nat.eq_of_beq_eq_true c] at h; cases h
        | false => rfl
def Bt (σ : TM) (b : Nat → Int) (n : Nat) : Prop := (σ 51 0 50 < 0 ∧ n ≤ 160 ∧ ∀ i, i < n → σ 75 0 i = b i) ∨ (∃ B : Nat, σ 51 0 50 = B ∧ B + n ≤ 3200 ∧ ∀ i, i < n → σ 76 0 (B + i) = b i)
theorem Bt.sc {σ σ' : TM} {b : Nat → Int} {n : Nat} (h : Bt σ b n) (q : Sc s3 σ σ') : Bt σ' b n := by
  rcases h with ⟨h1, h2, h3⟩ | ⟨B, h1, h2, h3⟩
  · exact .inl ⟨by rw [q 51 0 50 rfl]; exact h1, h2, fun i hi => by rw [q 75 0 i rfl]; exact h3 i hi⟩
  · exact .inr ⟨B, by rw [q 51 0 50 rfl]; exact h1, h2, fun i hi => by rw [q 76 0 _ rfl]; exact h3 i hi⟩
def Sr (b : Nat → Int) (n : Nat) (N : Nat → Int) (σ : TM) (q o : Nat) : Prop := σ 51 0 53 = -1 ∧ σ 51 0 51 = q ∧ σ 51 0 52 = n ∧ σ 51 0 54 = o ∧ Bt σ b n ∧ ∀ k, k < 11 → σ 94 0 k = N k
def r_at (b : Nat → Int) (n q : Nat) : Int := if q < n then b q else 0
section
variable {n d : Nat} {b N : Nat → Int} {σ : TM}
theorem Sr.mv {q o q' : Nat} (h : Sr b n N σ q o) {v : Int} (e : v = q') : Sr b n N (t_upd σ 51 0 51 v) q' o := by
  obtain ⟨h1, h2, h3, h4, h5, h6⟩ := h
  exact ⟨by rw [up_j (by decide), h1], by rw [up_same, e], by rw [up_j (by decide), h3], by rw [up_j (by decide), h4], h5.sc (Sc.rf.up rfl), fun k hk => by rw [up_k (by decide), h6 k hk]⟩
theorem Sr.op {q o o' : Nat} (h : Sr b n N σ q o) {v : Int} (e : v = o') : Sr b n N (t_upd σ 51 0 54 v) q o' := by
  obtain ⟨h1, h2, h3, h4, h5, h6⟩ := h
  exact ⟨by rw [up_j (by decide), h1], by rw [up_j (by decide), h2], by rw [up_j (by decide), h3], by rw [up_same, e], h5.sc (Sc.rf.up rfl), fun k hk => by rw [up_k (by decide), h6 k hk]⟩
theorem r_at_p (hb : ∀ i, i < n → 0 ≤ b i ∧ b i ≤ 255) (q : Nat) : p_at b n q = -1 ∧ r_at b n q = 0 ∧ n ≤ q ∨ p_at b n q = r_at b n q ∧ q < n ∧ 0 ≤ r_at b n q ∧ r_at b n q ≤ 255 := by
  unfold p_at r_at
  by_cases h : q < n
  · have := hb q h
    rw [if_pos h, if_pos h]
    exact .inr ⟨rfl, h, this⟩
  · rw [if_neg h, if_neg h]
    exact .inl ⟨rfl, rfl, by omega⟩
theorem r_byteAt {z : Nat} (hz : z ≤ n) (hat : σ 51 0 51 = z) (he : σ 51 0 52 = n) (hB : Bt σ b n) : t_run tbl mtb (d + 1) 161 [vh 51 0] σ = some (some (vi (r_at b n z)), σ) := by
  rw [run_go (k := 161) (as := [vh 51 0]) mt_161 (Nat.ne_of_beq_eq_false rfl) rfl (s_kX12_byteAt_0 _ σ), hat, he]
  unfold r_at
  by_cases h : z < n
  · rw [if_pos (by omega), if_pos h]
    rcases hB with ⟨h1, h2, h3⟩ | ⟨B, h1, h2, h3⟩
    · rw [if_pos h1, if_pos (by omega), Int.toNat_natCast, h3 z h]
      rfl
    · rw [h1, if_neg (by omega), w32_id (by omega) (by omega), if_pos (by omega), show ((B : Int) + z).toNat = B + z by omega, h3 z h]
      rfl
  · rw [if_neg (by omega), if_neg h]
    rfl
theorem r_takes_no {c : Int} (h : 0 ≤ σ 51 0 53) : t_run tbl mtb (d + 2) 163 [vh 51 0, vi c] σ = some (some (vi 0), σ) := by
  rw [run_go (k := 163) (as := [vh 51 0, vi c]) mt_163 (Nat.ne_of_beq_eq_false rfl) rfl (s_kX12_takes_0 _ c σ), if_neg (by omega)]
  rfl
theorem r_takes {c : Int} {q o : Nat} (hb : ∀ i, i < n → 0 ≤ b i ∧ b i ≤ 255) (h : Sr b n N σ q o) (hq : q ≤ n) (hn : n ≤ 160) (hc : 0 < c) : t_run tbl mtb (d + 2) 163 [vh 51 0, vi c] σ = if p_at b n q = c then some (some (vi 1), t_upd σ 51 0 51 ((q + 1 : Nat) : Int)) else some (some (vi 0), σ) := by
  rw [run_go (k := 163) (as := [vh 51 0, vi c]) mt_163 (Nat.ne_of_beq_eq_false rfl) rfl (s_kX12_takes_0 _ c σ), if_pos (by have := h.1; omega), ci_of (r_byteAt hq h.2.1 h.2.2.1 h.2.2.2.2.1), h.2.1, w32_nat (by omega)]
  rcases r_at_p hb q with ⟨e1, e2, e3⟩ | ⟨e1, e2, e3, e4⟩
  · rw [if_neg (by omega), if_neg (by omega)]
    rfl
  · by_cases hh : p_at b n q = c
    · rw [if_pos (by omega), if_pos hh]
      rfl
    · rw [if_neg (by omega), if_neg hh]
      rfl
theorem r_wrong {e : Int} (h : σ 51 0 53 < 0) (ha : σ 51 0 51 = e) : t_run tbl mtb (d + 1) 162 [vh 51 0] σ = some (some (vi 0), t_upd σ 51 0 53 e) := by
  rw [run_go (k := 162) (as := [vh 51 0]) mt_162 (Nat.ne_of_beq_eq_false rfl) rfl (s_kX12_wrong_0 _ σ), if_pos h, ha]
  rfl
theorem r_wrong2 (h : 0 ≤ σ 51 0 53) : t_run tbl mtb (d + 1) 162 [vh 51 0] σ = some (some (vi 0), t_upd σ 51 0 53 (σ 51 0 53)) := by
  rw [run_go (k := 162) (as := [vh 51 0]) mt_162 (Nat.ne_of_beq_eq_false rfl) rfl (s_kX12_wrong_0 _ σ), if_neg (by omega)]
  rfl
theorem p_nm_not {x : Int} (h1 : x ≠ 116) (h2 : x ≠ 112) (h3 : x ≠ 102) (h4 : x ≠ 104) (h5 : x ≠ 99) (h6 : x ≠ 111) (h7 : x ≠ 100) (h8 : x ≠ 118) (h9 : x ≠ 110) (h10 : x ≠ 122) (h11 : x ≠ 119) : p_nm x = -1 := by
  rcases p_nm_ok x with h | ⟨a1, a2, a3⟩
  · exact h
  · exfalso
    generalize hz : (p_nm x).toNat = z at a3
    have hz2 : z < 11 := by omega
    rcases (by omega : z = 0 ∨ z = 1 ∨ z = 2 ∨ z = 3 ∨ z = 4 ∨ z = 5 ∨ z = 6 ∨ z = 7 ∨ z = 8 ∨ z = 9 ∨ z = 10) with rfl | rfl | rfl | rfl | rfl | rfl | rfl | rfl | rfl | rfl | rfl <;> (have a3 := Option.some.inj a3; omega)
theorem r_nameOf (x : Int) : t_run tbl mtb (d + 1) 169 [vi x] σ = some (some (vi (p_nm x)), σ) := by
  rw [run_go (k := 169) (as := [vi x]) mt_169 (Nat.ne_of_beq_eq_false rfl) rfl (s_kX12_nameOf_0 _ x σ)]
  by_cases e1 : x = 116
  · subst e1; rfl
  by_cases e2 : x = 112
  · subst e2; rfl
  by_cases e3 : x = 102
  · subst e3; rfl
  by_cases e4 : x = 104
  · subst e4; rfl
  by_cases e5 : x = 99
  · subst e5; rfl
  by_cases e6 : x = 111
  · subst e6; rfl
  by_cases e7 : x = 100
  · subst e7; rfl
  by_cases e8 : x = 118
  · subst e8; rfl
  by_cases e9 : x = 110
  · subst e9; rfl
  by_cases e10 : x = 122
  · subst e10; rfl
  by_cases e11 : x = 119
  · subst e11; rfl
  by_cases f101 : x = 101
  · subst f101; rfl
  by_cases f103 : x = 103
  · subst f103; rfl
  by_cases f105 : x = 105
  · subst f105; rfl
  by_cases f106 : x = 106
  · subst f106; rfl
  by_cases f107 : x = 107
  · subst f107; rfl
  by_cases f108 : x = 108
  · subst f108; rfl
  by_cases f109 : x = 109
  · subst f109; rfl
  by_cases f113 : x = 113
  · subst f113; rfl
  by_cases f114 : x = 114
  · subst f114; rfl
  by_cases f115 : x = 115
  · subst f115; rfl
  by_cases f117 : x = 117
  · subst f117; rfl
  by_cases f120 : x = 120
  · subst f120; rfl
  by_cases f121 : x = 121
  · subst f121; rfl
  rw [p_nm_not e1 e2 e3 e4 e5 e6 e7 e8 e9 e10 e11]
  simp only [if_neg e1, if_neg e2, if_neg e3, if_neg e4, if_neg e5, if_neg e6, if_neg e7, if_neg e8, if_neg e9, if_neg e10, if_neg e11, if_neg f101, if_neg f103, if_neg f105, if_neg f106, if_neg f107, if_neg f108, if_neg f109, if_neg f113, if_neg f114, if_neg f115, if_neg f117, if_neg f120, if_neg f121]
  rfl
end
def RQ (b : Nat → Int) (n : Nat) (N : Nat → Int) (σ0 : TM) (o : Nat) (X : Option (Option TV × TM)) : PR → Prop
  | .inl e => ∃ σ' x, Sc s3 σ0 σ' ∧ σ' 51 0 53 = (e : Int) ∧ (∃ z : Nat, z ≤ n ∧ σ' 51 0 51 = z) ∧ X = some (some (vi x), σ')
  | .inr (q', _, v) => ∃ σ', Sc s3 σ0 σ' ∧ Sr b n N σ' q' o ∧ X = some (some (vi (v N)), σ')
section
variable {n d : Nat} {b N : Nat → Int}
theorem r_lvlLoop {k pc sub lvl o D : Nat} {g : Nat → PR} (Lf : Int → Nat → TL)
    (hR : ∀ q s, q ≤ n → g q = .inr s → q ≤ s.1 ∧ s.1 ≤ n)
    (hg : ∀ q σ, Sr b n N σ q o → q ≤ n → RQ b n N σ o (t_run tbl mtb D sub [vh 51 0] σ) (g q))
    (hfl : ∀ (v : Int) (z : Nat) (σ : TM) (M : Nat), 0 ≤ σ 51 0 53 → t_tr tbl mtb (t_run tbl mtb D) k (M + 1) pc (Lf v z) [] σ = some (.inr (some (vi v), σ)))
    (hno : ∀ (v : Int) (q : Nat) (σ : TM) (M : Nat), Sr b n N σ q o → q ≤ n → p_op lvl (p_at b n q) = false → t_tr tbl mtb (t_run tbl mtb D) k (M + 1) pc (Lf v q) [] σ = some (.inr (some (vi v), σ)))
    (hst : ∀ (v : Int) (q : Nat) (σ : TM) (x : Int) (σ2 : TM) (z : Nat) (M : Nat), Sr b n N σ q o → q < n → p_op lvl (p_at b n q) = true → t_run tbl mtb D sub [vh 51 0] (t_upd σ 51 0 51 ((q + 1 : Nat) : Int)) = some (some (vi x), σ2) → Sc s3 σ σ2 → z ≤ n → σ2 51 0 51 = z → t_tr tbl mtb (t_run tbl mtb D) k (M + 1) pc (Lf v q) [] σ = t_tr tbl mtb (t_run tbl mtb D) k M pc (Lf (p_jn (p_at b n q) v x) z) [] σ2) :
    ∀ (f q : Nat) (c : List Int) (v : (Nat → Int) → Int) (σ0 σ : TM) (M : Nat), Sc s3 σ0 σ → Sr b n N σ q o → q ≤ n → n - q < f → n - q + 1 < M → RQ b n N σ0 o (t_out (t_tr tbl mtb (t_run tbl mtb D) k M pc (Lf (v N) q) [] σ)) (p_lp g b n lvl f (q, c, v))
  | 0, _, _, _, _, _, _, _, _, _, h, _ => by omega
  | f + 1, q, c, v, σ0, σ, M, hS, hs, hq, hf, hM => by
    unfold p_lp
    cases ho : p_op lvl (p_at b n q) with
    | false =>
      have := hno (v N) q σ (M - 1) hs hq ho
      rw [Nat.sub_add_cancel (by omega)] at this
      rw [this]
      exact ⟨σ, hS, hs, rfl⟩
    | true =>
      have hl := p_at_lt (p_op_ne ho).1
      have hg1 := hg (q + 1) _ (hs.mv rfl) hl
      have hS1 : Sc s3 σ (t_upd σ 51 0 51 ((q + 1 : Nat) : Int)) := Sc.rf.up rfl
      simp only [if_true]
      cases hgq : g (q + 1) with
      | inl e =>
        rw [hgq] at hg1
        obtain ⟨σ2, x, a1, a2, ⟨z, a3, a4⟩, a5⟩ := hg1
        have h1 := hst (v N) q σ x σ2 z (M - 1) hs hl ho a5 (hS1.tr a1) a3 a4
        rw [Nat.sub_add_cancel (by omega)] at h1
        have h2 := hfl (p_jn (p_at b n q) (v N) x) z σ2 (M - 2) (by omega)
        rw [show M - 2 + 1 = M - 1 by omega] at h2
        rw [h1, h2]
        exact ⟨σ2, _, (hS.tr hS1).tr a1, a2, ⟨z, a3, a4⟩, rfl⟩
      | inr s =>
        obtain ⟨q', c', v'⟩ := s
        have hR1 := hR (q + 1) _ hl hgq
        simp only [] at hR1
        rw [hgq] at hg1
        obtain ⟨σ2, a1, a2, a3⟩ := hg1
        have h1 := hst (v N) q σ (v' N) σ2 q' (M - 1) hs hl ho a3 (hS1.tr a1) hR1.2 a2.2.1
        rw [Nat.sub_add_cancel (by omega)] at h1
        rw [h1]
        exact r_lvlLoop Lf hR hg hfl hno hst f q' (c ++ c' ++ [20000 + p_at b n q]) (fun N => p_jn (p_at b n q) (v N) (v' N)) σ0 σ2 (M - 1) ((hS.tr hS1).tr a1) a2 hR1.2 (by omega) (by omega)
theorem r_digits (hb : ∀ i, i < n → 0 ≤ b i ∧ b i ≤ 255) (hn : n ≤ 160) {o : Nat} : ∀ (k q : Nat) (v : Int) (σ0 σ : TM) (M : Nat), k ≤ 3 → 0 ≤ v → v + 1 ≤ 10 ^ (4 - k) → Sc s3 σ0 σ → Sr b n N σ q o → q ≤ n → k < M → ∃ σ', Sc s3 σ0 σ' ∧ Sr b n N σ' (p_dg b n k q v).1 o ∧ t_tr tbl mtb (t_run tbl mtb (d + 1)) 170 M 176 [some (vh 51 0), none, none, some (vi v), some (vi ((4 - k : Nat) : Int))] [] σ = some (.inr (some (vi (p_dg b n k q v).2), σ'))
  | 0, q, v, σ0, σ, M, hk, hv, hv2, hS, hs, hq, hM => by
    refine ⟨σ, hS, hs, ?_⟩
    rw [show M = M - 1 + 1 by omega, tr_step (s_kX12_one_176 _ v ((4 - 0 : Nat) : Int) σ), if_neg (by omega), if_neg (by omega)]
    rfl
  | k + 1, q, v, σ0, σ, M, hk, hv, hv2, hS, hs, hq, hM => by
    have en := r_byteAt (d := d) hq hs.2.1 hs.2.2.1 hs.2.2.2.2.1
    have ep := r_at_p hb q
    unfold p_dg
    by_cases hd : 48 ≤ p_at b n q ∧ p_at b n q ≤ 57
    · have hl : q < n := p_at_lt (b := b) (by omega)
      have e10 : (10 : Int) ^ (4 - k) = 10 ^ (4 - (k + 1)) * 10 := by rw [show 4 - k = 4 - (k + 1) + 1 by omega, Int.pow_succ]
      have e11 : (10 : Int) ^ (4 - (k + 1)) ≤ 1000 := by
        rcases (by omega : k = 0 ∨ k = 1 ∨ k = 2) with rfl | rfl | rfl <;> decide
      have e12 : p_at b n q = r_at b n q := by omega
      obtain ⟨σ', g1, g2, g3⟩ := r_digits hb hn k (q + 1) (10 * v + p_at b n q - 48) σ0 (t_upd σ 51 0 51 ((q + 1 : Nat) : Int)) (M - 1) (by omega) (by omega) (by rw [e10]; omega) (hS.up rfl) (hs.mv rfl) hl (by omega)
      refine ⟨σ', g1, by rw [if_pos hd]; exact g2, ?_⟩
      rw [if_pos hd, show M = M - 1 + 1 by omega, tr_step (s_kX12_one_176 _ v ((4 - (k + 1) : Nat) : Int) σ), if_pos (by omega), ci_of en, if_neg (by omega), ci_of en, if_neg (by omega), ci_of en, hs.2.1, ← e12, w32_nat (by omega), w32_nat (by omega), w32_id (x := 10 * v) (by omega) (by omega), w32_id (x := 10 * v + p_at b n q) (by omega) (by omega), w32_id (x := 10 * v + p_at b n q - 48) (by omega) (by omega), nx_inl, show 4 - (k + 1) + 1 = 4 - k by omega]
      exact g3
    · refine ⟨σ, hS, by rw [if_neg hd]; exact hs, ?_⟩
      rw [if_neg hd, show M = M - 1 + 1 by omega, tr_step (s_kX12_one_176 _ v ((4 - (k + 1) : Nat) : Int) σ), if_pos (by omega), ci_of en]
      split
      · rw [if_neg (by omega)]
        rfl
      · rw [ci_of en, if_pos (by omega), if_neg (by omega)]
        rfl
end
