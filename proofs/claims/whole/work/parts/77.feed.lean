-- feed(): both sides
section
variable {σ : TM} {V : TVw} {d : Nat}
theorem s32_nat (Y : Int32) : ((Y.toBitVec.toNat % 256 : Nat) : Int) = Y.toInt % 256 := by
  have h : Y.toInt = if 2 * Y.toBitVec.toNat < 2 ^ 32 then (Y.toBitVec.toNat : Int) else (Y.toBitVec.toNat : Int) - ((2 ^ 32 : Nat) : Int) := BitVec.toInt_eq_toNat_cond Y.toBitVec
  rw [h]
  split <;> omega
theorem ni_lo {n : Nat} (h : n < 256) : (Int32.ofNat n).toInt = (n : Int) := Int32.toInt_ofNat_of_lt (by omega)
/-- byte k of a number -/
noncomputable def byt (v : Int) (k : Nat) : Int := i_and (i_shr v ((8 * k : Nat) : Int)) 255
theorem i_and_255 (a : Int32) : i_and a.toInt 255 = ((a.toBitVec.toNat % 256 : Nat) : Int) := by
  rw [i_and_eq, Int32.ofInt_toInt]
  have h := pk_and a (m := 255) 8 rfl
  show (a &&& 255).toInt = _
  rw [h]
  exact ni_lo (Nat.mod_lt _ (by decide))
theorem byt_r (v : Int) (k : Nat) : 0 ≤ byt v k ∧ byt v k ≤ 255 := by
  unfold byt
  rw [i_shr_eq, i_and_255]
  have := Nat.mod_lt (Int32.ofInt v >>> (Int32.ofInt ((8 * k : Nat) : Int) &&& 31)).toBitVec.toNat (show 256 > 0 by decide)
  omega
theorem byt_u (v : Int) {k : Nat} (hk : k < 4) : i_and (i_ushr v ((8 * k : Nat) : Int)) 255 = byt v k := by
  unfold byt
  rw [i_shr_eq, i_ushr_eq, i_and_255, i_and_255]
  have ha : (Int32.ofInt v).toInt = if 2 * (Int32.ofInt v).toBitVec.toNat < 2 ^ 32 then ((Int32.ofInt v).toBitVec.toNat : Int) else ((Int32.ofInt v).toBitVec.toNat : Int) - ((2 ^ 32 : Nat) : Int) := BitVec.toInt_eq_toNat_cond _
  generalize Int32.ofInt v = a at ha ⊢
  have hl : a.toBitVec.toNat < 2 ^ 32 := a.toBitVec.isLt
  have h2 := fun s => s32_nat (a >>> (Int32.ofInt s &&& 31))
  rcases (by omega : k = 0 ∨ k = 1 ∨ k = 2 ∨ k = 3) with rfl | rfl | rfl | rfl
  · have e1 := pk_ushr a (Int32.ofInt ((8 * 0 : Nat) : Int)) 0 rfl
    have e2 := pk_shr a (Int32.ofInt ((8 * 0 : Nat) : Int) &&& 31) 0 rfl
    rw [e1, h2, e2, Int.shiftRight_eq_div_pow, ha]
    split <;> omega
  · have e1 := pk_ushr a (Int32.ofInt ((8 * 1 : Nat) : Int)) 8 rfl
    have e2 := pk_shr a (Int32.ofInt ((8 * 1 : Nat) : Int) &&& 31) 8 rfl
    rw [e1, h2, e2, Int.shiftRight_eq_div_pow, ha]
    split <;> omega
  · have e1 := pk_ushr a (Int32.ofInt ((8 * 2 : Nat) : Int)) 16 rfl
    have e2 := pk_shr a (Int32.ofInt ((8 * 2 : Nat) : Int) &&& 31) 16 rfl
    rw [e1, h2, e2, Int.shiftRight_eq_div_pow, ha]
    split <;> omega
  · have e1 := pk_ushr a (Int32.ofInt ((8 * 3 : Nat) : Int)) 24 rfl
    have e2 := pk_shr a (Int32.ofInt ((8 * 3 : Nat) : Int) &&& 31) 24 rfl
    rw [e1, h2, e2, Int.shiftRight_eq_div_pow, ha]
    split <;> omega
noncomputable def fdV (V : TVw) (v : Int) (m : Nat) : TVw := fun a b => if a = 75 ∧ (V 51 28).toNat ≤ b ∧ b < (V 51 28).toNat + m then byt v (b - (V 51 28).toNat) else if a = 51 ∧ b = 28 then V 51 28 + m else V a b
theorem fdV_o {v : Int} {m a b : Nat} (h1 : a ≠ 75) (h2 : ¬ (a = 51 ∧ b = 28)) : fdV V v m a b = V a b := by
  unfold fdV
  rw [if_neg (fun q => h1 q.1), if_neg h2]
theorem fdV_28 {v : Int} {m : Nat} : fdV V v m 51 28 = V 51 28 + m := by
  unfold fdV
  rw [if_neg (fun q => by cases q.1), if_pos ⟨rfl, rfl⟩]
theorem fdV_75 {v : Int} {m b : Nat} : fdV V v m 75 b = if (V 51 28).toNat ≤ b ∧ b < (V 51 28).toNat + m then byt v (b - (V 51 28).toNat) else V 75 b := by
  unfold fdV
  by_cases e : (V 51 28).toNat ≤ b ∧ b < (V 51 28).toNat + m
  · rw [if_pos ⟨rfl, e⟩, if_pos e]
  · rw [if_neg (fun q => e q.2), if_neg e, if_neg (fun q => by cases q.1)]
set_option maxHeartbeats 2000000 in
theorem two_feed (hW : WW σ V) (n v : Int) : Two (d + 100) 74 160 [vi n, vi v] σ := by
  have h := hW.1
  have hI := h.inv
  have h0 := hI.cnt
  have htl := h.tl
  by_cases hn : 1 ≤ n ∧ n ≤ 4
  · obtain ⟨m, rfl⟩ : ∃ m : Nat, n = (m : Int) := ⟨n.toNat, by omega⟩
    have ew : w32 (V 51 28 + (m : Int)) = V 51 28 + m := w32_id (by omega) (by omega)
    by_cases hf : V 51 28 + m ≤ 160
    · have uV : Uv [1000 + 128 * 23, 24, 75, 7556] V (fdV V v m) := fun a b _ q => fdV_o (by rintro rfl; cases q) (by rintro ⟨rfl, rfl⟩; cases q)
      have hI2 : Inv (fdV V v m) := Inv.k uV hI (fun i hi hd => by
        rcases (by decide : ∀ i, i < 16 → djT [1000 + 128 * 23, 24, 75, 7556] (idep i) = false → i = 0 ∨ i = 8) i hi hd with rfl | rfl
        · obtain ⟨q1, q2, q3, q4, q5, q6, q7, q8, q9, q10, q11, q12, q13, q14, q15, q16⟩ := hI 0
          refine ⟨q1, q2, q3, q4, q5, q6, q7, q8, q9, q10, q11, q12, q13, q14, ?_, ?_⟩
          · rw [fdV_28]; omega
          · rw [fdV_28]; omega
        · intro i hi
          rw [fdV_28] at hi
          rw [fdV_75]
          split
          · exact byt_r _ _
          · exact hI 8 i (by omega))
      -- the class
      obtain ⟨L1, s1', ⟨a1, a2, a3, rfl⟩, e1⟩ := loop_rel (O := t_run tbl mtb (d + 99)) (k := 74) (pc := 32) (fun k L s => (∀ x i j, ¬ (x = 23 ∧ j = 0 ∨ x = 24) → s x i j = σ x i j) ∧ s 23 0 0 = V 51 28 + k ∧ (∀ i : Nat, (i : Int) < V 51 28 + k → s 24 0 i = fdV V v k 75 i) ∧ L = [some (vh 0 0), some (vi (m : Int)), some (vi v), some (vi (k : Int))]) m (by
        rintro k L s hk ⟨b1, b2, b3, rfl⟩
        have r1 : 0 ≤ V 51 28 + (k : Int) ∧ V 51 28 + (k : Int) < 160 := by omega
        have ew8 : w32 (8 * (k : Int)) = ((8 * k : Nat) : Int) := by rw [w32_id (by omega) (by omega)]; omega
        have ea : t_run tbl mtb (d + 99) 35 [vh 23 0, vi (byt v k)] s = some (none, t_upd (t_upd s 24 0 (V 51 28 + (k : Int)).toNat (byt v k)) 23 0 0 (V 51 28 + k + 1)) := by
          rw [run_go (k := 35) (as := [vh 23 0, vi (byt v k)]) mt_35 (Nat.ne_of_beq_eq_false rfl) rfl (s_kX9_add_0 _ (byt v k) s)]
          simp only [b2, if_pos (show V 51 28 + (k : Int) < 160 by omega), if_pos r1, up_k (show (23 : Nat) ≠ 24 by decide)]
          rw [w32_id (by omega) (by omega)]
          rfl
        have st := fun N => tr_step (n := N) (s_kX11_feed_32 (t_run tbl mtb (d + 99)) m v k s )
        simp only [if_pos (show (k : Int) < (m : Int) by omega), ew8, byt_u v (show k < 4 by omega), ea, cv_ok, w32_nat (show k < 2147483647 by omega)] at st
        refine ⟨_, _, ⟨fun x i j q => ?_, ?_, fun i hi => ?_, rfl⟩, st⟩
        · rw [t_upd_eq, if_neg (fun z => q (.inl ⟨z.1, z.2.2⟩)), t_upd_eq, if_neg (fun z => q (.inr z.1))]
          exact b1 x i j q
        · rw [up_same]
          omega
        · rw [up_k (show (24 : Nat) ≠ 23 by decide), fdV_75]
          by_cases e : i = (V 51 28).toNat + k
          · rw [show (V 51 28 + (k : Int)).toNat = i by omega, up_same, if_pos (by omega), show i - (V 51 28).toNat = k by omega]
          · rw [up_j (by omega), b3 i (by omega), fdV_75]
            by_cases e2 : (V 51 28).toNat ≤ i ∧ i < (V 51 28).toNat + k
            · rw [if_pos e2, if_pos (by omega)]
            · rw [if_neg e2, if_neg (by omega)]) m 0 [some (vh 0 0), some (vi (m : Int)), some (vi v), some (vi ((0 : Nat) : Int))] σ (by omega) ⟨fun x i j _ => rfl, by rw [htl]; omega, fun i hi => by rw [fdV_75, if_neg (by omega)]; exact h 8 i (by show i < (V 51 28).toNat; omega), rfl⟩
      refine two_of (r := vi (V 51 28 + m)) (V' := fdV V v m) hW ⟨s1', fun k i j hk => a1 k i j (by omega), CR.k (T := [1000 + 128 * 23, 24, 75, 7556]) (fun a i j _ q => a1 a i j (by rintro (⟨rfl, rfl⟩ | rfl) <;> cases q)) uV h hI2 (fun i hi hd => ?_), KW.k (T := [1000 + 128 * 23, 24, 75, 7556]) (fun a i j _ q => a1 a i j (by rintro (⟨rfl, rfl⟩ | rfl) <;> cases q)) uV hW.2.2 rfl, ?_⟩ (fun s hV => ?_)
      · rcases (by decide : ∀ i, i < 16 → djT [1000 + 128 * 23, 24, 75, 7556] (cdep i) = false → i = 0 ∨ i = 8) i hi hd with rfl | rfl
        · obtain ⟨q1, q2, q3, q4, q5, q6, q7, q8⟩ := h 0
          have f : ∀ j, s1' 0 0 j = σ 0 0 j := fun j => a1 0 0 j (by omega)
          rw [show fdV V v m = fdV V v m from rfl]
          refine ⟨(f 0).trans q1, (f 2).trans q2, (f 4).trans q3, (f 7).trans q4, (f 9).trans q5, (f 11).trans q6, (f 13).trans q7, ?_⟩
          rw [a2, fdV_28]
        · intro i hi
          rw [fdV_28] at hi
          exact a3 i (by omega)
      · obtain ⟨N, hN⟩ : ∃ N, 999999 = N + 1 + m := ⟨999999 - (m + 1), by omega⟩
        have e1 : t_tr tbl mtb (t_run tbl mtb (d + 99)) 74 (N + 1 + m) 32 [some (vh 0 0), some (vi (m : Int)), some (vi v), some (vi 0)] [] σ = _ := e1 _
        rw [run_go (k := 74) (as := [vh 0 0, vi m, vi v]) mt_74 (Nat.ne_of_beq_eq_false rfl) rfl (s_kX11_feed_0 _ m v σ), if_neg (by omega), if_neg (by omega), htl, ew, if_neg (by omega), nx_inl, hN, e1, tr_step (s_kX11_feed_32 _ m v (m : Int) s1'), if_neg (by omega), a2]
        rfl
      · obtain ⟨L2, s2', ⟨c1, c2, rfl⟩, e2⟩ := loop_rel (O := t_run tbl mtb (d + 99)) (k := 160) (pc := 31) (fun k L s' => FR s s' ∧ RV s' (fdV V v k) ∧ L = [some (vh 51 0), some (vi (m : Int)), some (vi v), some (vi (k : Int))]) m (by
          rintro k L s' hk ⟨b1, b2, rfl⟩
          have r1 : 0 ≤ V 51 28 + (k : Int) ∧ V 51 28 + (k : Int) < 160 := by omega
          have ew8 : w32 (8 * (k : Int)) = ((8 * k : Nat) : Int) := by rw [w32_id (by omega) (by omega)]; omega
          have q28 : s' 51 0 28 = V 51 28 + k := (b2 51 28 rfl rfl rfl).trans fdV_28
          have ebt : i_and (i_shr v ((8 * k : Nat) : Int)) 255 = byt v k := rfl
          have st := fun N => tr_step (n := N) (s_kX12_feed_31 (t_run tbl mtb (d + 99)) m v k s' )
          simp only [if_pos (show (k : Int) < (m : Int) by omega), q28, if_pos r1, ew8, ebt, up_k (show (51 : Nat) ≠ 75 by decide), w32_id (show -2147483648 ≤ V 51 28 + (k : Int) + 1 by omega) (show V 51 28 + (k : Int) + 1 ≤ 2147483647 by omega), w32_nat (show k < 2147483647 by omega)] at st
          refine ⟨_, _, ⟨(b1.up rfl).up rfl, fun a b g1 g2 g3 => ?_, rfl⟩, st⟩
          have q := b2 a b g1 g2 g3
          by_cases e51 : a = 51 ∧ b = 28
          · obtain ⟨rfl, rfl⟩ := e51
            rw [up_same, fdV_28]
            omega
          · rw [t_upd_eq, if_neg (fun z => e51 ⟨z.1, z.2.2⟩)]
            by_cases e75 : a = 75
            · subst e75
              rw [fdV_75]
              by_cases e : b = (V 51 28).toNat + k
              · rw [show (V 51 28 + (k : Int)).toNat = b by omega, up_same, if_pos (by omega), show b - (V 51 28).toNat = k by omega]
              · rw [up_j (by omega), q, fdV_75]
                by_cases e2 : (V 51 28).toNat ≤ b ∧ b < (V 51 28).toNat + k
                · rw [if_pos e2, if_pos (by omega)]
                · rw [if_neg e2, if_neg (by omega)]
            · rw [up_k e75, q, fdV_o e75 e51, fdV_o e75 e51]) m 0 [some (vh 51 0), some (vi (m : Int)), some (vi v), some (vi ((0 : Nat) : Int))] s (by omega) ⟨FR.rf, fun a b g1 g2 g3 => by
            rw [hV a b g1 g2 g3]
            by_cases e75 : a = 75
            · subst e75
              rw [fdV_75, if_neg (by omega)]
            · by_cases e51 : a = 51 ∧ b = 28
              · obtain ⟨rfl, rfl⟩ := e51
                rw [fdV_28]
                omega
              · rw [fdV_o e75 e51], rfl⟩
        refine ⟨s2', c1, c2, ?_⟩
        obtain ⟨N, hN⟩ : ∃ N, 999999 = N + 1 + m := ⟨999999 - (m + 1), by omega⟩
        have e2 : t_tr tbl mtb (t_run tbl mtb (d + 99)) 160 (N + 1 + m) 31 [some (vh 51 0), some (vi (m : Int)), some (vi v), some (vi 0)] [] s = _ := e2 _
        have q28 : s2' 51 0 28 = V 51 28 + m := (c2 51 28 rfl rfl rfl).trans fdV_28
        rw [run_go (k := 160) (as := [vh 51 0, vi m, vi v]) mt_160 (Nat.ne_of_beq_eq_false rfl) rfl (s_kX12_feed_0 _ m v s), ci_of (r_within (d := d + 98) (m : Int) 1 4), hV 51 28 rfl rfl rfl, ew]
        simp only [bi_0, decide_eq_false_iff_not]
        rw [if_neg (by omega), if_neg (by omega), nx_inl, hN, e2, tr_step (s_kX12_feed_31 _ m v (m : Int) s2'), if_neg (by omega), q28]
        rfl
    · refine two_ask (r := vi (-3)) hW ⟨σ, Sc.rf, ?_⟩ (fun s hV => ⟨s, Sc.rf, ?_⟩)
      · rw [run_go (k := 74) (as := [vh 0 0, vi m, vi v]) mt_74 (Nat.ne_of_beq_eq_false rfl) rfl (s_kX11_feed_0 _ m v σ), htl, ew, if_neg (by omega), if_neg (by omega), if_pos (by omega)]
        rfl
      · rw [run_go (k := 160) (as := [vh 51 0, vi m, vi v]) mt_160 (Nat.ne_of_beq_eq_false rfl) rfl (s_kX12_feed_0 _ m v s), ci_of (r_within (d := d + 98) (m : Int) 1 4), hV 51 28 rfl rfl rfl, ew]
        simp only [bi_0, decide_eq_false_iff_not]
        rw [if_neg (by omega), if_pos (by omega)]
        rfl
  · refine two_ask (r := vi (-1)) hW ⟨σ, Sc.rf, ?_⟩ (fun s hV => ⟨s, Sc.rf, ?_⟩)
    · rw [run_go (k := 74) (as := [vh 0 0, vi n, vi v]) mt_74 (Nat.ne_of_beq_eq_false rfl) rfl (s_kX11_feed_0 _ n v σ)]
      by_cases q : n < 1
      · rw [if_pos q]
        rfl
      · rw [if_neg q, if_pos (by omega)]
        rfl
    · rw [run_go (k := 160) (as := [vh 51 0, vi n, vi v]) mt_160 (Nat.ne_of_beq_eq_false rfl) rfl (s_kX12_feed_0 _ n v s), ci_of (r_within (d := d + 98) n 1 4)]
      simp only [bi_0, decide_eq_false_iff_not]
      rw [if_pos hn]
      rfl
end
