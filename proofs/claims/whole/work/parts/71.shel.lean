-- shelves: asked and changed by both sides
section
variable {σ : TM} {V : TVw} {d : Nat}
/-- why there is no element i on shelf x: a refusal, or 0 -/
def frf (V : TVw) (x i : Int) : Int := if 0 ≤ x ∧ x < 6 then (if V 115 x.toNat = -1 then -11 else if V 115 x.toNat < 300 then -12 else if i < 0 ∨ V 116 x.toNat ≤ i then -13 else 0) else -1
theorem frf_0 {x i : Int} (h : frf V x i = 0) : 0 ≤ x ∧ x < 6 ∧ 300 ≤ V 115 x.toNat ∧ 0 ≤ i ∧ i < V 116 x.toNat := by
  unfold frf at h
  split at h
  · split at h
    · omega
    · split at h
      · omega
      · split at h <;> omega
  · omega
theorem c_refusal (h : CR σ V) {x : Nat} (hx : x < 6) (i : Int) : t_run tbl mtb (d + 2) 32 [vh 49 x, vi i] σ = some (some (vi (frf V x i)), σ) := by
  obtain ⟨i1, i2, i3, i4, i5⟩ := h.inv 15 x hx
  obtain ⟨a1, a2, a3, -⟩ := h 14 x hx
  have er : t_run tbl mtb (d + 1) 30 [vh 49 x] σ = some (some (vi (bi (decide (300 ≤ V 115 x)))), σ) := by
    rw [run_go (k := 30) (as := [vh 49 x]) mt_30 (Nat.ne_of_beq_eq_false rfl) rfl (s_kX8_isRow_0 _ x σ)]
    by_cases z : 300 ≤ V 115 x
    · rw [(a3 z).1, if_neg (by omega), decide_eq_true z]
      rfl
    · by_cases y : V 115 x = -1
      · rw [a1 y, if_pos (by decide), decide_eq_false z]
        rfl
      · rw [(a2 (by omega) (by omega)).1, if_pos (by decide), decide_eq_false z]
        rfl
  have ef : frf V x i = if V 115 x = -1 then -11 else if V 115 x < 300 then -12 else if i < 0 ∨ V 116 x ≤ i then -13 else 0 := by
    unfold frf
    rw [if_pos (by omega), Int.toNat_natCast]
  rw [run_go (k := 32) (as := [vh 49 x, vi i]) mt_32 (Nat.ne_of_beq_eq_false rfl) rfl (s_kX8_refusal_0 _ x i σ), ci_of er, ef]
  simp only [bi_0, decide_eq_false_iff_not]
  by_cases y : V 115 x = -1
  · rw [a1 y, if_pos rfl, if_pos y]
    rfl
  · rw [if_neg y]
    by_cases z : 300 ≤ V 115 x
    · rw [(a3 z).1, (a3 z).2, if_neg (by omega), if_neg (by omega)]
      (repeat' split) <;> first | rfl | (exfalso; omega)
    · rw [(a2 (by omega) (by omega)).1, if_neg (by decide), if_pos z, if_pos (by omega)]
      rfl
theorem r_refusal (hV : RV σ V) (hI : Inv V) (x i : Int) : t_run tbl mtb (d + 3) 240 [vh 51 0, vi x, vi i] σ = some (some (vi (frf V x i)), σ) := by
  rw [run_go (k := 240) (as := [vh 51 0, vi x, vi i]) mt_240 (Nat.ne_of_beq_eq_false rfl) rfl (s_kX12_refusal_0 _ x i σ), ci_of (r_isShelf (d := d) x)]
  simp only [bi_0, decide_eq_false_iff_not]
  unfold frf
  by_cases hx : 0 ≤ x ∧ x < 6
  · obtain ⟨i1, i2, i3, i4, i5⟩ := hI 15 x.toNat (by omega)
    rw [if_neg (by omega), if_pos hx, if_pos hx, if_pos hx, if_pos hx, hV 115 _ rfl rfl rfl, hV 116 _ rfl rfl rfl]
    (repeat' split) <;> first | rfl | (exfalso; omega)
  · rw [if_pos hx, if_neg hx]
    rfl
theorem sw60 {x : Nat} (hx : x < 6) {i : Int} (h0 : 0 ≤ i) (h1 : i < 60) : w32 (w32 (60 * (x : Int)) + i) = ((60 * x + i.toNat : Nat) : Int) := by
  rw [w32_add_l, w32_id (by omega) (by omega)]
  omega
theorem two_element (hW : WW σ V) (x i : Int) : Two (d + 100) 130 243 [vi x, vi i] σ := by
  have h := hW.1
  have hI := h.inv
  refine two_ask (r := vj (if frf V x i = 0 then V 117 (60 * x.toNat + i.toNat) else -9223372036854775808)) hW ⟨σ, Sc.rf, ?_⟩ (fun s hV => ⟨s, Sc.rf, ?_⟩)
  · rw [run_go (k := 130) (as := [vh 0 0, vi x, vi i]) mt_130 (Nat.ne_of_beq_eq_false rfl) rfl (s_kX11_element_0 _ x i σ), ci_of (c_isShelf (d := d + 98) x)]
    simp only [bi_0, decide_eq_false_iff_not]
    by_cases hx : 0 ≤ x ∧ x < 6
    · obtain ⟨y, rfl⟩ : ∃ y : Nat, x = (y : Int) := ⟨x.toNat, by omega⟩
      rw [if_neg (by omega), if_pos hx, Int.toNat_natCast, ci_of (c_refusal (d := d + 97) h (by omega) i)]
      by_cases z : frf V y i = 0
      · obtain ⟨z1, z2, z3, z4, z5⟩ := frf_0 z
        rw [Int.toNat_natCast] at z3 z5
        obtain ⟨i1, i2, i3, i4, i5⟩ := hI 15 y (by omega)
        obtain ⟨-, -, -, a4⟩ := h 14 y (by omega)
        rw [if_pos z, if_pos (by omega), if_pos z, a4 i.toNat (by omega)]
        rfl
      · rw [if_neg z, if_neg z]
        rfl
    · have e : frf V x i ≠ 0 := fun q => hx ⟨(frf_0 q).1, (frf_0 q).2.1⟩
      rw [if_pos hx, if_neg e]
      rfl
  · rw [run_go (k := 243) (as := [vh 51 0, vi x, vi i]) mt_243 (Nat.ne_of_beq_eq_false rfl) rfl (s_kX12_element_0 _ x i s), ci_of (r_refusal (d := d + 96) hV hI x i)]
    by_cases z : frf V x i = 0
    · obtain ⟨z1, z2, z3, z4, z5⟩ := frf_0 z
      obtain ⟨y, rfl⟩ : ∃ y : Nat, x = (y : Int) := ⟨x.toNat, by omega⟩
      rw [Int.toNat_natCast] at z3 z5
      obtain ⟨i1, i2, i3, i4, i5⟩ := hI 15 y (by omega)
      rw [if_pos z, if_pos z, sw60 (by omega) z4 (by omega), if_pos (by omega), Int.toNat_natCast, Int.toNat_natCast, hV 117 _ rfl rfl rfl]
      rfl
    · rw [if_neg z, if_neg z]
      rfl
-- keep()
def kpV (V : TVw) (x : Nat) (o : Int) : TVw := vu (vu V 115 x o) 116 x 0
theorem two_keep (hW : WW σ V) (x o : Int) : Two (d + 100) 127 238 [vi x, vi o] σ := by
  have h := hW.1
  have hI := h.inv
  have h0 := hI.cnt
  by_cases hx : (0 ≤ x ∧ x < 6) ∧ (o = -1 ∨ 0 ≤ o ∧ o < V 51 49)
  · obtain ⟨hx, ho⟩ := hx
    obtain ⟨y, rfl⟩ : ∃ y : Nat, x = (y : Int) := ⟨x.toNat, by omega⟩
    have e115 : ∀ z, kpV V y o 115 z = if z = y then o else V 115 z := fun z => by
      unfold kpV
      rw [vu_k (by decide), vu_r]
      by_cases e : z = y
      · rw [if_pos ⟨rfl, e⟩, if_pos e]
      · rw [if_neg (fun q => e q.2), if_neg e]
    have e116 : ∀ z, kpV V y o 116 z = if z = y then 0 else V 116 z := fun z => by
      unfold kpV
      rw [vu_r]
      by_cases e : z = y
      · rw [if_pos ⟨rfl, e⟩, if_pos e]
      · rw [if_neg (fun q => e q.2), if_neg e, vu_k (by decide)]
    have hI2 : Inv (kpV V y o) := Inv.k (T := [115, 116]) (Uv.up (Uv.up Uv.rf rfl) rfl) hI (fun i hi hd => by
      rcases (by decide : ∀ i, i < 16 → djT [115, 116] (idep i) = false → i = 15) i hi hd with rfl
      intro z hz
      obtain ⟨q1, q2, q3, q4, q5⟩ := hI 15 z hz
      rw [e115, e116]
      show -1 ≤ (if z = y then o else V 115 z) ∧ (if z = y then o else V 115 z) ≤ 304 ∧ ((if z = y then o else V 115 z) < 300 → (if z = y then o else V 115 z) < V 51 49) ∧ _
      by_cases e : z = y
      · rw [if_pos e, if_pos e]
        exact ⟨by omega, by omega, fun _ => by omega, by decide, by decide⟩
      · rw [if_neg e, if_neg e]
        exact ⟨q1, q2, q3, q4, q5⟩)
    refine two_of (r := vi 1) (V' := kpV V y o) hW ⟨t_upd (t_upd σ 49 y 0 (if o = -1 then -2 else -1)) 49 y 1 o, (FC.rf.up rfl).up rfl, ?_, ?_, ?_⟩ (fun s hV => ⟨_, (FR.rf.up rfl).up rfl, hV.up.up, ?_⟩)
    · refine CR.k (T := [49, 115, 116]) (Uc.up (Uc.up Uc.rf rfl) rfl) (Uv.up (Uv.up Uv.rf rfl) rfl) h hI2 (fun i hi hd => ?_)
      rcases (by decide : ∀ i, i < 16 → djT [49, 115, 116] (cdep i) = false → i = 14) i hi hd with rfl
      intro z hz
      obtain ⟨a1, a2, a3, a4⟩ := h 14 z hz
      rw [e115, e116]
      by_cases e : z = y
      · subst e
        rw [if_pos rfl, if_pos rfl, up_j (by decide), up_same, up_same, up_j (by decide), up_j (by decide)]
        refine ⟨fun q => by rw [if_pos q], fun q _ => ⟨by rw [if_neg (by omega)], rfl⟩, fun q => by omega, fun i hi => ?_⟩
        rw [up_k (by decide), up_k (by decide)]
        exact a4 i hi
      · rw [if_neg e, if_neg e, up_i e, up_i e, up_i e, up_i e, up_i e, up_i e]
        refine ⟨a1, a2, a3, fun i hi => ?_⟩
        rw [up_k (by decide), up_k (by decide)]
        exact a4 i hi
    · exact KW.k (T := [49, 115, 116]) (Uc.up (Uc.up Uc.rf rfl) rfl) (Uv.up (Uv.up Uv.rf rfl) rfl) hW.2.2 rfl
    · rw [run_go (k := 127) (as := [vh 0 0, vi y, vi o]) mt_127 (Nat.ne_of_beq_eq_false rfl) rfl (s_kX11_keep_0 _ y o σ), ci_of (c_isShelf (d := d + 98) (y : Int)), ci_of (c_isOrder (d := d + 98) h o)]
      simp only [bi_0, decide_eq_false_iff_not, Int.toNat_natCast]
      rw [if_neg (by omega), if_pos hx]
      by_cases e : o = -1
      · rw [if_pos e, if_pos e, if_pos e]
        rfl
      · rw [if_neg e, if_neg e, if_neg e, if_neg (by omega)]
        rfl
    · rw [run_go (k := 238) (as := [vh 51 0, vi y, vi o]) mt_238 (Nat.ne_of_beq_eq_false rfl) rfl (s_kX12_keep_0 _ y o s), ci_of (r_isShelf (d := d + 97) (y : Int)), ci_of (r_isOrder (d := d + 98) hV o)]
      simp only [bi_0, decide_eq_false_iff_not, Int.toNat_natCast]
      rw [if_neg (by omega), if_pos hx, if_pos hx]
      by_cases e : o = -1
      · rw [if_pos e]
        rfl
      · rw [if_neg e, if_neg (by omega)]
        rfl
  · refine two_ask (r := vi (-1)) hW ⟨σ, Sc.rf, ?_⟩ (fun s hV => ⟨s, Sc.rf, ?_⟩)
    · rw [run_go (k := 127) (as := [vh 0 0, vi x, vi o]) mt_127 (Nat.ne_of_beq_eq_false rfl) rfl (s_kX11_keep_0 _ x o σ), ci_of (c_isShelf (d := d + 98) x), ci_of (c_isOrder (d := d + 98) h o)]
      simp only [bi_0, decide_eq_false_iff_not]
      (repeat' split) <;> first | rfl | (exfalso; omega)
    · rw [run_go (k := 238) (as := [vh 51 0, vi x, vi o]) mt_238 (Nat.ne_of_beq_eq_false rfl) rfl (s_kX12_keep_0 _ x o s), ci_of (r_isShelf (d := d + 97) x), ci_of (r_isOrder (d := d + 98) hV o)]
      simp only [bi_0, decide_eq_false_iff_not]
      (repeat' split) <;> first | rfl | (exfalso; omega)
-- row()
def rwV (V : TVw) (x : Nat) (k n : Int) (m : Nat) : TVw := fun a b => if a = 117 ∧ 60 * x ≤ b ∧ b < 60 * x + m then 0 else vu (vu V 115 x (300 + k)) 116 x n a b
theorem rwV_o {x : Nat} {k n : Int} {m a b : Nat} (h1 : a ≠ 115) (h2 : a ≠ 116) (h3 : a ≠ 117) : rwV V x k n m a b = V a b := by
  unfold rwV
  rw [if_neg (fun q => h3 q.1), vu_k h2, vu_k h1]
theorem two_row (hW : WW σ V) (x k n : Int) : Two (d + 100) 128 239 [vi x, vi k, vi n] σ := by
  have h := hW.1
  have hI := h.inv
  have h0 := hI.cnt
  by_cases hx : (0 ≤ x ∧ x < 6) ∧ (0 ≤ k ∧ k ≤ 4) ∧ 0 ≤ n ∧ n ≤ 60
  · obtain ⟨hx, hk, hn⟩ := hx
    obtain ⟨y, rfl⟩ : ∃ y : Nat, x = (y : Int) := ⟨x.toNat, by omega⟩
    have e115 : ∀ z, rwV V y k n 60 115 z = if z = y then 300 + k else V 115 z := fun z => by
      unfold rwV
      rw [if_neg (by rintro ⟨q, -⟩; cases q), vu_k (by decide), vu_r]
      by_cases e : z = y
      · rw [if_pos ⟨rfl, e⟩, if_pos e]
      · rw [if_neg (fun q => e q.2), if_neg e]
    have e116 : ∀ z, rwV V y k n 60 116 z = if z = y then n else V 116 z := fun z => by
      unfold rwV
      rw [if_neg (by rintro ⟨q, -⟩; cases q), vu_r]
      by_cases e : z = y
      · rw [if_pos ⟨rfl, e⟩, if_pos e]
      · rw [if_neg (fun q => e q.2), if_neg e, vu_k (by decide)]
    have uV : Uv [49, 50, 115, 116, 117] V (rwV V y k n 60) := fun a b _ q => rwV_o (by rintro rfl; cases q) (by rintro rfl; cases q) (by rintro rfl; cases q)
    have hI2 : Inv (rwV V y k n 60) := Inv.k uV hI (fun i hi hd => by
      rcases (by decide : ∀ i, i < 16 → djT [49, 50, 115, 116, 117] (idep i) = false → i = 15) i hi hd with rfl
      intro z hz
      obtain ⟨q1, q2, q3, q4, q5⟩ := hI 15 z hz
      rw [e115, e116]
      show -1 ≤ (if z = y then 300 + k else V 115 z) ∧ (if z = y then 300 + k else V 115 z) ≤ 304 ∧ ((if z = y then 300 + k else V 115 z) < 300 → (if z = y then 300 + k else V 115 z) < V 51 49) ∧ _
      by_cases e : z = y
      · rw [if_pos e, if_pos e]
        exact ⟨by omega, by omega, fun _ => by omega, hn.1, hn.2⟩
      · rw [if_neg e, if_neg e]
        exact ⟨q1, q2, q3, q4, q5⟩)
    have hb : ∃ s, (∀ a i j, ¬ (a = 49 ∧ i = y ∧ (j = 0 ∨ j = 2) ∨ a = 50 ∧ i = y ∧ j < 60) → s a i j = σ a i j) ∧ s 49 y 0 = k ∧ s 49 y 2 = n ∧ (∀ j, j < 60 → s 50 y j = 0) ∧ t_run tbl mtb (d + 99) 31 [vh 49 y, vi k, vi n] σ = some (none, s) := by
      obtain ⟨L, s, ⟨a1, a2, a3, rfl⟩, e⟩ := loop_rel (O := t_run tbl mtb (d + 98)) (k := 31) (pc := 12) (fun m L s => (∀ a i j, ¬ (a = 50 ∧ i = y ∧ j < m) → s a i j = t_upd (t_upd σ 49 y 0 k) 49 y 2 n a i j) ∧ (∀ j, j < m → s 50 y j = 0) ∧ s 49 y 0 = k ∧ L = [some (vh 49 y), none, none, some (vi (m : Int))]) 60 (by
        rintro m L s hm ⟨c1, c2, c3, rfl⟩
        have r1 : 0 ≤ (m : Int) ∧ (m : Int) < 60 := by omega
        have st := fun N => tr_step (n := N) (s_kX8_becomeRow_12 (t_run tbl mtb (d + 98)) y m s )
        simp only [if_pos (show (m : Int) < 60 by omega), w32_nat (show m < 2147483647 by omega), Int.toNat_natCast, if_pos r1] at st
        refine ⟨_, _, ⟨fun a i j q => ?_, fun j hj => ?_, ?_, rfl⟩, st⟩
        · rw [t_upd_eq, if_neg (fun z => q ⟨z.1, z.2.1, by omega⟩)]
          exact c1 a i j (fun z => q ⟨z.1, z.2.1, by omega⟩)
        · by_cases e : j = m
          · subst e
            exact up_same
          · rw [up_j e]
            exact c2 j (by omega)
        · rw [up_k (by decide)]
          exact c3) 60 0 [some (vh 49 y), none, none, some (vi ((0 : Nat) : Int))] (t_upd (t_upd σ 49 y 0 k) 49 y 2 n) (by omega) ⟨fun a i j _ => rfl, fun j hj => by omega, by rw [up_j (by decide), up_same], rfl⟩
      refine ⟨s, fun a i j q => ?_, a3, ?_, a2, ?_⟩
      · rw [a1 a i j (fun z => q (.inr z)), t_upd_eq, if_neg (fun z => q (.inl ⟨z.1, z.2.1, .inr z.2.2⟩)), t_upd_eq, if_neg (fun z => q (.inl ⟨z.1, z.2.1, .inl z.2.2⟩))]
      · rw [a1 49 y 2 (by rintro ⟨q, -⟩; cases q), up_same]
      · have e : t_tr tbl mtb (t_run tbl mtb (d + 98)) 31 (999938 + 1 + 60) 12 [some (vh 49 y), none, none, some (vi 0)] [] (t_upd (t_upd σ 49 y 0 k) 49 y 2 n) = _ := e (999938 + 1)
        rw [run_go (k := 31) (as := [vh 49 y, vi k, vi n]) mt_31 (Nat.ne_of_beq_eq_false rfl) rfl (s_kX8_becomeRow_0 _ y k n σ), nx_inl, show 999999 = 999938 + 1 + 60 from rfl, e, tr_step (s_kX8_becomeRow_12 _ y ((60 : Nat) : Int) s), if_neg (by decide)]
        rfl
    obtain ⟨s1', c1, c2, c3, c4, c5⟩ := hb
    refine two_of (r := vi 1) (V' := rwV V y k n 60) hW ⟨s1', fun a i j q => c1 a i j (by omega), ?_, ?_, ?_⟩ (fun s hV => ?_)
    · refine CR.k (T := [49, 50, 115, 116, 117]) (fun a i j _ q => c1 a i j (by rintro (⟨rfl, -⟩ | ⟨rfl, -⟩) <;> cases q)) uV h hI2 (fun i hi hd => ?_)
      rcases (by decide : ∀ i, i < 16 → djT [49, 50, 115, 116, 117] (cdep i) = false → i = 14) i hi hd with rfl
      intro z hz
      obtain ⟨a1, a2, a3, a4⟩ := h 14 z hz
      rw [e115, e116]
      by_cases e : z = y
      · subst e
        rw [if_pos rfl, if_pos rfl, c2, c3]
        refine ⟨fun q => by omega, fun q _ => by omega, fun q => ⟨by omega, rfl⟩, fun i hi => ?_⟩
        rw [c4 i hi]
        exact (if_pos ⟨rfl, by omega, by omega⟩).symm
      · rw [if_neg e, if_neg e]
        have c1' : ∀ a j, s1' a z j = σ a z j := fun a j => c1 a z j (by rintro (⟨-, q, -⟩ | ⟨-, q, -⟩) <;> exact e q)
        simp only [c1']
        refine ⟨a1, a2, a3, fun i hi => ?_⟩
        rw [a4 i hi]
        have q : rwV V y k n 60 117 (60 * z + i) = V 117 (60 * z + i) := by
          unfold rwV
          rw [if_neg (by omega), vu_k (by decide), vu_k (by decide)]
        exact q.symm
    · exact KW.k (T := [49, 50, 115, 116, 117]) (fun a i j _ q => c1 a i j (by rintro (⟨rfl, -⟩ | ⟨rfl, -⟩) <;> cases q)) uV hW.2.2 rfl
    · rw [run_go (k := 128) (as := [vh 0 0, vi y, vi k, vi n]) mt_128 (Nat.ne_of_beq_eq_false rfl) rfl (s_kX11_row_0 _ y k n σ), ci_of (c_isShelf (d := d + 98) (y : Int))]
      simp only [bi_0, decide_eq_false_iff_not]
      rw [if_neg (by omega), if_neg (by omega), if_neg (by omega), if_neg (by omega), if_neg (by omega), if_pos hx, Int.toNat_natCast, cv_of c5]
      rfl
    · have e0 : RV (t_upd (t_upd s 115 0 y (300 + k)) 116 0 y n) (rwV V y k n 0) := by
        intro a b g1 g2 g3
        rw [hV.up.up a b g1 g2 g3]
        unfold rwV
        rw [if_neg (by omega)]
      obtain ⟨L, s', ⟨a1, a2, rfl⟩, e⟩ := loop_rel (O := t_run tbl mtb (d + 99)) (k := 239) (pc := 58) (fun m L s' => FR s s' ∧ RV s' (rwV V y k n m) ∧ L = [some (vh 51 0), some (vi (y : Int)), none, none, some (vi ((60 * y + m : Nat) : Int))]) 60 (by
        rintro m L s' hm ⟨b1, b2, rfl⟩
        have r1 : 0 ≤ ((60 * y + m : Nat) : Int) ∧ ((60 * y + m : Nat) : Int) < 360 := by omega
        have ew : w32 (w32 (60 * (y : Int)) + 60) = 60 * (y : Int) + 60 := by rw [w32_add_l, w32_id (by omega) (by omega)]
        have st := fun N => tr_step (n := N) (s_kX12_row_58 (t_run tbl mtb (d + 99)) y ((60 * y + m : Nat) : Int) s' )
        simp only [ew, if_pos (show ((60 * y + m : Nat) : Int) < 60 * (y : Int) + 60 by omega), w32_nat (show 60 * y + m < 2147483647 by omega), Int.toNat_natCast, if_pos r1] at st
        refine ⟨_, _, ⟨b1.up rfl, fun a b g1 g2 g3 => ?_, rfl⟩, st⟩
        have q := b2 a b g1 g2 g3
        unfold rwV
        by_cases z : a = 117 ∧ b = 60 * y + m
        · obtain ⟨rfl, rfl⟩ := z
          rw [up_same, if_pos ⟨rfl, by omega, by omega⟩]
        · rw [t_upd_eq, if_neg (fun q => z ⟨q.1, q.2.2⟩), q]
          unfold rwV
          by_cases w : a = 117 ∧ 60 * y ≤ b ∧ b < 60 * y + m
          · rw [if_pos w, if_pos ⟨w.1, w.2.1, by omega⟩]
          · rw [if_neg w, if_neg (fun q => w ⟨q.1, q.2.1, by have := q.2.2; have : b ≠ 60 * y + m := fun e => z ⟨q.1, e⟩; omega⟩)]) 60 0 [some (vh 51 0), some (vi (y : Int)), none, none, some (vi ((60 * y + 0 : Nat) : Int))] _ (by omega) ⟨(FR.rf.up rfl).up rfl, e0, rfl⟩
      refine ⟨s', a1, a2, ?_⟩
      have ew : w32 (w32 (60 * (y : Int)) + 60) = 60 * (y : Int) + 60 := by rw [w32_add_l, w32_id (by omega) (by omega)]
      have ew2 : w32 (60 * (y : Int)) = ((60 * y + 0 : Nat) : Int) := by rw [w32_id (by omega) (by omega)]; omega
      have ew3 : w32 (300 + k) = 300 + k := w32_id (by omega) (by omega)
      rw [run_go (k := 239) (as := [vh 51 0, vi y, vi k, vi n]) mt_239 (Nat.ne_of_beq_eq_false rfl) rfl (s_kX12_row_0 _ y k n s), ci_of (r_isShelf (d := d + 97) (y : Int)), ci_of (r_within (d := d + 98) k 0 4)]
      simp only [bi_0, decide_eq_false_iff_not]
      rw [if_neg (by omega), if_neg (by omega), if_neg (by omega), if_neg (by omega), if_pos hx, if_pos hx, nx_inl, Int.toNat_natCast, ew2, ew3, show 999999 = 999938 + 1 + 60 from rfl, e, tr_step (s_kX12_row_58 _ y ((60 * y + 60 : Nat) : Int) s'), ew, if_neg (by omega)]
      rfl
  · refine two_ask (r := vi (if (0 ≤ x ∧ x < 6) ∧ (0 ≤ k ∧ k ≤ 4) ∧ n < 0 then -14 else -1)) hW ⟨σ, Sc.rf, ?_⟩ (fun s hV => ⟨s, Sc.rf, ?_⟩)
    · rw [run_go (k := 128) (as := [vh 0 0, vi x, vi k, vi n]) mt_128 (Nat.ne_of_beq_eq_false rfl) rfl (s_kX11_row_0 _ x k n σ), ci_of (c_isShelf (d := d + 98) x)]
      simp only [bi_0, decide_eq_false_iff_not]
      (repeat' split) <;> first | rfl | (exfalso; omega)
    · rw [run_go (k := 239) (as := [vh 51 0, vi x, vi k, vi n]) mt_239 (Nat.ne_of_beq_eq_false rfl) rfl (s_kX12_row_0 _ x k n s), ci_of (r_isShelf (d := d + 97) x), ci_of (r_within (d := d + 98) k 0 4)]
      simp only [bi_0, decide_eq_false_iff_not]
      (repeat' split) <;> first | rfl | (exfalso; omega)
end
