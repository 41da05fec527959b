-- put(), shift(), taken()
section
variable {σ : TM} {V : TVw} {d : Nat}
/-- a number cut to a shelf's sort -/
noncomputable def fcu (k v : Int) : Int := if k = 0 then i_b (w32 v) else if k = 1 then i_s (w32 v) else if k = 2 then w32 v else if k = 4 then (if v = 0 then 0 else 1) else v
theorem c_cut {x : Nat} {k : Int} (hk : σ 49 x 0 = k) (v : Int) : t_run tbl mtb (d + 1) 34 [vh 49 x, vj v] σ = some (some (vj (fcu k v)), σ) := by
  rw [run_go (k := 34) (as := [vh 49 x, vj v]) mt_34 (Nat.ne_of_beq_eq_false rfl) rfl (s_kX8_cut_0 _ x v σ), hk]
  unfold fcu
  by_cases k0 : k = 0
  · rw [if_pos k0, if_pos k0]
    rfl
  · rw [if_neg k0, if_neg k0]
    by_cases k1 : k = 1
    · rw [if_pos k1, if_pos k1]
      rfl
    · rw [if_neg k1, if_neg k1]
      by_cases k2 : k = 2
      · rw [if_pos k2, if_pos k2]
        rfl
      · rw [if_neg k2, if_neg k2]
        (repeat' split) <;> first | rfl | (exfalso; omega)
theorem r_asSort (k v : Int) : t_run tbl mtb (d + 1) 241 [vi k, vj v] σ = some (some (vj (fcu k v)), σ) := by
  rw [run_go (k := 241) (as := [vi k, vj v]) mt_241 (Nat.ne_of_beq_eq_false rfl) rfl (s_kX12_asSort_0 _ k v σ)]
  unfold fcu
  by_cases k0 : k = 0
  · rw [if_pos k0, if_pos k0]
    rfl
  · rw [if_neg k0, if_neg k0]
    by_cases k1 : k = 1
    · rw [if_pos k1, if_pos k1]
      rfl
    · rw [if_neg k1, if_neg k1]
      by_cases k2 : k = 2
      · rw [if_pos k2, if_pos k2]
        rfl
      · rw [if_neg k2, if_neg k2]
        (repeat' split) <;> first | rfl | (exfalso; omega)
/-- the shelves' elements changed -/
theorem CR.elem {σ' : TM} {V' : TVw} (h : CR σ V) (hs : ∀ a i j, a ≠ 50 → s1 a j = false → σ' a i j = σ a i j) (hV : ∀ a b, a ≠ 117 → V' a b = V a b) (he : ∀ x, x < 6 → ∀ i, i < 60 → σ' 50 x i = V' 117 (60 * x + i)) : CR σ' V' := by
  have uV : Uv [25, 48, 50, 117] V V' := fun a b _ q => hV a b (by rintro rfl; cases q)
  have uS : Uc [25, 48, 50, 117] σ σ' := fun a i j _ q => hs a i j (by rintro rfl; cases q) (by
    unfold s1
    cases e1 : Nat.beq a 25 with
    | true => rw [Nat.eq_of_beq_eq_true e1] at q; cases q
    | false =>
      cases e2 : Nat.beq a 48 with
      | true => rw [Nat.eq_of_beq_eq_true e2] at q; cases q
      | false => rfl)
  refine CR.k uS uV h (Inv.k uV h.inv (fun i hi hd => ?_)) (fun i hi hd => ?_)
  · exact absurd hd (by rw [(by decide : ∀ i, i < 16 → djT [25, 48, 50, 117] (idep i) = true) i hi]; decide)
  · rcases (by decide : ∀ i, i < 16 → djT [25, 48, 50, 117] (cdep i) = false → i = 14) i hi hd with rfl
    intro x hx
    obtain ⟨a1, a2, a3, a4⟩ := h 14 x hx
    rw [hV 115 x (by decide), hV 116 x (by decide), hs 49 x 0 (by decide) rfl, hs 49 x 1 (by decide) rfl, hs 49 x 2 (by decide) rfl]
    exact ⟨a1, a2, a3, he x hx⟩
theorem KW.elem {σ' : TM} {V' : TVw} (h : KW σ V) (hs : ∀ a i j, a ≠ 50 → s1 a j = false → σ' a i j = σ a i j) (hV : ∀ a b, a ≠ 117 → V' a b = V a b) : KW σ' V' := by
  refine KW.k (T := [25, 48, 50, 117]) (fun a i j _ q => hs a i j (by rintro rfl; cases q) ?_) (fun a b _ q => hV a b (by rintro rfl; cases q)) h rfl
  unfold s1
  cases e1 : Nat.beq a 25 with
  | true => rw [Nat.eq_of_beq_eq_true e1] at q; cases q
  | false =>
    cases e2 : Nat.beq a 48 with
    | true => rw [Nat.eq_of_beq_eq_true e2] at q; cases q
    | false => rfl
theorem two_put (hW : WW σ V) (x i v : Int) : Two (d + 100) 129 242 [vi x, vi i, vj v] σ := by
  have h := hW.1
  have hI := h.inv
  by_cases z : frf V x i = 0
  · obtain ⟨z1, z2, z3, z4, z5⟩ := frf_0 z
    obtain ⟨y, rfl⟩ : ∃ y : Nat, x = (y : Int) := ⟨x.toNat, by omega⟩
    obtain ⟨m, rfl⟩ : ∃ m : Nat, i = (m : Int) := ⟨i.toNat, by omega⟩
    rw [Int.toNat_natCast] at z3 z5
    obtain ⟨i1, i2, i3, i4, i5⟩ := hI 15 y (by omega)
    obtain ⟨a1, a2, a3, a4⟩ := h 14 y (by omega)
    have hs : ∀ a i j, a ≠ 50 → s1 a j = false → t_upd σ 50 y m (fcu (V 115 y - 300) v) a i j = σ a i j := fun a i j h1 _ => up_k h1
    have hv : ∀ a b, a ≠ 117 → vu V 117 (60 * y + m) (fcu (V 115 y - 300) v) a b = V a b := fun a b h1 => vu_k h1
    refine two_of (r := vi 1) (V' := vu V 117 (60 * y + m) (fcu (V 115 y - 300) v)) hW ⟨t_upd σ 50 y m (fcu (V 115 y - 300) v), FC.rf.up rfl, h.elem hs hv ?_, hW.2.2.elem hs hv, ?_⟩ (fun s hV => ⟨_, FR.rf.up rfl, hV.up, ?_⟩)
    · intro w hw j hj
      by_cases e : w = y ∧ j = m
      · obtain ⟨rfl, rfl⟩ := e
        rw [up_same, vu_same]
      · rw [t_upd_eq, if_neg (fun q => e q.2), vu_r, if_neg (by rintro ⟨-, q⟩; exact e (by omega))]
        exact (h 14 w hw).2.2.2 j hj
    · rw [run_go (k := 129) (as := [vh 0 0, vi y, vi m, vj v]) mt_129 (Nat.ne_of_beq_eq_false rfl) rfl (s_kX11_put_0 _ y m v σ), ci_of (c_isShelf (d := d + 98) (y : Int))]
      simp only [bi_0, decide_eq_false_iff_not]
      rw [if_neg (by omega), if_pos (by omega), Int.toNat_natCast, ci_of (c_refusal (d := d + 97) h (by omega) (m : Int)), if_pos z, cj_of (c_cut (d := d + 98) (a3 z3).1 v), if_pos (by omega), Int.toNat_natCast]
      rfl
    · rw [run_go (k := 242) (as := [vh 51 0, vi y, vi m, vj v]) mt_242 (Nat.ne_of_beq_eq_false rfl) rfl (s_kX12_put_0 _ y m v s), ci_of (r_refusal (d := d + 96) hV hI (y : Int) (m : Int)), if_pos z, if_pos (by omega), Int.toNat_natCast, hV 115 _ rfl rfl rfl, w32_id (x := V 115 y - 300) (by omega) (by omega), cj_of (r_asSort (d := d + 98) _ v), sw60 (by omega) z4 (by omega), if_pos (by omega), if_pos z, Int.toNat_natCast, Int.toNat_natCast]
      rfl
  · refine two_ask (r := vi (frf V x i)) hW ⟨σ, Sc.rf, ?_⟩ (fun s hV => ⟨s, Sc.rf, ?_⟩)
    · rw [run_go (k := 129) (as := [vh 0 0, vi x, vi i, vj v]) mt_129 (Nat.ne_of_beq_eq_false rfl) rfl (s_kX11_put_0 _ x i v σ), ci_of (c_isShelf (d := d + 98) x)]
      simp only [bi_0, decide_eq_false_iff_not]
      by_cases hx : 0 ≤ x ∧ x < 6
      · obtain ⟨y, rfl⟩ : ∃ y : Nat, x = (y : Int) := ⟨x.toNat, by omega⟩
        rw [if_neg (by omega), if_pos hx, Int.toNat_natCast, ci_of (c_refusal (d := d + 97) h (by omega) i), if_neg z]
        rfl
      · have e : frf V x i = -1 := if_neg hx
        rw [if_pos hx, e]
        rfl
    · rw [run_go (k := 242) (as := [vh 51 0, vi x, vi i, vj v]) mt_242 (Nat.ne_of_beq_eq_false rfl) rfl (s_kX12_put_0 _ x i v s), ci_of (r_refusal (d := d + 96) hV hI x i), if_neg z, if_neg z]
      rfl
-- shift()
def sfV (V : TVw) (x i y j n : Nat) : TVw := fun a b => if a = 117 ∧ 60 * y + j ≤ b ∧ b < 60 * y + j + n then V 117 (60 * x + i + (b - (60 * y + j))) else V a b
/-- what the answer of shift() is where it refuses -/
def fsh (V : TVw) (x i y j n : Int) : Int := if ¬ (0 ≤ x ∧ x < 6) ∨ ¬ (0 ≤ y ∧ y < 6) then -1 else if V 115 x.toNat = -1 ∨ V 115 y.toNat = -1 then -11 else if V 115 x.toNat < 300 ∨ V 115 x.toNat ≠ V 115 y.toNat then -12 else if n < 0 ∨ i < 0 ∨ j < 0 ∨ V 116 x.toNat - n < i ∨ V 116 y.toNat - n < j then -13 else 0
theorem c_isRow (h : CR σ V) {x : Nat} (hx : x < 6) : t_run tbl mtb (d + 1) 30 [vh 49 x] σ = some (some (vi (bi (decide (300 ≤ V 115 x)))), σ) := by
  obtain ⟨i1, i2, i3, i4, i5⟩ := h.inv 15 x hx
  obtain ⟨a1, a2, a3, -⟩ := h 14 x hx
  rw [run_go (k := 30) (as := [vh 49 x]) mt_30 (Nat.ne_of_beq_eq_false rfl) rfl (s_kX8_isRow_0 _ x σ)]
  by_cases z : 300 ≤ V 115 x
  · rw [(a3 z).1, if_neg (by omega), decide_eq_true z]
    rfl
  · by_cases y : V 115 x = -1
    · rw [a1 y, if_pos (by decide), decide_eq_false z]
      rfl
    · rw [(a2 (by omega) (by omega)).1, if_pos (by decide), decide_eq_false z]
      rfl
theorem c_hasRun {x : Nat} {l i n : Int} (hl : σ 49 x 2 = l) (l0 : 0 ≤ l) (l1 : l ≤ 60) (hn : n ≤ 2147483647) : t_run tbl mtb (d + 1) 33 [vh 49 x, vi i, vi n] σ = some (some (vi (bi (decide (0 ≤ n ∧ 0 ≤ i ∧ i ≤ l - n)))), σ) := by
  rw [run_go (k := 33) (as := [vh 49 x, vi i, vi n]) mt_33 (Nat.ne_of_beq_eq_false rfl) rfl (s_kX8_hasRun_0 _ x i n σ), hl]
  by_cases n0 : n < 0
  · rw [if_pos n0, decide_eq_false (by omega)]
    rfl
  · rw [if_neg n0, w32_id (x := l - n) (by omega) (by omega)]
    (repeat' split) <;> exact leaf_b (by omega)
theorem two_shift (hW : WW σ V) (x i y j n : Int) (hn : n ≤ 2147483647) : Two (d + 100) 131 244 [vi x, vi i, vi y, vi j, vi n] σ := by
  have h := hW.1
  have hI := h.inv
  by_cases hxy : (0 ≤ x ∧ x < 6) ∧ (0 ≤ y ∧ y < 6)
  · obtain ⟨hx, hy⟩ := hxy
    obtain ⟨a, rfl⟩ : ∃ a : Nat, x = (a : Int) := ⟨x.toNat, by omega⟩
    obtain ⟨b, rfl⟩ : ∃ b : Nat, y = (b : Int) := ⟨y.toNat, by omega⟩
    obtain ⟨i1, i2, i3, i4, i5⟩ := hI 15 a (by omega)
    obtain ⟨j1, j2, j3, j4, j5⟩ := hI 15 b (by omega)
    obtain ⟨a1, a2, a3, a4⟩ := h 14 a (by omega)
    obtain ⟨b1, b2, b3, b4⟩ := h 14 b (by omega)
    have ea : σ 49 a 0 = if V 115 a = -1 then -2 else if V 115 a < 300 then -1 else V 115 a - 300 := by
      by_cases q : V 115 a = -1
      · rw [a1 q, if_pos q]
      · rw [if_neg q]
        by_cases q2 : V 115 a < 300
        · rw [(a2 (by omega) q2).1, if_pos q2]
        · rw [(a3 (by omega)).1, if_neg q2]
    have eb : σ 49 b 0 = if V 115 b = -1 then -2 else if V 115 b < 300 then -1 else V 115 b - 300 := by
      by_cases q : V 115 b = -1
      · rw [b1 q, if_pos q]
      · rw [if_neg q]
        by_cases q2 : V 115 b < 300
        · rw [(b2 (by omega) q2).1, if_pos q2]
        · rw [(b3 (by omega)).1, if_neg q2]
    by_cases hr : 300 ≤ V 115 a ∧ V 115 a = V 115 b
    · obtain ⟨r1, r2⟩ := hr
      have ea0 : σ 49 a 0 = V 115 a - 300 := (a3 r1).1
      have eb0 : σ 49 b 0 = V 115 b - 300 := (b3 (by omega)).1
      have la : σ 49 a 2 = V 116 a := (a3 r1).2
      have lb : σ 49 b 2 = V 116 b := (b3 (by omega)).2
      have cs : ∀ K, t_run tbl mtb (d + 100) 131 [vh 0 0, vi a, vi i, vi b, vi j, vi n] σ = K ↔ t_out (t_nx (t_run tbl mtb (d + 99)) 131 999999 (if ¬ (0 ≤ n ∧ 0 ≤ i ∧ i ≤ V 116 a - n) then some (.inr (some (vi (-13)), σ)) else if ¬ (0 ≤ n ∧ 0 ≤ j ∧ j ≤ V 116 b - n) then some (.inr (some (vi (-13)), σ)) else t_callv (t_run tbl mtb (d + 99) 900 [vh 50 a, vi i, vh 50 b, vi j, vi n] σ) fun s6 => some (.inr (some (vi n), s6)))) = K := by
        intro K
        rw [run_go (k := 131) (as := [vh 0 0, vi a, vi i, vi b, vi j, vi n]) mt_131 (Nat.ne_of_beq_eq_false rfl) rfl (s_kX11_shift_0 _ a i b j n σ), ci_of (c_isShelf (d := d + 98) (a : Int)), ci_of (c_isShelf (d := d + 98) (b : Int))]
        simp only [bi_0, decide_eq_false_iff_not, Int.toNat_natCast]
        rw [if_neg (by omega), if_neg (by omega), if_pos hx, if_pos hy, ea0, if_neg (by omega), eb0, if_neg (by omega), ci_of (c_isRow (d := d + 98) h (by omega))]
        simp only [bi_0, decide_eq_false_iff_not]
        rw [if_neg (by omega), ea0, eb0, if_pos (by omega), ci_of (c_hasRun (d := d + 98) la i4 i5 hn)]
        simp only [bi_0, decide_eq_false_iff_not]
        rw [ci_of (c_hasRun (d := d + 98) lb j4 j5 hn)]
        simp only [bi_0, decide_eq_false_iff_not]
      have rs : ∀ s, RV s V → ∀ K, t_run tbl mtb (d + 100) 244 [vh 51 0, vi a, vi i, vi b, vi j, vi n] s = K ↔ t_out (t_nx (t_run tbl mtb (d + 99)) 244 999999 (if n < 0 then some (.inr (some (vi (-13)), s)) else if i < 0 then some (.inr (some (vi (-13)), s)) else if j < 0 then some (.inr (some (vi (-13)), s)) else if w32 (V 116 a - n) < i then some (.inr (some (vi (-13)), s)) else if w32 (V 116 b - n) < j then some (.inr (some (vi (-13)), s)) else some (.inl (114, [some (vh 51 0), some (vi a), some (vi i), some (vi b), some (vi j), some (vi n), some (vi 0)], [], s)))) = K := by
        intro s hV K
        have qa := hV 115 a rfl rfl rfl
        have qb := hV 115 b rfl rfl rfl
        have la := hV 116 a rfl rfl rfl
        have lb := hV 116 b rfl rfl rfl
        rw [run_go (k := 244) (as := [vh 51 0, vi a, vi i, vi b, vi j, vi n]) mt_244 (Nat.ne_of_beq_eq_false rfl) rfl (s_kX12_shift_0 _ a i b j n s), ci_of (r_isShelf (d := d + 97) (a : Int)), ci_of (r_isShelf (d := d + 97) (b : Int))]
        simp only [bi_0, decide_eq_false_iff_not, Int.toNat_natCast, qa, qb, la, lb, if_pos hx, if_pos hy]
        rw [if_neg (by omega), if_neg (by omega), if_neg (by omega), if_neg (by omega), if_neg (by omega), if_pos r2]
      by_cases hok : (0 ≤ n ∧ 0 ≤ i ∧ i ≤ V 116 a - n) ∧ 0 ≤ j ∧ j ≤ V 116 b - n
      · obtain ⟨⟨n0, i0, iL⟩, j0, jL⟩ := hok
        obtain ⟨m, rfl⟩ : ∃ m : Nat, n = (m : Int) := ⟨n.toNat, by omega⟩
        obtain ⟨i, rfl⟩ : ∃ i' : Nat, i = (i' : Int) := ⟨i.toNat, by omega⟩
        obtain ⟨j, rfl⟩ : ∃ j' : Nat, j = (j' : Int) := ⟨j.toNat, by omega⟩
        have hs : ∀ w u v, w ≠ 50 → s1 w v = false → t_cpy σ 50 a i 50 b j m w u v = σ w u v := fun w u v h1 _ => if_neg (fun q => h1 q.1)
        have hv : ∀ u v, u ≠ 117 → sfV V a i b j m u v = V u v := fun u v h1 => if_neg (fun q => h1 q.1)
        refine two_of (r := vi (m : Int)) (V' := sfV V a i b j m) hW ⟨t_cpy σ 50 a i 50 b j m, fun k u v hk => if_neg (fun q => by have := q.1; omega), h.elem hs hv ?_, hW.2.2.elem hs hv, (cs _).mpr ?_⟩ (fun s hV => ?_)
        · intro w hw u hu
          show (if 50 = 50 ∧ w = b ∧ j ≤ u ∧ u < j + m then σ 50 a (i + (u - j)) else σ 50 w u) = if 117 = 117 ∧ 60 * b + j ≤ 60 * w + u ∧ 60 * w + u < 60 * b + j + m then V 117 (60 * a + i + (60 * w + u - (60 * b + j))) else V 117 (60 * w + u)
          by_cases e : w = b ∧ j ≤ u ∧ u < j + m
          · rw [if_pos ⟨rfl, e⟩, if_pos ⟨rfl, by omega, by omega⟩, a4 (i + (u - j)) (by omega)]
            congr 1
            omega
          · rw [if_neg (fun q => e q.2), if_neg (fun q => e (by omega))]
            exact (h 14 w hw).2.2.2 u hu
        · have ec : t_run tbl mtb (d + 99) 900 [vh 50 a, vi (i : Int), vh 50 b, vi (j : Int), vi (m : Int)] σ = some (none, t_cpy σ 50 a i 50 b j m) := by
            have e1 : t_run tbl mtb (d + 99) 900 [vh 50 a, vi (i : Int), vh 50 b, vi (j : Int), vi (m : Int)] σ = t_copy tbl [vh 50 a, vi (i : Int), vh 50 b, vi (j : Int), vi (m : Int)] σ := by
              unfold t_run
              rw [if_pos rfl]
            have e2 : t_arr tbl 50 = some (2, 60) := rfl
            rw [e1]
            unfold t_copy
            simp only [e2]
            rw [if_pos (by omega)]
            rfl
          rw [if_neg (by omega), if_neg (by omega), cv_of ec]
          rfl
        · -- the reference: into its own row, and out of it
          have e0 : ∀ k, w32 (w32 (w32 (60 * (a : Int)) + (i : Int)) + ((k : Nat) : Int)) = if k < m then ((60 * a + i + k : Nat) : Int) else w32 (w32 (w32 (60 * (a : Int)) + (i : Int)) + ((k : Nat) : Int)) := fun k => by
            split
            · rw [w32_add_l, Int.add_assoc, w32_add_l, w32_id (by omega) (by omega)]
              omega
            · rfl
          have e1 : ∀ k, w32 (w32 (w32 (60 * (b : Int)) + (j : Int)) + ((k : Nat) : Int)) = if k < m then ((60 * b + j + k : Nat) : Int) else w32 (w32 (w32 (60 * (b : Int)) + (j : Int)) + ((k : Nat) : Int)) := fun k => by
            split
            · rw [w32_add_l, Int.add_assoc, w32_add_l, w32_id (by omega) (by omega)]
              omega
            · rfl
          obtain ⟨L1, s1', ⟨c1, c2, c3, rfl⟩, f1⟩ := loop_rel (O := t_run tbl mtb (d + 99)) (k := 244) (pc := 114) (fun k L s' => FR s s' ∧ RV s' V ∧ (∀ u, u < k → s' 118 0 u = V 117 (60 * a + i + u)) ∧ L = [some (vh 51 0), some (vi (a : Int)), some (vi (i : Int)), some (vi (b : Int)), some (vi (j : Int)), some (vi (m : Int)), some (vi (k : Int))]) m (by
            rintro k L s' hk ⟨g1, g2, g3, rfl⟩
            have r1 : 0 ≤ ((60 * a + i + k : Nat) : Int) ∧ ((60 * a + i + k : Nat) : Int) < 360 := by omega
            have r3 : 0 ≤ (k : Int) ∧ (k : Int) < 60 := by omega
            have q117 := g2 117 (60 * a + i + k) rfl rfl rfl
            have e0 := e0 k
            rw [if_pos hk] at e0
            have st := fun N => tr_step (n := N) (s_kX12_shift_114 (t_run tbl mtb (d + 99)) a i b j m k s' )
            simp only [if_pos (show (k : Int) < (m : Int) by omega), e0, if_pos r1, if_pos r3, Int.toNat_natCast, q117, w32_nat (show k < 2147483647 by omega)] at st
            refine ⟨_, _, ⟨g1.up rfl, g2.sc (Sc.rf.up rfl), fun u hu => ?_, rfl⟩, st⟩
            by_cases e : u = k
            · subst e
              exact up_same
            · rw [up_j e]
              exact g3 u (by omega)) m 0 [some (vh 51 0), some (vi (a : Int)), some (vi (i : Int)), some (vi (b : Int)), some (vi (j : Int)), some (vi (m : Int)), some (vi ((0 : Nat) : Int))] s (by omega) ⟨FR.rf, hV, fun u hu => by omega, rfl⟩
          obtain ⟨L2, s2', ⟨d1, d2, d3, rfl⟩, f2⟩ := loop_rel (O := t_run tbl mtb (d + 99)) (k := 244) (pc := 151) (fun k L s' => FR s s' ∧ RV s' (sfV V a i b j k) ∧ (∀ u, u < m → s' 118 0 u = V 117 (60 * a + i + u)) ∧ L = [some (vh 51 0), none, none, some (vi (b : Int)), some (vi (j : Int)), some (vi (m : Int)), some (vi (k : Int))]) m (by
            rintro k L s' hk ⟨g1, g2, g3, rfl⟩
            have r1 : 0 ≤ ((60 * b + j + k : Nat) : Int) ∧ ((60 * b + j + k : Nat) : Int) < 360 := by omega
            have r3 : 0 ≤ (k : Int) ∧ (k : Int) < 60 := by omega
            have e1 := e1 k
            rw [if_pos hk] at e1
            have q118 := g3 k hk
            have st := fun N => tr_step (n := N) (s_kX12_shift_151 (t_run tbl mtb (d + 99)) b j m k s' )
            simp only [if_pos (show (k : Int) < (m : Int) by omega), e1, if_pos r1, if_pos r3, Int.toNat_natCast, q118, w32_nat (show k < 2147483647 by omega)] at st
            refine ⟨_, _, ⟨g1.up rfl, fun u v h1 h2 h3 => ?_, fun u hu => by rw [up_k (by decide)]; exact g3 u hu, rfl⟩, st⟩
            have q := g2 u v h1 h2 h3
            unfold sfV
            by_cases z : u = 117 ∧ v = 60 * b + j + k
            · obtain ⟨rfl, rfl⟩ := z
              rw [up_same, if_pos ⟨rfl, by omega, by omega⟩]
              congr 1
              omega
            · rw [t_upd_eq, if_neg (fun q => z ⟨q.1, q.2.2⟩), q]
              unfold sfV
              by_cases w : u = 117 ∧ 60 * b + j ≤ v ∧ v < 60 * b + j + k
              · rw [if_pos w, if_pos ⟨w.1, w.2.1, by omega⟩]
              · rw [if_neg w, if_neg (fun q => w ⟨q.1, q.2.1, by have := q.2.2; have : v ≠ 60 * b + j + k := fun e => z ⟨q.1, e⟩; omega⟩)]) m 0 [some (vh 51 0), none, none, some (vi (b : Int)), some (vi (j : Int)), some (vi (m : Int)), some (vi ((0 : Nat) : Int))] s1' (by omega) ⟨c1, fun u v h1 h2 h3 => by rw [c2 u v h1 h2 h3]; unfold sfV; rw [if_neg (by omega)], c3, rfl⟩
          refine ⟨s2', d1, d2, (rs s hV _).mpr ?_⟩
          obtain ⟨N, hN⟩ : ∃ N, 999999 = N + 1 + m + 1 + m := ⟨999999 - (m + m + 2), by omega⟩
          rw [if_neg (by omega), if_neg (by omega), if_neg (by omega), w32_id (x := V 116 a - (m : Int)) (by omega) (by omega), if_neg (by omega), w32_id (x := V 116 b - (m : Int)) (by omega) (by omega), if_neg (by omega), nx_inl, hN]
          have f1 : t_tr tbl mtb (t_run tbl mtb (d + 99)) 244 (N + 1 + m + 1 + m) 114 [some (vh 51 0), some (vi (a : Int)), some (vi (i : Int)), some (vi (b : Int)), some (vi (j : Int)), some (vi (m : Int)), some (vi 0)] [] s = _ := f1 _
          have f2 : t_tr tbl mtb (t_run tbl mtb (d + 99)) 244 (N + 1 + m) 151 [some (vh 51 0), none, none, some (vi (b : Int)), some (vi (j : Int)), some (vi (m : Int)), some (vi 0)] [] s1' = _ := f2 _
          rw [f1, tr_step (s_kX12_shift_114 _ a i b j m (m : Int) s1'), if_neg (by omega), nx_inl, f2, tr_step (s_kX12_shift_151 _ b j m (m : Int) s2'), if_neg (by omega)]
          rfl
      · refine two_ask (r := vi (-13)) hW ⟨σ, Sc.rf, (cs _).mpr ?_⟩ (fun s hV => ⟨s, Sc.rf, (rs s hV _).mpr ?_⟩)
        · (repeat' split) <;> first | rfl | (exfalso; omega)
        · by_cases n0 : n < 0
          · rw [if_pos n0]
            rfl
          · rw [w32_id (x := V 116 a - n) (by omega) (by omega), w32_id (x := V 116 b - n) (by omega) (by omega)]
            (repeat' split) <;> first | rfl | (exfalso; omega)
    · refine two_ask (r := vi (if V 115 a = -1 ∨ V 115 b = -1 then -11 else -12)) hW ⟨σ, Sc.rf, ?_⟩ (fun s hV => ⟨s, Sc.rf, ?_⟩)
      · rw [run_go (k := 131) (as := [vh 0 0, vi a, vi i, vi b, vi j, vi n]) mt_131 (Nat.ne_of_beq_eq_false rfl) rfl (s_kX11_shift_0 _ a i b j n σ), ci_of (c_isShelf (d := d + 98) (a : Int)), ci_of (c_isShelf (d := d + 98) (b : Int)), Int.toNat_natCast, Int.toNat_natCast, ci_of (c_isRow (d := d + 98) h (x := a) (by omega))]
        simp only [bi_0, decide_eq_false_iff_not]
        rw [if_neg (by omega), if_neg (by omega), if_pos hx, if_pos hy]
        by_cases qa : V 115 a = -1
        · rw [if_pos (by rw [a1 qa]), if_pos (.inl qa)]
          rfl
        · have ea2 : σ 49 a 0 ≠ -2 := by
            rw [ea, if_neg qa]
            split <;> omega
          rw [if_neg ea2]
          by_cases qb : V 115 b = -1
          · rw [if_pos (by rw [b1 qb]), if_pos (.inr qb)]
            rfl
          · have eb2 : σ 49 b 0 ≠ -2 := by
              rw [eb, if_neg qb]
              split <;> omega
            have en : ¬ (V 115 a = -1 ∨ V 115 b = -1) := fun q => q.elim qa qb
            rw [if_neg eb2]
            by_cases q3 : 300 ≤ V 115 a
            · have e3 : σ 49 a 0 ≠ σ 49 b 0 := by
                rw [ea, eb, if_neg qa, if_neg qb, if_neg (by omega)]
                split <;> omega
              rw [if_neg (fun z => z q3), if_neg e3, if_neg en]
              rfl
            · rw [if_pos q3, if_neg en]
              rfl
      · have qa := hV 115 a rfl rfl rfl
        have qb := hV 115 b rfl rfl rfl
        rw [run_go (k := 244) (as := [vh 51 0, vi a, vi i, vi b, vi j, vi n]) mt_244 (Nat.ne_of_beq_eq_false rfl) rfl (s_kX12_shift_0 _ a i b j n s), ci_of (r_isShelf (d := d + 97) (a : Int)), ci_of (r_isShelf (d := d + 97) (b : Int))]
        simp only [bi_0, decide_eq_false_iff_not, Int.toNat_natCast, qa, qb, if_pos hx, if_pos hy]
        rw [if_neg (by omega), if_neg (by omega)]
        by_cases z1 : V 115 a < 0
        · rw [if_pos z1, if_pos (.inl (by omega))]
          rfl
        · rw [if_neg z1]
          by_cases z2 : V 115 b < 0
          · rw [if_pos z2, if_pos (.inr (by omega))]
            rfl
          · rw [if_neg z2, if_neg (show ¬ (V 115 a = -1 ∨ V 115 b = -1) by omega)]
            by_cases z3 : V 115 a < 300
            · rw [if_pos z3]
              rfl
            · rw [if_neg z3, if_neg (fun q => hr ⟨by omega, q⟩)]
              rfl
  · refine two_ask (r := vi (-1)) hW ⟨σ, Sc.rf, ?_⟩ (fun s hV => ⟨s, Sc.rf, ?_⟩)
    · rw [run_go (k := 131) (as := [vh 0 0, vi x, vi i, vi y, vi j, vi n]) mt_131 (Nat.ne_of_beq_eq_false rfl) rfl (s_kX11_shift_0 _ x i y j n σ), ci_of (c_isShelf (d := d + 98) x), ci_of (c_isShelf (d := d + 98) y)]
      simp only [bi_0, decide_eq_false_iff_not]
      by_cases q : 0 ≤ x ∧ x < 6
      · rw [if_neg (by omega), if_pos (fun z => hxy ⟨q, z⟩)]
        rfl
      · rw [if_pos q]
        rfl
    · rw [run_go (k := 244) (as := [vh 51 0, vi x, vi i, vi y, vi j, vi n]) mt_244 (Nat.ne_of_beq_eq_false rfl) rfl (s_kX12_shift_0 _ x i y j n s), ci_of (r_isShelf (d := d + 97) x), ci_of (r_isShelf (d := d + 97) y)]
      simp only [bi_0, decide_eq_false_iff_not]
      by_cases q : 0 ≤ x ∧ x < 6
      · rw [if_neg (by omega), if_pos (fun z => hxy ⟨q, z⟩)]
        rfl
      · rw [if_pos q]
        rfl
-- taken()
def fup (v : Int) : Int := if v = 5 then 3 else if 1 < v then 1 else 0
theorem r_above (v : Int) : t_run tbl mtb (d + 1) 229 [vi v] σ = some (some (vi (fup v)), σ) := by
  rw [run_go (k := 229) (as := [vi v]) mt_229 (Nat.ne_of_beq_eq_false rfl) rfl (s_kX12_above_0 _ v σ)]
  unfold fup
  (repeat' split) <;> rfl
def frk (v : Int) : Int := if v = 5 then 3 else if 1 < v then 2 else v
theorem frk_up {v : Int} (h : 0 < v) (h2 : v ≤ 6) : 0 ≤ fup v ∧ fup v ≤ 6 ∧ frk (fup v) + 1 ≤ frk v := by
  rcases (by omega : v = 1 ∨ v = 2 ∨ v = 3 ∨ v = 4 ∨ v = 5 ∨ v = 6) with rfl | rfl | rfl | rfl | rfl | rfl <;> decide
theorem frk_0 {v : Int} (h : 0 ≤ v) (h2 : v ≤ 6) : 0 ≤ frk v ∧ frk v ≤ 3 ∧ (frk v = 0 → v = 0) := by
  rcases (by omega : v = 0 ∨ v = 1 ∨ v = 2 ∨ v = 3 ∨ v = 4 ∨ v = 5 ∨ v = 6) with rfl | rfl | rfl | rfl | rfl | rfl | rfl <;> decide
def fun_ (v k : Int) : Bool := decide (k = 0 ∨ v = k ∨ k = 1 ∧ 1 ≤ v ∨ k = 3 ∧ v = 5)
theorem two_taken (hW : WW σ V) (x k : Int) : Two (d + 100) 132 245 [vi x, vi k] σ := by
  have h := hW.1
  have hI := h.inv
  have h0 := hI.cnt
  by_cases hx : (0 ≤ x ∧ x < 6) ∧ 0 ≤ k ∧ k ≤ 6
  · obtain ⟨hx, hk⟩ := hx
    obtain ⟨a, rfl⟩ : ∃ a : Nat, x = (a : Int) := ⟨x.toNat, by omega⟩
    obtain ⟨i1, i2, i3, i4, i5⟩ := hI 15 a (by omega)
    obtain ⟨a1, a2, a3, a4⟩ := h 14 a (by omega)
    by_cases ho : 0 ≤ V 115 a ∧ V 115 a < 300
    · have hon := i3 ho.2
      obtain ⟨o, eo⟩ : ∃ o : Nat, V 115 a = (o : Int) := ⟨(V 115 a).toNat, by omega⟩
      have hoN : o < nO V := by omega
      obtain ⟨f, -⟩ := h 11 o (by omega)
      obtain ⟨f0, f1, -⟩ := f hoN
      obtain ⟨k1, k2, k3, k4, -⟩ := hI 11 o hoN
      refine two_ask (r := vi (if fun_ (V 87 o) k = true then V 87 o else -12)) hW ⟨σ, Sc.rf, ?_⟩ (fun s hV => ⟨s, Sc.rf, ?_⟩)
      · have eu : t_run tbl mtb (d + 99) 136 [vi (V 87 o), vi k] σ = some (some (vi (bi (fun_ (V 87 o) k))), σ) := by
          rw [run_go (k := 136) (as := [vi (V 87 o), vi k]) mt_136 (Nat.ne_of_beq_eq_false rfl) rfl (s_kX11_isUnder_0 _ (V 87 o) k σ)]
          unfold fun_
          (repeat' split) <;> exact leaf_b (by omega)
        obtain ⟨y1, y2⟩ := a2 ho.1 ho.2
        rw [eo] at y2
        rw [run_go (k := 132) (as := [vh 0 0, vi a, vi k]) mt_132 (Nat.ne_of_beq_eq_false rfl) rfl (s_kX11_taken_0 _ a k σ), ci_of (c_isShelf (d := d + 98) (a : Int))]
        simp only [bi_0, decide_eq_false_iff_not, Int.toNat_natCast]
        rw [if_neg (by omega), if_neg (by omega), if_neg (by omega), if_pos hx, y1, if_neg (by decide), if_pos rfl, y2, ci_of (c_isOrder (d := d + 98) h (o : Int))]
        simp only [bi_0, decide_eq_false_iff_not]
        rw [if_neg (by omega), y2, if_pos (by omega), Int.toNat_natCast, f1, ci_of eu]
        cases fun_ (V 87 o) k <;> rfl
      · have q115 := hV 115 a rfl rfl rfl
        have q87 := hV 87 o rfl rfl rfl
        have ro : 0 ≤ (o : Int) ∧ (o : Int) < 300 := by omega
        have LL : ∀ (f : Nat) (v : Int) (n : Nat), 0 ≤ v → v ≤ 6 → frk v ≤ f → f < n → t_tr tbl mtb (t_run tbl mtb (d + 99)) 245 n 60 [some (vh 51 0), some (vi (a : Int)), some (vi k), some (vi v)] [] s = some (.inr (some (vi (if fun_ v k = true then V 87 o else -12)), s)) := by
          intro f
          induction f with
          | zero =>
            intro v n v0 v6 hf hn
            obtain ⟨n, rfl⟩ : ∃ m, n = m + 1 := ⟨n - 1, by omega⟩
            have v1 : v = 0 := by
              have := frk_0 v0 v6
              omega
            rw [tr_step (s_kX12_taken_60 _ a k v s)]
            simp only [Int.toNat_natCast, q115, eo, if_pos hx, if_pos ro, q87]
            unfold fun_
            by_cases e : v = k
            · rw [if_pos e, if_pos e, decide_eq_true (by omega), if_pos rfl]
              rfl
            · rw [if_neg e, if_neg (by omega), if_neg e, decide_eq_false (by omega), if_neg (by decide)]
              rfl
          | succ f ih =>
            intro v n v0 v6 hf hn
            obtain ⟨n, rfl⟩ : ∃ m, n = m + 1 := ⟨n - 1, by omega⟩
            rw [tr_step (s_kX12_taken_60 _ a k v s), ci_of (r_above (d := d + 98) v)]
            simp only [Int.toNat_natCast, q115, eo, if_pos hx, if_pos ro, q87]
            by_cases e : v = k
            · have e2 : fun_ v k = true := by unfold fun_; exact decide_eq_true (.inr (.inl e))
              rw [if_pos e, if_pos e, e2, if_pos rfl]
              rfl
            · rw [if_neg e]
              by_cases p : 0 < v
              · have e2 : fun_ (fup v) k = fun_ v k := by
                  unfold fun_ fup
                  refine decide_eq_decide.mpr ?_
                  split
                  · omega
                  · split <;> omega
                have ru := frk_up p v6
                rw [if_pos p, nx_inl, ih (fup v) n ru.1 ru.2.1 (by omega) (by omega), e2]
              · have e2 : fun_ v k = false := by unfold fun_; exact decide_eq_false (by omega)
                rw [if_neg p, if_neg e, e2, if_neg (by decide)]
                rfl
        rw [run_go (k := 245) (as := [vh 51 0, vi a, vi k]) mt_245 (Nat.ne_of_beq_eq_false rfl) rfl (s_kX12_taken_0 _ a k s), ci_of (r_isShelf (d := d + 97) (a : Int)), ci_of (r_within (d := d + 98) k 0 6)]
        simp only [bi_0, decide_eq_false_iff_not, Int.toNat_natCast, q115, eo, if_pos hx, if_pos ro, q87]
        rw [if_neg (by omega), if_neg (by omega), if_neg (by omega), if_pos (by omega), nx_inl, LL 3 (V 87 o) 999999 (by omega) (by omega) (frk_0 (by omega) (by omega)).2.1 (by omega)]
        rfl
    · refine two_ask (r := vi (if V 115 a = -1 then -11 else -12)) hW ⟨σ, Sc.rf, ?_⟩ (fun s hV => ⟨s, Sc.rf, ?_⟩)
      · rw [run_go (k := 132) (as := [vh 0 0, vi a, vi k]) mt_132 (Nat.ne_of_beq_eq_false rfl) rfl (s_kX11_taken_0 _ a k σ), ci_of (c_isShelf (d := d + 98) (a : Int))]
        simp only [bi_0, decide_eq_false_iff_not, Int.toNat_natCast]
        rw [if_neg (by omega), if_neg (by omega), if_neg (by omega), if_pos hx]
        by_cases q : V 115 a = -1
        · rw [a1 q, if_pos rfl, if_pos q]
          rfl
        · rw [(a3 (by omega)).1, if_neg (by omega), if_neg (by omega), if_neg q]
          rfl
      · have q115 := hV 115 a rfl rfl rfl
        rw [run_go (k := 245) (as := [vh 51 0, vi a, vi k]) mt_245 (Nat.ne_of_beq_eq_false rfl) rfl (s_kX12_taken_0 _ a k s), ci_of (r_isShelf (d := d + 97) (a : Int)), ci_of (r_within (d := d + 98) k 0 6)]
        simp only [bi_0, decide_eq_false_iff_not, Int.toNat_natCast, q115, if_pos hx]
        rw [if_neg (by omega), if_neg (by omega)]
        by_cases q : V 115 a = -1
        · rw [if_pos (by omega), if_pos q]
          rfl
        · rw [if_neg (by omega), if_neg (by omega), if_neg q]
          rfl
  · refine two_ask (r := vi (-1)) hW ⟨σ, Sc.rf, ?_⟩ (fun s hV => ⟨s, Sc.rf, ?_⟩)
    · rw [run_go (k := 132) (as := [vh 0 0, vi x, vi k]) mt_132 (Nat.ne_of_beq_eq_false rfl) rfl (s_kX11_taken_0 _ x k σ), ci_of (c_isShelf (d := d + 98) x)]
      simp only [bi_0, decide_eq_false_iff_not]
      by_cases q : 0 ≤ x ∧ x < 6
      · rw [if_neg (by omega)]
        by_cases k0 : k < 0
        · rw [if_pos k0]
          rfl
        · rw [if_neg k0, if_pos (by omega)]
          rfl
      · rw [if_pos q]
        rfl
    · rw [run_go (k := 245) (as := [vh 51 0, vi x, vi k]) mt_245 (Nat.ne_of_beq_eq_false rfl) rfl (s_kX12_taken_0 _ x k s), ci_of (r_isShelf (d := d + 97) x), ci_of (r_within (d := d + 98) k 0 6)]
      simp only [bi_0, decide_eq_false_iff_not]
      by_cases q : 0 ≤ x ∧ x < 6
      · rw [if_neg (by omega), if_pos (by omega)]
        rfl
      · rw [if_pos q]
        rfl
end
