-- card(): both sides
section
variable {σ : TM} {V : TVw} {d : Nat}
def caT (V : TVw) (g : Nat) (w : Int) : Int := fF (fduP (V 53 g) (V 51 0 + w)) (30 - (V 54 g).toNat) (V 54 g).toNat
/-- the rows of the next card, but where it counts -/
def caW (V : TVw) (x y : Int) (g : Nat) (w : Int) : TVw := vu (vu (vu (vu (vu V 81 (nC V) x) 82 (nC V) y) 83 (nC V) (V 51 0)) 84 (nC V) (V 51 0 + w)) 86 (nC V) (V 54 g)
def caV (V : TVw) (x y : Int) (g : Nat) (w : Int) : TVw := vu (vu (caW V x y g w) 85 (nC V) (caT V g w)) 51 41 (V 51 41 + 1)
theorem r_due0 {g : Nat} {b : Int} (hb : σ 53 0 g = b) (hg : g < 3) (i0 : 0 ≤ b) (i1 : b ≤ 999) {t : Int} (ht : 0 ≤ t) (ht2 : t ≤ 30) : t_run tbl mtb (d + 1) 158 [vh 51 0, vi g, vi t] σ = some (some (vi (b + 7 * (t + 1))), σ) := by
  rw [run_go (k := 158) (as := [vh 51 0, vi g, vi t]) mt_158 (Nat.ne_of_beq_eq_false rfl) rfl (s_kX12_dueOn_0 _ g t σ), Int.toNat_natCast, hb, w32_id (x := t + 1) (by omega) (by omega), w32_id (x := 7 * (t + 1)) (by omega) (by omega), w32_id (by omega) (by omega), if_pos (by omega)]
  exact leaf_i rfl
set_option maxHeartbeats 4000000 in
theorem two_card (hW : WW σ V) (x y w : Int) : Two (d + 100) 89 186 [vi x, vi y, vi w] σ := by
  have h := hW.1
  have hI := h.inv
  have h0 := hI.cnt
  by_cases hx : (0 ≤ x ∧ x < V 51 15) ∧ (0 ≤ y ∧ y < V 51 15) ∧ (0 ≤ w ∧ w ≤ 9) ∧ (x = y ∨ V 62 y.toNat ≠ -1 ∧ V 63 y.toNat = x)
  · obtain ⟨hx, hy, hw, hd⟩ := hx
    obtain ⟨y, rfl⟩ : ∃ y' : Nat, y = (y' : Int) := ⟨y.toNat, by omega⟩
    rw [Int.toNat_natCast] at hd
    have r12 : 0 ≤ (y : Int) ∧ (y : Int) < 12 := by omega
    obtain ⟨-, q2, -⟩ := h 3 y (by omega)
    obtain ⟨p0, -, p2, p3⟩ := q2 (by show y < nH V; omega)
    obtain ⟨g1, g2, g3, g4, -⟩ := hI 2 y (by show y < nH V; omega)
    generalize hgg : V 59 y = g at p0 g1 g2
    obtain ⟨g, rfl⟩ : ∃ g' : Nat, g = (g' : Int) := ⟨g.toNat, by omega⟩
    have r3 : 0 ≤ (g : Int) ∧ (g : Int) < 3 := by omega
    obtain ⟨b1, b2, -, b4⟩ := hI 1 g (by omega)
    obtain ⟨b5, b6, -⟩ := b4 (by omega)
    obtain ⟨k1, -, k3, -⟩ := h 1 g (by omega)
    obtain ⟨-, k4, -⟩ := k3 (by omega)
    have ed : w32 (V 51 0 + w) = V 51 0 + w := w32_id (by omega) (by omega)
    by_cases hf : V 51 41 < 150
    · have rn : 0 ≤ V 51 41 ∧ V 51 41 < 150 := by omega
      have en : (nC V : Int) = V 51 41 := by omega
      have eT : ((V 54 g).toNat : Int) = V 54 g := by omega
      have hT : -1 ≤ caT V g w ∧ caT V g w < 30 := by
        rcases fF_range (fduP (V 53 g) (V 51 0 + w)) (30 - (V 54 g).toNat) (V 54 g).toNat with q | ⟨q, q1, q2, q3, -⟩
        · unfold caT; omega
        · unfold caT; omega
      have e5141 : caV V x y g w 51 41 = V 51 41 + 1 := vu_same
      have e51 : ∀ j, j ≠ 41 → caV V x y g w 51 j = V 51 j := fun j hj => by
        unfold caV caW
        rw [vu_j hj, vu_k (by decide), vu_k (by decide), vu_k (by decide), vu_k (by decide), vu_k (by decide), vu_k (by decide)]
      have enC : nC (caV V x y g w) = nC V + 1 := by
        unfold nC
        rw [e5141]
        omega
      have e81 : ∀ z, caV V x y g w 81 z = if z = nC V then x else V 81 z := fun z => by
        unfold caV caW
        rw [vu_k (by decide), vu_k (by decide), vu_k (by decide), vu_k (by decide), vu_k (by decide), vu_k (by decide), vu_at]
      have e82 : ∀ z, caV V x y g w 82 z = if z = nC V then (y : Int) else V 82 z := fun z => by
        unfold caV caW
        rw [vu_k (by decide), vu_k (by decide), vu_k (by decide), vu_k (by decide), vu_k (by decide), vu_at, vu_k (by decide)]
      have e83 : ∀ z, caV V x y g w 83 z = if z = nC V then V 51 0 else V 83 z := fun z => by
        unfold caV caW
        rw [vu_k (by decide), vu_k (by decide), vu_k (by decide), vu_k (by decide), vu_at, vu_k (by decide), vu_k (by decide)]
      have e84 : ∀ z, caV V x y g w 84 z = if z = nC V then V 51 0 + w else V 84 z := fun z => by
        unfold caV caW
        rw [vu_k (by decide), vu_k (by decide), vu_k (by decide), vu_at, vu_k (by decide), vu_k (by decide), vu_k (by decide)]
      have e85 : ∀ z, caV V x y g w 85 z = if z = nC V then caT V g w else V 85 z := fun z => by
        unfold caV caW
        rw [vu_k (by decide), vu_at, vu_k (by decide), vu_k (by decide), vu_k (by decide), vu_k (by decide), vu_k (by decide)]
      have e86 : ∀ z, caV V x y g w 86 z = if z = nC V then V 54 g else V 86 z := fun z => by
        unfold caV caW
        rw [vu_k (by decide), vu_k (by decide), vu_at, vu_k (by decide), vu_k (by decide), vu_k (by decide), vu_k (by decide)]
      have uV : Uv [44, 1009, 81, 82, 83, 84, 85, 86, 7569] V (caV V x y g w) := Uv.up (Uv.up (Uv.up (Uv.up (Uv.up (Uv.up (Uv.up Uv.rf rfl) rfl) rfl) rfl) rfl) rfl) rfl
      have hI2 : Inv (caV V x y g w) := Inv.k uV hI (fun i hi hd2 => by
        rcases (by decide : ∀ i, i < 16 → djT [44, 1009, 81, 82, 83, 84, 85, 86, 7569] (idep i) = false → i = 0 ∨ i = 10 ∨ i = 11 ∨ i = 12) i hi hd2 with rfl | rfl | rfl | rfl
        · obtain ⟨q1, q2, q3, q4, q5, q6, q7, q8, q9, q10, q11⟩ := hI 0
          refine ⟨q1, q2, q3, q4, q5, q6, q7, q8, ?_, ?_, q11⟩
          · rw [e5141]; omega
          · rw [e5141]; omega
        · intro c hc
          rw [enC] at hc
          rw [e81, e82, e83, e84, e85, e86, e51 15 (by decide), e51 0 (by decide)]
          by_cases e : c = nC V
          · rw [if_pos e, if_pos e, if_pos e, if_pos e, if_pos e, if_pos e]
            refine ⟨hx.1, hx.2, hy.1, hy.2, by omega, by omega, by omega, by omega, hT.1, hT.2, b1, b2, fun ne => ?_⟩
            rw [Int.toNat_natCast]
            show 0 ≤ V 62 y ∧ V 63 y = x
            rcases hd with q | ⟨q, q3⟩
            · exact absurd q ne
            · exact ⟨by omega, q3⟩
          · rw [if_neg e, if_neg e, if_neg e, if_neg e, if_neg e, if_neg e]
            exact hI 10 c (by show c < nC V; omega)
        · intro o ho
          obtain ⟨w1, w2, w3, w4, w5, w6⟩ := hI 11 o ho
          rw [e5141, e82]
          rw [if_neg (show ¬ (caV V x y g w 88 o).toNat = nC V from fun q => by
            have q : (V 88 o).toNat = nC V := q
            omega)]
          exact ⟨w1, by show V 88 o < V 51 41 + 1; omega, w3, w4, w5, w6⟩
        · intro o ho
          obtain ⟨w1, w2, -⟩ := hI 11 o ho
          have v := hI 12 o ho
          rw [e81, e82, if_neg (show ¬ (caV V x y g w 88 o).toNat = nC V from fun q => by
            have q : (V 88 o).toNat = nC V := q
            omega), if_neg (show ¬ (caV V x y g w 88 o).toNat = nC V from fun q => by
            have q : (V 88 o).toNat = nC V := q
            omega)]
          exact v)
      -- the class's memory
      have M : ∀ a i j, t_upd (t_upd (t_upd (t_upd (t_upd (t_upd (t_upd σ 44 (nC V) 0 x) 44 (nC V) 1 y) 44 (nC V) 2 (V 51 0)) 44 (nC V) 3 (V 51 0 + w)) 44 (nC V) 4 (V 54 g)) 44 (nC V) 5 (caT V g w)) 0 0 9 (V 51 41 + 1) a i j = if a = 0 ∧ i = 0 ∧ j = 9 then V 51 41 + 1 else if a = 44 ∧ i = nC V ∧ j < 6 then (if j = 0 then x else if j = 1 then (y : Int) else if j = 2 then V 51 0 else if j = 3 then V 51 0 + w else if j = 4 then V 54 g else caT V g w) else σ a i j := fun a i j => by
        rw [t_upd_eq]
        by_cases z0 : a = 0 ∧ i = 0 ∧ j = 9
        · rw [if_pos z0, if_pos z0]
        · rw [if_neg z0, if_neg z0]
          by_cases z : a = 44 ∧ i = nC V ∧ j < 6
          · rw [if_pos z]
            obtain ⟨rfl, rfl, z3⟩ := z
            rcases (by omega : j = 0 ∨ j = 1 ∨ j = 2 ∨ j = 3 ∨ j = 4 ∨ j = 5) with rfl | rfl | rfl | rfl | rfl | rfl
            · rw [up_j (show (0 : Nat) ≠ 5 by decide), up_j (show (0 : Nat) ≠ 4 by decide), up_j (show (0 : Nat) ≠ 3 by decide), up_j (show (0 : Nat) ≠ 2 by decide), up_j (show (0 : Nat) ≠ 1 by decide), up_same]
              rfl
            · rw [up_j (show (1 : Nat) ≠ 5 by decide), up_j (show (1 : Nat) ≠ 4 by decide), up_j (show (1 : Nat) ≠ 3 by decide), up_j (show (1 : Nat) ≠ 2 by decide), up_same]
              rfl
            · rw [up_j (show (2 : Nat) ≠ 5 by decide), up_j (show (2 : Nat) ≠ 4 by decide), up_j (show (2 : Nat) ≠ 3 by decide), up_same]
              rfl
            · rw [up_j (show (3 : Nat) ≠ 5 by decide), up_j (show (3 : Nat) ≠ 4 by decide), up_same]
              rfl
            · rw [up_j (show (4 : Nat) ≠ 5 by decide), up_same]
              rfl
            · rw [up_same]
              rfl
          · rw [if_neg z, t_upd_eq, if_neg (fun q => z ⟨q.1, q.2.1, by omega⟩), t_upd_eq, if_neg (fun q => z ⟨q.1, q.2.1, by omega⟩), t_upd_eq, if_neg (fun q => z ⟨q.1, q.2.1, by omega⟩), t_upd_eq, if_neg (fun q => z ⟨q.1, q.2.1, by omega⟩), t_upd_eq, if_neg (fun q => z ⟨q.1, q.2.1, by omega⟩), t_upd_eq, if_neg (fun q => z ⟨q.1, q.2.1, by omega⟩)]
      have uS : Uc [44, 1009, 81, 82, 83, 84, 85, 86, 7569] σ (t_upd (t_upd (t_upd (t_upd (t_upd (t_upd (t_upd σ 44 (nC V) 0 x) 44 (nC V) 1 y) 44 (nC V) 2 (V 51 0)) 44 (nC V) 3 (V 51 0 + w)) 44 (nC V) 4 (V 54 g)) 44 (nC V) 5 (caT V g w)) 0 0 9 (V 51 41 + 1)) := fun a i j _ q => by
        rw [M, if_neg (by rintro ⟨rfl, -, rfl⟩; cases q), if_neg (by rintro ⟨rfl, -⟩; cases q)]
      refine two_of (r := vi (V 51 41)) (V' := caV V x y g w) hW ⟨_, fun k i j hk => by rw [M, if_neg (by omega), if_neg (by omega)], CR.k uS uV h hI2 (fun i hi hd2 => ?_), KW.k uS uV hW.2.2 rfl, ?_⟩ (fun s hV => ?_)
      · rcases (by decide : ∀ i, i < 16 → djT [44, 1009, 81, 82, 83, 84, 85, 86, 7569] (cdep i) = false → i = 0 ∨ i = 10) i hi hd2 with rfl | rfl
        · obtain ⟨q1, q2, q3, q4, q5, q6, q7, q8⟩ := h 0
          have f : ∀ j, j ≠ 9 → _ = σ 0 0 j := fun j hj => (M 0 0 j).trans ((if_neg (fun q => hj q.2.2)).trans (if_neg (fun q => by cases q.1)))
          exact ⟨(f 0 (by decide)).trans q1, (f 2 (by decide)).trans q2, (f 4 (by decide)).trans q3, (f 7 (by decide)).trans q4, by rw [M, if_pos ⟨rfl, rfl, rfl⟩]; exact e5141.symm, (f 11 (by decide)).trans q6, (f 13 (by decide)).trans q7, by rw [M, if_neg (fun q => by cases q.1), if_neg (fun q => by cases q.1)]; exact q8⟩
        · intro c hc
          rw [enC] at hc
          rw [e81, e82, e83, e84, e85, e86]
          by_cases e : c = nC V
          · subst e
            have m := fun j (hj : j < 6) => (M 44 (nC V) j).trans ((if_neg (fun q => by cases q.1)).trans (if_pos ⟨rfl, rfl, hj⟩))
            rw [if_pos rfl, if_pos rfl, if_pos rfl, if_pos rfl, if_pos rfl, if_pos rfl]
            exact ⟨(m 0 (by decide)).trans rfl, (m 1 (by decide)).trans rfl, (m 2 (by decide)).trans rfl, (m 3 (by decide)).trans rfl, (m 4 (by decide)).trans rfl, (m 5 (by decide)).trans rfl⟩
          · have m := fun j => (M 44 c j).trans ((if_neg (fun q => by cases q.1)).trans (if_neg (fun q => e q.2.1)))
            rw [if_neg e, if_neg e, if_neg e, if_neg e, if_neg e, if_neg e, m, m, m, m, m, m]
            exact h 10 c (by show c < nC V; omega)
      · have f0 : ∀ a b, t_upd (t_upd σ 44 (V 51 41).toNat 0 a) 44 (V 51 41).toNat 1 b 0 0 0 = V 51 0 := fun a b => by
          rw [up_k (show (0 : Nat) ≠ 44 by decide), up_k (show (0 : Nat) ≠ 44 by decide)]
          exact h.day
        have f1 : ∀ a b c, t_upd (t_upd (t_upd σ 44 (V 51 41).toNat 0 a) 44 (V 51 41).toNat 1 b) 44 (V 51 41).toNat 2 c 0 0 0 = V 51 0 := fun a b c => by
          rw [up_k (show (0 : Nat) ≠ 44 by decide)]
          exact f0 a b
        have f2 : ∀ a b c e, t_upd (t_upd (t_upd (t_upd σ 44 (V 51 41).toNat 0 a) 44 (V 51 41).toNat 1 b) 44 (V 51 41).toNat 2 c) 44 (V 51 41).toNat 3 e 38 g 2 = V 54 g := fun a b c e => by
          rw [up_k (show (38 : Nat) ≠ 44 by decide), up_k (show (38 : Nat) ≠ 44 by decide), up_k (show (38 : Nat) ≠ 44 by decide), up_k (show (38 : Nat) ≠ 44 by decide)]
          exact k1
        have f3 : ∀ a b c e f, t_upd (t_upd (t_upd (t_upd (t_upd σ 44 (V 51 41).toNat 0 a) 44 (V 51 41).toNat 1 b) 44 (V 51 41).toNat 2 c) 44 (V 51 41).toNat 3 e) 44 (V 51 41).toNat 4 f 44 (V 51 41).toNat 3 = e := fun a b c e f => by
          rw [up_j (show (3 : Nat) ≠ 4 by decide), up_same]
        have ec : t_run tbl mtb (d + 99) 10 [vh 38 g, vi (V 51 0 + w)] (t_upd (t_upd (t_upd (t_upd (t_upd σ 44 (V 51 41).toNat 0 x) 44 (V 51 41).toNat 1 y) 44 (V 51 41).toNat 2 (V 51 0)) 44 (V 51 41).toNat 3 (V 51 0 + w)) 44 (V 51 41).toNat 4 (V 54 g)) = some (some (vi (caT V g w)), t_upd (t_upd (t_upd (t_upd (t_upd σ 44 (V 51 41).toNat 0 x) 44 (V 51 41).toNat 1 y) 44 (V 51 41).toNat 2 (V 51 0)) 44 (V 51 41).toNat 3 (V 51 0 + w)) 44 (V 51 41).toNat 4 (V 54 g)) := by
          refine c_firstDue (d := d + 97) ?_ b5 b6 ?_ b1 b2
          · rw [up_k (show (38 : Nat) ≠ 44 by decide), up_k (show (38 : Nat) ≠ 44 by decide), up_k (show (38 : Nat) ≠ 44 by decide), up_k (show (38 : Nat) ≠ 44 by decide), up_k (show (38 : Nat) ≠ 44 by decide)]
            exact k4
          · rw [up_k (show (38 : Nat) ≠ 44 by decide)]
            exact f2 _ _ _ _
        have f4 : ∀ a b c e f z, t_upd (t_upd (t_upd (t_upd (t_upd (t_upd σ 44 (V 51 41).toNat 0 a) 44 (V 51 41).toNat 1 b) 44 (V 51 41).toNat 2 c) 44 (V 51 41).toNat 3 e) 44 (V 51 41).toNat 4 f) 44 (V 51 41).toNat 5 z 0 0 9 = V 51 41 := fun a b c e f z => by
          rw [up_k (show (0 : Nat) ≠ 44 by decide), up_k (show (0 : Nat) ≠ 44 by decide), up_k (show (0 : Nat) ≠ 44 by decide), up_k (show (0 : Nat) ≠ 44 by decide), up_k (show (0 : Nat) ≠ 44 by decide), up_k (show (0 : Nat) ≠ 44 by decide)]
          exact h.nc
        rw [run_go (k := 89) (as := [vh 0 0, vi x, vi y, vi w]) mt_89 (Nat.ne_of_beq_eq_false rfl) rfl (s_kX11_card_0 _ x y w σ), ci_of (c_isHolder (d := d + 98) h x), ci_of (c_isHolder (d := d + 98) h (y : Int))]
        simp only [bi_0, decide_eq_false_iff_not, Int.toNat_natCast, h.nc, p0, p2, p3, f0, f1, f2, f3, ed, ec, ci_ok, f4, up_same, if_pos rn, if_pos r12, if_pos r3, if_pos hf]
        rw [if_neg (by omega), if_neg (by omega), if_neg (by omega), if_neg (by omega), w32_id (x := V 51 41 + 1) (by omega) (by omega), w32_id (x := V 51 41 + 1 - 1) (by omega) (by omega), Int.add_sub_cancel]
        by_cases q : x = y
        · rw [if_pos q]
          rfl
        · have hd2 := hd.resolve_left q
          rw [if_neg q, if_neg hd2.1, if_pos hd2.2]
          rfl
      · have q41 := hV 51 41 rfl rfl rfl
        have q0 := hV 51 0 rfl rfl rfl
        have q62 := hV 62 y rfl rfl rfl
        have q63 := hV 63 y rfl rfl rfl
        have q59 : s 59 0 y = (g : Int) := (hV 59 y rfl rfl rfl).trans hgg
        have v1 : RV (t_upd (t_upd (t_upd (t_upd (t_upd s 81 0 (nC V) x) 82 0 (nC V) y) 83 0 (nC V) (V 51 0)) 84 0 (nC V) (V 51 0 + w)) 86 0 (nC V) (V 54 g)) (caW V x y g w) := hV.up.up.up.up.up
        have c1 : ∀ a, t_upd s 81 0 (V 51 41).toNat a 51 0 41 = V 51 41 := fun a => by rw [up_k (show (51 : Nat) ≠ 81 by decide)]; exact q41
        have c2 : ∀ a b, t_upd (t_upd s 81 0 (V 51 41).toNat a) 82 0 (V 51 41).toNat b 51 0 41 = V 51 41 := fun a b => by rw [up_k (show (51 : Nat) ≠ 82 by decide)]; exact c1 a
        have c3 : ∀ a b c, t_upd (t_upd (t_upd s 81 0 (V 51 41).toNat a) 82 0 (V 51 41).toNat b) 83 0 (V 51 41).toNat c 51 0 41 = V 51 41 := fun a b c => by rw [up_k (show (51 : Nat) ≠ 83 by decide)]; exact c2 a b
        have c4 : ∀ a b c e, t_upd (t_upd (t_upd (t_upd s 81 0 (V 51 41).toNat a) 82 0 (V 51 41).toNat b) 83 0 (V 51 41).toNat c) 84 0 (V 51 41).toNat e 51 0 41 = V 51 41 := fun a b c e => by rw [up_k (show (51 : Nat) ≠ 84 by decide)]; exact c3 a b c
        have d0 : ∀ a b, t_upd (t_upd s 81 0 (V 51 41).toNat a) 82 0 (V 51 41).toNat b 51 0 0 = V 51 0 := fun a b => by rw [up_k (show (51 : Nat) ≠ 82 by decide), up_k (show (51 : Nat) ≠ 81 by decide)]; exact q0
        have d1 : ∀ a b c, t_upd (t_upd (t_upd s 81 0 (V 51 41).toNat a) 82 0 (V 51 41).toNat b) 83 0 (V 51 41).toNat c 51 0 0 = V 51 0 := fun a b c => by rw [up_k (show (51 : Nat) ≠ 83 by decide)]; exact d0 a b
        have d2 : ∀ a b c e, t_upd (t_upd (t_upd (t_upd s 81 0 (V 51 41).toNat a) 82 0 (V 51 41).toNat b) 83 0 (V 51 41).toNat c) 84 0 (V 51 41).toNat e 54 0 g = V 54 g := fun a b c e => by rw [up_k (show (54 : Nat) ≠ 84 by decide), up_k (show (54 : Nat) ≠ 83 by decide), up_k (show (54 : Nat) ≠ 82 by decide), up_k (show (54 : Nat) ≠ 81 by decide)]; exact hV 54 g rfl rfl rfl
        have d3 : ∀ a b c e f, t_upd (t_upd (t_upd (t_upd (t_upd s 81 0 (V 51 41).toNat a) 82 0 (V 51 41).toNat b) 83 0 (V 51 41).toNat c) 84 0 (V 51 41).toNat e) 86 0 (V 51 41).toNat f 54 0 g = V 54 g := fun a b c e f => by rw [up_k (show (54 : Nat) ≠ 86 by decide)]; exact d2 a b c e
        -- the search
        have LL : ∀ (s : TM), s 53 0 g = V 53 g → s 51 0 0 = V 51 0 → s 51 0 41 = V 51 41 → ∀ (m p N : Nat), p + m = 30 → m < N → t_out (t_tr tbl mtb (t_run tbl mtb (d + 99)) 186 N 148 [some (vh 51 0), none, none, some (vi w), some (vi (g : Int)), some (vi (p : Int))] [] s) = some (some (vi (V 51 41)), t_upd (t_upd s 85 0 (nC V) (fF (fduP (V 53 g) (V 51 0 + w)) m p)) 51 0 41 (V 51 41 + 1)) := by
          intro s s53 s0 s41 m
          induction m with
          | zero =>
            intro p N hp hN
            obtain ⟨N, rfl⟩ : ∃ k, N = k + 1 := ⟨N - 1, by omega⟩
            rw [tr_step (s_kX12_card_148 _ w g p s), if_neg (by omega), if_neg (by omega), s41, if_pos rn]
            simp only [up_k (show (51 : Nat) ≠ 85 by decide), s41, up_same]
            rw [w32_id (x := V 51 41 + 1) (by omega) (by omega), w32_id (x := V 51 41 + 1 - 1) (by omega) (by omega), Int.add_sub_cancel]
            rfl
          | succ m ih =>
            intro p N hp hN
            obtain ⟨N, rfl⟩ : ∃ k, N = k + 1 := ⟨N - 1, by omega⟩
            rw [tr_step (s_kX12_card_148 _ w g p s), if_pos (by omega), ci_of (r_due0 (d := d + 98) s53 (by omega) b5 b6 (t := (p : Int)) (by omega) (by omega)), s0, ed, w32_nat (by omega), fF]
            unfold fduP
            simp only [decide_eq_true_eq]
            by_cases z : V 53 g + 7 * ((p : Int) + 1) < V 51 0 + w
            · rw [if_pos z, if_neg (by omega), nx_inl]
              exact ih (p + 1) N (by omega) (by omega)
            · rw [if_neg z, if_pos (show V 51 0 + w ≤ V 53 g + 7 * ((p : Int) + 1) by omega), if_pos (by omega), s41, if_pos rn]
              simp only [up_k (show (51 : Nat) ≠ 85 by decide), s41, up_same]
              rw [w32_id (x := V 51 41 + 1) (by omega) (by omega), w32_id (x := V 51 41 + 1 - 1) (by omega) (by omega), Int.add_sub_cancel]
              rfl
        refine ⟨_, ((((((FR.rf.up rfl).up rfl).up rfl).up rfl).up rfl).up rfl).up rfl, v1.up.up, ?_⟩
        have LL := LL _ (v1 53 g rfl rfl rfl) (v1 51 0 rfl rfl rfl) (v1 51 41 rfl rfl rfl) (30 - (V 54 g).toNat) (V 54 g).toNat 999999 (by omega) (by omega)
        rw [eT] at LL
        rw [run_go (k := 186) (as := [vh 51 0, vi x, vi y, vi w]) mt_186 (Nat.ne_of_beq_eq_false rfl) rfl (s_kX12_card_0 _ x y w s), ci_of (r_isHolder (d := d + 98) hV x), ci_of (r_isHolder (d := d + 98) hV (y : Int)), ci_of (r_within (d := d + 98) w 0 9)]
        simp only [bi_0, decide_eq_false_iff_not, Int.toNat_natCast, q41, q0, q62, q63, q59, c1, c2, c3, c4, d0, d1, d2, d3, ed, if_pos rn, if_pos r12, if_pos r3, nx_inl, if_neg (show ¬ V 51 41 = 150 by omega), if_neg (show ¬¬ (0 ≤ w ∧ w ≤ 9) by omega)]
        rw [if_neg (by omega), if_neg (by omega)]
        by_cases q : x = y
        · rw [if_pos q, nx_inl]
          exact LL
        · have hd2 := hd.resolve_left q
          rw [if_neg q, if_neg (by omega), if_pos hd2.2, nx_inl]
          exact LL
    · refine two_ask (r := vi (-3)) hW ⟨σ, Sc.rf, ?_⟩ (fun s hV => ⟨s, Sc.rf, ?_⟩)
      · rw [run_go (k := 89) (as := [vh 0 0, vi x, vi y, vi w]) mt_89 (Nat.ne_of_beq_eq_false rfl) rfl (s_kX11_card_0 _ x y w σ), ci_of (c_isHolder (d := d + 98) h x), ci_of (c_isHolder (d := d + 98) h (y : Int))]
        simp only [bi_0, decide_eq_false_iff_not, Int.toNat_natCast, h.nc, p2, p3, if_neg hf, if_pos r12]
        rw [if_neg (by omega), if_neg (by omega), if_neg (by omega), if_neg (by omega)]
        by_cases q : x = y
        · rw [if_pos q]
          rfl
        · have hd2 := hd.resolve_left q
          rw [if_neg q, if_neg hd2.1, if_pos hd2.2]
          rfl
      · have q41 := hV 51 41 rfl rfl rfl
        have q62 := hV 62 y rfl rfl rfl
        have q63 := hV 63 y rfl rfl rfl
        rw [run_go (k := 186) (as := [vh 51 0, vi x, vi y, vi w]) mt_186 (Nat.ne_of_beq_eq_false rfl) rfl (s_kX12_card_0 _ x y w s), ci_of (r_isHolder (d := d + 98) hV x), ci_of (r_isHolder (d := d + 98) hV (y : Int)), ci_of (r_within (d := d + 98) w 0 9)]
        simp only [bi_0, decide_eq_false_iff_not, Int.toNat_natCast, q41, q62, q63, if_pos r12, if_pos (show V 51 41 = 150 by omega), if_neg (show ¬¬ (0 ≤ w ∧ w ≤ 9) by omega)]
        rw [if_neg (by omega), if_neg (by omega)]
        by_cases q : x = y
        · rw [if_pos q]
          rfl
        · have hd2 := hd.resolve_left q
          rw [if_neg q, if_neg (by omega), if_pos hd2.2]
          rfl
  · refine two_ask (r := vi (-1)) hW ⟨σ, Sc.rf, ?_⟩ (fun s hV => ⟨s, Sc.rf, ?_⟩)
    · rw [run_go (k := 89) (as := [vh 0 0, vi x, vi y, vi w]) mt_89 (Nat.ne_of_beq_eq_false rfl) rfl (s_kX11_card_0 _ x y w σ), ci_of (c_isHolder (d := d + 98) h x), ci_of (c_isHolder (d := d + 98) h y)]
      simp only [bi_0, decide_eq_false_iff_not]
      by_cases y1 : 0 ≤ x ∧ x < V 51 15
      · rw [if_neg (by omega)]
        by_cases y2 : 0 ≤ y ∧ y < V 51 15
        · obtain ⟨-, q2, -⟩ := h 3 y.toNat (by omega)
          obtain ⟨p0, -, p2, p3⟩ := q2 (by show y.toNat < nH V; omega)
          rw [if_neg (by omega)]
          by_cases y3 : w < 0
          · rw [if_pos y3]
            rfl
          · rw [if_neg y3]
            by_cases y4 : 9 < w
            · rw [if_pos y4]
              rfl
            · rw [if_neg y4, if_neg (fun q => hx ⟨y1, y2, by omega, .inl q⟩), if_pos (by omega), p2]
              by_cases y5 : V 62 y.toNat = -1
              · rw [if_pos y5]
                rfl
              · rw [if_neg y5, if_pos (by omega), p3, if_neg (fun q => hx ⟨y1, y2, by omega, .inr ⟨y5, q⟩⟩)]
                rfl
        · rw [if_pos y2]
          rfl
      · rw [if_pos y1]
        rfl
    · have q62 := hV 62 y.toNat rfl rfl rfl
      have q63 := hV 63 y.toNat rfl rfl rfl
      rw [run_go (k := 186) (as := [vh 51 0, vi x, vi y, vi w]) mt_186 (Nat.ne_of_beq_eq_false rfl) rfl (s_kX12_card_0 _ x y w s), ci_of (r_isHolder (d := d + 98) hV x), ci_of (r_isHolder (d := d + 98) hV y), ci_of (r_within (d := d + 98) w 0 9), q62, q63]
      simp only [bi_0, decide_eq_false_iff_not]
      by_cases y1 : 0 ≤ x ∧ x < V 51 15
      · rw [if_neg (by omega)]
        by_cases y2 : 0 ≤ y ∧ y < V 51 15
        · obtain ⟨-, -, i3, -⟩ := hI 2 y.toNat (by show y.toNat < nH V; omega)
          rw [if_neg (by omega)]
          by_cases y3 : x = y
          · rw [if_pos y3, if_pos (fun q => hx ⟨y1, y2, q, .inl y3⟩)]
            rfl
          · rw [if_neg y3, if_pos (by omega)]
            by_cases y5 : V 62 y.toNat < 0
            · rw [if_pos y5]
              rfl
            · rw [if_neg y5, if_pos (by omega)]
              by_cases y6 : V 63 y.toNat = x
              · rw [if_pos y6, if_pos (fun q => hx ⟨y1, y2, q, .inr ⟨by omega, y6⟩⟩)]
                rfl
              · rw [if_neg y6]
                rfl
        · rw [if_pos y2]
          rfl
      · rw [if_pos y1]
        rfl
end
