-- an order more; order(): both sides
section
variable {σ : TM} {V : TVw} {d : Nat}
def oaV (V : TVw) (c k p w t : Int) : TVw := vu (vu (vu (vu (vu (vu (vu (vu V 88 (nO V) c) 89 (nO V) p) 90 (nO V) w) 91 (nO V) t) 87 (nO V) k) 92 (nO V) (-1)) 93 (nO V) (-1)) 51 49 (V 51 49 + 1)
def oaK (V : TVw) (c k p w t : Int) : Prop := (0 ≤ c ∧ c < V 51 41) ∧ (k = 6 ∧ p = -1 ∨ k = 1 ∧ fsd V p w t = true ∧ V 65 p.toNat = V 82 c.toNat)
section
variable {c k p w t : Int}
theorem oaV_49 : oaV V c k p w t 51 49 = V 51 49 + 1 := vu_same
theorem oaV_51 {j : Nat} (hj : j ≠ 49) : oaV V c k p w t 51 j = V 51 j := by
  unfold oaV
  rw [vu_j hj, vu_k (by decide), vu_k (by decide), vu_k (by decide), vu_k (by decide), vu_k (by decide), vu_k (by decide), vu_k (by decide)]
theorem oaV_o {a b : Nat} (h1 : (Nat.ble 87 a && Nat.ble a 93) = false) (h2 : ¬ (a = 51 ∧ b = 49)) : oaV V c k p w t a b = V a b := by
  unfold oaV
  rw [vu_r, if_neg h2, vu_k (by rintro rfl; cases h1), vu_k (by rintro rfl; cases h1), vu_k (by rintro rfl; cases h1), vu_k (by rintro rfl; cases h1), vu_k (by rintro rfl; cases h1), vu_k (by rintro rfl; cases h1), vu_k (by rintro rfl; cases h1)]
theorem oaV_n (z : Nat) : oaV V c k p w t 88 z = (if z = nO V then c else V 88 z) ∧ oaV V c k p w t 89 z = (if z = nO V then p else V 89 z) ∧ oaV V c k p w t 90 z = (if z = nO V then w else V 90 z) ∧ oaV V c k p w t 91 z = (if z = nO V then t else V 91 z) ∧ oaV V c k p w t 87 z = (if z = nO V then k else V 87 z) ∧ oaV V c k p w t 92 z = (if z = nO V then -1 else V 92 z) ∧ oaV V c k p w t 93 z = (if z = nO V then -1 else V 93 z) := by
  unfold oaV
  refine ⟨?_, ?_, ?_, ?_, ?_, ?_, ?_⟩
  · rw [vu_k (by decide), vu_k (by decide), vu_k (by decide), vu_k (by decide), vu_k (by decide), vu_k (by decide), vu_k (by decide), vu_at]
  · rw [vu_k (by decide), vu_k (by decide), vu_k (by decide), vu_k (by decide), vu_k (by decide), vu_k (by decide), vu_at, vu_k (by decide)]
  · rw [vu_k (by decide), vu_k (by decide), vu_k (by decide), vu_k (by decide), vu_k (by decide), vu_at, vu_k (by decide), vu_k (by decide)]
  · rw [vu_k (by decide), vu_k (by decide), vu_k (by decide), vu_k (by decide), vu_at, vu_k (by decide), vu_k (by decide), vu_k (by decide)]
  · rw [vu_k (by decide), vu_k (by decide), vu_k (by decide), vu_at, vu_k (by decide), vu_k (by decide), vu_k (by decide), vu_k (by decide)]
  · rw [vu_k (by decide), vu_k (by decide), vu_at, vu_k (by decide), vu_k (by decide), vu_k (by decide), vu_k (by decide), vu_k (by decide)]
  · rw [vu_k (by decide), vu_at, vu_k (by decide), vu_k (by decide), vu_k (by decide), vu_k (by decide), vu_k (by decide), vu_k (by decide)]
theorem oaV_uv : Uv [45, 1011, 87, 88, 89, 90, 91, 92, 93, 7577] V (oaV V c k p w t) := Uv.up (Uv.up (Uv.up (Uv.up (Uv.up (Uv.up (Uv.up (Uv.up Uv.rf rfl) rfl) rfl) rfl) rfl) rfl) rfl) rfl
theorem oaV_nO (hI : Inv V) : nO (oaV V c k p w t) = nO V + 1 := by
  have h0 := hI.cnt
  unfold nO
  rw [oaV_49]
  omega
theorem oaV_inv (hI : Inv V) (hn : V 51 49 < 300) (hk : oaK V c k p w t) : Inv (oaV V c k p w t) := Inv.k oaV_uv hI (fun i hi hd => by
  have h0 := hI.cnt
  rcases (by decide : ∀ i, i < 16 → djT [45, 1011, 87, 88, 89, 90, 91, 92, 93, 7577] (idep i) = false → i = 0 ∨ i = 11 ∨ i = 12 ∨ i = 15) i hi hd with rfl | rfl | rfl | rfl
  · obtain ⟨q1, q2, q3, q4, q5, q6, q7, q8, q9, q10, q11, q12, q13⟩ := hI 0
    refine ⟨q1, q2, q3, q4, q5, q6, q7, q8, q9, q10, ?_, ?_, q13⟩
    · rw [oaV_49]; omega
    · rw [oaV_49]; omega
  · intro o ho
    rw [oaV_nO hI] at ho
    obtain ⟨e88, e89, e90, e91, e87, -, -⟩ := oaV_n (V := V) (c := c) (k := k) (p := p) (w := w) (t := t) o
    rw [e88, e89, e90, e91, e87]
    by_cases e : o = nO V
    · rw [if_pos e, if_pos e, if_pos e, if_pos e, if_pos e]
      obtain ⟨hc, hk⟩ := hk
      refine ⟨hc.1, hc.2, by rcases hk with q | q <;> omega, by rcases hk with q | q <;> omega, fun q => by rcases hk with q2 | q2 <;> omega, fun q => ?_⟩
      rcases hk with q2 | ⟨q1, q2, q3⟩
      · exact absurd q2.1 q
      · unfold fsd at q2
        rw [decide_eq_true_eq] at q2
        obtain ⟨f1, f2, f3, f4⟩ := q2
        refine ⟨f1, f2, q3, by rcases f4 with f4 | f4 | f4 <;> omega, by rcases f4 with f4 | f4 | f4 <;> omega, fun q => by rcases f4 with f4 | f4 | f4 <;> omega, fun q => ?_⟩
        rcases f4 with f4 | f4 | f4
        · omega
        · omega
        · exact ⟨f4.2.1, f4.2.2.1, f4.2.2.2.1, f4.2.2.2.2.2⟩
    · rw [if_neg e, if_neg e, if_neg e, if_neg e, if_neg e]
      exact hI 11 o (by show o < nO V; omega)
  · intro o ho
    rw [oaV_nO hI] at ho
    obtain ⟨e88, e89, e90, e91, e87, e92, e93⟩ := oaV_n (V := V) (c := c) (k := k) (p := p) (w := w) (t := t) o
    rw [e88, e87, e92, e93]
    by_cases e : o = nO V
    · rw [if_pos e, if_pos e, if_pos e, if_pos e]
      have hk := hk.2
      exact ⟨fun q => by rcases hk with q2 | q2 <;> omega, fun q => by rcases hk with q2 | q2 <;> omega, fun q => by rcases hk with q2 | q2 <;> omega, fun q => by rcases hk with q2 | q2 <;> omega, fun q => by rcases hk with q2 | q2 <;> omega⟩
    · rw [if_neg e, if_neg e, if_neg e, if_neg e]
      exact hI 12 o (by show o < nO V; omega)
  · intro x hx
    obtain ⟨q1, q2, q3, q4⟩ := hI 15 x hx
    rw [oaV_49]
    refine ⟨q1, q2, fun q => ?_, q4⟩
    have := q3 q
    show V 115 x < V 51 49 + 1
    omega)
set_option maxHeartbeats 2000000 in
theorem c_addOrder (h : CR σ V) (hK : KW σ V) (hn : V 51 49 < 300) (hk : oaK V c k p w t) : ∃ s, FC σ s ∧ CR s (oaV V c k p w t) ∧ KW s (oaV V c k p w t) ∧ t_run tbl mtb (d + 1) 98 [vh 0 0, vi c, vi k, vi p, vi w, vi t] σ = some (none, s) := by
  have hI := h.inv
  have h0 := hI.cnt
  have rn : 0 ≤ V 51 49 ∧ V 51 49 < 300 := by omega
  have M : ∀ a i j, t_upd (t_upd (t_upd (t_upd (t_upd (t_upd σ 45 (nO V) 0 c) 45 (nO V) 1 k) 45 (nO V) 2 p) 45 (nO V) 3 w) 45 (nO V) 4 t) 0 0 11 (V 51 49 + 1) a i j = if a = 0 ∧ i = 0 ∧ j = 11 then V 51 49 + 1 else if a = 45 ∧ i = nO V ∧ j < 5 then (if j = 0 then c else if j = 1 then k else if j = 2 then p else if j = 3 then w else t) else σ a i j := fun a i j => by
    rw [t_upd_eq]
    by_cases z0 : a = 0 ∧ i = 0 ∧ j = 11
    · rw [if_pos z0, if_pos z0]
    · rw [if_neg z0, if_neg z0]
      by_cases z : a = 45 ∧ i = nO V ∧ j < 5
      · rw [if_pos z]
        obtain ⟨rfl, rfl, z3⟩ := z
        rcases (by omega : j = 0 ∨ j = 1 ∨ j = 2 ∨ j = 3 ∨ j = 4) with rfl | rfl | rfl | rfl | rfl
        · rw [up_j (show (0 : Nat) ≠ 4 by decide), up_j (show (0 : Nat) ≠ 3 by decide), up_j (show (0 : Nat) ≠ 2 by decide), up_j (show (0 : Nat) ≠ 1 by decide), up_same]
          rfl
        · rw [up_j (show (1 : Nat) ≠ 4 by decide), up_j (show (1 : Nat) ≠ 3 by decide), up_j (show (1 : Nat) ≠ 2 by decide), up_same]
          rfl
        · rw [up_j (show (2 : Nat) ≠ 4 by decide), up_j (show (2 : Nat) ≠ 3 by decide), up_same]
          rfl
        · rw [up_j (show (3 : Nat) ≠ 4 by decide), up_same]
          rfl
        · rw [up_same]
          rfl
      · rw [if_neg z, t_upd_eq, if_neg (fun q => z ⟨q.1, q.2.1, by omega⟩), t_upd_eq, if_neg (fun q => z ⟨q.1, q.2.1, by omega⟩), t_upd_eq, if_neg (fun q => z ⟨q.1, q.2.1, by omega⟩), t_upd_eq, if_neg (fun q => z ⟨q.1, q.2.1, by omega⟩), t_upd_eq, if_neg (fun q => z ⟨q.1, q.2.1, by omega⟩)]
  have uS : Uc [45, 1011, 87, 88, 89, 90, 91, 92, 93, 7577] σ (t_upd (t_upd (t_upd (t_upd (t_upd (t_upd σ 45 (nO V) 0 c) 45 (nO V) 1 k) 45 (nO V) 2 p) 45 (nO V) 3 w) 45 (nO V) 4 t) 0 0 11 (V 51 49 + 1)) := fun a i j _ q => by
    rw [M, if_neg (by rintro ⟨rfl, -, rfl⟩; cases q), if_neg (by rintro ⟨rfl, -⟩; cases q)]
  refine ⟨_, fun a i j hk => by rw [M, if_neg (by omega), if_neg (by omega)], CR.k uS oaV_uv h (oaV_inv hI hn hk) (fun i hi hd => ?_), KW.k uS oaV_uv hK rfl, ?_⟩
  · rcases (by decide : ∀ i, i < 16 → djT [45, 1011, 87, 88, 89, 90, 91, 92, 93, 7577] (cdep i) = false → i = 0 ∨ i = 11) i hi hd with rfl | rfl
    · obtain ⟨q1, q2, q3, q4, q5, q6, q7, q8⟩ := h 0
      have f : ∀ j, j ≠ 11 → _ = σ 0 0 j := fun j hj => (M 0 0 j).trans ((if_neg (fun q => hj q.2.2)).trans (if_neg (fun q => by cases q.1)))
      exact ⟨(f 0 (by decide)).trans q1, (f 2 (by decide)).trans q2, (f 4 (by decide)).trans q3, (f 7 (by decide)).trans q4, (f 9 (by decide)).trans q5, by rw [M, if_pos ⟨rfl, rfl, rfl⟩]; exact oaV_49.symm, (f 13 (by decide)).trans q7, by rw [M, if_neg (fun q => by cases q.1), if_neg (fun q => by cases q.1)]; exact q8⟩
    · intro o ho
      obtain ⟨q1, q2⟩ := h 11 o ho
      rw [oaV_nO hI]
      obtain ⟨e88, e89, e90, e91, e87, e92, e93⟩ := oaV_n (V := V) (c := c) (k := k) (p := p) (w := w) (t := t) o
      rw [e88, e89, e90, e91, e87, e92, e93]
      have m5 := (M 45 o 5).trans ((if_neg (fun q => by cases q.1)).trans (if_neg (fun q => by have := q.2.2; omega)))
      have m6 := (M 45 o 6).trans ((if_neg (fun q => by cases q.1)).trans (if_neg (fun q => by have := q.2.2; omega)))
      rw [m5, m6]
      by_cases e : o = nO V
      · have m := fun j (hj : j < 5) => (M 45 o j).trans ((if_neg (fun q => by cases q.1)).trans (if_pos ⟨rfl, e, hj⟩))
        obtain ⟨q3, q4⟩ := q2 (by show nO V ≤ o; omega)
        rw [if_pos e, if_pos e, if_pos e, if_pos e, if_pos e, if_pos e, if_pos e]
        exact ⟨fun _ => ⟨(m 0 (by decide)).trans rfl, (m 1 (by decide)).trans rfl, (m 2 (by decide)).trans rfl, (m 3 (by decide)).trans rfl, (m 4 (by decide)).trans rfl, q3, q4⟩, fun q => by omega⟩
      · have m := fun j => (M 45 o j).trans ((if_neg (fun q => by cases q.1)).trans (if_neg (fun q => e q.2.1)))
        rw [if_neg e, if_neg e, if_neg e, if_neg e, if_neg e, if_neg e, if_neg e, m, m, m, m, m]
        exact ⟨fun q => q1 (by show o < nO V; omega), fun q => q2 (by show nO V ≤ o; omega)⟩
  · have g : ∀ a b c e f, t_upd (t_upd (t_upd (t_upd (t_upd σ 45 (V 51 49).toNat 0 a) 45 (V 51 49).toNat 1 b) 45 (V 51 49).toNat 2 c) 45 (V 51 49).toNat 3 e) 45 (V 51 49).toNat 4 f 0 0 11 = V 51 49 := fun a b c e f => by
      rw [up_k (show (0 : Nat) ≠ 45 by decide), up_k (show (0 : Nat) ≠ 45 by decide), up_k (show (0 : Nat) ≠ 45 by decide), up_k (show (0 : Nat) ≠ 45 by decide), up_k (show (0 : Nat) ≠ 45 by decide)]
      exact h.no
    rw [run_go (k := 98) (as := [vh 0 0, vi c, vi k, vi p, vi w, vi t]) mt_98 (Nat.ne_of_beq_eq_false rfl) rfl (s_kX11_addOrder_0 _ c k p w t σ)]
    simp only [h.no, if_pos rn, g]
    rw [w32_id (x := V 51 49 + 1) (by omega) (by omega)]
    rfl
theorem r_add (hV : RV σ V) (hI : Inv V) (hn : V 51 49 < 300) : ∃ s, FR σ s ∧ RV s (oaV V c k p w t) ∧ t_run tbl mtb (d + 1) 191 [vh 51 0, vi c, vi p, vi w, vi t, vi k] σ = some (some (vi (V 51 49)), s) := by
  have h0 := hI.cnt
  have rn : 0 ≤ V 51 49 ∧ V 51 49 < 300 := by omega
  have q := hV 51 49 rfl rfl rfl
  have g1 : ∀ a, t_upd σ 88 0 (V 51 49).toNat a 51 0 49 = V 51 49 := fun a => by rw [up_k (show (51 : Nat) ≠ 88 by decide)]; exact q
  have g2 : ∀ a b, t_upd (t_upd σ 88 0 (V 51 49).toNat a) 89 0 (V 51 49).toNat b 51 0 49 = V 51 49 := fun a b => by rw [up_k (show (51 : Nat) ≠ 89 by decide)]; exact g1 a
  have g3 : ∀ a b c, t_upd (t_upd (t_upd σ 88 0 (V 51 49).toNat a) 89 0 (V 51 49).toNat b) 90 0 (V 51 49).toNat c 51 0 49 = V 51 49 := fun a b c => by rw [up_k (show (51 : Nat) ≠ 90 by decide)]; exact g2 a b
  have g4 : ∀ a b c e, t_upd (t_upd (t_upd (t_upd σ 88 0 (V 51 49).toNat a) 89 0 (V 51 49).toNat b) 90 0 (V 51 49).toNat c) 91 0 (V 51 49).toNat e 51 0 49 = V 51 49 := fun a b c e => by rw [up_k (show (51 : Nat) ≠ 91 by decide)]; exact g3 a b c
  have g5 : ∀ a b c e f, t_upd (t_upd (t_upd (t_upd (t_upd σ 88 0 (V 51 49).toNat a) 89 0 (V 51 49).toNat b) 90 0 (V 51 49).toNat c) 91 0 (V 51 49).toNat e) 87 0 (V 51 49).toNat f 51 0 49 = V 51 49 := fun a b c e f => by rw [up_k (show (51 : Nat) ≠ 87 by decide)]; exact g4 a b c e
  have g6 : ∀ a b c e f g, t_upd (t_upd (t_upd (t_upd (t_upd (t_upd σ 88 0 (V 51 49).toNat a) 89 0 (V 51 49).toNat b) 90 0 (V 51 49).toNat c) 91 0 (V 51 49).toNat e) 87 0 (V 51 49).toNat f) 92 0 (V 51 49).toNat g 51 0 49 = V 51 49 := fun a b c e f g => by rw [up_k (show (51 : Nat) ≠ 92 by decide)]; exact g5 a b c e f
  have g7 : ∀ a b c e f g z, t_upd (t_upd (t_upd (t_upd (t_upd (t_upd (t_upd σ 88 0 (V 51 49).toNat a) 89 0 (V 51 49).toNat b) 90 0 (V 51 49).toNat c) 91 0 (V 51 49).toNat e) 87 0 (V 51 49).toNat f) 92 0 (V 51 49).toNat g) 93 0 (V 51 49).toNat z 51 0 49 = V 51 49 := fun a b c e f g z => by rw [up_k (show (51 : Nat) ≠ 93 by decide)]; exact g6 a b c e f g
  refine ⟨_, (((((((FR.rf.up rfl).up rfl).up rfl).up rfl).up rfl).up rfl).up rfl).up rfl, hV.up.up.up.up.up.up.up.up, ?_⟩
  rw [run_go (k := 191) (as := [vh 51 0, vi c, vi p, vi w, vi t, vi k]) mt_191 (Nat.ne_of_beq_eq_false rfl) rfl (s_kX12_add_0 _ c p w t k σ)]
  simp only [q, g1, g2, g3, g4, g5, g6, g7, up_same, if_pos rn]
  rw [w32_id (x := V 51 49 + 1) (by omega) (by omega), w32_id (x := V 51 49 + 1 - 1) (by omega) (by omega), Int.add_sub_cancel]
  rfl
end
theorem two_order (hW : WW σ V) (c p w t : Int) : Two (d + 100) 91 193 [vi c, vi p, vi w, vi t] σ := by
  have h := hW.1
  have hI := h.inv
  have h0 := hI.cnt
  by_cases hc : 0 ≤ c ∧ c < V 51 41
  · have r150 : 0 ≤ c ∧ c < 150 := by omega
    obtain ⟨k0, k1, k2, -⟩ := h 10 c.toNat (by show c.toNat < nC V; omega)
    obtain ⟨-, -, -, -, -, i5, -⟩ := hI 10 c.toNat (by show c.toNat < nC V; omega)
    by_cases hs : fsd V p w t = true ∧ V 65 p.toNat = V 82 c.toNat
    · have hp : 0 ≤ p ∧ p < V 51 23 := by
        have q := hs.1
        unfold fsd at q
        rw [decide_eq_true_eq] at q
        exact ⟨q.1, q.2.1⟩
      obtain ⟨-, p1, -⟩ := h 5 p.toNat (by show p.toNat < nP V; omega)
      have r40 : 0 ≤ p ∧ p < 40 := by omega
      have ci : t_run tbl mtb (d + 100) 91 [vh 0 0, vi c, vi p, vi w, vi t] σ = t_out (t_nx (t_run tbl mtb (d + 99)) 91 999999 (if V 83 c.toNat = V 51 0 then (if V 51 49 < 300 then t_callv (t_run tbl mtb (d + 99) 98 [vh 0 0, vi c, vi 1, vi p, vi w, vi t] σ) fun s3 => some (.inr (some (vi (w32 ((s3 0 0 11) - 1))), s3)) else some (.inr (some (vi (-3)), σ))) else some (.inr (some (vi (-4)), σ)))) := by
        rw [run_go (k := 91) (as := [vh 0 0, vi c, vi p, vi w, vi t]) mt_91 (Nat.ne_of_beq_eq_false rfl) rfl (s_kX11_order_0 _ c p w t σ), ci_of (c_isCard (d := d + 98) h c), ci_of (c_isSound (d := d + 97) h p w t), hs.1]
        simp only [bi_0, decide_eq_false_iff_not, k1, k2, p1, h.day, h.no, if_pos r150, if_pos r40, if_pos hs.2]
        rw [if_neg (by omega), if_neg (by decide)]
      have ri : ∀ s, RV s V → ∀ K, t_run tbl mtb (d + 100) 193 [vh 51 0, vi c, vi p, vi w, vi t] s = K ↔ t_out (t_nx (t_run tbl mtb (d + 99)) 193 999999 (if V 83 c.toNat < V 51 0 then some (.inr (some (vi (-4)), s)) else if V 51 49 = 300 then some (.inr (some (vi (-3)), s)) else t_calli (t_run tbl mtb (d + 99) 191 [vh 51 0, vi c, vi p, vi w, vi t, vi 1] s) fun x s3 => some (.inr (some (vi x), s3)))) = K := fun s hV K => by
        have q82 := hV 82 c.toNat rfl rfl rfl
        have q83 := hV 83 c.toNat rfl rfl rfl
        have q0 := hV 51 0 rfl rfl rfl
        have q49 := hV 51 49 rfl rfl rfl
        rw [run_go (k := 193) (as := [vh 51 0, vi c, vi p, vi w, vi t]) mt_193 (Nat.ne_of_beq_eq_false rfl) rfl (s_kX12_order_0 _ c p w t s), ci_of (r_isCard (d := d + 98) hV c)]
        simp only [bi_0, decide_eq_false_iff_not]
        rw [if_neg (by omega), ci_of (r_isCard (d := d + 98) hV c)]
        simp only [bi_0, decide_eq_false_iff_not]
        rw [if_neg (by omega), if_pos r150, q82, ci_of (r_isSaid (d := d + 96) hV hI (V 82 c.toNat) p w t), hs.1, decide_eq_true hs.2, Bool.true_and, if_neg (by decide), if_pos r150, q83, q0, q49]
      by_cases hd : V 83 c.toNat = V 51 0
      · rw [if_pos hd] at ci
        by_cases hf : V 51 49 < 300
        · rw [if_pos hf] at ci
          have ok : oaK V c 1 p w t := ⟨hc, .inr ⟨rfl, hs⟩⟩
          obtain ⟨s, a1, a2, a3, a4⟩ := c_addOrder (d := d + 98) h hW.2.2 hf ok
          refine two_of (r := vi (V 51 49)) (V' := oaV V c 1 p w t) hW ⟨s, a1, a2, a3, ?_⟩ (fun s hV => ?_)
          · have e : s 0 0 11 = V 51 49 + 1 := a2.no.trans oaV_49
            rw [ci, cv_of a4, e, w32_id (by omega) (by omega), Int.add_sub_cancel]
            rfl
          · obtain ⟨s', b1, b2, b3⟩ := r_add (c := c) (k := 1) (p := p) (w := w) (t := t) (d := d + 98) hV hI hf
            refine ⟨s', b1, b2, (ri s hV _).mpr ?_⟩
            rw [if_neg (by omega), if_neg (by omega), ci_of b3]
            rfl
        · rw [if_neg hf] at ci
          refine two_ask (r := vi (-3)) hW ⟨σ, Sc.rf, ci⟩ (fun s hV => ⟨s, Sc.rf, (ri s hV _).mpr ?_⟩)
          rw [if_neg (by omega), if_pos (by omega)]
          rfl
      · rw [if_neg hd] at ci
        refine two_ask (r := vi (-4)) hW ⟨σ, Sc.rf, ci⟩ (fun s hV => ⟨s, Sc.rf, (ri s hV _).mpr ?_⟩)
        rw [if_pos (by omega)]
        rfl
    · refine two_ask (r := vi (-1)) hW ⟨σ, Sc.rf, ?_⟩ (fun s hV => ⟨s, Sc.rf, ?_⟩)
      · rw [run_go (k := 91) (as := [vh 0 0, vi c, vi p, vi w, vi t]) mt_91 (Nat.ne_of_beq_eq_false rfl) rfl (s_kX11_order_0 _ c p w t σ), ci_of (c_isCard (d := d + 98) h c), ci_of (c_isSound (d := d + 97) h p w t)]
        simp only [bi_0, decide_eq_false_iff_not]
        rw [if_neg (by omega)]
        by_cases q : fsd V p w t = true
        · have hp : 0 ≤ p ∧ p < V 51 23 := by
            have q := q
            unfold fsd at q
            rw [decide_eq_true_eq] at q
            exact ⟨q.1, q.2.1⟩
          obtain ⟨-, p1, -⟩ := h 5 p.toNat (by show p.toNat < nP V; omega)
          rw [if_neg (by rw [q]; decide), if_pos (by omega), if_pos r150, p1, k1, if_neg (fun z => hs ⟨q, z⟩)]
          rfl
        · rw [if_pos (by simpa using q)]
          rfl
      · have q82 := hV 82 c.toNat rfl rfl rfl
        rw [run_go (k := 193) (as := [vh 51 0, vi c, vi p, vi w, vi t]) mt_193 (Nat.ne_of_beq_eq_false rfl) rfl (s_kX12_order_0 _ c p w t s), ci_of (r_isCard (d := d + 98) hV c)]
        simp only [bi_0, decide_eq_false_iff_not]
        rw [if_neg (by omega), ci_of (r_isCard (d := d + 98) hV c)]
        simp only [bi_0, decide_eq_false_iff_not]
        rw [if_neg (by omega), if_pos r150, q82, ci_of (r_isSaid (d := d + 96) hV hI (V 82 c.toNat) p w t)]
        simp only [bi_0]
        rw [if_pos]
        · rfl
        · by_cases q : fsd V p w t = true
          · rw [q, Bool.true_and]
            exact decide_eq_false (fun z => hs ⟨q, z⟩)
          · rw [show fsd V p w t = false by simpa using q, Bool.false_and]
  · refine two_ask (r := vi (-1)) hW ⟨σ, Sc.rf, ?_⟩ (fun s hV => ⟨s, Sc.rf, ?_⟩)
    · rw [run_go (k := 91) (as := [vh 0 0, vi c, vi p, vi w, vi t]) mt_91 (Nat.ne_of_beq_eq_false rfl) rfl (s_kX11_order_0 _ c p w t σ), ci_of (c_isCard (d := d + 98) h c)]
      simp only [bi_0, decide_eq_false_iff_not]
      rw [if_pos hc]
      rfl
    · rw [run_go (k := 193) (as := [vh 51 0, vi c, vi p, vi w, vi t]) mt_193 (Nat.ne_of_beq_eq_false rfl) rfl (s_kX12_order_0 _ c p w t s), ci_of (r_isCard (d := d + 98) hV c)]
      simp only [bi_0, decide_eq_false_iff_not]
      rw [if_pos hc]
      rfl
end
