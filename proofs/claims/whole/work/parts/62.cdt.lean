-- the class's doTurn(), whole
def sct (k j : Nat) : Bool := sgo k j || sst k j
theorem sgo_sct (k j : Nat) (h : sct k j = false) : sgo k j = false := (Bool.or_eq_false_iff.mp h).1
theorem sst_sct (k j : Nat) (h : sct k j = false) : sst k j = false := (Bool.or_eq_false_iff.mp h).2
section
variable {σ : TM} {V : TVw} {g : Int} {t : Nat} {d : Nat}
set_option maxHeartbeats 4000000 in
theorem c_doTurn (h : CR σ V) (hU : mU V g) (hg : 0 ≤ g ∧ g < V 51 8) (ht : t < 30) : ∃ s, Sc sct σ s ∧ CR s (dT V g t) ∧ (∀ p, p < nP V → fgm V p = g → s 18 p (t + 1) = dT V g t 66 p ∧ s 19 p (t + 1) = dT V g t 69 p) ∧ (∀ x, x < nH V → V 59 x = g → s 42 x (t + 1) = dT V g t 60 x ∧ s 43 x t = dF V g (aA V t) (aT V t) (aI V t) t x) ∧ (∀ p j, ¬ (p < nP V ∧ fgm V p = g ∧ j = t + 1) → s 18 p j = σ 18 p j) ∧ t_run tbl mtb (d + 8) 108 [vh 0 0, vi g, vi t] σ = some (none, s) := by
  have hI := h.inv
  have h0 := hI.cnt
  have rg : 0 ≤ g ∧ g < 3 := by omega
  obtain ⟨sa, s0, a1, a2, a3, a4, a5⟩ := c_turn1 (d := d) (t := t) h hU rg
  obtain ⟨s2', b1, b2, b3⟩ := c_turn2 (d := d) hI ht a2 a3
  have z60 : ∀ x, x < nH V → s2' 41 x 1 = V 60 x := fun x hx => by
    rw [b1.1 41 x 1 (by rintro ⟨-, -, ⟨q, -⟩ | ⟨q, -⟩ | ⟨q, -⟩⟩ <;> cases q), a1 41 x 1 rfl]
    obtain ⟨-, k, -⟩ := h 3 x (by omega)
    exact (k hx).2.1
  obtain ⟨s3, c1, c2, c3⟩ := c_turn3 (d := d) hI ht b2 z60
  have q3 : Sc sct σ s3 := ((a1.mono sgo_sct).tr (b1.fr.mono sst_sct)).tr (c1.fr.mono sst_sct)
  have q : Sc sct σ (t_upd s3 38 g.toNat 4 (w32 (V 55 g.toNat + 1))) := q3.up rfl
  have e38 : s3 38 g.toNat 4 = V 55 g.toNat := by
    rw [c1.1 38 g.toNat 4 rfl (by rintro ⟨-, -, ⟨q, -⟩ | ⟨q, -⟩ | ⟨q, -⟩⟩ <;> cases q), b1.1 38 g.toNat 4 (by rintro ⟨-, -, ⟨q, -⟩ | ⟨q, -⟩ | ⟨q, -⟩⟩ <;> cases q), a1 38 g.toNat 4 rfl]
    exact (h 1 g.toNat (by omega)).2.1
  -- pieces' rows
  have hp17 : ∀ p j, s3 17 p j = s2' 17 p j := fun p j => c1.1 17 p j rfl (by rintro ⟨-, -, ⟨q, -⟩ | ⟨q, -⟩ | ⟨q, -⟩⟩ <;> cases q)
  have hp18 : ∀ p j, s3 18 p j = s2' 18 p j := fun p j => c1.1 18 p j rfl (by rintro ⟨-, -, ⟨q, -⟩ | ⟨q, -⟩ | ⟨q, -⟩⟩ <;> cases q)
  have hp19 : ∀ p j, s3 19 p j = s2' 19 p j := fun p j => c1.1 19 p j rfl (by rintro ⟨-, -, ⟨q, -⟩ | ⟨q, -⟩ | ⟨q, -⟩⟩ <;> cases q)
  have n17 : ∀ p j, ¬ (p < nP V ∧ fgm V p = g) → s2' 17 p j = σ 17 p j := fun p j z => by
    rw [b1.1 17 p j (fun q => z ⟨q.1, q.2.1⟩), a1 17 p j rfl]
  have n18 : ∀ p j, ¬ (p < nP V ∧ fgm V p = g ∧ j = t + 1) → s2' 18 p j = σ 18 p j := fun p j z => by
    rw [b1.1 18 p j (by rintro ⟨q1, q2, ⟨q, -⟩ | ⟨-, q⟩ | ⟨q, -⟩⟩; cases q; exact z ⟨q1, q2, q⟩; cases q), a1 18 p j rfl]
  have n19 : ∀ p j, ¬ (p < nP V ∧ fgm V p = g ∧ j = t + 1) → s2' 19 p j = σ 19 p j := fun p j z => by
    rw [b1.1 19 p j (by rintro ⟨q1, q2, ⟨q, -⟩ | ⟨q, -⟩ | ⟨-, q⟩⟩; cases q; cases q; exact z ⟨q1, q2, q⟩), a1 19 p j rfl]
  -- holders' rows
  have nh : ∀ x i j, (x = 41 ∨ x = 42 ∨ x = 43) → ¬ (i < nH V ∧ V 59 i = g ∧ (x = 41 ∧ j = 1 ∨ x = 42 ∧ j = t + 1 ∨ x = 43 ∧ j = t)) → s3 x i j = σ x i j := fun x i j hx z => by
    rw [c1.1 x i j (by rcases hx with rfl | rfl | rfl <;> rfl) z, b1.1 x i j (by rintro ⟨-, -, ⟨q, -⟩ | ⟨q, -⟩ | ⟨q, -⟩⟩ <;> omega), a1 x i j (by rcases hx with rfl | rfl | rfl <;> rfl)]
  have f0 : ∀ i j, t_upd s3 38 g.toNat 4 (w32 (V 55 g.toNat + 1)) 0 i j = σ 0 i j := fun i j => q 0 i j rfl
  have f24 : ∀ i j, t_upd s3 38 g.toNat 4 (w32 (V 55 g.toNat + 1)) 24 i j = σ 24 i j := fun i j => q 24 i j rfl
  have f26 : ∀ i j, t_upd s3 38 g.toNat 4 (w32 (V 55 g.toNat + 1)) 26 i j = σ 26 i j := fun i j => q 26 i j rfl
  have f27 : ∀ i j, t_upd s3 38 g.toNat 4 (w32 (V 55 g.toNat + 1)) 27 i j = σ 27 i j := fun i j => q 27 i j rfl
  have f28 : ∀ i j, t_upd s3 38 g.toNat 4 (w32 (V 55 g.toNat + 1)) 28 i j = σ 28 i j := fun i j => q 28 i j rfl
  have f29 : ∀ i j, t_upd s3 38 g.toNat 4 (w32 (V 55 g.toNat + 1)) 29 i j = σ 29 i j := fun i j => q 29 i j rfl
  have f30 : ∀ i j, t_upd s3 38 g.toNat 4 (w32 (V 55 g.toNat + 1)) 30 i j = σ 30 i j := fun i j => q 30 i j rfl
  have f34 : ∀ i j, t_upd s3 38 g.toNat 4 (w32 (V 55 g.toNat + 1)) 34 i j = σ 34 i j := fun i j => q 34 i j rfl
  have f36 : ∀ i j, t_upd s3 38 g.toNat 4 (w32 (V 55 g.toNat + 1)) 36 i j = σ 36 i j := fun i j => q 36 i j rfl
  have f39 : ∀ i j, t_upd s3 38 g.toNat 4 (w32 (V 55 g.toNat + 1)) 39 i j = σ 39 i j := fun i j => q 39 i j rfl
  have f40 : ∀ i j, t_upd s3 38 g.toNat 4 (w32 (V 55 g.toNat + 1)) 40 i j = σ 40 i j := fun i j => q 40 i j rfl
  have f44 : ∀ i j, t_upd s3 38 g.toNat 4 (w32 (V 55 g.toNat + 1)) 44 i j = σ 44 i j := fun i j => q 44 i j rfl
  have f45 : ∀ i j, t_upd s3 38 g.toNat 4 (w32 (V 55 g.toNat + 1)) 45 i j = σ 45 i j := fun i j => q 45 i j rfl
  have f46 : ∀ i j, t_upd s3 38 g.toNat 4 (w32 (V 55 g.toNat + 1)) 46 i j = σ 46 i j := fun i j => q 46 i j rfl
  have f47 : ∀ i j, t_upd s3 38 g.toNat 4 (w32 (V 55 g.toNat + 1)) 47 i j = σ 47 i j := fun i j => q 47 i j rfl
  have f49 : ∀ i j, t_upd s3 38 g.toNat 4 (w32 (V 55 g.toNat + 1)) 49 i j = σ 49 i j := fun i j => q 49 i j rfl
  have f50 : ∀ i j, t_upd s3 38 g.toNat 4 (w32 (V 55 g.toNat + 1)) 50 i j = σ 50 i j := fun i j => q 50 i j rfl
  have f119 : ∀ i j, t_upd s3 38 g.toNat 4 (w32 (V 55 g.toNat + 1)) 119 i j = σ 119 i j := fun i j => q 119 i j rfl
  have f120 : ∀ i j, t_upd s3 38 g.toNat 4 (w32 (V 55 g.toNat + 1)) 120 i j = σ 120 i j := fun i j => q 120 i j rfl
  refine ⟨t_upd s3 38 g.toNat 4 (w32 (V 55 g.toNat + 1)), q, fun i => ?_, fun p hp hpg => ⟨?_, ?_⟩, fun x hx hxg => ⟨?_, ?_⟩, fun p j z => ?_, ?_⟩
  · match i with
    | 0 => have k := h 0; (simp only [crc, f0, q 23 0 0 rfl, f24, f26, f27, f28, f29, f30, f34, q 35 0 1 rfl, f36, f39, f40, f44, f45, f46, f47, f49, f50, f119, f120] at k ⊢; exact k)
    | 2 => have k := h 2; (simp only [crc, f0, q 23 0 0 rfl, f24, f26, f27, f28, f29, f30, f34, q 35 0 1 rfl, f36, f39, f40, f44, f45, f46, f47, f49, f50, f119, f120] at k ⊢; exact k)
    | 8 => have k := h 8; (simp only [crc, f0, q 23 0 0 rfl, f24, f26, f27, f28, f29, f30, f34, q 35 0 1 rfl, f36, f39, f40, f44, f45, f46, f47, f49, f50, f119, f120] at k ⊢; exact k)
    | 9 => have k := h 9; (simp only [crc, f0, q 23 0 0 rfl, f24, f26, f27, f28, f29, f30, f34, q 35 0 1 rfl, f36, f39, f40, f44, f45, f46, f47, f49, f50, f119, f120] at k ⊢; exact k)
    | 10 => have k := h 10; (simp only [crc, f0, q 23 0 0 rfl, f24, f26, f27, f28, f29, f30, f34, q 35 0 1 rfl, f36, f39, f40, f44, f45, f46, f47, f49, f50, f119, f120] at k ⊢; exact k)
    | 11 => have k := h 11; (simp only [crc, f0, q 23 0 0 rfl, f24, f26, f27, f28, f29, f30, f34, q 35 0 1 rfl, f36, f39, f40, f44, f45, f46, f47, f49, f50, f119, f120] at k ⊢; exact k)
    | 12 => have k := h 12; (simp only [crc, f0, q 23 0 0 rfl, f24, f26, f27, f28, f29, f30, f34, q 35 0 1 rfl, f36, f39, f40, f44, f45, f46, f47, f49, f50, f119, f120] at k ⊢; exact k)
    | 13 => have k := h 13; (simp only [crc, f0, q 23 0 0 rfl, f24, f26, f27, f28, f29, f30, f34, q 35 0 1 rfl, f36, f39, f40, f44, f45, f46, f47, f49, f50, f119, f120] at k ⊢; exact k)
    | 14 => have k := h 14; (simp only [crc, f0, q 23 0 0 rfl, f24, f26, f27, f28, f29, f30, f34, q 35 0 1 rfl, f36, f39, f40, f44, f45, f46, f47, f49, f50, f119, f120] at k ⊢; exact k)
    | 15 => have k := h 15; (simp only [crc, f0, q 23 0 0 rfl, f24, f26, f27, f28, f29, f30, f34, q 35 0 1 rfl, f36, f39, f40, f44, f45, f46, f47, f49, f50, f119, f120] at k ⊢; exact k)
    | 1 =>
      intro x hx
      obtain ⟨k1, k2, k3, k4⟩ := h 1 x hx
      have f : ∀ j, j ≠ 4 → t_upd s3 38 g.toNat 4 (w32 (V 55 g.toNat + 1)) 38 x j = σ 38 x j := fun j hj => by
        rw [up_j hj, c1.1 38 x j rfl (by rintro ⟨-, -, ⟨q, -⟩ | ⟨q, -⟩ | ⟨q, -⟩⟩ <;> cases q), b1.1 38 x j (by rintro ⟨-, -, ⟨q, -⟩ | ⟨q, -⟩ | ⟨q, -⟩⟩ <;> cases q), a1 38 x j rfl]
      rw [f 0 (by decide), f 1 (by decide), f 2 (by decide), f 3 (by decide)]
      refine ⟨k1, ?_, k3, k4⟩
      show _ = if x = g.toNat then w32 (V 55 x + 1) else V 55 x
      by_cases e : x = g.toNat
      · subst e
        rw [up_same, if_pos rfl]
      · rw [up_i e, if_neg e, c1.1 38 x 4 rfl (by rintro ⟨-, -, ⟨q, -⟩ | ⟨q, -⟩ | ⟨q, -⟩⟩ <;> cases q), b1.1 38 x 4 (by rintro ⟨-, -, ⟨q, -⟩ | ⟨q, -⟩ | ⟨q, -⟩⟩ <;> cases q), a1 38 x 4 rfl, k2]
    | 16 => exact dT_inv hI hg
    | n + 17 => exact dT_inv hI hg
    | 3 =>
      intro x hx
      obtain ⟨k1, k2, k3⟩ := h 3 x hx
      have f : ∀ j, j ≠ 1 → t_upd s3 38 g.toNat 4 (w32 (V 55 g.toNat + 1)) 41 x j = σ 41 x j := fun j hj => by
        rw [up_k (by decide), nh 41 x j (.inl rfl) (by rintro ⟨-, -, ⟨-, q⟩ | ⟨q, -⟩ | ⟨q, -⟩⟩; exact hj q; cases q; cases q)]
      rw [f 0 (by decide), f 2 (by decide), f 3 (by decide), f 4 (by decide)]
      refine ⟨k1, fun hx2 => ⟨(k2 hx2).1, ?_, (k2 hx2).2.2.1, (k2 hx2).2.2.2⟩, k3⟩
      have hx2 : x < nH V := hx2
      show _ = if x < nH V then dC V g (aA V t) (aT V t) (aI V t) t x else V 60 x
      rw [up_k (by decide), if_pos hx2]
      by_cases z : V 59 x = g
      · exact (c1.2 x hx2 z).1
      · rw [nh 41 x 1 (.inl rfl) (fun q => z q.2.1), (k2 hx2).2.1]
        exact (if_neg (fun q => z q.1)).symm
    | 4 =>
      intro x hx
      have hx : x < nH V := hx
      obtain ⟨k1, k2⟩ := h 4 x hx
      refine ⟨?_, fun u hu => ?_⟩
      · rw [up_k (by decide), nh 42 x 0 (.inr (.inl rfl)) (by rintro ⟨-, -, ⟨q, -⟩ | ⟨-, q⟩ | ⟨q, -⟩⟩; cases q; omega; cases q)]
        exact k1
      · have e1 : (12 * u + x) / 12 = u := by omega
        have e2 : (12 * u + x) % 12 = x := by omega
        show _ = (if (12 * u + x) / 12 = t ∧ (12 * u + x) % 12 < nH V ∧ V 59 ((12 * u + x) % 12) = g then aN V g t 60 ((12 * u + x) % 12) else V 73 (12 * u + x)) ∧ _ = (if (12 * u + x) / 12 = t ∧ (12 * u + x) % 12 < nH V ∧ V 59 ((12 * u + x) % 12) = g then dF V g (aA V t) (aT V t) (aI V t) t ((12 * u + x) % 12) else V 74 (12 * u + x))
        rw [e1, e2, up_k (by decide), up_k (by decide)]
        by_cases z : u = t ∧ V 59 x = g
        · rw [if_pos ⟨z.1, hx, z.2⟩, if_pos ⟨z.1, hx, z.2⟩, z.1]
          obtain ⟨-, y2, y3⟩ := c1.2 x hx z.2
          rw [y2, y3]
          exact ⟨(if_pos hx).symm, rfl⟩
        · rw [if_neg (fun q => z ⟨q.1, q.2.2⟩), if_neg (fun q => z ⟨q.1, q.2.2⟩), nh 42 x (u + 1) (.inr (.inl rfl)) (by rintro ⟨-, q1, ⟨q, -⟩ | ⟨-, q⟩ | ⟨q, -⟩⟩; cases q; exact z ⟨by omega, q1⟩; cases q), nh 43 x u (.inr (.inr rfl)) (by rintro ⟨-, q1, ⟨q, -⟩ | ⟨q, -⟩ | ⟨-, q⟩⟩; cases q; cases q; exact z ⟨q, q1⟩)]
          exact k2 u hu
    | 5 =>
      intro p hp
      have hp : p < nP V := hp
      obtain ⟨k0, k1, k2, k3, k4, k5, k6⟩ := h 5 p hp
      have f : ∀ j, j < 3 → t_upd s3 38 g.toNat 4 (w32 (V 55 g.toNat + 1)) 17 p j = σ 17 p j := fun j hj => by
        rw [up_k (by decide), hp17, b1.1 17 p j (by rintro ⟨-, -, ⟨-, q, -⟩ | ⟨q, -⟩ | ⟨q, -⟩⟩; omega; cases q; cases q), a1 17 p j (by rcases (by omega : j = 0 ∨ j = 1 ∨ j = 2) with rfl | rfl | rfl <;> rfl)]
      rw [f 0 (by decide), f 1 (by decide), f 2 (by decide), up_k (by decide), up_k (by decide), up_k (by decide), up_k (by decide), hp17, hp17, hp17, hp17]
      refine ⟨k0, k1, k2, ?_⟩
      show _ = aN V g t 66 p ∧ _ = (if p < nP V ∧ fgm V p = g then dL V g t p else V 70 p) ∧ _ = (if p < nP V ∧ fgm V p = g then mFf V g (aA V t) (aT V t) (aI V t) p else V 71 p) ∧ _ = aN V g t 69 p
      by_cases z : fgm V p = g
      · obtain ⟨y1, y2, y3, y4, -⟩ := b1.2 p hp z
        rw [if_pos ⟨hp, z⟩, if_pos ⟨hp, z⟩]
        exact ⟨y1, y2, y3, y4⟩
      · have hi : mIn V g p = false := by
          unfold mIn
          exact decide_eq_false (fun q => z q.2)
        have e66 : aN V g t 66 p = V 66 p := by
          show (if p < nP V ∧ mGo V g (aA V t) (aT V t) (aI V t) p = true then aT V t p else V 66 p) = _
          rw [if_neg]
          rintro ⟨-, q⟩
          unfold mGo mMv at q
          rw [hi, Bool.false_and, Bool.false_and] at q
          cases q
        have e69 : aN V g t 69 p = V 69 p := by
          show (if p < nP V ∧ mGn V g (aA V t) (aT V t) (aI V t) p = true then (1 : Int) else V 69 p) = _
          rw [if_neg]
          rintro ⟨-, q⟩
          unfold mGn at q
          rw [hi, Bool.false_and, Bool.false_and] at q
          cases q
        rw [if_neg (fun q => z q.2), if_neg (fun q => z q.2), e66, e69, n17 p 3 (fun q => z q.2), n17 p 4 (fun q => z q.2), n17 p 5 (fun q => z q.2), n17 p 6 (fun q => z q.2)]
        exact ⟨k3, k4, k5, k6⟩
    | 6 =>
      intro p hp hpn
      have hpn : nP V ≤ p := hpn
      obtain ⟨k1, k2, k3, k4, k5⟩ := h 6 p hp hpn
      have z : ¬ (p < nP V ∧ fgm V p = g) := fun q => by have := q.1; omega
      rw [up_k (by decide), up_k (by decide), up_k (by decide), hp17, hp17, hp17, n17 p 4 z, n17 p 5 z, n17 p 6 z]
      refine ⟨k1, k2, k3, ?_, ?_⟩
      · show (if p < nP V ∧ mGn V g (aA V t) (aT V t) (aI V t) p = true then (1 : Int) else V 69 p) = 0
        rw [if_neg (fun q => by have := q.1; omega)]
        exact k4
      · show (if p < nP V ∧ fgm V p = g then mFf V g (aA V t) (aT V t) (aI V t) p else V 71 p) = 0
        rw [if_neg z]
        exact k5
    | 7 =>
      intro p hp
      obtain ⟨k1, k2⟩ := h 7 p hp
      rw [up_k (by decide), hp19, n19 p 0 (fun q => by have := q.2.2; omega)]
      refine ⟨k1, fun hpn => ?_⟩
      have hpn : p < nP V := hpn
      obtain ⟨k3, k4⟩ := k2 hpn
      rw [up_k (by decide), hp18, n18 p 0 (fun q => by have := q.2.2; omega)]
      refine ⟨k3, fun u hu => ?_⟩
      have k5 := k4 u hu
      have e1 : (40 * u + p) / 40 = u := by omega
      have e2 : (40 * u + p) % 40 = p := by omega
      have e72 : dT V g t 72 (40 * u + p) = if u = t ∧ p < nP V ∧ fgm V p = g then dX V g t p else V 72 (40 * u + p) := by
        show (if (40 * u + p) / 40 = t ∧ (40 * u + p) % 40 < nP V ∧ fgm V ((40 * u + p) % 40) = g then dX V g t ((40 * u + p) % 40) else V 72 (40 * u + p)) = _
        rw [e1, e2]
      rw [e72, up_k (by decide), up_k (by decide), hp18, hp19]
      by_cases z : u = t ∧ fgm V p = g
      · obtain ⟨-, -, -, -, y5, y6⟩ := b1.2 p hpn z.2
        rw [if_pos ⟨z.1, hpn, z.2⟩, z.1, y5, y6]
        have hIn : Inv (aN V g t) := dNk_inv (I := aI V t) hI (oVA (t := t) hI nt_TW) t (nH V)
        obtain ⟨-, -, w1, w2, -, -, w3, -⟩ := hIn 3 p hpn
        unfold dX
        rcases w3 with w | w
        · rw [if_pos w, w]
          exact ⟨fun _ => ⟨rfl, rfl⟩, fun q => by omega⟩
        · rw [if_neg (by omega), w]
          exact ⟨fun q => by omega, fun _ => rfl⟩
      · rw [if_neg (fun q => z ⟨q.1, q.2.2⟩), n18 p (u + 1) (fun q => z ⟨by have := q.2.2; omega, q.2.1⟩), n19 p (u + 1) (fun q => z ⟨by have := q.2.2; omega, q.2.1⟩)]
        exact k5
  · rw [up_k (by decide), hp18, (b1.2 p hp hpg).2.2.2.2.1]
    rfl
  · rw [up_k (by decide), hp19, (b1.2 p hp hpg).2.2.2.2.2]
    rfl
  · rw [up_k (by decide), (c1.2 x hx hxg).2.1]
    exact (if_pos hx).symm
  · rw [up_k (by decide), (c1.2 x hx hxg).2.2]
  · rw [up_k (by decide), hp18, n18 p j z]
  · obtain ⟨N, hN⟩ : ∃ N, 999999 = N + 1 + nH V + 1 + nP V := ⟨999999 - (nH V + nP V + 2), by omega⟩
    rw [run_go (k := 108) (as := [vh 0 0, vi g, vi t]) mt_108 (Nat.ne_of_beq_eq_false rfl) rfl (s_kX11_doTurn_0 _ g t σ), cv_of a4, cv_of a5, nx_inl, hN, b3, tr_step (s_kX11_doTurn_15 _ g t (nP V : Int) s2'), b2.1.2.2.1, if_neg (by omega), nx_inl, c3, tr_step (s_kX11_doTurn_53 _ g t (nH V : Int) s3), c2.1.2.1, if_neg (by omega), if_pos rg, e38]
    rfl
end
