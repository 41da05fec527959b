-- best(): the class's loop over the rows of ways
/-- the best row, its coins and its number, of the first k -/
noncomputable def bst (V : TVw) (n : Nat) : Nat → Nat × Int × Int
  | 0 => (0, 0, 0)
  | k + 1 => if k = 0 ∨ (bst V n k).2.1 < bCo V n (d4 n (psi n (cz V n) k)) ∨ (bCo V n (d4 n (psi n (cz V n) k)) = (bst V n k).2.1 ∧ (bst V n k).2.2 < bNu V n (d4 n (psi n (cz V n) k))) then (k, bCo V n (d4 n (psi n (cz V n) k)), bNu V n (d4 n (psi n (cz V n) k))) else bst V n k
section
variable {σ : TM} {V : TVw} {d n : Nat}
theorem MR.s33 {s : TM} {g : Int} {A T I : Nat → Int} (h : MR σ V g A T I) (q : Sc s33 σ s) : MR s V g A T I := by
  obtain ⟨h1, h2, h3, h4, h5⟩ := h
  exact ⟨by rw [q 3 0 2 rfl, h1], fun m p hm => by rw [q 5 0 m rfl, h2 m p hm], fun p hp hi => by rw [q 8 0 p rfl, q 9 0 p rfl, q 10 0 p rfl]; exact h3 p hp hi, fun c hc => by rw [q 14 0 c rfl, h4 c hc], fun p hp => by rw [q 17 p 1 rfl, q 17 p 2 rfl, q 17 p 3 rfl]; exact h5 p hp⟩
theorem PRd.s33 {s : TM} {t : Nat} (h : PRd σ V n t) (q : Sc s33 σ s) : PRd s V n t := by
  obtain ⟨⟨A, T, I, h1, h2⟩, h3, h4⟩ := h
  refine ⟨⟨A, T, I, h1.s33 q, h2⟩, fun p hp hi => by rw [q 7 0 p rfl]; exact h3 p hp hi, fun z hz w hw => ?_⟩
  have := h4 z hz w hw
  unfold rdy at this ⊢
  rw [q 31 0 _ rfl, q 32 0 _ rfl]
  exact this
theorem mx_psi {c : Nat → Nat} (hn3 : n ≤ 3) (hc : ∀ z, z < n → 1 ≤ c z ∧ c z ≤ 4) (k : Nat) {z : Nat} (hz : z < n) : d4 n (psi n c k) z = mx n c k z ∧ mx n c k z < c z := by
  have hm : ∀ z, z < n → mx n c k z < c z := fun z hz => Nat.mod_lt _ (by have := (hc z hz).1; omega)
  refine ⟨?_, hm z hz⟩
  have e := d4_vd (e := fun j => mx n c k (n - 1 - j)) hn3 (fun j hj => by
    have h1 := hm (n - 1 - j) (by omega)
    have h2 := (hc (n - 1 - j) (by omega)).2
    show mx n c k (n - 1 - j) < 4
    omega) hz
  refine e.trans ?_
  show mx n c k (n - 1 - (n - 1 - z)) = mx n c k z
  rw [show n - 1 - (n - 1 - z) = z by omega]
set_option maxHeartbeats 2000000 in
theorem c_bestL {t : Nat} (h : CR σ V) (hK : KW σ V) (hU : mU V (hg0 V)) (hn : V 51 72 = (n : Int)) (hn0 : 0 < n) (ht : (t : Int) = V 54 (hg0 V).toNat) (hP : PRd σ V n t) : ∃ s, FC σ s ∧ CR s V ∧ KW s V ∧ ∀ N, t_tr tbl mtb (t_run tbl mtb (d + 99)) 117 (N + rws n (cz V n) n) 73 [some (vh 0 0), none, some (vi (hx0 V)), some (vi t), some (vi (rws n (cz V n) n : Nat)), some (vi 0), some (vi 0), some (vi 0), some (vi 0), none, none] [] σ = t_tr tbl mtb (t_run tbl mtb (d + 99)) 117 N 73 [some (vh 0 0), none, some (vi (hx0 V)), some (vi t), some (vi (rws n (cz V n) n : Nat)), some (vi ((bst V n (rws n (cz V n) n)).1 : Nat)), some (vi (bst V n (rws n (cz V n) n)).2.1), some (vi (bst V n (rws n (cz V n) n)).2.2), some (vi (rws n (cz V n) n : Nat)), none, none] [] s := by
  have hI := h.inv
  obtain ⟨n3, hc, -⟩ := cz_ok hI hn
  have hc' : ∀ z, z < n → 1 ≤ cz V n z ∧ cz V n z ≤ 4 := fun z hz => ⟨(hc z hz).1, (hc z hz).2.1⟩
  obtain ⟨l1, l2⟩ := rws_le (n := n) (c := cz V n) n hc'
  have l3 : 4 ^ n ≤ 4 ^ 3 := Nat.pow_le_pow_right (by decide) n3
  generalize hR : rws n (cz V n) n = R at *
  obtain ⟨L, s, ⟨b1, b2, b3, b4, rfl⟩, e⟩ := loop_rel (O := t_run tbl mtb (d + 99)) (k := 117) (pc := 73) (fun k L s => FC σ s ∧ CR s V ∧ KW s V ∧ PRd s V n t ∧ L = [some (vh 0 0), none, some (vi (hx0 V)), some (vi t), some (vi (R : Nat)), some (vi ((bst V n k).1 : Nat)), some (vi (bst V n k).2.1), some (vi (bst V n k).2.2), some (vi (k : Nat)), none, none]) R (by
    rintro k L s hk ⟨b1, b2, b3, b4, rfl⟩
    obtain ⟨s1', c1, c2, c3⟩ := c_pick (d := d + 98) b2 hn (k := k) (by omega)
    have h1 := b2.sc (c1.mono s33_scr)
    have hmp := fun z hz => mx_psi (n := n) (c := cz V n) n3 hc' k (z := z) hz
    obtain ⟨s2', e1, e2, e3, e4⟩ := c_playRow (d := d + 94) (dg := d4 n (psi n (cz V n) k)) h1 hU hn hn0 ht (b4.s33 c1) (fun z hz => by rw [c2 z hz, (hmp z hz).1]) (fun z hz => by
      rw [(hmp z hz).1, (hc z hz).2.2]
      have := (hmp z hz).2
      omega)
    have hTW := twR_TW (dg := d4 n (psi n (cz V n) k)) hI hn hn0 (fun z hz => by
      rw [(hmp z hz).1, (hc z hz).2.2]
      have := (hmp z hz).2
      omega)
    have e5 := MS.num (d := d + 98) hI (oVA (t := V 54 (hg0 V).toNat) hI hTW) e3 (x := hx0 V) rfl
    have e5 : t_run tbl mtb (d + 99) 23 [vh 3 0, vi (hx0 V)] s2' = some (some (vi (bNu V n (d4 n (psi n (cz V n) k)))), s2') := e5
    have st := fun N => tr_step (n := N) (s_kX11_best_73 (t_run tbl mtb (d + 99)) (hx0 V) t R ((bst V n k).1 : Nat) (bst V n k).2.1 (bst V n k).2.2 k s )
    simp only [if_pos (show (k : Int) < (R : Int) by omega), c3, cv_ok, e4, ci_ok, e5, w32_nat (show k < 2147483647 by omega)] at st
    refine ⟨_, _, ⟨(b1.tr (FC.of c1 s33_C)).tr (FC.of e1 spr_C), h1.sc (e1.mono spr_scr), (b3.sc c1 (fun j => rfl)).sc e1 (fun j => rfl), e2, rfl⟩, fun N => ?_⟩
    have st := st N
    have eb : bst V n (k + 1) = if k = 0 ∨ (bst V n k).2.1 < bCo V n (d4 n (psi n (cz V n) k)) ∨ (bCo V n (d4 n (psi n (cz V n) k)) = (bst V n k).2.1 ∧ (bst V n k).2.2 < bNu V n (d4 n (psi n (cz V n) k))) then (k, bCo V n (d4 n (psi n (cz V n) k)), bNu V n (d4 n (psi n (cz V n) k))) else bst V n k := rfl
    rw [eb]
    by_cases y1 : k = 0
    · rw [if_pos (.inl y1)]
      rw [if_pos (show (k : Int) = 0 by omega)] at st
      exact st
    · rw [if_neg (show ¬ (k : Int) = 0 by omega)] at st
      by_cases y2 : (bst V n k).2.1 < bCo V n (d4 n (psi n (cz V n) k))
      · rw [if_pos (.inr (.inl y2))]
        rw [if_pos y2] at st
        exact st
      · rw [if_neg y2] at st
        by_cases y3 : bCo V n (d4 n (psi n (cz V n) k)) = (bst V n k).2.1
        · rw [if_pos y3] at st
          by_cases y4 : (bst V n k).2.2 < bNu V n (d4 n (psi n (cz V n) k))
          · rw [if_pos (.inr (.inr ⟨y3, y4⟩))]
            rw [if_pos y4] at st
            exact st
          · rw [if_neg (fun q => by rcases q with q | q | q; exact y1 q; exact y2 q; exact y4 q.2)]
            rw [if_neg y4] at st
            exact st
        · rw [if_neg (fun q => by rcases q with q | q | q; exact y1 q; exact y2 q; exact y3 q.1)]
          rw [if_neg y3] at st
          exact st) R 0 [some (vh 0 0), none, some (vi (hx0 V)), some (vi t), some (vi (R : Nat)), some (vi 0), some (vi 0), some (vi 0), some (vi ((0 : Nat) : Int)), none, none] σ (by omega) ⟨FC.rf, h, hK, hP, rfl⟩
  exact ⟨s, b1, b2, b3, e⟩
end
