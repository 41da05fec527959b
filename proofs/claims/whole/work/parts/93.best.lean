-- best(): rows of ways in their order
def qv (n : Nat) (c : Nat → Nat) (k : Nat) : Nat → Nat
  | 0 => k
  | j + 1 => qv n c k j / c (n - 1 - j)
/-- row z's pick in the k-th row of ways -/
def mx (n : Nat) (c : Nat → Nat) (k z : Nat) : Nat := qv n c k (n - 1 - z) % c z
/-- the k-th row of ways, to base 4 -/
def psi (n : Nat) (c : Nat → Nat) (k : Nat) : Nat := vd (fun j => mx n c k (n - 1 - j)) n
def rwq (n : Nat) (c : Nat → Nat) (v : Nat) : Nat → Bool
  | 0 => true
  | j + 1 => rwq n c v j && decide (v / 4 ^ j % 4 < c (n - 1 - j))
/-- how many rows of ways stand below v -/
def rkn (n : Nat) (c : Nat → Nat) : Nat → Nat
  | 0 => 0
  | v + 1 => rkn n c v + (rwq n c v n).toNat
def rws (n : Nat) (c : Nat → Nat) : Nat → Nat
  | 0 => 1
  | j + 1 => rws n c j * c j
def cf (a b e z : Nat) : Nat := match z with
  | 0 => a
  | 1 => b
  | _ => e
theorem psi_1 : ∀ a, a < 4 → (∀ v, v < 4 → rwq 1 (cf (a + 1) 1 1) v 1 = true → psi 1 (cf (a + 1) 1 1) (rkn 1 (cf (a + 1) 1 1) v) = v) ∧ rkn 1 (cf (a + 1) 1 1) 4 = rws 1 (cf (a + 1) 1 1) 1 := by decide +kernel
theorem psi_2 : ∀ a, a < 4 → ∀ b, b < 4 → (∀ v, v < 16 → rwq 2 (cf (a + 1) (b + 1) 1) v 2 = true → psi 2 (cf (a + 1) (b + 1) 1) (rkn 2 (cf (a + 1) (b + 1) 1) v) = v) ∧ rkn 2 (cf (a + 1) (b + 1) 1) 16 = rws 2 (cf (a + 1) (b + 1) 1) 2 := by decide +kernel
theorem psi_3 : ∀ a, a < 4 → ∀ b, b < 4 → ∀ e, e < 4 → (∀ v, v < 64 → rwq 3 (cf (a + 1) (b + 1) (e + 1)) v 3 = true → psi 3 (cf (a + 1) (b + 1) (e + 1)) (rkn 3 (cf (a + 1) (b + 1) (e + 1)) v) = v) ∧ rkn 3 (cf (a + 1) (b + 1) (e + 1)) 64 = rws 3 (cf (a + 1) (b + 1) (e + 1)) 3 := by decide +kernel
/-- how many ways row z has -/
def cz (V : TVw) (n : Nat) : Nat → Nat := fun z => if z < n then (V 109 z).toNat else 1
theorem psi_ok {c : Nat → Nat} {n : Nat} (hn0 : 0 < n) (hn : n ≤ 3) (hc : ∀ z, z < n → 1 ≤ c z ∧ c z ≤ 4) (hc2 : ∀ z, n ≤ z → c z = 1) : (∀ v, v < 4 ^ n → rwq n c v n = true → psi n c (rkn n c v) = v) ∧ rkn n c (4 ^ n) = rws n c n := by
  rcases (by omega : n = 1 ∨ n = 2 ∨ n = 3) with rfl | rfl | rfl
  · have h0 := hc 0 (by decide)
    have e : c = cf (c 0 - 1 + 1) 1 1 := by
      funext z
      match z with
      | 0 => show c 0 = c 0 - 1 + 1; omega
      | 1 => exact hc2 1 (by decide)
      | z + 2 => exact hc2 (z + 2) (by omega)
    rw [e]
    exact psi_1 (c 0 - 1) (by omega)
  · have h0 := hc 0 (by decide)
    have h1 := hc 1 (by decide)
    have e : c = cf (c 0 - 1 + 1) (c 1 - 1 + 1) 1 := by
      funext z
      match z with
      | 0 => show c 0 = c 0 - 1 + 1; omega
      | 1 => show c 1 = c 1 - 1 + 1; omega
      | z + 2 => exact hc2 (z + 2) (by omega)
    rw [e]
    exact psi_2 (c 0 - 1) (by omega) (c 1 - 1) (by omega)
  · have h0 := hc 0 (by decide)
    have h1 := hc 1 (by decide)
    have h2 := hc 2 (by decide)
    have ag : ∀ z, z < 3 → c z = cf (c 0 - 1 + 1) (c 1 - 1 + 1) (c 2 - 1 + 1) z := fun z hz => by
      match z with
      | 0 => show c 0 = c 0 - 1 + 1; omega
      | 1 => show c 1 = c 1 - 1 + 1; omega
      | 2 => show c 2 = c 2 - 1 + 1; omega
    have q := psi_3 (c 0 - 1) (by omega) (c 1 - 1) (by omega) (c 2 - 1) (by omega)
    generalize cf (c 0 - 1 + 1) (c 1 - 1 + 1) (c 2 - 1 + 1) = f at *
    have a0 := ag 0 (by decide)
    have a1 := ag 1 (by decide)
    have a2 := ag 2 (by decide)
    have eq_q : ∀ k j, j ≤ 3 → qv 3 c k j = qv 3 f k j := fun k j => by
      induction j with
      | zero => exact fun _ => rfl
      | succ j ih =>
        intro hj
        unfold qv
        rw [ih (by omega), ag (3 - 1 - j) (by omega)]
    have eq_m : ∀ k z, z < 3 → mx 3 c k z = mx 3 f k z := fun k z hz => by
      unfold mx
      rw [eq_q k _ (by omega), ag z hz]
    have eq_r : ∀ v j, j ≤ 3 → rwq 3 c v j = rwq 3 f v j := fun v j => by
      induction j with
      | zero => exact fun _ => rfl
      | succ j ih =>
        intro hj
        unfold rwq
        rw [ih (by omega), ag (3 - 1 - j) (by omega)]
    have eq_k : ∀ v, rkn 3 c v = rkn 3 f v := fun v => by
      induction v with
      | zero => rfl
      | succ v ih =>
        unfold rkn
        rw [ih, eq_r v 3 (by decide)]
    have eq_p : ∀ k, psi 3 c k = psi 3 f k := fun k => by
      show 0 + 4 ^ 0 * mx 3 c k 2 + 4 ^ 1 * mx 3 c k 1 + 4 ^ 2 * mx 3 c k 0 = 0 + 4 ^ 0 * mx 3 f k 2 + 4 ^ 1 * mx 3 f k 1 + 4 ^ 2 * mx 3 f k 0
      rw [eq_m k 0 (by decide), eq_m k 1 (by decide), eq_m k 2 (by decide)]
    refine ⟨fun v hv hr => ?_, ?_⟩
    · rw [eq_k, eq_p]
      rw [eq_r v 3 (by decide)] at hr
      exact q.1 v hv hr
    · rw [eq_k]
      have e3 : rws 3 c 3 = rws 3 f 3 := by
        show 1 * c 0 * c 1 * c 2 = 1 * f 0 * f 1 * f 2
        rw [a0, a1, a2]
      rw [e3]
      exact q.2
section
variable {σ : TM} {V : TVw} {d n : Nat}
end
