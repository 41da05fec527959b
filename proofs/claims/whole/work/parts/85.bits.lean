theorem wb_tb (n : Nat) : (lN n).toBitVec = BitVec.ofNat 64 n := rfl
theorem wb_inj {a b : Int64} (h : a.toBitVec = b.toBitVec) : a = b := Int64.toBitVec_inj.mp h
theorem wb_tn {n : Nat} (h : n < 2 ^ 64) : (lN n).toBitVec.toNat = n := by rw [wb_tb, BitVec.toNat_ofNat, Nat.mod_eq_of_lt h]
theorem wb_c : ∀ k, k < 64 → ((nI k).toInt64 &&& 63) = lN k := by decide +kernel
theorem wb_cu : ∀ k, k < 64 → ((nI k).toInt64.toUInt64 &&& Int64.toUInt64 63) = UInt64.ofNat k := by decide +kernel
theorem wb_sm : ∀ k, k < 64 → (BitVec.ofNat 64 k).smod 64 = BitVec.ofNat 64 k := by decide +kernel
theorem wb_lt2 {a b : Nat} (h : a < b) : 2 ^ a < 2 ^ b := Nat.pow_lt_pow_right (by decide) h
theorem wb_shr {n k : Nat} (hn : n < 2 ^ 64) (hk : k < 64) : ((lN n).toUInt64 >>> ((nI k).toInt64.toUInt64 &&& Int64.toUInt64 63)).toInt64 = lN (n / 2 ^ k) := by
  rw [wb_cu k hk]
  apply wb_inj
  apply BitVec.eq_of_toNat_eq
  show ((lN n).toUInt64 >>> UInt64.ofNat k).toNat = (BitVec.ofNat 64 _).toNat
  have h1 : (UInt64.ofNat k).toNat = k := by
    show (BitVec.ofNat 64 k).toNat = k
    rw [BitVec.toNat_ofNat, Nat.mod_eq_of_lt (by omega)]
  have h2 : (lN n).toUInt64.toNat = n := wb_tn hn
  rw [UInt64.toNat_shiftRight, h1, h2, Nat.mod_eq_of_lt hk, Nat.shiftRight_eq_div_pow, BitVec.toNat_ofNat, Nat.mod_eq_of_lt (Nat.lt_of_le_of_lt (Nat.div_le_self _ _) hn)]
theorem wb_shl (n : Nat) {k : Nat} (hk : k < 64) : lN n <<< ((nI k).toInt64 &&& 63) = lN (n * 2 ^ k) := by
  rw [wb_c k hk]
  apply wb_inj
  rw [Int64.toBitVec_shiftLeft, wb_tb, wb_tb, wb_tb, wb_sm k hk]
  apply BitVec.eq_of_toNat_eq
  rw [BitVec.shiftLeft_eq', BitVec.toNat_shiftLeft, BitVec.toNat_ofNat, BitVec.toNat_ofNat, BitVec.toNat_ofNat, Nat.mod_eq_of_lt (show k < 2 ^ 64 by omega), Nat.shiftLeft_eq, Nat.mul_mod, Nat.mod_mod, ← Nat.mul_mod]
theorem wb_and {a b : Nat} (ha : a < 2 ^ 64) (hb : b < 2 ^ 64) : lN a &&& lN b = lN (a &&& b) := by
  apply wb_inj
  rw [Int64.toBitVec_and, wb_tb, wb_tb, wb_tb]
  apply BitVec.eq_of_toNat_eq
  rw [BitVec.toNat_and, BitVec.toNat_ofNat, BitVec.toNat_ofNat, BitVec.toNat_ofNat, Nat.mod_eq_of_lt ha, Nat.mod_eq_of_lt hb, Nat.mod_eq_of_lt (Nat.and_lt_two_pow _ hb)]
theorem wb_or {a b : Nat} (ha : a < 2 ^ 64) (hb : b < 2 ^ 64) : lN a ||| lN b = lN (a ||| b) := by
  apply wb_inj
  rw [Int64.toBitVec_or, wb_tb, wb_tb, wb_tb]
  apply BitVec.eq_of_toNat_eq
  rw [BitVec.toNat_or, BitVec.toNat_ofNat, BitVec.toNat_ofNat, BitVec.toNat_ofNat, Nat.mod_eq_of_lt ha, Nat.mod_eq_of_lt hb, Nat.mod_eq_of_lt (Nat.or_lt_two_pow ha hb)]
theorem wb_mask {n k : Nat} (hn : n < 2 ^ 64) (hk : k < 64) : lN n &&& lN (2 ^ k - 1) = lN (n % 2 ^ k) := by
  rw [wb_and hn (by have := wb_lt2 hk; omega), Nat.and_two_pow_sub_one_eq_mod]
theorem wb_a1 {n : Nat} (hn : n < 2 ^ 64) : lN n &&& 1 = lN (n % 2) := wb_mask (k := 1) hn (by decide)
theorem wb_bit {n k : Nat} (hn : n < 2 ^ 64) (hk : k < 64) : ((lN n).toUInt64 >>> ((nI k).toInt64.toUInt64 &&& Int64.toUInt64 63)).toInt64 &&& 1 = lN (n / 2 ^ k % 2) := by
  rw [wb_shr hn hk, wb_a1 (Nat.lt_of_le_of_lt (Nat.div_le_self _ _) hn)]
-- bits of longs; Long.bitCount
theorem wb_lb (m : Nat) : Int64.ofInt (m : Int) = lN m := wb_inj (by
  show BitVec.ofInt 64 (m : Int) = BitVec.ofNat 64 m
  exact BitVec.ofInt_natCast 64 m)
theorem wb_ib (m : Nat) : Int32.ofInt (m : Int) = nI m := Int32.toBitVec_inj.mp (by
  show BitVec.ofInt 32 (m : Int) = BitVec.ofNat 32 m
  exact BitVec.ofInt_natCast 32 m)
theorem wb_ti {m : Nat} (h : m < 2 ^ 63) : (lN m).toInt = (m : Int) := lg_ofNat_toInt h
theorem wb_xr {a b : Nat} (ha : a < 2 ^ 64) (hb : b < 2 ^ 64) : lN a ^^^ lN b = lN (a ^^^ b) := by
  apply wb_inj
  rw [Int64.toBitVec_xor, wb_tb, wb_tb, wb_tb]
  apply BitVec.eq_of_toNat_eq
  rw [BitVec.toNat_xor, BitVec.toNat_ofNat, BitVec.toNat_ofNat, BitVec.toNat_ofNat, Nat.mod_eq_of_lt ha, Nat.mod_eq_of_lt hb, Nat.mod_eq_of_lt (Nat.xor_lt_two_pow ha hb)]
theorem p6364 : (2 : Nat) ^ 63 < 2 ^ 64 := by decide
theorem jj_or {a b : Nat} (ha : a < 2 ^ 63) (hb : b < 2 ^ 63) : j_or (a : Int) (b : Int) = ((a ||| b : Nat) : Int) := by
  rw [j_or_eq, wb_lb, wb_lb, wb_or (Nat.lt_trans ha p6364) (Nat.lt_trans hb p6364), wb_ti (Nat.or_lt_two_pow ha hb)]
theorem jj_xor {a b : Nat} (ha : a < 2 ^ 63) (hb : b < 2 ^ 63) : j_xor (a : Int) (b : Int) = ((a ^^^ b : Nat) : Int) := by
  rw [j_xor_eq, wb_lb, wb_lb, wb_xr (Nat.lt_trans ha p6364) (Nat.lt_trans hb p6364), wb_ti (Nat.xor_lt_two_pow ha hb)]
theorem jj_and {a b : Nat} (ha : a < 2 ^ 63) (hb : b < 2 ^ 63) : j_and (a : Int) (b : Int) = ((a &&& b : Nat) : Int) := by
  rw [j_and_eq, wb_lb, wb_lb, wb_and (Nat.lt_trans ha p6364) (Nat.lt_trans hb p6364), wb_ti (Nat.and_lt_two_pow _ hb)]
theorem jj_shl {c : Nat} (hc : c < 63) : j_shl 1 (c : Int) = ((2 ^ c : Nat) : Int) := by
  have h1 : Int64.ofInt 1 = lN 1 := wb_lb 1
  rw [j_shl_eq, h1, wb_ib, wb_shl 1 (by omega), Nat.one_mul, wb_ti (wb_lt2 hc)]
theorem jj_ushr {m c : Nat} (hm : m < 2 ^ 63) (hc : c < 64) : j_ushr (m : Int) (c : Int) = ((m / 2 ^ c : Nat) : Int) := by
  rw [j_ushr_eq, wb_lb, wb_ib, wb_shr (Nat.lt_trans hm p6364) hc, wb_ti (Nat.lt_of_le_of_lt (Nat.div_le_self _ _) hm)]
theorem jj_bit {m c : Nat} (hm : m < 2 ^ 63) (hc : c < 64) : j_and (j_ushr (m : Int) (c : Int)) 1 = ((m / 2 ^ c % 2 : Nat) : Int) := by
  rw [jj_ushr hm hc]
  have h1 : (1 : Int) = ((1 : Nat) : Int) := rfl
  rw [h1, jj_and (Nat.lt_of_le_of_lt (Nat.div_le_self _ _) hm) (by decide)]
  have h2 : m / 2 ^ c &&& 1 = m / 2 ^ c % 2 := Nat.and_two_pow_sub_one_eq_mod (m / 2 ^ c) 1
  rw [h2]
-- counting the bits of a long, eight at a time
def swA (x M : Nat) : Nat := x - (x / 2 &&& M)
def swB (x M : Nat) : Nat := (x &&& M) + (x / 4 &&& M)
def swC (x M : Nat) : Nat := (x + x / 16) &&& M
theorem and_st {u v y z : Nat} (hu : u < 256) (hv : v < 256) : (u + 256 * y) &&& (v + 256 * z) = (u &&& v) + 256 * (y &&& z) := by
  have h1 := Nat.and_mod_two_pow (a := u + 256 * y) (b := v + 256 * z) (n := 8)
  have h2 := Nat.and_div_two_pow (a := u + 256 * y) (b := v + 256 * z) (n := 8)
  rw [show (u + 256 * y) % 2 ^ 8 = u by omega, show (v + 256 * z) % 2 ^ 8 = v by omega] at h1
  rw [show (u + 256 * y) / 2 ^ 8 = y by omega, show (v + 256 * z) / 2 ^ 8 = z by omega] at h2
  omega
theorem sw_a : ∀ v, v < 256 → ∀ t, t < 2 → ((v / 2 + 128 * t) &&& 85) = (v / 2 &&& 85) := by decide +kernel
theorem sw_b : ∀ v, v < 256 → ∀ t, t < 4 → ((v / 4 + 64 * t) &&& 51) = (v / 4 &&& 51) := by decide +kernel
theorem sw_A : ∀ v, v < 256 → swA v 85 < 256 := by decide +kernel
theorem sw_B : ∀ v, v < 256 → swB (swA v 85) 51 ≤ 68 ∧ swB (swA v 85) 51 % 16 ≤ 4 := by decide +kernel
theorem sw_C : ∀ v, v < 69 → ∀ t, t < 5 → ((v + v / 16 + 16 * t) &&& 15) = ((v + v / 16) &&& 15) := by decide +kernel
theorem swA_st {v y W : Nat} (hv : v < 256) : swA (v + 256 * y) (85 + 256 * W) = swA v 85 + 256 * swA y W := by
  unfold swA
  rw [show (v + 256 * y) / 2 = (v / 2 + 128 * (y % 2)) + 256 * (y / 2) by omega, and_st (by omega) (by decide), sw_a v hv (y % 2) (by omega)]
  have h1 : (v / 2 &&& 85) ≤ v / 2 := Nat.and_le_left
  have h2 : (y / 2 &&& W) ≤ y / 2 := Nat.and_le_left
  omega
theorem swB_st {v y W : Nat} (hv : v < 256) : swB (v + 256 * y) (51 + 256 * W) = swB v 51 + 256 * swB y W := by
  unfold swB
  rw [show (v + 256 * y) / 4 = (v / 4 + 64 * (y % 4)) + 256 * (y / 4) by omega, and_st hv (by decide), and_st (by omega) (by decide), sw_b v hv (y % 4) (by omega)]
  omega
theorem swC_st {v y W : Nat} (hv : v ≤ 68) (hy : y % 16 ≤ 4) : swC (v + 256 * y) (15 + 256 * W) = swC v 15 + 256 * swC y W := by
  unfold swC
  rw [show v + 256 * y + (v + 256 * y) / 16 = (v + v / 16 + 16 * (y % 16)) + 256 * (y + y / 16) by omega, and_st (by omega) (by decide), sw_C v (by omega) (y % 16) (by omega)]
def mkM (b : Nat) : Nat → Nat
  | 0 => 0
  | n + 1 => b + 256 * mkM b n
def pc8 (v : Nat) : Nat := swC (swB (swA v 85) 51) 15
def pcs : Nat → Nat → Nat
  | _, 0 => 0
  | x, n + 1 => pc8 (x % 256) + 256 * pcs (x / 256) n
theorem sw_low (x n : Nat) : swB (swA x (mkM 85 (n + 1))) (mkM 51 (n + 1)) % 16 ≤ 4 := by
  have e : x = x % 256 + 256 * (x / 256) := by omega
  rw [e]
  show swB (swA (x % 256 + 256 * (x / 256)) (85 + 256 * mkM 85 n)) (51 + 256 * mkM 51 n) % 16 ≤ 4
  have hv : x % 256 < 256 := Nat.mod_lt _ (by decide)
  rw [swA_st hv, swB_st (sw_A _ hv)]
  have := (sw_B _ hv).2
  omega
theorem sw_pcs : ∀ n x : Nat, x < 256 ^ n → swC (swB (swA x (mkM 85 n)) (mkM 51 n)) (mkM 15 n) = pcs x n
  | 0, x, h => by
    have h : x < 1 := h
    have : x = 0 := by omega
    subst this
    decide
  | n + 1, x, h => by
    have e : x = x % 256 + 256 * (x / 256) := by omega
    have hv : x % 256 < 256 := Nat.mod_lt _ (by decide)
    have hx : x / 256 < 256 ^ n := by
      rw [Nat.pow_succ] at h
      exact Nat.div_lt_of_lt_mul (by rw [Nat.mul_comm]; exact h)
    have ih := sw_pcs n (x / 256) hx
    have hl : swB (swA (x / 256) (mkM 85 n)) (mkM 51 n) % 16 ≤ 4 := by
      cases n with
      | zero =>
        have hx : x / 256 < 1 := hx
        have : x / 256 = 0 := by omega
        rw [this]
        decide
      | succ n => exact sw_low _ n
    show swC (swB (swA x (85 + 256 * mkM 85 n)) (51 + 256 * mkM 51 n)) (15 + 256 * mkM 15 n) = pc8 (x % 256) + 256 * pcs (x / 256) n
    rw [← ih]
    conv => lhs; rw [e]
    rw [swA_st hv, swB_st (sw_A _ hv), swC_st (sw_B _ hv).1 hl]
    rfl
/-- the bits of x below n -/
def bcn (x : Nat) : Nat → Nat
  | 0 => 0
  | n + 1 => bcn x n + (x.testBit n).toNat
theorem pc8_bcn : ∀ v, v < 256 → pc8 v = bcn v 8 ∧ bcn v 8 ≤ 8 := by decide +kernel
theorem bcn_cg {x y : Nat} : ∀ n : Nat, (∀ i, i < n → x.testBit i = y.testBit i) → bcn x n = bcn y n
  | 0, _ => rfl
  | n + 1, h => by
    unfold bcn
    rw [bcn_cg n (fun i hi => h i (by omega)), h n (by omega)]
theorem bcn_8 (x : Nat) : ∀ n : Nat, bcn x (n + 8) = bcn (x % 256) 8 + bcn (x / 256) n
  | 0 => bcn_cg 8 (fun i hi => by
    rw [show (256 : Nat) = 2 ^ 8 from rfl, Nat.testBit_mod_two_pow]
    simp [hi])
  | n + 1 => by
    rw [show n + 1 + 8 = n + 8 + 1 by omega]
    have e : bcn x (n + 8 + 1) = bcn x (n + 8) + (x.testBit (n + 8)).toNat := rfl
    have e2 : bcn (x / 256) (n + 1) = bcn (x / 256) n + ((x / 256).testBit n).toNat := rfl
    rw [e, e2, bcn_8 x n, Nat.testBit_add, show (2 : Nat) ^ 8 = 256 from rfl]
    omega
theorem pc_sum {x : Nat} (h : x < 256 ^ 6) : pcs x 8 < 2 ^ 44 ∧ (pcs x 8 + pcs x 8 / 256 + (pcs x 8 + pcs x 8 / 256) / 65536 + (pcs x 8 + pcs x 8 / 256 + (pcs x 8 + pcs x 8 / 256) / 65536) / 4294967296) % 128 = bcn x 48 := by
  have e48 : bcn x 48 = bcn (x % 256) 8 + (bcn (x / 256 % 256) 8 + (bcn (x / 256 / 256 % 256) 8 + (bcn (x / 256 / 256 / 256 % 256) 8 + (bcn (x / 256 / 256 / 256 / 256 % 256) 8 + (bcn (x / 256 / 256 / 256 / 256 / 256 % 256) 8 + 0))))) := by
    have a1 : bcn x 48 = bcn (x % 256) 8 + bcn (x / 256) 40 := bcn_8 x 40
    have a2 : bcn (x / 256) 40 = bcn (x / 256 % 256) 8 + bcn (x / 256 / 256) 32 := bcn_8 _ 32
    have a3 : bcn (x / 256 / 256) 32 = bcn (x / 256 / 256 % 256) 8 + bcn (x / 256 / 256 / 256) 24 := bcn_8 _ 24
    have a4 : bcn (x / 256 / 256 / 256) 24 = bcn (x / 256 / 256 / 256 % 256) 8 + bcn (x / 256 / 256 / 256 / 256) 16 := bcn_8 _ 16
    have a5 : bcn (x / 256 / 256 / 256 / 256) 16 = bcn (x / 256 / 256 / 256 / 256 % 256) 8 + bcn (x / 256 / 256 / 256 / 256 / 256) 8 := bcn_8 _ 8
    have a6 : bcn (x / 256 / 256 / 256 / 256 / 256) 8 = bcn (x / 256 / 256 / 256 / 256 / 256 % 256) 8 + 0 := bcn_8 _ 0
    rw [a1, a2, a3, a4, a5, a6]
  have ep : pcs x 8 = pc8 (x % 256) + 256 * (pc8 (x / 256 % 256) + 256 * (pc8 (x / 256 / 256 % 256) + 256 * (pc8 (x / 256 / 256 / 256 % 256) + 256 * (pc8 (x / 256 / 256 / 256 / 256 % 256) + 256 * (pc8 (x / 256 / 256 / 256 / 256 / 256 % 256) + 256 * (pc8 (x / 256 / 256 / 256 / 256 / 256 / 256 % 256) + 256 * (pc8 (x / 256 / 256 / 256 / 256 / 256 / 256 / 256 % 256) + 256 * 0))))))) := rfl
  have z6 : x / 256 / 256 / 256 / 256 / 256 / 256 = 0 := by
    have h : x < 281474976710656 := h
    omega
  have p0 : pc8 0 = 0 := by decide
  rw [z6, show (0 : Nat) % 256 = 0 from rfl, p0] at ep
  have q0 := pc8_bcn (x % 256) (Nat.mod_lt _ (by decide))
  have q1 := pc8_bcn (x / 256 % 256) (Nat.mod_lt _ (by decide))
  have q2 := pc8_bcn (x / 256 / 256 % 256) (Nat.mod_lt _ (by decide))
  have q3 := pc8_bcn (x / 256 / 256 / 256 % 256) (Nat.mod_lt _ (by decide))
  have q4 := pc8_bcn (x / 256 / 256 / 256 / 256 % 256) (Nat.mod_lt _ (by decide))
  have q5 := pc8_bcn (x / 256 / 256 / 256 / 256 / 256 % 256) (Nat.mod_lt _ (by decide))
  rw [q0.1, q1.1, q2.1, q3.1, q4.1, q5.1] at ep
  have q0 := q0.2
  have q1 := q1.2
  have q2 := q2.2
  have q3 := q3.2
  have q4 := q4.2
  have q5 := q5.2
  clear z6 p0
  generalize bcn (x % 256) 8 = a0 at *
  generalize bcn (x / 256 % 256) 8 = a1 at *
  generalize bcn (x / 256 / 256 % 256) 8 = a2 at *
  generalize bcn (x / 256 / 256 / 256 % 256) 8 = a3 at *
  generalize bcn (x / 256 / 256 / 256 / 256 % 256) 8 = a4 at *
  generalize bcn (x / 256 / 256 / 256 / 256 / 256 % 256) 8 = a5 at *
  generalize pcs x 8 = c at *
  clear h
  have d1 : c / 256 = a1 + 256 * (a2 + 256 * (a3 + 256 * (a4 + 256 * a5))) := by omega
  have d2 : c + c / 256 = (a0 + a1) + 256 * ((a1 + a2) + 256 * ((a2 + a3) + 256 * ((a3 + a4) + 256 * ((a4 + a5) + 256 * a5)))) := by omega
  generalize c + c / 256 = e at *
  have d3 : e / 65536 = (a2 + a3) + 256 * ((a3 + a4) + 256 * ((a4 + a5) + 256 * a5)) := by omega
  have d4 : e + e / 65536 = (a0 + a1 + a2 + a3) + 256 * ((a1 + a2 + a3 + a4) + 256 * ((a2 + a3 + a4 + a5) + 256 * ((a3 + a4 + a5) + 256 * ((a4 + a5) + 256 * a5)))) := by omega
  generalize e + e / 65536 = f at *
  have d5 : f / 4294967296 = (a4 + a5) + 256 * a5 := by omega
  refine ⟨by omega, ?_⟩
  rw [d5, e48]
  omega
theorem i_and_127 (f : Nat) : i_and (w32 (f : Int)) 127 = ((f % 128 : Nat) : Int) := by
  have h := pk_and (Int32.ofInt (f : Int)) (m := 127) 7 rfl
  have e : Int32.ofInt (w32 (f : Int)) = Int32.ofInt (f : Int) := by
    rw [w32_eq]
    apply Int32.toBitVec_inj.mp
    show BitVec.ofInt 32 (Int.bmod (f : Int) 4294967296) = BitVec.ofInt 32 (f : Int)
    apply BitVec.eq_of_toInt_eq
    rw [BitVec.toInt_ofInt, BitVec.toInt_ofInt]
    exact Int.bmod_bmod
  rw [i_and_eq, e]
  show (Int32.ofInt (f : Int) &&& 127).toInt = _
  rw [h, wb_ib]
  have e2 : (nI f).toBitVec.toNat = f % 2 ^ 32 := BitVec.toNat_ofNat f 32
  rw [e2, show f % 2 ^ 32 % 2 ^ 7 = f % 128 by omega]
  exact Int32.toInt_ofNat_of_lt (by omega)
section
variable {σ : TM} {d : Nat}
theorem j_bitCount {m : Nat} (hm : m < 2 ^ 48) : t_run tbl mtb (d + 1) 249 [vj m] σ = some (some (vi (bcn m 48)), σ) := by
  have h48 : (2 : Nat) ^ 48 = 281474976710656 := rfl
  have h63 : (2 : Nat) ^ 63 = 9223372036854775808 := rfl
  have u1 : ∀ x : Nat, x < 2 ^ 60 → j_ushr (x : Int) 1 = ((x / 2 : Nat) : Int) := fun x hx => jj_ushr (c := 1) (by omega) (by decide)
  have u2 : ∀ x : Nat, x < 2 ^ 60 → j_ushr (x : Int) 2 = ((x / 4 : Nat) : Int) := fun x hx => jj_ushr (c := 2) (by omega) (by decide)
  have u4 : ∀ x : Nat, x < 2 ^ 60 → j_ushr (x : Int) 4 = ((x / 16 : Nat) : Int) := fun x hx => jj_ushr (c := 4) (by omega) (by decide)
  have u8 : ∀ x : Nat, x < 2 ^ 60 → j_ushr (x : Int) 8 = ((x / 256 : Nat) : Int) := fun x hx => jj_ushr (c := 8) (by omega) (by decide)
  have u16 : ∀ x : Nat, x < 2 ^ 60 → j_ushr (x : Int) 16 = ((x / 65536 : Nat) : Int) := fun x hx => jj_ushr (c := 16) (by omega) (by decide)
  have u32 : ∀ x : Nat, x < 2 ^ 60 → j_ushr (x : Int) 32 = ((x / 4294967296 : Nat) : Int) := fun x hx => jj_ushr (c := 32) (by omega) (by decide)
  have n1 : ∀ x : Nat, x < 2 ^ 60 → j_and (x : Int) 6148914691236517205 = ((x &&& 6148914691236517205 : Nat) : Int) := fun x hx => jj_and (b := 6148914691236517205) (by omega) (by decide)
  have n2 : ∀ x : Nat, x < 2 ^ 60 → j_and (x : Int) 3689348814741910323 = ((x &&& 3689348814741910323 : Nat) : Int) := fun x hx => jj_and (b := 3689348814741910323) (by omega) (by decide)
  have n3 : ∀ x : Nat, x < 2 ^ 60 → j_and (x : Int) 1085102592571150095 = ((x &&& 1085102592571150095 : Nat) : Int) := fun x hx => jj_and (b := 1085102592571150095) (by omega) (by decide)
  -- the first step
  have lA : (m / 2 &&& 6148914691236517205) ≤ m / 2 := Nat.and_le_left
  have eA : w64 ((m : Int) - j_and (j_ushr (m : Int) 1) 6148914691236517205) = ((swA m 6148914691236517205 : Nat) : Int) := by
    rw [u1 m (by omega), n1 _ (by omega), w64_id (by omega) (by omega)]
    unfold swA
    omega
  have bA : swA m 6148914691236517205 < 2 ^ 48 := by
    unfold swA
    omega
  generalize hA : swA m 6148914691236517205 = A at *
  have lB1 : (A &&& 3689348814741910323) ≤ A := Nat.and_le_left
  have lB2 : (A / 4 &&& 3689348814741910323) ≤ A / 4 := Nat.and_le_left
  have eB : w64 (j_and (A : Int) 3689348814741910323 + j_and (j_ushr (A : Int) 2) 3689348814741910323) = ((swB A 3689348814741910323 : Nat) : Int) := by
    rw [u2 A (by omega), n2 _ (by omega), n2 _ (by omega), w64_id (by omega) (by omega)]
    unfold swB
    omega
  have bB : swB A 3689348814741910323 < 2 ^ 49 := by
    unfold swB
    omega
  generalize hB : swB A 3689348814741910323 = B at *
  have lC : ((B + B / 16) &&& 1085102592571150095) ≤ B + B / 16 := Nat.and_le_left
  have eC : j_and (w64 ((B : Int) + j_ushr (B : Int) 4)) 1085102592571150095 = ((swC B 1085102592571150095 : Nat) : Int) := by
    rw [u4 B (by omega), w64_id (by omega) (by omega), show (B : Int) + ((B / 16 : Nat) : Int) = ((B + B / 16 : Nat) : Int) by omega, n3 _ (by omega)]
    rfl
  have eP : swC B 1085102592571150095 = pcs m 8 := by
    rw [← hB, ← hA]
    exact sw_pcs 8 m (by omega)
  rw [eP] at eC
  obtain ⟨q1, q2⟩ := pc_sum (x := m) (by omega)
  generalize pcs m 8 = c at *
  have e1 : w64 ((c : Int) + j_ushr (c : Int) 8) = ((c + c / 256 : Nat) : Int) := by
    rw [u8 c (by omega), w64_id (by omega) (by omega)]
    omega
  have b1 : c + c / 256 < 2 ^ 45 := by omega
  generalize c + c / 256 = e at *
  have e2 : w64 ((e : Int) + j_ushr (e : Int) 16) = ((e + e / 65536 : Nat) : Int) := by
    rw [u16 e (by omega), w64_id (by omega) (by omega)]
    omega
  have b2 : e + e / 65536 < 2 ^ 46 := by omega
  generalize e + e / 65536 = f at *
  have e3 : w64 ((f : Int) + j_ushr (f : Int) 32) = ((f + f / 4294967296 : Nat) : Int) := by
    rw [u32 f (by omega), w64_id (by omega) (by omega)]
    omega
  rw [run_go (k := 249) (as := [vj (m : Int)]) mt_249 (Nat.ne_of_beq_eq_false rfl) rfl (s_kJ13_bitCount_0 _ (m : Int) σ), eA, eB, eC, e1, e2, e3, i_and_127, q2]
  rfl
end
