-- numbers of the small machine against the machine's own
def R32 (x : Int) : Prop := -2147483648 ≤ x ∧ x ≤ 2147483647
def R64 (x : Int) : Prop := -9223372036854775808 ≤ x ∧ x ≤ 9223372036854775807
theorem R32_toInt (x : Int32) : R32 x.toInt := by
  have a := x.le_toInt
  have b := x.toInt_lt
  constructor <;> omega
theorem R64_toInt (x : Int64) : R64 x.toInt := by
  have a := x.le_toInt
  have b := x.toInt_lt
  constructor <;> omega
theorem R32.to64 {x : Int} (h : R32 x) : R64 x := by
  obtain ⟨a, b⟩ := h
  constructor <;> omega
theorem o32 {x : Int} (h : R32 x) : (Int32.ofInt x).toInt = x := Int32.toInt_ofInt_of_le (by have := h.1; omega) (by have := h.2; omega)
theorem o64 {x : Int} (h : R64 x) : (Int64.ofInt x).toInt = x := Int64.toInt_ofInt_of_le (by have := h.1; omega) (by have := h.2; omega)
theorem n_w32 (x : Int) : Int32.ofInt (w32 x) = Int32.ofInt x := by
  apply Int32.toInt_inj.1
  rw [w32_eq, Int32.toInt_ofInt, Int32.toInt_ofInt]
  show Int.bmod (Int.bmod x 4294967296) 4294967296 = Int.bmod x 4294967296
  exact Int.bmod_bmod
theorem n_w64 (x : Int) : Int64.ofInt (w64 x) = Int64.ofInt x := by
  apply Int64.toInt_inj.1
  rw [w64_eq, Int64.toInt_ofInt, Int64.toInt_ofInt]
  show Int.bmod (Int.bmod x 18446744073709551616) 18446744073709551616 = Int.bmod x 18446744073709551616
  exact Int.bmod_bmod
theorem r_w32 (x : Int) : R32 (w32 x) := by
  rw [w32_eq]
  have a := @Int.le_bmod x 4294967296 (by decide)
  have b := @Int.bmod_lt x 4294967296 (by decide)
  constructor <;> omega
theorem r_w64 (x : Int) : R64 (w64 x) := by
  rw [w64_eq]
  have a := @Int.le_bmod x 18446744073709551616 (by decide)
  have b := @Int.bmod_lt x 18446744073709551616 (by decide)
  constructor <;> omega
theorem w32_id {x : Int} (h : -2147483648 ≤ x) (h2 : x ≤ 2147483647) : w32 x = x := by
  rw [w32_eq]
  exact Int.bmod_eq_of_le (by omega) (by omega)
theorem w64_id {x : Int} (h : -9223372036854775808 ≤ x) (h2 : x ≤ 9223372036854775807) : w64 x = x := by
  rw [w64_eq]
  exact Int.bmod_eq_of_le (by omega) (by omega)
theorem n_add (x y : Int) : Int32.ofInt (w32 (x + y)) = Int32.ofInt x + Int32.ofInt y := by rw [n_w32, Int32.ofInt_add]
theorem n_sub (x y : Int) : Int32.ofInt (w32 (x - y)) = Int32.ofInt x - Int32.ofInt y := by rw [n_w32, Int32.ofInt_sub]
theorem n_mul (x y : Int) : Int32.ofInt (w32 (x * y)) = Int32.ofInt x * Int32.ofInt y := by rw [n_w32, Int32.ofInt_mul]
theorem n_neg (x : Int) : Int32.ofInt (w32 (-x)) = -Int32.ofInt x := by rw [n_w32, Int32.ofInt_neg]
theorem n_div {x y : Int} (hx : R32 x) (hy : R32 y) : Int32.ofInt (i_div x y) = Int32.ofInt x / Int32.ofInt y := by
  apply Int32.toInt_inj.1
  rw [i_div_eq, Int32.toInt_ofInt, Int32.toInt_div, o32 hx, o32 hy]
  exact Int.bmod_bmod
theorem n_rem {x y : Int} (hx : R32 x) (hy : R32 y) : Int32.ofInt (i_rem x y) = Int32.ofInt x - Int32.ofInt x / Int32.ofInt y * Int32.ofInt y := by
  apply Int32.toInt_inj.1
  rw [i_rem_eq, Int32.toInt_ofInt, Int32.toInt_sub, Int32.toInt_mul, Int32.toInt_div, o32 hx, o32 hy]
  show Int.bmod (x.tmod y) 4294967296 = Int.bmod (x - Int.bmod (Int.bmod (x.tdiv y) 4294967296 * y) 4294967296) 4294967296
  rw [Int.sub_bmod_bmod]
  have e1 : (x - Int.bmod (x.tdiv y) 4294967296 * y).bmod 4294967296 = (x - (Int.bmod (x.tdiv y) 4294967296 * y).bmod 4294967296).bmod 4294967296 := by rw [Int.sub_bmod_bmod]
  rw [e1, Int.bmod_mul_bmod, Int.sub_bmod_bmod, Int.tmod_def, Int.mul_comm y]
theorem r_div (x y : Int) : R32 (i_div x y) := by
  have := r_w32 (Int.tdiv x y)
  rw [w32_eq] at this
  rw [i_div_eq]
  exact this
theorem r_rem {x y : Int} (hx : R32 x) (hy : R32 y) : R32 (i_rem x y) := by
  have e : (Int32.ofInt x % Int32.ofInt y).toInt = i_rem x y := by rw [Int32.toInt_mod, o32 hx, o32 hy, i_rem_eq]
  rw [← e]
  exact R32_toInt _
theorem n_ne0 {y : Int} (hy : R32 y) (h : ¬ y = 0) : ¬ Int32.ofInt y = 0 := by
  intro e
  have := o32 hy
  rw [e] at this
  exact h this.symm
theorem n_eq {x y : Int} (hx : R32 x) (hy : R32 y) : Int32.ofInt x = Int32.ofInt y ↔ x = y := by
  constructor
  · intro h
    have := congrArg Int32.toInt h
    rwa [o32 hx, o32 hy] at this
  · intro h; rw [h]
theorem n_lt {x y : Int} (hx : R32 x) (hy : R32 y) : Int32.ofInt x < Int32.ofInt y ↔ x < y := by rw [Int32.lt_iff_toInt_lt, o32 hx, o32 hy]
theorem n_le {x y : Int} (hx : R32 x) (hy : R32 y) : Int32.ofInt x ≤ Int32.ofInt y ↔ x ≤ y := by rw [Int32.le_iff_toInt_le, o32 hx, o32 hy]
theorem n_eq64 {x y : Int} (hx : R64 x) (hy : R64 y) : Int64.ofInt x = Int64.ofInt y ↔ x = y := by
  constructor
  · intro h
    have := congrArg Int64.toInt h
    rwa [o64 hx, o64 hy] at this
  · intro h; rw [h]
theorem n_lt64 {x y : Int} (hx : R64 x) (hy : R64 y) : Int64.ofInt x < Int64.ofInt y ↔ x < y := by rw [Int64.lt_iff_toInt_lt, o64 hx, o64 hy]
theorem n_i2l {x : Int} (hx : R32 x) : (Int32.ofInt x).toInt64 = Int64.ofInt x := by
  apply Int64.toInt_inj.1
  rw [Int32.toInt_toInt64, o32 hx, o64 hx.to64]
theorem n_l2i (x : Int) : (Int64.ofInt x).toInt32 = Int32.ofInt (w32 x) := by rw [Int64.toInt32_ofInt, n_w32]
theorem n_and (x y : Int) : Int32.ofInt (i_and x y) = Int32.ofInt x &&& Int32.ofInt y := by rw [i_and_eq, Int32.ofInt_toInt]
theorem n_or (x y : Int) : Int32.ofInt (i_or x y) = Int32.ofInt x ||| Int32.ofInt y := by rw [i_or_eq, Int32.ofInt_toInt]
theorem n_xor (x y : Int) : Int32.ofInt (i_xor x y) = Int32.ofInt x ^^^ Int32.ofInt y := by rw [i_xor_eq, Int32.ofInt_toInt]
theorem n_shl (x y : Int) : Int32.ofInt (i_shl x y) = Int32.ofInt x <<< (Int32.ofInt y &&& 31) := by rw [i_shl_eq, Int32.ofInt_toInt]
theorem n_shr (x y : Int) : Int32.ofInt (i_shr x y) = Int32.ofInt x >>> (Int32.ofInt y &&& 31) := by rw [i_shr_eq, Int32.ofInt_toInt]
theorem n_ushr (x y : Int) : ((Int32.ofInt x).toUInt32 >>> ((Int32.ofInt y).toUInt32 &&& Int32.toUInt32 31)).toInt32 = Int32.ofInt (i_ushr x y) := by rw [i_ushr_eq, Int32.ofInt_toInt]
theorem n_b (x : Int) : (Int32.ofInt x).toInt8.toInt32 = Int32.ofInt (i_b x) := by
  apply Int32.toInt_inj.1
  have h : R32 (Int32.ofInt x).toInt8.toInt := by
    have a := (Int32.ofInt x).toInt8.le_toInt
    have b := (Int32.ofInt x).toInt8.toInt_lt
    constructor <;> omega
  rw [i_b_eq, o32 h, Int8.toInt_toInt32]
theorem n_s (x : Int) : (Int32.ofInt x).toInt16.toInt32 = Int32.ofInt (i_s x) := by
  apply Int32.toInt_inj.1
  have h : R32 (Int32.ofInt x).toInt16.toInt := by
    have a := (Int32.ofInt x).toInt16.le_toInt
    have b := (Int32.ofInt x).toInt16.toInt_lt
    constructor <;> omega
  rw [i_s_eq, o32 h, Int16.toInt_toInt32]
theorem n_c (x : Int) : ((Int32.ofInt x).toUInt32 % 65536).toInt32 = Int32.ofInt (i_c x) := by rw [i_c_eq, Int32.ofInt_toInt]
theorem r_and (x y : Int) : R32 (i_and x y) := by rw [i_and_eq]; exact R32_toInt _
theorem r_or (x y : Int) : R32 (i_or x y) := by rw [i_or_eq]; exact R32_toInt _
theorem r_xor (x y : Int) : R32 (i_xor x y) := by rw [i_xor_eq]; exact R32_toInt _
theorem r_shl (x y : Int) : R32 (i_shl x y) := by rw [i_shl_eq]; exact R32_toInt _
theorem r_shr (x y : Int) : R32 (i_shr x y) := by rw [i_shr_eq]; exact R32_toInt _
theorem r_ushr (x y : Int) : R32 (i_ushr x y) := by rw [i_ushr_eq]; exact R32_toInt _
theorem r_c (x : Int) : R32 (i_c x) := by rw [i_c_eq]; exact R32_toInt _
theorem r_b (x : Int) : R32 (i_b x) := by
  rw [i_b_eq]
  have a := (Int32.ofInt x).toInt8.le_toInt
  have b := (Int32.ofInt x).toInt8.toInt_lt
  constructor <;> omega
theorem r_s (x : Int) : R32 (i_s x) := by
  rw [i_s_eq]
  have a := (Int32.ofInt x).toInt16.le_toInt
  have b := (Int32.ofInt x).toInt16.toInt_lt
  constructor <;> omega
theorem m_add (x y : Int) : Int64.ofInt (w64 (x + y)) = Int64.ofInt x + Int64.ofInt y := by rw [n_w64, Int64.ofInt_add]
theorem m_sub (x y : Int) : Int64.ofInt (w64 (x - y)) = Int64.ofInt x - Int64.ofInt y := by rw [n_w64, Int64.ofInt_sub]
theorem m_mul (x y : Int) : Int64.ofInt (w64 (x * y)) = Int64.ofInt x * Int64.ofInt y := by rw [n_w64, Int64.ofInt_mul]
theorem m_and (x y : Int) : Int64.ofInt (j_and x y) = Int64.ofInt x &&& Int64.ofInt y := by rw [j_and_eq, Int64.ofInt_toInt]
theorem m_or (x y : Int) : Int64.ofInt (j_or x y) = Int64.ofInt x ||| Int64.ofInt y := by rw [j_or_eq, Int64.ofInt_toInt]
theorem m_xor (x y : Int) : Int64.ofInt (j_xor x y) = Int64.ofInt x ^^^ Int64.ofInt y := by rw [j_xor_eq, Int64.ofInt_toInt]
theorem m_shl (x y : Int) : Int64.ofInt x <<< ((Int32.ofInt y).toInt64 &&& 63) = Int64.ofInt (j_shl x y) := by rw [j_shl_eq, Int64.ofInt_toInt]
theorem m_ushr (x y : Int) : ((Int64.ofInt x).toUInt64 >>> ((Int32.ofInt y).toInt64.toUInt64 &&& Int64.toUInt64 63)).toInt64 = Int64.ofInt (j_ushr x y) := by rw [j_ushr_eq, Int64.ofInt_toInt]
theorem s_and (x y : Int) : R64 (j_and x y) := by rw [j_and_eq]; exact R64_toInt _
theorem s_or (x y : Int) : R64 (j_or x y) := by rw [j_or_eq]; exact R64_toInt _
theorem s_xor (x y : Int) : R64 (j_xor x y) := by rw [j_xor_eq]; exact R64_toInt _
theorem s_shl (x y : Int) : R64 (j_shl x y) := by rw [j_shl_eq]; exact R64_toInt _
theorem s_ushr (x y : Int) : R64 (j_ushr x y) := by rw [j_ushr_eq]; exact R64_toInt _
theorem n_cl {i : Int} (h : R32 i) : (Int32.ofInt i).toNatClampNeg = i.toNat := by
  obtain ⟨a, b⟩ := h
  exact Int32.toNatClampNeg_ofInt_of_le (by omega) (by omega)
theorem n_in {i n : Int} (h : R32 i) (h0 : 0 ≤ i) (h1 : i < n) : vp_in (Int32.ofInt i) n.toNat := by
  rw [vp_in_iff, o32 h]
  omega
theorem n_z (v : Int) (h0 : 0 ≤ v) (h1 : v ≤ 1) : vp_nar .boolean (Int32.ofInt v) = Int32.ofInt v ∧ narrow .boolean (.int (Int32.ofInt v)) = .int (Int32.ofInt v) := by
  rcases (by omega : v = 0 ∨ v = 1) with rfl | rfl <;> exact ⟨rfl, rfl⟩
