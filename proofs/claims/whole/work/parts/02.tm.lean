-- the small machine over a picture of the memory: values, memory, arithmetic, one step's meaning, whole runs
abbrev TV : Type := Int ⊕ (Int ⊕ (Nat × Nat))
abbrev TM : Type := Nat → Nat → Nat → Int
abbrev TL : Type := List (Option TV)
abbrev TRes : Type := (Nat × TL × List TV × TM) ⊕ (Option TV × TM)
abbrev TO : Type := Nat → List TV → TM → Option (Option TV × TM)
abbrev vi (x : Int) : TV := .inl x
abbrev vj (x : Int) : TV := .inr (.inl x)
abbrev vh (k i : Nat) : TV := .inr (.inr (k, i))
-- numbers: each by a name that nothing unfolds, and what it is
theorem w32_ex : ∃ f : Int → Int, f = fun x => Int.bmod x 4294967296 := ⟨_, rfl⟩
noncomputable def w32 : Int → Int := Classical.choose w32_ex
theorem w32_eq (x : Int) : w32 x = Int.bmod x 4294967296 := by
  rw [show w32 = fun x => Int.bmod x 4294967296 from Classical.choose_spec w32_ex]
theorem w64_ex : ∃ f : Int → Int, f = fun x => Int.bmod x 18446744073709551616 := ⟨_, rfl⟩
noncomputable def w64 : Int → Int := Classical.choose w64_ex
theorem w64_eq (x : Int) : w64 x = Int.bmod x 18446744073709551616 := by
  rw [show w64 = fun x => Int.bmod x 18446744073709551616 from Classical.choose_spec w64_ex]
theorem i_and_ex : ∃ f : Int → Int → Int, f = fun x y => (Int32.ofInt x &&& Int32.ofInt y).toInt := ⟨_, rfl⟩
noncomputable def i_and : Int → Int → Int := Classical.choose i_and_ex
theorem i_and_eq (x y : Int) : i_and x y = (Int32.ofInt x &&& Int32.ofInt y).toInt := by
  rw [show i_and = fun x y => (Int32.ofInt x &&& Int32.ofInt y).toInt from Classical.choose_spec i_and_ex]
theorem i_or_ex : ∃ f : Int → Int → Int, f = fun x y => (Int32.ofInt x ||| Int32.ofInt y).toInt := ⟨_, rfl⟩
noncomputable def i_or : Int → Int → Int := Classical.choose i_or_ex
theorem i_or_eq (x y : Int) : i_or x y = (Int32.ofInt x ||| Int32.ofInt y).toInt := by
  rw [show i_or = fun x y => (Int32.ofInt x ||| Int32.ofInt y).toInt from Classical.choose_spec i_or_ex]
theorem i_xor_ex : ∃ f : Int → Int → Int, f = fun x y => (Int32.ofInt x ^^^ Int32.ofInt y).toInt := ⟨_, rfl⟩
noncomputable def i_xor : Int → Int → Int := Classical.choose i_xor_ex
theorem i_xor_eq (x y : Int) : i_xor x y = (Int32.ofInt x ^^^ Int32.ofInt y).toInt := by
  rw [show i_xor = fun x y => (Int32.ofInt x ^^^ Int32.ofInt y).toInt from Classical.choose_spec i_xor_ex]
theorem i_shl_ex : ∃ f : Int → Int → Int, f = fun x y => (Int32.ofInt x <<< (Int32.ofInt y &&& 31)).toInt := ⟨_, rfl⟩
noncomputable def i_shl : Int → Int → Int := Classical.choose i_shl_ex
theorem i_shl_eq (x y : Int) : i_shl x y = (Int32.ofInt x <<< (Int32.ofInt y &&& 31)).toInt := by
  rw [show i_shl = fun x y => (Int32.ofInt x <<< (Int32.ofInt y &&& 31)).toInt from Classical.choose_spec i_shl_ex]
theorem i_shr_ex : ∃ f : Int → Int → Int, f = fun x y => (Int32.ofInt x >>> (Int32.ofInt y &&& 31)).toInt := ⟨_, rfl⟩
noncomputable def i_shr : Int → Int → Int := Classical.choose i_shr_ex
theorem i_shr_eq (x y : Int) : i_shr x y = (Int32.ofInt x >>> (Int32.ofInt y &&& 31)).toInt := by
  rw [show i_shr = fun x y => (Int32.ofInt x >>> (Int32.ofInt y &&& 31)).toInt from Classical.choose_spec i_shr_ex]
theorem i_ushr_ex : ∃ f : Int → Int → Int, f = fun x y => (((Int32.ofInt x).toUInt32 >>> ((Int32.ofInt y).toUInt32 &&& Int32.toUInt32 31)).toInt32).toInt := ⟨_, rfl⟩
noncomputable def i_ushr : Int → Int → Int := Classical.choose i_ushr_ex
theorem i_ushr_eq (x y : Int) : i_ushr x y = (((Int32.ofInt x).toUInt32 >>> ((Int32.ofInt y).toUInt32 &&& Int32.toUInt32 31)).toInt32).toInt := by
  rw [show i_ushr = fun x y => (((Int32.ofInt x).toUInt32 >>> ((Int32.ofInt y).toUInt32 &&& Int32.toUInt32 31)).toInt32).toInt from Classical.choose_spec i_ushr_ex]
theorem i_rem_ex : ∃ f : Int → Int → Int, f = fun x y => Int.tmod x y := ⟨_, rfl⟩
noncomputable def i_rem : Int → Int → Int := Classical.choose i_rem_ex
theorem i_rem_eq (x y : Int) : i_rem x y = Int.tmod x y := by
  rw [show i_rem = fun x y => Int.tmod x y from Classical.choose_spec i_rem_ex]
theorem i_div_ex : ∃ f : Int → Int → Int, f = fun x y => Int.bmod (Int.tdiv x y) 4294967296 := ⟨_, rfl⟩
noncomputable def i_div : Int → Int → Int := Classical.choose i_div_ex
theorem i_div_eq (x y : Int) : i_div x y = Int.bmod (Int.tdiv x y) 4294967296 := by
  rw [show i_div = fun x y => Int.bmod (Int.tdiv x y) 4294967296 from Classical.choose_spec i_div_ex]
theorem i_b_ex : ∃ f : Int → Int, f = fun x => (Int32.ofInt x).toInt8.toInt := ⟨_, rfl⟩
noncomputable def i_b : Int → Int := Classical.choose i_b_ex
theorem i_b_eq (x : Int) : i_b x = (Int32.ofInt x).toInt8.toInt := by
  rw [show i_b = fun x => (Int32.ofInt x).toInt8.toInt from Classical.choose_spec i_b_ex]
theorem i_s_ex : ∃ f : Int → Int, f = fun x => (Int32.ofInt x).toInt16.toInt := ⟨_, rfl⟩
noncomputable def i_s : Int → Int := Classical.choose i_s_ex
theorem i_s_eq (x : Int) : i_s x = (Int32.ofInt x).toInt16.toInt := by
  rw [show i_s = fun x => (Int32.ofInt x).toInt16.toInt from Classical.choose_spec i_s_ex]
theorem i_c_ex : ∃ f : Int → Int, f = fun x => (((Int32.ofInt x).toUInt32 % 65536).toInt32).toInt := ⟨_, rfl⟩
noncomputable def i_c : Int → Int := Classical.choose i_c_ex
theorem i_c_eq (x : Int) : i_c x = (((Int32.ofInt x).toUInt32 % 65536).toInt32).toInt := by
  rw [show i_c = fun x => (((Int32.ofInt x).toUInt32 % 65536).toInt32).toInt from Classical.choose_spec i_c_ex]
theorem j_and_ex : ∃ f : Int → Int → Int, f = fun x y => (Int64.ofInt x &&& Int64.ofInt y).toInt := ⟨_, rfl⟩
noncomputable def j_and : Int → Int → Int := Classical.choose j_and_ex
theorem j_and_eq (x y : Int) : j_and x y = (Int64.ofInt x &&& Int64.ofInt y).toInt := by
  rw [show j_and = fun x y => (Int64.ofInt x &&& Int64.ofInt y).toInt from Classical.choose_spec j_and_ex]
theorem j_or_ex : ∃ f : Int → Int → Int, f = fun x y => (Int64.ofInt x ||| Int64.ofInt y).toInt := ⟨_, rfl⟩
noncomputable def j_or : Int → Int → Int := Classical.choose j_or_ex
theorem j_or_eq (x y : Int) : j_or x y = (Int64.ofInt x ||| Int64.ofInt y).toInt := by
  rw [show j_or = fun x y => (Int64.ofInt x ||| Int64.ofInt y).toInt from Classical.choose_spec j_or_ex]
theorem j_xor_ex : ∃ f : Int → Int → Int, f = fun x y => (Int64.ofInt x ^^^ Int64.ofInt y).toInt := ⟨_, rfl⟩
noncomputable def j_xor : Int → Int → Int := Classical.choose j_xor_ex
theorem j_xor_eq (x y : Int) : j_xor x y = (Int64.ofInt x ^^^ Int64.ofInt y).toInt := by
  rw [show j_xor = fun x y => (Int64.ofInt x ^^^ Int64.ofInt y).toInt from Classical.choose_spec j_xor_ex]
theorem j_shl_ex : ∃ f : Int → Int → Int, f = fun x y => (Int64.ofInt x <<< ((Int32.ofInt y).toInt64 &&& 63)).toInt := ⟨_, rfl⟩
noncomputable def j_shl : Int → Int → Int := Classical.choose j_shl_ex
theorem j_shl_eq (x y : Int) : j_shl x y = (Int64.ofInt x <<< ((Int32.ofInt y).toInt64 &&& 63)).toInt := by
  rw [show j_shl = fun x y => (Int64.ofInt x <<< ((Int32.ofInt y).toInt64 &&& 63)).toInt from Classical.choose_spec j_shl_ex]
theorem j_ushr_ex : ∃ f : Int → Int → Int, f = fun x y => ((Int64.ofInt x).toUInt64 >>> ((Int32.ofInt y).toInt64.toUInt64 &&& Int64.toUInt64 63)).toInt64.toInt := ⟨_, rfl⟩
noncomputable def j_ushr : Int → Int → Int := Classical.choose j_ushr_ex
theorem j_ushr_eq (x y : Int) : j_ushr x y = ((Int64.ofInt x).toUInt64 >>> ((Int32.ofInt y).toInt64.toUInt64 &&& Int64.toUInt64 63)).toInt64.toInt := by
  rw [show j_ushr = fun x y => ((Int64.ofInt x).toUInt64 >>> ((Int32.ofInt y).toInt64.toUInt64 &&& Int64.toUInt64 63)).toInt64.toInt from Classical.choose_spec j_ushr_ex]
def t_nth {α : Type} : List α → Nat → Option α
  | [], _ => none
  | a :: _, 0 => some a
  | _ :: l, n + 1 => t_nth l n
def t_look {α : Type} : List (Nat × α) → Nat → Option α
  | [], _ => none
  | (p, a) :: l, q => cond (Nat.beq p q) (some a) (t_look l q)
theorem t_upd_ex : ∃ f : TM → Nat → Nat → Nat → Int → TM, f = fun σ k i j v a b c => if a = k ∧ b = i ∧ c = j then v else σ a b c := ⟨_, rfl⟩
noncomputable def t_upd : TM → Nat → Nat → Nat → Int → TM := Classical.choose t_upd_ex
theorem t_upd_eq (σ : TM) (k i j : Nat) (v : Int) (a b c : Nat) : t_upd σ k i j v a b c = if a = k ∧ b = i ∧ c = j then v else σ a b c := by
  rw [show t_upd = fun σ k i j v a b c => if a = k ∧ b = i ∧ c = j then v else σ a b c from Classical.choose_spec t_upd_ex]
def t_isJ : Option (Option TV) → Bool
  | some (some (.inr (.inl _))) => true
  | _ => false
def t_setK (v : TV) (K : TL → Option TRes) : Nat → TL → Option TRes
  | _, [] => none
  | 0, _ :: l => K (some v :: l)
  | n + 1, a :: l => t_setK v (fun l' => K (cond (Nat.beq n 0 && t_isJ (some a)) none a :: l')) n l
def t_setK2 (v : TV) (K : TL → Option TRes) : Nat → TL → Option TRes
  | 0, _ :: _ :: l => K (some v :: none :: l)
  | n + 1, a :: l => t_setK2 v (fun l' => K (cond (Nat.beq n 0 && t_isJ (some a)) none a :: l')) n l
  | _, _ => none
def t_mask : List Bool → TL → TL
  | b :: bs, a :: l => cond b a none :: t_mask bs l
  | [], _ :: l => none :: t_mask [] l
  | _, [] => []
def t_tsw (K : Nat → Option TRes) (x : Int) (d : Nat) : Int → List Nat → Option TRes
  | _, [] => K d
  | lo, o :: os => if x = lo then K o else t_tsw K x d (lo + 1) os
def t_lsw (K : Nat → Option TRes) (x : Int) (d : Nat) : List (Int × Int) → List Nat → Option TRes
  | (a, _) :: ps, o :: os => if x = a then K o else t_lsw K x d ps os
  | _, _ => K d
def t_args : List TV → TL
  | [] => []
  | .inr (.inl x) :: l => some (.inr (.inl x)) :: none :: t_args l
  | v :: l => some v :: t_args l
def t_fill : Nat → TL → TL
  | 0, _ => []
  | n + 1, [] => none :: t_fill n []
  | n + 1, a :: l => a :: t_fill n l
def t_pop : Nat → List TV → List TV → Option (List TV × List TV)
  | 0, acc, st => some (acc, st)
  | _ + 1, _, [] => none
  | n + 1, acc, v :: st => t_pop n (v :: acc) st
def t_cats : List TV → Nat
  | [] => 0
  | .inr (.inl _) :: l => 2 + t_cats l
  | _ :: l => 1 + t_cats l
def t_callv (r : Option (Option TV × TM)) (K : TM → Option TRes) : Option TRes := match r with
  | some (none, σ) => K σ
  | _ => none
def t_calli (r : Option (Option TV × TM)) (K : Int → TM → Option TRes) : Option TRes := match r with
  | some (some (.inl x), σ) => K x σ
  | _ => none
def t_callj (r : Option (Option TV × TM)) (K : Int → TM → Option TRes) : Option TRes := match r with
  | some (some (.inr (.inl x)), σ) => K x σ
  | _ => none
abbrev TK : Type := Nat → TL → List TV → TM → Option TRes
def t_jmp (ts : List Nat) (K : TK) (L : TL) (st : List TV) (σ : TM) : Option TRes := match ts with
  | tg :: _ => K tg L st σ
  | [] => none
def t_lit (nx : Nat) (v : TV) (K : TK) (L : TL) (st : List TV) (σ : TM) : Option TRes := K nx L (v :: st) σ
def t_ldi (nx i : Nat) (K : TK) (L : TL) (st : List TV) (σ : TM) : Option TRes := match t_nth L i with
  | some (some (.inl x)) => K nx L (.inl x :: st) σ
  | _ => none
def t_ldj (nx i : Nat) (K : TK) (L : TL) (st : List TV) (σ : TM) : Option TRes := match t_nth L i with
  | some (some (.inr (.inl x))) => K nx L (.inr (.inl x) :: st) σ
  | _ => none
def t_ldh (nx i : Nat) (K : TK) (L : TL) (st : List TV) (σ : TM) : Option TRes := match t_nth L i with
  | some (some (.inr (.inr h))) => K nx L (.inr (.inr h) :: st) σ
  | _ => none
def t_sti (nx i : Nat) (K : TK) (L : TL) (st : List TV) (σ : TM) : Option TRes := match st with
  | .inl x :: r => t_setK (.inl x) (fun L' => K nx L' r σ) i L
  | _ => none
def t_stj (nx i : Nat) (K : TK) (L : TL) (st : List TV) (σ : TM) : Option TRes := match st with
  | .inr (.inl x) :: r => t_setK2 (.inr (.inl x)) (fun L' => K nx L' r σ) i L
  | _ => none
def t_sth (nx i : Nat) (K : TK) (L : TL) (st : List TV) (σ : TM) : Option TRes := match st with
  | .inr (.inr h) :: r => t_setK (.inr (.inr h)) (fun L' => K nx L' r σ) i L
  | _ => none
noncomputable def t_inc (nx i : Nat) (n : Int) (K : TK) (L : TL) (st : List TV) (σ : TM) : Option TRes := match t_nth L i with
  | some (some (.inl x)) => t_setK (.inl (w32 (x + n))) (fun L' => K nx L' st σ) i L
  | _ => none
def t_bin (f : Int → Int → Int) (nx : Nat) (K : TK) (L : TL) (st : List TV) (σ : TM) : Option TRes := match st with
  | .inl y :: .inl x :: r => K nx L (.inl (f x y) :: r) σ
  | _ => none
def t_div (f : Int → Int → Int) (nx : Nat) (K : TK) (L : TL) (st : List TV) (σ : TM) : Option TRes := match st with
  | .inl y :: .inl x :: r => if y = 0 then none else K nx L (.inl (f x y) :: r) σ
  | _ => none
def t_un (f : Int → Int) (nx : Nat) (K : TK) (L : TL) (st : List TV) (σ : TM) : Option TRes := match st with
  | .inl x :: r => K nx L (.inl (f x) :: r) σ
  | _ => none
def t_binj (f : Int → Int → Int) (nx : Nat) (K : TK) (L : TL) (st : List TV) (σ : TM) : Option TRes := match st with
  | .inr (.inl y) :: .inr (.inl x) :: r => K nx L (.inr (.inl (f x y)) :: r) σ
  | _ => none
def t_shj (f : Int → Int → Int) (nx : Nat) (K : TK) (L : TL) (st : List TV) (σ : TM) : Option TRes := match st with
  | .inl y :: .inr (.inl x) :: r => K nx L (.inr (.inl (f x y)) :: r) σ
  | _ => none
def t_i2j (nx : Nat) (K : TK) (L : TL) (st : List TV) (σ : TM) : Option TRes := match st with
  | .inl x :: r => K nx L (.inr (.inl x) :: r) σ
  | _ => none
noncomputable def t_j2i (nx : Nat) (K : TK) (L : TL) (st : List TV) (σ : TM) : Option TRes := match st with
  | .inr (.inl x) :: r => K nx L (.inl (w32 x) :: r) σ
  | _ => none
def t_jcmp (nx : Nat) (K : TK) (L : TL) (st : List TV) (σ : TM) : Option TRes := match st with
  | .inr (.inl y) :: .inr (.inl x) :: r => if x < y then K nx L (.inl (-1) :: r) σ else if x = y then K nx L (.inl 0 :: r) σ else K nx L (.inl 1 :: r) σ
  | _ => none
def t_dup (nx : Nat) (K : TK) (L : TL) (st : List TV) (σ : TM) : Option TRes := match st with
  | .inl x :: r => K nx L (.inl x :: .inl x :: r) σ
  | .inr (.inr h) :: r => K nx L (.inr (.inr h) :: .inr (.inr h) :: r) σ
  | _ => none
def t_dup2 (nx : Nat) (K : TK) (L : TL) (st : List TV) (σ : TM) : Option TRes := match st with
  | .inl x :: .inr (.inr h) :: r => K nx L (.inl x :: .inr (.inr h) :: .inl x :: .inr (.inr h) :: r) σ
  | _ => none
def t_pop1 (nx : Nat) (K : TK) (L : TL) (st : List TV) (σ : TM) : Option TRes := match st with
  | .inl _ :: r => K nx L r σ
  | .inr (.inr _) :: r => K nx L r σ
  | _ => none
def t_if (c : ClassFile.Cond) (x y : Int) (A B : Option TRes) : Option TRes := match c with
  | .eq => if x = y then A else B
  | .ne => if x = y then B else A
  | .lt => if x < y then A else B
  | .ge => if x < y then B else A
  | .gt => if y < x then A else B
  | .le => if y < x then B else A
def t_if0 (c : ClassFile.Cond) (ts : List Nat) (nx : Nat) (K : TK) (L : TL) (st : List TV) (σ : TM) : Option TRes := match st with
  | .inl x :: r => t_if c x 0 (t_jmp ts K L r σ) (K nx L r σ)
  | _ => none
def t_if2 (c : ClassFile.Cond) (ts : List Nat) (nx : Nat) (K : TK) (L : TL) (st : List TV) (σ : TM) : Option TRes := match st with
  | .inl y :: .inl x :: r => t_if c x y (t_jmp ts K L r σ) (K nx L r σ)
  | _ => none
def t_ifh (c : ClassFile.ACond) (ts : List Nat) (nx : Nat) (K : TK) (L : TL) (st : List TV) (σ : TM) : Option TRes := match st with
  | .inr (.inr h2) :: .inr (.inr h1) :: r => cond (Nat.blt h1.1 119 && Nat.blt h2.1 119) (match c with
    | .eq => if h1.1 = h2.1 ∧ h1.2 = h2.2 then t_jmp ts K L r σ else K nx L r σ
    | .ne => if h1.1 = h2.1 ∧ h1.2 = h2.2 then K nx L r σ else t_jmp ts K L r σ) none
  | _ => none
def t_sw (f : Nat → List Nat → (Nat → Option TRes) → Int → Option TRes) (ts : List Nat) (K : TK) (L : TL) (st : List TV) (σ : TM) : Option TRes := match st with
  | .inl x :: r => (match ts with
    | d :: os => f d os (fun tg => K tg L r σ) x
    | [] => none)
  | _ => none
-- tables: of kinds: class, fields that are references, arrays; of classes: links by the pool's numbers
abbrev TTab : Type := (List (Option Nat × List (Option Nat) × Option (Nat × Int) × Option (Int × Nat) × Nat)) × (Nat → List (Nat × (Nat × Nat × Bool))) × (Nat → List (Nat × (Nat × Nat × Nat × Nat))) × (Nat → List (Nat × TV))
-- a kind: its class; of each field the kind that it refers to (none: a number); of an array: sort (0 int, 1 boolean, 2 long, 3 byte), length; of an array of objects: length, kind; how many there are
def t_cls (tb : TTab) (k : Nat) : Option Nat := (t_nth tb.1 k).bind (fun r => r.1)
def t_ref (tb : TTab) (k s : Nat) : Option (Option Nat) := (t_nth tb.1 k).bind (fun r => t_nth r.2.1 s)
def t_arr (tb : TTab) (k : Nat) : Option (Nat × Int) := (t_nth tb.1 k).bind (fun r => r.2.2.1)
def t_aar (tb : TTab) (k : Nat) : Option (Int × Nat) := (t_nth tb.1 k).bind (fun r => r.2.2.2.1)
def t_getf (tb : TTab) (own idx nx : Nat) (K : TK) (L : TL) (st : List TV) (σ : TM) : Option TRes := match st with
  | .inr (.inr (k, i)) :: r => (match t_look (tb.2.1 own) idx with
    | some (c, s, _) => (match t_cls tb k with
      | some c' => cond (Nat.beq c c') (match t_ref tb k s with
        | some none => K nx L (.inl (σ k i s) :: r) σ
        | some (some k') => K nx L (.inr (.inr (k', i)) :: r) σ
        | none => none) none
      | none => none)
    | none => none)
  | _ => none
def t_01 (b : Bool) (v : Int) (A : Option TRes) : Option TRes := cond b (if 0 ≤ v ∧ v ≤ 1 then A else none) A
noncomputable def t_putf (tb : TTab) (own idx nx : Nat) (K : TK) (L : TL) (st : List TV) (σ : TM) : Option TRes := match st with
  | .inl v :: .inr (.inr (k, i)) :: r => (match t_look (tb.2.1 own) idx with
    | some (c, s, b) => (match t_cls tb k with
      | some c' => cond (Nat.beq c c' && Nat.ble c 12) (match t_ref tb k s with
        | some none => t_01 b v (K nx L r (t_upd σ k i s v))
        | _ => none) none
      | none => none)
    | none => none)
  | _ => none
def t_in (i : Int) (n : Int) (A : Option TRes) : Option TRes := if 0 ≤ i ∧ i < n then A else none
def t_ald (tb : TTab) (sort nx : Nat) (K : TK) (L : TL) (st : List TV) (σ : TM) : Option TRes := match st with
  | .inl j :: .inr (.inr (k, i)) :: r => (match t_arr tb k with
    | some (srt, n) => cond (Nat.beq srt sort) (t_in j n (K nx L (.inl (σ k i j.toNat) :: r) σ)) none
    | none => none)
  | _ => none
def t_aldb (tb : TTab) (nx : Nat) (K : TK) (L : TL) (st : List TV) (σ : TM) : Option TRes := match st with
  | .inl j :: .inr (.inr (k, i)) :: r => (match t_arr tb k with
    | some (srt, n) => cond (Nat.beq srt 1 || Nat.beq srt 3) (t_in j n (K nx L (.inl (σ k i j.toNat) :: r) σ)) none
    | none => none)
  | _ => none
def t_aldj (tb : TTab) (nx : Nat) (K : TK) (L : TL) (st : List TV) (σ : TM) : Option TRes := match st with
  | .inl j :: .inr (.inr (k, i)) :: r => (match t_arr tb k with
    | some (srt, n) => cond (Nat.beq srt 2) (t_in j n (K nx L (.inr (.inl (σ k i j.toNat)) :: r) σ)) none
    | none => none)
  | _ => none
def t_aldh (tb : TTab) (nx : Nat) (K : TK) (L : TL) (st : List TV) (σ : TM) : Option TRes := match st with
  | .inl j :: .inr (.inr (k, 0)) :: r => (match t_aar tb k with
    | some (n, k') => t_in j n (K nx L (.inr (.inr (k', j.toNat)) :: r) σ)
    | none => none)
  | _ => none
noncomputable def t_ast (tb : TTab) (sort : Nat) (b : Bool) (nx : Nat) (K : TK) (L : TL) (st : List TV) (σ : TM) : Option TRes := match st with
  | .inl v :: .inl j :: .inr (.inr (k, i)) :: r => (match t_arr tb k with
    | some (srt, n) => cond (Nat.beq srt sort) (t_in j n (t_01 b v (K nx L r (t_upd σ k i j.toNat v)))) none
    | none => none)
  | _ => none
noncomputable def t_astj (tb : TTab) (nx : Nat) (K : TK) (L : TL) (st : List TV) (σ : TM) : Option TRes := match st with
  | .inr (.inl v) :: .inl j :: .inr (.inr (k, i)) :: r => (match t_arr tb k with
    | some (srt, n) => cond (Nat.beq srt 2) (t_in j n (K nx L r (t_upd σ k i j.toNat v))) none
    | none => none)
  | _ => none
def t_alen (tb : TTab) (nx : Nat) (K : TK) (L : TL) (st : List TV) (σ : TM) : Option TRes := match st with
  | .inr (.inr (k, _)) :: r => (match t_arr tb k with
    | some (_, n) => K nx L (.inl n :: r) σ
    | none => none)
  | _ => none
def t_ldc (tb : TTab) (own idx nx : Nat) (K : TK) (L : TL) (st : List TV) (σ : TM) : Option TRes := match t_look (tb.2.2.2 own) idx with
  | some (.inl x) => K nx L (.inl x :: st) σ
  | some (.inr (.inr h)) => K nx L (.inr (.inr h) :: st) σ
  | _ => none
def t_ldcw (tb : TTab) (own idx nx : Nat) (K : TK) (L : TL) (st : List TV) (σ : TM) : Option TRes := match t_look (tb.2.2.2 own) idx with
  | some (.inl x) => K nx L (.inl x :: st) σ
  | _ => none
def t_ldc2 (tb : TTab) (own idx nx : Nat) (K : TK) (L : TL) (st : List TV) (σ : TM) : Option TRes := match t_look (tb.2.2.2 own) idx with
  | some (.inr (.inl x)) => K nx L (.inr (.inl x) :: st) σ
  | _ => none
def t_gst (own idx nx : Nat) (K : TK) (L : TL) (st : List TV) (σ : TM) : Option TRes := cond (Nat.beq own 16 && Nat.beq idx 38) (K nx L (.inl 1 :: st) σ) none
def t_rcv (tb : TTab) (vc : Nat) (as : List TV) : Bool := cond (Nat.beq vc 99) true (match as with
  | .inr (.inr (k, _)) :: _ => (match t_cls tb k with
    | some c => Nat.beq c vc
    | none => false)
  | _ => false)
def t_inv (tb : TTab) (O : TO) (own idx nx : Nat) (K : TK) (L : TL) (st : List TV) (σ : TM) : Option TRes := match t_look (tb.2.2.1 own) idx with
  | some (k, n, rt, vc) => (match t_pop n [] st with
    | some (as, r) => cond (Nat.ble (t_cats r) 8 && t_rcv tb vc as) (match rt with
      | 0 => t_callv (O k as σ) (fun σ' => K nx L r σ')
      | 1 => t_calli (O k as σ) (fun x σ' => K nx L (.inl x :: r) σ')
      | _ => t_callj (O k as σ) (fun x σ' => K nx L (.inr (.inl x) :: r) σ')) none
    | none => none)
  | none => none
noncomputable def t_ins (tb : TTab) (O : TO) (own : Nat) (rb : Bool) (K : TK) (ins : Instr) (nx : Nat) (ts : List Nat) (L : TL) (st : List TV) (σ : TM) : Option TRes :=
  match ins with
  | .iconst n => t_lit nx (.inl n) K L st σ
  | .bipush n => t_lit nx (.inl n) K L st σ
  | .sipush n => t_lit nx (.inl n) K L st σ
  | .lconst n => t_lit nx (.inr (.inl (n : Nat))) K L st σ
  | .ldc i => t_ldc tb own i nx K L st σ
  | .ldc_w i => t_ldcw tb own i nx K L st σ
  | .ldc2_w i => t_ldc2 tb own i nx K L st σ
  | .getstatic i => t_gst own i nx K L st σ
  | .iload i => t_ldi nx i K L st σ
  | .iload_n i => t_ldi nx i K L st σ
  | .lload i => t_ldj nx i K L st σ
  | .lload_n i => t_ldj nx i K L st σ
  | .aload i => t_ldh nx i K L st σ
  | .aload_n i => t_ldh nx i K L st σ
  | .istore i => t_sti nx i K L st σ
  | .istore_n i => t_sti nx i K L st σ
  | .lstore i => t_stj nx i K L st σ
  | .lstore_n i => t_stj nx i K L st σ
  | .astore i => t_sth nx i K L st σ
  | .astore_n i => t_sth nx i K L st σ
  | .iinc i n => t_inc nx i n K L st σ
  | .iadd => t_bin (fun x y => w32 (x + y)) nx K L st σ
  | .isub => t_bin (fun x y => w32 (x - y)) nx K L st σ
  | .imul => t_bin (fun x y => w32 (x * y)) nx K L st σ
  | .idiv => t_div i_div nx K L st σ
  | .irem => t_div i_rem nx K L st σ
  | .ineg => t_un (fun x => w32 (-x)) nx K L st σ
  | .iand => t_bin i_and nx K L st σ
  | .ior => t_bin i_or nx K L st σ
  | .ixor => t_bin i_xor nx K L st σ
  | .ishl => t_bin i_shl nx K L st σ
  | .ishr => t_bin i_shr nx K L st σ
  | .iushr => t_bin i_ushr nx K L st σ
  | .i2b => t_un i_b nx K L st σ
  | .i2s => t_un i_s nx K L st σ
  | .i2c => t_un i_c nx K L st σ
  | .ladd => t_binj (fun x y => w64 (x + y)) nx K L st σ
  | .lsub => t_binj (fun x y => w64 (x - y)) nx K L st σ
  | .lmul => t_binj (fun x y => w64 (x * y)) nx K L st σ
  | .land => t_binj j_and nx K L st σ
  | .lor => t_binj j_or nx K L st σ
  | .lxor => t_binj j_xor nx K L st σ
  | .lshl => t_shj j_shl nx K L st σ
  | .lushr => t_shj j_ushr nx K L st σ
  | .i2l => t_i2j nx K L st σ
  | .l2i => t_j2i nx K L st σ
  | .lcmp => t_jcmp nx K L st σ
  | .dup => t_dup nx K L st σ
  | .dup2 => t_dup2 nx K L st σ
  | .pop => t_pop1 nx K L st σ
  | .ifCond c _ => t_if0 c ts nx K L st σ
  | .if_icmp c _ => t_if2 c ts nx K L st σ
  | .if_acmp c _ => t_ifh c ts nx K L st σ
  | .goto _ => t_jmp ts K L st σ
  | .tableswitch _ lo _ _ => t_sw (fun d os J x => t_tsw J x d lo os) ts K L st σ
  | .lookupswitch _ ps => t_sw (fun d os J x => t_lsw J x d ps.toList os) ts K L st σ
  | .getfield i => t_getf tb own i nx K L st σ
  | .putfield i => t_putf tb own i nx K L st σ
  | .iaload => t_ald tb 0 nx K L st σ
  | .baload => t_aldb tb nx K L st σ
  | .laload => t_aldj tb nx K L st σ
  | .aaload => t_aldh tb nx K L st σ
  | .iastore => t_ast tb 0 false nx K L st σ
  | .bastore => t_ast tb 1 true nx K L st σ
  | .lastore => t_astj tb nx K L st σ
  | .arraylength => t_alen tb nx K L st σ
  | .invokevirtual i => t_inv tb O own i nx K L st σ
  | .invokestatic i => t_inv tb O own i nx K L st σ
  | .ireturn => (match st with
    | [.inl x] => t_01 rb x (some (.inr (some (.inl x), σ)))
    | _ => none)
  | .lreturn => (match st with
    | [.inr (.inl x)] => some (.inr (some (.inr (.inl x)), σ))
    | _ => none)
  | .return_ => (match st with
    | [] => some (.inr (none, σ))
    | _ => none)
  | _ => none
-- a method: its class, whether its answer is a boolean, how many locals, its code, its stops with what lives there
abbrev TCode : Type := List (List (Nat × Instr × Nat × List Nat))
abbrev TMth : Type := Nat × Bool × Nat × TCode × List (Nat × List Bool)
def t_fet (c : TCode) (pc : Nat) : Option (Instr × Nat × List Nat) := match t_nth c (pc / 16) with
  | some l => t_look l pc
  | none => none
noncomputable def t_seg (tb : TTab) (mt : Nat → Option TMth) (O : TO) (k : Nat) : Nat → TK
  | 0, _, _, _, _ => none
  | n + 1, pc, L, st, σ => match mt k with
    | some (own, rb, _, code, stops) => (match t_fet code pc with
      | some (ins, nx, ts) => t_ins tb O own rb (fun pc' L' st' σ' => match t_look stops pc' with
        | some ms => some (.inl (pc', t_mask ms L', st', σ'))
        | none => t_seg tb mt O k n pc' L' st' σ') ins nx ts L st σ
      | none => none)
    | none => none
noncomputable def t_tr (tb : TTab) (mt : Nat → Option TMth) (O : TO) (k : Nat) : Nat → TK
  | 0, _, _, _, _ => none
  | n + 1, pc, L, st, σ => match t_seg tb mt O k 1000 pc L st σ with
    | some (.inl (pc', L', st', σ')) => t_tr tb mt O k n pc' L' st' σ'
    | some (.inr r) => some (.inr r)
    | none => none
def t_out : Option TRes → Option (Option TV × TM)
  | some (.inr r) => some r
  | _ => none
def t_cpy (σ : TM) (k i a k' i' b n : Nat) : TM := fun x y z => if x = k' ∧ y = i' ∧ b ≤ z ∧ z < b + n then σ k i (a + (z - b)) else σ x y z
def t_copy (tb : TTab) (as : List TV) (σ : TM) : Option (Option TV × TM) := match as with
  | [.inr (.inr (k, i)), .inl a, .inr (.inr (k', i')), .inl b, .inl n] => (match t_arr tb k, t_arr tb k' with
    | some (2, l), some (2, l') => if 0 ≤ a ∧ 0 ≤ b ∧ 0 ≤ n ∧ a + n ≤ l ∧ b + n ≤ l' then some (none, t_cpy σ k i a.toNat k' i' b.toNat n.toNat) else none
    | _, _ => none)
  | _ => none
noncomputable def t_run (tb : TTab) (mt : Nat → Option TMth) : Nat → TO
  | 0, _, _, _ => none
  | d + 1, k, as, σ => if k = 900 then t_copy tb as σ else match mt k with
    | some (_, _, nl, _, _) => cond (Nat.ble (t_cats as) nl) (t_out (t_tr tb mt (t_run tb mt d) k 1000000 0 (t_fill nl (t_args as)) [] σ)) none
    | none => none
