-- calls
def rmD (d : Nat) : Room := { frames := d, cells := 0, slots := 0, locals := 64 * d }
def tPc (D : va_G) (hs : List (Nat × Nat)) (ad : Nat → Nat → Nat) (ca : Nat → ClassId) (σ : TM) (as : List TV) (sz : Nat) : Array Value → State → Prop := va_Pc (as.map (t_cv ad)) (fun U => U.heap.size = sz ∧ va_P D vwCl (wsl hs ad ca σ) U.heap ∧ va_K D vwCl (tyl ca) U ∧ va_D (fun _ => True) (wsl hs ad ca σ) ∧ SX ad (va_A (wsl hs ad ca σ) sz) U U.heap)
/-- the methods called by contract: not arraycopy, not Math's three -/
def npl (k : Nat) : Bool := !(Nat.beq k 900 || (Nat.beq k 250 || (Nat.beq k 251 || Nat.beq k 252)))
theorem npl_9 {k : Nat} (h : npl k = true) : k ≠ 900 := fun q => by rw [q] at h; cases h
theorem npl_no {k : Nat} (h : npl k = false) : k = 900 ∨ k = 250 ∨ k = 251 ∨ k = 252 := by
  simp only [npl, Bool.not_eq_false', Bool.or_eq_true] at h
  rcases h with h | h | h | h
  · exact Or.inl (Nat.eq_of_beq_eq_true h)
  · exact Or.inr (Or.inl (Nat.eq_of_beq_eq_true h))
  · exact Or.inr (Or.inr (Or.inl (Nat.eq_of_beq_eq_true h)))
  · exact Or.inr (Or.inr (Or.inr (Nat.eq_of_beq_eq_true h)))
/-- all methods' contracts at depth d -/
def CtD (l : Launch) (D : va_G) (hs : List (Nat × Nat)) (ad : Nat → Nat → Nat) (ca : Nat → ClassId) (d : Nat) : Prop := ∀ (k : Nat) (as : List TV) (σ : TM) (r : Option TV) (σ' : TM), npl k = true → t_run tbl mtb d k as σ = some (r, σ') → (∀ v ∈ as, OkV hs v) → OkM σ →
  ∀ (y : MethodName) (b : ByteArray) (nl : Nat) (ret : Option FieldType) (stt : Bool), mI k = some (y, b, nl, ret, stt) → ∀ sz : Nat, Met l y (.code y b nl ret :: gw) (rmD d) (tPc D hs ad ca σ as sz) (tQ D hs ad ca (va_A (wsl hs ad ca σ) sz) r σ') 0 0 (va_A (wsl hs ad ca σ) sz)
def vnm (vc : Nat) : String := if vc = 13 then RJ0 else cn vc
def mchk (e : Nat × (Nat × Nat × Nat × Nat)) : Bool := Nat.beq e.2.1 900 || (match mI e.2.1 with
  | none => false
  | some (y, _, nl, _, stt) => decide (y.cls ≠ "java/lang/invoke/MethodHandle") && decide (y.cls ≠ "java/lang/invoke/VarHandle") && Nat.ble nl 40 && (match (parseMethodDescriptor y.desc).map (fun d => d.parameters.length) with
    | some n => (match stt with
      | true => Nat.beq e.2.2.1 n && Nat.beq e.2.2.2.2 99
      | false => Nat.beq e.2.2.1 (n + 1) && Nat.ble e.2.2.2.2 13 && decide (vnm e.2.2.2.2 = y.cls))
    | none => false))
theorem mchk_all : ((List.range 18).all fun o => (tb_m o).all mchk) = true := by decide +kernel
theorem SX.blind {ad : Nat → Nat → Nat} {A : Nat → Prop} {U : State} {g : JFrame} {mk : MethodId} {a : Array Value} (h : SX ad A U U.heap) : SX ad A (U.calling g mk a) (U.calling g mk a).heap := by
  obtain ⟨x1, x2, x3, x4, x5, x6, x7⟩ := h
  have e : U.vm.Alike (U.calling g mk a).vm := Vm.Alike.refl U.vm
  exact ⟨vk_R.same rfl x1, va_Z.moved e x2, va_O.moved e x3, va_OF.moved e x4, va_OF.moved e x5, va_T.moved e x6, va_Nw.same rfl rfl x7⟩
theorem SX.call {ad : Nat → Nat → Nat} {A A1 : Nat → Prop} {s U : State} {H : Heap} {locs : List Loc} (h : SX ad A s s.heap) (hS : va_S A s.heap H locs) (hA : ∀ q, A1 q → A q) (hU : U.heap = H) (hW : s.WarmedH U.vm) : SX ad A1 U U.heap := by
  obtain ⟨x1, x2, x3, x4, x5, x6, x7⟩ := h
  rw [hU]
  have e := hW.alike
  exact ⟨vk_R.warm hW x1, ((va_Z.moved e x2).kept hS.2.1).narrow hA, ((va_O.moved e x3).kept hS.2.1).narrow hA, ((va_OF.moved e x4).kept hS.2.1).narrow hA, ((va_OF.moved e x5).kept hS.2.1).narrow hA, ((va_T.moved e x6).kept hS.2.1).narrow hA, va_Nw.warmM hW x7⟩
theorem t_pop_ok : ∀ (n : Nat) (acc st as r : List TV), t_pop n acc st = some (as, r) → ∃ xs : List TV, st = xs ++ r ∧ as = xs.reverse ++ acc ∧ xs.length = n
  | 0, acc, st, as, r, h => by
    simp only [t_pop, Option.some.injEq, Prod.mk.injEq] at h
    exact ⟨[], by rw [h.2]; rfl, by rw [← h.1]; rfl, rfl⟩
  | n + 1, acc, [], as, r, h => by simp [t_pop] at h
  | n + 1, acc, v :: st, as, r, h => by
    obtain ⟨xs, h1, h2, h3⟩ := t_pop_ok n (v :: acc) st as r h
    exact ⟨v :: xs, by rw [h1]; rfl, by rw [h2]; simp, by simp [h3]⟩
theorem cats_ok (ad : Nat → Nat → Nat) : ∀ r : List TV, ((r.map (t_cv ad)).map fun v => v.category).sum = t_cats r
  | [] => rfl
  | .inl x :: r => by
    have := cats_ok ad r
    simp only [List.map_cons, List.sum_cons, this]
    rfl
  | .inr (.inl x) :: r => by
    have := cats_ok ad r
    simp only [List.map_cons, List.sum_cons, this]
    rfl
  | .inr (.inr x) :: r => by
    have := cats_ok ad r
    simp only [List.map_cons, List.sum_cons, this]
    rfl
theorem tb_m_big {own : Nat} (h : 18 ≤ own) : tb_m own = [] := by
  unfold tb_m
  have : ∀ (l : List (List (Nat × (Nat × Nat × Nat × Nat)))) (k : Nat), l.length ≤ k → t_nth l k = none := by
    intro l
    induction l with
    | nil => intro k _; rfl
    | cons a l ih =>
      intro k hk
      cases k with
      | zero => simp at hk
      | succ k => exact ih k (by simpa using hk)
  rw [this _ _ (by simpa using h)]
  rfl
theorem lnk_at {own idx : Nat} {x : Nat × Nat × Nat × Nat} (h : t_look (tb_m own) idx = some x) : mchk (idx, x) = true ∧ ∀ w, lk own (idx, x) = some w → w ∈ lw_tbl := by
  have hm := t_look_mem _ _ _ h
  have ho : own < 18 := by
    rcases Nat.lt_or_ge own 18 with q | q
    · exact q
    · rw [tb_m_big q] at hm; cases hm
  refine ⟨List.all_eq_true.mp (List.all_eq_true.mp mchk_all own (List.mem_range.mpr ho)) _ hm, fun w hw => ?_⟩
  match own, ho with
  | 0, _ => exact mapq lk_0 hm hw
  | 1, _ => exact mapq lk_1 hm hw
  | 2, _ => exact mapq lk_2 hm hw
  | 3, _ => exact mapq lk_3 hm hw
  | 4, _ => exact mapq lk_4 hm hw
  | 5, _ => exact mapq lk_5 hm hw
  | 6, _ => exact mapq lk_6 hm hw
  | 7, _ => exact mapq lk_7 hm hw
  | 8, _ => exact mapq lk_8 hm hw
  | 9, _ => exact mapq lk_9 hm hw
  | 10, _ => exact mapq lk_10 hm hw
  | 11, _ => exact mapq lk_11 hm hw
  | 12, _ => exact mapq lk_12 hm hw
  | 13, _ => exact mapq lk_13 hm hw
  | 14, _ => exact mapq lk_14 hm hw
  | 15, _ => exact mapq lk_15 hm hw
  | 16, _ => exact mapq lk_16 hm hw
  | 17, _ => exact mapq lk_17 hm hw
  | o + 18, h => exact absurd h (by omega)
theorem mI_lt {k : Nat} {q : MethodName × ByteArray × Nat × Option FieldType × Bool} (h : mI k = some q) : k < mIs.length := by
  exact t_nth_lt _ _ _ h
theorem mw_in {k : Nat} {q : MethodName × ByteArray × Nat × Option FieldType × Bool} (h : mI k = some q) {w : Cond} (hw : some w ∈ mw k) : w ∈ lw_tbl := by
  obtain ⟨qs, hq⟩ := mw_all k (mI_lt h)
  rw [hq] at hw
  obtain ⟨z, -, hz⟩ := List.mem_map.mp hw
  exact lw_at_mem hz
theorem mw_code {k : Nat} {y : MethodName} {b : ByteArray} {nl : Nat} {ret : Option FieldType} {stt : Bool} (h : mI k = some (y, b, nl, ret, stt)) : Cond.code y b nl ret ∈ lw_tbl ∧ Cond.initialized y.cls ∈ lw_tbl ∧ (stt = true → Cond.static y ∈ lw_tbl) ∧ (stt = false → Cond.instanceMethod y ∈ lw_tbl ∧ Cond.selects y.cls y y ∈ lw_tbl) := by
  cases stt with
  | true =>
    have e : mw k = [some (.code y b nl ret), some (.static y), some (.initialized y.cls)] := by
      simp only [mw, h]
    exact ⟨mw_in h (by rw [e]; simp), mw_in h (by rw [e]; simp), fun _ => mw_in h (by rw [e]; simp), fun q => by cases q⟩
  | false =>
    have e : mw k = [some (.code y b nl ret), some (.instanceMethod y), some (.selects y.cls y y), some (.initialized y.cls)] := by
      simp only [mw, h]
    exact ⟨mw_in h (by rw [e]; simp), mw_in h (by rw [e]; simp), (fun q => by cases q), fun _ => ⟨mw_in h (by rw [e]; simp), mw_in h (by rw [e]; simp)⟩⟩
section INS
variable {p : Program} {l : Launch} {e : Env} {R : Room} {s : State} {m : MethodId} {args : Array Value} {below : List Frame} {meth : Method} {c : Code}
variable {D : va_G} {hs : List (Nat × Nat)} {ad : Nat → Nat → Nat} {ca : Nat → ClassId} {A : Nat → Prop} {nL : Nat} {Q : State → Prop} {Fn : Option TV → TM → Prop}
variable {K : TK} {res : TRes} {pc nx : Nat} {L : TL} {st : List TV} {σ : TM} {cc : ByteArray}

/-- what a call needs of its start -/
theorem pre_ok {as : List TV} {H : Heap} {locs : List Loc} {A1 : Nat → Prop} (hA1 : A1 = va_A (wsl hs ad ca σ) H.size) (hKt : va_K D vwCl (tyl ca) s) (hP : va_P D vwCl (wsl hs ad ca σ) H) (hD : va_D A (wsl hs ad ca σ)) (hS : va_S A s.heap H locs) (hX : SX ad A s s.heap) (hA : ∀ q, A1 q → A q) : FrameBlind (tPc D hs ad ca σ as H.size) ∧ ∀ U : State, U.heap = H → s.WarmedH U.vm → tPc D hs ad ca σ as H.size (as.map (t_cv ad)).toArray U := by
  subst hA1
  refine ⟨fun a U g mk q => ?_, fun U hU hW => ⟨rfl, by rw [hU], by rw [hU]; exact hP, va_K.moved hW.alike hKt, hD.weaken (fun _ _ _ _ => trivial), hX.call hS hA hU hW⟩⟩
  obtain ⟨q0, q1, q2, q3, q4, q5⟩ := q
  exact ⟨q0, q1, q2, va_K.moved (u := U) (U := U.calling g mk a) (Vm.Alike.refl U.vm) q3, q4, q5.blind⟩
end INS
