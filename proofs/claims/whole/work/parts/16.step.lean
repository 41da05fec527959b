-- one instruction, whichever
def dlit (i : Instr) : Bool := match i with
  | .iconst x => decide (-32768 ≤ x ∧ x < 32768)
  | .sipush x => decide (-32768 ≤ x ∧ x < 32768)
  | .bipush x => decide (-128 ≤ x ∧ x < 128)
  | _ => true
section INS
variable {p : Program} {l : Launch} {e : Env} {R : Room} {s : State} {m : MethodId} {args : Array Value} {below : List Frame} {meth : Method} {c : Code}
variable {D : va_G} {hs : List (Nat × Nat)} {ad : Nat → Nat → Nat} {ca : Nat → ClassId} {A : Nat → Prop} {nL : Nat} {Q : State → Prop} {Fn : Option TV → TM → Prop}
variable {K : TK} {res : TRes} {pc nx : Nat} {L : TL} {st : List TV} {σ : TM} {cc : ByteArray}

theorem g_ins (hx : p.tables.exec = Jvm.exec) (hb : c.code = cc) (hK : ∀ pc' L' st' σ', K pc' L' st' σ' = some res → Tg p l e R s m args below meth c D hs ad ca A nL Q Fn res pc' L' st' σ') {O : TO} {own d n : Nat} {rb : Bool} {ret : Option FieldType} {ins : Instr} {ts : List Nat} (hO : O = t_run tbl mtb d) (hml : c.maxLocals = nL) (hlocks : meth.locks = false) (hr : meth.sig.returnType = ret) (ht : HT args s) (hown : s.vm.findClass (cn own) = some m.cls) (hKt : va_K D vwCl (tyl ca) s) (hX : SX ad A s s.heap) (hA0 : ∀ q, s.heap.size ≤ q → A q) (hR : R = rmD (d + 1)) (hC : HC hs) (hCt : CtD l D hs ad ca d)
    (hFn : ∀ r σ', Fn r σ' → Q = MQ below (tQ D hs ad ca A r σ') args s 0 0 A)
    (hcopy : ∀ idx, decode cc pc = .ok (.invokestatic idx, 3) → nx = pc + 3 → (∃ k n rt vc, t_look (tb_m own) idx = some (k, n, rt, vc) ∧ npl k = false) → t_inv tbl (t_run tbl mtb d) own idx nx K L st σ = some res → Tg p l e R s m args below meth c D hs ad ca A nL Q Fn res pc L st σ)
    (hvtV : ∀ idx k n rt vc y b nl ret stt, ins = .invokevirtual idx → t_look (tb_m own) idx = some (k, n, rt, vc) → (npl k = true ∧ (mI k = some (y, b, nl, ret, stt) → stt = false)))
    (hvtS : ∀ idx k n rt vc y b nl ret stt, ins = .invokestatic idx → t_look (tb_m own) idx = some (k, n, rt, vc) → mI k = some (y, b, nl, ret, stt) → stt = true)
    (hd : decode cc pc = .ok (ins, n)) (hnx : nx = pc + n) (hdl : dl ins n = true) (hj : dj pc ins ts = true) (hdr : dr rb ret ins = true) (hlit : dlit ins = true) (h : t_ins tbl O own rb K ins nx ts L st σ = some res) : Tg p l e R s m args below meth c D hs ad ca A nL Q Fn res pc L st σ := by
  subst hO
  cases ins
  case iconst x =>
    have hn : n = 1 := Nat.eq_of_beq_eq_true hdl
    subst hn
    exact g_iconst hx hb hK hd hnx (of_decide_eq_true hlit) h
  case bipush x =>
    have hn : n = 2 := Nat.eq_of_beq_eq_true hdl
    subst hn
    exact g_bipush hx hb hK hd hnx (of_decide_eq_true hlit) h
  case sipush x =>
    have hn : n = 3 := Nat.eq_of_beq_eq_true hdl
    subst hn
    exact g_sipush hx hb hK hd hnx (of_decide_eq_true hlit) h
  case lconst x =>
    have hn : n = 1 := Nat.eq_of_beq_eq_true hdl
    subst hn
    exact g_lconst hx hb hK hd hnx h
  case ldc x =>
    have hn : n = 2 := Nat.eq_of_beq_eq_true hdl
    subst hn
    exact g_ldc hx hb hK ht hown hX hd hnx h
  case ldc_w x =>
    have hn : n = 3 := Nat.eq_of_beq_eq_true hdl
    subst hn
    exact g_ldcw hx hb hK ht hown hd hnx h
  case ldc2_w x =>
    have hn : n = 3 := Nat.eq_of_beq_eq_true hdl
    subst hn
    exact g_ldc2 hx hb hK ht hown hd hnx h
  case getstatic x =>
    have hn : n = 3 := Nat.eq_of_beq_eq_true hdl
    subst hn
    exact g_gst hx hb hK ht hown hX hd hnx h
  case iload x =>
    have hn : n = 2 := Nat.eq_of_beq_eq_true hdl
    subst hn
    exact g_ldi hx hb hK (n := 0) (k := 0) (Or.inl ⟨hd, hnx⟩) h
  case iload_n x =>
    have hn : n = 1 := Nat.eq_of_beq_eq_true hdl
    subst hn
    exact g_ldi hx hb hK (n := 0) (Or.inr ⟨hd, hnx, rfl⟩) h
  case lload x =>
    have hn : n = 2 := Nat.eq_of_beq_eq_true hdl
    subst hn
    exact g_ldj hx hb hK (n := 0) (k := 0) (Or.inl ⟨hd, hnx⟩) h
  case lload_n x =>
    have hn : n = 1 := Nat.eq_of_beq_eq_true hdl
    subst hn
    exact g_ldj hx hb hK (n := 0) (Or.inr ⟨hd, hnx, rfl⟩) h
  case aload x =>
    have hn : n = 2 := Nat.eq_of_beq_eq_true hdl
    subst hn
    exact g_ldh hx hb hK (n := 0) (k := 0) (Or.inl ⟨hd, hnx⟩) h
  case aload_n x =>
    have hn : n = 1 := Nat.eq_of_beq_eq_true hdl
    subst hn
    exact g_ldh hx hb hK (n := 0) (Or.inr ⟨hd, hnx, rfl⟩) h
  case istore x =>
    have hn : n = 2 := Nat.eq_of_beq_eq_true hdl
    subst hn
    exact g_sti hx hb hK (k := 0) (Or.inl ⟨hd, hnx⟩) h
  case istore_n x =>
    have hn : n = 1 := Nat.eq_of_beq_eq_true hdl
    subst hn
    exact g_sti hx hb hK (Or.inr ⟨hd, hnx, rfl⟩) h
  case lstore x =>
    have hn : n = 2 := Nat.eq_of_beq_eq_true hdl
    subst hn
    exact g_stj hx hb hK (k := 0) (Or.inl ⟨hd, hnx⟩) h
  case lstore_n x =>
    have hn : n = 1 := Nat.eq_of_beq_eq_true hdl
    subst hn
    exact g_stj hx hb hK (Or.inr ⟨hd, hnx, rfl⟩) h
  case astore x =>
    have hn : n = 2 := Nat.eq_of_beq_eq_true hdl
    subst hn
    exact g_sth hx hb hK (k := 0) (Or.inl ⟨hd, hnx⟩) h
  case astore_n x =>
    have hn : n = 1 := Nat.eq_of_beq_eq_true hdl
    subst hn
    exact g_sth hx hb hK (Or.inr ⟨hd, hnx, rfl⟩) h
  case iinc x y =>
    have hn : n = 3 := Nat.eq_of_beq_eq_true hdl
    subst hn
    exact g_inc hx hb hK hd hnx h
  case iadd =>
    have hn : n = 1 := Nat.eq_of_beq_eq_true hdl
    subst hn
    exact g_iadd hx hb hK hd hnx h
  case isub =>
    have hn : n = 1 := Nat.eq_of_beq_eq_true hdl
    subst hn
    exact g_isub hx hb hK hd hnx h
  case imul =>
    have hn : n = 1 := Nat.eq_of_beq_eq_true hdl
    subst hn
    exact g_imul hx hb hK hd hnx h
  case idiv =>
    have hn : n = 1 := Nat.eq_of_beq_eq_true hdl
    subst hn
    exact g_idiv hx hb hK hd hnx h
  case irem =>
    have hn : n = 1 := Nat.eq_of_beq_eq_true hdl
    subst hn
    exact g_irem hx hb hK hd hnx h
  case ineg =>
    have hn : n = 1 := Nat.eq_of_beq_eq_true hdl
    subst hn
    exact g_ineg hx hb hK hd hnx h
  case iand =>
    have hn : n = 1 := Nat.eq_of_beq_eq_true hdl
    subst hn
    exact g_iand hx hb hK hd hnx h
  case ior =>
    have hn : n = 1 := Nat.eq_of_beq_eq_true hdl
    subst hn
    exact g_ior hx hb hK hd hnx h
  case ixor =>
    have hn : n = 1 := Nat.eq_of_beq_eq_true hdl
    subst hn
    exact g_ixor hx hb hK hd hnx h
  case ishl =>
    have hn : n = 1 := Nat.eq_of_beq_eq_true hdl
    subst hn
    exact g_ishl hx hb hK hd hnx h
  case ishr =>
    have hn : n = 1 := Nat.eq_of_beq_eq_true hdl
    subst hn
    exact g_ishr hx hb hK hd hnx h
  case iushr =>
    have hn : n = 1 := Nat.eq_of_beq_eq_true hdl
    subst hn
    exact g_iushr hx hb hK hd hnx h
  case i2b =>
    have hn : n = 1 := Nat.eq_of_beq_eq_true hdl
    subst hn
    exact g_i2b hx hb hK hd hnx h
  case i2s =>
    have hn : n = 1 := Nat.eq_of_beq_eq_true hdl
    subst hn
    exact g_i2s hx hb hK hd hnx h
  case i2c =>
    have hn : n = 1 := Nat.eq_of_beq_eq_true hdl
    subst hn
    exact g_i2c hx hb hK hd hnx h
  case ladd =>
    have hn : n = 1 := Nat.eq_of_beq_eq_true hdl
    subst hn
    exact g_ladd hx hb hK hd hnx h
  case lsub =>
    have hn : n = 1 := Nat.eq_of_beq_eq_true hdl
    subst hn
    exact g_lsub hx hb hK hd hnx h
  case lmul =>
    have hn : n = 1 := Nat.eq_of_beq_eq_true hdl
    subst hn
    exact g_lmul hx hb hK hd hnx h
  case land =>
    have hn : n = 1 := Nat.eq_of_beq_eq_true hdl
    subst hn
    exact g_land hx hb hK hd hnx h
  case lor =>
    have hn : n = 1 := Nat.eq_of_beq_eq_true hdl
    subst hn
    exact g_lor hx hb hK hd hnx h
  case lxor =>
    have hn : n = 1 := Nat.eq_of_beq_eq_true hdl
    subst hn
    exact g_lxor hx hb hK hd hnx h
  case lshl =>
    have hn : n = 1 := Nat.eq_of_beq_eq_true hdl
    subst hn
    exact g_lshl hx hb hK hd hnx h
  case lushr =>
    have hn : n = 1 := Nat.eq_of_beq_eq_true hdl
    subst hn
    exact g_lushr hx hb hK hd hnx h
  case i2l =>
    have hn : n = 1 := Nat.eq_of_beq_eq_true hdl
    subst hn
    exact g_i2l hx hb hK hd hnx h
  case l2i =>
    have hn : n = 1 := Nat.eq_of_beq_eq_true hdl
    subst hn
    exact g_l2i hx hb hK hd hnx h
  case lcmp =>
    have hn : n = 1 := Nat.eq_of_beq_eq_true hdl
    subst hn
    exact g_lcmp hx hb hK hd hnx h
  case dup =>
    have hn : n = 1 := Nat.eq_of_beq_eq_true hdl
    subst hn
    exact g_dup hx hb hK hd hnx h
  case dup2 =>
    have hn : n = 1 := Nat.eq_of_beq_eq_true hdl
    subst hn
    exact g_dup2 hx hb hK hd hnx h
  case pop =>
    have hn : n = 1 := Nat.eq_of_beq_eq_true hdl
    subst hn
    exact g_pop hx hb hK hd hnx h
  case ifCond x y =>
    have hn : n = 3 := Nat.eq_of_beq_eq_true hdl
    subst hn
    exact g_if0 hx hb hK hd hnx hj h
  case if_icmp x y =>
    have hn : n = 3 := Nat.eq_of_beq_eq_true hdl
    subst hn
    exact g_if2 hx hb hK hd hnx hj h
  case if_acmp x y =>
    have hn : n = 3 := Nat.eq_of_beq_eq_true hdl
    subst hn
    exact g_ifh hx hb hK hC hd hnx hj h
  case goto x =>
    have hn : n = 3 := Nat.eq_of_beq_eq_true hdl
    subst hn
    exact g_goto hx hb hK hd hj h
  case tableswitch a b c1 d1 => exact g_tsw hx hb hK hd hj h
  case lookupswitch a b => exact g_lsw hx hb hK hd hj h
  case getfield x =>
    have hn : n = 3 := Nat.eq_of_beq_eq_true hdl
    subst hn
    exact g_getf hx hb hK ht hown hKt hC hX hd hnx h
  case putfield x =>
    have hn : n = 3 := Nat.eq_of_beq_eq_true hdl
    subst hn
    exact g_putf hx hb hK ht hown hKt hC hd hnx h
  case iaload =>
    have hn : n = 1 := Nat.eq_of_beq_eq_true hdl
    subst hn
    exact g_iald hx hb hK hKt hd hnx h
  case baload =>
    have hn : n = 1 := Nat.eq_of_beq_eq_true hdl
    subst hn
    exact g_bald hx hb hK hKt hC hX hd hnx h
  case laload =>
    have hn : n = 1 := Nat.eq_of_beq_eq_true hdl
    subst hn
    exact g_lald hx hb hK hKt hd hnx h
  case aaload =>
    have hn : n = 1 := Nat.eq_of_beq_eq_true hdl
    subst hn
    exact g_aald hx hb hK hKt hC hd hnx h
  case iastore =>
    have hn : n = 1 := Nat.eq_of_beq_eq_true hdl
    subst hn
    exact g_iast hx hb hK hKt hC hd hnx h
  case bastore =>
    have hn : n = 1 := Nat.eq_of_beq_eq_true hdl
    subst hn
    exact g_bast hx hb hK hKt hC hd hnx h
  case lastore =>
    have hn : n = 1 := Nat.eq_of_beq_eq_true hdl
    subst hn
    exact g_last hx hb hK hKt hC hd hnx h
  case arraylength =>
    have hn : n = 1 := Nat.eq_of_beq_eq_true hdl
    subst hn
    exact g_alen hx hb hK hKt hC hX hd hnx h
  case invokevirtual x =>
    have hn : n = 3 := Nat.eq_of_beq_eq_true hdl
    subst hn
    exact g_inv (vt := true) hx hb hK hml ht hown hKt hX hA0 hR hC hCt (fun k n rt vc q => (hvtV x k n rt vc ⟨"", "", ""⟩ ⟨#[]⟩ 0 none true rfl q).1) (fun k n rt vc y b nl ret stt q1 q2 => by rw [(hvtV x k n rt vc y b nl ret stt rfl q1).2 q2]; rfl) hd hnx h
  case invokestatic x =>
    have hn : n = 3 := Nat.eq_of_beq_eq_true hdl
    subst hn
    by_cases h9 : ∃ k n rt vc, t_look (tb_m own) x = some (k, n, rt, vc) ∧ npl k = false
    · exact hcopy x hd hnx h9 h
    · exact g_inv (vt := false) hx hb hK hml ht hown hKt hX hA0 hR hC hCt (fun k n rt vc q => by
        cases hq : npl k with
        | true => rfl
        | false => exact absurd ⟨k, n, rt, vc, q, hq⟩ h9) (fun k n rt vc y b nl ret stt q1 q2 => by rw [hvtS x k n rt vc y b nl ret stt rfl q1 q2]; rfl) hd hnx h
  case ireturn =>
    have hn : n = 1 := Nat.eq_of_beq_eq_true hdl
    subst hn
    exact g_ireturn (rb := rb) (ret := ret) hx hb hlocks hr hFn hd hdr h
  case lreturn =>
    have hn : n = 1 := Nat.eq_of_beq_eq_true hdl
    subst hn
    exact g_lreturn (rb := rb) (ret := ret) hx hb hlocks hr hFn hd hdr h
  case return_ =>
    have hn : n = 1 := Nat.eq_of_beq_eq_true hdl
    subst hn
    exact g_vreturn (rb := rb) (ret := ret) hx hb hlocks hr hFn hd hdr h
  all_goals (exact absurd h (by simp [t_ins]))
end INS
