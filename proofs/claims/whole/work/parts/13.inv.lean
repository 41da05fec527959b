-- constants, references compared, returns, calls
def gw : List Cond := lw_tbl.filter goodWord
theorem gw_in {w : Cond} (h : w ∈ lw_tbl) (g : goodWord w = true) : w ∈ gw := List.mem_filter.mpr ⟨h, g⟩
theorem gw_good {ws : List Cond} (h : ∀ w ∈ ws, w ∈ gw) : GoodIn gw ws := fun w hw => ⟨h w hw, good_of_word (List.mem_filter.mp (h w hw)).2⟩
theorem HT.ws {args : Array Value} {s : State} (h : HT args s) : ∀ w ∈ gw, w.before args s = true := fun w hw => h w (List.mem_filter.mp hw).1 (List.mem_filter.mp hw).2
def cchk (own : Nat) (e : Nat × TV) : Bool := match e.2 with
  | .inl x => decide (-2147483648 ≤ x) && decide (x ≤ 2147483647) && !(Nat.beq own 16)
  | .inr (.inl x) => decide (-9223372036854775808 ≤ x) && decide (x ≤ 9223372036854775807) && !(Nat.beq own 16)
  | .inr (.inr h) => Nat.beq own 9 && Nat.beq e.1 67 && decide (h = (119, 0))
theorem cchk_all : ((List.range 18).all fun o => (tb_c o).all (cchk o)) = true := by decide +kernel
theorem tb_c_big {own : Nat} (h : 18 ≤ own) : tb_c own = [] := by
  unfold tb_c
  have : ∀ (l : List (List (Nat × TV))) (k : Nat), l.length ≤ k → t_nth l k = none := by
    intro l
    induction l with
    | nil => intro k _; rfl
    | cons a l ih =>
      intro k hk
      cases k with
      | zero => simp at hk
      | succ k => exact ih k (by simpa using hk)
  rw [this _ _ (by simpa using h)]
  rfl
theorem con_at {own idx : Nat} {v : TV} (h : t_look (tb_c own) idx = some v) : cchk own (idx, v) = true ∧ ∀ w, kw own (idx, v) = some w → w ∈ lw_tbl := by
  have hm := t_look_mem _ _ _ h
  have ho : own < 18 := by
    rcases Nat.lt_or_ge own 18 with q | q
    · exact q
    · rw [tb_c_big q] at hm; cases hm
  refine ⟨List.all_eq_true.mp (List.all_eq_true.mp cchk_all own (List.mem_range.mpr ho)) _ hm, fun w hw => ?_⟩
  match own, ho with
  | 0, _ => exact mapq kw_0 hm hw
  | 1, _ => exact mapq kw_1 hm hw
  | 2, _ => exact mapq kw_2 hm hw
  | 3, _ => exact mapq kw_3 hm hw
  | 4, _ => exact mapq kw_4 hm hw
  | 5, _ => exact mapq kw_5 hm hw
  | 6, _ => exact mapq kw_6 hm hw
  | 7, _ => exact mapq kw_7 hm hw
  | 8, _ => exact mapq kw_8 hm hw
  | 9, _ => exact mapq kw_9 hm hw
  | 10, _ => exact mapq kw_10 hm hw
  | 11, _ => exact mapq kw_11 hm hw
  | 12, _ => exact mapq kw_12 hm hw
  | 13, _ => exact mapq kw_13 hm hw
  | 14, _ => exact mapq kw_14 hm hw
  | 15, _ => exact mapq kw_15 hm hw
  | 16, _ => exact mapq kw_16 hm hw
  | 17, _ => exact mapq kw_17 hm hw
  | o + 18, h => exact absurd h (by omega)
section INS
variable {p : Program} {l : Launch} {e : Env} {R : Room} {s : State} {m : MethodId} {args : Array Value} {below : List Frame} {meth : Method} {c : Code}
variable {D : va_G} {hs : List (Nat × Nat)} {ad : Nat → Nat → Nat} {ca : Nat → ClassId} {A : Nat → Prop} {nL : Nat} {Q : State → Prop} {Fn : Option TV → TM → Prop}
variable {K : TK} {res : TRes} {pc nx : Nat} {L : TL} {st : List TV} {σ : TM} {cc : ByteArray}

theorem con_i {own idx : Nat} {x : Int} (h : t_look (tb_c own) idx = some (.inl x)) : R32 x ∧ Cond.constant (cn own) idx (Int32.ofInt x) ∈ lw_tbl := by
  obtain ⟨h1, h2⟩ := con_at h
  simp only [cchk, Bool.and_eq_true, decide_eq_true_eq, Bool.not_eq_true'] at h1
  refine ⟨⟨h1.1.1, h1.1.2⟩, h2 _ ?_⟩
  unfold kw
  rw [if_neg (fun q => by rw [q] at h1; cases h1.2)]
theorem con_j {own idx : Nat} {x : Int} (h : t_look (tb_c own) idx = some (.inr (.inl x))) : R64 x ∧ Cond.constantLong (cn own) idx (Int64.ofInt x) ∈ lw_tbl := by
  obtain ⟨h1, h2⟩ := con_at h
  simp only [cchk, Bool.and_eq_true, decide_eq_true_eq, Bool.not_eq_true'] at h1
  refine ⟨⟨h1.1.1, h1.1.2⟩, h2 _ ?_⟩
  unfold kw
  rw [if_neg (fun q => by rw [q] at h1; cases h1.2)]
theorem g_ldc (hx : p.tables.exec = Jvm.exec) (hb : c.code = cc) (hK : ∀ pc' L' st' σ', K pc' L' st' σ' = some res → Tg p l e R s m args below meth c D hs ad ca A nL Q Fn res pc' L' st' σ') {own idx : Nat} (ht : HT args s) (hown : s.vm.findClass (cn own) = some m.cls) (hX : SX ad A s s.heap) (hd : decode cc pc = .ok (.ldc idx, 2)) (hnx : nx = pc + 2) (h : t_ldc tbl own idx nx K L st σ = some res) : Tg p l e R s m args below meth c D hs ad ca A nL Q Fn res pc L st σ := by
  subst hnx
  unfold t_ldc at h
  split at h
  · next x hl =>
    obtain ⟨h1, h2⟩ := con_i hl
    exact g_st hK h (fun ok => OkT.cons h1 ok.2.2) (fun ok ls H locs lr k => lv_ldc hx hb hown (ht _ h2 rfl) hd k)
  · next q hl =>
    obtain ⟨h1, -⟩ := con_at hl
    simp only [cchk, Bool.and_eq_true, decide_eq_true_eq] at h1
    obtain ⟨⟨e1, e2⟩, rfl⟩ := h1
    have e1 := Nat.eq_of_beq_eq_true e1
    have e2 := Nat.eq_of_beq_eq_true e2
    subst e1
    have e2 : idx = 67 := e2
    subst e2
    exact g_st hK h (fun ok => OkT.cons (Or.inr (Or.inl rfl)) ok.2.2) (fun ok ls H locs lr k => va_ldcS hx hb hown hX.1 hd k)
  · cases h
theorem g_ldcw (hx : p.tables.exec = Jvm.exec) (hb : c.code = cc) (hK : ∀ pc' L' st' σ', K pc' L' st' σ' = some res → Tg p l e R s m args below meth c D hs ad ca A nL Q Fn res pc' L' st' σ') {own idx : Nat} (ht : HT args s) (hown : s.vm.findClass (cn own) = some m.cls) (hd : decode cc pc = .ok (.ldc_w idx, 3)) (hnx : nx = pc + 3) (h : t_ldcw tbl own idx nx K L st σ = some res) : Tg p l e R s m args below meth c D hs ad ca A nL Q Fn res pc L st σ := by
  subst hnx
  unfold t_ldcw at h
  split at h
  · next x hl =>
    obtain ⟨h1, h2⟩ := con_i hl
    exact g_st hK h (fun ok => OkT.cons h1 ok.2.2) (fun ok ls H locs lr k => lv_ldcw hx hb hown (ht _ h2 rfl) hd k)
  · cases h
theorem g_ldc2 (hx : p.tables.exec = Jvm.exec) (hb : c.code = cc) (hK : ∀ pc' L' st' σ', K pc' L' st' σ' = some res → Tg p l e R s m args below meth c D hs ad ca A nL Q Fn res pc' L' st' σ') {own idx : Nat} (ht : HT args s) (hown : s.vm.findClass (cn own) = some m.cls) (hd : decode cc pc = .ok (.ldc2_w idx, 3)) (hnx : nx = pc + 3) (h : t_ldc2 tbl own idx nx K L st σ = some res) : Tg p l e R s m args below meth c D hs ad ca A nL Q Fn res pc L st σ := by
  subst hnx
  unfold t_ldc2 at h
  split at h
  · next x hl =>
    obtain ⟨h1, h2⟩ := con_j hl
    exact g_st hK h (fun ok => OkT.cons h1 ok.2.2) (fun ok ls H locs lr k => lv_ldc2 hx hb hown (ht _ h2 rfl) hd k)
  · cases h
theorem g_gst (hx : p.tables.exec = Jvm.exec) (hb : c.code = cc) (hK : ∀ pc' L' st' σ', K pc' L' st' σ' = some res → Tg p l e R s m args below meth c D hs ad ca A nL Q Fn res pc' L' st' σ') {own idx : Nat} (ht : HT args s) (hown : s.vm.findClass (cn own) = some m.cls) (hX : SX ad A s s.heap) (hd : decode cc pc = .ok (.getstatic idx, 3)) (hnx : nx = pc + 3) (h : t_gst own idx nx K L st σ = some res) : Tg p l e R s m args below meth c D hs ad ca A nL Q Fn res pc L st σ := by
  subst hnx
  unfold t_gst at h
  cases hq : (Nat.beq own 16 && Nat.beq idx 38) with
  | false => rw [hq] at h; cases h
  | true =>
    rw [hq] at h
    rw [Bool.and_eq_true] at hq
    have e1 := Nat.eq_of_beq_eq_true hq.1
    have e2 := Nat.eq_of_beq_eq_true hq.2
    subst e1; subst e2
    exact g_rd hK h (fun ok => OkT.cons (show R32 1 from ⟨by decide, by decide⟩) ok.2.2) (fun ok ls H locs lr hP hS k => va_gets hx hb hX.2.1 hS hown (ht _ wJ.2.2 rfl) (fun x hx => hx) hd k)
theorem g_ifh (hx : p.tables.exec = Jvm.exec) (hb : c.code = cc) (hK : ∀ pc' L' st' σ', K pc' L' st' σ' = some res → Tg p l e R s m args below meth c D hs ad ca A nL Q Fn res pc' L' st' σ') {cd : ClassFile.ACond} {off : Int} {ts : List Nat} (hC : HC hs) (hd : decode cc pc = .ok (.if_acmp cd off, 3)) (hnx : nx = pc + 3) (hj : dj pc (.if_acmp cd off) ts = true) (h : t_ifh cd ts nx K L st σ = some res) : Tg p l e R s m args below meth c D hs ad ca A nL Q Fn res pc L st σ := by
  subst hnx
  obtain ⟨t, rfl, htg⟩ := dj1_ok hj
  unfold t_ifh at h
  split at h
  · next h2 h1 r =>
    cases hq : (Nat.blt h1.1 119 && Nat.blt h2.1 119) with
    | false => rw [hq] at h; cases h
    | true =>
      rw [hq] at h
      rw [Bool.and_eq_true] at hq
      have l1 : h1.1 + 1 ≤ 119 := by simpa [Nat.blt] using hq.1
      have l2 : h2.1 + 1 ≤ 119 := by simpa [Nat.blt] using hq.2
      have inj : OkS hs σ L (.inr (.inr h2) :: .inr (.inr h1) :: r) → va_D A (wsl hs ad ca σ) → (some (ad h1.1 h1.2) = some (ad h2.1 h2.2) ↔ h1.1 = h2.1 ∧ h1.2 = h2.2) := by
        intro ok hD
        have m1 : h1 ∈ hs := by
          rcases ok.2.2.tl.hd with q | q | q
          · exact q
          · rw [q] at l1; omega
          · rw [q] at l1; omega
        have m2 : h2 ∈ hs := by
          rcases ok.2.2.hd with q | q | q
          · exact q
          · rw [q] at l2; omega
          · rw [q] at l2; omega
        obtain ⟨q1, a1, b1⟩ := wsl_at (ad := ad) (ca := ca) (σ := σ) m1
        obtain ⟨q2, a2, b2⟩ := wsl_at (ad := ad) (ca := ca) (σ := σ) m2
        constructor
        · intro e
          have := hD.1 q1 q2 _ _ b1 b2 (Option.some.inj e)
          subst this
          have e3 := Option.some.inj (a1.symm.trans a2)
          rw [e3]; exact ⟨rfl, rfl⟩
        · intro e
          rw [e.1, e.2]
      cases cd with
      | eq =>
        simp only [cond_true] at h
        split at h
        · next hc =>
          refine g_wr (st' := r) hK h (fun ok => ⟨ok.2.2.tl.tl, ok.1⟩) (fun ok ls H locs lr hP hD hS kk => ?_)
          exact lv_acmp_eq (rx := some (ad h1.1 h1.2)) (ry := some (ad h2.1 h2.2)) hx hb hd htg (fun _ => kk H locs hP hD hS) (fun q => absurd ((inj ok hD).mpr hc) q)
        · next hc =>
          refine g_wr (st' := r) hK h (fun ok => ⟨ok.2.2.tl.tl, ok.1⟩) (fun ok ls H locs lr hP hD hS kk => ?_)
          exact lv_acmp_eq (rx := some (ad h1.1 h1.2)) (ry := some (ad h2.1 h2.2)) hx hb hd htg (fun q => absurd ((inj ok hD).mp q) hc) (fun _ => kk H locs hP hD hS)
      | ne =>
        simp only [cond_true] at h
        split at h
        · next hc =>
          refine g_wr (st' := r) hK h (fun ok => ⟨ok.2.2.tl.tl, ok.1⟩) (fun ok ls H locs lr hP hD hS kk => ?_)
          exact lv_acmp_ne (rx := some (ad h1.1 h1.2)) (ry := some (ad h2.1 h2.2)) hx hb hd htg (fun q => absurd ((inj ok hD).mpr hc) q) (fun _ => kk H locs hP hD hS)
        · next hc =>
          refine g_wr (st' := r) hK h (fun ok => ⟨ok.2.2.tl.tl, ok.1⟩) (fun ok ls H locs lr hP hD hS kk => ?_)
          exact lv_acmp_ne (rx := some (ad h1.1 h1.2)) (ry := some (ad h2.1 h2.2)) hx hb hd htg (fun _ => kk H locs hP hD hS) (fun q => absurd ((inj ok hD).mp q) hc)
  · cases h
/-- a method's end: the picture of σ', and its answer -/
def tQ (D : va_G) (hs : List (Nat × Nat)) (ad : Nat → Nat → Nat) (ca : Nat → ClassId) (A : Nat → Prop) (r : Option TV) (σ' : TM) : Array Value → State → Outcome → State → Prop := match r with
  | none => va_Qv (fun _ : Unit => True) (fun _ t => va_P D vwCl (wsl hs ad ca σ') t.heap ∧ va_D A (wsl hs ad ca σ') ∧ OkM σ') A
  | some (.inl x) => va_Qi (fun v (_ : Unit) => v = Int32.ofInt x ∧ R32 x) (fun _ t => va_P D vwCl (wsl hs ad ca σ') t.heap ∧ va_D A (wsl hs ad ca σ') ∧ OkM σ') A
  | some (.inr (.inl x)) => va_Ql (fun v (_ : Unit) => v = Int64.ofInt x ∧ R64 x) (fun _ t => va_P D vwCl (wsl hs ad ca σ') t.heap ∧ va_D A (wsl hs ad ca σ') ∧ OkM σ') A
  | some (.inr (.inr _)) => fun _ _ _ _ => False
theorem dr_i {rb : Bool} {ret : Option FieldType} (h : dr rb ret .ireturn = true) : rb = true ∧ (ret = some .boolean ∨ ret = some .byte) ∨ rb = false ∧ ret = some .int := by
  cases rb <;> rcases ret with _ | ty <;> first | (cases ty <;> simp_all [dr]) | simp_all [dr]
theorem g_ireturn {rb : Bool} {ret : Option FieldType} (hx : p.tables.exec = Jvm.exec) (hb : c.code = cc) (hlocks : meth.locks = false) (hr : meth.sig.returnType = ret) (hFn : ∀ r σ', Fn r σ' → Q = MQ below (tQ D hs ad ca A r σ') args s 0 0 A)
    (hd : decode cc pc = .ok (.ireturn, 1)) (hdr : dr rb ret .ireturn = true) (h : (match st with | [.inl x] => t_01 rb x (some (.inr (some (.inl x), σ))) | _ => none) = some res) : Tg p l e R s m args below meth c D hs ad ca A nL Q Fn res pc L st σ := by
  split at h
  · next x =>
    have key : res = .inr (some (.inl x), σ) ∧ ∃ ty, ret = some ty ∧ narrow ty (.int (Int32.ofInt x)) = .int (Int32.ofInt x) := by
      unfold t_01 at h
      cases rb with
      | false =>
        simp only [cond_false, Option.some.injEq] at h
        rcases dr_i hdr with ⟨q, -⟩ | ⟨-, q⟩
        · cases q
        · exact ⟨h.symm, .int, q, rfl⟩
      | true =>
        simp only [cond_true] at h
        split at h
        · next hz =>
          rw [Option.some.injEq] at h
          refine ⟨h.symm, ?_⟩
          have hv : x = 0 ∨ x = 1 := by omega
          rcases dr_i hdr with ⟨-, q | q⟩ | ⟨q, -⟩
          · exact ⟨.boolean, q, (n_z x hz.1 hz.2).2⟩
          · exact ⟨.byte, q, by rcases hv with rfl | rfl <;> rfl⟩
          · cases q
        · cases h
    obtain ⟨rfl, ty, e1, e2⟩ := key
    intro ok
    refine fun hy ls H locs lr hP hD hS => ?_
    rw [hFn _ _ (hy ⟨ok.1, fun v hv => by cases hv; exact ok.2.2.hd⟩)]
    exact W.zret hx hb (hr.trans e1) e2 (fun t hT hW => ⟨⟨_, (), rfl, ⟨rfl, ok.2.2.hd⟩, by rw [hT]; exact hP, hD, ok.1⟩, hS.F hT⟩) hS.2.2 hd hlocks
  · cases h
theorem g_lreturn {rb : Bool} {ret : Option FieldType} (hx : p.tables.exec = Jvm.exec) (hb : c.code = cc) (hlocks : meth.locks = false) (hr : meth.sig.returnType = ret) (hFn : ∀ r σ', Fn r σ' → Q = MQ below (tQ D hs ad ca A r σ') args s 0 0 A)
    (hd : decode cc pc = .ok (.lreturn, 1)) (hdr : dr rb ret .lreturn = true) (h : (match st with | [.inr (.inl x)] => some (.inr (some (.inr (.inl x)), σ)) | _ => none) = some res) : Tg p l e R s m args below meth c D hs ad ca A nL Q Fn res pc L st σ := by
  split at h
  · next x =>
    cases h
    intro ok
    refine fun hy ls H locs lr hP hD hS => ?_
    rw [hFn _ _ (hy ⟨ok.1, fun v hv => by cases hv; exact ok.2.2.hd⟩)]
    exact W.lret hx hb (hr.trans (of_decide_eq_true hdr)) (fun t hT hW => ⟨⟨_, (), rfl, ⟨rfl, ok.2.2.hd⟩, by rw [hT]; exact hP, hD, ok.1⟩, hS.F hT⟩) hS.2.2 hd hlocks
  · cases h
theorem g_vreturn {rb : Bool} {ret : Option FieldType} (hx : p.tables.exec = Jvm.exec) (hb : c.code = cc) (hlocks : meth.locks = false) (hr : meth.sig.returnType = ret) (hFn : ∀ r σ', Fn r σ' → Q = MQ below (tQ D hs ad ca A r σ') args s 0 0 A)
    (hd : decode cc pc = .ok (.return_, 1)) (hdr : dr rb ret .return_ = true) (h : (match st with | [] => some (.inr (none, σ)) | _ => none) = some res) : Tg p l e R s m args below meth c D hs ad ca A nL Q Fn res pc L st σ := by
  split at h
  · cases h
    intro ok
    refine fun hy ls H locs lr hP hD hS => ?_
    rw [hFn _ _ (hy ⟨ok.1, fun v hv => by cases hv⟩)]
    exact W.vret hx hb (hr.trans (of_decide_eq_true hdr)) (fun t hT hW => ⟨⟨(), rfl, trivial, by rw [hT]; exact hP, hD, ok.1⟩, hS.F hT⟩) hS.2.2 hd hlocks
  · cases h
end INS
