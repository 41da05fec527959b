-- whole runs: every method's contract
def vk (own : Nat) (i : Instr) : Bool := match i with
  | .invokevirtual idx => (match t_look (tb_m own) idx with
    | some x => npl x.1 && (match mI x.1 with
      | some w => !w.2.2.2.2
      | none => true)
    | none => true)
  | .invokestatic idx => (match t_look (tb_m own) idx with
    | some x => (match mI x.1 with
      | some w => w.2.2.2.2
      | none => true)
    | none => true)
  | _ => true
def mck (k : Nat) : Bool := !npl k || match mtb k, mI k with
  | some q, some w => decide (w.1.cls = cn q.1) && plainName w.1.cls && Nat.beq q.2.2.1 w.2.2.1 && (q.2.2.2.1).all (fun l => l.all (fun e => dlit e.2.1 && vk q.1 e.2.1))
  | _, _ => false
theorem mck_all : (List.range mIs.length).all mck = true := by decide +kernel
theorem vkV_ok {own idx k n rt vc : Nat} {y : MethodName} {b : ByteArray} {nl : Nat} {ret : Option FieldType} {stt : Bool} (h : vk own (.invokevirtual idx) = true) (hl : t_look (tb_m own) idx = some (k, n, rt, vc)) : npl k = true ∧ (mI k = some (y, b, nl, ret, stt) → stt = false) := by
  simp only [vk, hl, Bool.and_eq_true] at h
  refine ⟨h.1, fun q => ?_⟩
  · rw [q] at h
    simpa using h.2
theorem vkS_ok {own idx k n rt vc : Nat} {y : MethodName} {b : ByteArray} {nl : Nat} {ret : Option FieldType} {stt : Bool} (h : vk own (.invokestatic idx) = true) (hl : t_look (tb_m own) idx = some (k, n, rt, vc)) (q : mI k = some (y, b, nl, ret, stt)) : stt = true := by
  simp only [vk, hl, q] at h
  exact h
section INS
variable {p : Program} {l : Launch} {e : Env} {R : Room} {s : State} {m : MethodId} {args : Array Value} {below : List Frame} {meth : Method} {c : Code}
variable {D : va_G} {hs : List (Nat × Nat)} {ad : Nat → Nat → Nat} {ca : Nat → ClassId} {A : Nat → Prop} {nL : Nat} {Q : State → Prop} {Fn : Option TV → TM → Prop}
variable {K : TK} {res : TRes} {pc nx : Nat} {L : TL} {st : List TV} {σ : TM} {cc : ByteArray}

theorem seg_ok {k own d nl : Nat} {rb : Bool} {code : TCode} {stops : List (Nat × List Bool)} {y : MethodName} {b : ByteArray} {ret : Option FieldType} {stt : Bool} (hmt : mtb k = some (own, rb, nl, code, stops)) (hmI : mI k = some (y, b, nl, ret, stt)) (hnp : npl k = true)
    (hx : p.tables.exec = Jvm.exec) (hb : c.code = b) (hml : c.maxLocals = nL) (hlocks : meth.locks = false) (hr : meth.sig.returnType = ret) (ht : HT args s) (hown : s.vm.findClass (cn own) = some m.cls) (hKt : va_K D vwCl (tyl ca) s) (hX : SX ad A s s.heap) (hA0 : ∀ q, s.heap.size ≤ q → A q) (hR : R = rmD (d + 1)) (hC : HC hs) (hCt : CtD l D hs ad ca d)
    (hFn : ∀ r σ', Fn r σ' → Q = MQ below (tQ D hs ad ca A r σ') args s 0 0 A) : ∀ (n pc : Nat) (L : TL) (st : List TV) (σ : TM) (res : TRes), t_seg tbl mtb (t_run tbl mtb d) k n pc L st σ = some res → Tg p l e R s m args below meth c D hs ad ca A nL Q Fn res pc L st σ
  | 0, _, _, _, _, _, h => by cases h
  | n + 1, pc, L, st, σ, res, h => by
    unfold t_seg at h
    rw [hmt] at h
    simp only [] at h
    split at h
    · next ins nx ts hf =>
      unfold t_fet at hf
      split at hf
      · next ch hch =>
        have hmem := t_look_mem _ _ _ hf
        have hcm := t_nth_mem _ _ _ hch
        have hdk := List.all_eq_true.mp (List.all_eq_true.mp (dk_all k (mI_lt hmI) _ _ hmt hmI) ch hcm) _ hmem
        have hmc := List.all_eq_true.mp mck_all k (List.mem_range.mpr (mI_lt hmI))
        unfold mck at hmc
        simp only [hnp, hmt, hmI, Bool.not_true, Bool.false_or, Bool.and_eq_true] at hmc
        have hlv := List.all_eq_true.mp (List.all_eq_true.mp hmc.2 ch hcm) _ hmem
        simp only [Bool.and_eq_true] at hlv
        unfold dk at hdk
        split at hdk
        · next i len hd =>
          simp only [Bool.and_eq_true, decide_eq_true_eq] at hdk
          obtain ⟨⟨⟨⟨e1, e2⟩, e3⟩, e4⟩, e5⟩ := hdk
          have e2 := Nat.eq_of_beq_eq_true e2
          subst e1
          have hK : ∀ pc' L' st' σ', (fun (pc' : Nat) (L' : TL) (st' : List TV) (σ' : TM) => match t_look stops pc' with
              | some ms => some (.inl (pc', t_mask ms L', st', σ'))
              | none => t_seg tbl mtb (t_run tbl mtb d) k n pc' L' st' σ') pc' L' st' σ' = some res → Tg p l e R s m args below meth c D hs ad ca A nL Q Fn res pc' L' st' σ' := by
            intro pc' L' st' σ' h2
            simp only [] at h2
            split at h2
            · next ms hms =>
              cases h2
              intro ok hy ls H locs hl hP hD hS
              exact hy ⟨ok.1, fun i v hv => ok.2.1 i v ((mask_ok ms L').2 i v hv), ok.2.2⟩ ls H locs (hl.mask ms) hP hD hS
            · exact seg_ok hmt hmI hnp hx hb hml hlocks hr ht hown hKt hX hA0 hR hC hCt hFn n pc' L' st' σ' res h2
          exact g_ins hx hb hK rfl hml hlocks hr ht hown hKt hX hA0 hR hC hCt hFn (fun idx q1 q2 q3 q4 => g_prim hx hb hK hml ht hown hKt hR hC q1 q2 q3 q4) (fun idx k n rt vc y b nl ret stt q1 q2 => by rw [q1] at hlv; exact vkV_ok hlv.2 q2) (fun idx k n rt vc y b nl ret stt q1 q2 q3 => by rw [q1] at hlv; exact vkS_ok hlv.2 q2 q3) hd e2 e4 e3 e5 hlv.1 h
        · cases hdk
      · cases hf
    · cases h
theorem tr_ok {k own d nl : Nat} {rb : Bool} {code : TCode} {stops : List (Nat × List Bool)} {y : MethodName} {b : ByteArray} {ret : Option FieldType} {stt : Bool} (hmt : mtb k = some (own, rb, nl, code, stops)) (hmI : mI k = some (y, b, nl, ret, stt)) (hnp : npl k = true)
    (hx : p.tables.exec = Jvm.exec) (hb : c.code = b) (hml : c.maxLocals = nL) (hlocks : meth.locks = false) (hr : meth.sig.returnType = ret) (ht : HT args s) (hown : s.vm.findClass (cn own) = some m.cls) (hKt : va_K D vwCl (tyl ca) s) (hX : SX ad A s s.heap) (hA0 : ∀ q, s.heap.size ≤ q → A q) (hR : R = rmD (d + 1)) (hC : HC hs) (hCt : CtD l D hs ad ca d)
    (hFn : ∀ r σ', Fn r σ' → Q = MQ below (tQ D hs ad ca A r σ') args s 0 0 A) : ∀ (n pc : Nat) (L : TL) (st : List TV) (σ : TM) (res : TRes), t_tr tbl mtb (t_run tbl mtb d) k n pc L st σ = some res → Tg p l e R s m args below meth c D hs ad ca A nL Q Fn res pc L st σ
  | 0, _, _, _, _, _, h => by cases h
  | n + 1, pc, L, st, σ, res, h => by
    unfold t_tr at h
    split at h
    · next pc' L' st' σ' hs1 =>
      have h1 := seg_ok (e := e) (below := below) (meth := meth) (Fn := Fn) (Q := Q) (D := D) (ad := ad) (ca := ca) (A := A) hmt hmI hnp hx hb hml hlocks hr ht hown hKt hX hA0 hR hC hCt hFn 1000 pc L st σ _ hs1
      have h2 := tr_ok hmt hmI hnp hx hb hml hlocks hr ht hown hKt hX hA0 hR hC hCt hFn n pc' L' st' σ' res h
      intro ok hy
      exact h1 ok (fun ok' => h2 ok' hy)
    · next r hs1 =>
      cases h
      exact seg_ok hmt hmI hnp hx hb hml hlocks hr ht hown hKt hX hA0 hR hC hCt hFn 1000 pc L st σ _ hs1
    · cases h
theorem sl_len (ad : Nat → Nat → Nat) : ∀ as : List TV, (lg_sl (as.map (t_cv ad))).length = t_cats as
  | [] => rfl
  | .inl x :: r => by
    have := sl_len ad r
    simp only [lg_sl, List.map_cons, List.flatMap_cons, List.length_append] at this ⊢
    rw [this]
    rfl
  | .inr (.inl x) :: r => by
    have := sl_len ad r
    simp only [lg_sl, List.map_cons, List.flatMap_cons, List.length_append] at this ⊢
    rw [this]
    rfl
  | .inr (.inr x) :: r => by
    have := sl_len ad r
    simp only [lg_sl, List.map_cons, List.flatMap_cons, List.length_append] at this ⊢
    rw [this]
    rfl
theorem fill_ok : ∀ (n : Nat) (L : TL), (t_fill n L).length = n ∧ ∀ i v, t_nth (t_fill n L) i = some (some v) → t_nth L i = some (some v)
  | 0, L => ⟨rfl, fun i v h => by cases h⟩
  | n + 1, [] => by
    obtain ⟨h1, h2⟩ := fill_ok n []
    refine ⟨by simp [t_fill, h1], fun i v h => ?_⟩
    cases i with
    | zero => cases h
    | succ i => have := h2 i v h; cases this
  | n + 1, a :: L => by
    obtain ⟨h1, h2⟩ := fill_ok n L
    refine ⟨by simp [t_fill, h1], fun i v h => ?_⟩
    cases i with
    | zero => exact h
    | succ i => exact h2 i v h
theorem args_ok (ad : Nat → Nat → Nat) : ∀ (as : List TV) (o i : Nat) (v : TV), t_nth (t_args as) i = some (some v) → (o + i, t_cv ad v) ∈ lv_args o (as.map (t_cv ad)) ∧ v ∈ as
  | [], _, _, _, h => by cases h
  | .inl x :: r, o, 0, v, h => by
    cases h
    exact ⟨List.mem_cons_self, List.mem_cons_self⟩
  | .inl x :: r, o, i + 1, v, h => by
    obtain ⟨h1, h2⟩ := args_ok ad r (o + 1) i v h
    rw [show o + 1 + i = o + (i + 1) by omega] at h1
    exact ⟨List.mem_cons_of_mem _ h1, List.mem_cons_of_mem _ h2⟩
  | .inr (.inr x) :: r, o, 0, v, h => by
    cases h
    exact ⟨List.mem_cons_self, List.mem_cons_self⟩
  | .inr (.inr x) :: r, o, i + 1, v, h => by
    obtain ⟨h1, h2⟩ := args_ok ad r (o + 1) i v h
    rw [show o + 1 + i = o + (i + 1) by omega] at h1
    exact ⟨List.mem_cons_of_mem _ h1, List.mem_cons_of_mem _ h2⟩
  | .inr (.inl x) :: r, o, 0, v, h => by
    cases h
    exact ⟨List.mem_cons_self, List.mem_cons_self⟩
  | .inr (.inl x) :: r, o, 1, v, h => by cases h
  | .inr (.inl x) :: r, o, i + 2, v, h => by
    obtain ⟨h1, h2⟩ := args_ok ad r (o + 2) i v h
    rw [show o + 2 + i = o + (i + 2) by omega] at h1
    exact ⟨List.mem_cons_of_mem _ h1, List.mem_cons_of_mem _ h2⟩
end INS
/-- EVERY METHOD'S CONTRACT, out of the small machine's run -/
theorem run_ok (l : Launch) (D : va_G) (hs : List (Nat × Nat)) (ad : Nat → Nat → Nat) (ca : Nat → ClassId) (hC : HC hs) : ∀ d : Nat, CtD l D hs ad ca d
  | 0 => fun k as σ r σ' hk9 hrun => by cases hrun
  | d + 1 => by
    intro k as σ r σ' hk9 hrun hok hM y b nl ret stt hmI sz
    have hCt := run_ok l D hs ad ca hC d
    unfold t_run at hrun
    rw [if_neg (npl_9 hk9)] at hrun
    have hmc := List.all_eq_true.mp mck_all k (List.mem_range.mpr (mI_lt hmI))
    split at hrun
    · next own rb nl2 code stops hmt =>
      unfold mck at hmc
      simp only [hk9, hmt, hmI, Bool.not_true, Bool.false_or, Bool.and_eq_true, decide_eq_true_eq] at hmc
      obtain ⟨⟨⟨hcls, hpl⟩, hnl⟩, -⟩ := hmc
      have hnl := Nat.eq_of_beq_eq_true hnl
      have hnl : nl2 = nl := hnl
      subst hnl
      cases hcat : Nat.ble (t_cats as) nl2 with
      | false => rw [hcat] at hrun; cases hrun
      | true =>
        rw [hcat] at hrun
        have hcat := Nat.le_of_ble_eq_true hcat
        have htr : t_tr tbl mtb (t_run tbl mtb d) k 1000000 0 (t_fill nl2 (t_args as)) [] σ = some (.inr (r, σ')) := by
          simp only [cond_true] at hrun
          unfold t_out at hrun
          split at hrun
          · next z hz => rw [hz]; cases hrun; rfl
          · cases hrun
        refine Met.ofW (cc := b) (maxL := nl2) (ret := ret) hpl rfl ?_
        intro p e s m args below meth c s₁ B hml hv
        obtain ⟨rfl, hsz, hP, hK, hD0, hX⟩ := hv
        have hts := atoms_spec (ws := .code y b nl2 ret :: gw) B.pre
        have hown := findClass_of_methodNamed B.named
        subst hsz
        have hl := lv_entry (as.map (t_cv ad)) (n := nl2) (by rw [sl_len]; exact hcat)
        rw [lg_entry_eq]
        generalize (lg_sl (as.map (t_cv ad)) ++ List.replicate (nl2 - (lg_sl (as.map (t_cv ad))).length) Slot.unset).toArray = ls at hl ⊢
        have hLR : LR ad ls nl2 (t_fill nl2 (t_args as)) := ⟨hl.1, hl.2.1, (fill_ok _ _).1, fun i v hv => by
          have h1 := (args_ok ad as 0 i v ((fill_ok _ _).2 i v hv)).1
          rw [Nat.zero_add] at h1
          exact hl.2.2 _ h1⟩
        have hOk : OkS hs σ (t_fill nl2 (t_args as)) [] := ⟨hM, fun i v hv => hok v (args_ok ad as 0 i v ((fill_ok _ _).2 i v hv)).2, fun v hv => by cases hv⟩
        exact tr_ok (Fn := fun r2 σ2 => r2 = r ∧ σ2 = σ') (Q := MQ below (tQ D hs ad ca (va_A (wsl hs ad ca σ) s.heap.size) r σ') _ s 0 0 (va_A (wsl hs ad ca σ) s.heap.size)) hmt hmI hk9 B.exec B.bytes hml B.notSynchronized B.returns (fun w h1 h2 => hts w (List.mem_cons_of_mem _ (gw_in h1 h2))) (by rw [← hcls]; exact hown) hK hX (fun q h => Or.inr h) rfl hC hCt (fun r2 σ2 h => by rw [h.1, h.2]) 1000000 0 _ [] σ _ htr hOk (fun _ => ⟨rfl, rfl⟩) ls s.heap [] hLR hP (hD0.self (sz := s.heap.size)) va_S.rf
    · cases hrun
