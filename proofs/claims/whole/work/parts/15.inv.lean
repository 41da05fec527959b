-- a call, by the callee's contract
section INS
variable {p : Program} {l : Launch} {e : Env} {R : Room} {s : State} {m : MethodId} {args : Array Value} {below : List Frame} {meth : Method} {c : Code}
variable {D : va_G} {hs : List (Nat × Nat)} {ad : Nat → Nat → Nat} {ca : Nat → ClassId} {A : Nat → Prop} {nL : Nat} {Q : State → Prop} {Fn : Option TV → TM → Prop}
variable {K : TK} {res : TRes} {pc nx : Nat} {L : TL} {st : List TV} {σ : TM} {cc : ByteArray}

theorem inv_call {own idx k n rt vc d : Nat} {as r st0 : List TV} {y : MethodName} {b : ByteArray} {nl : Nat} {ret : Option FieldType} {stt : Bool} {r1 : Option TV} {σ1 : TM} {ls : Array Slot} {H : Heap} {locs : List Loc} {vt : Bool} {A1 : Nat → Prop}
    (hA1 : A1 = va_A (wsl hs ad ca σ) H.size)
    (hx : p.tables.exec = Jvm.exec) (hb : c.code = cc) (hml : c.maxLocals = nL) (ht : HT args s) (hown : s.vm.findClass (cn own) = some m.cls) (hKt : va_K D vwCl (tyl ca) s) (hX : SX ad A s s.heap) (hA0 : ∀ q, s.heap.size ≤ q → A q) (hR : R = rmD (d + 1))
    (hM : Met l y (.code y b nl ret :: gw) (rmD d) (tPc D hs ad ca σ as H.size) (tQ D hs ad ca A1 r1 σ1) 0 0 A1)
    (hmI : mI k = some (y, b, nl, ret, stt)) (hlk : t_look (tb_m own) idx = some (k, n, rt, vc)) (hk9 : k ≠ 900) (hpop : t_pop n [] st0 = some (as, r)) (hcat : t_cats r ≤ 8) (hrc : t_rcv tbl vc as = true)
    (hd : decode cc pc = .ok (if vt = true then .invokevirtual idx else .invokestatic idx, 3)) (hvt : vt = !stt) (hok : ∀ v ∈ as, OkV hs v) (hl : LR ad ls nL L) (hP : va_P D vwCl (wsl hs ad ca σ) H) (hD : va_D A (wsl hs ad ca σ)) (hS : va_S A s.heap H locs) (hC : HC hs) :
    va_Run p l e R s m args below meth c H locs 0 0 0 0 (F0 m pc ls (st0.map (t_cv ad))) (r.map (t_cv ad)) (tQ D hs ad ca A1 r1 σ1 (as.map (t_cv ad)).toArray) A1 := by
  have hAA : ∀ q, A1 q → A q := by
    intro q h
    subst hA1
    rcases h with ⟨z, w, h⟩ | h
    · exact hD.2 z _ h
    · exact hA0 q (Nat.le_trans hS.1 h)
  obtain ⟨hbl, hpre⟩ := pre_ok (as := as) hA1 hKt hP hD hS hX hAA
  obtain ⟨xs, e1, e2, e3⟩ := t_pop_ok _ _ _ _ _ hpop
  rw [List.append_nil] at e2
  obtain ⟨hmc, hlw⟩ := lnk_at hlk
  obtain ⟨w1, w2, w3, w4⟩ := mw_code hmI
  unfold mchk at hmc
  rw [Bool.or_eq_true] at hmc
  have hmc2 : _ := hmc.resolve_left (fun q => hk9 (Nat.eq_of_beq_eq_true q))
  simp only [hmI, Bool.and_eq_true, decide_eq_true_eq] at hmc2
  obtain ⟨⟨⟨hc1, hc2⟩, hnl⟩, hpar⟩ := hmc2
  have hnl := Nat.le_of_ble_eq_true hnl
  have hroom : (rmD d).frames + 1 ≤ R.frames ∧ 8 + (nl + 11) + (rmD d).locals ≤ R.locals := by
    subst hR
    refine ⟨Nat.le_refl _, ?_⟩
    show 8 + (nl + 11) + 64 * d ≤ 64 * (d + 1)
    omega
  have hf : 0 + 0 ≤ R.cells ∧ 0 + 0 ≤ R.slots := ⟨Nat.zero_le _, Nat.zero_le _⟩
  have hroom2 := lv_room (m := m) (pc := pc) (ls := ls) (rest := st0.map (t_cv ad)) (st := r.map (t_cv ad)) (by rw [cats_ok]; exact hcat)
  have hGG : ∀ w ∈ (.code y b nl ret :: gw : List Cond), w ∈ gw := by
    intro w hw
    rcases List.mem_cons.mp hw with rfl | hw
    · exact gw_in w1 rfl
    · exact hw
  cases stt with
  | true =>
    subst hvt
    cases hp : (parseMethodDescriptor y.desc).map (fun d => d.parameters.length) with
    | none => rw [hp] at hpar; cases hpar
    | some q =>
      rw [hp] at hpar
      simp only [Bool.and_eq_true] at hpar
      have hn : n = q := Nat.eq_of_beq_eq_true hpar.1
      have hstk : (F0 m pc ls (st0.map (t_cv ad))).stack = (as.map (t_cv ad)).reverse ++ r.map (t_cv ad) := by
        show st0.map (t_cv ad) = _
        rw [e1, e2, ← List.map_reverse, List.reverse_reverse, List.map_append]
      have hlen : (as.map (t_cv ad)).length = q := by rw [List.length_map, e2, List.length_reverse, e3, hn]
      by_cases hnest : own = 4 ∧ idx = 96
      · obtain ⟨rfl, rfl⟩ := hnest
        have hk71 : y = yX11_distance := by
          have : t_look (tb_m 4) 96 = some (71, 2, 1, 99) := by decide +kernel
          rw [this] at hlk
          cases hlk
          have h2 : (mI 71).map (fun q => q.1) = some yX11_distance := rfl
          rw [hmI] at h2
          exact Option.some.inj h2
        have hcw := va_cnB (R := R) (s := s) (args := args) (own := cn 4) (host := RX11) (index := 96) q ht.ws (gw_good hGG) rfl rfl rfl (by rw [hk71]; exact hX.2.2.2.2.2.2) (ht _ w2 rfl) ⟨hc1, hc2, hp⟩ hroom
        exact va_runSN (n := q) ⟨hx, hb, hml, hown, ht.ws⟩ hM ⟨hcw, ht _ (w3 rfl) rfl, trivial⟩ ⟨hbl, hpre⟩ rfl hlen hl.1 hstk hroom2 hd hf
      · have hlw2 : Cond.methodLink (cn own) idx y ∈ lw_tbl := by
          apply hlw
          simp only [lk]
          rw [if_neg hnest, hmI]
          rfl
        have hcw := va_cwS (R := R) (s := s) (args := args) (own := cn own) (index := idx) (y := y) (bytes := b) (maxL := nl) (ret := ret) (rm := rmD d) q ht.ws (gw_good (ws := va_wsS (cn own) idx y (.code y b nl ret :: gw)) (fun w hw => by
            rcases List.mem_append.mp hw with h | h
            · simp only [List.mem_cons, List.not_mem_nil, or_false] at h
              rcases h with rfl | rfl | rfl
              · exact gw_in hlw2 rfl
              · exact gw_in (w3 rfl) rfl
              · exact gw_in w2 rfl
            · exact hGG w h)) rfl rfl rfl ⟨hc1, hc2, hp⟩ hroom
        exact va_runS (n := q) ⟨hx, hb, hml, hown, ht.ws⟩ hM hcw ⟨hbl, hpre⟩ rfl hlen hl.1 hstk hroom2 hd hf
  | false =>
    subst hvt
    cases hp : (parseMethodDescriptor y.desc).map (fun d => d.parameters.length) with
    | none => rw [hp] at hpar; cases hpar
    | some q =>
      rw [hp] at hpar
      simp only [Bool.and_eq_true, decide_eq_true_eq] at hpar
      obtain ⟨⟨hn, hvc⟩, hcls⟩ := hpar
      have hn : n = q + 1 := Nat.eq_of_beq_eq_true hn
      have hvc := Nat.le_of_ble_eq_true hvc
      unfold t_rcv at hrc
      rw [show Nat.beq vc 99 = false from beq_ne (by omega)] at hrc
      simp only [cond_false] at hrc
      split at hrc
      · next k1 i1 as' =>
        split at hrc
        · next c1 hc1' =>
          have hcv := Nat.eq_of_beq_eq_true hrc
          subst hcv
          have hlen : (as'.map (t_cv ad)).length = q := by
            have h := congrArg List.length e2
            rw [List.length_cons, List.length_reverse, e3, hn] at h
            rw [List.length_map]
            omega
          have hstk : (F0 m pc ls (st0.map (t_cv ad))).stack = (as'.map (t_cv ad)).reverse ++ .ref (ad k1 i1) :: r.map (t_cv ad) := by
            show st0.map (t_cv ad) = _
            have h := congrArg List.reverse e2
            rw [List.reverse_reverse] at h
            rw [e1, ← h, List.reverse_cons, List.map_append, List.map_append, ← List.map_reverse, List.append_assoc]
            rfl
          have hrec : ∃ cellB : Cell, H[ad k1 i1]? = some cellB ∧ cellB.vm.isStatics = false ∧ s.vm.findClass y.cls = some cellB.cls := by
            have hkh : OkH hs (k1, i1) := hok _ List.mem_cons_self
            by_cases h13 : c1 = 13
            · subst h13
              have hk := str_kind hc1'
              subst hk
              have hi : i1 = 0 := by
                rcases hkh with q | q | q
                · have := hC.2.1 _ q
                  simp at this
                · exact congrArg Prod.snd q
                · cases q
              subst hi
              obtain ⟨cell, g1, g2, g3, g4⟩ := hX.2.2.1.kept hS.2.1
              exact ⟨cell, g1, g2, by rw [← hcls]; exact g3⟩
            · have h12 : c1 ≤ 12 := by omega
              have hk := okh_in hkh hc1' h12
              obtain ⟨row, hrow, hrc2⟩ := k_obj hc1'
              obtain ⟨q0, hq, hws⟩ := wsl_at (ad := ad) (ca := ca) (σ := σ) hk
              rw [cE_obj hrow hrc2] at hws
              obtain ⟨cell, g1, g2, g3⟩ := va_recv hKt hP (cls_facts h12).1 hws
              refine ⟨cell, g1, g2, ?_⟩
              rw [← hcls]
              unfold vnm
              rw [if_neg h13]
              exact g3
          have hnest : ¬ (own = 4 ∧ idx = 96) := by
            rintro ⟨rfl, rfl⟩
            have : t_look (tb_m 4) 96 = some (71, 2, 1, 99) := by decide +kernel
            rw [this] at hlk
            cases hlk
            have h2 : (mI 71).map (fun q => q.2.2.2.2) = some true := rfl
            rw [hmI] at h2
            cases h2
          have hlw2 : Cond.methodLink (cn own) idx y ∈ lw_tbl := by
            apply hlw
            simp only [lk]
            rw [if_neg hnest, hmI]
            rfl
          have hcw := cwV (R := R) (s := s) (args := args) (own := cn own) (C := y.cls) (index := idx) (y := y) (bytes := b) (maxL := nl) (ret := ret) (rm := rmD d) q ht.ws (gw_good (ws := wsV (cn own) idx y.cls y (.code y b nl ret :: gw)) (fun w hw => by
              rcases List.mem_append.mp hw with h | h
              · simp only [List.mem_cons, List.not_mem_nil, or_false] at h
                rcases h with rfl | rfl | rfl | rfl
                · exact gw_in hlw2 rfl
                · exact gw_in (w4 rfl).1 rfl
                · exact gw_in (w4 rfl).2 rfl
                · exact gw_in w2 rfl
              · exact hGG w h)) rfl rfl rfl ⟨rfl, hc1, hc2, hp⟩ hroom
          exact va_runV (n := q) (b := ad k1 i1) (As := as'.map (t_cv ad)) ⟨hx, hb, hml, hown, ht.ws⟩ hM hcw ⟨hbl, hrec, hpre⟩ rfl hlen hl.1 hstk hroom2 hd hf
        · cases hrc
      · cases hrc
theorem t_len_or {r1 : Option TV} : True := trivial
/-- the instruction: pop, call, push -/
theorem g_inv (hx : p.tables.exec = Jvm.exec) (hb : c.code = cc) (hK : ∀ pc' L' st' σ', K pc' L' st' σ' = some res → Tg p l e R s m args below meth c D hs ad ca A nL Q Fn res pc' L' st' σ') {own idx d : Nat} {vt : Bool} (hml : c.maxLocals = nL) (ht : HT args s) (hown : s.vm.findClass (cn own) = some m.cls) (hKt : va_K D vwCl (tyl ca) s) (hX : SX ad A s s.heap) (hA0 : ∀ q, s.heap.size ≤ q → A q) (hR : R = rmD (d + 1)) (hC : HC hs) (hCt : CtD l D hs ad ca d)
    (hno : ∀ k n rt vc, t_look (tb_m own) idx = some (k, n, rt, vc) → npl k = true) (hvt : ∀ k n rt vc y b nl ret stt, t_look (tb_m own) idx = some (k, n, rt, vc) → mI k = some (y, b, nl, ret, stt) → vt = !stt)
    (hd : decode cc pc = .ok (if vt = true then .invokevirtual idx else .invokestatic idx, 3)) (hnx : nx = pc + 3) (h : t_inv tbl (t_run tbl mtb d) own idx nx K L st σ = some res) : Tg p l e R s m args below meth c D hs ad ca A nL Q Fn res pc L st σ := by
  subst hnx
  unfold t_inv at h
  split at h
  · next k n rt vc hlk =>
    split at h
    · next as r hpop =>
      cases hg : (Nat.ble (t_cats r) 8 && t_rcv tbl vc as) with
      | false => rw [hg] at h; cases h
      | true =>
        rw [hg] at h
        rw [Bool.and_eq_true] at hg
        have hnp := hno k n rt vc hlk
        have hk9 : k ≠ 900 := npl_9 hnp
        obtain ⟨hmc, -⟩ := lnk_at hlk
        have hmI : ∃ q, mI k = some q := by
          unfold mchk at hmc
          rw [Bool.or_eq_true] at hmc
          have h2 := hmc.resolve_left (fun q => hk9 (Nat.eq_of_beq_eq_true q))
          cases hq : mI k with
          | none => simp only [hq] at h2; cases h2
          | some q => exact ⟨q, rfl⟩
        obtain ⟨⟨y, b, nl, ret, stt⟩, hmI⟩ := hmI
        have hvt' := hvt k n rt vc y b nl ret stt hlk hmI
        obtain ⟨xs, e1, e2, e3⟩ := t_pop_ok _ _ _ _ _ hpop
        rw [List.append_nil] at e2
        have okas : OkS hs σ L st → ∀ v ∈ as, OkV hs v := fun ok v hv => ok.2.2 v (by rw [e1]; exact List.mem_append_left _ (by rw [e2] at hv; exact List.mem_reverse.mp hv))
        have okr : OkS hs σ L st → OkT hs r := fun ok v hv => ok.2.2 v (by rw [e1]; exact List.mem_append_right _ hv)
        -- one shape for the three kinds of answers
        have core : ∀ (r1 : Option TV) (σ1 : TM) (st' : List TV), t_run tbl mtb d k as σ = some (r1, σ1) → K (pc + 3) L st' σ1 = some res → st' = r1.toList ++ r → (r1 = none ∨ (∃ x, r1 = some (.inl x)) ∨ ∃ x, r1 = some (.inr (.inl x))) → Tg p l e R s m args below meth c D hs ad ca A nL Q Fn res pc L st σ := by
          intro r1 σ1 st' hrun hk2 hst hsh ok
          have c3 := hCt k as σ r1 σ1 hnp hrun (okas ok) ok.1
          refine fun hy ls H locs hl hP hD hS => ?_
          have hM := c3 y b nl ret stt hmI H.size
          have hrunW := inv_call (e := e) (below := below) (meth := meth) (own := own) (vt := vt) rfl hx hb hml ht hown hKt hX hA0 hR hM hmI hlk hk9 hpop (Nat.le_of_ble_eq_true hg.1) hg.2 hd hvt' (okas ok) hl hP hD hS hC
          have hAA : ∀ q, va_A (wsl hs ad ca σ) H.size q → A q := by
            intro q h
            rcases h with ⟨z, w, h⟩ | h
            · exact hD.2 z _ h
            · exact hA0 q (Nat.le_trans hS.1 h)
          subst hst
          rcases hsh with rfl | ⟨x, rfl⟩ | ⟨x, rfl⟩
          · refine va_callv (a := (as.map (t_cv ad)).toArray) hrunW hS (fun q _ h => hAA q h) hAA (fun u t H1 locs1 hte hvm hw hB hz1 hk1 hS1 => ?_)
            exact hK _ _ _ _ hk2 ⟨hB.2.2, ok.2.1, okr ok⟩ hy ls H1 locs1 hl (by rw [← hte]; exact hB.1) (hB.2.1.weaken (fun _ _ _ h => hAA _ h)) hS1
          · refine va_calli (a := (as.map (t_cv ad)).toArray) hrunW hS (fun q _ h => hAA q h) hAA (fun v u t H1 locs1 hte hvm hw hB hz1 hk1 hS1 => ?_)
            obtain ⟨rfl, hrx⟩ := hw
            exact hK _ _ _ _ hk2 ⟨hB.2.2, ok.2.1, OkT.cons hrx (okr ok)⟩ hy ls H1 locs1 hl (by rw [← hte]; exact hB.1) (hB.2.1.weaken (fun _ _ _ h => hAA _ h)) hS1
          · refine va_calll (a := (as.map (t_cv ad)).toArray) hrunW hS (fun q _ h => hAA q h) hAA (fun v u t H1 locs1 hte hvm hw hB hz1 hk1 hS1 => ?_)
            obtain ⟨rfl, hrx⟩ := hw
            exact hK _ _ _ _ hk2 ⟨hB.2.2, ok.2.1, OkT.cons hrx (okr ok)⟩ hy ls H1 locs1 hl (by rw [← hte]; exact hB.1) (hB.2.1.weaken (fun _ _ _ h => hAA _ h)) hS1
        simp only [cond_true] at h
        split at h
        · unfold t_callv at h
          split at h
          · next σ1 hrun => exact core none σ1 _ hrun h rfl (Or.inl rfl)
          · cases h
        · unfold t_calli at h
          split at h
          · next x σ1 hrun => exact core (some (.inl x)) σ1 _ hrun h rfl (Or.inr (Or.inl ⟨x, rfl⟩))
          · cases h
        · unfold t_callj at h
          split at h
          · next x σ1 hrun => exact core (some (.inr (.inl x))) σ1 _ hrun h rfl (Or.inr (Or.inr ⟨x, rfl⟩))
          · cases h
    · cases h
  · cases h
end INS
