-- a call, by the callee's contract
section INS
variable {p : Program} {l : Launch} {e : Env} {R : Room} {s : State} {m : MethodId} {args : Array Value} {below : List Frame} {meth : Method} {c : Code}
variable {D : va_G} {hs : List (Nat × Nat)} {ad : Nat → Nat → Nat} {ca : Nat → ClassId} {A : Nat → Prop} {nL : Nat} {Q : State → Prop} {Fn : Option TV → TM → Prop}
variable {K : TK} {res : TRes} {pc nx : Nat} {L : TL} {st : List TV} {σ : TM} {cc : ByteArray}

theorem inv_call {own idx k n rt vc d : Nat} {as r st0 : List TV} {y : MethodName} {b : ByteArray} {nl : Nat} {ret : Option FieldType} {stt : Bool} {r1 : Option TV} {σ1 : TM} {ls : Array Slot} {H : Heap} {locs : List Loc} {vt : Bool} {A1 : Nat → Prop}
    (hA1 : A1 = va_A (wsl hs ad ca σ) H.size)
    (hx : p.tables.exec = Jvm.exec) (hb : c.code = cc) (hml : c.maxLocals = nL) (ht : HT args s) (hown : s.vm.findClass (cn own) = some m.cls) (hKt : va_K D vwCl (tyl ca) s) (hX : SX ad A s s.heap) (hA0 : ∀ q, s.heap.size ≤ q → A q) (hR : R = rmD (d + 1))
    (hM : Met l y (.code y b nl ret :: gw) (rmD d) (tPc D hs ad ca σ as H.size) (tQ D hs ad ca A1 r1 σ1) 0 0 A1)
    (hmI : mI k = some (y, b, nl, ret, stt)) (hlk : t_look (tb_m own) idx = some (k, n, rt, vc)) (hk9 : k ≠ 900) (hpop : t_pop n [] st0 = some (as, r)) (hcat : t_cats r ≤ 8) (hrc : t_rcv tbl vc as = true)
    (hd : decode cc pc = .ok (if vt = true then .invokevirtual idx else .invokestatic idx, 3)) (hvt : vt = !stt) (hok : ∀ v ∈ as, OkV hs v) (hl : LR ad ls nL L) (hP : va_P D vwCl (wsl hs ad ca σ) H) (hD : va_D A (wsl hs ad ca σ)) (hS : va_S A s.heap H locs) (hC : HC hs) :
    va_Run p l e R s m args below meth c H locs 0 0 0 0 (F0 m pc ls (st0.map (t_cv ad))) (r.map (t_cv ad)) (tQ D hs ad ca A1 r1 σ1 (as.map (t_cv ad)).toArray) A1 := by
  have hAA : ∀ q, A1 q → A q := by
    intro q h
    subst hA1
    rcases h with ⟨z, w, h⟩ | h
    · exact hD.2 z _ h
    · exact hA0 q (Nat.le_trans hS.1 h)
  obtain ⟨hbl, hpre⟩ := pre_ok (as := as) hA1 hKt hP hD hS hX hAA
  obtain ⟨xs, e1, e2, e3⟩ := t_pop_ok _ _ _ _ _ hpop
  rw [List.append_nil] at e2
  obtain ⟨hmc, hlw⟩ := lnk_at hlk
  obtain ⟨w1, w2, w3, w4⟩ := mw_code hmI
  unfold mchk at hmc
  rw [Bool.or_eq_true] at hmc
  have hmc2 : _ := hmc.resolve_left (fun q => hk9 (Nat.eq_of_beq_eq_true q))
  simp only [hmI, Bool.and_eq_true, decide_eq_true_eq] at hmc2
  obtain ⟨⟨⟨hc1, hc2⟩, hnl⟩, hpar⟩ := hmc2
  have hnl := Nat.le_of_ble_eq_true hnl
  have hroom : (rmD d).frames + 1 ≤ R.frames ∧ 8 + (nl + 11) + (rmD d).locals ≤ R.locals := by
    subst hR
    refine ⟨Nat.le_refl _, ?_⟩
    show 8 + (nl + 11) + 64 * d ≤ 64 * (d + 1)
    omega
  have hf : 0 + 0 ≤ R.cells ∧ 0 + 0 ≤ R.slots := ⟨Nat.zero_le _, Nat.zero_le _⟩
  have hroom2 := lv_room (m := m) (pc := pc) (ls := ls) (rest := st0.map (t_cv ad)) (st := r.map (t_cv ad)) (by rw [cats_ok]; exact hcat)
  have hGG : ∀ w ∈ (.code y b nl ret :: gw : List Cond), w ∈ gw := by
    intro w hw
    rcases List.mem_cons.mp hw with rfl | hw
    · exact gw_in w1 rfl
    · exact hw
  cases stt with
  | true =>
    subst hvt
    cases hp : (parseMethodDescriptor y.desc).map (fun d => d.parameters.length) with
    | none => rw [hp] at hpar; cases hpar
    | some q =>
      rw [hp] at hpar
      simp only [Bool.and_eq_true] at hpar
      have hn : n = q := Nat.eq_of_beq_eq_true hpar.1
      have hstk : (F0 m pc ls (st0.map (t_cv ad))).stack = (as.map (t_cv ad)).reverse ++ r.map (t_cv ad) := by
        show st0.map (t_cv ad) = _
        rw [e1, e2, ← List.map_reverse, List.reverse_reverse, List.map_append]
      have hlen : (as.map (t_cv ad)).length = q := by rw [List.length_map, e2, List.length_reverse, e3, hn]
      by_cases hnest : own = 4 ∧ idx = 96
      · obtain ⟨rfl, rfl⟩ := hnest
        have hk71 : y = yX11_distance := by
          have : t_look (tb_m 4) 96 = some (71, 2, 1, 99) := by decide +kernel
          rw [this] at hlk
          cases hlk
          have h2 : (mI 71).map (fun q => q.1) = some yX11_distance := rfl
          rw [hmI] at h2
          exact Option.some.inj h2
        have hcw := va_cnB (R := R) (s := s) (args := args) (own := cn 4) (host := RX11) (index := 96) q ht.ws (gw_good hGG) rfl rfl rfl (by rw [hk71]; exact hX.2.2.2.2.2.2) (ht _ w2 rfl) ⟨hc1, hc2, hp⟩ hroom
        exact va_runSN (n := q) ⟨hx, hb, hml, hown, ht.ws⟩ hM ⟨hcw, ht _ (w3 rfl) rfl, trivial⟩ ⟨hbl, hpre⟩ rfl hlen hl.1 hstk hroom2 hd hf
      · have hlw2 : Cond.methodLink (cn own) idx y ∈ lw_tbl := by
          apply hlw
          simp only [lk]
          rw [if_neg hnest, hmI]
          rfl
        have hcw := va_cwS (R := R) (s := s) (args := args) (own := cn own) (index := idx) (y := y) (bytes := b) (maxL := nl) (ret := ret) (rm := rmD d) q ht.ws (gw_good (ws := va_wsS (cn own) idx y (.code y b nl ret :: gw)) (fun w hw => by
            rcases List.mem_append.mp hw with h | h
            · simp only [List.mem_cons, List.not_mem_nil, or_false] at h
              rcases h with rfl | rfl | rfl
              · exact gw_in hlw2 rfl
              · exact gw_in (w3 rfl) rfl
              · exact gw_in w2 rfl
            · exact hGG w h)) rfl rfl rfl ⟨hc1, hc2, hp⟩ hroom
        exact va_runS (n := q) ⟨hx, hb, hml, hown, ht.ws⟩ hM hcw ⟨hbl, hpre⟩ rfl hlen hl.1 hstk hroom2 hd hf
  | false =>
    subst hvt
    cases hp : (parseMethodDescriptor y.desc).map (fun d => d.parameters.length) with
    | none => rw [hp] at hpar; cases hpar
    | some q =>
      rw [hp] at hpar
      simp only [Bool.and_eq_true, decide_eq_true_eq] at hpar
      obtain ⟨⟨hn, hvc⟩, hcls⟩ := hpar
      have hn : n = q + 1 := Nat.eq_of_beq_eq_true hn
      have hvc := Nat.le_of_ble_eq_true hvc
      sorry
end INS
