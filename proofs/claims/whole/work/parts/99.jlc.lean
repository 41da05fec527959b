-- the law: the lemmas of its cases, by wip/whole/gen105.py
/-- the picture, behind the making -/
def LWd (D : va_G) (A : Nat → Prop) (H0 : Heap) (ad : Nat → Nat → Nat) (ca : Nat → ClassId) (σ : TM) (H : Heap) (locs : List Loc) : Prop := va_P D vwCl (wsl zhs ad ca σ) H ∧ va_D A (wsl zhs ad ca σ) ∧ va_S A H0 H locs ∧ OkM σ
/-- where the law stands -/
def Lc (p : Program) (s : State) (m : MethodId) (args : Array Value) (c : Code) (D : va_G) (ad : Nat → Nat → Nat) (ca : Nat → ClassId) (A : Nat → Prop) (b L : Nat) (xs : Nat → Int32) : Prop := p.tables.exec = Jvm.exec ∧ c.code = code ∧ c.maxLocals = 4 ∧ HT args s ∧ s.vm.findClass RL = some m.cls ∧ va_K D vwCl (tyl ca) s ∧ SX ad A s s.heap ∧ (∀ q, s.heap.size ≤ q → A q) ∧ va_X b L xs s s.heap ∧ b < s.heap.size ∧ ¬ A b ∧ L ≤ 3072
section LAW
variable {p : Program} {l : Launch} {e : Env} {R : Room} {s : State} {m : MethodId} {args : Array Value} {below : List Frame} {meth : Method} {c : Code} {cells slots : Nat}
variable {D : va_G} {ad : Nat → Nat → Nat} {ca : Nat → ClassId} {A : Nat → Prop} {Q : State → Prop} {pc b L i : Nat} {xs : Nat → Int32} {ls : Array Slot} {st : List Value} {H : Heap} {locs : List Loc}
theorem l_ic {k : Nat} (h : k ≤ 5) : Int32.ofInt ((k : Nat) : Int) = nI k := by
  match k, h with
  | 0, _ => decide +kernel
  | 1, _ => decide +kernel
  | 2, _ => decide +kernel
  | 3, _ => decide +kernel
  | 4, _ => decide +kernel
  | 5, _ => decide +kernel
  | k + 6, h => omega
/-- one number of the script, pushed -/
theorem l_arg {k : Nat} (Z : Lc p s m args c D ad ca A b L xs) (h0 : ls[0]? = some (.val (.ref b))) (h3 : ls[3]? = some (.val (.int (nI i)))) (hi : i + 6 ≤ L) (hk : k ≤ 5) (d0 : decode code pc = .ok (.aload_n 0, 1)) (d1 : decode code (pc + 1) = .ok (.iload_n 3, 1)) (d2 : decode code (pc + 1 + 1) = .ok (.iconst (k : Nat), 1)) (d3 : decode code (pc + 1 + 1 + 1) = .ok (.iadd, 1)) (d4 : decode code (pc + 1 + 1 + 1 + 1) = .ok (.iaload, 1)) (hS : va_S A s.heap H locs)
    (kk : W p l e R s m args below meth c H locs cells slots Q (F0 m (pc + 5) ls (.int (xs (i + k)) :: st))) : W p l e R s m args below meth c H locs cells slots Q (F0 m pc ls st) := by
  obtain ⟨hx, hb, hml, ht, hown, hKt, hX, hA, hXs, hbl, hbA, hL⟩ := Z
  refine lv_aload_n hx hb d0 rfl h0 ?_
  refine lv_iload_n hx hb d1 rfl h3 ?_
  refine lv_iconst (v := nI k) hx hb d2 (l_ic hk) ?_
  refine lv_iadd hx hb d3 ?_
  rw [nI_add]
  refine va_sld hx hb hXs hbl hbA hS (vp_in_nI (by omega) (by omega)) d4 ?_
  rw [nI_clamp (by omega)]
  exact kk
theorem l_args (Z : Lc p s m args c D ad ca A b L xs) (h0 : ls[0]? = some (.val (.ref b))) (h3 : ls[3]? = some (.val (.int (nI i)))) (hi : i + 6 ≤ L) (hS : va_S A s.heap H locs) : ∀ (n k pc : Nat) (st : List Value), dargs n k pc = true → W p l e R s m args below meth c H locs cells slots Q (F0 m (pc + 5 * n) ls ((lav xs i n k).reverse ++ st)) → W p l e R s m args below meth c H locs cells slots Q (F0 m pc ls st) := by
  intro n
  induction n with
  | zero =>
    intro k pc st _ h
    rw [Nat.mul_zero, Nat.add_zero, show (lav xs i 0 k).reverse ++ st = st from rfl] at h
    exact h
  | succ n ih =>
    intro k pc st hd h
    unfold dargs at hd
    simp only [Bool.and_eq_true] at hd
    obtain ⟨⟨⟨⟨⟨⟨d0, d1⟩, d2⟩, d3⟩, d4⟩, hk⟩, hd⟩ := hd
    refine l_arg Z h0 h3 hi (Nat.le_of_ble_eq_true hk) (dq_ok d0) (dq_ok d1) (dq_ok d2) (dq_ok d3) (dq_ok d4) hS ?_
    refine ih (k + 1) (pc + 5) _ hd ?_
    rw [show pc + 5 + 5 * n = pc + 5 * (n + 1) by omega]
    have e : (lav xs i n (k + 1)).reverse ++ (.int (xs (i + k)) :: st) = (lav xs i (n + 1) k).reverse ++ st := by
      show _ = (Value.int (xs (i + k)) :: lav xs i n (k + 1)).reverse ++ st
      rw [List.reverse_cons, List.append_assoc]
      rfl
    rw [e]
    exact h
theorem l_call {k idx n cls kk d : Nat} {as : List TV} {r : TV} {σ σ' : TM} {rest : List Value} (Z : Lc p s m args c D ad ca A b L xs) (hC : HC zhs) (hF : LkF k idx n cls) (hrun : t_run tbl mtb d k (vh kk 0 :: as) σ = some (some r, σ')) (hr : (∃ x, r = vi x) ∨ ∃ x, r = vj x) (hlen : as.length = n) (hok : ∀ v ∈ as, OkV zhs v) (hkk : (kk, 0) ∈ zhs) (hcl : t_cls tbl kk = some cls) (h12 : cls ≤ 12) (hls : ls.size = 4) (hcat : (rest.map fun v => v.category).sum ≤ 8) (hroom : d + 1 ≤ R.frames ∧ 8 + (40 + 11) + 64 * d ≤ R.locals) (hcs : cells ≤ R.cells ∧ slots ≤ R.slots) (hd : decode code pc = .ok (.invokevirtual idx, 3)) (hW : LWd D A s.heap ad ca σ H locs)
    (go : ∀ H1 locs1, LWd D A s.heap ad ca σ' H1 locs1 → W p l e R s m args below meth c H1 locs1 cells slots Q (F0 m (pc + 3) ls (t_cv ad r :: rest))) : W p l e R s m args below meth c H locs cells slots Q (F0 m pc ls ((as.map (t_cv ad)).reverse ++ .ref (ad kk 0) :: rest)) := by
  obtain ⟨hx, hb, hml, ht, hown, hKt, hX, hA, hXs, hbl, hbA, hL⟩ := Z
  obtain ⟨hP, hD, hS, hM⟩ := hW
  obtain ⟨y, bb, nl, ret, hmI, hlk, hnp, ⟨hc1, hc2, hp⟩, hyc, hnl⟩ := hF
  have hAA : ∀ q, va_A (wsl zhs ad ca σ) H.size q → A q := by
    intro q h
    rcases h with ⟨z, w, h⟩ | h
    · exact hD.2 z _ h
    · exact hA q (Nat.le_trans hS.1 h)
  have hok2 : ∀ v ∈ vh kk 0 :: as, OkV zhs v := by
    intro v hv
    rcases List.mem_cons.mp hv with rfl | hv
    · exact Or.inl hkk
    · exact hok v hv
  have hM2 := run_ok l D zhs ad ca hC d k _ σ (some r) σ' hnp hrun hok2 hM y bb nl ret false hmI H.size
  obtain ⟨hbl2, hpre⟩ := pre_ok (as := vh kk 0 :: as) rfl hKt hP hD hS hX hAA
  obtain ⟨w1, w2, w3, w4⟩ := mw_code hmI
  have hGG : ∀ w ∈ (.code y bb nl ret :: gw : List Cond), w ∈ gw := by
    intro w hw
    rcases List.mem_cons.mp hw with rfl | hw
    · exact gw_in w1 rfl
    · exact hw
  have hroom1 : (rmD d).frames + 1 ≤ R.frames ∧ 8 + (nl + 11) + (rmD d).locals ≤ R.locals := by
    refine ⟨hroom.1, ?_⟩
    show 8 + (nl + 11) + 64 * d ≤ R.locals
    omega
  have hrec : ∃ cellB : Cell, H[ad kk 0]? = some cellB ∧ cellB.vm.isStatics = false ∧ s.vm.findClass y.cls = some cellB.cls := by
    obtain ⟨row, hrow, hrc2⟩ := k_obj hcl
    obtain ⟨q0, hq, hws⟩ := wsl_at (ad := ad) (ca := ca) (σ := σ) hkk
    rw [cE_obj hrow hrc2] at hws
    obtain ⟨cell, g1, g2, g3⟩ := va_recv hKt hP (cls_facts h12).1 hws
    exact ⟨cell, g1, g2, by rw [hyc]; exact g3⟩
  have hcw := cwV (R := R) (s := s) (args := args) (own := RL) (C := y.cls) (index := idx) (y := y) (bytes := bb) (maxL := nl) (ret := ret) (rm := rmD d) n ht.ws (gw_good (ws := wsV RL idx y.cls y (.code y bb nl ret :: gw)) (fun w hw => by
      rcases List.mem_append.mp hw with h | h
      · simp only [List.mem_cons, List.not_mem_nil, or_false] at h
        rcases h with rfl | rfl | rfl | rfl
        · exact gw_in hlk rfl
        · exact gw_in (w4 rfl).1 rfl
        · exact gw_in (w4 rfl).2 rfl
        · exact gw_in w2 rfl
      · exact hGG w h)) rfl rfl rfl ⟨rfl, hc1, hc2, hp⟩ hroom1
  have hrunW := va_runV (e := e) (below := below) (meth := meth) (H := H) (locs := locs) (cells := cells) (slots := slots) (g := F0 m pc ls ((as.map (t_cv ad)).reverse ++ .ref (ad kk 0) :: rest)) (n := n) (b := ad kk 0) (As := as.map (t_cv ad)) (rest := rest) ⟨hx, hb, hml, hown, ht.ws⟩ hM2 hcw ⟨hbl2, hrec, hpre⟩ rfl (by rw [List.length_map, hlen]) hls rfl (lv_room hcat) hd (by simpa using hcs)
  rcases hr with ⟨x, rfl⟩ | ⟨x, rfl⟩
  · refine va_calli (a := (Value.ref (ad kk 0) :: List.map (t_cv ad) as).toArray) hrunW hS (fun q _ h => hAA q h) hAA (fun v u t H1 locs1 hte hvm hw hB hz1 hk1 hS1 => ?_)
    obtain ⟨rfl, hrx⟩ := hw
    exact go H1 locs1 ⟨by rw [← hte]; exact hB.1, hB.2.1.weaken (fun _ _ _ h => hAA _ h), hS1, hB.2.2⟩
  · refine va_calll (a := (Value.ref (ad kk 0) :: List.map (t_cv ad) as).toArray) hrunW hS (fun q _ h => hAA q h) hAA (fun v u t H1 locs1 hte hvm hw hB hz1 hk1 hS1 => ?_)
    obtain ⟨rfl, hrx⟩ := hw
    exact go H1 locs1 ⟨by rw [← hte]; exact hB.1, hB.2.1.weaken (fun _ _ _ h => hAA _ h), hS1, hB.2.2⟩
def Lp (p : Program) (l : Launch) (e : Env) (R : Room) (s : State) (m : MethodId) (args : Array Value) (below : List Frame) (meth : Method) (c : Code) (Q : State → Prop) (A : Nat → Prop) (cells slots : Nat) (ls : Array Slot) (pc1 pc2 : Nat) (vs : List Value) : Prop := ∀ (H : Heap) (locs : List Loc) (st : List Value), va_S A s.heap H locs → W p l e R s m args below meth c H locs cells slots Q (F0 m pc2 ls (vs.reverse ++ st)) → W p l e R s m args below meth c H locs cells slots Q (F0 m pc1 ls st)
/-- both calls of a case -/
theorem l_core {kc kr i1 i2 n pa pb d : Nat} {as : List TV} {σ : TM} (Z : Lc p s m args c D ad ca A b L xs) (hC : HC zhs) (hl : lv_has ls 4 [(3, .int (nI i)), (2, .ref (ad 51 0)), (1, .ref (ad 0 0)), (0, .ref b)]) (hT : Two d kc kr as σ) (hF1 : LkF kc i1 n 11) (hF2 : LkF kr i2 n 12) (hlen : as.length = n) (hok : ∀ v ∈ as, OkV zhs v) (hkd : (rkd kc false = true ∧ rkd kr false = true) ∨ (rkd kc true = true ∧ rkd kr true = true)) (hk9 : kc ≠ 900) (hroom : d + 1 ≤ R.frames ∧ 8 + (40 + 11) + 64 * d ≤ R.locals) (hcs : cells ≤ R.cells ∧ slots ≤ R.slots) (d1 : decode code pc = .ok (.aload_n 1, 1)) (hp1 : Lp p l e R s m args below meth c Q A cells slots ls (pc + 1) pa (as.map (t_cv ad))) (d2 : decode code pa = .ok (.invokevirtual i1, 3)) (d3 : decode code (pa + 3) = .ok (.aload_n 2, 1)) (hp2 : Lp p l e R s m args below meth c Q A cells slots ls (pa + 3 + 1) pb (as.map (t_cv ad))) (d4 : decode code pb = .ok (.invokevirtual i2, 3)) (hW : LWd D A s.heap ad ca σ H locs)
    (go : ∀ (r : TV) (σ2 : TM) (V2 : TVw) H1 locs1, WW σ2 V2 → LWd D A s.heap ad ca σ2 H1 locs1 → (rkd kc false = true → ∃ x, r = vi x) → (rkd kc true = true → ∃ x, r = vj x) → W p l e R s m args below meth c H1 locs1 cells slots Q (F0 m (pb + 3) ls [t_cv ad r, t_cv ad r])) : W p l e R s m args below meth c H locs cells slots Q (F0 m pc ls []) := by
  obtain ⟨hx, hb, -⟩ := id Z
  obtain ⟨r, σ1, σ2, V2, q1, q2, q3⟩ := hT
  obtain ⟨k1, k2⟩ := run_kind hk9 q1
  have hr : (∃ x, r = vi x) ∨ ∃ x, r = vj x := by
    rcases hkd with h | h
    · exact Or.inl (k1 h.1)
    · exact Or.inr (k2 h.1)
  have hcatr : ([t_cv ad r].map fun v => v.category).sum ≤ 8 := by
    rcases hr with ⟨x, rfl⟩ | ⟨x, rfl⟩
    · show 1 + 0 ≤ 8
      decide
    · show 2 + 0 ≤ 8
      decide
  refine lv_aload_n hx hb d1 rfl (lv_at hl 2 rfl) ?_
  refine hp1 _ _ _ hW.2.2.1 ?_
  refine l_call Z hC hF1 q1 hr hlen hok (zh_mem (by decide) (by decide +kernel)) rfl (by decide) hl.1 (by decide) hroom hcs d2 hW (fun H1 locs1 hW1 => ?_)
  refine lv_aload_n hx hb d3 rfl (lv_at hl 1 rfl) ?_
  refine hp2 _ _ _ hW1.2.2.1 ?_
  exact l_call Z hC hF2 q2 hr hlen hok (zh_mem (by decide) (by decide +kernel)) rfl (by decide) hl.1 hcatr hroom hcs d4 hW1 (fun H2 locs2 hW2 => go r σ2 V2 H2 locs2 q3 hW2 k1 k2)
theorem lk_lt : (List.range 43).all (fun c => Nat.blt (lkc c) 900 && Nat.beq (las c (fun _ => 0) 0).length (cond (Nat.beq c 37) 3 (lci c).2.1)) = true := by decide +kernel
theorem l_kd {c : Nat} (hc : c < 43) : (c = 38 ∧ rkd (lkc c) true = true ∧ rkd (lkr c) true = true) ∨ (c ≠ 38 ∧ rkd (lkc c) false = true ∧ rkd (lkr c) false = true) := by
  have h := List.all_eq_true.mp lk_kind c (List.mem_range.mpr hc)
  cases hq : Nat.beq c 38 with
  | true =>
    rw [hq] at h
    simp only [cond_true, Bool.and_eq_true] at h
    exact Or.inl ⟨Nat.eq_of_beq_eq_true hq, h.1, h.2⟩
  | false =>
    rw [hq] at h
    simp only [cond_false, Bool.and_eq_true] at h
    exact Or.inr ⟨fun e => by rw [e] at hq; exact absurd hq (by decide), h.1, h.2⟩
theorem l_sc (j : Nat) : R32 (xs j).toInt := R32_toInt _
/-- a case of the law, to where the loop goes on -/
theorem l_case {σ : TM} {V : TVw} {q : Nat} (Z : Lc p s m args c D ad ca A b L xs) (hC : HC zhs) (hq : q < 43) (h37 : q ≠ 37) (hi : i + 6 ≤ L) (hl : lv_has ls 4 [(3, .int (nI i)), (2, .ref (ad 51 0)), (1, .ref (ad 0 0)), (0, .ref b)]) (hWW : WW σ V) (hroom : 101 ≤ R.frames ∧ 8 + (40 + 11) + 64 * 100 ≤ R.locals) (hcs : cells ≤ R.cells ∧ slots ≤ R.slots) (hW : LWd D A s.heap ad ca σ H locs)
    (go : ∀ (σ2 : TM) (V2 : TVw) H1 locs1, WW σ2 V2 → LWd D A s.heap ad ca σ2 H1 locs1 → W p l e R s m args below meth c H1 locs1 cells slots Q (F0 m 1710 ls [])) : W p l e R s m args below meth c H locs cells slots Q (F0 m (lci q).1 ls []) := by
  obtain ⟨hx, hb, -⟩ := id Z
  have hd := dcase_all q hq h37
  have hF1 := lf1 q hq
  have hF2 := lf2 q hq
  have hlv := las_lav (ad := ad) (xs := xs) (i := i) (l := 0) q hq h37
  have hlt := List.all_eq_true.mp lk_lt q (List.mem_range.mpr hq)
  simp only [Bool.and_eq_true] at hlt
  have hk9 : lkc q ≠ 900 := by
    have : lkc q + 1 ≤ 900 := by simpa [Nat.blt] using hlt.1
    omega
  have hT := two_all (d := 0) hWW (fun k => (xs (i + k)).toInt) (fun k => R32_toInt _) 0 q hq
  have hlen := las_len (s1 := fun k => (xs (i + k)).toInt) (s2 := fun _ => 0) (l1 := 0) (l2 := 0) q hq
  have hok := las_ok (hs := zhs) (s1 := fun k => (xs (i + k)).toInt) (l1 := 0) (fun k => R32_toInt _) ⟨by decide, by decide⟩ q hq
  have hkd := l_kd hq
  unfold dcase at hd
  generalize hci : lci q = ci at hd hF1 hF2 hlv ⊢
  obtain ⟨pc, n, i1, i2⟩ := ci
  simp only [Bool.and_eq_true] at hd
  obtain ⟨⟨⟨⟨⟨⟨d1, da1⟩, d2⟩, d3⟩, da2⟩, d4⟩, d5⟩ := hd
  have hlv : (las q (fun k => (xs (i + k)).toInt) 0).map (t_cv ad) = lav xs i n 1 := hlv
  refine l_core (pc := pc) (pa := pc + 1 + 5 * n) (pb := pc + 1 + 5 * n + 3 + 1 + 5 * n) Z hC hl hT hF1 hF2 hlen hok (by rcases hkd with h | h; exact Or.inr h.2; exact Or.inl h.2) hk9 hroom hcs (dq_ok d1) (fun H locs st hS h => ?_) (dq_ok d2) (dq_ok d3) (fun H locs st hS h => ?_) (dq_ok d4) hW (fun r σ2 V2 H1 locs1 hWW2 hW2 r1 r2 => ?_)
  · rw [hlv] at h
    exact l_args Z (lv_at hl 3 rfl) (lv_at hl 0 rfl) hi hS n 1 (pc + 1) st da1 h
  · rw [hlv] at h
    exact l_args Z (lv_at hl 3 rfl) (lv_at hl 0 rfl) hi hS n 1 _ st da2 h
  · rcases hkd with ⟨rfl, h1, h2⟩ | ⟨h38, h1, h2⟩
    · obtain ⟨x, rfl⟩ := r2 h1
      simp only [show Nat.beq 38 38 = true from rfl, cond_true, Bool.and_eq_true] at d5
      refine W.lcmp hx hb (dq_ok d5.1) ?_
      refine lv_if_eq (tgt := 1710) hx hb (dq_ok d5.2) (by omega) (fun _ => go σ2 V2 H1 locs1 hWW2 hW2) (fun hne => absurd ?_ hne)
      unfold lg_cmp
      rw [if_neg (by simp), if_pos rfl]
    · obtain ⟨x, rfl⟩ := r1 h1
      rw [beq_ne h38] at d5
      simp only [cond_false] at d5
      exact lv_icmp_eq (tgt := 1710) hx hb (dq_ok d5) (by omega) (fun _ => go σ2 V2 H1 locs1 hWW2 hW2) (fun hne => absurd rfl hne)
def l_lg (x y : Int32) : Int64 := (x.toInt64 <<< ((32 : Int32).toInt64 &&& 63)) ||| (y.toInt64 &&& 4294967295)
theorem l_l1 (Z : Lc p s m args c D ad ca A b L xs) (h0 : ls[0]? = some (.val (.ref b))) (h3 : ls[3]? = some (.val (.int (nI i)))) (hi : i + 6 ≤ L) : Lp p l e R s m args below meth c Q A cells slots ls 1462 1492 [.int (xs (i + 1)), .int (xs (i + 2)), .long (l_lg (xs (i + 3)) (xs (i + 4)))] := by
  intro H locs st hS h
  obtain ⟨hx, hb, hml, ht, hown, -⟩ := id Z
  refine l_arg (k := 1) Z h0 h3 hi (by decide) dl_1462 dl_1463 dl_1464 dl_1465 dl_1466 hS ?_
  refine l_arg (k := 2) Z h0 h3 hi (by decide) dl_1467 dl_1468 dl_1469 dl_1470 dl_1471 hS ?_
  refine l_arg (k := 3) Z h0 h3 hi (by decide) dl_1472 dl_1473 dl_1474 dl_1475 dl_1476 hS ?_
  refine lv_i2l hx hb dl_1477 rfl ?_
  refine lv_bipush (v := 32) hx hb dl_1478 (by decide +kernel) ?_
  refine lv_lshl hx hb dl_1480 rfl ?_
  refine l_arg (k := 4) Z h0 h3 hi (by decide) dl_1481 dl_1482 dl_1483 dl_1484 dl_1485 hS ?_
  refine lv_i2l hx hb dl_1486 rfl ?_
  refine lv_ldc2 hx hb hown (ht _ zw_m32 rfl) dl_1487 ?_
  refine lv_land hx hb dl_1490 ?_
  refine lv_lor hx hb dl_1491 ?_
  exact h
theorem l_l2 (Z : Lc p s m args c D ad ca A b L xs) (h0 : ls[0]? = some (.val (.ref b))) (h3 : ls[3]? = some (.val (.int (nI i)))) (hi : i + 6 ≤ L) : Lp p l e R s m args below meth c Q A cells slots ls 1496 1526 [.int (xs (i + 1)), .int (xs (i + 2)), .long (l_lg (xs (i + 3)) (xs (i + 4)))] := by
  intro H locs st hS h
  obtain ⟨hx, hb, hml, ht, hown, -⟩ := id Z
  refine l_arg (k := 1) Z h0 h3 hi (by decide) dl_1496 dl_1497 dl_1498 dl_1499 dl_1500 hS ?_
  refine l_arg (k := 2) Z h0 h3 hi (by decide) dl_1501 dl_1502 dl_1503 dl_1504 dl_1505 hS ?_
  refine l_arg (k := 3) Z h0 h3 hi (by decide) dl_1506 dl_1507 dl_1508 dl_1509 dl_1510 hS ?_
  refine lv_i2l hx hb dl_1511 rfl ?_
  refine lv_bipush (v := 32) hx hb dl_1512 (by decide +kernel) ?_
  refine lv_lshl hx hb dl_1514 rfl ?_
  refine l_arg (k := 4) Z h0 h3 hi (by decide) dl_1515 dl_1516 dl_1517 dl_1518 dl_1519 hS ?_
  refine lv_i2l hx hb dl_1520 rfl ?_
  refine lv_ldc2 hx hb hown (ht _ zw_m32 rfl) dl_1521 ?_
  refine lv_land hx hb dl_1524 ?_
  refine lv_lor hx hb dl_1525 ?_
  exact h
theorem l_case37 {σ : TM} {V : TVw} (Z : Lc p s m args c D ad ca A b L xs) (hC : HC zhs) (hi : i + 6 ≤ L) (hl : lv_has ls 4 [(3, .int (nI i)), (2, .ref (ad 51 0)), (1, .ref (ad 0 0)), (0, .ref b)]) (hWW : WW σ V) (hroom : 101 ≤ R.frames ∧ 8 + (40 + 11) + 64 * 100 ≤ R.locals) (hcs : cells ≤ R.cells ∧ slots ≤ R.slots) (hW : LWd D A s.heap ad ca σ H locs)
    (go : ∀ (σ2 : TM) (V2 : TVw) H1 locs1, WW σ2 V2 → LWd D A s.heap ad ca σ2 H1 locs1 → W p l e R s m args below meth c H1 locs1 cells slots Q (F0 m 1710 ls [])) : W p l e R s m args below meth c H locs cells slots Q (F0 m 1461 ls []) := by
  obtain ⟨hx, hb, -⟩ := id Z
  have hT := two_all (d := 0) hWW (fun k => (xs (i + k)).toInt) (fun k => R32_toInt _) (l_lg (xs (i + 3)) (xs (i + 4))).toInt 37 (by decide)
  have hok := las_ok (hs := zhs) (s1 := fun k => (xs (i + k)).toInt) (l1 := (l_lg (xs (i + 3)) (xs (i + 4))).toInt) (fun k => R32_toInt _) (R64_toInt _) 37 (by decide)
  have hlv : (las 37 (fun k => (xs (i + k)).toInt) (l_lg (xs (i + 3)) (xs (i + 4))).toInt).map (t_cv ad) = [.int (xs (i + 1)), .int (xs (i + 2)), .long (l_lg (xs (i + 3)) (xs (i + 4)))] := by
    simp only [las, List.map_cons, List.map_nil, t_cv, Int32.ofInt_toInt, Int64.ofInt_toInt]
  have hkd := l_kd (c := 37) (by decide)
  rcases hkd with ⟨h, -⟩ | ⟨-, hkd⟩
  · exact absurd h (by decide)
  · refine l_core (pc := 1461) (pa := 1492) (pb := 1526) Z hC hl hT (lf1 37 (by decide)) (lf2 37 (by decide)) rfl hok (Or.inl hkd) (by decide) hroom hcs dl_1461 (fun H locs st hS h => ?_) dl_1492 dl_1495 (fun H locs st hS h => ?_) dl_1526 hW (fun r σ2 V2 H1 locs1 hWW2 hW2 r1 r2 => ?_)
    · rw [hlv] at h
      exact l_l1 Z (lv_at hl 3 rfl) (lv_at hl 0 rfl) hi H locs st hS h
    · rw [hlv] at h
      exact l_l2 Z (lv_at hl 3 rfl) (lv_at hl 0 rfl) hi H locs st hS h
    · obtain ⟨x, rfl⟩ := r1 hkd.1
      exact lv_icmp_eq (tgt := 1710) hx hb dl_1529 (by decide) (fun _ => go σ2 V2 H1 locs1 hWW2 hW2) (fun hne => absurd rfl hne)
end LAW
