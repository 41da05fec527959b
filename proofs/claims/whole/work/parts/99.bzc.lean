-- constructors: their contracts, calls of them, loops that make
def Zct (l : Launch) (D : va_G) (ca : Nat → ClassId) (y : MethodName) (b : ByteArray) (nl fr lc mc ms c' : Nat) (fs0 : List Value) (a : Nat) (out : va_W) : Prop := Met l y (.code y b nl none :: gw) { frames := fr, cells := mc, slots := ms, locals := lc } (va_Pc [.ref a] (fun U => U.heap.size = a + 1 ∧ va_P D vwCl [(a, .inr (c', fs0))] U.heap ∧ va_K D vwCl (tyl ca) U ∧ zAO U)) (va_Qv (fun _ : Unit => True) (fun _ t => t.heap.size = a + 1 + mc ∧ va_P D vwCl out t.heap ∧ va_D (fun q => a ≤ q) out) (fun q => a ≤ q)) mc ms (fun q => a ≤ q)
theorem zct_of {l : Launch} {D : va_G} {ca : Nat → ClassId} {y : MethodName} {b : ByteArray} {nl fr lc mc ms c' own : Nat} {fs0 : List Value} {a : Nat} {out : va_W} (hy : y.name = "<init>") (hcls : y.cls = cn own) (hpl : plainName y.cls = true) (hnl : 1 ≤ nl)
    (body : ∀ (p : Program) (e : Env) (s : State) (m : MethodId) (args : Array Value) (below : List Frame) (meth : Method) (c : Code) (Q : State → Prop), Zc p s m args meth c b own D ca (fun q => a ≤ q) → c.maxLocals = nl →
      (∀ (pc : Nat) (ls : Array Slot) (H : Heap) (locs : List Loc), decode b pc = .ok (.return_, 1) → Wd D (fun q => a ≤ q) s.heap out H locs (a + 1 + mc) → W p l e { frames := fr, cells := mc, slots := ms, locals := lc } s m args below meth c H locs mc ms Q (F0 m pc ls [])) →
      ∀ (ls : Array Slot) (H : Heap), lv_has ls nl [(0, .ref a)] → Wd D (fun q => a ≤ q) s.heap [(a, .inr (c', fs0))] H [] (a + 1) → W p l e { frames := fr, cells := mc, slots := ms, locals := lc } s m args below meth c H [] 0 0 Q (F0 m 0 ls [])) : Zct l D ca y b nl fr lc mc ms c' fs0 a out := by
  refine Met.ofW (cc := b) (maxL := nl) (ret := none) hpl rfl ?_
  intro p e s m args below meth c s₁ B hml hv
  obtain ⟨rfl, hsz, hP, hK, hAO⟩ := hv
  have hts := atoms_spec (ws := .code y b nl none :: gw) B.pre
  have hown : s.vm.findClass (cn own) = some m.cls := by rw [← hcls]; exact findClass_of_methodNamed B.named
  have hin : meth.name = "<init>" := (name_of_methodNamed B.named B.method).1.trans hy
  have hl := lv_entry ([.ref a]) (n := nl) hnl
  rw [lg_entry_eq]
  generalize (lg_sl ([.ref a]) ++ List.replicate (nl - (lg_sl ([.ref a])).length) Slot.unset).toArray = ls at hl ⊢
  have hl : lv_has ls nl [(0, .ref a)] := hl
  refine body p e s m _ below meth c _ ⟨B.exec, B.bytes, fun w h1 h2 => hts w (List.mem_cons_of_mem _ (gw_in h1 h2)), hown, hK, fun q h => by omega, hin, hAO⟩ hml (fun pc ls H locs hd hW => ?_) ls s.heap hl ⟨hsz, hP, ⟨fun i j x y hi hj _ => ?_, fun k q hk => ?_⟩, va_S.rf⟩
  · obtain ⟨hz, hP2, hD2, hS2⟩ := hW
    exact W.vret B.exec B.bytes B.returns (fun t ht hW => ⟨⟨(), rfl, trivial, by rw [ht]; exact hz, by rw [ht]; exact hP2, hD2⟩, hS2.F ht⟩) hS2.2.2 hd B.notSynchronized
  · have h1 := (List.getElem?_eq_some_iff.mp hi).1
    have h2 := (List.getElem?_eq_some_iff.mp hj).1
    simp only [List.length_singleton] at h1 h2
    omega
  · have h1 := (List.getElem?_eq_some_iff.mp hk).1
    simp only [List.length_singleton] at h1
    rw [show k = 0 by omega] at hk
    cases hk
    exact Nat.le_refl a
/-- a link to a constructor, plain or of a nest mate -/
def zlk (own : String) (idx : Nat) (y : MethodName) : Prop := Cond.methodLink own idx y ∈ lw_tbl ∨ ∃ host : String, Cond.methodLinkNest own idx y host ∈ lw_tbl
section MK
variable {p : Program} {l : Launch} {e : Env} {R : Room} {s : State} {m : MethodId} {args : Array Value} {below : List Frame} {meth : Method} {c : Code} {cells slots : Nat}
variable {D : va_G} {ca : Nat → ClassId} {A : Nat → Prop} {Q : State → Prop} {cc : ByteArray} {pc n own : Nat} {ls : Array Slot} {rest : List Value} {ws : va_W} {H : Heap} {locs : List Loc}
theorem z_call {y : MethodName} {b : ByteArray} {nl fr lc mc ms c' a idx nL : Nat} {fs0 : List Value} {out : va_W} {ow : String} (hx : p.tables.exec = Jvm.exec) (hb : c.code = cc) (hml : c.maxLocals = nL) (hls : ls.size = nL) (hwsx : ∀ w ∈ gw, w.before args s = true) (hown : s.vm.findClass ow = some m.cls) (hKt : va_K D vwCl (tyl ca) s) (hA : ∀ q, s.heap.size ≤ q → A q) (hAO : zAO s)
    (hM : Zct l D ca y b nl fr lc mc ms c' fs0 a out) (hy : y.name = "<init>") (hd2 : y.cls ≠ "java/lang/invoke/MethodHandle" ∧ y.cls ≠ "java/lang/invoke/VarHandle" ∧ (parseMethodDescriptor y.desc).map (fun d => d.parameters.length) = some 0)
    (hlk : zlk ow idx y) (hins : Cond.instanceMethod y ∈ lw_tbl) (hini : Cond.initialized y.cls ∈ lw_tbl) (hcode : Cond.code y b nl none ∈ lw_tbl) (hcat : (rest.map fun v => v.category).sum ≤ 8) (hroom : fr + 1 ≤ R.frames ∧ 8 + (nl + 11) + lc ≤ R.locals) (hcs : cells + mc ≤ R.cells ∧ slots + ms ≤ R.slots) (hd : decode cc pc = .ok (.invokespecial idx, 3)) (hW : Wd D A s.heap (ws ++ [(a, .inr (c', fs0))]) H locs (a + 1))
    (kk : ∀ H1 locs1, Wd D A s.heap (ws ++ out) H1 locs1 (a + 1 + mc) → W p l e R s m args below meth c H1 locs1 (cells + mc) (slots + ms) Q (F0 m (pc + 3) ls rest)) : W p l e R s m args below meth c H locs cells slots Q (F0 m pc ls (.ref a :: rest)) := by
  obtain ⟨hz, hP, hD, hS⟩ := hW
  have hlast : (ws ++ [(a, .inr (c', fs0))])[ws.length]? = some (a, .inr (c', fs0)) := by rw [List.getElem?_append_right (Nat.le_refl _), Nat.sub_self]; rfl
  have hAa : A a := hD.2 _ _ hlast
  have hA2 : ∀ q, a ≤ q → A q := fun q h => by
    rcases Nat.lt_or_ge a q with h1 | h1
    · have := hS.1
      exact hA q (by omega)
    · rw [show q = a by omega]; exact hAa
  have hlt : ∀ (k : Nat) (x : Nat × va_E), ws[k]? = some x → x.1 < a := fun k x hk => by
    have hkl := (List.getElem?_eq_some_iff.mp hk).1
    have h1 : (ws ++ [(a, .inr (c', fs0))])[k]? = some x := by rw [List.getElem?_append_left hkl]; exact hk
    have h2 := (hP k x h1).lt
    have h3 : x.1 ≠ a := fun q => by
      have := hD.1 k ws.length x _ h1 hlast q
      omega
    omega
  have hPw : va_P D vwCl ws H := fun k x hk => hP k x (by rw [List.getElem?_append_left (List.getElem?_eq_some_iff.mp hk).1]; exact hk)
  have hDw : va_D A ws := ⟨fun i j x y hi hj => hD.1 i j x y (by rw [List.getElem?_append_left (List.getElem?_eq_some_iff.mp hi).1]; exact hi) (by rw [List.getElem?_append_left (List.getElem?_eq_some_iff.mp hj).1]; exact hj), fun k x hk => hD.2 k x (by rw [List.getElem?_append_left (List.getElem?_eq_some_iff.mp hk).1]; exact hk)⟩
  have hPc : ∀ U : State, U.heap = H → s.WarmedH U.vm → va_Pc [.ref a] (fun U => U.heap.size = a + 1 ∧ va_P D vwCl [(a, .inr (c', fs0))] U.heap ∧ va_K D vwCl (tyl ca) U ∧ zAO U) (Value.ref a :: ([] : List Value)).toArray U := fun U hU hWm => ⟨rfl, by rw [hU]; exact hz, by
    rw [hU]
    intro k x hk
    have h1 := (List.getElem?_eq_some_iff.mp hk).1
    simp only [List.length_singleton] at h1
    rw [show k = 0 by omega] at hk
    cases hk
    exact hP _ _ hlast, va_K.moved hWm.alike hKt, hAO.warm hWm⟩
  have hGG : ∀ w ∈ (.code y b nl none :: gw : List Cond), w ∈ gw := by
    intro w hw
    rcases List.mem_cons.mp hw with rfl | hw
    · exact gw_in hcode rfl
    · exact hw
  have hpre : PreS s H (va_Pc [.ref a] (fun U => U.heap.size = a + 1 ∧ va_P D vwCl [(a, .inr (c', fs0))] U.heap ∧ va_K D vwCl (tyl ca) U ∧ zAO U)) (.ref a :: ([] : List Value)) := by
    refine ⟨fun a2 U g mk q => ?_, hPc⟩
    obtain ⟨q0, q1, qP, qK, qA⟩ := q
    exact ⟨q0, q1, qP, va_K.moved (u := U) (U := U.calling g mk a2) (Vm.Alike.refl U.vm) qK, qA.blind⟩
  have hrun : va_Run p l e R s m args below meth c H locs cells slots mc ms (F0 m pc ls (.ref a :: rest)) rest (va_Qv (fun _ : Unit => True) (fun _ t => t.heap.size = a + 1 + mc ∧ va_P D vwCl out t.heap ∧ va_D (fun q => a ≤ q) out) (fun q => a ≤ q) (.ref a :: ([] : List Value)).toArray) (fun q => a ≤ q) := by
    rcases hlk with hlk | ⟨host, hlk⟩
    · exact va_runI (As := []) (rest := rest) ⟨hx, hb, hml, hown, hwsx⟩ hM (cwI 0 hwsx (gw_good hGG) rfl rfl rfl (hwsx _ (gw_in hini rfl)) (hwsx _ (gw_in hlk rfl)) (hwsx _ (gw_in hins rfl)) hy hd2 hroom) hpre rfl rfl hls rfl (lv_room hcat) hd hcs
    · exact va_runIN (As := []) (rest := rest) ⟨hx, hb, hml, hown, hwsx⟩ hM ⟨va_cnB 0 hwsx (gw_good hGG) rfl rfl rfl (hAO.2 _ _ _ _ hlk) (hwsx _ (gw_in hini rfl)) hd2 hroom, hy, hwsx _ (gw_in hins rfl)⟩ hpre rfl rfl hls rfl (lv_room hcat) hd hcs
  refine va_callv hrun hS (fun q _ h => hA2 q h) hA2 (fun u t H1 locs1 ht hvm hw hB hz1 hk1 hS1 => ?_)
  · obtain ⟨b1, b2, b3⟩ := hB
    rw [ht] at b1 b2
    refine kk H1 locs1 ⟨b1, va_P.app (hPw.kept fun k x hk => hk1 x.1 (by have := hlt k x hk; omega) (by have := hlt k x hk; omega)) b2, va_D.app hDw ⟨b3.1, fun k x hk => hA2 _ (b3.2 k x hk)⟩ (fun i j x y hi hj hxy => ?_), hS1⟩
    have h1 := hlt i x hi
    have h2 := b3.2 j y hj
    omega
/-- a whole number into a field of this -/
theorem z_i {c' idx s' a pc2 : Nat} {b : Bool} {fs : List Value} {w : va_W} {v : Int32} {ty : FieldType} (Z : Zc p s m args meth c cc own D ca A) (h0 : ls[0]? = some (.val (.ref a))) (hd0 : decode cc pc = .ok (.aload_n 0, 1)) (hp : Zp p l e R s m args below meth c Q (pc + 1) pc2 v) (hl : t_look (tb_f own) idx = some (c', s', b)) (h12 : c' ≤ 12) (hlen : s' < fs.length) (ho : (vT c' s').2.2.2 = true → (vT c' s').1 = cn own) (hty : parseFieldDescriptor (vT c' s').2.2.1 = some ty) (hn : narrow ty (.int v) = .int v) (hfit : fits ty (.int v) = true) (hdg : decode cc pc2 = .ok (.putfield idx, 3)) (hW : Wd D A s.heap ((a, .inr (c', fs)) :: w) H locs n)
    (kk : ∀ H1 locs1, Wd D A s.heap ((a, .inr (c', fs.set s' (.int v))) :: w) H1 locs1 n → W p l e R s m args below meth c H1 locs1 cells slots Q (F0 m (pc2 + 3) ls rest)) : W p l e R s m args below meth c H locs cells slots Q (F0 m pc ls rest) := by
  obtain ⟨hx, hb, ht, hown, hKt, hA, hmn, hAO⟩ := Z
  refine lv_aload_n hx hb hd0 rfl h0 ?_
  refine hp _ _ _ _ _ _ ?_
  exact z_put hx hb ht hown hKt hmn hl h12 hlen ho hty hn hfit (q0 := 0) rfl hdg hW kk
/-- a new array into a field of this -/
theorem z_a {c' idx s' a pc2 srt N : Nat} {b : Bool} {fs : List Value} {w : va_W} {v : Int32} {ty : FieldType} (Z : Zc p s m args meth c cc own D ca A) (h0 : ls[0]? = some (.val (.ref a))) (hd0 : decode cc pc = .ok (.aload_n 0, 1)) (hp : Zp p l e R s m args below meth c Q (pc + 1) pc2 v) (h3 : srt < 3) (hw : Cond.arrayClass (zty srt) ∈ lw_tbl) (hn : ¬ v < 0) (hN : v.toNatClampNeg = N) (hN2 : N ≤ 5000) (hcells : cells + 1 ≤ R.cells) (hslots : slots + N ≤ R.slots) (hdn : decode cc pc2 = .ok (.newarray (zaty srt), 2))
    (hl : t_look (tb_f own) idx = some (c', s', b)) (h12 : c' ≤ 12) (hlen : s' < fs.length) (ho : (vT c' s').2.2.2 = true → (vT c' s').1 = cn own) (hty : parseFieldDescriptor (vT c' s').2.2.1 = some (.array ty)) (hdg : decode cc (pc2 + 2) = .ok (.putfield idx, 3)) (hW : Wd D A s.heap ((a, .inr (c', fs)) :: w) H locs n)
    (kk : ∀ H1 locs1, Wd D A s.heap ((a, .inr (c', fs.set s' (.ref n))) :: (w ++ [(n, .inl (ca srt, zar srt N))])) H1 locs1 (n + 1) → W p l e R s m args below meth c H1 locs1 (cells + 1) (slots + N) Q (F0 m (pc2 + 2 + 3) ls rest)) : W p l e R s m args below meth c H locs cells slots Q (F0 m pc ls rest) := by
  obtain ⟨hx, hb, ht, hown, hKt, hA, hmn, hAO⟩ := Z
  refine lv_aload_n hx hb hd0 rfl h0 ?_
  refine hp _ _ _ _ _ _ ?_
  refine z_arr hx hb ht hKt hA h3 hw hn hN hN2 hcells hslots hdn hW (fun H1 hW1 => ?_)
  exact z_put hx hb ht hown hKt hmn hl h12 hlen ho hty rfl rfl (q0 := 0) rfl hdg hW1 kk
/-- a new array of objects into a field of this -/
theorem z_q {c' idx idx2 s' a pc2 j N : Nat} {C : String} {b : Bool} {fs : List Value} {w : va_W} {v : Int32} {ty : FieldType} (Z : Zc p s m args meth c cc own D ca A) (h0 : ls[0]? = some (.val (.ref a))) (hd0 : decode cc pc = .ok (.aload_n 0, 1)) (hp : Zp p l e R s m args below meth c Q (pc + 1) pc2 v) (hj : (tyl ca)[j]? = some (ca j, .object C)) (hcl : Cond.classLink (cn own) idx2 C ∈ lw_tbl) (hov : Cond.arrayOver (.object C) ∈ lw_tbl) (hn : ¬ v < 0) (hN : v.toNatClampNeg = N) (hN2 : N ≤ 5000) (hcells : cells + 1 ≤ R.cells) (hslots : slots + N ≤ R.slots) (hdn : decode cc pc2 = .ok (.anewarray idx2, 3))
    (hl : t_look (tb_f own) idx = some (c', s', b)) (h12 : c' ≤ 12) (hlen : s' < fs.length) (ho : (vT c' s').2.2.2 = true → (vT c' s').1 = cn own) (hty : parseFieldDescriptor (vT c' s').2.2.1 = some (.array ty)) (hdg : decode cc (pc2 + 3) = .ok (.putfield idx, 3)) (hW : Wd D A s.heap ((a, .inr (c', fs)) :: w) H locs n)
    (kk : ∀ H1 locs1, Wd D A s.heap ((a, .inr (c', fs.set s' (.ref n))) :: (w ++ [(n, .inl (ca j, N, .inr (.inr (.inr (.inr fun _ => none)))))])) H1 locs1 (n + 1) → W p l e R s m args below meth c H1 locs1 (cells + 1) (slots + N) Q (F0 m (pc2 + 3 + 3) ls rest)) : W p l e R s m args below meth c H locs cells slots Q (F0 m pc ls rest) := by
  obtain ⟨hx, hb, ht, hown, hKt, hA, hmn, hAO⟩ := Z
  refine lv_aload_n hx hb hd0 rfl h0 ?_
  refine hp _ _ _ _ _ _ ?_
  refine z_anew hx hb ht hown hKt hA hj hcl (hAO.1 _ hov) hn hN hN2 hcells hslots hdn hW (fun H1 hW1 => ?_)
  exact z_put hx hb ht hown hKt hmn hl h12 hlen ho hty rfl rfl (q0 := 0) rfl hdg hW1 kk
theorem Wd.re {H0 : Heap} {q0 a : Nat} {e0 e1 : va_E} (h : Wd D A H0 ws H locs n) (he : ws[q0]? = some (a, e0)) (hh : va_at D vwCl (a, e0) H → va_at D vwCl (a, e1) H) : Wd D A H0 (ws.set q0 (a, e1)) H locs n := by
  obtain ⟨hz, hP, hD, hS⟩ := h
  exact ⟨hz, hP.set hD he (hh (hP _ _ he)) (fun _ _ => rfl), hD.set he, hS⟩
theorem arrV_congr {cA : ClassId} {N : Nat} {f g : Nat → Value} (h : ∀ j, j < N → f j = g j) : arrV cA N f = arrV cA N g := by
  have e : (fun j : Fin N => f j.val) = fun j => g j.val := funext fun j => h j.val j.isLt
  unfold arrV
  rw [e]
set_option maxHeartbeats 4000000 in
/-- a row filled with one number -/
theorem z_fill {c' idx s' a qa aA N pcx pc1 nL : Nat} {b : Bool} {fs : List Value} {v : Int32} {k o1 o2 : Int} {f0 : Nat → Int32} (Z : Zc p s m args meth c cc own D ca A) (hnL : 1 < nL) (hN : N < 2 ^ 31) (d0 : decode cc pc = .ok (.iload_n 1, 1)) (hpN : Zp p l e R s m args below meth c Q (pc + 1) pc1 (nI N)) (d1 : decode cc pc1 = .ok (.if_icmp .ge o1, 3)) (t1 : (pc1 : Int) + o1 = (pcx : Int)) (d2 : decode cc (pc1 + 3) = .ok (.aload_n 0, 1)) (d3 : decode cc (pc1 + 3 + 1) = .ok (.getfield idx, 3)) (d4 : decode cc (pc1 + 3 + 1 + 3) = .ok (.iload_n 1, 1)) (d5 : decode cc (pc1 + 3 + 1 + 3 + 1) = .ok (.iconst k, 1)) (hk : Int32.ofInt k = v) (d6 : decode cc (pc1 + 3 + 1 + 3 + 1 + 1) = .ok (.iastore, 1)) (d7 : decode cc (pc1 + 3 + 1 + 3 + 1 + 1 + 1) = .ok (.iinc 1 1, 3)) (d8 : decode cc (pc1 + 3 + 1 + 3 + 1 + 1 + 1 + 3) = .ok (.goto o2, 3)) (t2 : ((pc1 + 3 + 1 + 3 + 1 + 1 + 1 + 3 : Nat) : Int) + o2 = (pc : Int)) (hl : t_look (tb_f own) idx = some (c', s', b)) (h12 : c' ≤ 12) (hob : ws[0]? = some (a, .inr (c', fs))) (hfs : fs[s']? = some (.ref aA)) (harr : ws[qa]? = some (aA, .inl (ca 0, N, .inl f0))) (hq0 : qa ≠ 0)
    (kk : ∀ (H : Heap) (locs : List Loc) (ls : Array Slot), lv_has ls nL [(1, .int (nI N)), (0, .ref a)] → Wd D A s.heap (ws.set qa (aA, .inl (ca 0, N, .inl (fun j => if j < N then v else f0 j)))) H locs n → W p l e R s m args below meth c H locs cells slots Q (F0 m pcx ls [])) :
    ∀ (r i : Nat), i + r = N → ∀ (H : Heap) (locs : List Loc) (ls : Array Slot), lv_has ls nL [(1, .int (nI i)), (0, .ref a)] → Wd D A s.heap (ws.set qa (aA, .inl (ca 0, N, .inl (fun j => if j < i then v else f0 j)))) H locs n → W p l e R s m args below meth c H locs cells slots Q (F0 m pc ls []) := by
  obtain ⟨hx, hb, ht, hown, hKt, hA, hmn, hAO⟩ := id Z
  have hlq := (List.getElem?_eq_some_iff.mp harr).1
  intro r
  induction r with
  | zero =>
    intro i hi H locs ls hL hW
    have hi : i = N := hi
    subst hi
    refine lv_iload_n hx hb d0 rfl (lv_at hL 0 rfl) ?_
    refine hpN _ _ _ _ _ _ ?_
    exact lv_icmp_ge hx hb d1 t1 (fun _ => kk H locs ls hL hW) (fun q => absurd (nI_le (Nat.le_refl i) hN) q)
  | succ r ih =>
    intro i hi H locs ls hL hW
    have hiN : i < N := by omega
    refine lv_iload_n hx hb d0 rfl (lv_at hL 0 rfl) ?_
    refine hpN _ _ _ _ _ _ ?_
    refine lv_icmp_ge hx hb d1 t1 (fun q => absurd q (nI_ge hiN hN)) (fun _ => ?_)
    refine lv_aload_n hx hb d2 rfl (lv_at hL 1 rfl) ?_
    refine z_get hx hb ht hown hKt hl h12 hfs (q0 := 0) (by rw [List.getElem?_set_ne hq0]; exact hob) d3 hW ?_
    refine lv_iload_n hx hb d4 rfl (lv_at hL 0 rfl) ?_
    refine lv_iconst hx hb d5 hk ?_
    refine z_ist hx hb hKt (q0 := qa) (by rw [List.getElem?_set_self hlq]) (vp_in_nI hiN hN) d6 hW (fun H1 locs1 hW1 => ?_)
    rw [List.set_set] at hW1
    refine lv_iinc (v := nI (i + 1)) (lv' := [(1, .int (nI (i + 1))), (0, .ref a)]) hx hb d7 hL (k := 0) rfl (nI_succ i).symm hnL rfl (fun ls1 hL1 => ?_)
    refine lv_goto hx hb d8 t2 ?_
    refine ih (i + 1) (by omega) H1 locs1 ls1 hL1 ?_
    have e : upd (fun j => if j < i then v else f0 j) (nI i).toNatClampNeg v = fun j => if j < i + 1 then v else f0 j := by
      rw [nI_clamp (by omega)]
      funext j
      unfold upd
      by_cases h1 : j = i
      · rw [if_pos h1, if_pos (by omega)]
      · rw [if_neg h1]
        dsimp only
        by_cases h2 : j < i
        · rw [if_pos h2, if_pos (by omega)]
        · rw [if_neg h2, if_neg (by omega)]
    rw [e] at hW1
    exact hW1
theorem Wd.perm {H0 : Heap} {w2 : va_W} (h : Wd D A H0 ws H locs n) (hp : ws.Perm w2) : Wd D A H0 w2 H locs n := by
  obtain ⟨hz, hP, hD, hS⟩ := h
  have mem : ∀ q ∈ w2, q ∈ ws := fun q hq => hp.mem_iff.mpr hq
  have nd : (ws.map Prod.fst).Nodup := by
    rw [List.Nodup, List.pairwise_iff_getElem]
    intro i j hi hj hij e
    simp only [List.length_map] at hi hj
    simp only [List.getElem_map] at e
    have := hD.1 i j _ _ (List.getElem?_eq_getElem hi) (List.getElem?_eq_getElem hj) e
    omega
  have nd2 : (w2.map Prod.fst).Nodup := (hp.map Prod.fst).nodup_iff.mp nd
  refine ⟨hz, fun k q hk => ?_, ⟨fun i j x y hi hj hxy => ?_, fun k q hk => ?_⟩, hS⟩
  · obtain ⟨i, hi⟩ := List.getElem?_of_mem (mem q (List.mem_of_getElem? hk))
    exact hP i q hi
  · have h1 : (w2.map Prod.fst)[i]? = some x.1 := by rw [List.getElem?_map, hi]; rfl
    have h2 : (w2.map Prod.fst)[j]? = some x.1 := by rw [List.getElem?_map, hj, hxy]; rfl
    exact (List.getElem?_inj (List.getElem?_eq_some_iff.mp h1).1 nd2).mp (h1.trans h2.symm)
  · obtain ⟨i, hi⟩ := List.getElem?_of_mem (mem q (List.mem_of_getElem? hk))
    exact hD.2 i q hi
theorem set_same {α : Type} {l : List α} {i : Nat} {x : α} (h : l[i]? = some x) : l.set i x = l := by
  apply List.ext_getElem?
  intro j
  by_cases hj : j = i
  · subst hj
    rw [List.getElem?_set_self (List.getElem?_eq_some_iff.mp h).1, h]
  · rw [List.getElem?_set_ne (Ne.symm hj)]
theorem Wd.ent {H0 : Heap} {F : va_W} {qa aA st n0 : Nat} {ct : ClassId} {N : Nat} {out : Nat → va_W} (h : Wd D A H0 (ws ++ F) H locs n0) (harr : ws[qa]? = some (aA, .inl (ct, N, .inr (.inr (.inr (.inr fun _ => none)))))) : Wd D A H0 (ws.set qa (aA, .inl (ct, N, .inr (.inr (.inr (.inr (fun j => if j < 0 then some (n0 + st * j) else none)))))) ++ (F ++ (List.range 0).flatMap out)) H locs (n0 + st * 0) := by
  have e : (fun j => if j < 0 then some (n0 + st * j) else none) = fun _ : Nat => (none : Option Nat) := funext fun j => if_neg (Nat.not_lt_zero j)
  rw [e, set_same harr]
  simpa using h
/-- a new object into a field of this -/
theorem z_n {y : MethodName} {b2 : ByteArray} {nl fr lc mc ms cT kT idx2 idx3 c' idx s' a nL : Nat} {rT : KRow} {b : Bool} {fs : List Value} {ty : FieldType} {w : va_W} {out : Nat → va_W} (Z : Zc p s m args meth c cc own D ca A) (hml : c.maxLocals = nL) (hls : ls.size = nL) (h0 : ls[0]? = some (.val (.ref a))) (hd0 : decode cc pc = .ok (.aload_n 0, 1)) (d1 : decode cc (pc + 1) = .ok (.new idx2, 3)) (d2 : decode cc (pc + 1 + 3) = .ok (.dup, 1)) (d3 : decode cc (pc + 1 + 3 + 1) = .ok (.invokespecial idx3, 3)) (d4 : decode cc (pc + 1 + 3 + 1 + 3) = .ok (.putfield idx, 3))
    (hkT : zchk kT = true) (hrT : t_nth tb_kinds kT = some rT) (hcT : rT.1 = some cT) (hT12 : cT ≤ 12) (hcl : Cond.classLink (cn own) idx2 (cn cT) ∈ lw_tbl) (hin : Cond.instantiable (cn cT) (vN cT) ∈ lw_tbl) (hini : Cond.initialized (cn cT) ∈ lw_tbl)
    (hM : ∀ q, Zct l D ca y b2 nl fr lc mc ms cT (zfs rT.2.1) q (out q)) (hy : y.name = "<init>") (hyc : y.cls = cn cT) (hd2 : y.cls ≠ "java/lang/invoke/MethodHandle" ∧ y.cls ≠ "java/lang/invoke/VarHandle" ∧ (parseMethodDescriptor y.desc).map (fun d => d.parameters.length) = some 0)
    (hlk : zlk (cn own) idx3 y) (hins : Cond.instanceMethod y ∈ lw_tbl) (hcode : Cond.code y b2 nl none ∈ lw_tbl) (hroom : fr + 1 ≤ R.frames ∧ 8 + (nl + 11) + lc ≤ R.locals) (hcs : cells + 1 + mc ≤ R.cells ∧ slots + vN cT + ms ≤ R.slots)
    (hl : t_look (tb_f own) idx = some (c', s', b)) (h12 : c' ≤ 12) (hlen : s' < fs.length) (ho : (vT c' s').2.2.2 = true → (vT c' s').1 = cn own) (hty : parseFieldDescriptor (vT c' s').2.2.1 = some ty) (hnr : ∀ q, narrow ty (.ref q) = .ref q ∧ fits ty (.ref q) = true) (hrest : (rest.map fun v => v.category).sum ≤ 6) (hW : Wd D A s.heap ((a, .inr (c', fs)) :: w) H locs n)
    (kk : ∀ H1 locs1, Wd D A s.heap ((a, .inr (c', fs.set s' (.ref n))) :: (w ++ out n)) H1 locs1 (n + 1 + mc) → W p l e R s m args below meth c H1 locs1 (cells + 1 + mc) (slots + vN cT + ms) Q (F0 m (pc + 1 + 3 + 1 + 3 + 3) ls rest)) : W p l e R s m args below meth c H locs cells slots Q (F0 m pc ls rest) := by
  obtain ⟨hx, hb, ht, hown, hKt, hA, hmn, hAO⟩ := id Z
  refine lv_aload_n hx hb hd0 rfl h0 ?_
  refine z_new hx hb ht hown hKt hA hkT hrT hcT hT12 hcl hin hini (by omega) (by omega) d1 hW (fun H1 hW1 => ?_)
  refine lv_dup hx hb d2 rfl ?_
  refine z_call hx hb hml hls (HT.ws ht) hown hKt hA hAO (hM n) hy hd2 hlk hins (by rw [hyc]; exact hini) hcode ?_ hroom hcs d3 hW1 (fun H2 locs2 hW2 => ?_)
  · show 1 + (1 + (rest.map fun v => v.category).sum) ≤ 8
    omega
  · exact z_put hx hb ht hown hKt hmn hl h12 hlen ho hty (hnr n).1 (hnr n).2 (q0 := 0) rfl d4 hW2 kk
set_option maxHeartbeats 4000000 in
/-- a row of new objects -/
theorem z_loop {y : MethodName} {b2 : ByteArray} {nl fr lc mc ms cT kT idx2 idx3 tj st n0 c' idx s' a qa aA N pcx pc1 nL : Nat} {rT : KRow} {b : Bool} {fs : List Value} {vs : Nat → List Value} {o1 o2 : Int} {out : Nat → va_W} {F : va_W} (Z : Zc p s m args meth c cc own D ca A) (hml : c.maxLocals = nL) (hnL : 1 < nL) (hN : N < 2 ^ 31) (d0 : decode cc pc = .ok (.iload_n 1, 1)) (hpN : Zp p l e R s m args below meth c Q (pc + 1) pc1 (nI N)) (d1 : decode cc pc1 = .ok (.if_icmp .ge o1, 3)) (t1 : (pc1 : Int) + o1 = (pcx : Int)) (d2 : decode cc (pc1 + 3) = .ok (.aload_n 0, 1)) (d3 : decode cc (pc1 + 3 + 1) = .ok (.getfield idx, 3)) (d4 : decode cc (pc1 + 3 + 1 + 3) = .ok (.iload_n 1, 1)) (d5 : decode cc (pc1 + 3 + 1 + 3 + 1) = .ok (.new idx2, 3)) (d5b : decode cc (pc1 + 3 + 1 + 3 + 1 + 3) = .ok (.dup, 1)) (d5c : decode cc (pc1 + 3 + 1 + 3 + 1 + 3 + 1) = .ok (.invokespecial idx3, 3)) (d6 : decode cc (pc1 + 3 + 1 + 3 + 1 + 3 + 1 + 3) = .ok (.aastore, 1)) (d7 : decode cc (pc1 + 3 + 1 + 3 + 1 + 3 + 1 + 3 + 1) = .ok (.iinc 1 1, 3)) (d8 : decode cc (pc1 + 3 + 1 + 3 + 1 + 3 + 1 + 3 + 1 + 3) = .ok (.goto o2, 3)) (t2 : ((pc1 + 3 + 1 + 3 + 1 + 3 + 1 + 3 + 1 + 3 : Nat) : Int) + o2 = (pc : Int)) (hl : t_look (tb_f own) idx = some (c', s', b)) (h12 : c' ≤ 12) (hob : ws[0]? = some (a, .inr (c', fs))) (hfs : fs[s']? = some (.ref aA)) (harr : ws[qa]? = some (aA, .inl (ca tj, N, .inr (.inr (.inr (.inr fun _ => none)))))) (hq0 : qa ≠ 0)
    (hkT : zchk kT = true) (hrT : t_nth tb_kinds kT = some rT) (hcT : rT.1 = some cT) (hT12 : cT ≤ 12) (hcl : Cond.classLink (cn own) idx2 (cn cT) ∈ lw_tbl) (hin : Cond.instantiable (cn cT) (vN cT) ∈ lw_tbl) (hini : Cond.initialized (cn cT) ∈ lw_tbl)
    (hM : ∀ i, i < N → Zct l D ca y b2 nl fr lc mc ms cT (zfs rT.2.1) (n0 + st * i) (out i)) (hout : ∀ i, i < N → (out i)[0]? = some (n0 + st * i, .inr (cT, vs i))) (hst : mc + 1 = st) (hty : (tyl ca)[tj]? = some (ca tj, .object (cn cT))) (hy : y.name = "<init>") (hyc : y.cls = cn cT) (hd2 : y.cls ≠ "java/lang/invoke/MethodHandle" ∧ y.cls ≠ "java/lang/invoke/VarHandle" ∧ (parseMethodDescriptor y.desc).map (fun d => d.parameters.length) = some 0)
    (hlk : zlk (cn own) idx3 y) (hins : Cond.instanceMethod y ∈ lw_tbl) (hcode : Cond.code y b2 nl none ∈ lw_tbl) (hroom : fr + 1 ≤ R.frames ∧ 8 + (nl + 11) + lc ≤ R.locals) (hcs : cells + N * st ≤ R.cells ∧ slots + N * (vN cT + ms) ≤ R.slots)
    (kk : ∀ (H : Heap) (locs : List Loc) (ls : Array Slot), lv_has ls nL [(1, .int (nI N)), (0, .ref a)] → Wd D A s.heap (ws.set qa (aA, .inl (ca tj, N, .inr (.inr (.inr (.inr (fun j => if j < N then some (n0 + st * j) else none)))))) ++ (F ++ (List.range N).flatMap out)) H locs (n0 + st * N) → W p l e R s m args below meth c H locs (cells + N * st) (slots + N * (vN cT + ms)) Q (F0 m pcx ls [])) :
    ∀ (r i : Nat), i + r = N → ∀ (H : Heap) (locs : List Loc) (ls : Array Slot), lv_has ls nL [(1, .int (nI i)), (0, .ref a)] → Wd D A s.heap (ws.set qa (aA, .inl (ca tj, N, .inr (.inr (.inr (.inr (fun j => if j < i then some (n0 + st * j) else none)))))) ++ (F ++ (List.range i).flatMap out)) H locs (n0 + st * i) → W p l e R s m args below meth c H locs (cells + i * st) (slots + i * (vN cT + ms)) Q (F0 m pc ls []) := by
  obtain ⟨hx, hb, ht, hown, hKt, hA, hmn, hAO⟩ := id Z
  have hlq := (List.getElem?_eq_some_iff.mp harr).1
  intro r
  induction r with
  | zero =>
    intro i hi H locs ls hL hW
    have hi : i = N := hi
    subst hi
    refine lv_iload_n hx hb d0 rfl (lv_at hL 0 rfl) ?_
    refine hpN _ _ _ _ _ _ ?_
    exact lv_icmp_ge hx hb d1 t1 (fun _ => kk H locs ls hL hW) (fun q => absurd (nI_le (Nat.le_refl i) hN) q)
  | succ r ih =>
    intro i hi H locs ls hL hW
    have hiN : i < N := by omega
    have hm1 : (i + 1) * st ≤ N * st := Nat.mul_le_mul_right _ hiN
    have hm2 : (i + 1) * (vN cT + ms) ≤ N * (vN cT + ms) := Nat.mul_le_mul_right _ hiN
    rw [Nat.add_mul, Nat.one_mul] at hm1 hm2
    have hlw : qa < (ws.set qa (aA, (.inl (ca tj, N, .inr (.inr (.inr (.inr (fun j => if j < i then some (n0 + st * j) else none))))) : va_E))).length := by rw [List.length_set]; exact hlq
    refine lv_iload_n hx hb d0 rfl (lv_at hL 0 rfl) ?_
    refine hpN _ _ _ _ _ _ ?_
    refine lv_icmp_ge hx hb d1 t1 (fun q => absurd q (nI_ge hiN hN)) (fun _ => ?_)
    refine lv_aload_n hx hb d2 rfl (lv_at hL 1 rfl) ?_
    refine z_get hx hb ht hown hKt hl h12 hfs (q0 := 0) (by rw [List.getElem?_append_left (by omega), List.getElem?_set_ne hq0]; exact hob) d3 hW ?_
    refine lv_iload_n hx hb d4 rfl (lv_at hL 0 rfl) ?_
    refine z_new hx hb ht hown hKt hA hkT hrT hcT hT12 hcl hin hini (by omega) (by omega) d5 hW (fun H1 hW1 => ?_)
    refine lv_dup hx hb d5b rfl ?_
    refine z_call hx hb hml hL.1 (HT.ws ht) hown hKt hA hAO (hM i hiN) hy hd2 hlk hins (by rw [hyc]; exact hini) hcode (by show 1 + (1 + (1 + 0)) ≤ 8; decide) hroom (by omega) d5c hW1 (fun H2 locs2 hW2 => ?_)
    have hk : ((ws.set qa (aA, (.inl (ca tj, N, .inr (.inr (.inr (.inr (fun j => if j < i then some (n0 + st * j) else none))))) : va_E)) ++ (F ++ (List.range i).flatMap out)) ++ out i)[(ws.set qa (aA, (.inl (ca tj, N, .inr (.inr (.inr (.inr (fun j => if j < i then some (n0 + st * j) else none))))) : va_E)) ++ (F ++ (List.range i).flatMap out)).length]? = some (n0 + st * i, .inr (cT, vs i)) := by
      rw [List.getElem?_append_right (Nat.le_refl _), Nat.sub_self]
      exact hout i hiN
    refine z_ast hx hb hKt (q0 := qa) (t0 := tj) (r := (cn cT, vT cT, vN cT)) (by rw [List.append_assoc, List.getElem?_append_left hlw, List.getElem?_set_self hlq]) hty hk (cls_facts hT12).1 (vp_in_nI hiN hN) d6 hW2 (fun H3 locs3 hW3 => ?_)
    rw [List.append_assoc, List.set_append_left _ _ hlw, List.set_set, List.append_assoc] at hW3
    refine lv_iinc (v := nI (i + 1)) (lv' := [(1, .int (nI (i + 1))), (0, .ref a)]) hx hb d7 hL (k := 0) rfl (nI_succ i).symm hnL rfl (fun ls1 hL1 => ?_)
    refine lv_goto hx hb d8 t2 ?_
    have e : va_up (fun j => if j < i then some (n0 + st * j) else none) (nI i).toNatClampNeg (some (n0 + st * i)) = fun j => if j < i + 1 then some (n0 + st * j) else none := by
      rw [nI_clamp (by omega)]
      funext j
      unfold va_up
      by_cases h1 : j = i
      · rw [if_pos h1, if_pos (by omega), h1]
      · rw [if_neg h1]
        dsimp only
        by_cases h2 : j < i
        · rw [if_pos h2, if_pos (by omega)]
        · rw [if_neg h2, if_neg (by omega)]
    have e2 : (List.range i).flatMap out ++ out i = (List.range (i + 1)).flatMap out := by
      rw [List.range_succ, List.flatMap_append]
      simp
    rw [e, e2] at hW3
    have e3 : n0 + st * i + 1 + mc = n0 + st * (i + 1) := by rw [Nat.mul_add, Nat.mul_one]; omega
    rw [e3] at hW3
    have := ih (i + 1) (by omega) H3 locs3 ls1 hL1 hW3
    have e4 : cells + i * st + 1 + mc = cells + (i + 1) * st := by rw [Nat.add_mul, Nat.one_mul]; omega
    have e5 : slots + i * (vN cT + ms) + vN cT + ms = slots + (i + 1) * (vN cT + ms) := by rw [Nat.add_mul, Nat.one_mul]; omega
    rw [e4, e5]
    exact this
end MK
