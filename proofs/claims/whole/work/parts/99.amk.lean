-- making: new objects and arrays, each at the heap's end
def Wd (D : va_G) (A : Nat → Prop) (H0 : Heap) (ws : va_W) (H : Heap) (locs : List Loc) (n : Nat) : Prop := H.size = n ∧ va_P D vwCl ws H ∧ va_D A ws ∧ va_S A H0 H locs
def zfs : List (Option Nat) → List Value
  | [] => []
  | none :: l => .int 0 :: zfs l
  | some _ :: l => .null :: zfs l
def zpar (c j : Nat) (v : Value) : Bool := match parseFieldDescriptor (vT c j).2.2.1 with
  | some t => decide (defaultValue t = v)
  | none => false
def zchk (k : Nat) : Bool := match t_nth tb_kinds k with
  | some (some c, l, _) => (List.range (vN c)).all (fun j => zpar c j (vp_V (zfs l) j))
  | _ => false
theorem zchk_all : [0, 3, 17, 23, 26, 35, 38, 41, 44, 45, 46, 49, 51].all zchk = true := by decide +kernel
def zar (srt N : Nat) : vp_A := match srt with
  | 2 => (N, .inr (.inl fun _ => 0))
  | _ => (N, .inl fun _ => 0)
def zaty (srt : Nat) : ArrayType := match srt with
  | 0 => .int
  | 1 => .boolean
  | _ => .long
def zty (srt : Nat) : FieldType := match srt with
  | 0 => .int
  | 1 => .boolean
  | _ => .long
theorem Wd.push {D : va_G} {A : Nat → Prop} {H0 H H1 : Heap} {ws : va_W} {locs : List Loc} {n : Nat} {ev : va_E} (h : Wd D A H0 ws H locs n) (hA : ∀ q, H0.size ≤ q → A q) (z1 : H1.size = n + 1) (o1 : ∀ q : Nat, q < n → H1[q]? = H[q]?) (he : va_at D vwCl (n, ev) H1) : Wd D A H0 (ws ++ [(n, ev)]) H1 locs (n + 1) := by
  obtain ⟨rfl, hP, hD, hS⟩ := h
  have hk : ∀ (k : Nat) (x : Nat × va_E), ws[k]? = some x → H1[x.1]? = H[x.1]? := fun k x hx => o1 x.1 ((hP k x hx).lt)
  refine ⟨z1, (hP.kept hk).app (fun k x hx => ?_), hD.push hP rfl (hA _ hS.1), ⟨Nat.le_trans hS.1 (by omega), fun x h1 h2 => (o1 x (Nat.lt_of_lt_of_le h1 hS.1)).trans (hS.2.1 x h1 h2), hS.2.2⟩⟩
  have hz : k < 1 := (List.getElem?_eq_some_iff.mp hx).1
  rw [show k = 0 by omega] at hx
  cases hx
  exact he
theorem Wd.put {D : va_G} {A : Nat → Prop} {H0 H H1 : Heap} {ws : va_W} {locs : List Loc} {n q0 a j : Nat} {e0 ev : va_E} (h : Wd D A H0 ws H locs n) (he : ws[q0]? = some (a, e0)) (z1 : H1.size = H.size) (oq : ∀ q : Nat, q ≠ a → H1[q]? = H[q]?) (h1 : va_at D vwCl (a, ev) H1) : Wd D A H0 (ws.set q0 (a, ev)) H1 (locs ++ [⟨a, j⟩]) n := by
  obtain ⟨hz, hP, hD, hS⟩ := h
  exact ⟨z1.trans hz, hP.set hD he h1 oq, hD.set he, hS.put z1 oq (hD.2 q0 _ he)⟩
/-- the classes of rows of objects, and the links between nest mates -/
def zAO (U : State) : Prop := (∀ C : String, Cond.arrayOver (.object C) ∈ lw_tbl → va_AO C U) ∧ ∀ (own : String) (idx : Nat) (y : MethodName) (host : String), Cond.methodLinkNest own idx y host ∈ lw_tbl → va_Nw (.methodLinkNest own idx y host) U
theorem zAO.warm {s U : State} (hW : s.WarmedH U.vm) (h : zAO s) : zAO U := ⟨fun C hC => (h.1 C hC).moved hW.alike, fun own idx y host hw => va_Nw.warmM hW (h.2 own idx y host hw)⟩
theorem zAO.blind {U : State} {g : JFrame} {mk : MethodId} {a : Array Value} (h : zAO U) : zAO (U.calling g mk a) := ⟨fun C hC => (h.1 C hC).moved (u := U) (U := U.calling g mk a) (Vm.Alike.refl U.vm), fun own idx y host hw => va_Nw.same rfl rfl (h.2 own idx y host hw)⟩
/-- where a constructor stands -/
def Zc (p : Program) (s : State) (m : MethodId) (args : Array Value) (meth : Method) (c : Code) (cc : ByteArray) (own : Nat) (D : va_G) (ca : Nat → ClassId) (A : Nat → Prop) : Prop := p.tables.exec = Jvm.exec ∧ c.code = cc ∧ HT args s ∧ s.vm.findClass (cn own) = some m.cls ∧ va_K D vwCl (tyl ca) s ∧ (∀ q, s.heap.size ≤ q → A q) ∧ meth.name = "<init>" ∧ zAO s
section MK
variable {p : Program} {l : Launch} {e : Env} {R : Room} {s : State} {m : MethodId} {args : Array Value} {below : List Frame} {meth : Method} {c : Code} {cells slots : Nat}
variable {D : va_G} {ca : Nat → ClassId} {A : Nat → Prop} {Q : State → Prop} {cc : ByteArray} {pc n own : Nat} {ls : Array Slot} {rest : List Value} {ws : va_W} {H : Heap} {locs : List Loc}
theorem z_new {k c' idx : Nat} {ow : String} {r : KRow} (hx : p.tables.exec = Jvm.exec) (hb : c.code = cc) (ht : ∀ w ∈ lw_tbl, goodWord w = true → w.before args s = true) (hown : s.vm.findClass ow = some m.cls) (hKt : va_K D vwCl (tyl ca) s) (hA : ∀ q, s.heap.size ≤ q → A q) (hk : zchk k = true) (hr : t_nth tb_kinds k = some r) (hc : r.1 = some c') (h12 : c' ≤ 12)
    (hcl : Cond.classLink ow idx (cn c') ∈ lw_tbl) (hin : Cond.instantiable (cn c') (vN c') ∈ lw_tbl) (hini : Cond.initialized (cn c') ∈ lw_tbl)
    (hcells : cells + 1 ≤ R.cells) (hslots : slots + vN c' ≤ R.slots) (hd : decode cc pc = .ok (.new idx, 3)) (hW : Wd D A s.heap ws H locs n)
    (kk : ∀ H1, Wd D A s.heap (ws ++ [(n, .inr (c', zfs r.2.1))]) H1 locs (n + 1) → W p l e R s m args below meth c H1 locs (cells + 1) (slots + vN c') Q (F0 m (pc + 3) ls (.ref n :: rest))) : W p l e R s m args below meth c H locs cells slots Q (F0 m pc ls rest) := by
  obtain ⟨g1, g2, g3, ty0, g4⟩ := cls_facts h12
  have hKn := hKt.1 c' _ g1
  have hfs : ∀ j, j < vN c' → defaultValue (ty0 j) = vp_V (zfs r.2.1) j := by
    intro j hj
    unfold zchk at hk
    rw [hr] at hk
    obtain ⟨r1, r2, r3⟩ := r
    cases hc
    have h1 := List.all_eq_true.mp hk j (List.mem_range.mpr hj)
    unfold zpar at h1
    rw [g4 j hj] at h1
    exact of_decide_eq_true h1
  refine W.newcK hx hb hown (ht _ hcl rfl) (ht _ hin rfl) (ht _ hini rfl) rfl hd hcells hslots hKn.2.1 hW.1 fun H1 kC hkC e1 z1 o1 => ?_
  exact kk H1 (hW.push hA z1 o1 ⟨_, g1, (u_born ty0 (ws := u_ws (cn c') (vT c') (vN c')) (fun w hw => ht w (g2 w hw) (u_lay_good hw)) (fun w hw => hw) hKn hkC e1 g4).to hfs⟩)
theorem z_arr {srt N : Nat} {v : Int32} (hx : p.tables.exec = Jvm.exec) (hb : c.code = cc) (ht : HT args s) (hKt : va_K D vwCl (tyl ca) s) (hA : ∀ q, s.heap.size ≤ q → A q) (h3 : srt < 3) (hw : Cond.arrayClass (zty srt) ∈ lw_tbl) (hn : ¬ v < 0) (hN : v.toNatClampNeg = N) (hN2 : N ≤ 5000)
    (hcells : cells + 1 ≤ R.cells) (hslots : slots + N ≤ R.slots) (hd : decode cc pc = .ok (.newarray (zaty srt), 2)) (hW : Wd D A s.heap ws H locs n)
    (kk : ∀ H1, Wd D A s.heap (ws ++ [(n, .inl (ca srt, zar srt N))]) H1 locs (n + 1) → W p l e R s m args below meth c H1 locs (cells + 1) (slots + N) Q (F0 m (pc + 2) ls (.ref n :: rest))) : W p l e R s m args below meth c H locs cells slots Q (F0 m pc ls (.int v :: rest)) := by
  match srt, h3 with
  | 0, _ =>
    refine va_newaK (atype := .int) hx hb (ht _ hw rfl) rfl hd rfl hn hN (by show N * 4 ≤ 536870912; omega) hcells hslots hW.1 fun H1 cA e1 z1 o1 _ hNm => ?_
    have hc : cA = ca 0 := Option.some.inj (hNm.symm.trans (hKt.2 0 _ rfl).2)
    subst hc
    exact kk H1 (hW.push hA z1 o1 (show H1[n]? = some (vp_cell _ _) from e1))
  | 1, _ =>
    refine va_newaK (atype := .boolean) hx hb (ht _ hw rfl) rfl hd rfl hn hN (by show N * 1 ≤ 536870912; omega) hcells hslots hW.1 fun H1 cA e1 z1 o1 _ hNm => ?_
    have hc : cA = ca 1 := Option.some.inj (hNm.symm.trans (hKt.2 1 _ rfl).2)
    subst hc
    exact kk H1 (hW.push hA z1 o1 (show H1[n]? = some (vp_cell _ _) from e1))
  | 2, _ =>
    refine va_newaK (atype := .long) hx hb (ht _ hw rfl) rfl hd rfl hn hN (by show N * 8 ≤ 536870912; omega) hcells hslots hW.1 fun H1 cA e1 z1 o1 _ hNm => ?_
    have hc : cA = ca 2 := Option.some.inj (hNm.symm.trans (hKt.2 2 _ rfl).2)
    subst hc
    exact kk H1 (hW.push hA z1 o1 (show H1[n]? = some (vp_cell _ _) from e1))
theorem z_anew {j N idx : Nat} {C : String} {v : Int32} (hx : p.tables.exec = Jvm.exec) (hb : c.code = cc) (ht : HT args s) (hown : s.vm.findClass (cn own) = some m.cls) (hKt : va_K D vwCl (tyl ca) s) (hA : ∀ q, s.heap.size ≤ q → A q) (hj : (tyl ca)[j]? = some (ca j, .object C)) (hcl : Cond.classLink (cn own) idx C ∈ lw_tbl) (hov : va_AO C s) (hn : ¬ v < 0) (hN : v.toNatClampNeg = N) (hN2 : N ≤ 5000)
    (hcells : cells + 1 ≤ R.cells) (hslots : slots + N ≤ R.slots) (hd : decode cc pc = .ok (.anewarray idx, 3)) (hW : Wd D A s.heap ws H locs n)
    (kk : ∀ H1, Wd D A s.heap (ws ++ [(n, .inl (ca j, N, .inr (.inr (.inr (.inr fun _ => none)))))]) H1 locs (n + 1) → W p l e R s m args below meth c H1 locs (cells + 1) (slots + N) Q (F0 m (pc + 3) ls (.ref n :: rest))) : W p l e R s m args below meth c H locs cells slots Q (F0 m pc ls (.int v :: rest)) := by
  subst hN
  have hn1 := hW.1
  subst hn1
  refine W.anew hx hb hown (ht _ hcl rfl) (va_AO.use hov) rfl hd rfl hn (by omega) hcells hslots fun cA kA comp f1 f2 f3 f4 => ?_
  obtain ⟨-, kB, cB, -, -, -, g4⟩ := hKt.2 j _ hj
  have hc : cA = ca j := Option.some.inj (f1.symm.trans g4)
  subst hc
  generalize hH1 : H.push ({ cls := ca j, slots := Array.replicate v.toNatClampNeg .null, vm := .none } : Cell) = H1
  have z1 : H1.size = H.size + 1 := by rw [← hH1, Array.size_push]
  have e1 : H1[H.size]? = some (arrV (ca j) v.toNatClampNeg (fun _ => .null)) := by rw [← hH1, Array.getElem?_push_size, ← arrV_new]
  have o1 : ∀ q : Nat, q < H.size → H1[q]? = H[q]? := fun q hq => by rw [← hH1, Array.getElem?_push, if_neg (Nat.ne_of_lt hq)]
  exact kk H1 (hW.push hA z1 o1 (show H1[H.size]? = some (vp_cell _ _) from e1))
theorem z_put {c' idx s' a q0 : Nat} {b : Bool} {fs : List Value} {v : Value} {ty : FieldType} (hx : p.tables.exec = Jvm.exec) (hb : c.code = cc) (ht : HT args s) (hown : s.vm.findClass (cn own) = some m.cls) (hKt : va_K D vwCl (tyl ca) s) (hmn : meth.name = "<init>") (hl : t_look (tb_f own) idx = some (c', s', b)) (h12 : c' ≤ 12) (hlen : s' < fs.length) (ho : (vT c' s').2.2.2 = true → (vT c' s').1 = cn own) (hty : parseFieldDescriptor (vT c' s').2.2.1 = some ty) (hn : narrow ty v = v) (hfit : fits ty v = true) (he : ws[q0]? = some (a, .inr (c', fs))) (hdg : decode cc pc = .ok (.putfield idx, 3)) (hW : Wd D A s.heap ws H locs n)
    (kk : ∀ H1 locs1, Wd D A s.heap (ws.set q0 (a, .inr (c', fs.set s' v))) H1 locs1 n → W p l e R s m args below meth c H1 locs1 cells slots Q (F0 m (pc + 3) ls rest)) : W p l e R s m args below meth c H locs cells slots Q (F0 m pc ls (v :: .ref a :: rest)) := by
  obtain ⟨hw, hsN, -⟩ := fld_link hl h12
  obtain ⟨g1, g2, g3, ty0, g4⟩ := cls_facts h12
  have hts : ∀ w ∈ u_ws (cn c') (vT c') (vN c'), w.before args s = true := fun w hw => ht w (g2 w hw) (u_lay_good hw)
  have hlink := ht _ hw rfl
  have hap := va_apart (own := cn own) hts (fun w hw => hw) ty0 g4 g3 hKt g1
  obtain ⟨hz, hP, hD, hS0⟩ := id hW
  obtain ⟨r, h1, cell, q1, q2, q3, q4⟩ := hP q0 _ he
  have hr : r = (cn c', vT c', vN c') := Option.some.inj (h1.symm.trans g1)
  subst hr
  obtain ⟨hS, hfc, kC, hkC, hkind⟩ := hKt.1 c' _ g1
  obtain ⟨cf, kf, fi, f, hi, hsl⟩ := hS s' hsN
  have hlay := hts _ (u_in_lay hsN)
  unfold u_lay at hlay
  have hst := (u_facts hfc hkC (u_lays hts (fun w hw => hw) hsN) hi).1
  by_cases hfin : (vT c' s').2.2.2 = true
  · rw [if_pos hfin] at hlay
    have hcf : m.cls = cf := by
      obtain ⟨_, _, c2, _, _, _, -, -, hf', -, -, -, hown2, -⟩ := Cond.laysFinal_spec hlay
      have e1 : c2 = cf := by have := hi.symm.trans hf'; simp at this; exact this.1.symm
      rw [ho hfin] at hown2
      rw [← e1]; exact Option.some.inj (hown.symm.trans hown2)
    have h6 := u_fits hfc hkC hkind (Or.inr hlay) hi hty hn hfit
    refine W.putFinK hx hb hown hlink hi hst hcf hmn (by rw [q2]; exact h6) q1 q3 (by rw [hsl]; exact k2_hasslot (q4 s' hsN)) rfl rfl hdg fun H' e1 e2 e3 => ?_
    rw [hsl] at e1 ⊢
    exact kk H' _ (hW.put he e2 e3 ⟨_, g1, t_OB.to (V := updV (vp_V fs) s' v) ⟨_, e1, q2, q3, t_set q4 hap hsN v⟩ (fun j _ => vp_updV_set hlen v j)⟩)
  · rw [if_neg hfin] at hlay
    have h6 := u_store hfc hkC hkind hlay hi hty hn hfit
    refine W.putK hx hb (f := f) ⟨hown, hlink, ⟨_, _, _, hi⟩, hst⟩ (by rw [q2]; exact h6) q1 q3 (by rw [hsl]; exact k2_hasslot (q4 s' hsN)) rfl rfl hdg fun H' e1 e2 e3 => ?_
    rw [hsl] at e1 ⊢
    exact kk H' _ (hW.put he e2 e3 ⟨_, g1, t_OB.to (V := updV (vp_V fs) s' v) ⟨_, e1, q2, q3, t_set q4 hap hsN v⟩ (fun j _ => vp_updV_set hlen v j)⟩)
theorem z_get {c' idx s' a q0 : Nat} {b : Bool} {fs : List Value} {v : Value} (hx : p.tables.exec = Jvm.exec) (hb : c.code = cc) (ht : HT args s) (hown : s.vm.findClass (cn own) = some m.cls) (hKt : va_K D vwCl (tyl ca) s) (hl : t_look (tb_f own) idx = some (c', s', b)) (h12 : c' ≤ 12) (hv : fs[s']? = some v) (he : ws[q0]? = some (a, .inr (c', fs))) (hdg : decode cc pc = .ok (.getfield idx, 3)) (hW : Wd D A s.heap ws H locs n)
    (kk : W p l e R s m args below meth c H locs cells slots Q (F0 m (pc + 3) ls (v :: rest))) : W p l e R s m args below meth c H locs cells slots Q (F0 m pc ls (.ref a :: rest)) := by
  obtain ⟨hw, hsN, -⟩ := fld_link hl h12
  obtain ⟨g1, g2, g3, ty0, g4⟩ := cls_facts h12
  exact va_get hx hb (Ts := u_ws (cn c') (vT c') (vN c')) (fun w hw2 => ht w (g2 w hw2) (u_lay_good hw2)) (fun w hw2 => hw2) hown hKt hW.2.1 q0 he g1 s' hsN (ht _ hw rfl) (fun x hx => hx) hv hdg kk
theorem z_ast {q0 t0 qk ci a : Nat} {cA : ClassId} {r : vw_C} {N v : Nat} {vs : List Value} {f : Nat → Option Nat} {i : Int32} (hx : p.tables.exec = Jvm.exec) (hb : c.code = cc) (hKt : va_K D vwCl (tyl ca) s) (ha : ws[q0]? = some (a, .inl (cA, N, .inr (.inr (.inr (.inr f)))))) (hty : (tyl ca)[t0]? = some (cA, .object r.1)) (hv : ws[qk]? = some (v, .inr (ci, vs))) (hc : vwCl[ci]? = some r) (hin : vp_in i N) (hdg : decode cc pc = .ok (.aastore, 1)) (hW : Wd D A s.heap ws H locs n)
    (kk : ∀ H1 locs1, Wd D A s.heap (ws.set q0 (a, .inl (cA, N, .inr (.inr (.inr (.inr (va_up f i.toNatClampNeg (some v)))))))) H1 locs1 n → W p l e R s m args below meth c H1 locs1 cells slots Q (F0 m (pc + 1) ls rest)) : W p l e R s m args below meth c H locs cells slots Q (F0 m pc ls (.ref v :: .int i :: .ref a :: rest)) := by
  obtain ⟨hz, hP, hD, hS⟩ := id hW
  have hlt : i.toNatClampNeg < N := Nat.not_le.mp fun q => hin (Or.inr q)
  have h0 : ¬ i < 0 := fun q => hin (Or.inl q)
  obtain ⟨r', hr', cellV, g1, g2, g3, -⟩ := hP qk _ hv
  have hcls := (hKt.1 ci r hc).2
  obtain ⟨kA, comp, k1, k2, k3, -⟩ := (hKt.2 t0 _ hty).2
  have hcomp : comp = D.1 ci := Option.some.inj (k3.symm.trans hcls.1)
  subst hcomp
  obtain ⟨kC, hkC, -⟩ := hcls.2
  refine W.aast hx hb (hP q0 _ ha) (fun q h => by cases h) (fun h => by cases h) k1 k2 rfl hkC ⟨h0, by show _ < (arrV _ _ _).slots.size; rw [arrV_size]; exact hlt⟩ g1 (fun q h => by rw [g3] at h; cases h) (by rw [g2]; exact hkC) (by rw [g2]; exact va_assign hcls) rfl rfl hdg fun H1 e z oq => ?_
  refine kk H1 _ (hW.put ha z oq ?_)
  show H1[a]? = some (vp_cell _ _)
  rw [e]
  rw [vp_cell_q, vp_cell_q, arrV_store]
  congr 2
  funext q
  by_cases hq : q = i.toNatClampNeg
  · subst hq
    simp [updV, va_up, va_rf]
  · simp [updV, va_up, hq]
theorem z_ist {q0 a N : Nat} {f : Nat → Int32} {i x : Int32} (hx : p.tables.exec = Jvm.exec) (hb : c.code = cc) (hKt : va_K D vwCl (tyl ca) s) (ha : ws[q0]? = some (a, .inl (ca 0, N, .inl f))) (hin : vp_in i N) (hdg : decode cc pc = .ok (.iastore, 1)) (hW : Wd D A s.heap ws H locs n)
    (kk : ∀ H1 locs1, Wd D A s.heap (ws.set q0 (a, .inl (ca 0, N, .inl (upd f i.toNatClampNeg x)))) H1 locs1 n → W p l e R s m args below meth c H1 locs1 cells slots Q (F0 m (pc + 1) ls rest)) : W p l e R s m args below meth c H locs cells slots Q (F0 m pc ls (.int x :: .int i :: .ref a :: rest)) := by
  obtain ⟨hz, hP, hD, hS⟩ := id hW
  refine W.iast hx hb (hP q0 _ ha) ((hKt.2 0 _ rfl).1 N (fun j => .int (f j))) (fun q => by cases q) (by show ¬ (i < 0 ∨ (arrV _ _ _).slots.size ≤ _); rw [arrV_size]; exact hin) rfl rfl hdg fun H1 e z oq => ?_
  refine kk H1 _ (hW.put ha z oq ?_)
  show H1[a]? = some (vp_cell _ _)
  rw [e]
  rw [vp_cell_i, vp_cell_i, arrV_store]
  congr 2
  funext q
  by_cases hq : q = i.toNatClampNeg
  · subst hq
    simp [updV, upd]
  · simp [updV, upd, hq]
/-- a number pushed -/
def Zp (p : Program) (l : Launch) (e : Env) (R : Room) (s : State) (m : MethodId) (args : Array Value) (below : List Frame) (meth : Method) (c : Code) (Q : State → Prop) (pc1 pc2 : Nat) (v : Int32) : Prop := ∀ (H : Heap) (locs : List Loc) (cells slots : Nat) (ls : Array Slot) (st : List Value), W p l e R s m args below meth c H locs cells slots Q (F0 m pc2 ls (.int v :: st)) → W p l e R s m args below meth c H locs cells slots Q (F0 m pc1 ls st)
theorem zp_c (hx : p.tables.exec = Jvm.exec) (hb : c.code = cc) {k : Int} {v : Int32} (hd : decode cc pc = .ok (.iconst k, 1)) (hv : Int32.ofInt k = v) : Zp p l e R s m args below meth c Q pc (pc + 1) v := fun _ _ _ _ _ _ h => lv_iconst hx hb hd hv h
theorem zp_b (hx : p.tables.exec = Jvm.exec) (hb : c.code = cc) {k : Int} {v : Int32} (hd : decode cc pc = .ok (.bipush k, 2)) (hv : (Int8.ofInt k).toInt32 = v) : Zp p l e R s m args below meth c Q pc (pc + 2) v := fun _ _ _ _ _ _ h => lv_bipush hx hb hd hv h
theorem zp_s (hx : p.tables.exec = Jvm.exec) (hb : c.code = cc) {k : Int} {v : Int32} (hd : decode cc pc = .ok (.sipush k, 3)) (hv : (Int16.ofInt k).toInt32 = v) : Zp p l e R s m args below meth c Q pc (pc + 3) v := fun _ _ _ _ _ _ h => lv_sipush hx hb hd hv h
end MK
