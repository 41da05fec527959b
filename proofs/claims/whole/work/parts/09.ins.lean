-- each instruction of the small machine is the machine's own: numbers, locals, stack, jumps
def OkH (hs : List (Nat × Nat)) (h : Nat × Nat) : Prop := h ∈ hs ∨ h = (119, 0) ∨ h = (120, 0)
def OkV (hs : List (Nat × Nat)) : TV → Prop
  | .inl x => R32 x
  | .inr (.inl x) => R64 x
  | .inr (.inr h) => OkH hs h
def strB (j : Nat) : Int := (t_nth [116, 112, 102, 104, 99, 111, 100, 118, 110, 122, 119] j).getD 0
def OkM (σ : TM) : Prop := (∀ k i j, R64 (σ k i j) ∧ ((∃ n, t_arr tbl k = some (2, n)) ∨ R32 (σ k i j))) ∧ σ 119 0 1 = 0 ∧ ∀ j, j < 11 → σ 120 0 j = strB j
def OkL (hs : List (Nat × Nat)) (L : TL) : Prop := ∀ (i : Nat) (v : TV), t_nth L i = some (some v) → OkV hs v
def OkT (hs : List (Nat × Nat)) (st : List TV) : Prop := ∀ v ∈ st, OkV hs v
def OkS (hs : List (Nat × Nat)) (σ : TM) (L : TL) (st : List TV) : Prop := OkM σ ∧ OkL hs L ∧ OkT hs st
def OkR (hs : List (Nat × Nat)) : TRes → Prop
  | .inl (_, L, st, σ) => OkS hs σ L st
  | .inr (r, σ) => OkM σ ∧ ∀ v, r = some v → OkV hs v
theorem OkT.cons {hs : List (Nat × Nat)} {v : TV} {st : List TV} (h : OkV hs v) (h2 : OkT hs st) : OkT hs (v :: st) := by
  intro w hw
  rcases List.mem_cons.mp hw with rfl | hw
  · exact h
  · exact h2 w hw
theorem OkT.hd {hs : List (Nat × Nat)} {v : TV} {st : List TV} (h : OkT hs (v :: st)) : OkV hs v := h v List.mem_cons_self
theorem OkT.tl {hs : List (Nat × Nat)} {v : TV} {st : List TV} (h : OkT hs (v :: st)) : OkT hs st := fun w hw => h w (List.mem_cons_of_mem _ hw)
section INS
variable {p : Program} {l : Launch} {e : Env} {R : Room} {s : State} {m : MethodId} {args : Array Value} {below : List Frame} {meth : Method} {c : Code}
variable {D : va_G} {hs : List (Nat × Nat)} {ad : Nat → Nat → Nat} {ca : Nat → ClassId} {A : Nat → Prop} {nL : Nat} {Q : State → Prop} {Fn : Option TV → TM → Prop}
abbrev Gd (p : Program) (l : Launch) (e : Env) (R : Room) (s : State) (m : MethodId) (args : Array Value) (below : List Frame) (meth : Method) (c : Code) (D : va_G) (hs : List (Nat × Nat)) (ad : Nat → Nat → Nat) (ca : Nat → ClassId) (A : Nat → Prop) (nL : Nat) (Q : State → Prop) (pc : Nat) (L : TL) (st : List TV) (σ : TM) : Prop :=
  ∀ (ls : Array Slot) (H : Heap) (locs : List Loc), LR ad ls nL L → va_P D vwCl (wsl hs ad ca σ) H → va_D A (wsl hs ad ca σ) → va_S A s.heap H locs → W p l e R s m args below meth c H locs 0 0 Q (F0 m pc ls (st.map (t_cv ad)))
def Hy (p : Program) (l : Launch) (e : Env) (R : Room) (s : State) (m : MethodId) (args : Array Value) (below : List Frame) (meth : Method) (c : Code) (D : va_G) (hs : List (Nat × Nat)) (ad : Nat → Nat → Nat) (ca : Nat → ClassId) (A : Nat → Prop) (nL : Nat) (Q : State → Prop) (Fn : Option TV → TM → Prop) : TRes → Prop
  | .inl (pc, L, st, σ) => Gd p l e R s m args below meth c D hs ad ca A nL Q pc L st σ
  | .inr (r, σ) => Fn r σ
def Tg (p : Program) (l : Launch) (e : Env) (R : Room) (s : State) (m : MethodId) (args : Array Value) (below : List Frame) (meth : Method) (c : Code) (D : va_G) (hs : List (Nat × Nat)) (ad : Nat → Nat → Nat) (ca : Nat → ClassId) (A : Nat → Prop) (nL : Nat) (Q : State → Prop) (Fn : Option TV → TM → Prop) (res : TRes) (pc : Nat) (L : TL) (st : List TV) (σ : TM) : Prop :=
  OkS hs σ L st → (OkR hs res → Hy p l e R s m args below meth c D hs ad ca A nL Q Fn res) → Gd p l e R s m args below meth c D hs ad ca A nL Q pc L st σ
variable {K : TK} {res : TRes} {pc nx : Nat} {L : TL} {st : List TV} {σ : TM} {cc : ByteArray}
theorem g_st {st' : List TV} (hK : ∀ pc' L' st' σ', K pc' L' st' σ' = some res → Tg p l e R s m args below meth c D hs ad ca A nL Q Fn res pc' L' st' σ')
    (h : K nx L st' σ = some res) (ok : OkS hs σ L st → OkT hs st')
    (row : OkS hs σ L st → ∀ (ls : Array Slot) (H : Heap) (locs : List Loc), LR ad ls nL L → W p l e R s m args below meth c H locs 0 0 Q (F0 m nx ls (st'.map (t_cv ad))) → W p l e R s m args below meth c H locs 0 0 Q (F0 m pc ls (st.map (t_cv ad)))) :
    Tg p l e R s m args below meth c D hs ad ca A nL Q Fn res pc L st σ := by
  intro hok
  have h2 := hK _ _ _ _ h ⟨hok.1, hok.2.1, ok hok⟩
  exact fun hy ls H locs hl hP hD hS => row hok ls H locs hl (h2 hy ls H locs hl hP hD hS)
theorem g_ldi (hx : p.tables.exec = Jvm.exec) (hb : c.code = cc) (hK : ∀ pc' L' st' σ', K pc' L' st' σ' = some res → Tg p l e R s m args below meth c D hs ad ca A nL Q Fn res pc' L' st' σ') {i n : Nat} {k : Fin 4} (hd : decode cc pc = .ok (.iload i, 2) ∧ nx = pc + 2 ∨ decode cc pc = .ok (.iload_n k, 1) ∧ nx = pc + 1 ∧ (k : Nat) = i) (h : t_ldi nx i K L st σ = some res) : Tg p l e R s m args below meth c D hs ad ca A nL Q Fn res pc L st σ := by
  unfold t_ldi at h
  split at h
  · next x hl =>
    refine g_st hK h (fun ok => OkT.cons (ok.2.1 i _ hl) ok.2.2) (fun ok ls H locs lr k => ?_)
    have hv := lr.2.2.2 i _ hl
    rcases hd with ⟨hd, rfl⟩ | ⟨hd, rfl, hi⟩
    · exact lv_iload hx hb hd hv k
    · exact lv_iload_n hx hb hd hi hv k
  · cases h
theorem g_ldj (hx : p.tables.exec = Jvm.exec) (hb : c.code = cc) (hK : ∀ pc' L' st' σ', K pc' L' st' σ' = some res → Tg p l e R s m args below meth c D hs ad ca A nL Q Fn res pc' L' st' σ') {i n : Nat} {k : Fin 4} (hd : decode cc pc = .ok (.lload i, 2) ∧ nx = pc + 2 ∨ decode cc pc = .ok (.lload_n k, 1) ∧ nx = pc + 1 ∧ (k : Nat) = i) (h : t_ldj nx i K L st σ = some res) : Tg p l e R s m args below meth c D hs ad ca A nL Q Fn res pc L st σ := by
  unfold t_ldj at h
  split at h
  · next x hl =>
    refine g_st hK h (fun ok => OkT.cons (ok.2.1 i _ hl) ok.2.2) (fun ok ls H locs lr k => ?_)
    have hv := lr.2.2.2 i _ hl
    rcases hd with ⟨hd, rfl⟩ | ⟨hd, rfl, hi⟩
    · exact lv_lload hx hb hd hv k
    · exact lv_lload_n hx hb hd hi hv k
  · cases h
theorem g_ldh (hx : p.tables.exec = Jvm.exec) (hb : c.code = cc) (hK : ∀ pc' L' st' σ', K pc' L' st' σ' = some res → Tg p l e R s m args below meth c D hs ad ca A nL Q Fn res pc' L' st' σ') {i n : Nat} {k : Fin 4} (hd : decode cc pc = .ok (.aload i, 2) ∧ nx = pc + 2 ∨ decode cc pc = .ok (.aload_n k, 1) ∧ nx = pc + 1 ∧ (k : Nat) = i) (h : t_ldh nx i K L st σ = some res) : Tg p l e R s m args below meth c D hs ad ca A nL Q Fn res pc L st σ := by
  unfold t_ldh at h
  split at h
  · next x hl =>
    refine g_st hK h (fun ok => OkT.cons (ok.2.1 i _ hl) ok.2.2) (fun ok ls H locs lr k => ?_)
    have hv := lr.2.2.2 i _ hl
    rcases hd with ⟨hd, rfl⟩ | ⟨hd, rfl, hi⟩
    · exact lv_aload hx hb hd hv k
    · exact lv_aload_n hx hb hd hi hv k
  · cases h
theorem OkL.put {L' : TL} {i : Nat} {v : TV} {P : Nat → TV → Prop} (h : OkL hs L) (hv : OkV hs v) (hL : ∀ j w, t_nth L' j = some (some w) → (j = i ∧ w = v) ∨ (t_nth L j = some (some w) ∧ P j w)) : OkL hs L' := by
  intro j w hj
  rcases hL j w hj with ⟨rfl, rfl⟩ | ⟨e, -⟩
  · exact hv
  · exact h j w e
theorem g_sti (hx : p.tables.exec = Jvm.exec) (hb : c.code = cc) (hK : ∀ pc' L' st' σ', K pc' L' st' σ' = some res → Tg p l e R s m args below meth c D hs ad ca A nL Q Fn res pc' L' st' σ') {i : Nat} {k : Fin 4} (hd : decode cc pc = .ok (.istore i, 2) ∧ nx = pc + 2 ∨ decode cc pc = .ok (.istore_n k, 1) ∧ nx = pc + 1 ∧ (k : Nat) = i) (h : t_sti nx i K L st σ = some res) : Tg p l e R s m args below meth c D hs ad ca A nL Q Fn res pc L st σ := by
  unfold t_sti at h
  split at h
  · next x r =>
    obtain ⟨L', h1, h2, h3, h4⟩ := setK_ok _ _ _ _ _ h
    intro hok
    have g2 := hK _ _ _ _ h1 ⟨hok.1, OkL.put (P := fun _ _ => True) hok.2.1 hok.2.2.hd (fun j w hj => (h4 j w hj).imp id (fun q => ⟨q.2.1, trivial⟩)), hok.2.2.tl⟩
    refine fun hy ls H locs hl hP hD hS => ?_
    have hi : i < nL := by rw [← hl.2.2.1]; exact h2
    rcases hd with ⟨hd, rfl⟩ | ⟨hd, rfl, hi2⟩
    · exact lv_istore hx hb hd hl.has hi rfl (fun ls' h' => g2 hy ls' H locs (hl.put1 h3 h4 h') hP hD hS)
    · exact lv_istore_n hx hb hd hi2 hl.has hi rfl (fun ls' h' => g2 hy ls' H locs (hl.put1 h3 h4 h') hP hD hS)
  · cases h
theorem g_sth (hx : p.tables.exec = Jvm.exec) (hb : c.code = cc) (hK : ∀ pc' L' st' σ', K pc' L' st' σ' = some res → Tg p l e R s m args below meth c D hs ad ca A nL Q Fn res pc' L' st' σ') {i : Nat} {k : Fin 4} (hd : decode cc pc = .ok (.astore i, 2) ∧ nx = pc + 2 ∨ decode cc pc = .ok (.astore_n k, 1) ∧ nx = pc + 1 ∧ (k : Nat) = i) (h : t_sth nx i K L st σ = some res) : Tg p l e R s m args below meth c D hs ad ca A nL Q Fn res pc L st σ := by
  unfold t_sth at h
  split at h
  · next x r =>
    obtain ⟨L', h1, h2, h3, h4⟩ := setK_ok _ _ _ _ _ h
    intro hok
    have g2 := hK _ _ _ _ h1 ⟨hok.1, OkL.put (P := fun _ _ => True) hok.2.1 hok.2.2.hd (fun j w hj => (h4 j w hj).imp id (fun q => ⟨q.2.1, trivial⟩)), hok.2.2.tl⟩
    refine fun hy ls H locs hl hP hD hS => ?_
    have hi : i < nL := by rw [← hl.2.2.1]; exact h2
    rcases hd with ⟨hd, rfl⟩ | ⟨hd, rfl, hi2⟩
    · exact lv_astore hx hb hd hl.has hi rfl (fun ls' h' => g2 hy ls' H locs (hl.put1 h3 h4 h') hP hD hS)
    · exact lv_astore_n hx hb hd hi2 hl.has hi rfl (fun ls' h' => g2 hy ls' H locs (hl.put1 h3 h4 h') hP hD hS)
  · cases h
theorem g_stj (hx : p.tables.exec = Jvm.exec) (hb : c.code = cc) (hK : ∀ pc' L' st' σ', K pc' L' st' σ' = some res → Tg p l e R s m args below meth c D hs ad ca A nL Q Fn res pc' L' st' σ') {i : Nat} {k : Fin 4} (hd : decode cc pc = .ok (.lstore i, 2) ∧ nx = pc + 2 ∨ decode cc pc = .ok (.lstore_n k, 1) ∧ nx = pc + 1 ∧ (k : Nat) = i) (h : t_stj nx i K L st σ = some res) : Tg p l e R s m args below meth c D hs ad ca A nL Q Fn res pc L st σ := by
  unfold t_stj at h
  split at h
  · next x r =>
    obtain ⟨L', h1, h2, h3, h4⟩ := setK2_ok _ _ _ _ _ h
    intro hok
    have g2 := hK _ _ _ _ h1 ⟨hok.1, OkL.put (P := fun _ _ => True) hok.2.1 hok.2.2.hd (fun j w hj => (h4 j w hj).imp id (fun q => ⟨q.2.2.1, trivial⟩)), hok.2.2.tl⟩
    refine fun hy ls H locs hl hP hD hS => ?_
    have hi : i + 1 < nL := by rw [← hl.2.2.1]; exact h2
    rcases hd with ⟨hd, rfl⟩ | ⟨hd, rfl, hi2⟩
    · exact lv_lstore hx hb hd hl.has hi rfl (fun ls' h' => g2 hy ls' H locs (hl.put2 h3 h4 h') hP hD hS)
    · exact lv_lstore_n hx hb hd hi2 hl.has hi rfl (fun ls' h' => g2 hy ls' H locs (hl.put2 h3 h4 h') hP hD hS)
  · cases h
theorem g_inc (hx : p.tables.exec = Jvm.exec) (hb : c.code = cc) (hK : ∀ pc' L' st' σ', K pc' L' st' σ' = some res → Tg p l e R s m args below meth c D hs ad ca A nL Q Fn res pc' L' st' σ') {i : Nat} {n : Int} (hd : decode cc pc = .ok (.iinc i n, 3)) (hnx : nx = pc + 3) (h : t_inc nx i n K L st σ = some res) : Tg p l e R s m args below meth c D hs ad ca A nL Q Fn res pc L st σ := by
  subst hnx
  unfold t_inc at h
  split at h
  · next x hl0 =>
    obtain ⟨L', h1, h2, h3, h4⟩ := setK_ok _ _ _ _ _ h
    intro hok
    have g2 := hK _ _ _ _ h1 ⟨hok.1, OkL.put (P := fun _ _ => True) (v := .inl (w32 (x + n))) hok.2.1 (r_w32 _) (fun j w hj => (h4 j w hj).imp id (fun q => ⟨q.2.1, trivial⟩)), hok.2.2⟩
    refine fun hy ls H locs hl hP hD hS => ?_
    have hi : i < nL := by rw [← hl.2.2.1]; exact h2
    have hm := lvl_mem (ad := ad) L 0 i _ hl0
    rw [Nat.zero_add] at hm
    obtain ⟨q, hq⟩ := List.getElem?_of_mem hm
    exact lv_iinc hx hb hd hl.has hq (v := Int32.ofInt (w32 (x + n))) (by rw [n_w32, Int32.ofInt_add]) hi rfl (fun ls' h' => g2 hy ls' H locs (hl.put1 h3 h4 h') hP hD hS)
  · cases h
theorem g_iadd (hx : p.tables.exec = Jvm.exec) (hb : c.code = cc) (hK : ∀ pc' L' st' σ', K pc' L' st' σ' = some res → Tg p l e R s m args below meth c D hs ad ca A nL Q Fn res pc' L' st' σ') (hd : decode cc pc = .ok (.iadd, 1)) (hnx : nx = pc + 1) (h : t_bin (fun x y => w32 (x + y)) nx K L st σ = some res) : Tg p l e R s m args below meth c D hs ad ca A nL Q Fn res pc L st σ := by
  subst hnx
  unfold t_bin at h
  split at h
  · next y x r => exact g_st hK h (fun ok => OkT.cons (r_w32 _) ok.2.2.tl.tl) (fun ok ls H locs lr k => lv_iadd hx hb hd (by rw [← n_add]; exact k))
  · cases h
theorem g_isub (hx : p.tables.exec = Jvm.exec) (hb : c.code = cc) (hK : ∀ pc' L' st' σ', K pc' L' st' σ' = some res → Tg p l e R s m args below meth c D hs ad ca A nL Q Fn res pc' L' st' σ') (hd : decode cc pc = .ok (.isub, 1)) (hnx : nx = pc + 1) (h : t_bin (fun x y => w32 (x - y)) nx K L st σ = some res) : Tg p l e R s m args below meth c D hs ad ca A nL Q Fn res pc L st σ := by
  subst hnx
  unfold t_bin at h
  split at h
  · next y x r => exact g_st hK h (fun ok => OkT.cons (r_w32 _) ok.2.2.tl.tl) (fun ok ls H locs lr k => lv_isub hx hb hd (by rw [← n_sub]; exact k))
  · cases h
theorem g_imul (hx : p.tables.exec = Jvm.exec) (hb : c.code = cc) (hK : ∀ pc' L' st' σ', K pc' L' st' σ' = some res → Tg p l e R s m args below meth c D hs ad ca A nL Q Fn res pc' L' st' σ') (hd : decode cc pc = .ok (.imul, 1)) (hnx : nx = pc + 1) (h : t_bin (fun x y => w32 (x * y)) nx K L st σ = some res) : Tg p l e R s m args below meth c D hs ad ca A nL Q Fn res pc L st σ := by
  subst hnx
  unfold t_bin at h
  split at h
  · next y x r => exact g_st hK h (fun ok => OkT.cons (r_w32 _) ok.2.2.tl.tl) (fun ok ls H locs lr k => lv_imul hx hb hd (by rw [← n_mul]; exact k))
  · cases h
theorem g_iand (hx : p.tables.exec = Jvm.exec) (hb : c.code = cc) (hK : ∀ pc' L' st' σ', K pc' L' st' σ' = some res → Tg p l e R s m args below meth c D hs ad ca A nL Q Fn res pc' L' st' σ') (hd : decode cc pc = .ok (.iand, 1)) (hnx : nx = pc + 1) (h : t_bin i_and nx K L st σ = some res) : Tg p l e R s m args below meth c D hs ad ca A nL Q Fn res pc L st σ := by
  subst hnx
  unfold t_bin at h
  split at h
  · next y x r => exact g_st hK h (fun ok => OkT.cons (r_and _ _) ok.2.2.tl.tl) (fun ok ls H locs lr k => lv_iand hx hb hd (by rw [← n_and]; exact k))
  · cases h
theorem g_ior (hx : p.tables.exec = Jvm.exec) (hb : c.code = cc) (hK : ∀ pc' L' st' σ', K pc' L' st' σ' = some res → Tg p l e R s m args below meth c D hs ad ca A nL Q Fn res pc' L' st' σ') (hd : decode cc pc = .ok (.ior, 1)) (hnx : nx = pc + 1) (h : t_bin i_or nx K L st σ = some res) : Tg p l e R s m args below meth c D hs ad ca A nL Q Fn res pc L st σ := by
  subst hnx
  unfold t_bin at h
  split at h
  · next y x r => exact g_st hK h (fun ok => OkT.cons (r_or _ _) ok.2.2.tl.tl) (fun ok ls H locs lr k => lv_ior hx hb hd (by rw [← n_or]; exact k))
  · cases h
theorem g_ixor (hx : p.tables.exec = Jvm.exec) (hb : c.code = cc) (hK : ∀ pc' L' st' σ', K pc' L' st' σ' = some res → Tg p l e R s m args below meth c D hs ad ca A nL Q Fn res pc' L' st' σ') (hd : decode cc pc = .ok (.ixor, 1)) (hnx : nx = pc + 1) (h : t_bin i_xor nx K L st σ = some res) : Tg p l e R s m args below meth c D hs ad ca A nL Q Fn res pc L st σ := by
  subst hnx
  unfold t_bin at h
  split at h
  · next y x r => exact g_st hK h (fun ok => OkT.cons (r_xor _ _) ok.2.2.tl.tl) (fun ok ls H locs lr k => lv_ixor hx hb hd (by rw [← n_xor]; exact k))
  · cases h
theorem g_ishl (hx : p.tables.exec = Jvm.exec) (hb : c.code = cc) (hK : ∀ pc' L' st' σ', K pc' L' st' σ' = some res → Tg p l e R s m args below meth c D hs ad ca A nL Q Fn res pc' L' st' σ') (hd : decode cc pc = .ok (.ishl, 1)) (hnx : nx = pc + 1) (h : t_bin i_shl nx K L st σ = some res) : Tg p l e R s m args below meth c D hs ad ca A nL Q Fn res pc L st σ := by
  subst hnx
  unfold t_bin at h
  split at h
  · next y x r => exact g_st hK h (fun ok => OkT.cons (r_shl _ _) ok.2.2.tl.tl) (fun ok ls H locs lr k => lv_ishl hx hb hd (by rw [← n_shl]; exact k))
  · cases h
theorem g_ishr (hx : p.tables.exec = Jvm.exec) (hb : c.code = cc) (hK : ∀ pc' L' st' σ', K pc' L' st' σ' = some res → Tg p l e R s m args below meth c D hs ad ca A nL Q Fn res pc' L' st' σ') (hd : decode cc pc = .ok (.ishr, 1)) (hnx : nx = pc + 1) (h : t_bin i_shr nx K L st σ = some res) : Tg p l e R s m args below meth c D hs ad ca A nL Q Fn res pc L st σ := by
  subst hnx
  unfold t_bin at h
  split at h
  · next y x r => exact g_st hK h (fun ok => OkT.cons (r_shr _ _) ok.2.2.tl.tl) (fun ok ls H locs lr k => lv_ishr hx hb hd (by rw [← n_shr]; exact k))
  · cases h
theorem g_iushr (hx : p.tables.exec = Jvm.exec) (hb : c.code = cc) (hK : ∀ pc' L' st' σ', K pc' L' st' σ' = some res → Tg p l e R s m args below meth c D hs ad ca A nL Q Fn res pc' L' st' σ') (hd : decode cc pc = .ok (.iushr, 1)) (hnx : nx = pc + 1) (h : t_bin i_ushr nx K L st σ = some res) : Tg p l e R s m args below meth c D hs ad ca A nL Q Fn res pc L st σ := by
  subst hnx
  unfold t_bin at h
  split at h
  · next y x r => exact g_st hK h (fun ok => OkT.cons (r_ushr _ _) ok.2.2.tl.tl) (fun ok ls H locs lr k => lv_iushr hx hb hd (n_ushr x y) k)
  · cases h
theorem g_idiv (hx : p.tables.exec = Jvm.exec) (hb : c.code = cc) (hK : ∀ pc' L' st' σ', K pc' L' st' σ' = some res → Tg p l e R s m args below meth c D hs ad ca A nL Q Fn res pc' L' st' σ') (hd : decode cc pc = .ok (.idiv, 1)) (hnx : nx = pc + 1) (h : t_div i_div nx K L st σ = some res) : Tg p l e R s m args below meth c D hs ad ca A nL Q Fn res pc L st σ := by
  subst hnx
  unfold t_div at h
  split at h
  · next y x r =>
    split at h
    · cases h
    · next hy => exact g_st hK h (fun ok => OkT.cons (r_div _ _) ok.2.2.tl.tl) (fun ok ls H locs lr k => lv_idiv hx hb hd (n_ne0 ok.2.2.hd hy) (by rw [← n_div ok.2.2.tl.hd ok.2.2.hd]; exact k))
  · cases h
theorem g_irem (hx : p.tables.exec = Jvm.exec) (hb : c.code = cc) (hK : ∀ pc' L' st' σ', K pc' L' st' σ' = some res → Tg p l e R s m args below meth c D hs ad ca A nL Q Fn res pc' L' st' σ') (hd : decode cc pc = .ok (.irem, 1)) (hnx : nx = pc + 1) (h : t_div i_rem nx K L st σ = some res) : Tg p l e R s m args below meth c D hs ad ca A nL Q Fn res pc L st σ := by
  subst hnx
  unfold t_div at h
  split at h
  · next y x r =>
    split at h
    · cases h
    · next hy => exact g_st hK h (fun ok => OkT.cons (r_rem ok.2.2.tl.hd ok.2.2.hd) ok.2.2.tl.tl) (fun ok ls H locs lr k => lv_irem hx hb hd (n_ne0 ok.2.2.hd hy) (by rw [← n_rem ok.2.2.tl.hd ok.2.2.hd]; exact k))
  · cases h
theorem g_ineg (hx : p.tables.exec = Jvm.exec) (hb : c.code = cc) (hK : ∀ pc' L' st' σ', K pc' L' st' σ' = some res → Tg p l e R s m args below meth c D hs ad ca A nL Q Fn res pc' L' st' σ') (hd : decode cc pc = .ok (.ineg, 1)) (hnx : nx = pc + 1) (h : t_un (fun x => w32 (-x)) nx K L st σ = some res) : Tg p l e R s m args below meth c D hs ad ca A nL Q Fn res pc L st σ := by
  subst hnx
  unfold t_un at h
  split at h
  · next x r => exact g_st hK h (fun ok => OkT.cons (r_w32 _) ok.2.2.tl) (fun ok ls H locs lr k => lv_ineg hx hb hd (by rw [← n_neg]; exact k))
  · cases h
theorem g_i2b (hx : p.tables.exec = Jvm.exec) (hb : c.code = cc) (hK : ∀ pc' L' st' σ', K pc' L' st' σ' = some res → Tg p l e R s m args below meth c D hs ad ca A nL Q Fn res pc' L' st' σ') (hd : decode cc pc = .ok (.i2b, 1)) (hnx : nx = pc + 1) (h : t_un i_b nx K L st σ = some res) : Tg p l e R s m args below meth c D hs ad ca A nL Q Fn res pc L st σ := by
  subst hnx
  unfold t_un at h
  split at h
  · next x r => exact g_st hK h (fun ok => OkT.cons (r_b _) ok.2.2.tl) (fun ok ls H locs lr k => lv_i2b hx hb hd (n_b x) k)
  · cases h
theorem g_i2s (hx : p.tables.exec = Jvm.exec) (hb : c.code = cc) (hK : ∀ pc' L' st' σ', K pc' L' st' σ' = some res → Tg p l e R s m args below meth c D hs ad ca A nL Q Fn res pc' L' st' σ') (hd : decode cc pc = .ok (.i2s, 1)) (hnx : nx = pc + 1) (h : t_un i_s nx K L st σ = some res) : Tg p l e R s m args below meth c D hs ad ca A nL Q Fn res pc L st σ := by
  subst hnx
  unfold t_un at h
  split at h
  · next x r => exact g_st hK h (fun ok => OkT.cons (r_s _) ok.2.2.tl) (fun ok ls H locs lr k => lv_i2s hx hb hd (n_s x) k)
  · cases h
theorem g_i2c (hx : p.tables.exec = Jvm.exec) (hb : c.code = cc) (hK : ∀ pc' L' st' σ', K pc' L' st' σ' = some res → Tg p l e R s m args below meth c D hs ad ca A nL Q Fn res pc' L' st' σ') (hd : decode cc pc = .ok (.i2c, 1)) (hnx : nx = pc + 1) (h : t_un i_c nx K L st σ = some res) : Tg p l e R s m args below meth c D hs ad ca A nL Q Fn res pc L st σ := by
  subst hnx
  unfold t_un at h
  split at h
  · next x r => exact g_st hK h (fun ok => OkT.cons (r_c _) ok.2.2.tl) (fun ok ls H locs lr k => lv_i2c hx hb hd (n_c x) k)
  · cases h
theorem g_i2l (hx : p.tables.exec = Jvm.exec) (hb : c.code = cc) (hK : ∀ pc' L' st' σ', K pc' L' st' σ' = some res → Tg p l e R s m args below meth c D hs ad ca A nL Q Fn res pc' L' st' σ') (hd : decode cc pc = .ok (.i2l, 1)) (hnx : nx = pc + 1) (h : t_i2j nx K L st σ = some res) : Tg p l e R s m args below meth c D hs ad ca A nL Q Fn res pc L st σ := by
  subst hnx
  unfold t_i2j at h
  split at h
  · next x r => exact g_st hK h (fun ok => OkT.cons (R32.to64 ok.2.2.hd) ok.2.2.tl) (fun ok ls H locs lr k => lv_i2l hx hb hd (n_i2l ok.2.2.hd) k)
  · cases h
theorem g_l2i (hx : p.tables.exec = Jvm.exec) (hb : c.code = cc) (hK : ∀ pc' L' st' σ', K pc' L' st' σ' = some res → Tg p l e R s m args below meth c D hs ad ca A nL Q Fn res pc' L' st' σ') (hd : decode cc pc = .ok (.l2i, 1)) (hnx : nx = pc + 1) (h : t_j2i nx K L st σ = some res) : Tg p l e R s m args below meth c D hs ad ca A nL Q Fn res pc L st σ := by
  subst hnx
  unfold t_j2i at h
  split at h
  · next x r => exact g_st hK h (fun ok => OkT.cons (r_w32 _) ok.2.2.tl) (fun ok ls H locs lr k => lv_l2i hx hb hd (n_l2i x) k)
  · cases h
theorem g_ladd (hx : p.tables.exec = Jvm.exec) (hb : c.code = cc) (hK : ∀ pc' L' st' σ', K pc' L' st' σ' = some res → Tg p l e R s m args below meth c D hs ad ca A nL Q Fn res pc' L' st' σ') (hd : decode cc pc = .ok (.ladd, 1)) (hnx : nx = pc + 1) (h : t_binj (fun x y => w64 (x + y)) nx K L st σ = some res) : Tg p l e R s m args below meth c D hs ad ca A nL Q Fn res pc L st σ := by
  subst hnx
  unfold t_binj at h
  split at h
  · next y x r => exact g_st hK h (fun ok => OkT.cons (r_w64 _) ok.2.2.tl.tl) (fun ok ls H locs lr k => lv_ladd hx hb hd (by rw [← m_add]; exact k))
  · cases h
theorem g_lsub (hx : p.tables.exec = Jvm.exec) (hb : c.code = cc) (hK : ∀ pc' L' st' σ', K pc' L' st' σ' = some res → Tg p l e R s m args below meth c D hs ad ca A nL Q Fn res pc' L' st' σ') (hd : decode cc pc = .ok (.lsub, 1)) (hnx : nx = pc + 1) (h : t_binj (fun x y => w64 (x - y)) nx K L st σ = some res) : Tg p l e R s m args below meth c D hs ad ca A nL Q Fn res pc L st σ := by
  subst hnx
  unfold t_binj at h
  split at h
  · next y x r => exact g_st hK h (fun ok => OkT.cons (r_w64 _) ok.2.2.tl.tl) (fun ok ls H locs lr k => lv_lsub hx hb hd (by rw [← m_sub]; exact k))
  · cases h
theorem g_lmul (hx : p.tables.exec = Jvm.exec) (hb : c.code = cc) (hK : ∀ pc' L' st' σ', K pc' L' st' σ' = some res → Tg p l e R s m args below meth c D hs ad ca A nL Q Fn res pc' L' st' σ') (hd : decode cc pc = .ok (.lmul, 1)) (hnx : nx = pc + 1) (h : t_binj (fun x y => w64 (x * y)) nx K L st σ = some res) : Tg p l e R s m args below meth c D hs ad ca A nL Q Fn res pc L st σ := by
  subst hnx
  unfold t_binj at h
  split at h
  · next y x r => exact g_st hK h (fun ok => OkT.cons (r_w64 _) ok.2.2.tl.tl) (fun ok ls H locs lr k => lv_lmul hx hb hd (by rw [← m_mul]; exact k))
  · cases h
theorem g_land (hx : p.tables.exec = Jvm.exec) (hb : c.code = cc) (hK : ∀ pc' L' st' σ', K pc' L' st' σ' = some res → Tg p l e R s m args below meth c D hs ad ca A nL Q Fn res pc' L' st' σ') (hd : decode cc pc = .ok (.land, 1)) (hnx : nx = pc + 1) (h : t_binj j_and nx K L st σ = some res) : Tg p l e R s m args below meth c D hs ad ca A nL Q Fn res pc L st σ := by
  subst hnx
  unfold t_binj at h
  split at h
  · next y x r => exact g_st hK h (fun ok => OkT.cons (s_and _ _) ok.2.2.tl.tl) (fun ok ls H locs lr k => lv_land hx hb hd (by rw [← m_and]; exact k))
  · cases h
theorem g_lor (hx : p.tables.exec = Jvm.exec) (hb : c.code = cc) (hK : ∀ pc' L' st' σ', K pc' L' st' σ' = some res → Tg p l e R s m args below meth c D hs ad ca A nL Q Fn res pc' L' st' σ') (hd : decode cc pc = .ok (.lor, 1)) (hnx : nx = pc + 1) (h : t_binj j_or nx K L st σ = some res) : Tg p l e R s m args below meth c D hs ad ca A nL Q Fn res pc L st σ := by
  subst hnx
  unfold t_binj at h
  split at h
  · next y x r => exact g_st hK h (fun ok => OkT.cons (s_or _ _) ok.2.2.tl.tl) (fun ok ls H locs lr k => lv_lor hx hb hd (by rw [← m_or]; exact k))
  · cases h
theorem g_lxor (hx : p.tables.exec = Jvm.exec) (hb : c.code = cc) (hK : ∀ pc' L' st' σ', K pc' L' st' σ' = some res → Tg p l e R s m args below meth c D hs ad ca A nL Q Fn res pc' L' st' σ') (hd : decode cc pc = .ok (.lxor, 1)) (hnx : nx = pc + 1) (h : t_binj j_xor nx K L st σ = some res) : Tg p l e R s m args below meth c D hs ad ca A nL Q Fn res pc L st σ := by
  subst hnx
  unfold t_binj at h
  split at h
  · next y x r => exact g_st hK h (fun ok => OkT.cons (s_xor _ _) ok.2.2.tl.tl) (fun ok ls H locs lr k => lv_lxor hx hb hd (by rw [← m_xor]; exact k))
  · cases h
theorem g_lshl (hx : p.tables.exec = Jvm.exec) (hb : c.code = cc) (hK : ∀ pc' L' st' σ', K pc' L' st' σ' = some res → Tg p l e R s m args below meth c D hs ad ca A nL Q Fn res pc' L' st' σ') (hd : decode cc pc = .ok (.lshl, 1)) (hnx : nx = pc + 1) (h : t_shj j_shl nx K L st σ = some res) : Tg p l e R s m args below meth c D hs ad ca A nL Q Fn res pc L st σ := by
  subst hnx
  unfold t_shj at h
  split at h
  · next y x r => exact g_st hK h (fun ok => OkT.cons (s_shl _ _) ok.2.2.tl.tl) (fun ok ls H locs lr k => lv_lshl hx hb hd (m_shl x y) k)
  · cases h
theorem g_lushr (hx : p.tables.exec = Jvm.exec) (hb : c.code = cc) (hK : ∀ pc' L' st' σ', K pc' L' st' σ' = some res → Tg p l e R s m args below meth c D hs ad ca A nL Q Fn res pc' L' st' σ') (hd : decode cc pc = .ok (.lushr, 1)) (hnx : nx = pc + 1) (h : t_shj j_ushr nx K L st σ = some res) : Tg p l e R s m args below meth c D hs ad ca A nL Q Fn res pc L st σ := by
  subst hnx
  unfold t_shj at h
  split at h
  · next y x r => exact g_st hK h (fun ok => OkT.cons (s_ushr _ _) ok.2.2.tl.tl) (fun ok ls H locs lr k => lv_lushr hx hb hd (m_ushr x y) k)
  · cases h
theorem g_lcmp (hx : p.tables.exec = Jvm.exec) (hb : c.code = cc) (hK : ∀ pc' L' st' σ', K pc' L' st' σ' = some res → Tg p l e R s m args below meth c D hs ad ca A nL Q Fn res pc' L' st' σ') (hd : decode cc pc = .ok (.lcmp, 1)) (hnx : nx = pc + 1) (h : t_jcmp nx K L st σ = some res) : Tg p l e R s m args below meth c D hs ad ca A nL Q Fn res pc L st σ := by
  subst hnx
  unfold t_jcmp at h
  split at h
  · next y x r =>
    have r1 : R32 (-1) := ⟨by decide, by decide⟩
    have r2 : R32 0 := ⟨by decide, by decide⟩
    have r3 : R32 1 := ⟨by decide, by decide⟩
    split at h
    · next hc =>
      refine g_st hK h (fun ok => OkT.cons r1 ok.2.2.tl.tl) (fun ok ls H locs lr k => W.lcmp hx hb hd ?_)
      have a := n_lt64 ok.2.2.tl.hd ok.2.2.hd
      have b := n_lt64 ok.2.2.hd ok.2.2.tl.hd
      have d := n_eq64 ok.2.2.tl.hd ok.2.2.hd
      have e : lg_cmp (Int64.ofInt x) (Int64.ofInt y) = -1 := by
        unfold lg_cmp
        rw [if_neg (fun z => by have := b.mp z; omega), if_neg (fun z => by have := d.mp z; omega)]
      rw [e]; exact k
    · next hc =>
      split at h
      · next hc2 =>
        refine g_st hK h (fun ok => OkT.cons r2 ok.2.2.tl.tl) (fun ok ls H locs lr k => W.lcmp hx hb hd ?_)
        have b := n_lt64 ok.2.2.hd ok.2.2.tl.hd
        have d := n_eq64 ok.2.2.tl.hd ok.2.2.hd
        have e : lg_cmp (Int64.ofInt x) (Int64.ofInt y) = 0 := by
          unfold lg_cmp
          rw [if_neg (fun z => by have := b.mp z; omega), if_pos (d.mpr hc2)]
        rw [e]; exact k
      · next hc2 =>
        refine g_st hK h (fun ok => OkT.cons r3 ok.2.2.tl.tl) (fun ok ls H locs lr k => W.lcmp hx hb hd ?_)
        have b := n_lt64 ok.2.2.hd ok.2.2.tl.hd
        have e : lg_cmp (Int64.ofInt x) (Int64.ofInt y) = 1 := by
          unfold lg_cmp
          rw [if_pos (b.mpr (by omega))]
        rw [e]; exact k
  · cases h
theorem g_dup (hx : p.tables.exec = Jvm.exec) (hb : c.code = cc) (hK : ∀ pc' L' st' σ', K pc' L' st' σ' = some res → Tg p l e R s m args below meth c D hs ad ca A nL Q Fn res pc' L' st' σ') (hd : decode cc pc = .ok (.dup, 1)) (hnx : nx = pc + 1) (h : t_dup nx K L st σ = some res) : Tg p l e R s m args below meth c D hs ad ca A nL Q Fn res pc L st σ := by
  subst hnx
  unfold t_dup at h
  split at h
  · next x r => exact g_st hK h (fun ok => OkT.cons ok.2.2.hd ok.2.2) (fun ok ls H locs lr k => lv_dup hx hb hd rfl k)
  · next x r => exact g_st hK h (fun ok => OkT.cons ok.2.2.hd ok.2.2) (fun ok ls H locs lr k => lv_dup hx hb hd rfl k)
  · cases h
theorem g_dup2 (hx : p.tables.exec = Jvm.exec) (hb : c.code = cc) (hK : ∀ pc' L' st' σ', K pc' L' st' σ' = some res → Tg p l e R s m args below meth c D hs ad ca A nL Q Fn res pc' L' st' σ') (hd : decode cc pc = .ok (.dup2, 1)) (hnx : nx = pc + 1) (h : t_dup2 nx K L st σ = some res) : Tg p l e R s m args below meth c D hs ad ca A nL Q Fn res pc L st σ := by
  subst hnx
  unfold t_dup2 at h
  split at h
  · next x r => exact g_st hK h (fun ok => OkT.cons ok.2.2.hd (OkT.cons ok.2.2.tl.hd ok.2.2)) (fun ok ls H locs lr k => lv_dup2_11 hx hb hd rfl rfl k)
  · cases h
theorem g_pop (hx : p.tables.exec = Jvm.exec) (hb : c.code = cc) (hK : ∀ pc' L' st' σ', K pc' L' st' σ' = some res → Tg p l e R s m args below meth c D hs ad ca A nL Q Fn res pc' L' st' σ') (hd : decode cc pc = .ok (.pop, 1)) (hnx : nx = pc + 1) (h : t_pop1 nx K L st σ = some res) : Tg p l e R s m args below meth c D hs ad ca A nL Q Fn res pc L st σ := by
  subst hnx
  unfold t_pop1 at h
  split at h
  · next x r => exact g_st hK h (fun ok => ok.2.2.tl) (fun ok ls H locs lr k => lv_pop hx hb hd rfl k)
  · next x r => exact g_st hK h (fun ok => ok.2.2.tl) (fun ok ls H locs lr k => lv_pop hx hb hd rfl k)
  · cases h
theorem g_goto (hx : p.tables.exec = Jvm.exec) (hb : c.code = cc) (hK : ∀ pc' L' st' σ', K pc' L' st' σ' = some res → Tg p l e R s m args below meth c D hs ad ca A nL Q Fn res pc' L' st' σ') {off : Int} {ts : List Nat} (hd : decode cc pc = .ok (.goto off, 3)) (hj : dj pc (.goto off) ts = true) (h : t_jmp ts K L st σ = some res) : Tg p l e R s m args below meth c D hs ad ca A nL Q Fn res pc L st σ := by
  obtain ⟨t, rfl, ht⟩ := dj1_ok hj
  exact g_st hK h (fun ok => ok.2.2) (fun ok ls H locs lr k => lv_goto hx hb hd ht k)

end INS
