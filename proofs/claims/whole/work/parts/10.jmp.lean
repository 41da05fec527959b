-- jumps, literals
section INS
variable {p : Program} {l : Launch} {e : Env} {R : Room} {s : State} {m : MethodId} {args : Array Value} {below : List Frame} {meth : Method} {c : Code}
variable {D : va_G} {hs : List (Nat × Nat)} {ad : Nat → Nat → Nat} {ca : Nat → ClassId} {A : Nat → Prop} {nL : Nat} {Q : State → Prop} {Fn : Option TV → TM → Prop}
variable {K : TK} {res : TRes} {pc nx : Nat} {L : TL} {st : List TV} {σ : TM} {cc : ByteArray}
theorem g_cond {P : Prop} {t1 t2 : Nat} {st' : List TV} (hK : ∀ pc' L' st' σ', K pc' L' st' σ' = some res → Tg p l e R s m args below meth c D hs ad ca A nL Q Fn res pc' L' st' σ') {X : Decidable P}
    (h : (if P then K t1 L st' σ else K t2 L st' σ) = some res) (ok : OkS hs σ L st → OkT hs st')
    (row : OkS hs σ L st → ∀ (ls : Array Slot) (H : Heap) (locs : List Loc), LR ad ls nL L → (P → W p l e R s m args below meth c H locs 0 0 Q (F0 m t1 ls (st'.map (t_cv ad)))) → (¬ P → W p l e R s m args below meth c H locs 0 0 Q (F0 m t2 ls (st'.map (t_cv ad)))) → W p l e R s m args below meth c H locs 0 0 Q (F0 m pc ls (st.map (t_cv ad)))) : Tg p l e R s m args below meth c D hs ad ca A nL Q Fn res pc L st σ := by
  by_cases hc : P
  · rw [if_pos hc] at h
    exact g_st hK h ok (fun o ls H locs lr k => row o ls H locs lr (fun _ => k) (fun q => absurd hc q))
  · rw [if_neg hc] at h
    exact g_st hK h ok (fun o ls H locs lr k => row o ls H locs lr (fun q => absurd q hc) (fun _ => k))
theorem n_z0 : R32 0 := ⟨by decide, by decide⟩
theorem g_if0 (hx : p.tables.exec = Jvm.exec) (hb : c.code = cc) (hK : ∀ pc' L' st' σ', K pc' L' st' σ' = some res → Tg p l e R s m args below meth c D hs ad ca A nL Q Fn res pc' L' st' σ') {cd : ClassFile.Cond} {off : Int} {ts : List Nat} (hd : decode cc pc = .ok (.ifCond cd off, 3)) (hnx : nx = pc + 3) (hj : dj pc (.ifCond cd off) ts = true) (h : t_if0 cd ts nx K L st σ = some res) : Tg p l e R s m args below meth c D hs ad ca A nL Q Fn res pc L st σ := by
  subst hnx
  obtain ⟨t, rfl, ht⟩ := dj1_ok hj
  unfold t_if0 at h
  split at h
  · next x r =>
    cases cd
    · exact g_cond hK (P := x = 0) h (fun ok => ok.2.2.tl) (fun ok ls H locs lr k1 k2 => by
        have z := n_eq ok.2.2.hd n_z0
        exact lv_if_eq hx hb hd ht (fun q => k1 (z.mp q)) (fun q => k2 (fun w => q (z.mpr w))))
    · exact g_cond hK (P := x = 0) h (fun ok => ok.2.2.tl) (fun ok ls H locs lr k1 k2 => by
        have z := n_eq ok.2.2.hd n_z0
        exact lv_if_ne hx hb hd ht (fun q => k2 (fun w => q (z.mpr w))) (fun q => k1 (z.mp q)))
    · exact g_cond hK (P := x < 0) h (fun ok => ok.2.2.tl) (fun ok ls H locs lr k1 k2 => by
        have z := n_lt ok.2.2.hd n_z0
        exact lv_if_lt hx hb hd ht (fun q => k1 (z.mp q)) (fun q => k2 (fun w => q (z.mpr w))))
    · exact g_cond hK (P := x < 0) h (fun ok => ok.2.2.tl) (fun ok ls H locs lr k1 k2 => by
        have z := n_le n_z0 ok.2.2.hd
        exact lv_if_ge hx hb hd ht (fun q => k2 (by have := z.mp q; omega)) (fun q => k1 (by have : ¬ _ := fun w => q (z.mpr w); omega)))
    · exact g_cond hK (P := 0 < x) h (fun ok => ok.2.2.tl) (fun ok ls H locs lr k1 k2 => by
        have z := n_lt n_z0 ok.2.2.hd
        exact lv_if_gt hx hb hd ht (fun q => k1 (z.mp q)) (fun q => k2 (fun w => q (z.mpr w))))
    · exact g_cond hK (P := 0 < x) h (fun ok => ok.2.2.tl) (fun ok ls H locs lr k1 k2 => by
        have z := n_le ok.2.2.hd n_z0
        exact lv_if_le hx hb hd ht (fun q => k2 (by have := z.mp q; omega)) (fun q => k1 (by have : ¬ _ := fun w => q (z.mpr w); omega)))
  · cases h
theorem g_if2 (hx : p.tables.exec = Jvm.exec) (hb : c.code = cc) (hK : ∀ pc' L' st' σ', K pc' L' st' σ' = some res → Tg p l e R s m args below meth c D hs ad ca A nL Q Fn res pc' L' st' σ') {cd : ClassFile.Cond} {off : Int} {ts : List Nat} (hd : decode cc pc = .ok (.if_icmp cd off, 3)) (hnx : nx = pc + 3) (hj : dj pc (.if_icmp cd off) ts = true) (h : t_if2 cd ts nx K L st σ = some res) : Tg p l e R s m args below meth c D hs ad ca A nL Q Fn res pc L st σ := by
  subst hnx
  obtain ⟨t, rfl, ht⟩ := dj1_ok hj
  unfold t_if2 at h
  split at h
  · next y x r =>
    cases cd
    · exact g_cond hK (P := x = y) h (fun ok => ok.2.2.tl.tl) (fun ok ls H locs lr k1 k2 => by
        have z := n_eq ok.2.2.tl.hd ok.2.2.hd
        exact lv_icmp_eq hx hb hd ht (fun q => k1 (z.mp q)) (fun q => k2 (fun w => q (z.mpr w))))
    · exact g_cond hK (P := x = y) h (fun ok => ok.2.2.tl.tl) (fun ok ls H locs lr k1 k2 => by
        have z := n_eq ok.2.2.tl.hd ok.2.2.hd
        exact lv_icmp_ne hx hb hd ht (fun q => k2 (fun w => q (z.mpr w))) (fun q => k1 (z.mp q)))
    · exact g_cond hK (P := x < y) h (fun ok => ok.2.2.tl.tl) (fun ok ls H locs lr k1 k2 => by
        have z := n_lt ok.2.2.tl.hd ok.2.2.hd
        exact lv_icmp_lt hx hb hd ht (fun q => k1 (z.mp q)) (fun q => k2 (fun w => q (z.mpr w))))
    · exact g_cond hK (P := x < y) h (fun ok => ok.2.2.tl.tl) (fun ok ls H locs lr k1 k2 => by
        have z := n_le ok.2.2.hd ok.2.2.tl.hd
        exact lv_icmp_ge hx hb hd ht (fun q => k2 (by have := z.mp q; omega)) (fun q => k1 (by have : ¬ _ := fun w => q (z.mpr w); omega)))
    · exact g_cond hK (P := y < x) h (fun ok => ok.2.2.tl.tl) (fun ok ls H locs lr k1 k2 => by
        have z := n_lt ok.2.2.hd ok.2.2.tl.hd
        exact lv_icmp_gt hx hb hd ht (fun q => k1 (z.mp q)) (fun q => k2 (fun w => q (z.mpr w))))
    · exact g_cond hK (P := y < x) h (fun ok => ok.2.2.tl.tl) (fun ok ls H locs lr k1 k2 => by
        have z := n_le ok.2.2.tl.hd ok.2.2.hd
        exact lv_icmp_le hx hb hd ht (fun q => k2 (by have := z.mp q; omega)) (fun q => k1 (by have : ¬ _ := fun w => q (z.mpr w); omega)))
  · cases h
theorem g_iconst (hx : p.tables.exec = Jvm.exec) (hb : c.code = cc) (hK : ∀ pc' L' st' σ', K pc' L' st' σ' = some res → Tg p l e R s m args below meth c D hs ad ca A nL Q Fn res pc' L' st' σ') {n : Int} (hd : decode cc pc = .ok (.iconst n, 1)) (hnx : nx = pc + 1) (hn : -32768 ≤ n ∧ n < 32768) (h : t_lit nx (.inl n) K L st σ = some res) : Tg p l e R s m args below meth c D hs ad ca A nL Q Fn res pc L st σ := by
  subst hnx
  exact g_st hK h (fun ok => OkT.cons (show R32 n from ⟨by omega, by omega⟩) ok.2.2) (fun ok ls H locs lr k => lv_iconst hx hb hd rfl k)
theorem g_bipush (hx : p.tables.exec = Jvm.exec) (hb : c.code = cc) (hK : ∀ pc' L' st' σ', K pc' L' st' σ' = some res → Tg p l e R s m args below meth c D hs ad ca A nL Q Fn res pc' L' st' σ') {n : Int} (hd : decode cc pc = .ok (.bipush n, 2)) (hnx : nx = pc + 2) (hn : -128 ≤ n ∧ n < 128) (h : t_lit nx (.inl n) K L st σ = some res) : Tg p l e R s m args below meth c D hs ad ca A nL Q Fn res pc L st σ := by
  subst hnx
  have hr : R32 n := ⟨by omega, by omega⟩
  refine g_st hK h (fun ok => OkT.cons hr ok.2.2) (fun ok ls H locs lr k => lv_bipush hx hb hd ?_ k)
  apply Int32.toInt_inj.1
  rw [o32 hr, Int8.toInt_toInt32, Int8.toInt_ofInt_of_le (by omega) (by omega)]
theorem g_sipush (hx : p.tables.exec = Jvm.exec) (hb : c.code = cc) (hK : ∀ pc' L' st' σ', K pc' L' st' σ' = some res → Tg p l e R s m args below meth c D hs ad ca A nL Q Fn res pc' L' st' σ') {n : Int} (hd : decode cc pc = .ok (.sipush n, 3)) (hnx : nx = pc + 3) (hn : -32768 ≤ n ∧ n < 32768) (h : t_lit nx (.inl n) K L st σ = some res) : Tg p l e R s m args below meth c D hs ad ca A nL Q Fn res pc L st σ := by
  subst hnx
  have hr : R32 n := ⟨by omega, by omega⟩
  refine g_st hK h (fun ok => OkT.cons hr ok.2.2) (fun ok ls H locs lr k => lv_sipush hx hb hd ?_ k)
  apply Int32.toInt_inj.1
  rw [o32 hr, Int16.toInt_toInt32, Int16.toInt_ofInt_of_le (by omega) (by omega)]
theorem g_lconst (hx : p.tables.exec = Jvm.exec) (hb : c.code = cc) (hK : ∀ pc' L' st' σ', K pc' L' st' σ' = some res → Tg p l e R s m args below meth c D hs ad ca A nL Q Fn res pc' L' st' σ') {n : Fin 2} (hd : decode cc pc = .ok (.lconst n, 1)) (hnx : nx = pc + 1) (h : t_lit nx (.inr (.inl (n : Nat))) K L st σ = some res) : Tg p l e R s m args below meth c D hs ad ca A nL Q Fn res pc L st σ := by
  subst hnx
  have hr : R64 ((n : Nat) : Int) := ⟨by omega, by omega⟩
  refine g_st hK h (fun ok => OkT.cons hr ok.2.2) (fun ok ls H locs lr k => lv_lconst hx hb hd ?_ k)
  exact (Int64.ofInt_eq_ofNat).symm
theorem tsw_in (J : Nat → Option TRes) (x : Int) (d : Nat) : ∀ (us : List Nat) (lo : Int) (h : t_tsw J x d lo us = some res), (x < lo ∨ lo + us.length ≤ x) ∧ J d = some res ∨ ∃ u : Nat, lo ≤ x ∧ us[(x - lo).toNat]? = some u ∧ J u = some res
  | [], lo, h => Or.inl ⟨by simp only [List.length_nil]; omega, h⟩
  | u :: us, lo, h => by
    unfold t_tsw at h
    split at h
    · next e =>
      subst e
      exact Or.inr ⟨u, Int.le_refl _, by simp, h⟩
    · next e =>
      rcases tsw_in J x d us (lo + 1) h with ⟨g, g2⟩ | ⟨v, g1, g2, g3⟩
      · exact Or.inl ⟨by simp only [List.length_cons]; omega, g2⟩
      · refine Or.inr ⟨v, by omega, ?_, g3⟩
        rw [show (x - lo).toNat = (x - (lo + 1)).toNat + 1 by omega, List.getElem?_cons_succ]
        exact g2
theorem g_tsw (hx : p.tables.exec = Jvm.exec) (hb : c.code = cc) (hK : ∀ pc' L' st' σ', K pc' L' st' σ' = some res → Tg p l e R s m args below meth c D hs ad ca A nL Q Fn res pc' L' st' σ') {d lo hi : Int} {os : Array Int} {n : Nat} {ts : List Nat} (hd : decode cc pc = .ok (.tableswitch d lo hi os, n)) (hj : dj pc (.tableswitch d lo hi os) ts = true) (h : t_sw (fun d us J x => t_tsw J x d lo us) ts K L st σ = some res) : Tg p l e R s m args below meth c D hs ad ca A nL Q Fn res pc L st σ := by
  unfold t_sw at h
  split at h
  · next x r =>
    cases ts with
    | nil => cases h
    | cons t us =>
      simp only [dj, Bool.and_eq_true, decide_eq_true_eq] at hj
      obtain ⟨⟨h1, h2⟩, h3⟩ := hj
      have hlen : os.toList.length = us.length := by
        have := congrArg List.length h2
        simpa using this
      rcases tsw_in _ x t us lo h with ⟨g, g2⟩ | ⟨u, g1, g2, g3⟩
      · exact g_st hK g2 (fun ok => ok.2.2.tl) (fun ok ls H locs lr k => lv_tableOut hx hb hd (by rw [o32 ok.2.2.hd]; omega) h1 k)
      · refine g_st hK g3 (fun ok => ok.2.2.tl) (fun ok ls H locs lr k => ?_)
        have hxx := o32 ok.2.2.hd
        have hl := (List.getElem?_eq_some_iff.mp g2).1
        have h4 : (os.toList.map (fun o => (pc : Int) + o))[(x - lo).toNat]? = some (u : Int) := by rw [h2, List.getElem?_map, g2]; rfl
        rw [List.getElem?_map] at h4
        cases ho : os.toList[(x - lo).toNat]? with
        | none => rw [ho] at h4; cases h4
        | some o =>
          rw [ho] at h4
          have h5 : (pc : Int) + o = u := by simpa using h4
          exact lv_tableIn hx hb hd (by rw [hxx]; omega) (by rw [hxx]; omega) (off := o) (by rw [hxx, ← Array.getElem?_toList]; exact ho) h5 k
  · cases h
theorem lsw_in (J : Nat → Option TRes) (x : Int) (d : Nat) (pc : Nat) (df : Int) (hd0 : (pc : Int) + df = d) : ∀ (ps : List (Int × Int)) (us : List Nat), ps.map (fun o => (pc : Int) + o.2) = us.map (fun (u : Nat) => (u : Int)) → t_lsw J x d ps us = some res → ∃ u : Nat, J u = some res ∧ (pc : Int) + Op.lookupswitch.offset ps df x = u
  | [], us, _, h => ⟨d, by simpa [t_lsw] using h, by simpa [Op.lookupswitch.offset] using hd0⟩
  | (a, o) :: ps, [], e, h => by cases e
  | (a, o) :: ps, u :: us, e, h => by
    simp only [List.map_cons, List.cons.injEq] at e
    unfold t_lsw at h
    split at h
    · next hx =>
      subst hx
      exact ⟨u, h, by simpa [Op.lookupswitch.offset] using e.1⟩
    · next hx =>
      obtain ⟨v, g1, g2⟩ := lsw_in J x d pc df hd0 ps us e.2 h
      refine ⟨v, g1, ?_⟩
      rw [← g2]
      simp [Op.lookupswitch.offset, Ne.symm hx, hx]
theorem g_lsw (hx : p.tables.exec = Jvm.exec) (hb : c.code = cc) (hK : ∀ pc' L' st' σ', K pc' L' st' σ' = some res → Tg p l e R s m args below meth c D hs ad ca A nL Q Fn res pc' L' st' σ') {d : Int} {ps : Array (Int × Int)} {n : Nat} {ts : List Nat} (hd : decode cc pc = .ok (.lookupswitch d ps, n)) (hj : dj pc (.lookupswitch d ps) ts = true) (h : t_sw (fun d us J x => t_lsw J x d ps.toList us) ts K L st σ = some res) : Tg p l e R s m args below meth c D hs ad ca A nL Q Fn res pc L st σ := by
  unfold t_sw at h
  split at h
  · next x r =>
    cases ts with
    | nil => cases h
    | cons t us =>
      simp only [dj, Bool.and_eq_true, decide_eq_true_eq] at hj
      obtain ⟨⟨h1, h2⟩, h3⟩ := hj
      obtain ⟨u, g1, g2⟩ := lsw_in _ x t pc d h1 ps.toList us h2 h
      exact g_st hK g1 (fun ok => ok.2.2.tl) (fun ok ls H locs lr k => lv_lookup hx hb hd h3 rfl (by rw [o32 ok.2.2.hd]; exact g2) k)
  · cases h
end INS
