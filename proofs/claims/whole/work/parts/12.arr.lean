-- arrays
section INS
variable {p : Program} {l : Launch} {e : Env} {R : Room} {s : State} {m : MethodId} {args : Array Value} {below : List Frame} {meth : Method} {c : Code}
variable {D : va_G} {hs : List (Nat × Nat)} {ad : Nat → Nat → Nat} {ca : Nat → ClassId} {A : Nat → Prop} {nL : Nat} {Q : State → Prop} {Fn : Option TV → TM → Prop}
variable {K : TK} {res : TRes} {pc nx : Nat} {L : TL} {st : List TV} {σ : TM} {cc : ByteArray}

theorem a_arr {k srt : Nat} {n : Int} (h : t_arr tbl k = some (srt, n)) : ∃ r : KRow, t_nth tb_kinds k = some r ∧ r.1 = none ∧ r.2.2.1 = some (srt, n) ∧ srt ≤ 3 ∧ 0 ≤ n ∧ n ≤ 5000 := by
  unfold t_arr at h
  cases hr : t_nth tbl.1 k with
  | none => rw [hr] at h; cases h
  | some r =>
    rw [hr] at h
    have h2 : r.2.2.1 = some (srt, n) := h
    have hk := kchk_at (show t_nth tb_kinds k = some r from hr)
    unfold kchk at hk
    cases hc : r.1 with
    | some c' =>
      simp only [hc, h2, Bool.and_eq_true] at hk
      cases hk.1.2
    | none =>
      simp only [hc, h2, Bool.and_eq_true, decide_eq_true_eq] at hk
      exact ⟨r, hr, hc, h2, Nat.le_of_ble_eq_true hk.1.1.1, hk.1.1.2, hk.1.2⟩
theorem cE_arr {k i srt : Nat} {n : Int} (h : t_arr tbl k = some (srt, n)) : cE ad ca σ (k, i) = cond (Nat.beq srt 2) (.inl (ca 2, n.toNat, .inr (.inl (fun j => Int64.ofInt (σ k i j))))) (.inl (ca srt, n.toNat, .inl (fun j => Int32.ofInt (σ k i j)))) := by
  obtain ⟨r, hr, h1, h2, -⟩ := a_arr h
  unfold cE
  rw [show t_nth tb_kinds (k, i).1 = some r from hr]
  simp only [cEr, h1, h2]
theorem arr_in {k i srt : Nat} {n : Int} (h : OkH hs (k, i)) (ha : t_arr tbl k = some (srt, n)) (h3 : srt ≠ 3) : (k, i) ∈ hs := by
  rcases h with q | q | q
  · exact q
  · cases q
    rw [show t_arr tbl 119 = none by decide +kernel] at ha
    cases ha
  · cases q
    rw [show t_arr tbl 120 = some (3, 11) by decide +kernel] at ha
    cases ha
    exact absurd rfl h3
theorem arr_32 {k i j srt : Nat} {n : Int} (hM : OkM σ) (ha : t_arr tbl k = some (srt, n)) (h2 : srt ≠ 2) : R32 (σ k i j) := by
  rcases (hM.1 k i j).2 with ⟨n', q⟩ | q
  · rw [ha] at q
    cases q
    exact absurd rfl h2
  · exact q
theorem beq_ne {a b : Nat} (h : a ≠ b) : Nat.beq a b = false := by
  cases hq : Nat.beq a b with
  | false => rfl
  | true => exact absurd (Nat.eq_of_beq_eq_true hq) h
theorem byte_kind {k : Nat} {n : Int} (h : t_arr tbl k = some (3, n)) : k = 120 := by
  obtain ⟨r, hr, -⟩ := a_arr h
  have hl := t_nth_lt _ _ _ hr
  have h2 : ((List.range 121).all fun k => match t_arr tbl k with | some (a, _) => !(Nat.beq a 3) || Nat.beq k 120 | none => true) = true := by decide +kernel
  have h3 := List.all_eq_true.mp h2 k (List.mem_range.mpr hl)
  rw [h] at h3
  exact Nat.eq_of_beq_eq_true (by simpa using h3)
theorem g_iald (hx : p.tables.exec = Jvm.exec) (hb : c.code = cc) (hK : ∀ pc' L' st' σ', K pc' L' st' σ' = some res → Tg p l e R s m args below meth c D hs ad ca A nL Q Fn res pc' L' st' σ') (hKt : va_K D vwCl (tyl ca) s) (hd : decode cc pc = .ok (.iaload, 1)) (hnx : nx = pc + 1) (h : t_ald tbl 0 nx K L st σ = some res) : Tg p l e R s m args below meth c D hs ad ca A nL Q Fn res pc L st σ := by
  subst hnx
  unfold t_ald at h
  split at h
  · next j k i r =>
    split at h
    · next srt n ha =>
      cases hs0 : Nat.beq srt 0 with
      | false => rw [hs0] at h; cases h
      | true =>
        rw [hs0] at h
        have e := Nat.eq_of_beq_eq_true hs0
        subst e
        unfold t_in at h
        simp only [cond_true] at h
        split at h
        · next hb2 =>
          refine g_rd hK h (fun ok => OkT.cons (arr_32 ok.1 ha (by decide)) ok.2.2.tl.tl) (fun ok ls H locs lr hP hS kk => ?_)
          have hk := arr_in ok.2.2.tl.hd ha (by decide)
          obtain ⟨q0, hq, hws⟩ := wsl_at (ad := ad) (ca := ca) (σ := σ) hk
          rw [cE_arr ha] at hws
          exact va_iald hx hb hKt hP q0 0 hws rfl (n_in ok.2.2.hd hb2.1 hb2.2) hd (by rw [n_cl ok.2.2.hd]; exact kk)
        · cases h
    · cases h
  · cases h
theorem g_bald (hx : p.tables.exec = Jvm.exec) (hb : c.code = cc) (hK : ∀ pc' L' st' σ', K pc' L' st' σ' = some res → Tg p l e R s m args below meth c D hs ad ca A nL Q Fn res pc' L' st' σ') (hKt : va_K D vwCl (tyl ca) s) (hC : HC hs) (hX : SX ad A s s.heap) (hd : decode cc pc = .ok (.baload, 1)) (hnx : nx = pc + 1) (h : t_aldb tbl nx K L st σ = some res) : Tg p l e R s m args below meth c D hs ad ca A nL Q Fn res pc L st σ := by
  subst hnx
  unfold t_aldb at h
  split at h
  · next j k i r =>
    split at h
    · next srt n ha =>
      cases hs0 : (Nat.beq srt 1 || Nat.beq srt 3) with
      | false => rw [hs0] at h; cases h
      | true =>
        rw [hs0] at h
        unfold t_in at h
        simp only [cond_true] at h
        split at h
        · next hb2 =>
          rw [Bool.or_eq_true] at hs0
          rcases hs0 with e | e
          · have e := Nat.eq_of_beq_eq_true e
            subst e
            refine g_rd hK h (fun ok => OkT.cons (arr_32 ok.1 ha (by decide)) ok.2.2.tl.tl) (fun ok ls H locs lr hP hS kk => ?_)
            have hk := arr_in ok.2.2.tl.hd ha (by decide)
            obtain ⟨q0, hq, hws⟩ := wsl_at (ad := ad) (ca := ca) (σ := σ) hk
            rw [cE_arr ha] at hws
            exact va_zald hx hb hKt hP q0 1 hws rfl (n_in ok.2.2.hd hb2.1 hb2.2) hd (by rw [n_cl ok.2.2.hd]; exact kk)
          · have e := Nat.eq_of_beq_eq_true e
            subst e
            refine g_rd hK h (fun ok => OkT.cons (arr_32 ok.1 ha (by decide)) ok.2.2.tl.tl) (fun ok ls H locs lr hP hS kk => ?_)
            have hk : k = 120 ∧ i = 0 := by
              rcases ok.2.2.tl.hd with q | q | q
              · have := hC.2.1 _ q
                have h9 := byte_kind ha
                simp only [] at this
                omega
              · cases q
                rw [show t_arr tbl 119 = none by decide +kernel] at ha
                cases ha
              · cases q
                exact ⟨rfl, rfl⟩
            obtain ⟨rfl, rfl⟩ := hk
            rw [show t_arr tbl 120 = some (3, 11) by decide +kernel] at ha
            cases ha
            obtain ⟨x1, x2, x3, x4, x5, x6, x7⟩ := hX
            refine va_tb hx hb x6 hS (n_in ok.2.2.hd hb2.1 hb2.2) (v := .int (Int32.ofInt (strB j.toNat))) (by rw [n_cl ok.2.2.hd]) hd ?_
            rw [← ok.1.2.2 j.toNat (by omega)]
            exact kk
        · cases h
    · cases h
  · cases h
theorem g_lald (hx : p.tables.exec = Jvm.exec) (hb : c.code = cc) (hK : ∀ pc' L' st' σ', K pc' L' st' σ' = some res → Tg p l e R s m args below meth c D hs ad ca A nL Q Fn res pc' L' st' σ') (hKt : va_K D vwCl (tyl ca) s) (hd : decode cc pc = .ok (.laload, 1)) (hnx : nx = pc + 1) (h : t_aldj tbl nx K L st σ = some res) : Tg p l e R s m args below meth c D hs ad ca A nL Q Fn res pc L st σ := by
  subst hnx
  unfold t_aldj at h
  split at h
  · next j k i r =>
    split at h
    · next srt n ha =>
      cases hs0 : Nat.beq srt 2 with
      | false => rw [hs0] at h; cases h
      | true =>
        rw [hs0] at h
        have e := Nat.eq_of_beq_eq_true hs0
        subst e
        unfold t_in at h
        simp only [cond_true] at h
        split at h
        · next hb2 =>
          refine g_rd hK h (fun ok => OkT.cons (ok.1.1 k i j.toNat).1 ok.2.2.tl.tl) (fun ok ls H locs lr hP hS kk => ?_)
          have hk := arr_in ok.2.2.tl.hd ha (by decide)
          obtain ⟨q0, hq, hws⟩ := wsl_at (ad := ad) (ca := ca) (σ := σ) hk
          rw [cE_arr ha] at hws
          exact va_lald hx hb hKt hP q0 2 hws rfl (n_in ok.2.2.hd hb2.1 hb2.2) hd (by rw [n_cl ok.2.2.hd]; exact kk)
        · cases h
    · cases h
  · cases h
theorem upd_fun {k i j : Nat} {v : Int} : upd (fun q => Int32.ofInt (σ k i q)) j (Int32.ofInt v) = fun q => Int32.ofInt (t_upd σ k i j v k i q) := by
  funext q
  rw [t_upd_eq]
  unfold upd
  by_cases hq : q = j
  · subst hq; simp
  · simp [hq]
theorem updL_fun {k i j : Nat} {v : Int} : vp_updL (fun q => Int64.ofInt (σ k i q)) j (Int64.ofInt v) = fun q => Int64.ofInt (t_upd σ k i j v k i q) := by
  funext q
  rw [t_upd_eq]
  unfold vp_updL
  by_cases hq : q = j
  · subst hq; simp
  · simp [hq]
theorem g_iast (hx : p.tables.exec = Jvm.exec) (hb : c.code = cc) (hK : ∀ pc' L' st' σ', K pc' L' st' σ' = some res → Tg p l e R s m args below meth c D hs ad ca A nL Q Fn res pc' L' st' σ') (hKt : va_K D vwCl (tyl ca) s) (hC : HC hs) (hd : decode cc pc = .ok (.iastore, 1)) (hnx : nx = pc + 1) (h : t_ast tbl 0 false nx K L st σ = some res) : Tg p l e R s m args below meth c D hs ad ca A nL Q Fn res pc L st σ := by
  subst hnx
  unfold t_ast at h
  split at h
  · next v j k i r =>
    split at h
    · next srt n ha =>
      cases hs0 : Nat.beq srt 0 with
      | false => rw [hs0] at h; cases h
      | true =>
        rw [hs0] at h
        have e := Nat.eq_of_beq_eq_true hs0
        subst e
        unfold t_in t_01 at h
        simp only [cond_true, cond_false] at h
        split at h
        · next hb2 =>
          refine g_wr hK h (fun ok => ⟨ok.2.2.tl.tl.tl, okM_upd ok.1 (R32.to64 ok.2.2.hd) (Or.inr ok.2.2.hd) (hC.2.1 _ (arr_in ok.2.2.tl.tl.hd ha (by decide)))⟩) (fun ok ls H locs lr hP hD hS kk => ?_)
          have hk := arr_in ok.2.2.tl.tl.hd ha (by decide)
          obtain ⟨q0, hq, hws⟩ := wsl_at (ad := ad) (ca := ca) (σ := σ) hk
          rw [cE_arr ha] at hws
          have hup := wsl_upd (ad := ad) (ca := ca) (σ := σ) (j := j.toNat) (v := v) hC.1 hq
          rw [cE_arr ha] at hup
          rw [hup] at kk
          refine va_iast hx hb hKt hP hD hS q0 0 hws rfl (n_in ok.2.2.tl.hd hb2.1 hb2.2) hd ?_
          rw [n_cl ok.2.2.tl.hd, upd_fun]
          exact kk
        · cases h
    · cases h
  · cases h
theorem g_bast (hx : p.tables.exec = Jvm.exec) (hb : c.code = cc) (hK : ∀ pc' L' st' σ', K pc' L' st' σ' = some res → Tg p l e R s m args below meth c D hs ad ca A nL Q Fn res pc' L' st' σ') (hKt : va_K D vwCl (tyl ca) s) (hC : HC hs) (hd : decode cc pc = .ok (.bastore, 1)) (hnx : nx = pc + 1) (h : t_ast tbl 1 true nx K L st σ = some res) : Tg p l e R s m args below meth c D hs ad ca A nL Q Fn res pc L st σ := by
  subst hnx
  unfold t_ast at h
  split at h
  · next v j k i r =>
    split at h
    · next srt n ha =>
      cases hs0 : Nat.beq srt 1 with
      | false => rw [hs0] at h; cases h
      | true =>
        rw [hs0] at h
        have e := Nat.eq_of_beq_eq_true hs0
        subst e
        unfold t_in t_01 at h
        simp only [cond_true] at h
        split at h
        · next hb2 =>
          split at h
          · next hz =>
            refine g_wr hK h (fun ok => ⟨ok.2.2.tl.tl.tl, okM_upd ok.1 (R32.to64 ok.2.2.hd) (Or.inr ok.2.2.hd) (hC.2.1 _ (arr_in ok.2.2.tl.tl.hd ha (by decide)))⟩) (fun ok ls H locs lr hP hD hS kk => ?_)
            have hk := arr_in ok.2.2.tl.tl.hd ha (by decide)
            obtain ⟨q0, hq, hws⟩ := wsl_at (ad := ad) (ca := ca) (σ := σ) hk
            rw [cE_arr ha] at hws
            have hup := wsl_upd (ad := ad) (ca := ca) (σ := σ) (j := j.toNat) (v := v) hC.1 hq
            rw [cE_arr ha] at hup
            rw [hup] at kk
            refine va_zast hx hb hKt hP hD hS q0 1 hws rfl (n_in ok.2.2.tl.hd hb2.1 hb2.2) hd ?_
            rw [n_cl ok.2.2.tl.hd, (n_z v hz.1 hz.2).1, upd_fun]
            exact kk
          · cases h
        · cases h
    · cases h
  · cases h
theorem g_last (hx : p.tables.exec = Jvm.exec) (hb : c.code = cc) (hK : ∀ pc' L' st' σ', K pc' L' st' σ' = some res → Tg p l e R s m args below meth c D hs ad ca A nL Q Fn res pc' L' st' σ') (hKt : va_K D vwCl (tyl ca) s) (hC : HC hs) (hd : decode cc pc = .ok (.lastore, 1)) (hnx : nx = pc + 1) (h : t_astj tbl nx K L st σ = some res) : Tg p l e R s m args below meth c D hs ad ca A nL Q Fn res pc L st σ := by
  subst hnx
  unfold t_astj at h
  split at h
  · next v j k i r =>
    split at h
    · next srt n ha =>
      cases hs0 : Nat.beq srt 2 with
      | false => rw [hs0] at h; cases h
      | true =>
        rw [hs0] at h
        have e := Nat.eq_of_beq_eq_true hs0
        subst e
        unfold t_in at h
        simp only [cond_true] at h
        split at h
        · next hb2 =>
          refine g_wr hK h (fun ok => ⟨ok.2.2.tl.tl.tl, okM_upd ok.1 ok.2.2.hd (Or.inl ⟨n, ha⟩) (hC.2.1 _ (arr_in ok.2.2.tl.tl.hd ha (by decide)))⟩) (fun ok ls H locs lr hP hD hS kk => ?_)
          have hk := arr_in ok.2.2.tl.tl.hd ha (by decide)
          obtain ⟨q0, hq, hws⟩ := wsl_at (ad := ad) (ca := ca) (σ := σ) hk
          rw [cE_arr ha] at hws
          have hup := wsl_upd (ad := ad) (ca := ca) (σ := σ) (j := j.toNat) (v := v) hC.1 hq
          rw [cE_arr ha] at hup
          rw [hup] at kk
          refine va_last hx hb hKt hP hD hS q0 2 hws rfl (n_in ok.2.2.tl.hd hb2.1 hb2.2) hd ?_
          rw [n_cl ok.2.2.tl.hd, updL_fun]
          exact kk
        · cases h
    · cases h
  · cases h
theorem cE_aar {k i k' : Nat} {n : Int} (h : t_aar tbl k = some (n, k')) : cE ad ca σ (k, i) = .inl (ca (pl (kcls k')), n.toNat, .inr (.inr (.inr (.inr (fun j => some (ad k' j)))))) ∧ (kcls k' = 1 ∨ kcls k' = 2 ∨ kcls k' = 3 ∨ kcls k' = 5 ∨ kcls k' = 6 ∨ kcls k' = 7 ∨ kcls k' = 8) ∧ k < 119 := by
  unfold t_aar at h
  cases hr : t_nth tbl.1 k with
  | none => rw [hr] at h; cases h
  | some r =>
    rw [hr] at h
    have h2 : r.2.2.2.1 = some (n, k') := h
    have hk := kchk_at (show t_nth tb_kinds k = some r from hr)
    unfold kchk at hk
    cases hc : r.1 with
    | some c' =>
      simp only [hc, h2, Bool.and_eq_true] at hk
      cases hk.2
    | none =>
      cases ha : r.2.2.1 with
      | some x =>
        obtain ⟨a, b⟩ := x
        simp only [hc, h2, ha, Bool.and_eq_true] at hk
        cases hk.2
      | none =>
        simp only [hc, h2, ha, Bool.and_eq_true] at hk
        refine ⟨?_, by simpa using hk.2, ?_⟩
        · unfold cE
          rw [show t_nth tb_kinds (k, i).1 = some r from hr]
          simp only [cEr, hc, ha, h2]
        · have hl := t_nth_lt _ _ _ (show t_nth tb_kinds k = some r from hr)
          have h3 : t_aar tbl 119 = none ∧ t_aar tbl 120 = none := by decide +kernel
          have h4 : t_aar tbl k = some (n, k') := by unfold t_aar; rw [hr]; exact h
          have hl2 : k < 121 := hl
          rcases (by omega : k < 119 ∨ k = 119 ∨ k = 120) with q | rfl | rfl
          · exact q
          · rw [h3.1] at h4; cases h4
          · rw [h3.2] at h4; cases h4
theorem g_aald (hx : p.tables.exec = Jvm.exec) (hb : c.code = cc) (hK : ∀ pc' L' st' σ', K pc' L' st' σ' = some res → Tg p l e R s m args below meth c D hs ad ca A nL Q Fn res pc' L' st' σ') (hKt : va_K D vwCl (tyl ca) s) (hC : HC hs) (hd : decode cc pc = .ok (.aaload, 1)) (hnx : nx = pc + 1) (h : t_aldh tbl nx K L st σ = some res) : Tg p l e R s m args below meth c D hs ad ca A nL Q Fn res pc L st σ := by
  subst hnx
  unfold t_aldh at h
  split at h
  · next j k r =>
    split at h
    · next n k' ha =>
      unfold t_in at h
      split at h
      · next hb2 =>
        obtain ⟨hcE, hcl, hk9⟩ := cE_aar (ad := ad) (ca := ca) (σ := σ) (i := 0) ha
        have hin : OkS hs σ L (.inl j :: .inr (.inr (k, 0)) :: r) → (k, 0) ∈ hs := by
          intro ok
          rcases ok.2.2.tl.hd with q | q | q
          · exact q
          · cases q; omega
          · cases q; omega
        refine g_rd hK h (fun ok => OkT.cons (Or.inl (hC.2.2.2 k n k' j.toNat (hin ok) ha (by omega))) ok.2.2.tl.tl) (fun ok ls H locs lr hP hS kk => ?_)
        obtain ⟨q0, hq, hws⟩ := wsl_at (ad := ad) (ca := ca) (σ := σ) (hin ok)
        rw [hcE] at hws
        have kk' : W p l e R s m args below meth c H locs 0 0 Q (F0 m (pc + 1) ls (va_rf (some (ad k' (Int32.ofInt j).toNatClampNeg)) :: r.map (t_cv ad))) := by rw [n_cl ok.2.2.hd]; exact kk
        have hi := n_in ok.2.2.hd hb2.1 hb2.2
        rcases hcl with q | q | q | q | q | q | q <;> rw [q] at hws
        · exact va_aldq hx hb hKt hP q0 3 hws rfl hi hd kk'
        · exact va_aldq hx hb hKt hP q0 4 hws rfl hi hd kk'
        · exact va_aldq hx hb hKt hP q0 5 hws rfl hi hd kk'
        · exact va_aldq hx hb hKt hP q0 6 hws rfl hi hd kk'
        · exact va_aldq hx hb hKt hP q0 7 hws rfl hi hd kk'
        · exact va_aldq hx hb hKt hP q0 8 hws rfl hi hd kk'
        · exact va_aldq hx hb hKt hP q0 9 hws rfl hi hd kk'
      · cases h
    · cases h
  · cases h
theorem g_alen (hx : p.tables.exec = Jvm.exec) (hb : c.code = cc) (hK : ∀ pc' L' st' σ', K pc' L' st' σ' = some res → Tg p l e R s m args below meth c D hs ad ca A nL Q Fn res pc' L' st' σ') (hKt : va_K D vwCl (tyl ca) s) (hC : HC hs) (hX : SX ad A s s.heap) (hd : decode cc pc = .ok (.arraylength, 1)) (hnx : nx = pc + 1) (h : t_alen tbl nx K L st σ = some res) : Tg p l e R s m args below meth c D hs ad ca A nL Q Fn res pc L st σ := by
  subst hnx
  unfold t_alen at h
  split at h
  · next k i r =>
    split at h
    · next srt n ha =>
      obtain ⟨row, -, -, -, h3, hn0, hn1⟩ := a_arr ha
      have hn : Int32.ofNat n.toNat = Int32.ofInt n := by
        rw [← Int32.ofInt_eq_ofNat]
        congr 1
        omega
      refine g_rd hK h (fun ok => OkT.cons (show R32 n from ⟨by omega, by omega⟩) ok.2.2.tl) (fun ok ls H locs lr hP hS kk => ?_)
      by_cases h33 : srt = 3
      · subst h33
        have hk : k = 120 ∧ i = 0 := by
          rcases ok.2.2.hd with q | q | q
          · have := hC.2.1 _ q
            have h9 := byte_kind ha
            simp only [] at this
            omega
          · cases q
            rw [show t_arr tbl 119 = none by decide +kernel] at ha
            cases ha
          · cases q
            exact ⟨rfl, rfl⟩
        obtain ⟨rfl, rfl⟩ := hk
        rw [show t_arr tbl 120 = some (3, 11) by decide +kernel] at ha
        cases ha
        obtain ⟨x1, x2, x3, x4, x5, x6, x7⟩ := hX
        exact va_tlen hx hb x6 hS (v := Int32.ofInt 11) rfl hd kk
      · have hk := arr_in ok.2.2.hd ha h33
        obtain ⟨q0, hq, hws⟩ := wsl_at (ad := ad) (ca := ca) (σ := σ) hk
        rw [cE_arr ha] at hws
        rcases (by omega : srt = 0 ∨ srt = 1 ∨ srt = 2) with rfl | rfl | rfl
        · exact va_alen hx hb hKt hP q0 0 hws (ty := .int) rfl hn hd kk
        · exact va_alen hx hb hKt hP q0 1 hws (ty := .boolean) rfl hn hd kk
        · exact va_alen hx hb hKt hP q0 2 hws (ty := .long) rfl hn hd kk
    · cases h
  · cases h
end INS
