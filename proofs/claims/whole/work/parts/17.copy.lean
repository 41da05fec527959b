-- System.arraycopy of longs
theorem w_copy : Cond.methodLink (cn 11) 520 arraycopyName ∈ lw_tbl ∧ Cond.native arraycopyName ∈ lw_tbl ∧ Cond.static arraycopyName ∈ lw_tbl ∧ Cond.initialized "java/lang/System" ∈ lw_tbl := ⟨lw_at_mem (j := 5) (k := 171) rfl, lw_at_mem (j := 5) (k := 173) rfl, lw_at_mem (j := 5) (k := 172) rfl, lw_at_mem (j := 1) (k := 22) rfl⟩
theorem copy_only : ((List.range 18).all fun o => (tb_m o).all fun e => !(Nat.beq e.2.1 900) || (Nat.beq o 11 && Nat.beq e.1 520 && Nat.beq e.2.2.1 5 && Nat.beq e.2.2.2.1 0)) = true := by decide +kernel
-- Math's three
theorem m_abs (O : TO) (x : Int) (σ : TM) : t_seg tbl mtb O 250 1000 0 [some (.inl x)] [] σ = (if x < 0 then some (.inr (some (.inl (w32 (-x))), σ)) else some (.inr (some (.inl x), σ))) := rfl
theorem m_max (O : TO) (x y : Int) (σ : TM) : t_seg tbl mtb O 251 1000 0 [some (.inl x), some (.inl y)] [] σ = (if x < y then some (.inr (some (.inl y), σ)) else some (.inr (some (.inl x), σ))) := rfl
theorem m_min (O : TO) (x y : Int) (σ : TM) : t_seg tbl mtb O 252 1000 0 [some (.inl x), some (.inl y)] [] σ = (if y < x then some (.inr (some (.inl y), σ)) else some (.inr (some (.inl x), σ))) := rfl
theorem m_tr {O : TO} {k n pc : Nat} {L : TL} {st : List TV} {σ : TM} {z : Option TV × TM} (h : t_seg tbl mtb O k 1000 pc L st σ = some (.inr z)) : t_tr tbl mtb O k (n + 1) pc L st σ = some (.inr z) := by
  unfold t_tr
  rw [h]
theorem m_tr0 {O : TO} {k n pc : Nat} {L : TL} {st : List TV} {σ : TM} (h : t_seg tbl mtb O k 1000 pc L st σ = none) : t_tr tbl mtb O k (n + 1) pc L st σ = none := by
  unfold t_tr
  rw [h]
theorem m_run {d k nl own : Nat} {rb : Bool} {code : TCode} {stops : List (Nat × List Bool)} {as : List TV} {σ : TM} (hk : k ≠ 900) (hmt : mtb k = some (own, rb, nl, code, stops)) : t_run tbl mtb (d + 1) k as σ = cond (Nat.ble (t_cats as) nl) (t_out (t_tr tbl mtb (t_run tbl mtb d) k (999999 + 1) 0 (t_fill nl (t_args as)) [] σ)) none := by
  rw [t_run]
  rw [if_neg hk, hmt]
theorem run_abs {d : Nat} {as : List TV} {σ : TM} {z : Option TV × TM} (ha : as.length = 1) (h : t_run tbl mtb d 250 as σ = some z) : ∃ x : Int, as = [.inl x] ∧ z = (some (.inl (if x < 0 then w32 (-x) else x)), σ) := by
  match as, ha with
  | [v], _ =>
    cases d with
    | zero => cases h
    | succ d =>
      rw [m_run (by decide) (show mtb 250 = some (_, _, 1, _, _) from rfl)] at h
      rcases v with x | x | q
      · refine ⟨x, rfl, ?_⟩
        change t_out (t_tr tbl mtb (t_run tbl mtb d) 250 (999999 + 1) 0 [some (.inl x)] [] σ) = some z at h
        by_cases hx : x < 0
        · rw [m_tr (by rw [m_abs, if_pos hx])] at h
          rw [if_pos hx]
          cases h
          rfl
        · rw [m_tr (by rw [m_abs, if_neg hx])] at h
          rw [if_neg hx]
          cases h
          rfl
      · cases h
      · change t_out (t_tr tbl mtb (t_run tbl mtb d) 250 (999999 + 1) 0 [some (.inr (.inr q))] [] σ) = some z at h
        rw [m_tr0 rfl] at h
        cases h
theorem run_max {d : Nat} {as : List TV} {σ : TM} {z : Option TV × TM} (ha : as.length = 2) (h : t_run tbl mtb d 251 as σ = some z) : ∃ x y : Int, as = [.inl x, .inl y] ∧ z = (some (.inl (if x < y then y else x)), σ) := by
  match as, ha with
  | [v, w], _ =>
    cases d with
    | zero => cases h
    | succ d =>
      rw [m_run (by decide) (show mtb 251 = some (_, _, 2, _, _) from rfl)] at h
      rcases v with x | x | q
      · rcases w with y | y | q
        · refine ⟨x, y, rfl, ?_⟩
          change t_out (t_tr tbl mtb (t_run tbl mtb d) 251 (999999 + 1) 0 [some (.inl x), some (.inl y)] [] σ) = some z at h
          by_cases hx : x < y
          · rw [m_tr (by rw [m_max, if_pos hx])] at h
            rw [if_pos hx]
            cases h
            rfl
          · rw [m_tr (by rw [m_max, if_neg hx])] at h
            rw [if_neg hx]
            cases h
            rfl
        · cases h
        · change t_out (t_tr tbl mtb (t_run tbl mtb d) 251 (999999 + 1) 0 [some (.inl x), some (.inr (.inr q))] [] σ) = some z at h
          rw [m_tr0 rfl] at h
          cases h
      · rcases w with y | y | q <;> cases h
      · rcases w with y | y | q2
        · change t_out (t_tr tbl mtb (t_run tbl mtb d) 251 (999999 + 1) 0 [some (.inr (.inr q)), some (.inl y)] [] σ) = some z at h
          rw [m_tr0 rfl] at h
          cases h
        · cases h
        · change t_out (t_tr tbl mtb (t_run tbl mtb d) 251 (999999 + 1) 0 [some (.inr (.inr q)), some (.inr (.inr q2))] [] σ) = some z at h
          rw [m_tr0 rfl] at h
          cases h
theorem run_min {d : Nat} {as : List TV} {σ : TM} {z : Option TV × TM} (ha : as.length = 2) (h : t_run tbl mtb d 252 as σ = some z) : ∃ x y : Int, as = [.inl x, .inl y] ∧ z = (some (.inl (if y < x then y else x)), σ) := by
  match as, ha with
  | [v, w], _ =>
    cases d with
    | zero => cases h
    | succ d =>
      rw [m_run (by decide) (show mtb 252 = some (_, _, 2, _, _) from rfl)] at h
      rcases v with x | x | q
      · rcases w with y | y | q
        · refine ⟨x, y, rfl, ?_⟩
          change t_out (t_tr tbl mtb (t_run tbl mtb d) 252 (999999 + 1) 0 [some (.inl x), some (.inl y)] [] σ) = some z at h
          by_cases hx : y < x
          · rw [m_tr (by rw [m_min, if_pos hx])] at h
            rw [if_pos hx]
            cases h
            rfl
          · rw [m_tr (by rw [m_min, if_neg hx])] at h
            rw [if_neg hx]
            cases h
            rfl
        · cases h
        · change t_out (t_tr tbl mtb (t_run tbl mtb d) 252 (999999 + 1) 0 [some (.inl x), some (.inr (.inr q))] [] σ) = some z at h
          rw [m_tr0 rfl] at h
          cases h
      · rcases w with y | y | q <;> cases h
      · rcases w with y | y | q2
        · change t_out (t_tr tbl mtb (t_run tbl mtb d) 252 (999999 + 1) 0 [some (.inr (.inr q)), some (.inl y)] [] σ) = some z at h
          rw [m_tr0 rfl] at h
          cases h
        · cases h
        · change t_out (t_tr tbl mtb (t_run tbl mtb d) 252 (999999 + 1) 0 [some (.inr (.inr q)), some (.inr (.inr q2))] [] σ) = some z at h
          rw [m_tr0 rfl] at h
          cases h
theorem math_only : ((List.range 18).all fun o => (tb_m o).all fun e => !(Nat.beq e.2.1 250 || (Nat.beq e.2.1 251 || Nat.beq e.2.1 252)) || (Nat.beq e.2.2.1 (cond (Nat.beq e.2.1 250) 1 2) && Nat.beq e.2.2.2.1 1)) = true := by decide +kernel
theorem c_abs : Cond.code Lib.Math.abs.name Lib.Math.abs.code 1 (some .int) ∈ lw_tbl := (mw_code (k := 250) rfl).1
theorem c_max : Cond.code Lib.Math.max.name Lib.Math.max.code 2 (some .int) ∈ lw_tbl := (mw_code (k := 251) rfl).1
theorem c_min : Cond.code Lib.Math.min.name Lib.Math.min.code 2 (some .int) ∈ lw_tbl := (mw_code (k := 252) rfl).1
theorem i_math : Cond.initialized "java/lang/Math" ∈ lw_tbl := (mw_code (k := 250) rfl).2.1
theorem z_abs : Cond.static Lib.Math.abs.name ∈ lw_tbl := (mw_code (k := 250) rfl).2.2.1 rfl
theorem z_max : Cond.static Lib.Math.max.name ∈ lw_tbl := (mw_code (k := 251) rfl).2.2.1 rfl
theorem z_min : Cond.static Lib.Math.min.name ∈ lw_tbl := (mw_code (k := 252) rfl).2.2.1 rfl
theorem lk_math {own idx k n rt vc : Nat} {q : MethodName × ByteArray × Nat × Option FieldType × Bool} (h : t_look (tb_m own) idx = some (k, n, rt, vc)) (hk : k ≠ 71) (hm : mI k = some q) : Cond.methodLink (cn own) idx q.1 ∈ lw_tbl := by
  refine (lnk_at h).2 _ ?_
  have hn : ¬ (own = 4 ∧ idx = 96) := by
    rintro ⟨rfl, rfl⟩
    rw [show t_look (tb_m 4) 96 = some (71, 2, 1, 99) by decide +kernel] at h
    cases h
    exact hk rfl
  unfold lk
  rw [if_neg hn]
  show (mI k).map _ = _
  rw [hm]
  rfl
section INS
variable {p : Program} {l : Launch} {e : Env} {R : Room} {s : State} {m : MethodId} {args : Array Value} {below : List Frame} {meth : Method} {c : Code}
variable {D : va_G} {hs : List (Nat × Nat)} {ad : Nat → Nat → Nat} {ca : Nat → ClassId} {A : Nat → Prop} {nL : Nat} {Q : State → Prop} {Fn : Option TV → TM → Prop}
variable {K : TK} {res : TRes} {pc nx : Nat} {L : TL} {st : List TV} {σ : TM} {cc : ByteArray}

theorem wsl_cpy {k i a k' i' b n q : Nat} (hn : hs.Nodup) (hq : hs[q]? = some (k', i')) : wsl hs ad ca (t_cpy σ k i a k' i' b n) = (wsl hs ad ca σ).set q (ad k' i', cE ad ca (t_cpy σ k i a k' i' b n) (k', i')) := by
  apply List.ext_getElem?
  intro z
  have hl : q < hs.length := (List.getElem?_eq_some_iff.mp hq).1
  by_cases hnq : z = q
  · subst hnq
    rw [List.getElem?_set_self (by simpa [wsl] using hl)]
    simp only [wsl, List.getElem?_map, hq, Option.map_some]
  · rw [List.getElem?_set_ne (Ne.symm hnq)]
    simp only [wsl, List.getElem?_map]
    cases hx : hs[z]? with
    | none => rfl
    | some h =>
      simp only [Option.map_some]
      rw [cE_congr]
      intro w
      unfold t_cpy
      rw [if_neg]
      intro e
      have e2 : h = (k', i') := Prod.ext e.1 e.2.1
      rw [e2] at hx
      exact hnq ((List.getElem?_inj (List.getElem?_eq_some_iff.mp hx).1 hn).mp (hx.trans hq.symm))
theorem okM_cpy {k i a k' i' b n : Nat} {l' : Int} (hM : OkM σ) (ha : t_arr tbl k' = some (2, l')) (hk : k' < 119) : OkM (t_cpy σ k i a k' i' b n) := by
  refine ⟨fun x y z => ?_, ?_, fun q hq => ?_⟩
  · unfold t_cpy
    split
    · next e => rw [e.1]; exact ⟨(hM.1 _ _ _).1, Or.inl ⟨l', ha⟩⟩
    · exact hM.1 x y z
  · unfold t_cpy
    rw [if_neg (by omega)]
    exact hM.2.1
  · unfold t_cpy
    rw [if_neg (by omega)]
    exact hM.2.2 q hq
theorem g_copy (hx : p.tables.exec = Jvm.exec) (hb : c.code = cc) (hK : ∀ pc' L' st' σ', K pc' L' st' σ' = some res → Tg p l e R s m args below meth c D hs ad ca A nL Q Fn res pc' L' st' σ') {own idx d : Nat} (hml : c.maxLocals = nL) (ht : HT args s) (hown : s.vm.findClass (cn own) = some m.cls) (hKt : va_K D vwCl (tyl ca) s) (hR : R = rmD (d + 1)) (hC : HC hs)
    (hd : decode cc pc = .ok (.invokestatic idx, 3)) (hnx : nx = pc + 3) (h9 : ∃ n rt vc, t_look (tb_m own) idx = some (900, n, rt, vc)) (h : t_inv tbl (t_run tbl mtb d) own idx nx K L st σ = some res) : Tg p l e R s m args below meth c D hs ad ca A nL Q Fn res pc L st σ := by
  subst hnx
  obtain ⟨n0, rt, vc, hlk⟩ := h9
  have ho : own < 18 := by
    rcases Nat.lt_or_ge own 18 with q | q
    · exact q
    · rw [tb_m_big q] at hlk; cases hlk
  have h1 := List.all_eq_true.mp (List.all_eq_true.mp copy_only own (List.mem_range.mpr ho)) _ (t_look_mem _ _ _ hlk)
  simp only [Bool.or_eq_true, Bool.and_eq_true, Bool.not_eq_true'] at h1
  obtain ⟨⟨⟨q1, q2⟩, q3⟩, q4⟩ := h1.resolve_left (by decide)
  have q1 := Nat.eq_of_beq_eq_true q1
  have q2 := Nat.eq_of_beq_eq_true q2
  have q3 := Nat.eq_of_beq_eq_true q3
  have q4 := Nat.eq_of_beq_eq_true q4
  subst q1; subst q2; subst q3; subst q4
  unfold t_inv at h
  rw [show t_look (tbl.2.2.1 11) 520 = some (900, 5, 0, vc) from hlk] at h
  simp only [] at h
  split at h
  · next as r hpop =>
    cases hg : (Nat.ble (t_cats r) 8 && t_rcv tbl vc as) with
    | false => rw [hg] at h; cases h
    | true =>
      rw [hg] at h
      rw [Bool.and_eq_true] at hg
      simp only [cond_true] at h
      unfold t_callv at h
      split at h
      · next σ1 hrun =>
        obtain ⟨xs, e1, e2, e3⟩ := t_pop_ok _ _ _ _ _ hpop
        rw [List.append_nil] at e2
        cases d with
        | zero => cases hrun
        | succ d =>
          unfold t_run at hrun
          rw [if_pos rfl] at hrun
          unfold t_copy at hrun
          split at hrun
          · next k i a k' i' b n =>
            split at hrun
            · next l1 l2 ha1 ha2 =>
              split at hrun
              · next hc =>
                cases hrun
                have est : st = .inl n :: .inl b :: .inr (.inr (k', i')) :: .inl a :: .inr (.inr (k, i)) :: r := by
                  have h := congrArg List.reverse e2
                  rw [List.reverse_reverse] at h
                  rw [e1, ← h]
                  rfl
                subst est
                refine g_wr hK h (fun ok => ⟨ok.2.2.tl.tl.tl.tl.tl, okM_cpy ok.1 ha2 (hC.2.1 _ (arr_in ok.2.2.tl.tl.hd ha2 (by decide)))⟩) (fun ok ls H locs lr hP hD hS kk => ?_)
                have m1 := arr_in ok.2.2.tl.tl.tl.tl.hd ha1 (by decide)
                have m2 := arr_in ok.2.2.tl.tl.hd ha2 (by decide)
                obtain ⟨p1, hq1, hw1⟩ := wsl_at (ad := ad) (ca := ca) (σ := σ) m1
                obtain ⟨p2, hq2, hw2⟩ := wsl_at (ad := ad) (ca := ca) (σ := σ) m2
                rw [cE_arr ha1] at hw1
                rw [cE_arr ha2] at hw2
                have hup := wsl_cpy (ad := ad) (ca := ca) (σ := σ) (k := k) (i := i) (a := a.toNat) (b := b.toNat) (n := n.toNat) hC.1 hq2
                rw [cE_arr ha2] at hup
                rw [hup] at kk
                have rn : R32 n := ok.2.2.hd
                have rb : R32 b := ok.2.2.tl.hd
                have ra : R32 a := ok.2.2.tl.tl.tl.hd
                have ng : ∀ x : Int, R32 x → 0 ≤ x → ¬ Int32.ofInt x < 0 := fun x hx h0 q => by
                  have := (n_lt hx n_z0).mp q
                  omega
                refine va_copyl hx hb (hml.trans lr.1.symm) hown (ht _ w_copy.1 rfl) (ht _ w_copy.2.1 rfl) (ht _ w_copy.2.2.1 rfl) (ht _ w_copy.2.2.2 rfl) hKt hP hD hS p1 p2 2 2 hw1 hw2 rfl rfl rfl (ng a ra hc.1) (ng b rb hc.2.1) (ng n rn hc.2.2.1) (by rw [n_cl ra, n_cl rn]; omega) (by rw [n_cl rb, n_cl rn]; omega) (fun _ _ => rfl) ?_ ?_ hd ?_
                · rw [hR]; show 1 ≤ d + 1 + 1; omega
                · rw [hR, cats_ok]
                  have h8 := Nat.le_of_ble_eq_true hg.1
                  have hw : nativeFrameWords "java/lang/System" "arraycopy" 5 + 11 ≤ 100 := by decide +kernel
                  show t_cats r + (nativeFrameWords "java/lang/System" "arraycopy" 5 + 11) ≤ 64 * (d + 1 + 1)
                  omega
                · rw [n_cl ra, n_cl rb, n_cl rn]
                  have e : va_cpy (fun j => Int64.ofInt (σ k i j)) (fun j => Int64.ofInt (σ k' i' j)) a.toNat b.toNat n.toNat = fun j => Int64.ofInt (t_cpy σ k i a.toNat k' i' b.toNat n.toNat k' i' j) := by
                    funext j
                    unfold va_cpy t_cpy
                    by_cases hj : b.toNat ≤ j ∧ j < b.toNat + n.toNat
                    · rw [if_pos hj, if_pos ⟨rfl, rfl, hj⟩]
                    · rw [if_neg hj, if_neg (fun q => hj q.2.2)]
                  rw [e]
                  exact kk
              · cases hrun
            · cases hrun
          · cases hrun
      · cases h
  · cases h
theorem g_math (hx : p.tables.exec = Jvm.exec) (hb : c.code = cc) (hK : ∀ pc' L' st' σ', K pc' L' st' σ' = some res → Tg p l e R s m args below meth c D hs ad ca A nL Q Fn res pc' L' st' σ') {own idx d k : Nat} (hml : c.maxLocals = nL) (ht : HT args s) (hown : s.vm.findClass (cn own) = some m.cls) (hR : R = rmD (d + 1))
    (hd : decode cc pc = .ok (.invokestatic idx, 3)) (hnx : nx = pc + 3) {n rt vc : Nat} (hlk : t_look (tb_m own) idx = some (k, n, rt, vc)) (hk : k = 250 ∨ k = 251 ∨ k = 252) (h : t_inv tbl (t_run tbl mtb d) own idx nx K L st σ = some res) : Tg p l e R s m args below meth c D hs ad ca A nL Q Fn res pc L st σ := by
  subst hnx
  have ho : own < 18 := by
    rcases Nat.lt_or_ge own 18 with q | q
    · exact q
    · rw [tb_m_big q] at hlk; cases hlk
  have h1 := List.all_eq_true.mp (List.all_eq_true.mp math_only own (List.mem_range.mpr ho)) _ (t_look_mem _ _ _ hlk)
  unfold t_inv at h
  rw [show t_look (tbl.2.2.1 own) idx = some (k, n, rt, vc) from hlk] at h
  simp only [] at h
  split at h
  · next as r hpop =>
    cases hg : (Nat.ble (t_cats r) 8 && t_rcv tbl vc as) with
    | false => rw [hg] at h; cases h
    | true =>
      rw [hg] at h
      rw [Bool.and_eq_true] at hg
      obtain ⟨xs, e1, e2, e3⟩ := t_pop_ok _ _ _ _ _ hpop
      rw [List.append_nil] at e2
      have h8 := Nat.le_of_ble_eq_true hg.1
      have hfr : 1 ≤ R.frames := by rw [hR]; show 1 ≤ d + 1; omega
      have hlo : ((r.map (t_cv ad)).map fun v => v.category).sum + 13 ≤ R.locals := by
        rw [hR, cats_ok]
        show t_cats r + 13 ≤ 64 * (d + 1)
        omega
      have hxs : xs = as.reverse := by rw [e2, List.reverse_reverse]
      have hlen : as.length = n := by rw [e2, List.length_reverse, e3]
      have hrt : n = cond (Nat.beq k 250) 1 2 ∧ rt = 1 := by
        rcases hk with rfl | rfl | rfl
        all_goals
          simp only [Bool.or_eq_true, Bool.and_eq_true, Bool.not_eq_true'] at h1
          have h2 := h1.resolve_left (by decide)
          exact ⟨Nat.eq_of_beq_eq_true h2.1, Nat.eq_of_beq_eq_true h2.2⟩
      obtain ⟨hn, rfl⟩ := hrt
      simp only [cond_true] at h
      unfold t_calli at h
      split at h
      · next x1 σ1 hrun =>
        rcases hk with rfl | rfl | rfl
        · obtain ⟨x, rfl, hz⟩ := run_abs (hlen.trans hn) hrun
          cases hz
          have est : st = .inl x :: r := by rw [e1, hxs]; rfl
          subst est
          have ex : ∀ x : Int, R32 x → (if 0 ≤ Int32.ofInt x then Int32.ofInt x else 0 - Int32.ofInt x) = Int32.ofInt (if x < 0 then w32 (-x) else x) := by
            intro x hx
            by_cases h0 : x < 0
            · have h3 : ¬ 0 ≤ Int32.ofInt x := Int32.not_le.mpr ((n_lt hx n_z0).mpr h0)
              rw [if_pos h0, if_neg h3, n_neg, Int32.zero_sub]
            · have h3 : 0 ≤ Int32.ofInt x := Int32.not_lt.mp fun q => h0 ((n_lt hx n_z0).mp q)
              rw [if_neg h0, if_pos h3]
          have r1 : ∀ x : Int, R32 x → R32 (if x < 0 then w32 (-x) else x) := by
            intro x hx
            split
            · exact r_w32 _
            · exact hx
          refine g_rd hK h (fun ok => OkT.cons (r1 _ ok.2.2.hd) ok.2.2.tl) (fun ok ls H locs lr hP hS kk => ?_)
          refine va_mabs hx hb (hml.trans lr.1.symm) hown (ht _ (lk_math hlk (by decide) rfl) rfl) (ht _ z_abs rfl) (ht _ i_math rfl) (ht _ c_abs rfl) hfr hlo (Nat.zero_le _) (Nat.zero_le _) hd ?_
          rw [ex _ ok.2.2.hd]
          exact kk
        · obtain ⟨x, y, rfl, hz⟩ := run_max (hlen.trans hn) hrun
          cases hz
          have est : st = .inl y :: .inl x :: r := by rw [e1, hxs]; rfl
          subst est
          have r1 : ∀ x y : Int, R32 x → R32 y → R32 (if x < y then y else x) := by
            intro x y hx hy
            split
            · exact hy
            · exact hx
          have ex : ∀ x y : Int, R32 x → R32 y → (if Int32.ofInt x < Int32.ofInt y then Int32.ofInt y else Int32.ofInt x) = Int32.ofInt (if x < y then y else x) := by
            intro x y hx hy
            by_cases h0 : x < y
            · rw [if_pos h0, if_pos ((n_lt hx hy).mpr h0)]
            · rw [if_neg h0, if_neg (fun q => h0 ((n_lt hx hy).mp q))]
          refine g_rd hK h (fun ok => OkT.cons (r1 _ _ ok.2.2.tl.hd ok.2.2.hd) ok.2.2.tl.tl) (fun ok ls H locs lr hP hS kk => ?_)
          refine va_mmax hx hb (hml.trans lr.1.symm) hown (ht _ (lk_math hlk (by decide) rfl) rfl) (ht _ z_max rfl) (ht _ i_math rfl) (ht _ c_max rfl) hfr hlo (Nat.zero_le _) (Nat.zero_le _) hd ?_
          rw [ex _ _ ok.2.2.tl.hd ok.2.2.hd]
          exact kk
        · obtain ⟨x, y, rfl, hz⟩ := run_min (hlen.trans hn) hrun
          cases hz
          have est : st = .inl y :: .inl x :: r := by rw [e1, hxs]; rfl
          subst est
          have r1 : ∀ x y : Int, R32 x → R32 y → R32 (if y < x then y else x) := by
            intro x y hx hy
            split
            · exact hy
            · exact hx
          have ex : ∀ x y : Int, R32 x → R32 y → (if Int32.ofInt y < Int32.ofInt x then Int32.ofInt y else Int32.ofInt x) = Int32.ofInt (if y < x then y else x) := by
            intro x y hx hy
            by_cases h0 : y < x
            · rw [if_pos h0, if_pos ((n_lt hy hx).mpr h0)]
            · rw [if_neg h0, if_neg (fun q => h0 ((n_lt hy hx).mp q))]
          refine g_rd hK h (fun ok => OkT.cons (r1 _ _ ok.2.2.tl.hd ok.2.2.hd) ok.2.2.tl.tl) (fun ok ls H locs lr hP hS kk => ?_)
          refine va_mmin hx hb (hml.trans lr.1.symm) hown (ht _ (lk_math hlk (by decide) rfl) rfl) (ht _ z_min rfl) (ht _ i_math rfl) (ht _ c_min rfl) hfr hlo (Nat.zero_le _) (Nat.zero_le _) hd ?_
          rw [ex _ _ ok.2.2.tl.hd ok.2.2.hd]
          exact kk
      · cases h
  · cases h
theorem g_prim (hx : p.tables.exec = Jvm.exec) (hb : c.code = cc) (hK : ∀ pc' L' st' σ', K pc' L' st' σ' = some res → Tg p l e R s m args below meth c D hs ad ca A nL Q Fn res pc' L' st' σ') {own idx d : Nat} (hml : c.maxLocals = nL) (ht : HT args s) (hown : s.vm.findClass (cn own) = some m.cls) (hKt : va_K D vwCl (tyl ca) s) (hR : R = rmD (d + 1)) (hC : HC hs)
    (hd : decode cc pc = .ok (.invokestatic idx, 3)) (hnx : nx = pc + 3) (h9 : ∃ k n rt vc, t_look (tb_m own) idx = some (k, n, rt, vc) ∧ npl k = false) (h : t_inv tbl (t_run tbl mtb d) own idx nx K L st σ = some res) : Tg p l e R s m args below meth c D hs ad ca A nL Q Fn res pc L st σ := by
  obtain ⟨k, n, rt, vc, hlk, hnp⟩ := h9
  rcases npl_no hnp with rfl | hk
  · exact g_copy hx hb hK hml ht hown hKt hR hC hd hnx ⟨n, rt, vc, hlk⟩ h
  · exact g_math hx hb hK hml ht hown hR hd hnx hlk hk h
end INS
