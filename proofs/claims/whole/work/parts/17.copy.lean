-- System.arraycopy of longs
theorem w_copy : Cond.methodLink (cn 11) 520 arraycopyName ∈ lw_tbl ∧ Cond.native arraycopyName ∈ lw_tbl ∧ Cond.static arraycopyName ∈ lw_tbl ∧ Cond.initialized "java/lang/System" ∈ lw_tbl := ⟨lw_at_mem (j := 5) (k := 171) rfl, lw_at_mem (j := 5) (k := 173) rfl, lw_at_mem (j := 5) (k := 172) rfl, lw_at_mem (j := 1) (k := 22) rfl⟩
theorem copy_only : ((List.range 18).all fun o => (tb_m o).all fun e => !(Nat.beq e.2.1 900) || (Nat.beq o 11 && Nat.beq e.1 520 && Nat.beq e.2.2.1 5 && Nat.beq e.2.2.2.1 0)) = true := by decide +kernel
section INS
variable {p : Program} {l : Launch} {e : Env} {R : Room} {s : State} {m : MethodId} {args : Array Value} {below : List Frame} {meth : Method} {c : Code}
variable {D : va_G} {hs : List (Nat × Nat)} {ad : Nat → Nat → Nat} {ca : Nat → ClassId} {A : Nat → Prop} {nL : Nat} {Q : State → Prop} {Fn : Option TV → TM → Prop}
variable {K : TK} {res : TRes} {pc nx : Nat} {L : TL} {st : List TV} {σ : TM} {cc : ByteArray}

theorem wsl_cpy {k i a k' i' b n q : Nat} (hn : hs.Nodup) (hq : hs[q]? = some (k', i')) : wsl hs ad ca (t_cpy σ k i a k' i' b n) = (wsl hs ad ca σ).set q (ad k' i', cE ad ca (t_cpy σ k i a k' i' b n) (k', i')) := by
  apply List.ext_getElem?
  intro z
  have hl : q < hs.length := (List.getElem?_eq_some_iff.mp hq).1
  by_cases hnq : z = q
  · subst hnq
    rw [List.getElem?_set_self (by simpa [wsl] using hl)]
    simp only [wsl, List.getElem?_map, hq, Option.map_some]
  · rw [List.getElem?_set_ne (Ne.symm hnq)]
    simp only [wsl, List.getElem?_map]
    cases hx : hs[z]? with
    | none => rfl
    | some h =>
      simp only [Option.map_some]
      rw [cE_congr]
      intro w
      unfold t_cpy
      rw [if_neg]
      intro e
      have e2 : h = (k', i') := Prod.ext e.1 e.2.1
      rw [e2] at hx
      exact hnq ((List.getElem?_inj (List.getElem?_eq_some_iff.mp hx).1 hn).mp (hx.trans hq.symm))
theorem okM_cpy {k i a k' i' b n : Nat} {l' : Int} (hM : OkM σ) (ha : t_arr tbl k' = some (2, l')) (hk : k' < 119) : OkM (t_cpy σ k i a k' i' b n) := by
  refine ⟨fun x y z => ?_, ?_, fun q hq => ?_⟩
  · unfold t_cpy
    split
    · next e => rw [e.1]; exact ⟨(hM.1 _ _ _).1, Or.inl ⟨l', ha⟩⟩
    · exact hM.1 x y z
  · unfold t_cpy
    rw [if_neg (by omega)]
    exact hM.2.1
  · unfold t_cpy
    rw [if_neg (by omega)]
    exact hM.2.2 q hq
theorem g_copy (hx : p.tables.exec = Jvm.exec) (hb : c.code = cc) (hK : ∀ pc' L' st' σ', K pc' L' st' σ' = some res → Tg p l e R s m args below meth c D hs ad ca A nL Q Fn res pc' L' st' σ') {own idx d : Nat} (hml : c.maxLocals = nL) (ht : HT args s) (hown : s.vm.findClass (cn own) = some m.cls) (hKt : va_K D vwCl (tyl ca) s) (hR : R = rmD (d + 1)) (hC : HC hs)
    (hd : decode cc pc = .ok (.invokestatic idx, 3)) (hnx : nx = pc + 3) (h9 : ∃ n rt vc, t_look (tb_m own) idx = some (900, n, rt, vc)) (h : t_inv tbl (t_run tbl mtb d) own idx nx K L st σ = some res) : Tg p l e R s m args below meth c D hs ad ca A nL Q Fn res pc L st σ := by
  subst hnx
  obtain ⟨n0, rt, vc, hlk⟩ := h9
  have ho : own < 18 := by
    rcases Nat.lt_or_ge own 18 with q | q
    · exact q
    · rw [tb_m_big q] at hlk; cases hlk
  have h1 := List.all_eq_true.mp (List.all_eq_true.mp copy_only own (List.mem_range.mpr ho)) _ (t_look_mem _ _ _ hlk)
  simp only [Bool.or_eq_true, Bool.and_eq_true, Bool.not_eq_true'] at h1
  obtain ⟨⟨⟨q1, q2⟩, q3⟩, q4⟩ := h1.resolve_left (by decide)
  have q1 := Nat.eq_of_beq_eq_true q1
  have q2 := Nat.eq_of_beq_eq_true q2
  have q3 := Nat.eq_of_beq_eq_true q3
  have q4 := Nat.eq_of_beq_eq_true q4
  subst q1; subst q2; subst q3; subst q4
  unfold t_inv at h
  rw [show t_look (tbl.2.2.1 11) 520 = some (900, 5, 0, vc) from hlk] at h
  simp only [] at h
  split at h
  · next as r hpop =>
    cases hg : (Nat.ble (t_cats r) 8 && t_rcv tbl vc as) with
    | false => rw [hg] at h; cases h
    | true =>
      rw [hg] at h
      rw [Bool.and_eq_true] at hg
      simp only [cond_true] at h
      unfold t_callv at h
      split at h
      · next σ1 hrun =>
        obtain ⟨xs, e1, e2, e3⟩ := t_pop_ok _ _ _ _ _ hpop
        rw [List.append_nil] at e2
        cases d with
        | zero => cases hrun
        | succ d =>
          unfold t_run at hrun
          rw [if_pos rfl] at hrun
          unfold t_copy at hrun
          split at hrun
          · next k i a k' i' b n =>
            split at hrun
            · next l1 l2 ha1 ha2 =>
              split at hrun
              · next hc =>
                cases hrun
                have est : st = .inl n :: .inl b :: .inr (.inr (k', i')) :: .inl a :: .inr (.inr (k, i)) :: r := by
                  have h := congrArg List.reverse e2
                  rw [List.reverse_reverse] at h
                  rw [e1, ← h]
                  rfl
                subst est
                refine g_wr hK h (fun ok => ⟨ok.2.2.tl.tl.tl.tl.tl, okM_cpy ok.1 ha2 (hC.2.1 _ (arr_in ok.2.2.tl.tl.hd ha2 (by decide)))⟩) (fun ok ls H locs lr hP hD hS kk => ?_)
                have m1 := arr_in ok.2.2.tl.tl.tl.tl.hd ha1 (by decide)
                have m2 := arr_in ok.2.2.tl.tl.hd ha2 (by decide)
                obtain ⟨p1, hq1, hw1⟩ := wsl_at (ad := ad) (ca := ca) (σ := σ) m1
                obtain ⟨p2, hq2, hw2⟩ := wsl_at (ad := ad) (ca := ca) (σ := σ) m2
                rw [cE_arr ha1] at hw1
                rw [cE_arr ha2] at hw2
                have hup := wsl_cpy (ad := ad) (ca := ca) (σ := σ) (k := k) (i := i) (a := a.toNat) (b := b.toNat) (n := n.toNat) hC.1 hq2
                rw [cE_arr ha2] at hup
                rw [hup] at kk
                have rn : R32 n := ok.2.2.hd
                have rb : R32 b := ok.2.2.tl.hd
                have ra : R32 a := ok.2.2.tl.tl.tl.hd
                have ng : ∀ x : Int, R32 x → 0 ≤ x → ¬ Int32.ofInt x < 0 := fun x hx h0 q => by
                  have := (n_lt hx n_z0).mp q
                  omega
                refine va_copyl hx hb (hml.trans lr.1.symm) hown (ht _ w_copy.1 rfl) (ht _ w_copy.2.1 rfl) (ht _ w_copy.2.2.1 rfl) (ht _ w_copy.2.2.2 rfl) hKt hP hD hS p1 p2 2 2 hw1 hw2 rfl rfl rfl (ng a ra hc.1) (ng b rb hc.2.1) (ng n rn hc.2.2.1) (by rw [n_cl ra, n_cl rn]; omega) (by rw [n_cl rb, n_cl rn]; omega) (fun _ _ => rfl) ?_ ?_ hd ?_
                · rw [hR]; show 1 ≤ d + 1 + 1; omega
                · rw [hR, cats_ok]
                  have h8 := Nat.le_of_ble_eq_true hg.1
                  have hw : nativeFrameWords "java/lang/System" "arraycopy" 5 + 11 ≤ 100 := by decide +kernel
                  show t_cats r + (nativeFrameWords "java/lang/System" "arraycopy" 5 + 11) ≤ 64 * (d + 1 + 1)
                  omega
                · rw [n_cl ra, n_cl rb, n_cl rn]
                  have e : va_cpy (fun j => Int64.ofInt (σ k i j)) (fun j => Int64.ofInt (σ k' i' j)) a.toNat b.toNat n.toNat = fun j => Int64.ofInt (t_cpy σ k i a.toNat k' i' b.toNat n.toNat k' i' j) := by
                    funext j
                    unfold va_cpy t_cpy
                    by_cases hj : b.toNat ≤ j ∧ j < b.toNat + n.toNat
                    · rw [if_pos hj, if_pos ⟨rfl, rfl, hj⟩]
                    · rw [if_neg hj, if_neg (fun q => hj q.2.2)]
                  rw [e]
                  exact kk
              · cases hrun
            · cases hrun
          · cases hrun
      · cases h
  · cases h
end INS
