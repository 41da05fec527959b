-- the kinds of answers; and what holds at the entry of the law, by wip/whole/gen104.py
def KXr (K : TK) (res : TRes) : Prop := ∃ pc L st σ, K pc L st σ = some res
section
variable {tb : TTab} {O : TO} {K : TK} {res : TRes} {own idx nx i : Nat} {L : TL} {st : List TV} {σ : TM} {ts : List Nat}
theorem kx_jmp (h : t_jmp ts K L st σ = some res) : KXr K res := by
  unfold t_jmp at h
  split at h
  · exact ⟨_, _, _, _, h⟩
  · cases h
theorem kx_tsw {J : Nat → Option TRes} {x : Int} {d : Nat} : ∀ (os : List Nat) (lo : Int), t_tsw J x d lo os = some res → ∃ tg, J tg = some res
  | [], _, h => ⟨_, h⟩
  | o :: os, lo, h => by
    unfold t_tsw at h
    split at h
    · exact ⟨_, h⟩
    · exact kx_tsw os _ h
theorem kx_lsw {J : Nat → Option TRes} {x : Int} {d : Nat} : ∀ (ps : List (Int × Int)) (os : List Nat), t_lsw J x d ps os = some res → ∃ tg, J tg = some res
  | [], _, h => ⟨_, by unfold t_lsw at h; exact h⟩
  | (a, _) :: ps, [], h => ⟨_, by unfold t_lsw at h; exact h⟩
  | (a, _) :: ps, o :: os, h => by
    unfold t_lsw at h
    split at h
    · exact ⟨_, h⟩
    · exact kx_lsw ps os h
theorem kx_01 {b : Bool} {v : Int} {B : Option TRes} (h : t_01 b v B = some res) : B = some res := by
  unfold t_01 at h
  cases b with
  | false => exact h
  | true =>
    simp only [cond_true] at h
    split at h
    · exact h
    · cases h
theorem kx_cond {b : Bool} {B : Option TRes} (h : cond b B none = some res) : B = some res := by
  cases b with
  | false => cases h
  | true => exact h
theorem kx_in {a n : Int} {B : Option TRes} (h : t_in a n B = some res) : B = some res := by
  unfold t_in at h
  split at h
  · exact h
  · cases h
theorem kx_if {c : ClassFile.Cond} {x y : Int} {A B : Option TRes} (h : t_if c x y A B = some res) : A = some res ∨ B = some res := by
  unfold t_if at h
  split at h <;> split at h <;> first | exact Or.inl h | exact Or.inr h
theorem kx_ldi (h : t_ldi nx i K L st σ = some res) : KXr K res := by
  unfold t_ldi at h
  repeat' (split at h)
  all_goals first | (cases h; done) | exact ⟨_, _, _, _, h⟩
theorem kx_ldj (h : t_ldj nx i K L st σ = some res) : KXr K res := by
  unfold t_ldj at h
  repeat' (split at h)
  all_goals first | (cases h; done) | exact ⟨_, _, _, _, h⟩
theorem kx_ldh (h : t_ldh nx i K L st σ = some res) : KXr K res := by
  unfold t_ldh at h
  repeat' (split at h)
  all_goals first | (cases h; done) | exact ⟨_, _, _, _, h⟩
theorem kx_sti (h : t_sti nx i K L st σ = some res) : KXr K res := by
  unfold t_sti at h
  split at h
  · obtain ⟨L1, h1, -⟩ := setK_ok _ _ _ _ _ h
    exact ⟨_, _, _, _, h1⟩
  · cases h
theorem kx_sth (h : t_sth nx i K L st σ = some res) : KXr K res := by
  unfold t_sth at h
  split at h
  · obtain ⟨L1, h1, -⟩ := setK_ok _ _ _ _ _ h
    exact ⟨_, _, _, _, h1⟩
  · cases h
theorem kx_stj (h : t_stj nx i K L st σ = some res) : KXr K res := by
  unfold t_stj at h
  split at h
  · obtain ⟨L1, h1, -⟩ := setK2_ok _ _ _ _ _ h
    exact ⟨_, _, _, _, h1⟩
  · cases h
theorem kx_inc {n : Int} (h : t_inc nx i n K L st σ = some res) : KXr K res := by
  unfold t_inc at h
  split at h
  · obtain ⟨L1, h1, -⟩ := setK_ok _ _ _ _ _ h
    exact ⟨_, _, _, _, h1⟩
  · cases h
theorem kx_bin {f : Int → Int → Int} (h : t_bin f nx K L st σ = some res) : KXr K res := by
  unfold t_bin at h
  repeat' (split at h)
  all_goals first | (cases h; done) | exact ⟨_, _, _, _, h⟩
theorem kx_div {f : Int → Int → Int} (h : t_div f nx K L st σ = some res) : KXr K res := by
  unfold t_div at h
  repeat' (split at h)
  all_goals first | (cases h; done) | exact ⟨_, _, _, _, h⟩
theorem kx_binj {f : Int → Int → Int} (h : t_binj f nx K L st σ = some res) : KXr K res := by
  unfold t_binj at h
  repeat' (split at h)
  all_goals first | (cases h; done) | exact ⟨_, _, _, _, h⟩
theorem kx_shj {f : Int → Int → Int} (h : t_shj f nx K L st σ = some res) : KXr K res := by
  unfold t_shj at h
  repeat' (split at h)
  all_goals first | (cases h; done) | exact ⟨_, _, _, _, h⟩
theorem kx_un {f : Int → Int} (h : t_un f nx K L st σ = some res) : KXr K res := by
  unfold t_un at h
  repeat' (split at h)
  all_goals first | (cases h; done) | exact ⟨_, _, _, _, h⟩
theorem kx_i2j (h : t_i2j nx K L st σ = some res) : KXr K res := by
  unfold t_i2j at h
  repeat' (split at h)
  all_goals first | (cases h; done) | exact ⟨_, _, _, _, h⟩
theorem kx_j2i (h : t_j2i nx K L st σ = some res) : KXr K res := by
  unfold t_j2i at h
  repeat' (split at h)
  all_goals first | (cases h; done) | exact ⟨_, _, _, _, h⟩
theorem kx_jcmp (h : t_jcmp nx K L st σ = some res) : KXr K res := by
  unfold t_jcmp at h
  repeat' (split at h)
  all_goals first | (cases h; done) | exact ⟨_, _, _, _, h⟩
theorem kx_dup (h : t_dup nx K L st σ = some res) : KXr K res := by
  unfold t_dup at h
  repeat' (split at h)
  all_goals first | (cases h; done) | exact ⟨_, _, _, _, h⟩
theorem kx_dup2 (h : t_dup2 nx K L st σ = some res) : KXr K res := by
  unfold t_dup2 at h
  repeat' (split at h)
  all_goals first | (cases h; done) | exact ⟨_, _, _, _, h⟩
theorem kx_pop1 (h : t_pop1 nx K L st σ = some res) : KXr K res := by
  unfold t_pop1 at h
  repeat' (split at h)
  all_goals first | (cases h; done) | exact ⟨_, _, _, _, h⟩
theorem kx_if0 {c : ClassFile.Cond} (h : t_if0 c ts nx K L st σ = some res) : KXr K res := by
  unfold t_if0 at h
  split at h
  · rcases kx_if h with h | h
    · exact kx_jmp h
    · exact ⟨_, _, _, _, h⟩
  · cases h
theorem kx_if2 {c : ClassFile.Cond} (h : t_if2 c ts nx K L st σ = some res) : KXr K res := by
  unfold t_if2 at h
  split at h
  · rcases kx_if h with h | h
    · exact kx_jmp h
    · exact ⟨_, _, _, _, h⟩
  · cases h
theorem kx_ifh {c : ClassFile.ACond} (h : t_ifh c ts nx K L st σ = some res) : KXr K res := by
  unfold t_ifh at h
  split at h
  · have h := kx_cond h
    split at h <;> split at h <;> first | exact kx_jmp h | exact ⟨_, _, _, _, h⟩
  · cases h
theorem kx_sw {f : Nat → List Nat → (Nat → Option TRes) → Int → Option TRes} (hf : ∀ d os J x, f d os J x = some res → ∃ tg, J tg = some res) (h : t_sw f ts K L st σ = some res) : KXr K res := by
  unfold t_sw at h
  split at h
  · split at h
    · obtain ⟨tg, h1⟩ := hf _ _ _ _ h
      exact ⟨_, _, _, _, h1⟩
    · cases h
  · cases h
theorem kx_getf (h : t_getf tb own idx nx K L st σ = some res) : KXr K res := by
  unfold t_getf at h
  split at h
  · split at h
    · split at h
      · have h := kx_cond h
        split at h
        · exact ⟨_, _, _, _, h⟩
        · exact ⟨_, _, _, _, h⟩
        · cases h
      · cases h
    · cases h
  · cases h
theorem kx_putf (h : t_putf tb own idx nx K L st σ = some res) : KXr K res := by
  unfold t_putf at h
  split at h
  · split at h
    · split at h
      · have h := kx_cond h
        split at h
        · exact ⟨_, _, _, _, kx_01 h⟩
        · cases h
      · cases h
    · cases h
  · cases h
theorem kx_ald {srt : Nat} (h : t_ald tb srt nx K L st σ = some res) : KXr K res := by
  unfold t_ald at h
  split at h
  · split at h
    · exact ⟨_, _, _, _, kx_in (kx_cond h)⟩
    · cases h
  · cases h
theorem kx_aldb (h : t_aldb tb nx K L st σ = some res) : KXr K res := by
  unfold t_aldb at h
  split at h
  · split at h
    · exact ⟨_, _, _, _, kx_in (kx_cond h)⟩
    · cases h
  · cases h
theorem kx_aldj (h : t_aldj tb nx K L st σ = some res) : KXr K res := by
  unfold t_aldj at h
  split at h
  · split at h
    · exact ⟨_, _, _, _, kx_in (kx_cond h)⟩
    · cases h
  · cases h
theorem kx_aldh (h : t_aldh tb nx K L st σ = some res) : KXr K res := by
  unfold t_aldh at h
  split at h
  · split at h
    · exact ⟨_, _, _, _, kx_in h⟩
    · cases h
  · cases h
theorem kx_ast {srt : Nat} {b : Bool} (h : t_ast tb srt b nx K L st σ = some res) : KXr K res := by
  unfold t_ast at h
  split at h
  · split at h
    · exact ⟨_, _, _, _, kx_01 (kx_in (kx_cond h))⟩
    · cases h
  · cases h
theorem kx_astj (h : t_astj tb nx K L st σ = some res) : KXr K res := by
  unfold t_astj at h
  split at h
  · split at h
    · exact ⟨_, _, _, _, kx_in (kx_cond h)⟩
    · cases h
  · cases h
theorem kx_alen (h : t_alen tb nx K L st σ = some res) : KXr K res := by
  unfold t_alen at h
  repeat' (split at h)
  all_goals first | (cases h; done) | exact ⟨_, _, _, _, h⟩
theorem kx_ldc (h : t_ldc tb own idx nx K L st σ = some res) : KXr K res := by
  unfold t_ldc at h
  repeat' (split at h)
  all_goals first | (cases h; done) | exact ⟨_, _, _, _, h⟩
theorem kx_ldcw (h : t_ldcw tb own idx nx K L st σ = some res) : KXr K res := by
  unfold t_ldcw at h
  repeat' (split at h)
  all_goals first | (cases h; done) | exact ⟨_, _, _, _, h⟩
theorem kx_ldc2 (h : t_ldc2 tb own idx nx K L st σ = some res) : KXr K res := by
  unfold t_ldc2 at h
  repeat' (split at h)
  all_goals first | (cases h; done) | exact ⟨_, _, _, _, h⟩
theorem kx_gst (h : t_gst own idx nx K L st σ = some res) : KXr K res := ⟨_, _, _, _, kx_cond h⟩
theorem kx_inv (h : t_inv tb O own idx nx K L st σ = some res) : KXr K res := by
  unfold t_inv at h
  split at h
  · split at h
    · have h := kx_cond h
      split at h
      · unfold t_callv at h
        split at h
        · exact ⟨_, _, _, _, h⟩
        · cases h
      · unfold t_calli at h
        split at h
        · exact ⟨_, _, _, _, h⟩
        · cases h
      · unfold t_callj at h
        split at h
        · exact ⟨_, _, _, _, h⟩
        · cases h
    · cases h
  · cases h
def RX3k (ins : Instr) (res : TRes) : Prop := (∃ x σ', res = .inr (some (.inl x), σ') ∧ ins = .ireturn) ∨ (∃ x σ', res = .inr (some (.inr (.inl x)), σ') ∧ ins = .lreturn) ∨ ∃ σ', res = .inr (none, σ')
theorem kx_ins {rb : Bool} {ins : Instr} (h : t_ins tb O own rb K ins nx ts L st σ = some res) : KXr K res ∨ RX3k ins res := by
  unfold t_ins at h
  split at h
  · exact .inl ⟨_, _, _, _, h⟩
  · exact .inl ⟨_, _, _, _, h⟩
  · exact .inl ⟨_, _, _, _, h⟩
  · exact .inl ⟨_, _, _, _, h⟩
  · exact .inl (kx_ldc h)
  · exact .inl (kx_ldcw h)
  · exact .inl (kx_ldc2 h)
  · exact .inl (kx_gst h)
  · exact .inl (kx_ldi h)
  · exact .inl (kx_ldi h)
  · exact .inl (kx_ldj h)
  · exact .inl (kx_ldj h)
  · exact .inl (kx_ldh h)
  · exact .inl (kx_ldh h)
  · exact .inl (kx_sti h)
  · exact .inl (kx_sti h)
  · exact .inl (kx_stj h)
  · exact .inl (kx_stj h)
  · exact .inl (kx_sth h)
  · exact .inl (kx_sth h)
  · exact .inl (kx_inc h)
  · exact .inl (kx_bin h)
  · exact .inl (kx_bin h)
  · exact .inl (kx_bin h)
  · exact .inl (kx_div h)
  · exact .inl (kx_div h)
  · exact .inl (kx_un h)
  · exact .inl (kx_bin h)
  · exact .inl (kx_bin h)
  · exact .inl (kx_bin h)
  · exact .inl (kx_bin h)
  · exact .inl (kx_bin h)
  · exact .inl (kx_bin h)
  · exact .inl (kx_un h)
  · exact .inl (kx_un h)
  · exact .inl (kx_un h)
  · exact .inl (kx_binj h)
  · exact .inl (kx_binj h)
  · exact .inl (kx_binj h)
  · exact .inl (kx_binj h)
  · exact .inl (kx_binj h)
  · exact .inl (kx_binj h)
  · exact .inl (kx_shj h)
  · exact .inl (kx_shj h)
  · exact .inl (kx_i2j h)
  · exact .inl (kx_j2i h)
  · exact .inl (kx_jcmp h)
  · exact .inl (kx_dup h)
  · exact .inl (kx_dup2 h)
  · exact .inl (kx_pop1 h)
  · exact .inl (kx_if0 h)
  · exact .inl (kx_if2 h)
  · exact .inl (kx_ifh h)
  · exact .inl (kx_jmp h)
  · exact .inl (kx_sw (fun d os J x h => kx_tsw os _ h) h)
  · exact .inl (kx_sw (fun d os J x h => kx_lsw _ os h) h)
  · exact .inl (kx_getf h)
  · exact .inl (kx_putf h)
  · exact .inl (kx_ald h)
  · exact .inl (kx_aldb h)
  · exact .inl (kx_aldj h)
  · exact .inl (kx_aldh h)
  · exact .inl (kx_ast h)
  · exact .inl (kx_ast h)
  · exact .inl (kx_astj h)
  · exact .inl (kx_alen h)
  · exact .inl (kx_inv h)
  · exact .inl (kx_inv h)
  · split at h
    · have h := kx_01 h
      cases h
      exact .inr (.inl ⟨_, _, rfl, rfl⟩)
    · cases h
  · split at h
    · cases h
      exact .inr (.inr (.inl ⟨_, _, rfl, rfl⟩))
    · cases h
  · split at h
    · cases h
      exact .inr (.inr (.inr ⟨_, rfl⟩))
    · cases h
  · cases h
/-- no instruction of the code is ins -/
def nIn (c : TCode) (ins : Instr) : Bool := c.all (fun l => l.all (fun e => decide (e.2.1 ≠ ins)))
theorem kx_fet {c : TCode} {pc : Nat} {ins i : Instr} {x : Nat × List Nat} (h : t_fet c pc = some (i, x)) (hn : nIn c ins = true) : i ≠ ins := by
  unfold t_fet at h
  split at h
  · next l hl =>
    have h1 := List.all_eq_true.mp (List.all_eq_true.mp hn l (t_nth_mem _ _ _ hl)) _ (t_look_mem _ _ _ h)
    exact of_decide_eq_true h1
  · cases h
def Rok (code : TCode) (res : TRes) : Prop := match res with
  | .inl _ => True
  | .inr (none, _) => True
  | .inr (some (.inl _), _) => nIn code .ireturn = false
  | .inr (some (.inr (.inl _)), _) => nIn code .lreturn = false
  | .inr (some (.inr (.inr _)), _) => False
theorem kx_seg {mt : Nat → Option TMth} {k own nl : Nat} {rb : Bool} {code : TCode} {stops : List (Nat × List Bool)} (hm : mt k = some (own, rb, nl, code, stops)) : ∀ (n pc : Nat) (L : TL) (st : List TV) (σ : TM) (res : TRes), t_seg tb mt O k n pc L st σ = some res → Rok code res
  | 0, _, _, _, _, _, h => by cases h
  | n + 1, pc, L, st, σ, res, h => by
    unfold t_seg at h
    rw [hm] at h
    simp only [] at h
    split at h
    · next ins nx ts hf =>
      rcases kx_ins h with ⟨pc', L', st', σ', h1⟩ | ⟨x, σ', rfl, rfl⟩ | ⟨x, σ', rfl, rfl⟩ | ⟨σ', rfl⟩
      · dsimp only at h1
        split at h1
        · cases h1
          trivial
        · exact kx_seg hm n pc' L' st' σ' res h1
      · cases hq : nIn code .ireturn with
        | false => exact hq
        | true => exact absurd rfl (kx_fet hf hq)
      · cases hq : nIn code .lreturn with
        | false => exact hq
        | true => exact absurd rfl (kx_fet hf hq)
      · trivial
    · cases h
theorem kx_tr {mt : Nat → Option TMth} {k own nl : Nat} {rb : Bool} {code : TCode} {stops : List (Nat × List Bool)} (hm : mt k = some (own, rb, nl, code, stops)) : ∀ (n pc : Nat) (L : TL) (st : List TV) (σ : TM) (res : TRes), t_tr tb mt O k n pc L st σ = some res → Rok code res
  | 0, _, _, _, _, _, h => by cases h
  | n + 1, pc, L, st, σ, res, h => by
    unfold t_tr at h
    split at h
    · exact kx_tr hm n _ _ _ _ res h
    · next r hs =>
      cases h
      exact kx_seg hm _ _ _ _ _ _ hs
    · cases h
end
/-- of which kind a method's answers are: true a long, false an int -/
def rkd (k : Nat) (j : Bool) : Bool := match mtb k with
  | some (_, _, _, code, _) => cond j (nIn code .ireturn) (nIn code .lreturn)
  | none => false
theorem run_kind {d k : Nat} {as : List TV} {σ σ' : TM} {r : TV} (hk : k ≠ 900) (h : t_run tbl mtb d k as σ = some (some r, σ')) : (rkd k false = true → ∃ x, r = vi x) ∧ (rkd k true = true → ∃ x, r = vj x) := by
  cases d with
  | zero => cases h
  | succ d =>
    unfold t_run at h
    rw [if_neg hk] at h
    split at h
    · next own rb nl code stops hm =>
      cases hb : Nat.ble (t_cats as) nl with
      | false => rw [hb] at h; cases h
      | true =>
        rw [hb] at h
        simp only [cond_true] at h
        unfold t_out at h
        split at h
        · next z hz =>
          cases h
          have h1 := kx_tr hm _ _ _ _ _ _ hz
          unfold rkd
          rw [hm]
          rcases r with x | x | x
          · refine ⟨fun _ => ⟨x, rfl⟩, fun q => ?_⟩
            have h1 : nIn code .ireturn = false := h1
            have q : nIn code .ireturn = true := q
            rw [h1] at q
            cases q
          · refine ⟨fun q => ?_, fun _ => ⟨x, rfl⟩⟩
            have h1 : nIn code .lreturn = false := h1
            have q : nIn code .lreturn = true := q
            rw [h1] at q
            cases q
          · exact h1.elim
        · cases h
    · cases h
theorem lk_kind : (List.range 43).all (fun c => cond (Nat.beq c 38) (rkd (lkc c) true && rkd (lkr c) true) (rkd (lkc c) false && rkd (lkr c) false)) = true := by decide +kernel
-- the entry
theorem zinst : ∀ c, c ≤ 12 → Cond.instantiable (cn c) (vN c) ∈ lw_tbl
  | 0, _ => lw_at_mem (j := 1) (k := 219) rfl
  | 1, _ => lw_at_mem (j := 2) (k := 75) rfl
  | 2, _ => lw_at_mem (j := 2) (k := 7) rfl
  | 3, _ => lw_at_mem (j := 2) (k := 41) rfl
  | 4, _ => lw_at_mem (j := 1) (k := 36) rfl
  | 5, _ => lw_at_mem (j := 2) (k := 105) rfl
  | 6, _ => lw_at_mem (j := 1) (k := 43) rfl
  | 7, _ => lw_at_mem (j := 2) (k := 142) rfl
  | 8, _ => lw_at_mem (j := 2) (k := 175) rfl
  | 9, _ => lw_at_mem (j := 1) (k := 155) rfl
  | 10, _ => lw_at_mem (j := 1) (k := 172) rfl
  | 11, _ => lw_at_mem (j := 1) (k := 24) rfl
  | 12, _ => lw_at_mem (j := 5) (k := 198) rfl
  | c + 13, h => absurd h (by omega)
def ztyj (j : Nat) : FieldType := match j with
  | 0 => .int
  | 1 => .boolean
  | 2 => .long
  | 3 => .object RX1
  | 4 => .object RX2
  | 5 => .object RX3
  | 6 => .object RX5
  | 7 => .object RX6
  | 8 => .object RX7
  | 9 => .object RX8
  | _ => .int
theorem zarrc {s : State} {a : Array Value} {ty : FieldType} (h : (Cond.arrayClass ty).before a s = true) (hr : ∀ C, ty ≠ .object C) : ∃ cA, ArrOfT s cA ty ∧ va_RA s cA ty := by
  obtain ⟨cA, kA, comp, h1, h2, h3⟩ := Cond.arrayClass_spec h
  refine ⟨cA, fun n z => ⟨fun k h => (by cases h), kA, h2, comp, h3⟩, ?_⟩
  cases ty with
  | object C => exact absurd rfl (hr C)
  | _ => exact h1
theorem zarro {s : State} {a : Array Value} {C : String} (h : (Cond.arrayOver (.object C)).before a s = true) : ∃ cA, ArrOfT s cA (.object C) ∧ va_RA s cA (.object C) := by
  obtain ⟨comp, cA, kA, h1, h2, h3, h4, h5⟩ := Cond.arrayOver_spec h
  exact ⟨cA, fun n z => ⟨fun k h => (by cases h), kA, h3, comp, h4⟩, kA, comp, h3, h4, h1, h5⟩
theorem ztyl {s : State} {b : Nat} (hts : ∀ w ∈ lw_tbl, w.before #[Value.ref b] s = true) : ∃ ca : Nat → ClassId, ∀ j, j < 10 → ArrOfT s (ca j) (ztyj j) ∧ va_RA s (ca j) (ztyj j) := by
  have h0 : ∀ j, ∃ cA : ClassId, j < 10 → ArrOfT s cA (ztyj j) ∧ va_RA s cA (ztyj j) := by
    intro j
    match j with
    | 0 =>
      obtain ⟨cA, h⟩ := zarrc (ty := .int) (hts _ (lw_at_mem (j := 1) (k := 100) rfl)) (fun C q => by cases q)
      exact ⟨cA, fun _ => h⟩
    | 1 =>
      obtain ⟨cA, h⟩ := zarrc (ty := .boolean) (hts _ (lw_at_mem (j := 1) (k := 101) rfl)) (fun C q => by cases q)
      exact ⟨cA, fun _ => h⟩
    | 2 =>
      obtain ⟨cA, h⟩ := zarrc (ty := .long) (hts _ (lw_at_mem (j := 2) (k := 197) rfl)) (fun C q => by cases q)
      exact ⟨cA, fun _ => h⟩
    | 3 =>
      obtain ⟨cA, h⟩ := zarro (C := RX1) (hts _ (lw_at_mem (j := 1) (k := 149) rfl))
      exact ⟨cA, fun _ => h⟩
    | 4 =>
      obtain ⟨cA, h⟩ := zarro (C := RX2) (hts _ (lw_at_mem (j := 1) (k := 32) rfl))
      exact ⟨cA, fun _ => h⟩
    | 5 =>
      obtain ⟨cA, h⟩ := zarro (C := RX3) (hts _ (lw_at_mem (j := 1) (k := 34) rfl))
      exact ⟨cA, fun _ => h⟩
    | 6 =>
      obtain ⟨cA, h⟩ := zarro (C := RX5) (hts _ (lw_at_mem (j := 1) (k := 151) rfl))
      exact ⟨cA, fun _ => h⟩
    | 7 =>
      obtain ⟨cA, h⟩ := zarro (C := RX6) (hts _ (lw_at_mem (j := 1) (k := 42) rfl))
      exact ⟨cA, fun _ => h⟩
    | 8 =>
      obtain ⟨cA, h⟩ := zarro (C := RX7) (hts _ (lw_at_mem (j := 1) (k := 153) rfl))
      exact ⟨cA, fun _ => h⟩
    | 9 =>
      obtain ⟨cA, h⟩ := zarro (C := RX8) (hts _ (lw_at_mem (j := 2) (k := 6) rfl))
      exact ⟨cA, fun _ => h⟩
    | j + 10 => exact ⟨0, fun h => absurd h (by omega)⟩
  obtain ⟨ca, hca⟩ := Classical.axiomOfChoice h0
  exact ⟨ca, hca⟩
theorem zK {s : State} {b : Nat} (hts : ∀ w ∈ lw_tbl, w.before #[Value.ref b] s = true) : ∃ (D : va_G) (ca : Nat → ClassId), va_K D vwCl (tyl ca) s := by
  obtain ⟨ca, hca⟩ := ztyl hts
  have h0 : ∀ c : Nat, ∃ q : ClassId × (Nat → Nat), c ≤ 12 → u_Kn s (cn c) (vT c) (vN c) q.1 q.2 := by
    intro c
    by_cases hc : c ≤ 12
    · obtain ⟨cC, iS, h⟩ := u_known (C := cn c) (T := vT c) (N := vN c) (n := vN c) hts (cls_facts hc).2.1 (hts _ (zinst c hc))
      exact ⟨(cC, iS), fun _ => h⟩
    · exact ⟨(0, fun _ => 0), fun h => absurd h hc⟩
  obtain ⟨F, hF⟩ := Classical.axiomOfChoice h0
  refine ⟨(fun c => (F c).1, fun c => (F c).2), ca, fun c q hq => ?_, fun k q hq => ?_⟩
  · have hc : c ≤ 12 := by
      have := (List.getElem?_eq_some_iff.mp hq).1
      have e : vwCl.length = 13 := rfl
      omega
    have := (cls_facts hc).1
    rw [hq] at this
    cases Option.some.inj this
    exact hF c hc
  · have hk : k < 10 := (List.getElem?_eq_some_iff.mp hq).1
    have e : (tyl ca)[k]? = some (ca k, ztyj k) := by
      match k, hk with
      | 0, _ => rfl
      | 1, _ => rfl
      | 2, _ => rfl
      | 3, _ => rfl
      | 4, _ => rfl
      | 5, _ => rfl
      | 6, _ => rfl
      | 7, _ => rfl
      | 8, _ => rfl
      | 9, _ => rfl
      | k + 10, h => exact absurd h (by omega)
    rw [e] at hq
    cases Option.some.inj hq
    exact hca k hk
theorem zAOs {s : State} {b : Nat} (hts : ∀ w ∈ lw_tbl, w.before #[Value.ref b] s = true) : zAO s := ⟨fun C hC => va_AO.of (hts _ hC), fun own idx y host hw => va_Nw.of rfl (hts _ hw)⟩
abbrev zst : Term := .string RX9 67
theorem zSX {s : State} {b : Nat} {A : Nat → Prop} (hts : ∀ w ∈ lw_tbl, w.before #[Value.ref b] s = true) (hgv : (Jvm.Cond.and given_1 narrow_1).before #[Value.ref b] s = true) (hA : ∀ a : Nat, a < s.heap.size → ¬ A a) : ∃ t1 t2 : Nat, ∀ ad : Nat → Nat → Nat, ad 119 0 = t1 → ad 120 0 = t2 → SX ad A s s.heap := by
  have hf := flat_of_before _ hgv
  have hex : (Cond.exactly zst RJ0).before #[Value.ref b] s = true := hf _ (by decide +kernel)
  obtain ⟨a, c, cA, kA, q1, q2, q3, q4, q5, q6, -⟩ := Cond.exactly_spec (args := #[Value.ref b]) (first := s) (o := none) (s := s) (idx := []) (t := zst) (cls := RJ0) hex
  have har : (Cond.arrayOf (.field zst RJ0 "value" "[B") .byte).before #[Value.ref b] s = true := hf _ (by decide +kernel)
  have hle : (Cond.eq (.length (.field zst RJ0 "value" "[B")) (.int (Int32.ofNat 11))).before #[Value.ref b] s = true := hf _ (by decide +kernel)
  have hel : ∀ j : Nat, j < 11 → (Cond.eq (.elem (.field zst RJ0 "value" "[B") (.int (Int32.ofNat j))) (.int (Int32.ofInt (strB j)))).before #[Value.ref b] s = true
    | 0, _ => hf _ (by decide +kernel)
    | 1, _ => hf _ (by decide +kernel)
    | 2, _ => hf _ (by decide +kernel)
    | 3, _ => hf _ (by decide +kernel)
    | 4, _ => hf _ (by decide +kernel)
    | 5, _ => hf _ (by decide +kernel)
    | 6, _ => hf _ (by decide +kernel)
    | 7, _ => hf _ (by decide +kernel)
    | 8, _ => hf _ (by decide +kernel)
    | 9, _ => hf _ (by decide +kernel)
    | 10, _ => hf _ (by decide +kernel)
    | j + 11, h => absurd h (by omega)
  obtain ⟨t, ht, hT⟩ := va_Tof (f := fun j => .int (Int32.ofInt (strB j))) (A := A) (by decide) har (va_eqt hle) (fun j hj => va_eqt (hel j hj)) hA
  have hco : (Cond.eq (.field zst RJ0 "coder" "B") (.int 0)).before #[Value.ref b] s = true := hf _ (by decide +kernel)
  have hcs : (Cond.eq (.static RJ0 "COMPACT_STRINGS" "Z") (.int 1)).before #[Value.ref b] s = true := hf _ (by decide +kernel)
  have hO := va_Oof (A := A) hex q1 hA
  refine ⟨a, t, fun ad e1 e2 => ?_⟩
  unfold SX
  rw [e1, e2]
  exact ⟨vk_R.of (hts _ (lw_at_mem (j := 3) (k := 155) rfl)) q1, va_Zof (hts _ (lw_at_mem (j := 3) (k := 169) rfl)) (hts _ (lw_at_mem (j := 1) (k := 14) rfl)) (va_eqi hcs) hA, hO, vk_OFof q1 (va_eqt hco) hA, vk_OFof q1 ht hA, hT, va_Nw.of rfl (hts _ (lw_at_mem (j := 4) (k := 185) rfl))⟩
