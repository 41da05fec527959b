-- the picture: what the heap holds for a memory of the small machine
def t_cv (ad : Nat → Nat → Nat) : TV → Value
  | .inl x => .int (Int32.ofInt x)
  | .inr (.inl x) => .long (Int64.ofInt x)
  | .inr (.inr h) => .ref (ad h.1 h.2)
def fvs (ad : Nat → Nat → Nat) (σ : TM) (k i : Nat) : Nat → List (Option Nat) → List Value
  | _, [] => []
  | s, none :: l => .int (Int32.ofInt (σ k i s)) :: fvs ad σ k i (s + 1) l
  | s, some k' :: l => .ref (ad k' i) :: fvs ad σ k i (s + 1) l
def pl (c : Nat) : Nat := match c with
  | 1 => 3
  | 2 => 4
  | 3 => 5
  | 5 => 6
  | 6 => 7
  | 7 => 8
  | _ => 9
def kcls (k : Nat) : Nat := (t_cls tbl k).getD 0
abbrev KRow : Type := Option Nat × List (Option Nat) × Option (Nat × Int) × Option (Int × Nat) × Nat
def cEr (ad : Nat → Nat → Nat) (ca : Nat → ClassId) (σ : TM) (k i : Nat) (r : KRow) : va_E := match r.1 with
  | some c => .inr (c, fvs ad σ k i 0 r.2.1)
  | none => (match r.2.2.1 with
    | some (srt, n) => cond (Nat.beq srt 2) (.inl (ca 2, n.toNat, .inr (.inl (fun j => Int64.ofInt (σ k i j))))) (.inl (ca srt, n.toNat, .inl (fun j => Int32.ofInt (σ k i j))))
    | none => (match r.2.2.2.1 with
      | some (n, k') => .inl (ca (pl (kcls k')), n.toNat, .inr (.inr (.inr (.inr (fun j => some (ad k' j))))))
      | none => .inr (0, [])))
def cE (ad : Nat → Nat → Nat) (ca : Nat → ClassId) (σ : TM) (h : Nat × Nat) : va_E := match t_nth tb_kinds h.1 with
  | some r => cEr ad ca σ h.1 h.2 r
  | none => .inr (0, [])
def wsl (hs : List (Nat × Nat)) (ad : Nat → Nat → Nat) (ca : Nat → ClassId) (σ : TM) : va_W := hs.map (fun h => ((ad h.1 h.2, cE ad ca σ h) : Nat × va_E))
def tyl (ca : Nat → ClassId) : List (ClassId × FieldType) := [(ca 0, .int), (ca 1, .boolean), (ca 2, .long), (ca 3, .object RX1), (ca 4, .object RX2), (ca 5, .object RX3), (ca 6, .object RX5), (ca 7, .object RX6), (ca 8, .object RX7), (ca 9, .object RX8)]
theorem fvs_congr {ad : Nat → Nat → Nat} {σ τ : TM} {k i : Nat} (h : ∀ j, σ k i j = τ k i j) : ∀ (l : List (Option Nat)) (s : Nat), fvs ad σ k i s l = fvs ad τ k i s l
  | [], s => rfl
  | none :: l, s => by simp only [fvs, h s, fvs_congr h l]
  | some k' :: l, s => by simp only [fvs, fvs_congr h l]
theorem fvs_get {ad : Nat → Nat → Nat} {σ : TM} {k i : Nat} : ∀ (l : List (Option Nat)) (s o : Nat) (x : Option Nat), t_nth l s = some x → (fvs ad σ k i o l)[s]? = some (match x with | none => .int (Int32.ofInt (σ k i (o + s))) | some k' => .ref (ad k' i))
  | [], _, _, _, h => by cases h
  | none :: l, 0, o, x, h => by cases h; rfl
  | some k' :: l, 0, o, x, h => by cases h; rfl
  | none :: l, s + 1, o, x, h => by
    have := fvs_get (ad := ad) (σ := σ) (k := k) (i := i) l s (o + 1) x h
    rw [show o + 1 + s = o + (s + 1) by omega] at this
    simpa [fvs] using this
  | some k' :: l, s + 1, o, x, h => by
    have := fvs_get (ad := ad) (σ := σ) (k := k) (i := i) l s (o + 1) x h
    rw [show o + 1 + s = o + (s + 1) by omega] at this
    simpa [fvs] using this
theorem fvs_len {ad : Nat → Nat → Nat} {σ : TM} {k i : Nat} : ∀ (l : List (Option Nat)) (o : Nat), (fvs ad σ k i o l).length = l.length
  | [], _ => rfl
  | none :: l, o => by simp [fvs, fvs_len l]
  | some k' :: l, o => by simp [fvs, fvs_len l]
theorem fvs_set {ad : Nat → Nat → Nat} {σ : TM} {k i : Nat} {v : Int} : ∀ (l : List (Option Nat)) (s o : Nat), t_nth l s = some none → fvs ad (t_upd σ k i (o + s) v) k i o l = (fvs ad σ k i o l).set s (.int (Int32.ofInt v))
  | [], _, _, h => by cases h
  | none :: l, 0, o, h => by
    have e : ∀ (l : List (Option Nat)) (q : Nat), o < q → fvs ad (t_upd σ k i o v) k i q l = fvs ad σ k i q l := by
      intro l
      induction l with
      | nil => intro q _; rfl
      | cons a l ih =>
        intro q hq
        cases a with
        | none =>
          simp only [fvs, ih (q + 1) (by omega), t_upd_eq]
          rw [if_neg (by omega)]
        | some k' => simp only [fvs, ih (q + 1) (by omega)]
    simp only [fvs, List.set_cons_zero, Nat.add_zero, e l (o + 1) (by omega), t_upd_eq, and_self, if_true]
  | some k' :: l, 0, o, h => by cases h
  | none :: l, s + 1, o, h => by
    have := fvs_set (ad := ad) (σ := σ) (k := k) (i := i) (v := v) l s (o + 1) h
    rw [show o + 1 + s = o + (s + 1) by omega] at this
    simp only [fvs, List.set_cons_succ, this, t_upd_eq]
    rw [if_neg (by omega)]
  | some k' :: l, s + 1, o, h => by
    have := fvs_set (ad := ad) (σ := σ) (k := k) (i := i) (v := v) l s (o + 1) h
    rw [show o + 1 + s = o + (s + 1) by omega] at this
    simp only [fvs, List.set_cons_succ, this]
theorem cE_congr {ad : Nat → Nat → Nat} {ca : Nat → ClassId} {σ τ : TM} {h : Nat × Nat} (e : ∀ j, σ h.1 h.2 j = τ h.1 h.2 j) : cE ad ca σ h = cE ad ca τ h := by
  unfold cE
  cases t_nth tb_kinds h.1 with
  | none => rfl
  | some r =>
    simp only [cEr, fvs_congr e]
    have e1 : (fun j => Int64.ofInt (σ h.1 h.2 j)) = fun j => Int64.ofInt (τ h.1 h.2 j) := funext fun j => by rw [e j]
    have e2 : (fun j => Int32.ofInt (σ h.1 h.2 j)) = fun j => Int32.ofInt (τ h.1 h.2 j) := funext fun j => by rw [e j]
    rw [e1, e2]
theorem wsl_at {hs : List (Nat × Nat)} {ad : Nat → Nat → Nat} {ca : Nat → ClassId} {σ : TM} {h : Nat × Nat} (hh : h ∈ hs) : ∃ q : Nat, hs[q]? = some h ∧ (wsl hs ad ca σ)[q]? = some (ad h.1 h.2, cE ad ca σ h) := by
  obtain ⟨q, hq⟩ := List.getElem?_of_mem hh
  exact ⟨q, hq, by simp [wsl, hq]⟩
theorem wsl_upd {hs : List (Nat × Nat)} {ad : Nat → Nat → Nat} {ca : Nat → ClassId} {σ : TM} {k i j q : Nat} {v : Int} (hn : hs.Nodup) (hq : hs[q]? = some (k, i)) :
    wsl hs ad ca (t_upd σ k i j v) = (wsl hs ad ca σ).set q (ad k i, cE ad ca (t_upd σ k i j v) (k, i)) := by
  apply List.ext_getElem?
  intro n
  have hl : q < hs.length := (List.getElem?_eq_some_iff.mp hq).1
  by_cases hnq : n = q
  · subst hnq
    rw [List.getElem?_set_self (by simpa [wsl] using hl)]
    simp only [wsl, List.getElem?_map, hq, Option.map_some]
  · rw [List.getElem?_set_ne (Ne.symm hnq)]
    simp only [wsl, List.getElem?_map]
    cases hx : hs[n]? with
    | none => rfl
    | some h =>
      simp only [Option.map_some]
      rw [cE_congr]
      intro c
      rw [t_upd_eq, if_neg]
      intro e
      have e2 : h = (k, i) := Prod.ext e.1 e.2.1
      rw [e2] at hx
      exact hnq ((List.getElem?_inj (List.getElem?_eq_some_iff.mp hx).1 hn).mp (hx.trans hq.symm))
-- locals
def LR (ad : Nat → Nat → Nat) (ls : Array Slot) (nL : Nat) (L : TL) : Prop := ls.size = nL ∧ lv_wf ls ∧ L.length = nL ∧ ∀ (i : Nat) (v : TV), t_nth L i = some (some v) → ls[i]? = some (.val (t_cv ad v))
def lvl (ad : Nat → Nat → Nat) : Nat → TL → List (Nat × Value)
  | _, [] => []
  | i, none :: l => lvl ad (i + 1) l
  | i, some v :: l => (i, t_cv ad v) :: lvl ad (i + 1) l
theorem lvl_mem {ad : Nat → Nat → Nat} : ∀ (L : TL) (o i : Nat) (v : TV), t_nth L i = some (some v) → (o + i, t_cv ad v) ∈ lvl ad o L
  | [], _, _, _, h => by cases h
  | none :: L, o, 0, v, h => by cases h
  | some w :: L, o, 0, v, h => by cases h; exact List.mem_cons_self
  | none :: L, o, i + 1, v, h => by
    have := lvl_mem (ad := ad) L (o + 1) i v h
    rw [show o + 1 + i = o + (i + 1) by omega] at this
    exact this
  | some w :: L, o, i + 1, v, h => by
    have := lvl_mem (ad := ad) L (o + 1) i v h
    rw [show o + 1 + i = o + (i + 1) by omega] at this
    exact List.mem_cons_of_mem _ this
theorem lvl_of {ad : Nat → Nat → Nat} : ∀ (L : TL) (o : Nat) (q : Nat × Value), q ∈ lvl ad o L → ∃ (i : Nat) (v : TV), q = (o + i, t_cv ad v) ∧ t_nth L i = some (some v)
  | [], _, _, h => by cases h
  | none :: L, o, q, h => by
    obtain ⟨i, v, e, h2⟩ := lvl_of (ad := ad) L (o + 1) q h
    exact ⟨i + 1, v, by rw [e]; congr 1; omega, h2⟩
  | some w :: L, o, q, h => by
    rcases List.mem_cons.mp h with rfl | h
    · exact ⟨0, w, rfl, rfl⟩
    · obtain ⟨i, v, e, h2⟩ := lvl_of (ad := ad) L (o + 1) q h
      exact ⟨i + 1, v, by rw [e]; congr 1; omega, h2⟩
theorem LR.has {ad : Nat → Nat → Nat} {ls : Array Slot} {nL : Nat} {L : TL} (h : LR ad ls nL L) : lv_has ls nL (lvl ad 0 L) := by
  obtain ⟨h1, h2, -, h4⟩ := h
  refine ⟨h1, h2, fun q hq => ?_⟩
  obtain ⟨i, v, rfl, hv⟩ := lvl_of L 0 q hq
  rw [Nat.zero_add]
  exact h4 i v hv
theorem t_nth_some {α : Type} : ∀ (l : List α) (i : Nat), i < l.length → ∃ a, t_nth l i = some a
  | [], _, h => by cases h
  | a :: _, 0, _ => ⟨a, rfl⟩
  | _ :: l, i + 1, h => t_nth_some l i (by simpa using h)
theorem t_nth_lt {α : Type} : ∀ (l : List α) (i : Nat) (a : α), t_nth l i = some a → i < l.length
  | [], _, _, h => by cases h
  | _ :: _, 0, _, _ => Nat.succ_pos _
  | _ :: l, i + 1, a, h => Nat.succ_lt_succ (t_nth_lt l i a h)
theorem setK_ok (v : TV) : ∀ (L : TL) (i : Nat) (K : TL → Option TRes) (res : TRes), t_setK v K i L = some res → ∃ L' : TL, K L' = some res ∧ i < L.length ∧ L'.length = L.length ∧ (∀ j w, t_nth L' j = some (some w) → (j = i ∧ w = v) ∨ (j ≠ i ∧ t_nth L j = some (some w) ∧ ¬ (j + 1 = i ∧ t_isJ (some (some w)) = true)))
  | [], i, K, res, h => by cases i <;> simp [t_setK] at h
  | a :: l, 0, K, res, h => by
    refine ⟨some v :: l, h, Nat.succ_pos _, rfl, fun j w hj => ?_⟩
    cases j with
    | zero => cases hj; exact Or.inl ⟨rfl, rfl⟩
    | succ j => exact Or.inr ⟨by omega, hj, by omega⟩
  | a :: l, i + 1, K, res, h => by
    obtain ⟨L', h1, h2, h3, h4⟩ := setK_ok v l i _ res h
    refine ⟨_, h1, Nat.succ_lt_succ h2, by simp [h3], fun j w hj => ?_⟩
    cases j with
    | zero =>
      refine Or.inr ⟨by omega, ?_⟩
      cases hc : (Nat.beq i 0 && t_isJ (some a)) with
      | true => rw [hc] at hj; simp [t_nth] at hj
      | false =>
        rw [hc] at hj
        have hj' : some a = some (some w) := hj
        refine ⟨hj', fun e => ?_⟩
        rw [Bool.and_eq_false_iff] at hc
        rcases hc with hc | hc
        · have : i = 0 := by omega
          subst this
          cases hc
        · rw [hj'] at hc; rw [hc] at e; cases e.2
    | succ j =>
      rcases h4 j w hj with ⟨rfl, rfl⟩ | ⟨e1, e2, e3⟩
      · exact Or.inl ⟨rfl, rfl⟩
      · exact Or.inr ⟨by omega, e2, fun e => e3 ⟨by omega, e.2⟩⟩
theorem setK2_ok (v : TV) : ∀ (L : TL) (i : Nat) (K : TL → Option TRes) (res : TRes), t_setK2 v K i L = some res → ∃ L' : TL, K L' = some res ∧ i + 1 < L.length ∧ L'.length = L.length ∧ (∀ j w, t_nth L' j = some (some w) → (j = i ∧ w = v) ∨ (j ≠ i ∧ j ≠ i + 1 ∧ t_nth L j = some (some w) ∧ ¬ (j + 1 = i ∧ t_isJ (some (some w)) = true)))
  | [], i, K, res, h => by cases i <;> simp [t_setK2] at h
  | [a], 0, K, res, h => by simp [t_setK2] at h
  | a :: b :: l, 0, K, res, h => by
    refine ⟨some v :: none :: l, h, by simp, rfl, fun j w hj => ?_⟩
    cases j with
    | zero => cases hj; exact Or.inl ⟨rfl, rfl⟩
    | succ j =>
      cases j with
      | zero => simp [t_nth] at hj
      | succ j => exact Or.inr ⟨by omega, by omega, hj, by omega⟩
  | a :: l, i + 1, K, res, h => by
    obtain ⟨L', h1, h2, h3, h4⟩ := setK2_ok v l i _ res h
    refine ⟨_, h1, Nat.succ_lt_succ h2, by simp [h3], fun j w hj => ?_⟩
    cases j with
    | zero =>
      refine Or.inr ⟨by omega, by omega, ?_⟩
      cases hc : (Nat.beq i 0 && t_isJ (some a)) with
      | true => rw [hc] at hj; simp [t_nth] at hj
      | false =>
        rw [hc] at hj
        have hj' : some a = some (some w) := hj
        refine ⟨hj', fun e => ?_⟩
        rw [Bool.and_eq_false_iff] at hc
        rcases hc with hc | hc
        · have : i = 0 := by omega
          subst this
          cases hc
        · rw [hj'] at hc; rw [hc] at e; cases e.2
    | succ j =>
      rcases h4 j w hj with ⟨rfl, rfl⟩ | ⟨e1, e1', e2, e3⟩
      · exact Or.inl ⟨rfl, rfl⟩
      · exact Or.inr ⟨by omega, by omega, e2, fun e => e3 ⟨by omega, e.2⟩⟩
theorem isJ_cat {ad : Nat → Nat → Nat} {w : TV} : (t_cv ad w).category = 2 ↔ t_isJ (some (some w)) = true := by
  rcases w with x | x | x <;> simp [t_cv, t_isJ, Value.category]
theorem LR.put1 {ad : Nat → Nat → Nat} {ls ls' : Array Slot} {nL i : Nat} {L L' : TL} {v : TV} (h : LR ad ls nL L) (hlen : L'.length = L.length)
    (hL : ∀ j w, t_nth L' j = some (some w) → (j = i ∧ w = v) ∨ (j ≠ i ∧ t_nth L j = some (some w) ∧ ¬ (j + 1 = i ∧ t_isJ (some (some w)) = true)))
    (h' : lv_has ls' nL ((i, t_cv ad v) :: (lvl ad 0 L).filter (fun q => !(q.1 == i) && !(q.1 + 1 == i && q.2.category == 2)))) : LR ad ls' nL L' := by
  refine ⟨h'.1, h'.2.1, by rw [hlen]; exact h.2.2.1, fun j w hj => ?_⟩
  rcases hL j w hj with ⟨rfl, rfl⟩ | ⟨e1, e2, e3⟩
  · exact h'.2.2 (j, t_cv ad w) List.mem_cons_self
  · refine h'.2.2 (j, t_cv ad w) (List.mem_cons_of_mem _ (List.mem_filter.mpr ⟨?_, ?_⟩))
    · have := lvl_mem (ad := ad) L 0 j w e2
      rwa [Nat.zero_add] at this
    · rw [← isJ_cat (ad := ad)] at e3
      simp only [Bool.and_eq_true, Bool.not_eq_true', beq_eq_false_iff_ne, Bool.and_eq_false_iff]
      refine ⟨e1, ?_⟩
      by_cases hx : j + 1 = i
      · exact Or.inr (fun e => e3 ⟨hx, e⟩)
      · exact Or.inl hx
theorem LR.put2 {ad : Nat → Nat → Nat} {ls ls' : Array Slot} {nL i : Nat} {L L' : TL} {v : TV} (h : LR ad ls nL L) (hlen : L'.length = L.length)
    (hL : ∀ j w, t_nth L' j = some (some w) → (j = i ∧ w = v) ∨ (j ≠ i ∧ j ≠ i + 1 ∧ t_nth L j = some (some w) ∧ ¬ (j + 1 = i ∧ t_isJ (some (some w)) = true)))
    (h' : lv_has ls' nL ((i, t_cv ad v) :: (lvl ad 0 L).filter (fun q => !(q.1 == i) && (!(q.1 == i + 1) && !(q.1 + 1 == i && q.2.category == 2))))) : LR ad ls' nL L' := by
  refine ⟨h'.1, h'.2.1, by rw [hlen]; exact h.2.2.1, fun j w hj => ?_⟩
  rcases hL j w hj with ⟨rfl, rfl⟩ | ⟨e1, e1', e2, e3⟩
  · exact h'.2.2 (j, t_cv ad w) List.mem_cons_self
  · refine h'.2.2 (j, t_cv ad w) (List.mem_cons_of_mem _ (List.mem_filter.mpr ⟨?_, ?_⟩))
    · have := lvl_mem (ad := ad) L 0 j w e2
      rwa [Nat.zero_add] at this
    · rw [← isJ_cat (ad := ad)] at e3
      simp only [Bool.and_eq_true, Bool.not_eq_true', beq_eq_false_iff_ne, Bool.and_eq_false_iff]
      refine ⟨e1, e1', ?_⟩
      by_cases hx : j + 1 = i
      · exact Or.inr (fun e => e3 ⟨hx, e⟩)
      · exact Or.inl hx
theorem mask_ok : ∀ (bs : List Bool) (L : TL), (t_mask bs L).length = L.length ∧ ∀ j w, t_nth (t_mask bs L) j = some (some w) → t_nth L j = some (some w)
  | bs, [] => by cases bs <;> exact ⟨rfl, fun j w h => by simp [t_mask, t_nth] at h⟩
  | [], a :: l => by
    obtain ⟨h1, h2⟩ := mask_ok [] l
    refine ⟨by simp [t_mask, h1], fun j w h => ?_⟩
    cases j with
    | zero => simp [t_mask, t_nth] at h
    | succ j => exact h2 j w h
  | b :: bs, a :: l => by
    obtain ⟨h1, h2⟩ := mask_ok bs l
    refine ⟨by simp [t_mask, h1], fun j w h => ?_⟩
    cases j with
    | zero => cases b <;> simp [t_mask, t_nth] at h; exact congrArg some h
    | succ j => exact h2 j w h
theorem LR.mask {ad : Nat → Nat → Nat} {ls : Array Slot} {nL : Nat} {L : TL} (h : LR ad ls nL L) (bs : List Bool) : LR ad ls nL (t_mask bs L) :=
  ⟨h.1, h.2.1, by rw [(mask_ok bs L).1]; exact h.2.2.1, fun i v hv => h.2.2.2 i v ((mask_ok bs L).2 i v hv)⟩
