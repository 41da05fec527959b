-- what both sides answer, over a picture V of the reference's rows; the reader of texts
abbrev TVw : Type := Nat → Nat → Int
def bi : Bool → Int
  | true => 1
  | false => 0
theorem bi_0 {b : Bool} : (bi b = 0) = (b = false) := by cases b <;> simp [bi]
theorem bi_0' {b : Bool} {α : Type} {A B : α} [Decidable (b = false)] : (if bi b = 0 then A else B) = if b = false then A else B := by cases b <;> simp [bi]
theorem bi_1 {b : Bool} : (bi b = 1) = (b = true) := by cases b <;> simp [bi]
theorem bi_r (b : Bool) : 0 ≤ bi b ∧ bi b ≤ 1 := by cases b <;> decide
abbrev PR : Type := Nat ⊕ (Nat × List Int × ((Nat → Int) → Int))
def p_at (b : Nat → Int) (n q : Nat) : Int := if q < n then b q else -1
noncomputable def p_jn (s x y : Int) : Int :=
  if s = 37 then (if y = 0 then 0 else i_rem x y) else if s = 38 then (if x = 0 ∨ y = 0 then 0 else 1)
  else if s = 42 then w32 (x * y) else if s = 43 then w32 (x + y) else if s = 45 then w32 (x - y)
  else if s = 47 then (if y = 0 then 0 else i_div x y) else if s = 60 then (if x < y then 1 else 0) else if s = 61 then (if x = y then 1 else 0)
  else if s = 62 then (if y < x then 1 else 0) else if s = 124 then (if x = 0 ∧ y = 0 then 0 else 1) else 0
def p_op (lvl : Nat) (x : Int) : Bool := match lvl with
  | 0 => decide (x = 124)
  | 1 => decide (x = 38)
  | 2 => decide (x = 60 ∨ x = 61 ∨ x = 62)
  | 3 => decide (x = 43 ∨ x = 45)
  | _ => decide (x = 42 ∨ x = 47 ∨ x = 37)
def p_nmL : List Int := [116, 112, 102, 104, 99, 111, 100, 118, 110, 122, 119]
def p_nm (x : Int) : Int := fF (fun k => decide (t_nth p_nmL k = some x)) 11 0
def p_dg (b : Nat → Int) (n : Nat) : Nat → Nat → Int → Nat × Int
  | 0, q, v => (q, v)
  | k + 1, q, v => if 48 ≤ p_at b n q ∧ p_at b n q ≤ 57 then p_dg b n k (q + 1) (10 * v + p_at b n q - 48) else (q, v)
noncomputable def p_lp (g : Nat → PR) (b : Nat → Int) (n lvl : Nat) : Nat → Nat × List Int × ((Nat → Int) → Int) → PR
  | 0, s => .inr s
  | f + 1, (q, c, v) => if p_op lvl (p_at b n q) = true then (match g (q + 1) with
    | .inl e => .inl e
    | .inr (q', c', v') => p_lp g b n lvl f (q', c ++ c' ++ [20000 + p_at b n q], fun N => p_jn (p_at b n q) (v N) (v' N))) else .inr (q, c, v)
noncomputable def p_s (b : Nat → Int) (n : Nat) : Nat → Nat → Nat → Nat → PR
  | 0, _, _, q => .inl q
  | f + 1, 5, o, q =>
    if 48 ≤ p_at b n q ∧ p_at b n q ≤ 57 then .inr ((p_dg b n 4 q 0).1, [(p_dg b n 4 q 0).2], fun _ => (p_dg b n 4 q 0).2)
    else if p_at b n q = 40 then (if 8 ≤ o then .inl q else match p_s b n f 0 (o + 1) (q + 1) with
      | .inl e => .inl e
      | .inr (q', c, v) => if p_at b n q' = 41 then .inr (q' + 1, c, v) else .inl q')
    else if p_at b n q = 33 then (if 8 ≤ o then .inl q else match p_s b n f 5 (o + 1) (q + 1) with
      | .inl e => .inl e
      | .inr (q', c, v) => .inr (q', c ++ [20033], fun N => if v N = 0 then 1 else 0))
    else if p_at b n q = 45 then (if 8 ≤ o then .inl q else match p_s b n f 5 (o + 1) (q + 1) with
      | .inl e => .inl e
      | .inr (q', c, v) => .inr (q', c ++ [20126], fun N => w32 (-(v N))))
    else if p_nm (p_at b n q) < 0 then .inl q else .inr (q + 1, [10000 + p_nm (p_at b n q)], fun N => N (p_nm (p_at b n q)).toNat)
  | f + 1, 2, o, q => match p_s b n f 3 o q with
    | .inl e => .inl e
    | .inr (q', c, v) => if p_op 2 (p_at b n q') = true then (match p_s b n f 3 o (q' + 1) with
      | .inl e => .inl e
      | .inr (q2, c2, v2) => .inr (q2, c ++ c2 ++ [20000 + p_at b n q'], fun N => p_jn (p_at b n q') (v N) (v2 N))) else .inr (q', c, v)
  | f + 1, lvl, o, q => match p_s b n f (lvl + 1) o q with
    | .inl e => .inl e
    | .inr s => p_lp (fun q' => p_s b n f (lvl + 1) o q') b n lvl 160 s
/-- a line: its end, its codes (laid from place o of the codes on), whether it counts, what it gives -/
noncomputable def p_ln (b : Nat → Int) (n o q : Nat) : Nat ⊕ (Nat × List Int × ((Nat → Int) → Bool) × ((Nat → Int) → Int)) := match p_s b n 60 0 0 q with
  | .inl e => .inl e
  | .inr (q', c, v) => if p_at b n q' = 63 then (match p_s b n 60 0 0 (q' + 1) with
    | .inl e => .inl e
    | .inr (q2, c2, v2) => .inr (q2, c ++ ((30000 + ((o + c.length + c2.length + 2 : Nat) : Int)) :: (c2 ++ [40000])), fun N => decide (v N ≠ 0), v2)) else .inr (q', c ++ [40000], fun _ => true, v)
noncomputable def p_tx (b : Nat → Int) (n : Nat) : Nat → Nat → Nat → Nat ⊕ (List Int × ((Nat → Int) → Int))
  | 0, _, q => .inl q
  | f + 1, o, q => match p_ln b n o q with
    | .inl e => .inl e
    | .inr (q', c, h, v) => if n ≤ q' then .inr (c, fun N => if h N = true then v N else 0) else if p_at b n q' = 59 then (match p_tx b n f (o + c.length) (q' + 1) with
      | .inl e => .inl e
      | .inr (c2, v2) => .inr (c ++ c2, fun N => if h N = true then v N else v2 N)) else .inl q'
-- the rows' ends
abbrev nG (V : TVw) : Nat := (V 51 8).toNat
abbrev nH (V : TVw) : Nat := (V 51 15).toNat
abbrev nP (V : TVw) : Nat := (V 51 23).toNat
abbrev nC (V : TVw) : Nat := (V 51 41).toNat
abbrev nO (V : TVw) : Nat := (V 51 49).toNat
abbrev nR (V : TVw) : Nat := (V 51 34).toNat
-- what is asked of the rows
def fgm (V : TVw) (p : Nat) : Int := V 59 (V 65 p).toNat
def fatP (V : TVw) (g c : Int) (p : Nat) : Bool := decide (V 69 p = 0 ∧ fgm V p = g ∧ V 66 p = c)
def fat (V : TVw) (g c : Int) : Int := fF (fatP V g c) (nP V) 0
def fst1 (V : TVw) (h : Int) (p : Nat) : Int := if V 65 p = h ∧ V 69 p = 0 then 1 else 0
def fst (V : TVw) (h : Int) : Int := fS (fst1 V h) (nP V)
def fruP (V : TVw) (what t k : Int) (i : Nat) : Bool := decide (V 78 i = what ∧ V 79 i ≤ k ∧ V 80 i ≤ t)
def fru (V : TVw) (what t k : Int) : Int := fL (fruP V what t k) (nR V)
noncomputable def ftx (V : TVw) (r : Nat) : Nat ⊕ (List Int × ((Nat → Int) → Int)) := p_tx (fun i => V 76 (160 * r + i)) (V 77 r).toNat 161 0 0
noncomputable def fev (V : TVw) (r : Nat) (N : Nat → Int) : Int := match ftx V r with
  | .inl _ => 0
  | .inr (_, v) => v N
noncomputable def fgv (V : TVw) (what t k : Int) (N : Nat → Int) (wo : Int) : Int := if fru V what t k < 0 then wo else fev V (fru V what t k).toNat N
def fNp (V : TVw) (p : Nat) (t what to z : Int) (k : Nat) : Int := match k with
  | 0 => t
  | 1 => (p : Int)
  | 2 => V 68 p
  | 3 => V 65 p
  | 4 => V 66 p
  | 5 => what
  | 6 => if what = 1 then to else V 66 p
  | 7 => V 57 (48 * fgm V p + (if what = 1 then to else V 66 p)).toNat
  | 8 => fst V (V 65 p)
  | 9 => z
  | 10 => V 60 (V 65 p).toNat
  | _ => 0
def fNh (t h n w : Int) (k : Nat) : Int := match k with
  | 0 => t
  | 3 => h
  | 8 => n
  | 10 => w
  | _ => 0
noncomputable def fmy (V : TVw) (p : Nat) (what to t : Int) : Bool := decide (fgv V (10 * fgm V p) t (V 51 0) (fNp V p t what to 0) 1 ≠ 0)
def fhl (v m : Int) : Int := if v < 0 then 0 else if m < v then m else v
noncomputable def fsi (V : TVw) (p : Nat) (t : Int) : Int := fhl (fgv V (10 * fgm V p + 2) t (V 51 0) (fNp V p t 0 0 0) 2) 9
noncomputable def ffe (V : TVw) (h : Nat) (t n : Int) : Int := fhl (fgv V (10 * V 59 h + 4) t (V 51 0) (fNh t h n (V 60 h)) 0) 9999
noncomputable def fdr (V : TVw) (p : Nat) (t : Int) : Int := i_rem (i_ushr (w32 (w32 (w32 (w32 (V 52 (fgm V p).toNat + w32 (7919 * t)) + w32 (104729 * (p : Int))) * 1103515245) + 12345)) 8) 100
noncomputable def fti (V : TVw) (p : Nat) (to t : Int) : Int := fgv V (10 * fgm V p + 1) t (V 51 0) (fNp V p t 1 to (fdr V p t)) 0
def flt (V : TVw) (c : Nat) : Bool := decide (0 ≤ V 85 c ∧ V 85 c ≠ V 86 c)
noncomputable def fct (V : TVw) (c : Nat) : Bool := decide (0 ≤ V 85 c ∧ (V 85 c = V 86 c ∨ fgv V (10 * V 59 (V 82 c).toNat + 3) (V 86 c) (V 84 c) (fNh (V 86 c) (V 82 c) 0 0) 1 ≠ 0))
def fwy (a b : Int) : Int := (if a / 6 - b / 6 < 0 then -(a / 6 - b / 6) else a / 6 - b / 6) + (if a % 6 - b % 6 < 0 then -(a % 6 - b % 6) else a % 6 - b % 6)
def fcb (V : TVw) (p : Nat) (what to : Int) : Bool := if what = 1 then decide (fwy (V 66 p) to = 1 ∧ V 58 (48 * fgm V p + to).toNat = 0) else if what = 2 then decide (V 69 to.toNat = 0) else true
noncomputable def ffo (V : TVw) (o : Nat) (t : Int) : Bool :=
  decide (V 87 o ≠ 6 ∧ fct V (V 88 o).toNat = true ∧ (if V 87 o = 3 ∨ V 87 o = 5 then V 85 (V 88 o).toNat ≤ t ∧ t ≤ V 92 o else V 85 (V 88 o).toNat = t)
    ∧ (V 62 (V 82 (V 88 o).toNat).toNat < 0 ∨ t < V 62 (V 82 (V 88 o).toNat).toNat ∨ (if V 81 (V 88 o).toNat = V 82 (V 88 o).toNat then V 87 o = 3 ∧ V 85 (V 88 o).toNat < V 62 (V 82 (V 88 o).toNat).toNat else True)))
noncomputable def fok (V : TVw) (o : Nat) (t : Int) : Bool := ffo V o t && decide (V 69 (V 89 o).toNat = 0) && fcb V (V 89 o).toNat (V 90 o) (V 91 o) && fmy V (V 89 o).toNat (V 90 o) (V 91 o) t
noncomputable def fgd (V : TVw) (o : Nat) (t : Int) : Bool := fok V o t &&
  (if V 87 o = 2 then decide (fat V (fgm V (V 89 o).toNat) (V 92 o) < 0 ↔ V 93 o = 1)
   else if V 87 o = 4 then decide (V 92 o < V 51 49 ∧ V 87 (V 92 o).toNat = 4 ∧ V 92 (V 92 o).toNat = (o : Int)) && fok V (V 92 o).toNat t
   else true)
noncomputable def ford (V : TVw) (p t : Int) : Int := fL (fun o => decide (V 89 o = p) && fgd V o t) (nO V)
