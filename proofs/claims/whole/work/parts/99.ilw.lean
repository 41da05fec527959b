-- the law: its calls, case by case, by wip/whole/gen105.py
def lcs : List (Nat × Nat × Nat × Nat) := [(220, 1, 13, 17), (243, 1, 18, 21), (266, 3, 22, 26), (309, 2, 27, 31), (342, 2, 32, 35), (375, 2, 36, 39), (408, 3, 40, 43), (451, 2, 44, 47), (484, 2, 48, 51), (517, 2, 52, 55), (550, 2, 56, 59), (583, 2, 60, 63), (616, 3, 64, 67), (659, 2, 68, 71), (692, 2, 72, 75), (725, 3, 76, 79), (768, 2, 80, 83), (801, 4, 84, 88), (854, 3, 89, 92), (897, 2, 93, 96), (930, 4, 97, 100), (983, 1, 101, 104), (1006, 1, 105, 108), (1029, 2, 109, 112), (1062, 2, 113, 116), (1095, 2, 117, 120), (1128, 2, 121, 124), (1161, 3, 125, 128), (1204, 0, 129, 133), (1217, 1, 134, 137), (1240, 1, 138, 141), (1263, 2, 142, 145), (1296, 1, 146, 149), (1319, 3, 150, 153), (1362, 1, 154, 157), (1385, 2, 158, 161), (1418, 3, 162, 165), (1461, 4, 168, 172), (1534, 2, 173, 177), (1568, 5, 178, 182), (1631, 2, 183, 186), (1664, 1, 187, 190), (1687, 1, 191, 194)]
def lci (c : Nat) : Nat × Nat × Nat × Nat := (t_nth lcs c).getD (0, 0, 0, 0)
def dq (pc : Nat) (i : Instr) (n : Nat) : Bool := match decode code pc with
  | .ok (j, k) => decide (j = i) && Nat.beq k n
  | _ => false
theorem dq_ok {pc n : Nat} {i : Instr} (h : dq pc i n = true) : decode code pc = .ok (i, n) := by
  unfold dq at h
  split at h
  · next j k hd =>
    simp only [Bool.and_eq_true, decide_eq_true_eq] at h
    rw [hd, h.1, Nat.eq_of_beq_eq_true h.2]
  · cases h
def dargs : Nat → Nat → Nat → Bool
  | 0, _, _ => true
  | n + 1, k, pc => dq pc (.aload_n 0) 1 && dq (pc + 1) (.iload_n 3) 1 && dq (pc + 1 + 1) (.iconst (k : Nat)) 1 && dq (pc + 1 + 1 + 1) .iadd 1 && dq (pc + 1 + 1 + 1 + 1) .iaload 1 && Nat.ble k 5 && dargs n (k + 1) (pc + 5)
def dcase (c : Nat) : Bool := match lci c with
  | (pc, n, i1, i2) => dq pc (.aload_n 1) 1 && dargs n 1 (pc + 1) && dq (pc + 1 + 5 * n) (.invokevirtual i1) 3 && dq (pc + 1 + 5 * n + 3) (.aload_n 2) 1 && dargs n 1 (pc + 1 + 5 * n + 3 + 1) && dq (pc + 1 + 5 * n + 3 + 1 + 5 * n) (.invokevirtual i2) 3 && cond (Nat.beq c 38) (dq (pc + 1 + 5 * n + 3 + 1 + 5 * n + 3) .lcmp 1 && dq (pc + 1 + 5 * n + 3 + 1 + 5 * n + 3 + 1) (.ifCond .eq (1710 - ((pc + 1 + 5 * n + 3 + 1 + 5 * n + 3 + 1 : Nat) : Int))) 3) (dq (pc + 1 + 5 * n + 3 + 1 + 5 * n + 3) (.if_icmp .eq (1710 - ((pc + 1 + 5 * n + 3 + 1 + 5 * n + 3 : Nat) : Int))) 3)
set_option maxRecDepth 100000 in
theorem dcase_all : (List.range 43).all (fun c => Nat.beq c 37 || dcase c) = true := by decide +kernel
def LkF (k idx n cls : Nat) : Prop := ∃ (y : MethodName) (b : ByteArray) (nl : Nat) (ret : Option FieldType), mI k = some (y, b, nl, ret, false) ∧ Cond.methodLink RL idx y ∈ lw_tbl ∧ npl k = true ∧ (y.cls ≠ "java/lang/invoke/MethodHandle" ∧ y.cls ≠ "java/lang/invoke/VarHandle" ∧ (parseMethodDescriptor y.desc).map (fun d => d.parameters.length) = some n) ∧ y.cls = cn cls ∧ nl ≤ 40
theorem lf1 : ∀ c, c < 43 → LkF (lkc c) (lci c).2.2.1 (las c (fun _ => 0) 0).length 11
  | 0, _ => ⟨_, _, _, _, rfl, lw_at_mem (j := 3) (k := 16) rfl, rfl, ⟨by decide, by decide, by decide +kernel⟩, rfl, by decide⟩
  | 1, _ => ⟨_, _, _, _, rfl, lw_at_mem (j := 3) (k := 20) rfl, rfl, ⟨by decide, by decide, by decide +kernel⟩, rfl, by decide⟩
  | 2, _ => ⟨_, _, _, _, rfl, lw_at_mem (j := 3) (k := 24) rfl, rfl, ⟨by decide, by decide, by decide +kernel⟩, rfl, by decide⟩
  | 3, _ => ⟨_, _, _, _, rfl, lw_at_mem (j := 3) (k := 39) rfl, rfl, ⟨by decide, by decide, by decide +kernel⟩, rfl, by decide⟩
  | 4, _ => ⟨_, _, _, _, rfl, lw_at_mem (j := 3) (k := 43) rfl, rfl, ⟨by decide, by decide, by decide +kernel⟩, rfl, by decide⟩
  | 5, _ => ⟨_, _, _, _, rfl, lw_at_mem (j := 3) (k := 52) rfl, rfl, ⟨by decide, by decide, by decide +kernel⟩, rfl, by decide⟩
  | 6, _ => ⟨_, _, _, _, rfl, lw_at_mem (j := 3) (k := 56) rfl, rfl, ⟨by decide, by decide, by decide +kernel⟩, rfl, by decide⟩
  | 7, _ => ⟨_, _, _, _, rfl, lw_at_mem (j := 3) (k := 60) rfl, rfl, ⟨by decide, by decide, by decide +kernel⟩, rfl, by decide⟩
  | 8, _ => ⟨_, _, _, _, rfl, lw_at_mem (j := 3) (k := 68) rfl, rfl, ⟨by decide, by decide, by decide +kernel⟩, rfl, by decide⟩
  | 9, _ => ⟨_, _, _, _, rfl, lw_at_mem (j := 3) (k := 80) rfl, rfl, ⟨by decide, by decide, by decide +kernel⟩, rfl, by decide⟩
  | 10, _ => ⟨_, _, _, _, rfl, lw_at_mem (j := 3) (k := 88) rfl, rfl, ⟨by decide, by decide, by decide +kernel⟩, rfl, by decide⟩
  | 11, _ => ⟨_, _, _, _, rfl, lw_at_mem (j := 3) (k := 96) rfl, rfl, ⟨by decide, by decide, by decide +kernel⟩, rfl, by decide⟩
  | 12, _ => ⟨_, _, _, _, rfl, lw_at_mem (j := 4) (k := 4) rfl, rfl, ⟨by decide, by decide, by decide +kernel⟩, rfl, by decide⟩
  | 13, _ => ⟨_, _, _, _, rfl, lw_at_mem (j := 4) (k := 12) rfl, rfl, ⟨by decide, by decide, by decide +kernel⟩, rfl, by decide⟩
  | 14, _ => ⟨_, _, _, _, rfl, lw_at_mem (j := 4) (k := 46) rfl, rfl, ⟨by decide, by decide, by decide +kernel⟩, rfl, by decide⟩
  | 15, _ => ⟨_, _, _, _, rfl, lw_at_mem (j := 4) (k := 56) rfl, rfl, ⟨by decide, by decide, by decide +kernel⟩, rfl, by decide⟩
  | 16, _ => ⟨_, _, _, _, rfl, lw_at_mem (j := 4) (k := 65) rfl, rfl, ⟨by decide, by decide, by decide +kernel⟩, rfl, by decide⟩
  | 17, _ => ⟨_, _, _, _, rfl, lw_at_mem (j := 4) (k := 81) rfl, rfl, ⟨by decide, by decide, by decide +kernel⟩, rfl, by decide⟩
  | 18, _ => ⟨_, _, _, _, rfl, lw_at_mem (j := 4) (k := 93) rfl, rfl, ⟨by decide, by decide, by decide +kernel⟩, rfl, by decide⟩
  | 19, _ => ⟨_, _, _, _, rfl, lw_at_mem (j := 4) (k := 100) rfl, rfl, ⟨by decide, by decide, by decide +kernel⟩, rfl, by decide⟩
  | 20, _ => ⟨_, _, _, _, rfl, lw_at_mem (j := 4) (k := 108) rfl, rfl, ⟨by decide, by decide, by decide +kernel⟩, rfl, by decide⟩
  | 21, _ => ⟨_, _, _, _, rfl, lw_at_mem (j := 4) (k := 129) rfl, rfl, ⟨by decide, by decide, by decide +kernel⟩, rfl, by decide⟩
  | 22, _ => ⟨_, _, _, _, rfl, lw_at_mem (j := 4) (k := 149) rfl, rfl, ⟨by decide, by decide, by decide +kernel⟩, rfl, by decide⟩
  | 23, _ => ⟨_, _, _, _, rfl, lw_at_mem (j := 4) (k := 233) rfl, rfl, ⟨by decide, by decide, by decide +kernel⟩, rfl, by decide⟩
  | 24, _ => ⟨_, _, _, _, rfl, lw_at_mem (j := 5) (k := 5) rfl, rfl, ⟨by decide, by decide, by decide +kernel⟩, rfl, by decide⟩
  | 25, _ => ⟨_, _, _, _, rfl, lw_at_mem (j := 5) (k := 9) rfl, rfl, ⟨by decide, by decide, by decide +kernel⟩, rfl, by decide⟩
  | 26, _ => ⟨_, _, _, _, rfl, lw_at_mem (j := 5) (k := 17) rfl, rfl, ⟨by decide, by decide, by decide +kernel⟩, rfl, by decide⟩
  | 27, _ => ⟨_, _, _, _, rfl, lw_at_mem (j := 5) (k := 27) rfl, rfl, ⟨by decide, by decide, by decide +kernel⟩, rfl, by decide⟩
  | 28, _ => ⟨_, _, _, _, rfl, lw_at_mem (j := 5) (k := 39) rfl, rfl, ⟨by decide, by decide, by decide +kernel⟩, rfl, by decide⟩
  | 29, _ => ⟨_, _, _, _, rfl, lw_at_mem (j := 5) (k := 68) rfl, rfl, ⟨by decide, by decide, by decide +kernel⟩, rfl, by decide⟩
  | 30, _ => ⟨_, _, _, _, rfl, lw_at_mem (j := 5) (k := 72) rfl, rfl, ⟨by decide, by decide, by decide +kernel⟩, rfl, by decide⟩
  | 31, _ => ⟨_, _, _, _, rfl, lw_at_mem (j := 5) (k := 80) rfl, rfl, ⟨by decide, by decide, by decide +kernel⟩, rfl, by decide⟩
  | 32, _ => ⟨_, _, _, _, rfl, lw_at_mem (j := 5) (k := 85) rfl, rfl, ⟨by decide, by decide, by decide +kernel⟩, rfl, by decide⟩
  | 33, _ => ⟨_, _, _, _, rfl, lw_at_mem (j := 5) (k := 89) rfl, rfl, ⟨by decide, by decide, by decide +kernel⟩, rfl, by decide⟩
  | 34, _ => ⟨_, _, _, _, rfl, lw_at_mem (j := 5) (k := 125) rfl, rfl, ⟨by decide, by decide, by decide +kernel⟩, rfl, by decide⟩
  | 35, _ => ⟨_, _, _, _, rfl, lw_at_mem (j := 5) (k := 129) rfl, rfl, ⟨by decide, by decide, by decide +kernel⟩, rfl, by decide⟩
  | 36, _ => ⟨_, _, _, _, rfl, lw_at_mem (j := 5) (k := 133) rfl, rfl, ⟨by decide, by decide, by decide +kernel⟩, rfl, by decide⟩
  | 37, _ => ⟨_, _, _, _, rfl, lw_at_mem (j := 5) (k := 141) rfl, rfl, ⟨by decide, by decide, by decide +kernel⟩, rfl, by decide⟩
  | 38, _ => ⟨_, _, _, _, rfl, lw_at_mem (j := 5) (k := 157) rfl, rfl, ⟨by decide, by decide, by decide +kernel⟩, rfl, by decide⟩
  | 39, _ => ⟨_, _, _, _, rfl, lw_at_mem (j := 5) (k := 162) rfl, rfl, ⟨by decide, by decide, by decide +kernel⟩, rfl, by decide⟩
  | 40, _ => ⟨_, _, _, _, rfl, lw_at_mem (j := 5) (k := 174) rfl, rfl, ⟨by decide, by decide, by decide +kernel⟩, rfl, by decide⟩
  | 41, _ => ⟨_, _, _, _, rfl, lw_at_mem (j := 5) (k := 181) rfl, rfl, ⟨by decide, by decide, by decide +kernel⟩, rfl, by decide⟩
  | 42, _ => ⟨_, _, _, _, rfl, lw_at_mem (j := 5) (k := 189) rfl, rfl, ⟨by decide, by decide, by decide +kernel⟩, rfl, by decide⟩
  | c + 43, h => absurd h (by omega)
theorem lf2 : ∀ c, c < 43 → LkF (lkr c) (lci c).2.2.2 (las c (fun _ => 0) 0).length 12
  | 0, _ => ⟨_, _, _, _, rfl, lw_at_mem (j := 6) (k := 222) rfl, rfl, ⟨by decide, by decide, by decide +kernel⟩, rfl, by decide⟩
  | 1, _ => ⟨_, _, _, _, rfl, lw_at_mem (j := 6) (k := 230) rfl, rfl, ⟨by decide, by decide, by decide +kernel⟩, rfl, by decide⟩
  | 2, _ => ⟨_, _, _, _, rfl, lw_at_mem (j := 6) (k := 234) rfl, rfl, ⟨by decide, by decide, by decide +kernel⟩, rfl, by decide⟩
  | 3, _ => ⟨_, _, _, _, rfl, lw_at_mem (j := 7) (k := 15) rfl, rfl, ⟨by decide, by decide, by decide +kernel⟩, rfl, by decide⟩
  | 4, _ => ⟨_, _, _, _, rfl, lw_at_mem (j := 7) (k := 20) rfl, rfl, ⟨by decide, by decide, by decide +kernel⟩, rfl, by decide⟩
  | 5, _ => ⟨_, _, _, _, rfl, lw_at_mem (j := 7) (k := 29) rfl, rfl, ⟨by decide, by decide, by decide +kernel⟩, rfl, by decide⟩
  | 6, _ => ⟨_, _, _, _, rfl, lw_at_mem (j := 7) (k := 33) rfl, rfl, ⟨by decide, by decide, by decide +kernel⟩, rfl, by decide⟩
  | 7, _ => ⟨_, _, _, _, rfl, lw_at_mem (j := 7) (k := 37) rfl, rfl, ⟨by decide, by decide, by decide +kernel⟩, rfl, by decide⟩
  | 8, _ => ⟨_, _, _, _, rfl, lw_at_mem (j := 7) (k := 45) rfl, rfl, ⟨by decide, by decide, by decide +kernel⟩, rfl, by decide⟩
  | 9, _ => ⟨_, _, _, _, rfl, lw_at_mem (j := 7) (k := 57) rfl, rfl, ⟨by decide, by decide, by decide +kernel⟩, rfl, by decide⟩
  | 10, _ => ⟨_, _, _, _, rfl, lw_at_mem (j := 7) (k := 65) rfl, rfl, ⟨by decide, by decide, by decide +kernel⟩, rfl, by decide⟩
  | 11, _ => ⟨_, _, _, _, rfl, lw_at_mem (j := 7) (k := 70) rfl, rfl, ⟨by decide, by decide, by decide +kernel⟩, rfl, by decide⟩
  | 12, _ => ⟨_, _, _, _, rfl, lw_at_mem (j := 7) (k := 125) rfl, rfl, ⟨by decide, by decide, by decide +kernel⟩, rfl, by decide⟩
  | 13, _ => ⟨_, _, _, _, rfl, lw_at_mem (j := 7) (k := 134) rfl, rfl, ⟨by decide, by decide, by decide +kernel⟩, rfl, by decide⟩
  | 14, _ => ⟨_, _, _, _, rfl, lw_at_mem (j := 7) (k := 161) rfl, rfl, ⟨by decide, by decide, by decide +kernel⟩, rfl, by decide⟩
  | 15, _ => ⟨_, _, _, _, rfl, lw_at_mem (j := 7) (k := 171) rfl, rfl, ⟨by decide, by decide, by decide +kernel⟩, rfl, by decide⟩
  | 16, _ => ⟨_, _, _, _, rfl, lw_at_mem (j := 7) (k := 175) rfl, rfl, ⟨by decide, by decide, by decide +kernel⟩, rfl, by decide⟩
  | 17, _ => ⟨_, _, _, _, rfl, lw_at_mem (j := 7) (k := 191) rfl, rfl, ⟨by decide, by decide, by decide +kernel⟩, rfl, by decide⟩
  | 18, _ => ⟨_, _, _, _, rfl, lw_at_mem (j := 7) (k := 204) rfl, rfl, ⟨by decide, by decide, by decide +kernel⟩, rfl, by decide⟩
  | 19, _ => ⟨_, _, _, _, rfl, lw_at_mem (j := 7) (k := 209) rfl, rfl, ⟨by decide, by decide, by decide +kernel⟩, rfl, by decide⟩
  | 20, _ => ⟨_, _, _, _, rfl, lw_at_mem (j := 7) (k := 217) rfl, rfl, ⟨by decide, by decide, by decide +kernel⟩, rfl, by decide⟩
  | 21, _ => ⟨_, _, _, _, rfl, lw_at_mem (j := 8) (k := 0) rfl, rfl, ⟨by decide, by decide, by decide +kernel⟩, rfl, by decide⟩
  | 22, _ => ⟨_, _, _, _, rfl, lw_at_mem (j := 8) (k := 20) rfl, rfl, ⟨by decide, by decide, by decide +kernel⟩, rfl, by decide⟩
  | 23, _ => ⟨_, _, _, _, rfl, lw_at_mem (j := 8) (k := 56) rfl, rfl, ⟨by decide, by decide, by decide +kernel⟩, rfl, by decide⟩
  | 24, _ => ⟨_, _, _, _, rfl, lw_at_mem (j := 8) (k := 64) rfl, rfl, ⟨by decide, by decide, by decide +kernel⟩, rfl, by decide⟩
  | 25, _ => ⟨_, _, _, _, rfl, lw_at_mem (j := 8) (k := 68) rfl, rfl, ⟨by decide, by decide, by decide +kernel⟩, rfl, by decide⟩
  | 26, _ => ⟨_, _, _, _, rfl, lw_at_mem (j := 8) (k := 76) rfl, rfl, ⟨by decide, by decide, by decide +kernel⟩, rfl, by decide⟩
  | 27, _ => ⟨_, _, _, _, rfl, lw_at_mem (j := 8) (k := 80) rfl, rfl, ⟨by decide, by decide, by decide +kernel⟩, rfl, by decide⟩
  | 28, _ => ⟨_, _, _, _, rfl, lw_at_mem (j := 8) (k := 84) rfl, rfl, ⟨by decide, by decide, by decide +kernel⟩, rfl, by decide⟩
  | 29, _ => ⟨_, _, _, _, rfl, lw_at_mem (j := 8) (k := 100) rfl, rfl, ⟨by decide, by decide, by decide +kernel⟩, rfl, by decide⟩
  | 30, _ => ⟨_, _, _, _, rfl, lw_at_mem (j := 8) (k := 104) rfl, rfl, ⟨by decide, by decide, by decide +kernel⟩, rfl, by decide⟩
  | 31, _ => ⟨_, _, _, _, rfl, lw_at_mem (j := 8) (k := 108) rfl, rfl, ⟨by decide, by decide, by decide +kernel⟩, rfl, by decide⟩
  | 32, _ => ⟨_, _, _, _, rfl, lw_at_mem (j := 8) (k := 113) rfl, rfl, ⟨by decide, by decide, by decide +kernel⟩, rfl, by decide⟩
  | 33, _ => ⟨_, _, _, _, rfl, lw_at_mem (j := 8) (k := 117) rfl, rfl, ⟨by decide, by decide, by decide +kernel⟩, rfl, by decide⟩
  | 34, _ => ⟨_, _, _, _, rfl, lw_at_mem (j := 8) (k := 145) rfl, rfl, ⟨by decide, by decide, by decide +kernel⟩, rfl, by decide⟩
  | 35, _ => ⟨_, _, _, _, rfl, lw_at_mem (j := 8) (k := 149) rfl, rfl, ⟨by decide, by decide, by decide +kernel⟩, rfl, by decide⟩
  | 36, _ => ⟨_, _, _, _, rfl, lw_at_mem (j := 8) (k := 153) rfl, rfl, ⟨by decide, by decide, by decide +kernel⟩, rfl, by decide⟩
  | 37, _ => ⟨_, _, _, _, rfl, lw_at_mem (j := 8) (k := 157) rfl, rfl, ⟨by decide, by decide, by decide +kernel⟩, rfl, by decide⟩
  | 38, _ => ⟨_, _, _, _, rfl, lw_at_mem (j := 8) (k := 168) rfl, rfl, ⟨by decide, by decide, by decide +kernel⟩, rfl, by decide⟩
  | 39, _ => ⟨_, _, _, _, rfl, lw_at_mem (j := 8) (k := 173) rfl, rfl, ⟨by decide, by decide, by decide +kernel⟩, rfl, by decide⟩
  | 40, _ => ⟨_, _, _, _, rfl, lw_at_mem (j := 8) (k := 177) rfl, rfl, ⟨by decide, by decide, by decide +kernel⟩, rfl, by decide⟩
  | 41, _ => ⟨_, _, _, _, rfl, lw_at_mem (j := 8) (k := 182) rfl, rfl, ⟨by decide, by decide, by decide +kernel⟩, rfl, by decide⟩
  | 42, _ => ⟨_, _, _, _, rfl, lw_at_mem (j := 8) (k := 186) rfl, rfl, ⟨by decide, by decide, by decide +kernel⟩, rfl, by decide⟩
  | c + 43, h => absurd h (by omega)
def lav (xs : Nat → Int32) (i : Nat) : Nat → Nat → List Value
  | 0, _ => []
  | n + 1, k => .int (xs (i + k)) :: lav xs i n (k + 1)
theorem las_lav {ad : Nat → Nat → Nat} {xs : Nat → Int32} {i : Nat} {l : Int} : ∀ c, c < 43 → c ≠ 37 → (las c (fun k => (xs (i + k)).toInt) l).map (t_cv ad) = lav xs i (lci c).2.1 1
  | 0, _, _ => by simp only [las, List.map_cons, List.map_nil, t_cv, Int32.ofInt_toInt]; rfl
  | 1, _, _ => by simp only [las, List.map_cons, List.map_nil, t_cv, Int32.ofInt_toInt]; rfl
  | 2, _, _ => by simp only [las, List.map_cons, List.map_nil, t_cv, Int32.ofInt_toInt]; rfl
  | 3, _, _ => by simp only [las, List.map_cons, List.map_nil, t_cv, Int32.ofInt_toInt]; rfl
  | 4, _, _ => by simp only [las, List.map_cons, List.map_nil, t_cv, Int32.ofInt_toInt]; rfl
  | 5, _, _ => by simp only [las, List.map_cons, List.map_nil, t_cv, Int32.ofInt_toInt]; rfl
  | 6, _, _ => by simp only [las, List.map_cons, List.map_nil, t_cv, Int32.ofInt_toInt]; rfl
  | 7, _, _ => by simp only [las, List.map_cons, List.map_nil, t_cv, Int32.ofInt_toInt]; rfl
  | 8, _, _ => by simp only [las, List.map_cons, List.map_nil, t_cv, Int32.ofInt_toInt]; rfl
  | 9, _, _ => by simp only [las, List.map_cons, List.map_nil, t_cv, Int32.ofInt_toInt]; rfl
  | 10, _, _ => by simp only [las, List.map_cons, List.map_nil, t_cv, Int32.ofInt_toInt]; rfl
  | 11, _, _ => by simp only [las, List.map_cons, List.map_nil, t_cv, Int32.ofInt_toInt]; rfl
  | 12, _, _ => by simp only [las, List.map_cons, List.map_nil, t_cv, Int32.ofInt_toInt]; rfl
  | 13, _, _ => by simp only [las, List.map_cons, List.map_nil, t_cv, Int32.ofInt_toInt]; rfl
  | 14, _, _ => by simp only [las, List.map_cons, List.map_nil, t_cv, Int32.ofInt_toInt]; rfl
  | 15, _, _ => by simp only [las, List.map_cons, List.map_nil, t_cv, Int32.ofInt_toInt]; rfl
  | 16, _, _ => by simp only [las, List.map_cons, List.map_nil, t_cv, Int32.ofInt_toInt]; rfl
  | 17, _, _ => by simp only [las, List.map_cons, List.map_nil, t_cv, Int32.ofInt_toInt]; rfl
  | 18, _, _ => by simp only [las, List.map_cons, List.map_nil, t_cv, Int32.ofInt_toInt]; rfl
  | 19, _, _ => by simp only [las, List.map_cons, List.map_nil, t_cv, Int32.ofInt_toInt]; rfl
  | 20, _, _ => by simp only [las, List.map_cons, List.map_nil, t_cv, Int32.ofInt_toInt]; rfl
  | 21, _, _ => by simp only [las, List.map_cons, List.map_nil, t_cv, Int32.ofInt_toInt]; rfl
  | 22, _, _ => by simp only [las, List.map_cons, List.map_nil, t_cv, Int32.ofInt_toInt]; rfl
  | 23, _, _ => by simp only [las, List.map_cons, List.map_nil, t_cv, Int32.ofInt_toInt]; rfl
  | 24, _, _ => by simp only [las, List.map_cons, List.map_nil, t_cv, Int32.ofInt_toInt]; rfl
  | 25, _, _ => by simp only [las, List.map_cons, List.map_nil, t_cv, Int32.ofInt_toInt]; rfl
  | 26, _, _ => by simp only [las, List.map_cons, List.map_nil, t_cv, Int32.ofInt_toInt]; rfl
  | 27, _, _ => by simp only [las, List.map_cons, List.map_nil, t_cv, Int32.ofInt_toInt]; rfl
  | 28, _, _ => by simp only [las, List.map_cons, List.map_nil, t_cv, Int32.ofInt_toInt]; rfl
  | 29, _, _ => by simp only [las, List.map_cons, List.map_nil, t_cv, Int32.ofInt_toInt]; rfl
  | 30, _, _ => by simp only [las, List.map_cons, List.map_nil, t_cv, Int32.ofInt_toInt]; rfl
  | 31, _, _ => by simp only [las, List.map_cons, List.map_nil, t_cv, Int32.ofInt_toInt]; rfl
  | 32, _, _ => by simp only [las, List.map_cons, List.map_nil, t_cv, Int32.ofInt_toInt]; rfl
  | 33, _, _ => by simp only [las, List.map_cons, List.map_nil, t_cv, Int32.ofInt_toInt]; rfl
  | 34, _, _ => by simp only [las, List.map_cons, List.map_nil, t_cv, Int32.ofInt_toInt]; rfl
  | 35, _, _ => by simp only [las, List.map_cons, List.map_nil, t_cv, Int32.ofInt_toInt]; rfl
  | 36, _, _ => by simp only [las, List.map_cons, List.map_nil, t_cv, Int32.ofInt_toInt]; rfl
  | 37, _, h => absurd rfl h
  | 38, _, _ => by simp only [las, List.map_cons, List.map_nil, t_cv, Int32.ofInt_toInt]; rfl
  | 39, _, _ => by simp only [las, List.map_cons, List.map_nil, t_cv, Int32.ofInt_toInt]; rfl
  | 40, _, _ => by simp only [las, List.map_cons, List.map_nil, t_cv, Int32.ofInt_toInt]; rfl
  | 41, _, _ => by simp only [las, List.map_cons, List.map_nil, t_cv, Int32.ofInt_toInt]; rfl
  | 42, _, _ => by simp only [las, List.map_cons, List.map_nil, t_cv, Int32.ofInt_toInt]; rfl
  | c + 43, h, _ => absurd h (by omega)
theorem las_len {s1 s2 : Nat → Int} {l1 l2 : Int} : ∀ c, c < 43 → (las c s1 l1).length = (las c s2 l2).length
  | 0, _ => rfl
  | 1, _ => rfl
  | 2, _ => rfl
  | 3, _ => rfl
  | 4, _ => rfl
  | 5, _ => rfl
  | 6, _ => rfl
  | 7, _ => rfl
  | 8, _ => rfl
  | 9, _ => rfl
  | 10, _ => rfl
  | 11, _ => rfl
  | 12, _ => rfl
  | 13, _ => rfl
  | 14, _ => rfl
  | 15, _ => rfl
  | 16, _ => rfl
  | 17, _ => rfl
  | 18, _ => rfl
  | 19, _ => rfl
  | 20, _ => rfl
  | 21, _ => rfl
  | 22, _ => rfl
  | 23, _ => rfl
  | 24, _ => rfl
  | 25, _ => rfl
  | 26, _ => rfl
  | 27, _ => rfl
  | 28, _ => rfl
  | 29, _ => rfl
  | 30, _ => rfl
  | 31, _ => rfl
  | 32, _ => rfl
  | 33, _ => rfl
  | 34, _ => rfl
  | 35, _ => rfl
  | 36, _ => rfl
  | 37, _ => rfl
  | 38, _ => rfl
  | 39, _ => rfl
  | 40, _ => rfl
  | 41, _ => rfl
  | 42, _ => rfl
  | c + 43, h => absurd h (by omega)
theorem las_ok {hs : List (Nat × Nat)} {s1 : Nat → Int} {l1 : Int} (h1 : ∀ k, R32 (s1 k)) (h2 : R64 l1) : ∀ c, c < 43 → ∀ v ∈ las c s1 l1, OkV hs v
  | 0, _, v, hv => by
    simp only [las, List.mem_cons, List.not_mem_nil, or_false] at hv
    subst hv
    exact h1 1
  | 1, _, v, hv => by
    simp only [las, List.mem_cons, List.not_mem_nil, or_false] at hv
    subst hv
    exact h1 1
  | 2, _, v, hv => by
    simp only [las, List.mem_cons, List.not_mem_nil, or_false] at hv
    rcases hv with rfl | rfl | rfl
    · exact h1 1
    · exact h1 2
    · exact h1 3
  | 3, _, v, hv => by
    simp only [las, List.mem_cons, List.not_mem_nil, or_false] at hv
    rcases hv with rfl | rfl
    · exact h1 1
    · exact h1 2
  | 4, _, v, hv => by
    simp only [las, List.mem_cons, List.not_mem_nil, or_false] at hv
    rcases hv with rfl | rfl
    · exact h1 1
    · exact h1 2
  | 5, _, v, hv => by
    simp only [las, List.mem_cons, List.not_mem_nil, or_false] at hv
    rcases hv with rfl | rfl
    · exact h1 1
    · exact h1 2
  | 6, _, v, hv => by
    simp only [las, List.mem_cons, List.not_mem_nil, or_false] at hv
    rcases hv with rfl | rfl | rfl
    · exact h1 1
    · exact h1 2
    · exact h1 3
  | 7, _, v, hv => by
    simp only [las, List.mem_cons, List.not_mem_nil, or_false] at hv
    rcases hv with rfl | rfl
    · exact h1 1
    · exact h1 2
  | 8, _, v, hv => by
    simp only [las, List.mem_cons, List.not_mem_nil, or_false] at hv
    rcases hv with rfl | rfl
    · exact h1 1
    · exact h1 2
  | 9, _, v, hv => by
    simp only [las, List.mem_cons, List.not_mem_nil, or_false] at hv
    rcases hv with rfl | rfl
    · exact h1 1
    · exact h1 2
  | 10, _, v, hv => by
    simp only [las, List.mem_cons, List.not_mem_nil, or_false] at hv
    rcases hv with rfl | rfl
    · exact h1 1
    · exact h1 2
  | 11, _, v, hv => by
    simp only [las, List.mem_cons, List.not_mem_nil, or_false] at hv
    rcases hv with rfl | rfl
    · exact h1 1
    · exact h1 2
  | 12, _, v, hv => by
    simp only [las, List.mem_cons, List.not_mem_nil, or_false] at hv
    rcases hv with rfl | rfl | rfl
    · exact h1 1
    · exact h1 2
    · exact h1 3
  | 13, _, v, hv => by
    simp only [las, List.mem_cons, List.not_mem_nil, or_false] at hv
    rcases hv with rfl | rfl
    · exact h1 1
    · exact h1 2
  | 14, _, v, hv => by
    simp only [las, List.mem_cons, List.not_mem_nil, or_false] at hv
    rcases hv with rfl | rfl
    · exact h1 1
    · exact h1 2
  | 15, _, v, hv => by
    simp only [las, List.mem_cons, List.not_mem_nil, or_false] at hv
    rcases hv with rfl | rfl | rfl
    · exact h1 1
    · exact h1 2
    · exact h1 3
  | 16, _, v, hv => by
    simp only [las, List.mem_cons, List.not_mem_nil, or_false] at hv
    rcases hv with rfl | rfl
    · exact h1 1
    · exact h1 2
  | 17, _, v, hv => by
    simp only [las, List.mem_cons, List.not_mem_nil, or_false] at hv
    rcases hv with rfl | rfl | rfl | rfl
    · exact h1 1
    · exact h1 2
    · exact h1 3
    · exact h1 4
  | 18, _, v, hv => by
    simp only [las, List.mem_cons, List.not_mem_nil, or_false] at hv
    rcases hv with rfl | rfl | rfl
    · exact h1 1
    · exact h1 2
    · exact h1 3
  | 19, _, v, hv => by
    simp only [las, List.mem_cons, List.not_mem_nil, or_false] at hv
    rcases hv with rfl | rfl
    · exact h1 1
    · exact h1 2
  | 20, _, v, hv => by
    simp only [las, List.mem_cons, List.not_mem_nil, or_false] at hv
    rcases hv with rfl | rfl | rfl | rfl
    · exact h1 1
    · exact h1 2
    · exact h1 3
    · exact h1 4
  | 21, _, v, hv => by
    simp only [las, List.mem_cons, List.not_mem_nil, or_false] at hv
    subst hv
    exact h1 1
  | 22, _, v, hv => by
    simp only [las, List.mem_cons, List.not_mem_nil, or_false] at hv
    subst hv
    exact h1 1
  | 23, _, v, hv => by
    simp only [las, List.mem_cons, List.not_mem_nil, or_false] at hv
    rcases hv with rfl | rfl
    · exact h1 1
    · exact h1 2
  | 24, _, v, hv => by
    simp only [las, List.mem_cons, List.not_mem_nil, or_false] at hv
    rcases hv with rfl | rfl
    · exact h1 1
    · exact h1 2
  | 25, _, v, hv => by
    simp only [las, List.mem_cons, List.not_mem_nil, or_false] at hv
    rcases hv with rfl | rfl
    · exact h1 1
    · exact h1 2
  | 26, _, v, hv => by
    simp only [las, List.mem_cons, List.not_mem_nil, or_false] at hv
    rcases hv with rfl | rfl
    · exact h1 1
    · exact h1 2
  | 27, _, v, hv => by
    simp only [las, List.mem_cons, List.not_mem_nil, or_false] at hv
    rcases hv with rfl | rfl | rfl
    · exact h1 1
    · exact h1 2
    · exact h1 3
  | 28, _, v, hv => by cases hv
  | 29, _, v, hv => by
    simp only [las, List.mem_cons, List.not_mem_nil, or_false] at hv
    subst hv
    exact h1 1
  | 30, _, v, hv => by
    simp only [las, List.mem_cons, List.not_mem_nil, or_false] at hv
    subst hv
    exact h1 1
  | 31, _, v, hv => by
    simp only [las, List.mem_cons, List.not_mem_nil, or_false] at hv
    rcases hv with rfl | rfl
    · exact h1 1
    · exact h1 2
  | 32, _, v, hv => by
    simp only [las, List.mem_cons, List.not_mem_nil, or_false] at hv
    subst hv
    exact h1 1
  | 33, _, v, hv => by
    simp only [las, List.mem_cons, List.not_mem_nil, or_false] at hv
    rcases hv with rfl | rfl | rfl
    · exact h1 1
    · exact h1 2
    · exact h1 3
  | 34, _, v, hv => by
    simp only [las, List.mem_cons, List.not_mem_nil, or_false] at hv
    subst hv
    exact h1 1
  | 35, _, v, hv => by
    simp only [las, List.mem_cons, List.not_mem_nil, or_false] at hv
    rcases hv with rfl | rfl
    · exact h1 1
    · exact h1 2
  | 36, _, v, hv => by
    simp only [las, List.mem_cons, List.not_mem_nil, or_false] at hv
    rcases hv with rfl | rfl | rfl
    · exact h1 1
    · exact h1 2
    · exact h1 3
  | 37, _, v, hv => by
    simp only [las, List.mem_cons, List.not_mem_nil, or_false] at hv
    rcases hv with rfl | rfl | rfl
    · exact h1 1
    · exact h1 2
    · exact h2
  | 38, _, v, hv => by
    simp only [las, List.mem_cons, List.not_mem_nil, or_false] at hv
    rcases hv with rfl | rfl
    · exact h1 1
    · exact h1 2
  | 39, _, v, hv => by
    simp only [las, List.mem_cons, List.not_mem_nil, or_false] at hv
    rcases hv with rfl | rfl | rfl | rfl | rfl
    · exact h1 1
    · exact h1 2
    · exact h1 3
    · exact h1 4
    · exact h1 5
  | 40, _, v, hv => by
    simp only [las, List.mem_cons, List.not_mem_nil, or_false] at hv
    rcases hv with rfl | rfl
    · exact h1 1
    · exact h1 2
  | 41, _, v, hv => by
    simp only [las, List.mem_cons, List.not_mem_nil, or_false] at hv
    subst hv
    exact h1 1
  | 42, _, v, hv => by
    simp only [las, List.mem_cons, List.not_mem_nil, or_false] at hv
    subst hv
    exact h1 1
  | c + 43, h, _, _ => absurd h (by omega)
/-- the picture, behind the making -/
def LWd (D : va_G) (A : Nat → Prop) (H0 : Heap) (ad : Nat → Nat → Nat) (ca : Nat → ClassId) (σ : TM) (H : Heap) (locs : List Loc) : Prop := va_P D vwCl (wsl zhs ad ca σ) H ∧ va_D A (wsl zhs ad ca σ) ∧ va_S A H0 H locs ∧ OkM σ
/-- where the law stands -/
def Lc (p : Program) (s : State) (m : MethodId) (args : Array Value) (c : Code) (D : va_G) (ad : Nat → Nat → Nat) (ca : Nat → ClassId) (A : Nat → Prop) (b L : Nat) (xs : Nat → Int32) : Prop := p.tables.exec = Jvm.exec ∧ c.code = code ∧ c.maxLocals = 4 ∧ HT args s ∧ s.vm.findClass RL = some m.cls ∧ va_K D vwCl (tyl ca) s ∧ SX ad A s s.heap ∧ (∀ q, s.heap.size ≤ q → A q) ∧ va_X b L xs s s.heap ∧ b < s.heap.size ∧ ¬ A b ∧ L ≤ 3072
section LAW
variable {p : Program} {l : Launch} {e : Env} {R : Room} {s : State} {m : MethodId} {args : Array Value} {below : List Frame} {meth : Method} {c : Code} {cells slots : Nat}
variable {D : va_G} {ad : Nat → Nat → Nat} {ca : Nat → ClassId} {A : Nat → Prop} {Q : State → Prop} {pc b L i : Nat} {xs : Nat → Int32} {ls : Array Slot} {st : List Value} {H : Heap} {locs : List Loc}
theorem l_ic {k : Nat} (h : k ≤ 5) : Int32.ofInt ((k : Nat) : Int) = nI k := by
  match k, h with
  | 0, _ => decide +kernel
  | 1, _ => decide +kernel
  | 2, _ => decide +kernel
  | 3, _ => decide +kernel
  | 4, _ => decide +kernel
  | 5, _ => decide +kernel
  | k + 6, h => omega
/-- one number of the script, pushed -/
theorem l_arg {k : Nat} (Z : Lc p s m args c D ad ca A b L xs) (h0 : ls[0]? = some (.val (.ref b))) (h3 : ls[3]? = some (.val (.int (nI i)))) (hi : i + 6 ≤ L) (hk : k ≤ 5) (d0 : decode code pc = .ok (.aload_n 0, 1)) (d1 : decode code (pc + 1) = .ok (.iload_n 3, 1)) (d2 : decode code (pc + 1 + 1) = .ok (.iconst (k : Nat), 1)) (d3 : decode code (pc + 1 + 1 + 1) = .ok (.iadd, 1)) (d4 : decode code (pc + 1 + 1 + 1 + 1) = .ok (.iaload, 1)) (hS : va_S A s.heap H locs)
    (kk : W p l e R s m args below meth c H locs cells slots Q (F0 m (pc + 5) ls (.int (xs (i + k)) :: st))) : W p l e R s m args below meth c H locs cells slots Q (F0 m pc ls st) := by
  obtain ⟨hx, hb, hml, ht, hown, hKt, hX, hA, hXs, hbl, hbA, hL⟩ := Z
  refine lv_aload_n hx hb d0 rfl h0 ?_
  refine lv_iload_n hx hb d1 rfl h3 ?_
  refine lv_iconst (v := nI k) hx hb d2 (l_ic hk) ?_
  refine lv_iadd hx hb d3 ?_
  rw [nI_add]
  refine va_sld hx hb hXs hbl hbA hS (vp_in_nI (by omega) (by omega)) d4 ?_
  rw [nI_clamp (by omega)]
  exact kk
theorem l_args (Z : Lc p s m args c D ad ca A b L xs) (h0 : ls[0]? = some (.val (.ref b))) (h3 : ls[3]? = some (.val (.int (nI i)))) (hi : i + 6 ≤ L) (hS : va_S A s.heap H locs) : ∀ (n k pc : Nat) (st : List Value), dargs n k pc = true → W p l e R s m args below meth c H locs cells slots Q (F0 m (pc + 5 * n) ls ((lav xs i n k).reverse ++ st)) → W p l e R s m args below meth c H locs cells slots Q (F0 m pc ls st)
  | 0, k, pc, st, _, h => h
  | n + 1, k, pc, st, hd, h => by
    unfold dargs at hd
    simp only [Bool.and_eq_true] at hd
    obtain ⟨⟨⟨⟨⟨⟨d0, d1⟩, d2⟩, d3⟩, d4⟩, hk⟩, hd⟩ := hd
    refine l_arg Z h0 h3 hi (Nat.le_of_ble_eq_true hk) (dq_ok d0) (dq_ok d1) (dq_ok d2) (dq_ok d3) (dq_ok d4) hS ?_
    refine l_args Z h0 h3 hi hS n (k + 1) (pc + 5) _ hd ?_
    rw [show pc + 5 + 5 * n = pc + 5 * (n + 1) by omega]
    have e : (lav xs i n (k + 1)).reverse ++ (.int (xs (i + k)) :: st) = (lav xs i (n + 1) k).reverse ++ st := by
      show _ = (Value.int (xs (i + k)) :: lav xs i n (k + 1)).reverse ++ st
      rw [List.reverse_cons, List.append_assoc]
      rfl
    rw [e]
    exact h
theorem l_call {k idx n cls kk d : Nat} {as : List TV} {r : TV} {σ σ' : TM} {rest : List Value} (Z : Lc p s m args c D ad ca A b L xs) (hC : HC zhs) (hF : LkF k idx n cls) (hrun : t_run tbl mtb d k (vh kk 0 :: as) σ = some (some r, σ')) (hr : (∃ x, r = vi x) ∨ ∃ x, r = vj x) (hlen : as.length = n) (hok : ∀ v ∈ as, OkV zhs v) (hkk : (kk, 0) ∈ zhs) (hcl : t_cls tbl kk = some cls) (h12 : cls ≤ 12) (hls : ls.size = 4) (hcat : (rest.map fun v => v.category).sum ≤ 8) (hroom : d + 1 ≤ R.frames ∧ 8 + (40 + 11) + 64 * d ≤ R.locals) (hcs : cells ≤ R.cells ∧ slots ≤ R.slots) (hd : decode code pc = .ok (.invokevirtual idx, 3)) (hW : LWd D A s.heap ad ca σ H locs)
    (go : ∀ H1 locs1, LWd D A s.heap ad ca σ' H1 locs1 → W p l e R s m args below meth c H1 locs1 cells slots Q (F0 m (pc + 3) ls (t_cv ad r :: rest))) : W p l e R s m args below meth c H locs cells slots Q (F0 m pc ls ((as.map (t_cv ad)).reverse ++ .ref (ad kk 0) :: rest)) := by
  obtain ⟨hx, hb, hml, ht, hown, hKt, hX, hA, hXs, hbl, hbA, hL⟩ := Z
  obtain ⟨hP, hD, hS, hM⟩ := hW
  obtain ⟨y, bb, nl, ret, hmI, hlk, hnp, ⟨hc1, hc2, hp⟩, hyc, hnl⟩ := hF
  have hAA : ∀ q, va_A (wsl zhs ad ca σ) H.size q → A q := by
    intro q h
    rcases h with ⟨z, w, h⟩ | h
    · exact hD.2 z _ h
    · exact hA q (Nat.le_trans hS.1 h)
  have hok2 : ∀ v ∈ vh kk 0 :: as, OkV zhs v := by
    intro v hv
    rcases List.mem_cons.mp hv with rfl | hv
    · exact Or.inl hkk
    · exact hok v hv
  have hM2 := run_ok l D zhs ad ca hC d k _ σ (some r) σ' hnp hrun hok2 hM y bb nl ret false hmI H.size
  obtain ⟨hbl2, hpre⟩ := pre_ok (as := vh kk 0 :: as) rfl hKt hP hD hS hX hAA
  obtain ⟨w1, w2, w3, w4⟩ := mw_code hmI
  have hGG : ∀ w ∈ (.code y bb nl ret :: gw : List Cond), w ∈ gw := by
    intro w hw
    rcases List.mem_cons.mp hw with rfl | hw
    · exact gw_in w1 rfl
    · exact hw
  have hroom1 : (rmD d).frames + 1 ≤ R.frames ∧ 8 + (nl + 11) + (rmD d).locals ≤ R.locals := by
    refine ⟨hroom.1, ?_⟩
    show 8 + (nl + 11) + 64 * d ≤ R.locals
    omega
  have hrec : ∃ cellB : Cell, H[ad kk 0]? = some cellB ∧ cellB.vm.isStatics = false ∧ s.vm.findClass y.cls = some cellB.cls := by
    obtain ⟨row, hrow, hrc2⟩ := k_obj hcl
    obtain ⟨q0, hq, hws⟩ := wsl_at (ad := ad) (ca := ca) (σ := σ) hkk
    rw [cE_obj hrow hrc2] at hws
    obtain ⟨cell, g1, g2, g3⟩ := va_recv hKt hP (cls_facts h12).1 hws
    exact ⟨cell, g1, g2, by rw [hyc]; exact g3⟩
  have hcw := cwV (R := R) (s := s) (args := args) (own := RL) (C := y.cls) (index := idx) (y := y) (bytes := bb) (maxL := nl) (ret := ret) (rm := rmD d) n ht.ws (gw_good (ws := wsV RL idx y.cls y (.code y bb nl ret :: gw)) (fun w hw => by
      rcases List.mem_append.mp hw with h | h
      · simp only [List.mem_cons, List.not_mem_nil, or_false] at h
        rcases h with rfl | rfl | rfl | rfl
        · exact gw_in hlk rfl
        · exact gw_in (w4 rfl).1 rfl
        · exact gw_in (w4 rfl).2 rfl
        · exact gw_in w2 rfl
      · exact hGG w h)) rfl rfl rfl ⟨rfl, hc1, hc2, hp⟩ hroom1
  have hrunW := va_runV (e := e) (below := below) (meth := meth) (H := H) (locs := locs) (cells := cells) (slots := slots) (g := F0 m pc ls ((as.map (t_cv ad)).reverse ++ .ref (ad kk 0) :: rest)) (n := n) (b := ad kk 0) (As := as.map (t_cv ad)) (rest := rest) ⟨hx, hb, hml, hown, ht.ws⟩ hM2 hcw ⟨hbl2, hrec, hpre⟩ rfl (by rw [List.length_map, hlen]) hls rfl (lv_room hcat) hd (by simpa using hcs)
  rcases hr with ⟨x, rfl⟩ | ⟨x, rfl⟩
  · refine va_calli hrunW hS (fun q _ h => hAA q h) hAA (fun v u t H1 locs1 hte hvm hw hB hz1 hk1 hS1 => ?_)
    obtain ⟨rfl, hrx⟩ := hw
    exact go H1 locs1 ⟨by rw [← hte]; exact hB.1, hB.2.1.weaken (fun _ _ _ h => hAA _ h), hS1, hB.2.2⟩
  · refine va_calll hrunW hS (fun q _ h => hAA q h) hAA (fun v u t H1 locs1 hte hvm hw hB hz1 hk1 hS1 => ?_)
    obtain ⟨rfl, hrx⟩ := hw
    exact go H1 locs1 ⟨by rw [← hte]; exact hB.1, hB.2.1.weaken (fun _ _ _ h => hAA _ h), hS1, hB.2.2⟩
def Lp (p : Program) (l : Launch) (e : Env) (R : Room) (s : State) (m : MethodId) (args : Array Value) (below : List Frame) (meth : Method) (c : Code) (Q : State → Prop) (A : Nat → Prop) (cells slots : Nat) (ls : Array Slot) (pc1 pc2 : Nat) (vs : List Value) : Prop := ∀ (H : Heap) (locs : List Loc) (st : List Value), va_S A s.heap H locs → W p l e R s m args below meth c H locs cells slots Q (F0 m pc2 ls (vs.reverse ++ st)) → W p l e R s m args below meth c H locs cells slots Q (F0 m pc1 ls st)
/-- both calls of a case -/
theorem l_core {kc kr i1 i2 n pa pb d : Nat} {as : List TV} {σ : TM} (Z : Lc p s m args c D ad ca A b L xs) (hC : HC zhs) (hl : lv_has ls 4 [(3, .int (nI i)), (2, .ref (ad 51 0)), (1, .ref (ad 0 0)), (0, .ref b)]) (hT : Two d kc kr as σ) (hF1 : LkF kc i1 n 11) (hF2 : LkF kr i2 n 12) (hlen : as.length = n) (hok : ∀ v ∈ as, OkV zhs v) (hkd : (rkd kc false = true ∧ rkd kr false = true) ∨ (rkd kc true = true ∧ rkd kr true = true)) (hk9 : kc ≠ 900) (hroom : d + 1 ≤ R.frames ∧ 8 + (40 + 11) + 64 * d ≤ R.locals) (hcs : cells ≤ R.cells ∧ slots ≤ R.slots) (d1 : decode code pc = .ok (.aload_n 1, 1)) (hp1 : Lp p l e R s m args below meth c Q A cells slots ls (pc + 1) pa (as.map (t_cv ad))) (d2 : decode code pa = .ok (.invokevirtual i1, 3)) (d3 : decode code (pa + 3) = .ok (.aload_n 2, 1)) (hp2 : Lp p l e R s m args below meth c Q A cells slots ls (pa + 3 + 1) pb (as.map (t_cv ad))) (d4 : decode code pb = .ok (.invokevirtual i2, 3)) (hW : LWd D A s.heap ad ca σ H locs)
    (go : ∀ (r : TV) (σ2 : TM) (V2 : TVw) H1 locs1, WW σ2 V2 → LWd D A s.heap ad ca σ2 H1 locs1 → (rkd kc false = true → ∃ x, r = vi x) → (rkd kc true = true → ∃ x, r = vj x) → W p l e R s m args below meth c H1 locs1 cells slots Q (F0 m (pb + 3) ls [t_cv ad r, t_cv ad r])) : W p l e R s m args below meth c H locs cells slots Q (F0 m pc ls []) := by
  obtain ⟨hx, hb, -⟩ := id Z
  obtain ⟨r, σ1, σ2, V2, q1, q2, q3⟩ := hT
  obtain ⟨k1, k2⟩ := run_kind hk9 q1
  have hr : (∃ x, r = vi x) ∨ ∃ x, r = vj x := by
    rcases hkd with h | h
    · exact Or.inl (k1 h.1)
    · exact Or.inr (k2 h.1)
  have hcatr : ([t_cv ad r].map fun v => v.category).sum ≤ 8 := by
    rcases hr with ⟨x, rfl⟩ | ⟨x, rfl⟩
    · show 1 + 0 ≤ 8
      decide
    · show 2 + 0 ≤ 8
      decide
  refine lv_aload_n hx hb d1 rfl (lv_at hl 2 rfl) ?_
  refine hp1 _ _ _ hW.2.2.1 ?_
  refine l_call Z hC hF1 q1 hr hlen hok (zh_mem (by decide) (by decide +kernel)) rfl (by decide) hl.1 (by decide) hroom hcs d2 hW (fun H1 locs1 hW1 => ?_)
  refine lv_aload_n hx hb d3 rfl (lv_at hl 1 rfl) ?_
  refine hp2 _ _ _ hW1.2.2.1 ?_
  exact l_call Z hC hF2 q2 hr hlen hok (zh_mem (by decide) (by decide +kernel)) rfl (by decide) hl.1 hcatr hroom hcs d4 hW1 (fun H2 locs2 hW2 => go r σ2 V2 H2 locs2 q3 hW2 k1 k2)
theorem lk_lt : (List.range 43).all (fun c => Nat.blt (lkc c) 900 && Nat.beq (las c (fun _ => 0) 0).length (cond (Nat.beq c 37) 3 (lci c).2.1)) = true := by decide +kernel
theorem l_kd {c : Nat} (hc : c < 43) : (c = 38 ∧ rkd (lkc c) true = true ∧ rkd (lkr c) true = true) ∨ (c ≠ 38 ∧ rkd (lkc c) false = true ∧ rkd (lkr c) false = true) := by
  have h := List.all_eq_true.mp lk_kind c (List.mem_range.mpr hc)
  cases hq : Nat.beq c 38 with
  | true =>
    rw [hq] at h
    simp only [cond_true, Bool.and_eq_true] at h
    exact Or.inl ⟨Nat.eq_of_beq_eq_true hq, h.1, h.2⟩
  | false =>
    rw [hq] at h
    simp only [cond_false, Bool.and_eq_true] at h
    exact Or.inr ⟨fun e => by rw [e] at hq; cases hq, h.1, h.2⟩
theorem l_sc (j : Nat) : R32 (xs j).toInt := R32_toInt _
/-- a case of the law, to where the loop goes on -/
theorem l_case {σ : TM} {V : TVw} {q : Nat} (Z : Lc p s m args c D ad ca A b L xs) (hC : HC zhs) (hq : q < 43) (h37 : q ≠ 37) (hi : i + 6 ≤ L) (hl : lv_has ls 4 [(3, .int (nI i)), (2, .ref (ad 51 0)), (1, .ref (ad 0 0)), (0, .ref b)]) (hWW : WW σ V) (hroom : 101 ≤ R.frames ∧ 8 + (40 + 11) + 64 * 100 ≤ R.locals) (hcs : cells ≤ R.cells ∧ slots ≤ R.slots) (hW : LWd D A s.heap ad ca σ H locs)
    (go : ∀ (σ2 : TM) (V2 : TVw) H1 locs1, WW σ2 V2 → LWd D A s.heap ad ca σ2 H1 locs1 → W p l e R s m args below meth c H1 locs1 cells slots Q (F0 m 1710 ls [])) : W p l e R s m args below meth c H locs cells slots Q (F0 m (lci q).1 ls []) := by
  obtain ⟨hx, hb, -⟩ := id Z
  have hd := List.all_eq_true.mp dcase_all q (List.mem_range.mpr hq)
  have hq37 : Nat.beq q 37 = false := beq_ne h37
  rw [hq37, Bool.false_or] at hd
  have hF1 := lf1 q hq
  have hF2 := lf2 q hq
  have hlv := las_lav (ad := ad) (xs := xs) (i := i) (l := 0) q hq h37
  have hlt := List.all_eq_true.mp lk_lt q (List.mem_range.mpr hq)
  simp only [Bool.and_eq_true] at hlt
  have hk9 : lkc q ≠ 900 := by
    have : lkc q + 1 ≤ 900 := by simpa [Nat.blt] using hlt.1
    omega
  have hT := two_all (d := 0) hWW (fun k => (xs (i + k)).toInt) (fun k => R32_toInt _) 0 q hq
  have hlen := las_len (s1 := fun k => (xs (i + k)).toInt) (s2 := fun _ => 0) (l1 := 0) (l2 := 0) q hq
  have hok := las_ok (hs := zhs) (s1 := fun k => (xs (i + k)).toInt) (l1 := 0) (fun k => R32_toInt _) ⟨by decide, by decide⟩ q hq
  have hkd := l_kd hq
  unfold dcase at hd
  generalize hci : lci q = ci at hd hF1 hF2 hlv ⊢
  obtain ⟨pc, n, i1, i2⟩ := ci
  simp only [Bool.and_eq_true] at hd
  obtain ⟨⟨⟨⟨⟨⟨d1, da1⟩, d2⟩, d3⟩, da2⟩, d4⟩, d5⟩ := hd
  have hlv : (las q (fun k => (xs (i + k)).toInt) 0).map (t_cv ad) = lav xs i n 1 := hlv
  refine l_core (pc := pc) (pa := pc + 1 + 5 * n) (pb := pc + 1 + 5 * n + 3 + 1 + 5 * n) Z hC hl hT hF1 hF2 hlen hok (by rcases hkd with h | h; exact Or.inr h.2; exact Or.inl h.2) hk9 hroom hcs (dq_ok d1) (fun H locs st hS h => ?_) (dq_ok d2) (dq_ok d3) (fun H locs st hS h => ?_) (dq_ok d4) hW (fun r σ2 V2 H1 locs1 hWW2 hW2 r1 r2 => ?_)
  · rw [hlv] at h
    exact l_args Z (lv_at hl 3 rfl) (lv_at hl 0 rfl) hi hS n 1 (pc + 1) st da1 h
  · rw [hlv] at h
    exact l_args Z (lv_at hl 3 rfl) (lv_at hl 0 rfl) hi hS n 1 _ st da2 h
  · rcases hkd with ⟨rfl, h1, h2⟩ | ⟨h38, h1, h2⟩
    · obtain ⟨x, rfl⟩ := r2 h1
      simp only [show Nat.beq 38 38 = true from rfl, cond_true, Bool.and_eq_true] at d5
      refine W.lcmp hx hb (dq_ok d5.1) ?_
      refine lv_if_eq (tgt := 1710) hx hb (dq_ok d5.2) (by omega) (fun _ => go σ2 V2 H1 locs1 hWW2 hW2) (fun hne => absurd ?_ hne)
      unfold lg_cmp
      rw [if_neg (by simp), if_pos rfl]
    · obtain ⟨x, rfl⟩ := r1 h1
      rw [beq_ne h38] at d5
      simp only [cond_false] at d5
      exact lv_icmp_eq (tgt := 1710) hx hb (dq_ok d5) (by omega) (fun _ => go σ2 V2 H1 locs1 hWW2 hW2) (fun hne => absurd rfl hne)
theorem dl_1461 : decode code 1461 = .ok (.aload_n 1, 1) := by decide +kernel
theorem dl_1462 : decode code 1462 = .ok (.aload_n 0, 1) := by decide +kernel
theorem dl_1463 : decode code 1463 = .ok (.iload_n 3, 1) := by decide +kernel
theorem dl_1464 : decode code 1464 = .ok (.iconst 1, 1) := by decide +kernel
theorem dl_1465 : decode code 1465 = .ok (.iadd, 1) := by decide +kernel
theorem dl_1466 : decode code 1466 = .ok (.iaload, 1) := by decide +kernel
theorem dl_1467 : decode code 1467 = .ok (.aload_n 0, 1) := by decide +kernel
theorem dl_1468 : decode code 1468 = .ok (.iload_n 3, 1) := by decide +kernel
theorem dl_1469 : decode code 1469 = .ok (.iconst 2, 1) := by decide +kernel
theorem dl_1470 : decode code 1470 = .ok (.iadd, 1) := by decide +kernel
theorem dl_1471 : decode code 1471 = .ok (.iaload, 1) := by decide +kernel
theorem dl_1472 : decode code 1472 = .ok (.aload_n 0, 1) := by decide +kernel
theorem dl_1473 : decode code 1473 = .ok (.iload_n 3, 1) := by decide +kernel
theorem dl_1474 : decode code 1474 = .ok (.iconst 3, 1) := by decide +kernel
theorem dl_1475 : decode code 1475 = .ok (.iadd, 1) := by decide +kernel
theorem dl_1476 : decode code 1476 = .ok (.iaload, 1) := by decide +kernel
theorem dl_1477 : decode code 1477 = .ok (.i2l, 1) := by decide +kernel
theorem dl_1478 : decode code 1478 = .ok (.bipush 32, 2) := by decide +kernel
theorem dl_1480 : decode code 1480 = .ok (.lshl, 1) := by decide +kernel
theorem dl_1481 : decode code 1481 = .ok (.aload_n 0, 1) := by decide +kernel
theorem dl_1482 : decode code 1482 = .ok (.iload_n 3, 1) := by decide +kernel
theorem dl_1483 : decode code 1483 = .ok (.iconst 4, 1) := by decide +kernel
theorem dl_1484 : decode code 1484 = .ok (.iadd, 1) := by decide +kernel
theorem dl_1485 : decode code 1485 = .ok (.iaload, 1) := by decide +kernel
theorem dl_1486 : decode code 1486 = .ok (.i2l, 1) := by decide +kernel
theorem dl_1487 : decode code 1487 = .ok (.ldc2_w 166, 3) := by decide +kernel
theorem dl_1490 : decode code 1490 = .ok (.land, 1) := by decide +kernel
theorem dl_1491 : decode code 1491 = .ok (.lor, 1) := by decide +kernel
theorem dl_1492 : decode code 1492 = .ok (.invokevirtual 168, 3) := by decide +kernel
theorem dl_1495 : decode code 1495 = .ok (.aload_n 2, 1) := by decide +kernel
theorem dl_1496 : decode code 1496 = .ok (.aload_n 0, 1) := by decide +kernel
theorem dl_1497 : decode code 1497 = .ok (.iload_n 3, 1) := by decide +kernel
theorem dl_1498 : decode code 1498 = .ok (.iconst 1, 1) := by decide +kernel
theorem dl_1499 : decode code 1499 = .ok (.iadd, 1) := by decide +kernel
theorem dl_1500 : decode code 1500 = .ok (.iaload, 1) := by decide +kernel
theorem dl_1501 : decode code 1501 = .ok (.aload_n 0, 1) := by decide +kernel
theorem dl_1502 : decode code 1502 = .ok (.iload_n 3, 1) := by decide +kernel
theorem dl_1503 : decode code 1503 = .ok (.iconst 2, 1) := by decide +kernel
theorem dl_1504 : decode code 1504 = .ok (.iadd, 1) := by decide +kernel
theorem dl_1505 : decode code 1505 = .ok (.iaload, 1) := by decide +kernel
theorem dl_1506 : decode code 1506 = .ok (.aload_n 0, 1) := by decide +kernel
theorem dl_1507 : decode code 1507 = .ok (.iload_n 3, 1) := by decide +kernel
theorem dl_1508 : decode code 1508 = .ok (.iconst 3, 1) := by decide +kernel
theorem dl_1509 : decode code 1509 = .ok (.iadd, 1) := by decide +kernel
theorem dl_1510 : decode code 1510 = .ok (.iaload, 1) := by decide +kernel
theorem dl_1511 : decode code 1511 = .ok (.i2l, 1) := by decide +kernel
theorem dl_1512 : decode code 1512 = .ok (.bipush 32, 2) := by decide +kernel
theorem dl_1514 : decode code 1514 = .ok (.lshl, 1) := by decide +kernel
theorem dl_1515 : decode code 1515 = .ok (.aload_n 0, 1) := by decide +kernel
theorem dl_1516 : decode code 1516 = .ok (.iload_n 3, 1) := by decide +kernel
theorem dl_1517 : decode code 1517 = .ok (.iconst 4, 1) := by decide +kernel
theorem dl_1518 : decode code 1518 = .ok (.iadd, 1) := by decide +kernel
theorem dl_1519 : decode code 1519 = .ok (.iaload, 1) := by decide +kernel
theorem dl_1520 : decode code 1520 = .ok (.i2l, 1) := by decide +kernel
theorem dl_1521 : decode code 1521 = .ok (.ldc2_w 166, 3) := by decide +kernel
theorem dl_1524 : decode code 1524 = .ok (.land, 1) := by decide +kernel
theorem dl_1525 : decode code 1525 = .ok (.lor, 1) := by decide +kernel
theorem dl_1526 : decode code 1526 = .ok (.invokevirtual 172, 3) := by decide +kernel
theorem dl_1529 : decode code 1529 = .ok (.if_icmp .eq 181, 3) := by decide +kernel
theorem dl_1532 : decode code 1532 = .ok (.iconst 0, 1) := by decide +kernel
theorem dl_1533 : decode code 1533 = .ok (.ireturn, 1) := by decide +kernel
theorem zw_m32 : Cond.constantLong RL 166 (4294967295 : Int64) ∈ lw_tbl := lw_at_mem (j := 8) (k := 190) rfl
def l_lg (x y : Int32) : Int64 := (x.toInt64 <<< ((32 : Int32).toInt64 &&& 63)) ||| (y.toInt64 &&& 4294967295)
theorem l_l1 (Z : Lc p s m args c D ad ca A b L xs) (h0 : ls[0]? = some (.val (.ref b))) (h3 : ls[3]? = some (.val (.int (nI i)))) (hi : i + 6 ≤ L) : Lp p l e R s m args below meth c Q A cells slots ls 1462 1492 [.int (xs (i + 1)), .int (xs (i + 2)), .long (l_lg (xs (i + 3)) (xs (i + 4)))] := by
  intro H locs st hS h
  obtain ⟨hx, hb, hml, ht, hown, -⟩ := id Z
  refine l_arg (k := 1) Z h0 h3 hi (by decide) dl_1462 dl_1463 dl_1464 dl_1465 dl_1466 hS ?_
  refine l_arg (k := 2) Z h0 h3 hi (by decide) dl_1467 dl_1468 dl_1469 dl_1470 dl_1471 hS ?_
  refine l_arg (k := 3) Z h0 h3 hi (by decide) dl_1472 dl_1473 dl_1474 dl_1475 dl_1476 hS ?_
  refine lv_i2l hx hb dl_1477 rfl ?_
  refine lv_bipush (v := 32) hx hb dl_1478 (by decide +kernel) ?_
  refine lv_lshl hx hb dl_1480 rfl ?_
  refine l_arg (k := 4) Z h0 h3 hi (by decide) dl_1481 dl_1482 dl_1483 dl_1484 dl_1485 hS ?_
  refine lv_i2l hx hb dl_1486 rfl ?_
  refine lv_ldc2 hx hb hown (ht _ zw_m32 rfl) dl_1487 ?_
  refine lv_land hx hb dl_1490 ?_
  refine lv_lor hx hb dl_1491 ?_
  exact h
theorem l_l2 (Z : Lc p s m args c D ad ca A b L xs) (h0 : ls[0]? = some (.val (.ref b))) (h3 : ls[3]? = some (.val (.int (nI i)))) (hi : i + 6 ≤ L) : Lp p l e R s m args below meth c Q A cells slots ls 1496 1526 [.int (xs (i + 1)), .int (xs (i + 2)), .long (l_lg (xs (i + 3)) (xs (i + 4)))] := by
  intro H locs st hS h
  obtain ⟨hx, hb, hml, ht, hown, -⟩ := id Z
  refine l_arg (k := 1) Z h0 h3 hi (by decide) dl_1496 dl_1497 dl_1498 dl_1499 dl_1500 hS ?_
  refine l_arg (k := 2) Z h0 h3 hi (by decide) dl_1501 dl_1502 dl_1503 dl_1504 dl_1505 hS ?_
  refine l_arg (k := 3) Z h0 h3 hi (by decide) dl_1506 dl_1507 dl_1508 dl_1509 dl_1510 hS ?_
  refine lv_i2l hx hb dl_1511 rfl ?_
  refine lv_bipush (v := 32) hx hb dl_1512 (by decide +kernel) ?_
  refine lv_lshl hx hb dl_1514 rfl ?_
  refine l_arg (k := 4) Z h0 h3 hi (by decide) dl_1515 dl_1516 dl_1517 dl_1518 dl_1519 hS ?_
  refine lv_i2l hx hb dl_1520 rfl ?_
  refine lv_ldc2 hx hb hown (ht _ zw_m32 rfl) dl_1521 ?_
  refine lv_land hx hb dl_1524 ?_
  refine lv_lor hx hb dl_1525 ?_
  exact h
theorem l_case37 {σ : TM} {V : TVw} (Z : Lc p s m args c D ad ca A b L xs) (hC : HC zhs) (hi : i + 6 ≤ L) (hl : lv_has ls 4 [(3, .int (nI i)), (2, .ref (ad 51 0)), (1, .ref (ad 0 0)), (0, .ref b)]) (hWW : WW σ V) (hroom : 101 ≤ R.frames ∧ 8 + (40 + 11) + 64 * 100 ≤ R.locals) (hcs : cells ≤ R.cells ∧ slots ≤ R.slots) (hW : LWd D A s.heap ad ca σ H locs)
    (go : ∀ (σ2 : TM) (V2 : TVw) H1 locs1, WW σ2 V2 → LWd D A s.heap ad ca σ2 H1 locs1 → W p l e R s m args below meth c H1 locs1 cells slots Q (F0 m 1710 ls [])) : W p l e R s m args below meth c H locs cells slots Q (F0 m 1461 ls []) := by
  obtain ⟨hx, hb, -⟩ := id Z
  have hT := two_all (d := 0) hWW (fun k => (xs (i + k)).toInt) (fun k => R32_toInt _) (l_lg (xs (i + 3)) (xs (i + 4))).toInt 37 (by decide)
  have hok := las_ok (hs := zhs) (s1 := fun k => (xs (i + k)).toInt) (l1 := (l_lg (xs (i + 3)) (xs (i + 4))).toInt) (fun k => R32_toInt _) (R64_toInt _) 37 (by decide)
  have hlv : (las 37 (fun k => (xs (i + k)).toInt) (l_lg (xs (i + 3)) (xs (i + 4))).toInt).map (t_cv ad) = [.int (xs (i + 1)), .int (xs (i + 2)), .long (l_lg (xs (i + 3)) (xs (i + 4)))] := by
    simp only [las, List.map_cons, List.map_nil, t_cv, Int32.ofInt_toInt, Int64.ofInt_toInt]
  have hkd := l_kd (c := 37) (by decide)
  rcases hkd with ⟨h, -⟩ | ⟨-, hkd⟩
  · exact absurd h (by decide)
  · refine l_core (pc := 1461) (pa := 1492) (pb := 1526) Z hC hl hT (lf1 37 (by decide)) (lf2 37 (by decide)) rfl hok (Or.inl hkd) (by decide) hroom hcs dl_1461 (fun H locs st hS h => ?_) dl_1492 dl_1495 (fun H locs st hS h => ?_) dl_1526 hW (fun r σ2 V2 H1 locs1 hWW2 hW2 r1 r2 => ?_)
    · rw [hlv] at h
      exact l_l1 Z (lv_at hl 3 rfl) (lv_at hl 0 rfl) hi H locs st hS h
    · rw [hlv] at h
      exact l_l2 Z (lv_at hl 3 rfl) (lv_at hl 0 rfl) hi H locs st hS h
    · obtain ⟨x, rfl⟩ := r1 hkd.1
      exact lv_icmp_eq (tgt := 1710) hx hb dl_1529 (by decide) (fun _ => go σ2 V2 H1 locs1 hWW2 hW2) (fun hne => absurd rfl hne)
end LAW
