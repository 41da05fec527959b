-- the law: its calls, case by case, by wip/whole/gen105.py
def lcs : List (Nat × Nat × Nat × Nat) := [(220, 1, 13, 17), (243, 1, 18, 21), (266, 3, 22, 26), (309, 2, 27, 31), (342, 2, 32, 35), (375, 2, 36, 39), (408, 3, 40, 43), (451, 2, 44, 47), (484, 2, 48, 51), (517, 2, 52, 55), (550, 2, 56, 59), (583, 2, 60, 63), (616, 3, 64, 67), (659, 2, 68, 71), (692, 2, 72, 75), (725, 3, 76, 79), (768, 2, 80, 83), (801, 4, 84, 88), (854, 3, 89, 92), (897, 2, 93, 96), (930, 4, 97, 100), (983, 1, 101, 104), (1006, 1, 105, 108), (1029, 2, 109, 112), (1062, 2, 113, 116), (1095, 2, 117, 120), (1128, 2, 121, 124), (1161, 3, 125, 128), (1204, 0, 129, 133), (1217, 1, 134, 137), (1240, 1, 138, 141), (1263, 2, 142, 145), (1296, 1, 146, 149), (1319, 3, 150, 153), (1362, 1, 154, 157), (1385, 2, 158, 161), (1418, 3, 162, 165), (1461, 4, 168, 172), (1534, 2, 173, 177), (1568, 5, 178, 182), (1631, 2, 183, 186), (1664, 1, 187, 190), (1687, 1, 191, 194)]
def lci (c : Nat) : Nat × Nat × Nat × Nat := (t_nth lcs c).getD (0, 0, 0, 0)
def dq (pc : Nat) (i : Instr) (n : Nat) : Bool := match decode code pc with
  | .ok (j, k) => decide (j = i) && Nat.beq k n
  | _ => false
theorem dq_ok {pc n : Nat} {i : Instr} (h : dq pc i n = true) : decode code pc = .ok (i, n) := by
  unfold dq at h
  split at h
  · next j k hd =>
    simp only [Bool.and_eq_true, decide_eq_true_eq] at h
    rw [hd, h.1, Nat.eq_of_beq_eq_true h.2]
  · cases h
def dargs : Nat → Nat → Nat → Bool
  | 0, _, _ => true
  | n + 1, k, pc => dq pc (.aload_n 0) 1 && dq (pc + 1) (.iload_n 3) 1 && dq (pc + 1 + 1) (.iconst (k : Nat)) 1 && dq (pc + 1 + 1 + 1) .iadd 1 && dq (pc + 1 + 1 + 1 + 1) .iaload 1 && Nat.ble k 5 && dargs n (k + 1) (pc + 5)
def dcase (c : Nat) : Bool := match lci c with
  | (pc, n, i1, i2) => dq pc (.aload_n 1) 1 && dargs n 1 (pc + 1) && dq (pc + 1 + 5 * n) (.invokevirtual i1) 3 && dq (pc + 1 + 5 * n + 3) (.aload_n 2) 1 && dargs n 1 (pc + 1 + 5 * n + 3 + 1) && dq (pc + 1 + 5 * n + 3 + 1 + 5 * n) (.invokevirtual i2) 3 && cond (Nat.beq c 38) (dq (pc + 1 + 5 * n + 3 + 1 + 5 * n + 3) .lcmp 1 && dq (pc + 1 + 5 * n + 3 + 1 + 5 * n + 3 + 1) (.ifCond .eq (1710 - ((pc + 1 + 5 * n + 3 + 1 + 5 * n + 3 + 1 : Nat) : Int))) 3) (dq (pc + 1 + 5 * n + 3 + 1 + 5 * n + 3) (.if_icmp .eq (1710 - ((pc + 1 + 5 * n + 3 + 1 + 5 * n + 3 : Nat) : Int))) 3)

theorem dcase_0 : dcase 0 = true := by decide +kernel
theorem dcase_1 : dcase 1 = true := by decide +kernel
theorem dcase_2 : dcase 2 = true := by decide +kernel
theorem dcase_3 : dcase 3 = true := by decide +kernel
theorem dcase_4 : dcase 4 = true := by decide +kernel
theorem dcase_5 : dcase 5 = true := by decide +kernel
theorem dcase_6 : dcase 6 = true := by decide +kernel
theorem dcase_7 : dcase 7 = true := by decide +kernel
theorem dcase_8 : dcase 8 = true := by decide +kernel
theorem dcase_9 : dcase 9 = true := by decide +kernel
theorem dcase_10 : dcase 10 = true := by decide +kernel
theorem dcase_11 : dcase 11 = true := by decide +kernel
theorem dcase_12 : dcase 12 = true := by decide +kernel
theorem dcase_13 : dcase 13 = true := by decide +kernel
theorem dcase_14 : dcase 14 = true := by decide +kernel
theorem dcase_15 : dcase 15 = true := by decide +kernel
theorem dcase_16 : dcase 16 = true := by decide +kernel
theorem dcase_17 : dcase 17 = true := by decide +kernel
theorem dcase_18 : dcase 18 = true := by decide +kernel
theorem dcase_19 : dcase 19 = true := by decide +kernel
theorem dcase_20 : dcase 20 = true := by decide +kernel
theorem dcase_21 : dcase 21 = true := by decide +kernel
theorem dcase_22 : dcase 22 = true := by decide +kernel
theorem dcase_23 : dcase 23 = true := by decide +kernel
theorem dcase_24 : dcase 24 = true := by decide +kernel
theorem dcase_25 : dcase 25 = true := by decide +kernel
theorem dcase_26 : dcase 26 = true := by decide +kernel
theorem dcase_27 : dcase 27 = true := by decide +kernel
theorem dcase_28 : dcase 28 = true := by decide +kernel
theorem dcase_29 : dcase 29 = true := by decide +kernel
theorem dcase_30 : dcase 30 = true := by decide +kernel
theorem dcase_31 : dcase 31 = true := by decide +kernel
theorem dcase_32 : dcase 32 = true := by decide +kernel
theorem dcase_33 : dcase 33 = true := by decide +kernel
theorem dcase_34 : dcase 34 = true := by decide +kernel
theorem dcase_35 : dcase 35 = true := by decide +kernel
theorem dcase_36 : dcase 36 = true := by decide +kernel
theorem dcase_38 : dcase 38 = true := by decide +kernel
theorem dcase_39 : dcase 39 = true := by decide +kernel
theorem dcase_40 : dcase 40 = true := by decide +kernel
theorem dcase_41 : dcase 41 = true := by decide +kernel
theorem dcase_42 : dcase 42 = true := by decide +kernel
theorem dcase_all : ∀ c, c < 43 → c ≠ 37 → dcase c = true
  | 0, _, _ => dcase_0
  | 1, _, _ => dcase_1
  | 2, _, _ => dcase_2
  | 3, _, _ => dcase_3
  | 4, _, _ => dcase_4
  | 5, _, _ => dcase_5
  | 6, _, _ => dcase_6
  | 7, _, _ => dcase_7
  | 8, _, _ => dcase_8
  | 9, _, _ => dcase_9
  | 10, _, _ => dcase_10
  | 11, _, _ => dcase_11
  | 12, _, _ => dcase_12
  | 13, _, _ => dcase_13
  | 14, _, _ => dcase_14
  | 15, _, _ => dcase_15
  | 16, _, _ => dcase_16
  | 17, _, _ => dcase_17
  | 18, _, _ => dcase_18
  | 19, _, _ => dcase_19
  | 20, _, _ => dcase_20
  | 21, _, _ => dcase_21
  | 22, _, _ => dcase_22
  | 23, _, _ => dcase_23
  | 24, _, _ => dcase_24
  | 25, _, _ => dcase_25
  | 26, _, _ => dcase_26
  | 27, _, _ => dcase_27
  | 28, _, _ => dcase_28
  | 29, _, _ => dcase_29
  | 30, _, _ => dcase_30
  | 31, _, _ => dcase_31
  | 32, _, _ => dcase_32
  | 33, _, _ => dcase_33
  | 34, _, _ => dcase_34
  | 35, _, _ => dcase_35
  | 36, _, _ => dcase_36
  | 37, _, h => absurd rfl h
  | 38, _, _ => dcase_38
  | 39, _, _ => dcase_39
  | 40, _, _ => dcase_40
  | 41, _, _ => dcase_41
  | 42, _, _ => dcase_42
  | c + 43, h, _ => absurd h (by omega)
def LkF (k idx n cls : Nat) : Prop := ∃ (y : MethodName) (b : ByteArray) (nl : Nat) (ret : Option FieldType), mI k = some (y, b, nl, ret, false) ∧ Cond.methodLink RL idx y ∈ lw_tbl ∧ npl k = true ∧ (y.cls ≠ "java/lang/invoke/MethodHandle" ∧ y.cls ≠ "java/lang/invoke/VarHandle" ∧ (parseMethodDescriptor y.desc).map (fun d => d.parameters.length) = some n) ∧ y.cls = cn cls ∧ nl ≤ 40
theorem lf1 : ∀ c, c < 43 → LkF (lkc c) (lci c).2.2.1 (las c (fun _ => 0) 0).length 11
  | 0, _ => ⟨_, _, _, _, rfl, lw_at_mem (j := 3) (k := 16) rfl, rfl, ⟨by decide, by decide, by decide +kernel⟩, rfl, by decide⟩
  | 1, _ => ⟨_, _, _, _, rfl, lw_at_mem (j := 3) (k := 20) rfl, rfl, ⟨by decide, by decide, by decide +kernel⟩, rfl, by decide⟩
  | 2, _ => ⟨_, _, _, _, rfl, lw_at_mem (j := 3) (k := 24) rfl, rfl, ⟨by decide, by decide, by decide +kernel⟩, rfl, by decide⟩
  | 3, _ => ⟨_, _, _, _, rfl, lw_at_mem (j := 3) (k := 39) rfl, rfl, ⟨by decide, by decide, by decide +kernel⟩, rfl, by decide⟩
  | 4, _ => ⟨_, _, _, _, rfl, lw_at_mem (j := 3) (k := 43) rfl, rfl, ⟨by decide, by decide, by decide +kernel⟩, rfl, by decide⟩
  | 5, _ => ⟨_, _, _, _, rfl, lw_at_mem (j := 3) (k := 52) rfl, rfl, ⟨by decide, by decide, by decide +kernel⟩, rfl, by decide⟩
  | 6, _ => ⟨_, _, _, _, rfl, lw_at_mem (j := 3) (k := 56) rfl, rfl, ⟨by decide, by decide, by decide +kernel⟩, rfl, by decide⟩
  | 7, _ => ⟨_, _, _, _, rfl, lw_at_mem (j := 3) (k := 60) rfl, rfl, ⟨by decide, by decide, by decide +kernel⟩, rfl, by decide⟩
  | 8, _ => ⟨_, _, _, _, rfl, lw_at_mem (j := 3) (k := 68) rfl, rfl, ⟨by decide, by decide, by decide +kernel⟩, rfl, by decide⟩
  | 9, _ => ⟨_, _, _, _, rfl, lw_at_mem (j := 3) (k := 80) rfl, rfl, ⟨by decide, by decide, by decide +kernel⟩, rfl, by decide⟩
  | 10, _ => ⟨_, _, _, _, rfl, lw_at_mem (j := 3) (k := 88) rfl, rfl, ⟨by decide, by decide, by decide +kernel⟩, rfl, by decide⟩
  | 11, _ => ⟨_, _, _, _, rfl, lw_at_mem (j := 3) (k := 96) rfl, rfl, ⟨by decide, by decide, by decide +kernel⟩, rfl, by decide⟩
  | 12, _ => ⟨_, _, _, _, rfl, lw_at_mem (j := 4) (k := 4) rfl, rfl, ⟨by decide, by decide, by decide +kernel⟩, rfl, by decide⟩
  | 13, _ => ⟨_, _, _, _, rfl, lw_at_mem (j := 4) (k := 12) rfl, rfl, ⟨by decide, by decide, by decide +kernel⟩, rfl, by decide⟩
  | 14, _ => ⟨_, _, _, _, rfl, lw_at_mem (j := 4) (k := 46) rfl, rfl, ⟨by decide, by decide, by decide +kernel⟩, rfl, by decide⟩
  | 15, _ => ⟨_, _, _, _, rfl, lw_at_mem (j := 4) (k := 56) rfl, rfl, ⟨by decide, by decide, by decide +kernel⟩, rfl, by decide⟩
  | 16, _ => ⟨_, _, _, _, rfl, lw_at_mem (j := 4) (k := 65) rfl, rfl, ⟨by decide, by decide, by decide +kernel⟩, rfl, by decide⟩
  | 17, _ => ⟨_, _, _, _, rfl, lw_at_mem (j := 4) (k := 81) rfl, rfl, ⟨by decide, by decide, by decide +kernel⟩, rfl, by decide⟩
  | 18, _ => ⟨_, _, _, _, rfl, lw_at_mem (j := 4) (k := 93) rfl, rfl, ⟨by decide, by decide, by decide +kernel⟩, rfl, by decide⟩
  | 19, _ => ⟨_, _, _, _, rfl, lw_at_mem (j := 4) (k := 100) rfl, rfl, ⟨by decide, by decide, by decide +kernel⟩, rfl, by decide⟩
  | 20, _ => ⟨_, _, _, _, rfl, lw_at_mem (j := 4) (k := 108) rfl, rfl, ⟨by decide, by decide, by decide +kernel⟩, rfl, by decide⟩
  | 21, _ => ⟨_, _, _, _, rfl, lw_at_mem (j := 4) (k := 129) rfl, rfl, ⟨by decide, by decide, by decide +kernel⟩, rfl, by decide⟩
  | 22, _ => ⟨_, _, _, _, rfl, lw_at_mem (j := 4) (k := 149) rfl, rfl, ⟨by decide, by decide, by decide +kernel⟩, rfl, by decide⟩
  | 23, _ => ⟨_, _, _, _, rfl, lw_at_mem (j := 4) (k := 233) rfl, rfl, ⟨by decide, by decide, by decide +kernel⟩, rfl, by decide⟩
  | 24, _ => ⟨_, _, _, _, rfl, lw_at_mem (j := 5) (k := 5) rfl, rfl, ⟨by decide, by decide, by decide +kernel⟩, rfl, by decide⟩
  | 25, _ => ⟨_, _, _, _, rfl, lw_at_mem (j := 5) (k := 9) rfl, rfl, ⟨by decide, by decide, by decide +kernel⟩, rfl, by decide⟩
  | 26, _ => ⟨_, _, _, _, rfl, lw_at_mem (j := 5) (k := 17) rfl, rfl, ⟨by decide, by decide, by decide +kernel⟩, rfl, by decide⟩
  | 27, _ => ⟨_, _, _, _, rfl, lw_at_mem (j := 5) (k := 27) rfl, rfl, ⟨by decide, by decide, by decide +kernel⟩, rfl, by decide⟩
  | 28, _ => ⟨_, _, _, _, rfl, lw_at_mem (j := 5) (k := 39) rfl, rfl, ⟨by decide, by decide, by decide +kernel⟩, rfl, by decide⟩
  | 29, _ => ⟨_, _, _, _, rfl, lw_at_mem (j := 5) (k := 68) rfl, rfl, ⟨by decide, by decide, by decide +kernel⟩, rfl, by decide⟩
  | 30, _ => ⟨_, _, _, _, rfl, lw_at_mem (j := 5) (k := 72) rfl, rfl, ⟨by decide, by decide, by decide +kernel⟩, rfl, by decide⟩
  | 31, _ => ⟨_, _, _, _, rfl, lw_at_mem (j := 5) (k := 80) rfl, rfl, ⟨by decide, by decide, by decide +kernel⟩, rfl, by decide⟩
  | 32, _ => ⟨_, _, _, _, rfl, lw_at_mem (j := 5) (k := 85) rfl, rfl, ⟨by decide, by decide, by decide +kernel⟩, rfl, by decide⟩
  | 33, _ => ⟨_, _, _, _, rfl, lw_at_mem (j := 5) (k := 89) rfl, rfl, ⟨by decide, by decide, by decide +kernel⟩, rfl, by decide⟩
  | 34, _ => ⟨_, _, _, _, rfl, lw_at_mem (j := 5) (k := 125) rfl, rfl, ⟨by decide, by decide, by decide +kernel⟩, rfl, by decide⟩
  | 35, _ => ⟨_, _, _, _, rfl, lw_at_mem (j := 5) (k := 129) rfl, rfl, ⟨by decide, by decide, by decide +kernel⟩, rfl, by decide⟩
  | 36, _ => ⟨_, _, _, _, rfl, lw_at_mem (j := 5) (k := 133) rfl, rfl, ⟨by decide, by decide, by decide +kernel⟩, rfl, by decide⟩
  | 37, _ => ⟨_, _, _, _, rfl, lw_at_mem (j := 5) (k := 141) rfl, rfl, ⟨by decide, by decide, by decide +kernel⟩, rfl, by decide⟩
  | 38, _ => ⟨_, _, _, _, rfl, lw_at_mem (j := 5) (k := 157) rfl, rfl, ⟨by decide, by decide, by decide +kernel⟩, rfl, by decide⟩
  | 39, _ => ⟨_, _, _, _, rfl, lw_at_mem (j := 5) (k := 162) rfl, rfl, ⟨by decide, by decide, by decide +kernel⟩, rfl, by decide⟩
  | 40, _ => ⟨_, _, _, _, rfl, lw_at_mem (j := 5) (k := 174) rfl, rfl, ⟨by decide, by decide, by decide +kernel⟩, rfl, by decide⟩
  | 41, _ => ⟨_, _, _, _, rfl, lw_at_mem (j := 5) (k := 181) rfl, rfl, ⟨by decide, by decide, by decide +kernel⟩, rfl, by decide⟩
  | 42, _ => ⟨_, _, _, _, rfl, lw_at_mem (j := 5) (k := 189) rfl, rfl, ⟨by decide, by decide, by decide +kernel⟩, rfl, by decide⟩
  | c + 43, h => absurd h (by omega)
theorem lf2 : ∀ c, c < 43 → LkF (lkr c) (lci c).2.2.2 (las c (fun _ => 0) 0).length 12
  | 0, _ => ⟨_, _, _, _, rfl, lw_at_mem (j := 6) (k := 222) rfl, rfl, ⟨by decide, by decide, by decide +kernel⟩, rfl, by decide⟩
  | 1, _ => ⟨_, _, _, _, rfl, lw_at_mem (j := 6) (k := 230) rfl, rfl, ⟨by decide, by decide, by decide +kernel⟩, rfl, by decide⟩
  | 2, _ => ⟨_, _, _, _, rfl, lw_at_mem (j := 6) (k := 234) rfl, rfl, ⟨by decide, by decide, by decide +kernel⟩, rfl, by decide⟩
  | 3, _ => ⟨_, _, _, _, rfl, lw_at_mem (j := 7) (k := 15) rfl, rfl, ⟨by decide, by decide, by decide +kernel⟩, rfl, by decide⟩
  | 4, _ => ⟨_, _, _, _, rfl, lw_at_mem (j := 7) (k := 20) rfl, rfl, ⟨by decide, by decide, by decide +kernel⟩, rfl, by decide⟩
  | 5, _ => ⟨_, _, _, _, rfl, lw_at_mem (j := 7) (k := 29) rfl, rfl, ⟨by decide, by decide, by decide +kernel⟩, rfl, by decide⟩
  | 6, _ => ⟨_, _, _, _, rfl, lw_at_mem (j := 7) (k := 33) rfl, rfl, ⟨by decide, by decide, by decide +kernel⟩, rfl, by decide⟩
  | 7, _ => ⟨_, _, _, _, rfl, lw_at_mem (j := 7) (k := 37) rfl, rfl, ⟨by decide, by decide, by decide +kernel⟩, rfl, by decide⟩
  | 8, _ => ⟨_, _, _, _, rfl, lw_at_mem (j := 7) (k := 45) rfl, rfl, ⟨by decide, by decide, by decide +kernel⟩, rfl, by decide⟩
  | 9, _ => ⟨_, _, _, _, rfl, lw_at_mem (j := 7) (k := 57) rfl, rfl, ⟨by decide, by decide, by decide +kernel⟩, rfl, by decide⟩
  | 10, _ => ⟨_, _, _, _, rfl, lw_at_mem (j := 7) (k := 65) rfl, rfl, ⟨by decide, by decide, by decide +kernel⟩, rfl, by decide⟩
  | 11, _ => ⟨_, _, _, _, rfl, lw_at_mem (j := 7) (k := 70) rfl, rfl, ⟨by decide, by decide, by decide +kernel⟩, rfl, by decide⟩
  | 12, _ => ⟨_, _, _, _, rfl, lw_at_mem (j := 7) (k := 125) rfl, rfl, ⟨by decide, by decide, by decide +kernel⟩, rfl, by decide⟩
  | 13, _ => ⟨_, _, _, _, rfl, lw_at_mem (j := 7) (k := 134) rfl, rfl, ⟨by decide, by decide, by decide +kernel⟩, rfl, by decide⟩
  | 14, _ => ⟨_, _, _, _, rfl, lw_at_mem (j := 7) (k := 161) rfl, rfl, ⟨by decide, by decide, by decide +kernel⟩, rfl, by decide⟩
  | 15, _ => ⟨_, _, _, _, rfl, lw_at_mem (j := 7) (k := 171) rfl, rfl, ⟨by decide, by decide, by decide +kernel⟩, rfl, by decide⟩
  | 16, _ => ⟨_, _, _, _, rfl, lw_at_mem (j := 7) (k := 175) rfl, rfl, ⟨by decide, by decide, by decide +kernel⟩, rfl, by decide⟩
  | 17, _ => ⟨_, _, _, _, rfl, lw_at_mem (j := 7) (k := 191) rfl, rfl, ⟨by decide, by decide, by decide +kernel⟩, rfl, by decide⟩
  | 18, _ => ⟨_, _, _, _, rfl, lw_at_mem (j := 7) (k := 204) rfl, rfl, ⟨by decide, by decide, by decide +kernel⟩, rfl, by decide⟩
  | 19, _ => ⟨_, _, _, _, rfl, lw_at_mem (j := 7) (k := 209) rfl, rfl, ⟨by decide, by decide, by decide +kernel⟩, rfl, by decide⟩
  | 20, _ => ⟨_, _, _, _, rfl, lw_at_mem (j := 7) (k := 217) rfl, rfl, ⟨by decide, by decide, by decide +kernel⟩, rfl, by decide⟩
  | 21, _ => ⟨_, _, _, _, rfl, lw_at_mem (j := 8) (k := 0) rfl, rfl, ⟨by decide, by decide, by decide +kernel⟩, rfl, by decide⟩
  | 22, _ => ⟨_, _, _, _, rfl, lw_at_mem (j := 8) (k := 20) rfl, rfl, ⟨by decide, by decide, by decide +kernel⟩, rfl, by decide⟩
  | 23, _ => ⟨_, _, _, _, rfl, lw_at_mem (j := 8) (k := 56) rfl, rfl, ⟨by decide, by decide, by decide +kernel⟩, rfl, by decide⟩
  | 24, _ => ⟨_, _, _, _, rfl, lw_at_mem (j := 8) (k := 64) rfl, rfl, ⟨by decide, by decide, by decide +kernel⟩, rfl, by decide⟩
  | 25, _ => ⟨_, _, _, _, rfl, lw_at_mem (j := 8) (k := 68) rfl, rfl, ⟨by decide, by decide, by decide +kernel⟩, rfl, by decide⟩
  | 26, _ => ⟨_, _, _, _, rfl, lw_at_mem (j := 8) (k := 76) rfl, rfl, ⟨by decide, by decide, by decide +kernel⟩, rfl, by decide⟩
  | 27, _ => ⟨_, _, _, _, rfl, lw_at_mem (j := 8) (k := 80) rfl, rfl, ⟨by decide, by decide, by decide +kernel⟩, rfl, by decide⟩
  | 28, _ => ⟨_, _, _, _, rfl, lw_at_mem (j := 8) (k := 84) rfl, rfl, ⟨by decide, by decide, by decide +kernel⟩, rfl, by decide⟩
  | 29, _ => ⟨_, _, _, _, rfl, lw_at_mem (j := 8) (k := 100) rfl, rfl, ⟨by decide, by decide, by decide +kernel⟩, rfl, by decide⟩
  | 30, _ => ⟨_, _, _, _, rfl, lw_at_mem (j := 8) (k := 104) rfl, rfl, ⟨by decide, by decide, by decide +kernel⟩, rfl, by decide⟩
  | 31, _ => ⟨_, _, _, _, rfl, lw_at_mem (j := 8) (k := 108) rfl, rfl, ⟨by decide, by decide, by decide +kernel⟩, rfl, by decide⟩
  | 32, _ => ⟨_, _, _, _, rfl, lw_at_mem (j := 8) (k := 113) rfl, rfl, ⟨by decide, by decide, by decide +kernel⟩, rfl, by decide⟩
  | 33, _ => ⟨_, _, _, _, rfl, lw_at_mem (j := 8) (k := 117) rfl, rfl, ⟨by decide, by decide, by decide +kernel⟩, rfl, by decide⟩
  | 34, _ => ⟨_, _, _, _, rfl, lw_at_mem (j := 8) (k := 145) rfl, rfl, ⟨by decide, by decide, by decide +kernel⟩, rfl, by decide⟩
  | 35, _ => ⟨_, _, _, _, rfl, lw_at_mem (j := 8) (k := 149) rfl, rfl, ⟨by decide, by decide, by decide +kernel⟩, rfl, by decide⟩
  | 36, _ => ⟨_, _, _, _, rfl, lw_at_mem (j := 8) (k := 153) rfl, rfl, ⟨by decide, by decide, by decide +kernel⟩, rfl, by decide⟩
  | 37, _ => ⟨_, _, _, _, rfl, lw_at_mem (j := 8) (k := 157) rfl, rfl, ⟨by decide, by decide, by decide +kernel⟩, rfl, by decide⟩
  | 38, _ => ⟨_, _, _, _, rfl, lw_at_mem (j := 8) (k := 168) rfl, rfl, ⟨by decide, by decide, by decide +kernel⟩, rfl, by decide⟩
  | 39, _ => ⟨_, _, _, _, rfl, lw_at_mem (j := 8) (k := 173) rfl, rfl, ⟨by decide, by decide, by decide +kernel⟩, rfl, by decide⟩
  | 40, _ => ⟨_, _, _, _, rfl, lw_at_mem (j := 8) (k := 177) rfl, rfl, ⟨by decide, by decide, by decide +kernel⟩, rfl, by decide⟩
  | 41, _ => ⟨_, _, _, _, rfl, lw_at_mem (j := 8) (k := 182) rfl, rfl, ⟨by decide, by decide, by decide +kernel⟩, rfl, by decide⟩
  | 42, _ => ⟨_, _, _, _, rfl, lw_at_mem (j := 8) (k := 186) rfl, rfl, ⟨by decide, by decide, by decide +kernel⟩, rfl, by decide⟩
  | c + 43, h => absurd h (by omega)
def lav (xs : Nat → Int32) (i : Nat) : Nat → Nat → List Value
  | 0, _ => []
  | n + 1, k => .int (xs (i + k)) :: lav xs i n (k + 1)
theorem las_lav {ad : Nat → Nat → Nat} {xs : Nat → Int32} {i : Nat} {l : Int} : ∀ c, c < 43 → c ≠ 37 → (las c (fun k => (xs (i + k)).toInt) l).map (t_cv ad) = lav xs i (lci c).2.1 1
  | 0, _, _ => by simp only [las, List.map_cons, List.map_nil, t_cv, Int32.ofInt_toInt]; rfl
  | 1, _, _ => by simp only [las, List.map_cons, List.map_nil, t_cv, Int32.ofInt_toInt]; rfl
  | 2, _, _ => by simp only [las, List.map_cons, List.map_nil, t_cv, Int32.ofInt_toInt]; rfl
  | 3, _, _ => by simp only [las, List.map_cons, List.map_nil, t_cv, Int32.ofInt_toInt]; rfl
  | 4, _, _ => by simp only [las, List.map_cons, List.map_nil, t_cv, Int32.ofInt_toInt]; rfl
  | 5, _, _ => by simp only [las, List.map_cons, List.map_nil, t_cv, Int32.ofInt_toInt]; rfl
  | 6, _, _ => by simp only [las, List.map_cons, List.map_nil, t_cv, Int32.ofInt_toInt]; rfl
  | 7, _, _ => by simp only [las, List.map_cons, List.map_nil, t_cv, Int32.ofInt_toInt]; rfl
  | 8, _, _ => by simp only [las, List.map_cons, List.map_nil, t_cv, Int32.ofInt_toInt]; rfl
  | 9, _, _ => by simp only [las, List.map_cons, List.map_nil, t_cv, Int32.ofInt_toInt]; rfl
  | 10, _, _ => by simp only [las, List.map_cons, List.map_nil, t_cv, Int32.ofInt_toInt]; rfl
  | 11, _, _ => by simp only [las, List.map_cons, List.map_nil, t_cv, Int32.ofInt_toInt]; rfl
  | 12, _, _ => by simp only [las, List.map_cons, List.map_nil, t_cv, Int32.ofInt_toInt]; rfl
  | 13, _, _ => by simp only [las, List.map_cons, List.map_nil, t_cv, Int32.ofInt_toInt]; rfl
  | 14, _, _ => by simp only [las, List.map_cons, List.map_nil, t_cv, Int32.ofInt_toInt]; rfl
  | 15, _, _ => by simp only [las, List.map_cons, List.map_nil, t_cv, Int32.ofInt_toInt]; rfl
  | 16, _, _ => by simp only [las, List.map_cons, List.map_nil, t_cv, Int32.ofInt_toInt]; rfl
  | 17, _, _ => by simp only [las, List.map_cons, List.map_nil, t_cv, Int32.ofInt_toInt]; rfl
  | 18, _, _ => by simp only [las, List.map_cons, List.map_nil, t_cv, Int32.ofInt_toInt]; rfl
  | 19, _, _ => by simp only [las, List.map_cons, List.map_nil, t_cv, Int32.ofInt_toInt]; rfl
  | 20, _, _ => by simp only [las, List.map_cons, List.map_nil, t_cv, Int32.ofInt_toInt]; rfl
  | 21, _, _ => by simp only [las, List.map_cons, List.map_nil, t_cv, Int32.ofInt_toInt]; rfl
  | 22, _, _ => by simp only [las, List.map_cons, List.map_nil, t_cv, Int32.ofInt_toInt]; rfl
  | 23, _, _ => by simp only [las, List.map_cons, List.map_nil, t_cv, Int32.ofInt_toInt]; rfl
  | 24, _, _ => by simp only [las, List.map_cons, List.map_nil, t_cv, Int32.ofInt_toInt]; rfl
  | 25, _, _ => by simp only [las, List.map_cons, List.map_nil, t_cv, Int32.ofInt_toInt]; rfl
  | 26, _, _ => by simp only [las, List.map_cons, List.map_nil, t_cv, Int32.ofInt_toInt]; rfl
  | 27, _, _ => by simp only [las, List.map_cons, List.map_nil, t_cv, Int32.ofInt_toInt]; rfl
  | 28, _, _ => by simp only [las, List.map_cons, List.map_nil, t_cv, Int32.ofInt_toInt]; rfl
  | 29, _, _ => by simp only [las, List.map_cons, List.map_nil, t_cv, Int32.ofInt_toInt]; rfl
  | 30, _, _ => by simp only [las, List.map_cons, List.map_nil, t_cv, Int32.ofInt_toInt]; rfl
  | 31, _, _ => by simp only [las, List.map_cons, List.map_nil, t_cv, Int32.ofInt_toInt]; rfl
  | 32, _, _ => by simp only [las, List.map_cons, List.map_nil, t_cv, Int32.ofInt_toInt]; rfl
  | 33, _, _ => by simp only [las, List.map_cons, List.map_nil, t_cv, Int32.ofInt_toInt]; rfl
  | 34, _, _ => by simp only [las, List.map_cons, List.map_nil, t_cv, Int32.ofInt_toInt]; rfl
  | 35, _, _ => by simp only [las, List.map_cons, List.map_nil, t_cv, Int32.ofInt_toInt]; rfl
  | 36, _, _ => by simp only [las, List.map_cons, List.map_nil, t_cv, Int32.ofInt_toInt]; rfl
  | 37, _, h => absurd rfl h
  | 38, _, _ => by simp only [las, List.map_cons, List.map_nil, t_cv, Int32.ofInt_toInt]; rfl
  | 39, _, _ => by simp only [las, List.map_cons, List.map_nil, t_cv, Int32.ofInt_toInt]; rfl
  | 40, _, _ => by simp only [las, List.map_cons, List.map_nil, t_cv, Int32.ofInt_toInt]; rfl
  | 41, _, _ => by simp only [las, List.map_cons, List.map_nil, t_cv, Int32.ofInt_toInt]; rfl
  | 42, _, _ => by simp only [las, List.map_cons, List.map_nil, t_cv, Int32.ofInt_toInt]; rfl
  | c + 43, h, _ => absurd h (by omega)
theorem las_len {s1 s2 : Nat → Int} {l1 l2 : Int} : ∀ c, c < 43 → (las c s1 l1).length = (las c s2 l2).length
  | 0, _ => rfl
  | 1, _ => rfl
  | 2, _ => rfl
  | 3, _ => rfl
  | 4, _ => rfl
  | 5, _ => rfl
  | 6, _ => rfl
  | 7, _ => rfl
  | 8, _ => rfl
  | 9, _ => rfl
  | 10, _ => rfl
  | 11, _ => rfl
  | 12, _ => rfl
  | 13, _ => rfl
  | 14, _ => rfl
  | 15, _ => rfl
  | 16, _ => rfl
  | 17, _ => rfl
  | 18, _ => rfl
  | 19, _ => rfl
  | 20, _ => rfl
  | 21, _ => rfl
  | 22, _ => rfl
  | 23, _ => rfl
  | 24, _ => rfl
  | 25, _ => rfl
  | 26, _ => rfl
  | 27, _ => rfl
  | 28, _ => rfl
  | 29, _ => rfl
  | 30, _ => rfl
  | 31, _ => rfl
  | 32, _ => rfl
  | 33, _ => rfl
  | 34, _ => rfl
  | 35, _ => rfl
  | 36, _ => rfl
  | 37, _ => rfl
  | 38, _ => rfl
  | 39, _ => rfl
  | 40, _ => rfl
  | 41, _ => rfl
  | 42, _ => rfl
  | c + 43, h => absurd h (by omega)
theorem las_ok {hs : List (Nat × Nat)} {s1 : Nat → Int} {l1 : Int} (h1 : ∀ k, R32 (s1 k)) (h2 : R64 l1) : ∀ c, c < 43 → ∀ v ∈ las c s1 l1, OkV hs v
  | 0, _, v, hv => by
    simp only [las, List.mem_cons, List.not_mem_nil, or_false] at hv
    subst hv
    exact h1 1
  | 1, _, v, hv => by
    simp only [las, List.mem_cons, List.not_mem_nil, or_false] at hv
    subst hv
    exact h1 1
  | 2, _, v, hv => by
    simp only [las, List.mem_cons, List.not_mem_nil, or_false] at hv
    rcases hv with rfl | rfl | rfl
    · exact h1 1
    · exact h1 2
    · exact h1 3
  | 3, _, v, hv => by
    simp only [las, List.mem_cons, List.not_mem_nil, or_false] at hv
    rcases hv with rfl | rfl
    · exact h1 1
    · exact h1 2
  | 4, _, v, hv => by
    simp only [las, List.mem_cons, List.not_mem_nil, or_false] at hv
    rcases hv with rfl | rfl
    · exact h1 1
    · exact h1 2
  | 5, _, v, hv => by
    simp only [las, List.mem_cons, List.not_mem_nil, or_false] at hv
    rcases hv with rfl | rfl
    · exact h1 1
    · exact h1 2
  | 6, _, v, hv => by
    simp only [las, List.mem_cons, List.not_mem_nil, or_false] at hv
    rcases hv with rfl | rfl | rfl
    · exact h1 1
    · exact h1 2
    · exact h1 3
  | 7, _, v, hv => by
    simp only [las, List.mem_cons, List.not_mem_nil, or_false] at hv
    rcases hv with rfl | rfl
    · exact h1 1
    · exact h1 2
  | 8, _, v, hv => by
    simp only [las, List.mem_cons, List.not_mem_nil, or_false] at hv
    rcases hv with rfl | rfl
    · exact h1 1
    · exact h1 2
  | 9, _, v, hv => by
    simp only [las, List.mem_cons, List.not_mem_nil, or_false] at hv
    rcases hv with rfl | rfl
    · exact h1 1
    · exact h1 2
  | 10, _, v, hv => by
    simp only [las, List.mem_cons, List.not_mem_nil, or_false] at hv
    rcases hv with rfl | rfl
    · exact h1 1
    · exact h1 2
  | 11, _, v, hv => by
    simp only [las, List.mem_cons, List.not_mem_nil, or_false] at hv
    rcases hv with rfl | rfl
    · exact h1 1
    · exact h1 2
  | 12, _, v, hv => by
    simp only [las, List.mem_cons, List.not_mem_nil, or_false] at hv
    rcases hv with rfl | rfl | rfl
    · exact h1 1
    · exact h1 2
    · exact h1 3
  | 13, _, v, hv => by
    simp only [las, List.mem_cons, List.not_mem_nil, or_false] at hv
    rcases hv with rfl | rfl
    · exact h1 1
    · exact h1 2
  | 14, _, v, hv => by
    simp only [las, List.mem_cons, List.not_mem_nil, or_false] at hv
    rcases hv with rfl | rfl
    · exact h1 1
    · exact h1 2
  | 15, _, v, hv => by
    simp only [las, List.mem_cons, List.not_mem_nil, or_false] at hv
    rcases hv with rfl | rfl | rfl
    · exact h1 1
    · exact h1 2
    · exact h1 3
  | 16, _, v, hv => by
    simp only [las, List.mem_cons, List.not_mem_nil, or_false] at hv
    rcases hv with rfl | rfl
    · exact h1 1
    · exact h1 2
  | 17, _, v, hv => by
    simp only [las, List.mem_cons, List.not_mem_nil, or_false] at hv
    rcases hv with rfl | rfl | rfl | rfl
    · exact h1 1
    · exact h1 2
    · exact h1 3
    · exact h1 4
  | 18, _, v, hv => by
    simp only [las, List.mem_cons, List.not_mem_nil, or_false] at hv
    rcases hv with rfl | rfl | rfl
    · exact h1 1
    · exact h1 2
    · exact h1 3
  | 19, _, v, hv => by
    simp only [las, List.mem_cons, List.not_mem_nil, or_false] at hv
    rcases hv with rfl | rfl
    · exact h1 1
    · exact h1 2
  | 20, _, v, hv => by
    simp only [las, List.mem_cons, List.not_mem_nil, or_false] at hv
    rcases hv with rfl | rfl | rfl | rfl
    · exact h1 1
    · exact h1 2
    · exact h1 3
    · exact h1 4
  | 21, _, v, hv => by
    simp only [las, List.mem_cons, List.not_mem_nil, or_false] at hv
    subst hv
    exact h1 1
  | 22, _, v, hv => by
    simp only [las, List.mem_cons, List.not_mem_nil, or_false] at hv
    subst hv
    exact h1 1
  | 23, _, v, hv => by
    simp only [las, List.mem_cons, List.not_mem_nil, or_false] at hv
    rcases hv with rfl | rfl
    · exact h1 1
    · exact h1 2
  | 24, _, v, hv => by
    simp only [las, List.mem_cons, List.not_mem_nil, or_false] at hv
    rcases hv with rfl | rfl
    · exact h1 1
    · exact h1 2
  | 25, _, v, hv => by
    simp only [las, List.mem_cons, List.not_mem_nil, or_false] at hv
    rcases hv with rfl | rfl
    · exact h1 1
    · exact h1 2
  | 26, _, v, hv => by
    simp only [las, List.mem_cons, List.not_mem_nil, or_false] at hv
    rcases hv with rfl | rfl
    · exact h1 1
    · exact h1 2
  | 27, _, v, hv => by
    simp only [las, List.mem_cons, List.not_mem_nil, or_false] at hv
    rcases hv with rfl | rfl | rfl
    · exact h1 1
    · exact h1 2
    · exact h1 3
  | 28, _, v, hv => by cases hv
  | 29, _, v, hv => by
    simp only [las, List.mem_cons, List.not_mem_nil, or_false] at hv
    subst hv
    exact h1 1
  | 30, _, v, hv => by
    simp only [las, List.mem_cons, List.not_mem_nil, or_false] at hv
    subst hv
    exact h1 1
  | 31, _, v, hv => by
    simp only [las, List.mem_cons, List.not_mem_nil, or_false] at hv
    rcases hv with rfl | rfl
    · exact h1 1
    · exact h1 2
  | 32, _, v, hv => by
    simp only [las, List.mem_cons, List.not_mem_nil, or_false] at hv
    subst hv
    exact h1 1
  | 33, _, v, hv => by
    simp only [las, List.mem_cons, List.not_mem_nil, or_false] at hv
    rcases hv with rfl | rfl | rfl
    · exact h1 1
    · exact h1 2
    · exact h1 3
  | 34, _, v, hv => by
    simp only [las, List.mem_cons, List.not_mem_nil, or_false] at hv
    subst hv
    exact h1 1
  | 35, _, v, hv => by
    simp only [las, List.mem_cons, List.not_mem_nil, or_false] at hv
    rcases hv with rfl | rfl
    · exact h1 1
    · exact h1 2
  | 36, _, v, hv => by
    simp only [las, List.mem_cons, List.not_mem_nil, or_false] at hv
    rcases hv with rfl | rfl | rfl
    · exact h1 1
    · exact h1 2
    · exact h1 3
  | 37, _, v, hv => by
    simp only [las, List.mem_cons, List.not_mem_nil, or_false] at hv
    rcases hv with rfl | rfl | rfl
    · exact h1 1
    · exact h1 2
    · exact h2
  | 38, _, v, hv => by
    simp only [las, List.mem_cons, List.not_mem_nil, or_false] at hv
    rcases hv with rfl | rfl
    · exact h1 1
    · exact h1 2
  | 39, _, v, hv => by
    simp only [las, List.mem_cons, List.not_mem_nil, or_false] at hv
    rcases hv with rfl | rfl | rfl | rfl | rfl
    · exact h1 1
    · exact h1 2
    · exact h1 3
    · exact h1 4
    · exact h1 5
  | 40, _, v, hv => by
    simp only [las, List.mem_cons, List.not_mem_nil, or_false] at hv
    rcases hv with rfl | rfl
    · exact h1 1
    · exact h1 2
  | 41, _, v, hv => by
    simp only [las, List.mem_cons, List.not_mem_nil, or_false] at hv
    subst hv
    exact h1 1
  | 42, _, v, hv => by
    simp only [las, List.mem_cons, List.not_mem_nil, or_false] at hv
    subst hv
    exact h1 1
  | c + 43, h, _, _ => absurd h (by omega)
theorem dl_1461 : decode code 1461 = .ok (.aload_n 1, 1) := by decide +kernel
theorem dl_1462 : decode code 1462 = .ok (.aload_n 0, 1) := by decide +kernel
theorem dl_1463 : decode code 1463 = .ok (.iload_n 3, 1) := by decide +kernel
theorem dl_1464 : decode code 1464 = .ok (.iconst 1, 1) := by decide +kernel
theorem dl_1465 : decode code 1465 = .ok (.iadd, 1) := by decide +kernel
theorem dl_1466 : decode code 1466 = .ok (.iaload, 1) := by decide +kernel
theorem dl_1467 : decode code 1467 = .ok (.aload_n 0, 1) := by decide +kernel
theorem dl_1468 : decode code 1468 = .ok (.iload_n 3, 1) := by decide +kernel
theorem dl_1469 : decode code 1469 = .ok (.iconst 2, 1) := by decide +kernel
theorem dl_1470 : decode code 1470 = .ok (.iadd, 1) := by decide +kernel
theorem dl_1471 : decode code 1471 = .ok (.iaload, 1) := by decide +kernel
theorem dl_1472 : decode code 1472 = .ok (.aload_n 0, 1) := by decide +kernel
theorem dl_1473 : decode code 1473 = .ok (.iload_n 3, 1) := by decide +kernel
theorem dl_1474 : decode code 1474 = .ok (.iconst 3, 1) := by decide +kernel
theorem dl_1475 : decode code 1475 = .ok (.iadd, 1) := by decide +kernel
theorem dl_1476 : decode code 1476 = .ok (.iaload, 1) := by decide +kernel
theorem dl_1477 : decode code 1477 = .ok (.i2l, 1) := by decide +kernel
theorem dl_1478 : decode code 1478 = .ok (.bipush 32, 2) := by decide +kernel
theorem dl_1480 : decode code 1480 = .ok (.lshl, 1) := by decide +kernel
theorem dl_1481 : decode code 1481 = .ok (.aload_n 0, 1) := by decide +kernel
theorem dl_1482 : decode code 1482 = .ok (.iload_n 3, 1) := by decide +kernel
theorem dl_1483 : decode code 1483 = .ok (.iconst 4, 1) := by decide +kernel
theorem dl_1484 : decode code 1484 = .ok (.iadd, 1) := by decide +kernel
theorem dl_1485 : decode code 1485 = .ok (.iaload, 1) := by decide +kernel
theorem dl_1486 : decode code 1486 = .ok (.i2l, 1) := by decide +kernel
theorem dl_1487 : decode code 1487 = .ok (.ldc2_w 166, 3) := by decide +kernel
theorem dl_1490 : decode code 1490 = .ok (.land, 1) := by decide +kernel
theorem dl_1491 : decode code 1491 = .ok (.lor, 1) := by decide +kernel
theorem dl_1492 : decode code 1492 = .ok (.invokevirtual 168, 3) := by decide +kernel
theorem dl_1495 : decode code 1495 = .ok (.aload_n 2, 1) := by decide +kernel
theorem dl_1496 : decode code 1496 = .ok (.aload_n 0, 1) := by decide +kernel
theorem dl_1497 : decode code 1497 = .ok (.iload_n 3, 1) := by decide +kernel
theorem dl_1498 : decode code 1498 = .ok (.iconst 1, 1) := by decide +kernel
theorem dl_1499 : decode code 1499 = .ok (.iadd, 1) := by decide +kernel
theorem dl_1500 : decode code 1500 = .ok (.iaload, 1) := by decide +kernel
theorem dl_1501 : decode code 1501 = .ok (.aload_n 0, 1) := by decide +kernel
theorem dl_1502 : decode code 1502 = .ok (.iload_n 3, 1) := by decide +kernel
theorem dl_1503 : decode code 1503 = .ok (.iconst 2, 1) := by decide +kernel
theorem dl_1504 : decode code 1504 = .ok (.iadd, 1) := by decide +kernel
theorem dl_1505 : decode code 1505 = .ok (.iaload, 1) := by decide +kernel
theorem dl_1506 : decode code 1506 = .ok (.aload_n 0, 1) := by decide +kernel
theorem dl_1507 : decode code 1507 = .ok (.iload_n 3, 1) := by decide +kernel
theorem dl_1508 : decode code 1508 = .ok (.iconst 3, 1) := by decide +kernel
theorem dl_1509 : decode code 1509 = .ok (.iadd, 1) := by decide +kernel
theorem dl_1510 : decode code 1510 = .ok (.iaload, 1) := by decide +kernel
theorem dl_1511 : decode code 1511 = .ok (.i2l, 1) := by decide +kernel
theorem dl_1512 : decode code 1512 = .ok (.bipush 32, 2) := by decide +kernel
theorem dl_1514 : decode code 1514 = .ok (.lshl, 1) := by decide +kernel
theorem dl_1515 : decode code 1515 = .ok (.aload_n 0, 1) := by decide +kernel
theorem dl_1516 : decode code 1516 = .ok (.iload_n 3, 1) := by decide +kernel
theorem dl_1517 : decode code 1517 = .ok (.iconst 4, 1) := by decide +kernel
theorem dl_1518 : decode code 1518 = .ok (.iadd, 1) := by decide +kernel
theorem dl_1519 : decode code 1519 = .ok (.iaload, 1) := by decide +kernel
theorem dl_1520 : decode code 1520 = .ok (.i2l, 1) := by decide +kernel
theorem dl_1521 : decode code 1521 = .ok (.ldc2_w 166, 3) := by decide +kernel
theorem dl_1524 : decode code 1524 = .ok (.land, 1) := by decide +kernel
theorem dl_1525 : decode code 1525 = .ok (.lor, 1) := by decide +kernel
theorem dl_1526 : decode code 1526 = .ok (.invokevirtual 172, 3) := by decide +kernel
theorem dl_1529 : decode code 1529 = .ok (.if_icmp .eq 181, 3) := by decide +kernel
theorem dl_1532 : decode code 1532 = .ok (.iconst 0, 1) := by decide +kernel
theorem dl_1533 : decode code 1533 = .ok (.ireturn, 1) := by decide +kernel
theorem zw_m32 : Cond.constantLong RL 166 (4294967295 : Int64) ∈ lw_tbl := lw_at_mem (j := 8) (k := 190) rfl
