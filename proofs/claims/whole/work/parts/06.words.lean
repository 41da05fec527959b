-- the tables of the claim, by places
def lw_at (j k : Nat) : Option Cond := match j with
  | 0 => t_nth (k2_sels lw_privs) k
  | 1 => t_nth tables_1_1 k
  | 2 => t_nth tables_1_2 k
  | 3 => t_nth tables_1_3 k
  | 4 => t_nth tables_1_4 k
  | 5 => t_nth tables_1_5 k
  | 6 => t_nth tables_1_6 k
  | 7 => t_nth tables_1_7 k
  | 8 => t_nth tables_1_8 k
  | _ => none
theorem t_nth_mem {α : Type} : ∀ (l : List α) (k : Nat) (a : α), t_nth l k = some a → a ∈ l
  | [], _, _, h => by cases h
  | x :: l, 0, a, h => by cases h; exact List.mem_cons_self
  | x :: l, k + 1, a, h => List.mem_cons_of_mem _ (t_nth_mem l k a h)
theorem lw_at_mem {j k : Nat} {w : Cond} (h : lw_at j k = some w) : w ∈ lw_tbl := by
  unfold lw_tbl tables_1
  simp only [List.mem_append]
  unfold lw_at at h
  split at h
  · have := t_nth_mem _ _ _ h; simp only [this, true_or, or_true]
  · have := t_nth_mem _ _ _ h; simp only [this, true_or, or_true]
  · have := t_nth_mem _ _ _ h; simp only [this, true_or, or_true]
  · have := t_nth_mem _ _ _ h; simp only [this, true_or, or_true]
  · have := t_nth_mem _ _ _ h; simp only [this, true_or, or_true]
  · have := t_nth_mem _ _ _ h; simp only [this, true_or, or_true]
  · have := t_nth_mem _ _ _ h; simp only [this, true_or, or_true]
  · have := t_nth_mem _ _ _ h; simp only [this, true_or, or_true]
  · have := t_nth_mem _ _ _ h; simp only [this, true_or, or_true]
  · cases h
def cn (c : Nat) : String := match c with
  | 0 => RX0
  | 1 => RX1
  | 2 => RX2
  | 3 => RX3
  | 4 => RX4
  | 5 => RX5
  | 6 => RX6
  | 7 => RX7
  | 8 => RX8
  | 9 => RX9
  | 10 => RX10
  | 11 => RX11
  | 12 => RX12
  | 13 => RJ6
  | 14 => RJ13
  | 15 => RJ9
  | 16 => RJ0
  | 17 => RJ1
  | _ => ""
def vT (c : Nat) : u_T := match c with
  | 0 => TX0
  | 1 => TX1
  | 2 => TX2
  | 3 => TX3
  | 4 => TX4
  | 5 => TX5
  | 6 => TX6
  | 7 => TX7
  | 8 => TX8
  | 9 => TX9
  | 10 => TX10
  | 11 => TX11
  | _ => TX12
def vN (c : Nat) : Nat := match c with
  | 0 => 6
  | 1 => 6
  | 2 => 7
  | 3 => 7
  | 4 => 14
  | 5 => 7
  | 6 => 11
  | 7 => 7
  | 8 => 4
  | 9 => 3
  | 10 => 10
  | 11 => 19
  | _ => 86
def fw (own : Nat) (e : Nat × (Nat × Nat × Bool)) : Cond := .fieldLink (cn own) e.1 (vT e.2.1 e.2.2.1).1 (vT e.2.1 e.2.2.1).2.1 (vT e.2.1 e.2.2.1).2.2.1
set_option maxRecDepth 100000 in
theorem fw_0 : (tb_f0).map (fun e => some (fw 0 e)) = [lw_at 1 224, lw_at 1 226, lw_at 1 228, lw_at 1 229, lw_at 1 230, lw_at 1 231, lw_at 2 116, lw_at 2 119, lw_at 2 113] := rfl
set_option maxRecDepth 100000 in
theorem fw_1 : (tb_f1).map (fun e => some (fw 1 e)) = [lw_at 2 80, lw_at 2 82, lw_at 2 84, lw_at 2 86, lw_at 2 88, lw_at 2 90] := rfl
set_option maxRecDepth 100000 in
theorem fw_2 : (tb_f2).map (fun e => some (fw 2 e)) = [lw_at 2 12, lw_at 2 14, lw_at 2 16, lw_at 2 18, lw_at 2 20, lw_at 2 22, lw_at 2 24] := rfl
set_option maxRecDepth 100000 in
theorem fw_3 : (tb_f3).map (fun e => some (fw 3 e)) = [lw_at 2 46, lw_at 2 48, lw_at 2 50, lw_at 2 52, lw_at 2 54, lw_at 2 56, lw_at 2 58] := rfl
set_option maxRecDepth 100000 in
theorem fw_4 : (tb_f4).map (fun e => some (fw 4 e)) = [lw_at 1 102, lw_at 1 104, lw_at 1 105, lw_at 1 106, lw_at 1 108, lw_at 1 110, lw_at 1 111, lw_at 1 112, lw_at 1 113, lw_at 1 114, lw_at 1 115, lw_at 1 116, lw_at 1 117, lw_at 1 118, lw_at 1 49, lw_at 1 67, lw_at 1 58, lw_at 1 55, lw_at 1 52, lw_at 1 62, lw_at 1 65, lw_at 1 71, lw_at 1 73] := rfl
set_option maxRecDepth 100000 in
theorem fw_5 : (tb_f5).map (fun e => some (fw 5 e)) = [lw_at 2 110, lw_at 2 112, lw_at 2 115, lw_at 2 118, lw_at 2 121, lw_at 2 123, lw_at 2 125] := rfl
set_option maxRecDepth 100000 in
theorem fw_6 : (tb_f6).map (fun e => some (fw 6 e)) = [lw_at 1 48, lw_at 1 51, lw_at 1 54, lw_at 1 57, lw_at 1 60, lw_at 1 63, lw_at 1 66, lw_at 1 69, lw_at 1 72, lw_at 1 75, lw_at 1 76] := rfl
set_option maxRecDepth 100000 in
theorem fw_7 : (tb_f7).map (fun e => some (fw 7 e)) = [lw_at 2 147, lw_at 2 149, lw_at 2 151, lw_at 2 153, lw_at 2 155, lw_at 2 157, lw_at 2 159] := rfl
set_option maxRecDepth 100000 in
theorem fw_8 : (tb_f8).map (fun e => some (fw 8 e)) = [lw_at 2 180, lw_at 2 182, lw_at 2 184, lw_at 2 186] := rfl
set_option maxRecDepth 100000 in
theorem fw_9 : (tb_f9).map (fun e => some (fw 9 e)) = [lw_at 1 160, lw_at 1 162, lw_at 1 163, lw_at 2 156, lw_at 2 158] := rfl
set_option maxRecDepth 100000 in
theorem fw_10 : (tb_f10).map (fun e => some (fw 10 e)) = [lw_at 1 177, lw_at 1 179, lw_at 1 181, lw_at 1 183, lw_at 1 185, lw_at 1 187, lw_at 1 189, lw_at 1 191, lw_at 1 193, lw_at 1 195] := rfl
set_option maxRecDepth 100000 in
theorem fw_11 : (tb_f11).map (fun e => some (fw 11 e)) = [lw_at 2 198, lw_at 2 199, lw_at 2 200, lw_at 2 201, lw_at 2 202, lw_at 2 203, lw_at 1 103, lw_at 2 204, lw_at 2 205, lw_at 2 206, lw_at 2 207, lw_at 2 208, lw_at 2 209, lw_at 2 210, lw_at 2 211, lw_at 2 212, lw_at 2 213, lw_at 2 214, lw_at 2 215, lw_at 2 216, lw_at 2 13, lw_at 2 15, lw_at 2 17, lw_at 2 23, lw_at 2 25, lw_at 2 47, lw_at 2 49, lw_at 2 57, lw_at 2 19, lw_at 2 51, lw_at 2 53, lw_at 1 50, lw_at 1 53, lw_at 1 56, lw_at 1 59, lw_at 1 70, lw_at 1 68, lw_at 1 61, lw_at 1 64, lw_at 2 55, lw_at 2 21, lw_at 1 161, lw_at 2 148, lw_at 2 150, lw_at 2 152, lw_at 2 154, lw_at 2 81, lw_at 2 83, lw_at 2 85, lw_at 2 87, lw_at 2 89, lw_at 2 91, lw_at 2 111, lw_at 2 114, lw_at 2 124, lw_at 2 126, lw_at 2 117, lw_at 2 120, lw_at 2 122, lw_at 2 181, lw_at 2 185, lw_at 2 187, lw_at 1 74, lw_at 1 107, lw_at 2 59, lw_at 1 109, lw_at 1 178, lw_at 1 182, lw_at 1 180, lw_at 1 196, lw_at 1 184, lw_at 1 186, lw_at 1 188, lw_at 1 190, lw_at 1 192, lw_at 1 194, lw_at 1 227, lw_at 1 225, lw_at 2 183] := rfl
set_option maxRecDepth 100000 in
theorem fw_12 : (tb_f12).map (fun e => some (fw 12 e)) = [lw_at 5 204, lw_at 5 205, lw_at 5 206, lw_at 5 207, lw_at 5 208, lw_at 5 209, lw_at 5 210, lw_at 5 212, lw_at 5 213, lw_at 5 214, lw_at 5 215, lw_at 5 216, lw_at 5 217, lw_at 5 219, lw_at 5 220, lw_at 5 221, lw_at 5 222, lw_at 5 223, lw_at 5 224, lw_at 5 225, lw_at 5 227, lw_at 5 228, lw_at 5 229, lw_at 5 230, lw_at 5 232, lw_at 5 233, lw_at 5 234, lw_at 5 235, lw_at 5 236, lw_at 5 238, lw_at 5 239, lw_at 6 0, lw_at 6 1, lw_at 6 2, lw_at 6 3, lw_at 6 5, lw_at 6 6, lw_at 6 7, lw_at 6 8, lw_at 6 9, lw_at 6 10, lw_at 6 11, lw_at 6 18, lw_at 6 19, lw_at 6 20, lw_at 6 21, lw_at 6 22, lw_at 6 23, lw_at 6 24, lw_at 6 25, lw_at 6 26, lw_at 6 28, lw_at 6 29, lw_at 6 30, lw_at 6 31, lw_at 6 32, lw_at 6 33, lw_at 6 34, lw_at 6 36, lw_at 6 38, lw_at 6 39, lw_at 6 40, lw_at 6 42, lw_at 6 45, lw_at 6 46, lw_at 6 47, lw_at 6 48, lw_at 5 211, lw_at 5 218, lw_at 5 226, lw_at 5 203, lw_at 5 231, lw_at 6 14, lw_at 6 15, lw_at 6 13, lw_at 6 16, lw_at 6 17, lw_at 5 237, lw_at 6 4, lw_at 6 12, lw_at 6 27, lw_at 6 35, lw_at 6 41, lw_at 6 37, lw_at 6 43, lw_at 6 44] := rfl
def mI (k : Nat) : Option (MethodName × ByteArray × Nat × Option FieldType × Bool) := t_nth [(yX0_begin, prog_2_method_2_code, 1, none, false), (yX0_of, prog_2_method_3_code, 3, none, false), (yX0_began, prog_2_method_4_code, 2, none, false), (yX0_run, prog_2_method_5_code, 4, some .int, false), (yX0_means, prog_2_method_6_code, 3, some .int, false), (yX0_clashes, prog_2_method_7_code, 3, some .int, false), (yX0_hides, prog_2_method_8_code, 4, some .int, false), (yX0_ends, prog_2_method_9_code, 4, some .int, false), (yX1_late, prog_3_method_2_code, 1, some .boolean, false), (yX2_due, prog_4_method_2_code, 2, some .int, false), (yX2_firstDue, prog_4_method_3_code, 3, some .int, false), (yX3_owed, prog_5_method_2_code, 4, some .int, false), (yX4_begin, prog_6_method_2_code, 4, none, false), (yX4_give, prog_6_method_3_code, 5, none, false), (yX4_workOut, prog_6_method_4_code, 3, none, false), (yX4_goal, prog_6_method_5_code, 2, some .int, false), (yX4_measure, prog_6_method_6_code, 4, none, false), (yX4_findFirst, prog_6_method_7_code, 5, none, false), (yX4_compare, prog_6_method_8_code, 3, some .int, false), (yX4_failSwaps, prog_6_method_9_code, 4, none, false), (yX4_failBlocked, prog_6_method_10_code, 6, some .boolean, false), (yX4_goes, prog_6_method_11_code, 2, some .boolean, false), (yX4_cellAfter, prog_6_method_12_code, 3, some .int, false), (yX4_numberAfter, prog_6_method_13_code, 4, some .int, false), (yX4_carryOut, prog_6_method_14_code, 4, none, false), (yX6_goBack, prog_8_method_2_code, 2, none, false), (yX6_isElsewhere, prog_8_method_3_code, 1, some .boolean, false), (yX7_add, prog_9_method_2_code, 2, none, false), (yX7_worth, prog_9_method_3_code, 6, some .int, false), (yX7_joined, prog_9_method_4_code, 3, some .int, true), (yX8_isRow, prog_10_method_2_code, 1, some .boolean, false), (yX8_becomeRow, prog_10_method_3_code, 4, none, false), (yX8_refusal, prog_10_method_4_code, 2, some .int, false), (yX8_hasRun, prog_10_method_5_code, 3, some .boolean, false), (yX8_cut, prog_10_method_6_code, 3, some .long, false), (yX9_add, prog_11_method_2_code, 2, none, false), (yX9_next, prog_11_method_3_code, 1, some .int, false), (yX9_compile, prog_11_method_4_code, 3, some .int, false), (yX9_line, prog_11_method_5_code, 3, some .boolean, false), (yX9_either, prog_11_method_6_code, 4, some .boolean, false), (yX9_both, prog_11_method_7_code, 4, some .boolean, false), (yX9_compared, prog_11_method_8_code, 4, some .boolean, false), (yX9_sum, prog_11_method_9_code, 5, some .boolean, false), (yX9_product, prog_11_method_10_code, 5, some .boolean, false), (yX9_operand, prog_11_method_11_code, 4, some .boolean, false), (yX9_number, prog_11_method_12_code, 4, none, false), (yX9_name, prog_11_method_13_code, 4, some .boolean, false), (yX10_tell, prog_12_method_2_code, 5, some .int, false), (yX10_placeOf, prog_12_method_3_code, 3, some .int, false), (yX10_rows, prog_12_method_4_code, 3, some .int, false), (yX10_pick, prog_12_method_5_code, 4, none, false), (yX10_pickDigits, prog_12_method_6_code, 4, some .boolean, false), (yX10_choose, prog_12_method_7_code, 3, none, false), (yX11_days, prog_1_method_2_code, 2, some .int, false), (yX11_game, prog_1_method_3_code, 3, some .int, false), (yX11_cell, prog_1_method_4_code, 8, some .int, false), (yX11_holder, prog_1_method_5_code, 4, some .int, false), (yX11_runs, prog_1_method_6_code, 4, some .int, false), (yX11_drops, prog_1_method_7_code, 4, some .int, false), (yX11_piece, prog_1_method_8_code, 6, some .int, false), (yX11_ofPiece, prog_1_method_9_code, 4, some .int, false), (yX11_ofHolder, prog_1_method_10_code, 5, some .int, false), (yX11_ofGame, prog_1_method_11_code, 4, some .int, false), (yX11_isGame, prog_1_method_12_code, 2, some .boolean, false), (yX11_isHolder, prog_1_method_13_code, 2, some .boolean, false), (yX11_isPiece, prog_1_method_14_code, 2, some .boolean, false), (yX11_isCard, prog_1_method_15_code, 2, some .boolean, false), (yX11_isOrder, prog_1_method_16_code, 2, some .boolean, false), (yX11_isCell, prog_1_method_17_code, 1, some .boolean, true), (yX11_isTurn, prog_1_method_18_code, 1, some .boolean, true), (yX11_isShelf, prog_1_method_19_code, 1, some .boolean, true), (yX11_distance, prog_1_method_20_code, 2, some .int, true), (yX11_pieceIn, prog_1_method_21_code, 5, some .int, false), (yX11_piecesOf, prog_1_method_22_code, 4, some .int, false), (yX11_feed, prog_1_method_23_code, 4, some .int, false), (yX11_rule, prog_1_method_24_code, 5, some .int, false), (yX11_inForce, prog_1_method_25_code, 5, some .int, false), (yX11_says, prog_1_method_26_code, 4, some .int, false), (yX11_drawn, prog_1_method_27_code, 3, some .int, false), (yX11_isRuled, prog_1_method_28_code, 2, some .boolean, false), (yX11_ruleIn, prog_1_method_29_code, 7, some .int, false), (yX11_drawnFor, prog_1_method_30_code, 4, some .int, false), (yX11_clearNames, prog_1_method_31_code, 2, none, false), (yX11_namePiece, prog_1_method_32_code, 7, none, false), (yX11_mayBe, prog_1_method_33_code, 6, some .boolean, false), (yX11_tieOf, prog_1_method_34_code, 6, some .int, false), (yX11_sightOf, prog_1_method_35_code, 5, some .int, false), (yX11_feeOf, prog_1_method_36_code, 6, some .int, false), (yX11_within, prog_1_method_37_code, 2, some .int, true), (yX11_card, prog_1_method_38_code, 6, some .int, false), (yX11_ofCard, prog_1_method_39_code, 4, some .int, false), (yX11_order, prog_1_method_40_code, 5, some .int, false), (yX11_turn, prog_1_method_41_code, 7, some .int, false), (yX11_ofOrder, prog_1_method_42_code, 4, some .int, false), (yX11_read, prog_1_method_43_code, 9, some .int, false), (yX11_orderOf, prog_1_method_44_code, 4, some .int, false), (yX11_isSound, prog_1_method_45_code, 4, some .boolean, false), (yX11_isKindTold, prog_1_method_46_code, 3, some .boolean, true), (yX11_addOrder, prog_1_method_47_code, 7, none, false), (yX11_readFour, prog_1_method_48_code, 8, none, false), (yX11_cardCounts, prog_1_method_49_code, 3, some .boolean, false), (yX11_canBe, prog_1_method_50_code, 5, some .boolean, false), (yX11_isOfTurn, prog_1_method_51_code, 6, some .boolean, false), (yX11_fits, prog_1_method_52_code, 4, some .boolean, false), (yX11_holdsGood, prog_1_method_53_code, 5, some .boolean, false), (yX11_done, prog_1_method_54_code, 3, some .int, false), (yX11_again, prog_1_method_55_code, 6, some .int, false), (yX11_was, prog_1_method_56_code, 4, some .int, false), (yX11_doTurn, prog_1_method_57_code, 4, none, false), (yX11_giveOrders, prog_1_method_58_code, 6, none, false), (yX11_playsIn, prog_1_method_59_code, 4, some .boolean, false), (yX11_settle, prog_1_method_60_code, 5, none, false), (yX11_coinsAfter, prog_1_method_61_code, 7, some .int, false), (yX11_sees, prog_1_method_62_code, 4, some .int, false), (yX11_alike, prog_1_method_63_code, 3, some .int, false), (yX11_sheetOf, prog_1_method_64_code, 8, some .long, false), (yX11_way, prog_1_method_65_code, 4, some .int, false), (yX11_best, prog_1_method_66_code, 11, some .int, false), (yX11_bestWay, prog_1_method_67_code, 2, some .int, false), (yX11_judge, prog_1_method_68_code, 4, some .int, false), (yX11_canJudge, prog_1_method_69_code, 1, some .boolean, false), (yX11_readyWays, prog_1_method_70_code, 10, none, false), (yX11_playRow, prog_1_method_71_code, 5, some .int, false), (yX11_pay, prog_1_method_72_code, 3, some .int, false), (yX11_bar, prog_1_method_73_code, 5, some .int, false), (yX11_act, prog_1_method_74_code, 4, some .int, false), (yX11_trace, prog_1_method_75_code, 2, some .int, false), (yX11_keep, prog_1_method_76_code, 4, some .int, false), (yX11_row, prog_1_method_77_code, 4, some .int, false), (yX11_put, prog_1_method_78_code, 7, some .int, false), (yX11_element, prog_1_method_79_code, 4, some .long, false), (yX11_shift, prog_1_method_80_code, 8, some .int, false), (yX11_taken, prog_1_method_81_code, 5, some .int, false), (yX11_check, prog_1_method_82_code, 7, some .int, false), (yX11_count, prog_1_method_83_code, 2, some .int, false), (yX11_piecesThere, prog_1_method_84_code, 3, some .int, false), (yX11_isUnder, prog_1_method_85_code, 2, some .boolean, true), (yX11_isBalanced, prog_1_method_86_code, 8, some .boolean, false), (yX12_within, prog_14_method_2_code, 6, some .boolean, true), (yX12_isGame, prog_14_method_3_code, 2, some .boolean, false), (yX12_isHolder, prog_14_method_4_code, 2, some .boolean, false), (yX12_isPiece, prog_14_method_5_code, 2, some .boolean, false), (yX12_isCell, prog_14_method_6_code, 1, some .boolean, true), (yX12_size, prog_14_method_7_code, 1, some .int, true), (yX12_wayOf, prog_14_method_8_code, 2, some .int, true), (yX12_gameOf, prog_14_method_9_code, 2, some .int, false), (yX12_days, prog_14_method_10_code, 2, some .int, false), (yX12_game, prog_14_method_11_code, 2, some .int, false), (yX12_pieceAt, prog_14_method_12_code, 4, some .int, false), (yX12_cell, prog_14_method_13_code, 8, some .int, false), (yX12_holder, prog_14_method_14_code, 3, some .int, false), (yX12_runs, prog_14_method_15_code, 4, some .int, false), (yX12_drops, prog_14_method_16_code, 3, some .int, false), (yX12_piece, prog_14_method_17_code, 4, some .int, false), (yX12_ofPiece, prog_14_method_18_code, 3, some .int, false), (yX12_standing, prog_14_method_19_code, 4, some .int, false), (yX12_owed, prog_14_method_20_code, 4, some .int, false), (yX12_ofHolder, prog_14_method_21_code, 3, some .int, false), (yX12_dueOn, prog_14_method_22_code, 3, some .int, false), (yX12_ofGame, prog_14_method_23_code, 3, some .int, false), (yX12_feed, prog_14_method_24_code, 4, some .int, false), (yX12_byteAt, prog_14_method_25_code, 1, some .int, false), (yX12_wrong, prog_14_method_26_code, 1, some .int, false), (yX12_takes, prog_14_method_27_code, 2, some .boolean, false), (yX12_either, prog_14_method_28_code, 3, some .int, false), (yX12_both, prog_14_method_29_code, 3, some .int, false), (yX12_compared, prog_14_method_30_code, 4, some .int, false), (yX12_sums, prog_14_method_31_code, 4, some .int, false), (yX12_product, prog_14_method_32_code, 4, some .int, false), (yX12_nameOf, prog_14_method_33_code, 1, some .int, true), (yX12_one, prog_14_method_34_code, 5, some .int, false), (yX12_workOut, prog_14_method_35_code, 8, some .int, false), (yX12_isWhat, prog_14_method_36_code, 2, some .boolean, false), (yX12_isTurn, prog_14_method_37_code, 1, some .boolean, true), (yX12_rule, prog_14_method_38_code, 6, some .int, false), (yX12_ruleFor, prog_14_method_39_code, 6, some .int, false), (yX12_inForce, prog_14_method_40_code, 5, some .int, false), (yX12_gives, prog_14_method_41_code, 7, some .int, false), (yX12_held, prog_14_method_42_code, 2, some .int, true), (yX12_noNames, prog_14_method_43_code, 3, none, false), (yX12_nameOrder, prog_14_method_44_code, 6, none, false), (yX12_sightOf, prog_14_method_45_code, 3, some .int, false), (yX12_feeOf, prog_14_method_46_code, 4, some .int, false), (yX12_says, prog_14_method_47_code, 3, some .int, false), (yX12_drawnFor, prog_14_method_48_code, 4, some .int, false), (yX12_drawn, prog_14_method_49_code, 3, some .int, false), (yX12_card, prog_14_method_50_code, 6, some .int, false), (yX12_isCard, prog_14_method_51_code, 2, some .boolean, false), (yX12_isLate, prog_14_method_52_code, 2, some .boolean, false), (yX12_counts, prog_14_method_53_code, 2, some .boolean, false), (yX12_ofCard, prog_14_method_54_code, 3, some .int, false), (yX12_add, prog_14_method_55_code, 6, some .int, false), (yX12_isSaid, prog_14_method_56_code, 5, some .boolean, false), (yX12_order, prog_14_method_57_code, 5, some .int, false), (yX12_isOrder, prog_14_method_58_code, 2, some .boolean, false), (yX12_turn, prog_14_method_59_code, 7, some .int, false), (yX12_ofOrder, prog_14_method_60_code, 3, some .int, false), (yX12_read, prog_14_method_61_code, 13, some .int, false), (yX12_isBeside, prog_14_method_62_code, 3, some .boolean, false), (yX12_canBe, prog_14_method_63_code, 4, some .boolean, false), (yX12_mayBe, prog_14_method_64_code, 6, some .boolean, false), (yX12_isFor, prog_14_method_65_code, 6, some .boolean, false), (yX12_isOrderly, prog_14_method_66_code, 5, some .boolean, false), (yX12_orderFor, prog_14_method_67_code, 8, some .int, false), (yX12_orderOf, prog_14_method_68_code, 2, some .int, false), (yX12_isIn, prog_14_method_69_code, 3, some .boolean, false), (yX12_findOrders, prog_14_method_70_code, 7, none, false), (yX12_isCut, prog_14_method_71_code, 5, some .boolean, false), (yX12_findStrengths, prog_14_method_72_code, 7, none, false), (yX12_moves, prog_14_method_73_code, 3, some .boolean, false), (yX12_findFailed, prog_14_method_74_code, 7, none, false), (yX12_goThrough, prog_14_method_75_code, 7, none, false), (yX12_doTurn, prog_14_method_76_code, 4, none, false), (yX12_done, prog_14_method_77_code, 2, some .int, false), (yX12_again, prog_14_method_78_code, 6, some .int, false), (yX12_lastCell, prog_14_method_79_code, 4, some .int, false), (yX12_was, prog_14_method_80_code, 4, some .int, false), (yX12_seesIn, prog_14_method_81_code, 5, some .boolean, false), (yX12_sees, prog_14_method_82_code, 4, some .int, false), (yX12_alike, prog_14_method_83_code, 5, some .int, false), (yX12_way, prog_14_method_84_code, 5, some .int, false), (yX12_coinsBy, prog_14_method_85_code, 7, some .int, false), (yX12_isRow, prog_14_method_86_code, 5, some .boolean, false), (yX12_noRow, prog_14_method_87_code, 1, some .boolean, false), (yX12_best, prog_14_method_88_code, 7, some .int, false), (yX12_bestWay, prog_14_method_89_code, 2, some .int, false), (yX12_judge, prog_14_method_90_code, 7, some .int, false), (yX12_pay, prog_14_method_91_code, 3, some .int, false), (yX12_bar, prog_14_method_92_code, 5, some .int, false), (yX12_above, prog_14_method_93_code, 1, some .int, true), (yX12_ranBody, prog_14_method_94_code, 2, none, false), (yX12_means, prog_14_method_95_code, 3, some .int, false), (yX12_clashes, prog_14_method_96_code, 3, some .int, false), (yX12_hides, prog_14_method_97_code, 4, some .int, false), (yX12_endsOf, prog_14_method_98_code, 4, some .int, false), (yX12_act, prog_14_method_99_code, 4, some .int, false), (yX12_trace, prog_14_method_100_code, 2, some .int, false), (yX12_isShelf, prog_14_method_101_code, 1, some .boolean, true), (yX12_keep, prog_14_method_102_code, 3, some .int, false), (yX12_row, prog_14_method_103_code, 5, some .int, false), (yX12_refusal, prog_14_method_104_code, 3, some .int, false), (yX12_asSort, prog_14_method_105_code, 3, some .long, true), (yX12_put, prog_14_method_106_code, 6, some .int, false), (yX12_element, prog_14_method_107_code, 3, some .long, false), (yX12_shift, prog_14_method_108_code, 7, some .int, false), (yX12_taken, prog_14_method_109_code, 4, some .int, false), (yX12_check, prog_14_method_110_code, 7, some .int, false), (yX12_count, prog_14_method_111_code, 4, some .int, false), (yJ6_compare_7cf53, prog_16_method_40_code, 2, some .int, true), (yJ13_bitCount_95d88, prog_17_method_50_code, 2, some .int, true), (yJ9_abs_0f7a4, prog_18_method_59_code, 1, some .int, true), (yJ9_max_7cf53, prog_18_method_65_code, 2, some .int, true), (yJ9_min_7cf53, prog_18_method_69_code, 2, some .int, true), (yJ0_indexOf_0f7a4, prog_19_method_79_code, 2, some .int, false), (yJ0_indexOf_7cf53, prog_19_method_80_code, 3, some .int, false), (yJ0_isLatin1_aae02, prog_19_method_154_code, 1, some .boolean, false), (yJ0_length_8abf5, prog_19_method_54_code, 1, some .int, false), (yJ0_coder_7d493, prog_19_method_152_code, 1, some .byte, false), (yJ1_canEncode_9a6ad, prog_20_method_4_code, 1, some .boolean, true), (yJ1_indexOf_4cfef, prog_20_method_22_code, 4, some .int, true), (yJ1_indexOfChar_4cfef, prog_20_method_23_code, 6, some .int, true)] k
def mw (k : Nat) : List (Option Cond) := match mI k with
  | some (y, b, n, r, true) => [some (.code y b n r), some (.static y), some (.initialized y.cls)]
  | some (y, b, n, r, false) => [some (.code y b n r), some (.instanceMethod y), some (.selects y.cls y y), some (.initialized y.cls)]
  | none => []
theorem mw_0 : mw 0 = [lw_at 5 96, lw_at 5 94, lw_at 5 95, lw_at 1 6] := rfl
theorem mw_1 : mw 1 = [lw_at 5 100, lw_at 5 98, lw_at 5 99, lw_at 1 6] := rfl
theorem mw_2 : mw 2 = [lw_at 5 112, lw_at 5 111, lw_at 0 53, lw_at 1 6] := rfl
theorem mw_3 : mw 3 = [lw_at 5 104, lw_at 5 102, lw_at 5 103, lw_at 1 6] := rfl
theorem mw_4 : mw 4 = [lw_at 5 108, lw_at 5 107, lw_at 0 52, lw_at 1 6] := rfl
theorem mw_5 : mw 5 = [lw_at 5 116, lw_at 5 115, lw_at 0 54, lw_at 1 6] := rfl
theorem mw_6 : mw 6 = [lw_at 5 120, lw_at 5 119, lw_at 0 55, lw_at 1 6] := rfl
theorem mw_7 : mw 7 = [lw_at 5 124, lw_at 5 123, lw_at 0 56, lw_at 1 6] := rfl
theorem mw_8 : mw 8 = [lw_at 4 76, lw_at 4 74, lw_at 4 75, lw_at 1 9] := rfl
theorem mw_9 : mw 9 = [lw_at 3 87, lw_at 3 85, lw_at 3 86, lw_at 1 7] := rfl
theorem mw_10 : mw 10 = [lw_at 4 63, lw_at 4 61, lw_at 4 62, lw_at 1 7] := rfl
theorem mw_11 : mw 11 = [lw_at 3 75, lw_at 3 73, lw_at 3 74, lw_at 1 8] := rfl
theorem mw_12 : mw 12 = [lw_at 4 164, lw_at 4 162, lw_at 4 163, lw_at 1 2] := rfl
theorem mw_13 : mw 13 = [lw_at 4 172, lw_at 4 170, lw_at 4 171, lw_at 1 2] := rfl
theorem mw_14 : mw 14 = [lw_at 4 176, lw_at 4 174, lw_at 4 175, lw_at 1 2] := rfl
theorem mw_15 : mw 15 = [lw_at 4 184, lw_at 4 183, lw_at 0 37, lw_at 1 2] := rfl
theorem mw_16 : mw 16 = [lw_at 4 180, lw_at 4 179, lw_at 0 36, lw_at 1 2] := rfl
theorem mw_17 : mw 17 = [lw_at 4 189, lw_at 4 188, lw_at 0 38, lw_at 1 2] := rfl
theorem mw_18 : mw 18 = [lw_at 4 193, lw_at 4 192, lw_at 0 39, lw_at 1 2] := rfl
theorem mw_19 : mw 19 = [lw_at 4 200, lw_at 4 199, lw_at 0 40, lw_at 1 2] := rfl
theorem mw_20 : mw 20 = [lw_at 4 208, lw_at 4 207, lw_at 0 42, lw_at 1 2] := rfl
theorem mw_21 : mw 21 = [lw_at 4 204, lw_at 4 203, lw_at 0 41, lw_at 1 2] := rfl
theorem mw_22 : mw 22 = [lw_at 4 212, lw_at 4 211, lw_at 0 43, lw_at 1 2] := rfl
theorem mw_23 : mw 23 = [lw_at 4 228, lw_at 4 226, lw_at 4 227, lw_at 1 2] := rfl
theorem mw_24 : mw 24 = [lw_at 4 216, lw_at 4 214, lw_at 4 215, lw_at 1 2] := rfl
theorem mw_25 : mw 25 = [lw_at 5 0, lw_at 4 238, lw_at 4 239, lw_at 1 3] := rfl
theorem mw_26 : mw 26 = [lw_at 5 4, lw_at 5 2, lw_at 5 3, lw_at 1 3] := rfl
theorem mw_27 : mw 27 = [lw_at 3 150, lw_at 3 148, lw_at 3 149, lw_at 1 11] := rfl
theorem mw_28 : mw 28 = [lw_at 4 27, lw_at 4 25, lw_at 4 26, lw_at 1 11] := rfl
theorem mw_29 : mw 29 = [lw_at 4 32, lw_at 4 31, lw_at 1 11] := rfl
theorem mw_30 : mw 30 = [lw_at 5 152, lw_at 5 150, lw_at 5 151, lw_at 1 12] := rfl
theorem mw_31 : mw 31 = [lw_at 5 140, lw_at 5 138, lw_at 5 139, lw_at 1 12] := rfl
theorem mw_32 : mw 32 = [lw_at 5 148, lw_at 5 146, lw_at 5 147, lw_at 1 12] := rfl
theorem mw_33 : mw 33 = [lw_at 5 170, lw_at 5 168, lw_at 5 169, lw_at 1 12] := rfl
theorem mw_34 : mw 34 = [lw_at 5 156, lw_at 5 154, lw_at 5 155, lw_at 1 12] := rfl
theorem mw_35 : mw 35 = [lw_at 3 95, lw_at 3 93, lw_at 3 94, lw_at 1 4] := rfl
theorem mw_36 : mw 36 = [lw_at 3 142, lw_at 3 141, lw_at 0 13, lw_at 1 4] := rfl
theorem mw_37 : mw 37 = [lw_at 3 110, lw_at 3 108, lw_at 3 109, lw_at 1 4] := rfl
theorem mw_38 : mw 38 = [lw_at 3 114, lw_at 3 113, lw_at 0 6, lw_at 1 4] := rfl
theorem mw_39 : mw 39 = [lw_at 3 118, lw_at 3 117, lw_at 0 7, lw_at 1 4] := rfl
theorem mw_40 : mw 40 = [lw_at 3 122, lw_at 3 121, lw_at 0 8, lw_at 1 4] := rfl
theorem mw_41 : mw 41 = [lw_at 3 126, lw_at 3 125, lw_at 0 9, lw_at 1 4] := rfl
theorem mw_42 : mw 42 = [lw_at 3 130, lw_at 3 129, lw_at 0 10, lw_at 1 4] := rfl
theorem mw_43 : mw 43 = [lw_at 3 134, lw_at 3 133, lw_at 0 11, lw_at 1 4] := rfl
theorem mw_44 : mw 44 = [lw_at 3 138, lw_at 3 137, lw_at 0 12, lw_at 1 4] := rfl
theorem mw_45 : mw 45 = [lw_at 3 146, lw_at 3 145, lw_at 0 14, lw_at 1 4] := rfl
theorem mw_46 : mw 46 = [lw_at 3 154, lw_at 3 153, lw_at 0 15, lw_at 1 4] := rfl
theorem mw_47 : mw 47 = [lw_at 5 34, lw_at 5 32, lw_at 5 33, lw_at 1 5] := rfl
theorem mw_48 : mw 48 = [lw_at 5 38, lw_at 5 37, lw_at 0 48, lw_at 1 5] := rfl
theorem mw_49 : mw 49 = [lw_at 5 54, lw_at 5 52, lw_at 5 53, lw_at 1 5] := rfl
theorem mw_50 : mw 50 = [lw_at 5 58, lw_at 5 56, lw_at 5 57, lw_at 1 5] := rfl
theorem mw_51 : mw 51 = [lw_at 5 79, lw_at 5 77, lw_at 5 78, lw_at 1 5] := rfl
theorem mw_52 : mw 52 = [lw_at 5 66, lw_at 5 64, lw_at 5 65, lw_at 1 5] := rfl
theorem mw_53 : mw 53 = [lw_at 3 19, lw_at 3 17, lw_at 3 18, lw_at 1 1] := rfl
theorem mw_54 : mw 54 = [lw_at 3 23, lw_at 3 21, lw_at 3 22, lw_at 1 1] := rfl
theorem mw_55 : mw 55 = [lw_at 3 27, lw_at 3 25, lw_at 3 26, lw_at 1 1] := rfl
theorem mw_56 : mw 56 = [lw_at 3 42, lw_at 3 40, lw_at 3 41, lw_at 1 1] := rfl
theorem mw_57 : mw 57 = [lw_at 3 46, lw_at 3 44, lw_at 3 45, lw_at 1 1] := rfl
theorem mw_58 : mw 58 = [lw_at 3 55, lw_at 3 53, lw_at 3 54, lw_at 1 1] := rfl
theorem mw_59 : mw 59 = [lw_at 3 59, lw_at 3 57, lw_at 3 58, lw_at 1 1] := rfl
theorem mw_60 : mw 60 = [lw_at 3 63, lw_at 3 61, lw_at 3 62, lw_at 1 1] := rfl
theorem mw_61 : mw 61 = [lw_at 3 71, lw_at 3 69, lw_at 3 70, lw_at 1 1] := rfl
theorem mw_62 : mw 62 = [lw_at 3 83, lw_at 3 81, lw_at 3 82, lw_at 1 1] := rfl
theorem mw_63 : mw 63 = [lw_at 3 31, lw_at 3 30, lw_at 0 0, lw_at 1 1] := rfl
theorem mw_64 : mw 64 = [lw_at 3 50, lw_at 3 49, lw_at 0 2, lw_at 1 1] := rfl
theorem mw_65 : mw 65 = [lw_at 3 67, lw_at 3 66, lw_at 0 3, lw_at 1 1] := rfl
theorem mw_66 : mw 66 = [lw_at 4 72, lw_at 4 71, lw_at 0 22, lw_at 1 1] := rfl
theorem mw_67 : mw 67 = [lw_at 4 107, lw_at 4 106, lw_at 0 26, lw_at 1 1] := rfl
theorem mw_68 : mw 68 = [lw_at 3 34, lw_at 3 33, lw_at 1 1] := rfl
theorem mw_69 : mw 69 = [lw_at 3 106, lw_at 3 105, lw_at 1 1] := rfl
theorem mw_70 : mw 70 = [lw_at 4 114, lw_at 4 113, lw_at 1 1] := rfl
theorem mw_71 : mw 71 = [lw_at 4 125, lw_at 4 124, lw_at 1 1] := rfl
theorem mw_72 : mw 72 = [lw_at 3 38, lw_at 3 37, lw_at 0 1, lw_at 1 1] := rfl
theorem mw_73 : mw 73 = [lw_at 3 79, lw_at 3 78, lw_at 0 4, lw_at 1 1] := rfl
theorem mw_74 : mw 74 = [lw_at 3 91, lw_at 3 89, lw_at 3 90, lw_at 1 1] := rfl
theorem mw_75 : mw 75 = [lw_at 3 99, lw_at 3 97, lw_at 3 98, lw_at 1 1] := rfl
theorem mw_76 : mw 76 = [lw_at 4 7, lw_at 4 5, lw_at 4 6, lw_at 1 1] := rfl
theorem mw_77 : mw 77 = [lw_at 4 15, lw_at 4 13, lw_at 4 14, lw_at 1 1] := rfl
theorem mw_78 : mw 78 = [lw_at 4 49, lw_at 4 47, lw_at 4 48, lw_at 1 1] := rfl
theorem mw_79 : mw 79 = [lw_at 3 103, lw_at 3 102, lw_at 0 5, lw_at 1 1] := rfl
theorem mw_80 : mw 80 = [lw_at 4 11, lw_at 4 10, lw_at 0 16, lw_at 1 1] := rfl
theorem mw_81 : mw 81 = [lw_at 4 53, lw_at 4 52, lw_at 0 21, lw_at 1 1] := rfl
theorem mw_82 : mw 82 = [lw_at 4 45, lw_at 4 44, lw_at 0 20, lw_at 1 1] := rfl
theorem mw_83 : mw 83 = [lw_at 4 23, lw_at 4 22, lw_at 0 18, lw_at 1 1] := rfl
theorem mw_84 : mw 84 = [lw_at 4 148, lw_at 4 147, lw_at 0 32, lw_at 1 1] := rfl
theorem mw_85 : mw 85 = [lw_at 4 168, lw_at 4 167, lw_at 0 35, lw_at 1 1] := rfl
theorem mw_86 : mw 86 = [lw_at 4 19, lw_at 4 18, lw_at 0 17, lw_at 1 1] := rfl
theorem mw_87 : mw 87 = [lw_at 4 41, lw_at 4 40, lw_at 0 19, lw_at 1 1] := rfl
theorem mw_88 : mw 88 = [lw_at 4 35, lw_at 4 34, lw_at 1 1] := rfl
theorem mw_89 : mw 89 = [lw_at 4 59, lw_at 4 57, lw_at 4 58, lw_at 1 1] := rfl
theorem mw_90 : mw 90 = [lw_at 4 68, lw_at 4 66, lw_at 4 67, lw_at 1 1] := rfl
theorem mw_91 : mw 91 = [lw_at 4 84, lw_at 4 82, lw_at 4 83, lw_at 1 1] := rfl
theorem mw_92 : mw 92 = [lw_at 4 96, lw_at 4 94, lw_at 4 95, lw_at 1 1] := rfl
theorem mw_93 : mw 93 = [lw_at 4 103, lw_at 4 101, lw_at 4 102, lw_at 1 1] := rfl
theorem mw_94 : mw 94 = [lw_at 4 111, lw_at 4 109, lw_at 4 110, lw_at 1 1] := rfl
theorem mw_95 : mw 95 = [lw_at 4 132, lw_at 4 130, lw_at 4 131, lw_at 1 1] := rfl
theorem mw_96 : mw 96 = [lw_at 4 88, lw_at 4 87, lw_at 0 24, lw_at 1 1] := rfl
theorem mw_97 : mw 97 = [lw_at 4 99, lw_at 4 98, lw_at 1 1] := rfl
theorem mw_98 : mw 98 = [lw_at 4 92, lw_at 4 91, lw_at 0 25, lw_at 1 1] := rfl
theorem mw_99 : mw 99 = [lw_at 4 118, lw_at 4 117, lw_at 0 27, lw_at 1 1] := rfl
theorem mw_100 : mw 100 = [lw_at 4 80, lw_at 4 79, lw_at 0 23, lw_at 1 1] := rfl
theorem mw_101 : mw 101 = [lw_at 4 122, lw_at 4 121, lw_at 0 28, lw_at 1 1] := rfl
theorem mw_102 : mw 102 = [lw_at 4 144, lw_at 4 143, lw_at 0 31, lw_at 1 1] := rfl
theorem mw_103 : mw 103 = [lw_at 4 140, lw_at 4 139, lw_at 0 30, lw_at 1 1] := rfl
theorem mw_104 : mw 104 = [lw_at 4 136, lw_at 4 135, lw_at 0 29, lw_at 1 1] := rfl
theorem mw_105 : mw 105 = [lw_at 4 152, lw_at 4 150, lw_at 4 151, lw_at 1 1] := rfl
theorem mw_106 : mw 106 = [lw_at 4 236, lw_at 4 234, lw_at 4 235, lw_at 1 1] := rfl
theorem mw_107 : mw 107 = [lw_at 5 8, lw_at 5 6, lw_at 5 7, lw_at 1 1] := rfl
theorem mw_108 : mw 108 = [lw_at 4 156, lw_at 4 155, lw_at 0 33, lw_at 1 1] := rfl
theorem mw_109 : mw 109 = [lw_at 4 160, lw_at 4 159, lw_at 0 34, lw_at 1 1] := rfl
theorem mw_110 : mw 110 = [lw_at 4 224, lw_at 4 223, lw_at 0 45, lw_at 1 1] := rfl
theorem mw_111 : mw 111 = [lw_at 4 220, lw_at 4 219, lw_at 0 44, lw_at 1 1] := rfl
theorem mw_112 : mw 112 = [lw_at 4 232, lw_at 4 231, lw_at 0 46, lw_at 1 1] := rfl
theorem mw_113 : mw 113 = [lw_at 5 12, lw_at 5 10, lw_at 5 11, lw_at 1 1] := rfl
theorem mw_114 : mw 114 = [lw_at 5 20, lw_at 5 18, lw_at 5 19, lw_at 1 1] := rfl
theorem mw_115 : mw 115 = [lw_at 5 16, lw_at 5 15, lw_at 0 47, lw_at 1 1] := rfl
theorem mw_116 : mw 116 = [lw_at 5 30, lw_at 5 28, lw_at 5 29, lw_at 1 1] := rfl
theorem mw_117 : mw 117 = [lw_at 5 42, lw_at 5 40, lw_at 5 41, lw_at 1 1] := rfl
theorem mw_118 : mw 118 = [lw_at 5 71, lw_at 5 69, lw_at 5 70, lw_at 1 1] := rfl
theorem mw_119 : mw 119 = [lw_at 5 75, lw_at 5 73, lw_at 5 74, lw_at 1 1] := rfl
theorem mw_120 : mw 120 = [lw_at 5 46, lw_at 5 45, lw_at 0 49, lw_at 1 1] := rfl
theorem mw_121 : mw 121 = [lw_at 5 50, lw_at 5 49, lw_at 0 50, lw_at 1 1] := rfl
theorem mw_122 : mw 122 = [lw_at 5 62, lw_at 5 61, lw_at 0 51, lw_at 1 1] := rfl
theorem mw_123 : mw 123 = [lw_at 5 83, lw_at 5 81, lw_at 5 82, lw_at 1 1] := rfl
theorem mw_124 : mw 124 = [lw_at 5 88, lw_at 5 86, lw_at 5 87, lw_at 1 1] := rfl
theorem mw_125 : mw 125 = [lw_at 5 92, lw_at 5 90, lw_at 5 91, lw_at 1 1] := rfl
theorem mw_126 : mw 126 = [lw_at 5 128, lw_at 5 126, lw_at 5 127, lw_at 1 1] := rfl
theorem mw_127 : mw 127 = [lw_at 5 132, lw_at 5 130, lw_at 5 131, lw_at 1 1] := rfl
theorem mw_128 : mw 128 = [lw_at 5 136, lw_at 5 134, lw_at 5 135, lw_at 1 1] := rfl
theorem mw_129 : mw 129 = [lw_at 5 144, lw_at 5 142, lw_at 5 143, lw_at 1 1] := rfl
theorem mw_130 : mw 130 = [lw_at 5 160, lw_at 5 158, lw_at 5 159, lw_at 1 1] := rfl
theorem mw_131 : mw 131 = [lw_at 5 165, lw_at 5 163, lw_at 5 164, lw_at 1 1] := rfl
theorem mw_132 : mw 132 = [lw_at 5 177, lw_at 5 175, lw_at 5 176, lw_at 1 1] := rfl
theorem mw_133 : mw 133 = [lw_at 5 184, lw_at 5 182, lw_at 5 183, lw_at 1 1] := rfl
theorem mw_134 : mw 134 = [lw_at 5 192, lw_at 5 190, lw_at 5 191, lw_at 1 1] := rfl
theorem mw_135 : mw 135 = [lw_at 5 196, lw_at 5 195, lw_at 0 58, lw_at 1 1] := rfl
theorem mw_136 : mw 136 = [lw_at 5 180, lw_at 5 179, lw_at 1 1] := rfl
theorem mw_137 : mw 137 = [lw_at 5 188, lw_at 5 187, lw_at 0 57, lw_at 1 1] := rfl
theorem mw_138 : mw 138 = [lw_at 6 229, lw_at 6 228, lw_at 1 13] := rfl
theorem mw_139 : mw 139 = [lw_at 7 1, lw_at 7 0, lw_at 0 59, lw_at 1 13] := rfl
theorem mw_140 : mw 140 = [lw_at 7 27, lw_at 7 26, lw_at 0 62, lw_at 1 13] := rfl
theorem mw_141 : mw 141 = [lw_at 7 44, lw_at 7 43, lw_at 0 63, lw_at 1 13] := rfl
theorem mw_142 : mw 142 = [lw_at 7 4, lw_at 7 3, lw_at 1 13] := rfl
theorem mw_143 : mw 143 = [lw_at 7 239, lw_at 7 238, lw_at 1 13] := rfl
theorem mw_144 : mw 144 = [lw_at 7 236, lw_at 7 235, lw_at 1 13] := rfl
theorem mw_145 : mw 145 = [lw_at 7 14, lw_at 7 13, lw_at 0 61, lw_at 1 13] := rfl
theorem mw_146 : mw 146 = [lw_at 6 225, lw_at 6 223, lw_at 6 224, lw_at 1 13] := rfl
theorem mw_147 : mw 147 = [lw_at 6 233, lw_at 6 231, lw_at 6 232, lw_at 1 13] := rfl
theorem mw_148 : mw 148 = [lw_at 7 10, lw_at 7 9, lw_at 0 60, lw_at 1 13] := rfl
theorem mw_149 : mw 149 = [lw_at 6 237, lw_at 6 235, lw_at 6 236, lw_at 1 13] := rfl
theorem mw_150 : mw 150 = [lw_at 7 18, lw_at 7 16, lw_at 7 17, lw_at 1 13] := rfl
theorem mw_151 : mw 151 = [lw_at 7 23, lw_at 7 21, lw_at 7 22, lw_at 1 13] := rfl
theorem mw_152 : mw 152 = [lw_at 7 32, lw_at 7 30, lw_at 7 31, lw_at 1 13] := rfl
theorem mw_153 : mw 153 = [lw_at 7 36, lw_at 7 34, lw_at 7 35, lw_at 1 13] := rfl
theorem mw_154 : mw 154 = [lw_at 7 40, lw_at 7 38, lw_at 7 39, lw_at 1 13] := rfl
theorem mw_155 : mw 155 = [lw_at 7 52, lw_at 7 51, lw_at 0 64, lw_at 1 13] := rfl
theorem mw_156 : mw 156 = [lw_at 7 56, lw_at 7 55, lw_at 0 65, lw_at 1 13] := rfl
theorem mw_157 : mw 157 = [lw_at 7 48, lw_at 7 46, lw_at 7 47, lw_at 1 13] := rfl
theorem mw_158 : mw 158 = [lw_at 7 64, lw_at 7 63, lw_at 0 66, lw_at 1 13] := rfl
theorem mw_159 : mw 159 = [lw_at 7 60, lw_at 7 58, lw_at 7 59, lw_at 1 13] := rfl
theorem mw_160 : mw 160 = [lw_at 7 68, lw_at 7 66, lw_at 7 67, lw_at 1 13] := rfl
theorem mw_161 : mw 161 = [lw_at 7 113, lw_at 7 112, lw_at 0 75, lw_at 1 13] := rfl
theorem mw_162 : mw 162 = [lw_at 7 117, lw_at 7 116, lw_at 0 76, lw_at 1 13] := rfl
theorem mw_163 : mw 163 = [lw_at 7 121, lw_at 7 120, lw_at 0 77, lw_at 1 13] := rfl
theorem mw_164 : mw 164 = [lw_at 7 89, lw_at 7 88, lw_at 0 69, lw_at 1 13] := rfl
theorem mw_165 : mw 165 = [lw_at 7 93, lw_at 7 92, lw_at 0 70, lw_at 1 13] := rfl
theorem mw_166 : mw 166 = [lw_at 7 97, lw_at 7 96, lw_at 0 71, lw_at 1 13] := rfl
theorem mw_167 : mw 167 = [lw_at 7 101, lw_at 7 100, lw_at 0 72, lw_at 1 13] := rfl
theorem mw_168 : mw 168 = [lw_at 7 105, lw_at 7 104, lw_at 0 73, lw_at 1 13] := rfl
theorem mw_169 : mw 169 = [lw_at 7 124, lw_at 7 123, lw_at 1 13] := rfl
theorem mw_170 : mw 170 = [lw_at 7 109, lw_at 7 108, lw_at 0 74, lw_at 1 13] := rfl
theorem mw_171 : mw 171 = [lw_at 7 85, lw_at 7 84, lw_at 0 68, lw_at 1 13] := rfl
theorem mw_172 : mw 172 = [lw_at 7 77, lw_at 7 76, lw_at 0 67, lw_at 1 13] := rfl
theorem mw_173 : mw 173 = [lw_at 7 80, lw_at 7 79, lw_at 1 13] := rfl
theorem mw_174 : mw 174 = [lw_at 7 73, lw_at 7 71, lw_at 7 72, lw_at 1 13] := rfl
theorem mw_175 : mw 175 = [lw_at 7 133, lw_at 7 132, lw_at 0 78, lw_at 1 13] := rfl
theorem mw_176 : mw 176 = [lw_at 7 128, lw_at 7 126, lw_at 7 127, lw_at 1 13] := rfl
theorem mw_177 : mw 177 = [lw_at 7 153, lw_at 7 152, lw_at 0 82, lw_at 1 13] := rfl
theorem mw_178 : mw 178 = [lw_at 7 156, lw_at 7 155, lw_at 1 13] := rfl
theorem mw_179 : mw 179 = [lw_at 7 149, lw_at 7 148, lw_at 0 81, lw_at 1 13] := rfl
theorem mw_180 : mw 180 = [lw_at 7 145, lw_at 7 144, lw_at 0 80, lw_at 1 13] := rfl
theorem mw_181 : mw 181 = [lw_at 7 141, lw_at 7 140, lw_at 0 79, lw_at 1 13] := rfl
theorem mw_182 : mw 182 = [lw_at 7 160, lw_at 7 159, lw_at 0 83, lw_at 1 13] := rfl
theorem mw_183 : mw 183 = [lw_at 7 137, lw_at 7 135, lw_at 7 136, lw_at 1 13] := rfl
theorem mw_184 : mw 184 = [lw_at 7 168, lw_at 7 167, lw_at 0 84, lw_at 1 13] := rfl
theorem mw_185 : mw 185 = [lw_at 7 164, lw_at 7 162, lw_at 7 163, lw_at 1 13] := rfl
theorem mw_186 : mw 186 = [lw_at 7 174, lw_at 7 172, lw_at 7 173, lw_at 1 13] := rfl
theorem mw_187 : mw 187 = [lw_at 7 182, lw_at 7 181, lw_at 0 85, lw_at 1 13] := rfl
theorem mw_188 : mw 188 = [lw_at 7 186, lw_at 7 185, lw_at 0 86, lw_at 1 13] := rfl
theorem mw_189 : mw 189 = [lw_at 7 190, lw_at 7 189, lw_at 0 87, lw_at 1 13] := rfl
theorem mw_190 : mw 190 = [lw_at 7 178, lw_at 7 176, lw_at 7 177, lw_at 1 13] := rfl
theorem mw_191 : mw 191 = [lw_at 7 203, lw_at 7 202, lw_at 0 89, lw_at 1 13] := rfl
theorem mw_192 : mw 192 = [lw_at 7 198, lw_at 7 197, lw_at 0 88, lw_at 1 13] := rfl
theorem mw_193 : mw 193 = [lw_at 7 194, lw_at 7 192, lw_at 7 193, lw_at 1 13] := rfl
theorem mw_194 : mw 194 = [lw_at 7 216, lw_at 7 215, lw_at 0 90, lw_at 1 13] := rfl
theorem mw_195 : mw 195 = [lw_at 7 207, lw_at 7 205, lw_at 7 206, lw_at 1 13] := rfl
theorem mw_196 : mw 196 = [lw_at 7 212, lw_at 7 210, lw_at 7 211, lw_at 1 13] := rfl
theorem mw_197 : mw 197 = [lw_at 7 220, lw_at 7 218, lw_at 7 219, lw_at 1 13] := rfl
theorem mw_198 : mw 198 = [lw_at 7 233, lw_at 7 232, lw_at 0 92, lw_at 1 13] := rfl
theorem mw_199 : mw 199 = [lw_at 7 229, lw_at 7 228, lw_at 0 91, lw_at 1 13] := rfl
theorem mw_200 : mw 200 = [lw_at 8 19, lw_at 8 18, lw_at 0 96, lw_at 1 13] := rfl
theorem mw_201 : mw 201 = [lw_at 8 15, lw_at 8 14, lw_at 0 95, lw_at 1 13] := rfl
theorem mw_202 : mw 202 = [lw_at 8 11, lw_at 8 10, lw_at 0 94, lw_at 1 13] := rfl
theorem mw_203 : mw 203 = [lw_at 8 7, lw_at 8 6, lw_at 0 93, lw_at 1 13] := rfl
theorem mw_204 : mw 204 = [lw_at 8 3, lw_at 8 1, lw_at 8 2, lw_at 1 13] := rfl
theorem mw_205 : mw 205 = [lw_at 8 39, lw_at 8 38, lw_at 0 100, lw_at 1 13] := rfl
theorem mw_206 : mw 206 = [lw_at 8 35, lw_at 8 34, lw_at 0 99, lw_at 1 13] := rfl
theorem mw_207 : mw 207 = [lw_at 8 47, lw_at 8 46, lw_at 0 102, lw_at 1 13] := rfl
theorem mw_208 : mw 208 = [lw_at 8 43, lw_at 8 42, lw_at 0 101, lw_at 1 13] := rfl
theorem mw_209 : mw 209 = [lw_at 8 55, lw_at 8 54, lw_at 0 104, lw_at 1 13] := rfl
theorem mw_210 : mw 210 = [lw_at 8 51, lw_at 8 50, lw_at 0 103, lw_at 1 13] := rfl
theorem mw_211 : mw 211 = [lw_at 8 31, lw_at 8 30, lw_at 0 98, lw_at 1 13] := rfl
theorem mw_212 : mw 212 = [lw_at 8 27, lw_at 8 26, lw_at 0 97, lw_at 1 13] := rfl
theorem mw_213 : mw 213 = [lw_at 8 23, lw_at 8 21, lw_at 8 22, lw_at 1 13] := rfl
theorem mw_214 : mw 214 = [lw_at 8 59, lw_at 8 57, lw_at 8 58, lw_at 1 13] := rfl
theorem mw_215 : mw 215 = [lw_at 8 63, lw_at 8 62, lw_at 0 105, lw_at 1 13] := rfl
theorem mw_216 : mw 216 = [lw_at 8 67, lw_at 8 65, lw_at 8 66, lw_at 1 13] := rfl
theorem mw_217 : mw 217 = [lw_at 8 75, lw_at 8 74, lw_at 0 106, lw_at 1 13] := rfl
theorem mw_218 : mw 218 = [lw_at 8 71, lw_at 8 69, lw_at 8 70, lw_at 1 13] := rfl
theorem mw_219 : mw 219 = [lw_at 8 79, lw_at 8 77, lw_at 8 78, lw_at 1 13] := rfl
theorem mw_220 : mw 220 = [lw_at 8 83, lw_at 8 81, lw_at 8 82, lw_at 1 13] := rfl
theorem mw_221 : mw 221 = [lw_at 8 99, lw_at 8 98, lw_at 0 109, lw_at 1 13] := rfl
theorem mw_222 : mw 222 = [lw_at 8 95, lw_at 8 94, lw_at 0 108, lw_at 1 13] := rfl
theorem mw_223 : mw 223 = [lw_at 8 91, lw_at 8 90, lw_at 0 107, lw_at 1 13] := rfl
theorem mw_224 : mw 224 = [lw_at 8 87, lw_at 8 85, lw_at 8 86, lw_at 1 13] := rfl
theorem mw_225 : mw 225 = [lw_at 8 103, lw_at 8 101, lw_at 8 102, lw_at 1 13] := rfl
theorem mw_226 : mw 226 = [lw_at 8 107, lw_at 8 105, lw_at 8 106, lw_at 1 13] := rfl
theorem mw_227 : mw 227 = [lw_at 8 111, lw_at 8 109, lw_at 8 110, lw_at 1 13] := rfl
theorem mw_228 : mw 228 = [lw_at 8 116, lw_at 8 114, lw_at 8 115, lw_at 1 13] := rfl
theorem mw_229 : mw 229 = [lw_at 8 132, lw_at 8 131, lw_at 1 13] := rfl
theorem mw_230 : mw 230 = [lw_at 8 129, lw_at 8 128, lw_at 0 111, lw_at 1 13] := rfl
theorem mw_231 : mw 231 = [lw_at 8 125, lw_at 8 124, lw_at 0 110, lw_at 1 13] := rfl
theorem mw_232 : mw 232 = [lw_at 8 136, lw_at 8 135, lw_at 0 112, lw_at 1 13] := rfl
theorem mw_233 : mw 233 = [lw_at 8 140, lw_at 8 139, lw_at 0 113, lw_at 1 13] := rfl
theorem mw_234 : mw 234 = [lw_at 8 144, lw_at 8 143, lw_at 0 114, lw_at 1 13] := rfl
theorem mw_235 : mw 235 = [lw_at 8 120, lw_at 8 118, lw_at 8 119, lw_at 1 13] := rfl
theorem mw_236 : mw 236 = [lw_at 8 148, lw_at 8 146, lw_at 8 147, lw_at 1 13] := rfl
theorem mw_237 : mw 237 = [lw_at 7 223, lw_at 7 222, lw_at 1 13] := rfl
theorem mw_238 : mw 238 = [lw_at 8 152, lw_at 8 150, lw_at 8 151, lw_at 1 13] := rfl
theorem mw_239 : mw 239 = [lw_at 8 156, lw_at 8 154, lw_at 8 155, lw_at 1 13] := rfl
theorem mw_240 : mw 240 = [lw_at 8 164, lw_at 8 163, lw_at 0 115, lw_at 1 13] := rfl
theorem mw_241 : mw 241 = [lw_at 8 167, lw_at 8 166, lw_at 1 13] := rfl
theorem mw_242 : mw 242 = [lw_at 8 160, lw_at 8 158, lw_at 8 159, lw_at 1 13] := rfl
theorem mw_243 : mw 243 = [lw_at 8 171, lw_at 8 169, lw_at 8 170, lw_at 1 13] := rfl
theorem mw_244 : mw 244 = [lw_at 8 176, lw_at 8 174, lw_at 8 175, lw_at 1 13] := rfl
theorem mw_245 : mw 245 = [lw_at 8 180, lw_at 8 178, lw_at 8 179, lw_at 1 13] := rfl
theorem mw_246 : mw 246 = [lw_at 8 185, lw_at 8 183, lw_at 8 184, lw_at 1 13] := rfl
theorem mw_247 : mw 247 = [lw_at 8 189, lw_at 8 187, lw_at 8 188, lw_at 1 13] := rfl
theorem mw_248 : mw 248 = [lw_at 4 196, lw_at 4 195, lw_at 1 20] := rfl
theorem mw_249 : mw 249 = [lw_at 5 23, lw_at 5 22, lw_at 1 21] := rfl
theorem mw_250 : mw 250 = [lw_at 4 128, lw_at 4 127, lw_at 1 16] := rfl
theorem mw_251 : mw 251 = [lw_at 3 186, lw_at 3 185, lw_at 1 16] := rfl
theorem mw_252 : mw 252 = [lw_at 3 189, lw_at 3 188, lw_at 1 16] := rfl
theorem mw_253 : mw 253 = [lw_at 3 159, lw_at 3 157, lw_at 3 158, lw_at 1 14] := rfl
theorem mw_254 : mw 254 = [lw_at 3 163, lw_at 3 161, lw_at 3 162, lw_at 1 14] := rfl
theorem mw_255 : mw 255 = [lw_at 3 167, lw_at 3 165, lw_at 3 166, lw_at 1 14] := rfl
theorem mw_256 : mw 256 = [lw_at 3 173, lw_at 3 171, lw_at 3 172, lw_at 1 14] := rfl
theorem mw_257 : mw 257 = [lw_at 3 177, lw_at 3 175, lw_at 3 176, lw_at 1 14] := rfl
theorem mw_258 : mw 258 = [lw_at 3 183, lw_at 3 182, lw_at 1 15] := rfl
theorem mw_259 : mw 259 = [lw_at 3 180, lw_at 3 179, lw_at 1 15] := rfl
theorem mw_260 : mw 260 = [lw_at 3 192, lw_at 3 191, lw_at 1 15] := rfl
def lk (own : Nat) (e : Nat × (Nat × Nat × Nat)) : Option Cond := (mI e.2.1).map (fun q => .methodLink (cn own) e.1 q.1)
set_option maxRecDepth 100000 in
theorem lk_0 : (tb_m0).map (lk 0) = [lw_at 5 105, lw_at 5 113, lw_at 5 117, lw_at 5 121, lw_at 5 109] := rfl
set_option maxRecDepth 100000 in
theorem lk_1 : (tb_m1).map (lk 1) = [] := rfl
set_option maxRecDepth 100000 in
theorem lk_2 : (tb_m2).map (lk 2) = [lw_at 4 64] := rfl
set_option maxRecDepth 100000 in
theorem lk_3 : (tb_m3).map (lk 3) = [] := rfl
set_option maxRecDepth 100000 in
theorem lk_4 : (tb_m4).map (lk 4) = [lw_at 4 177, lw_at 4 186, lw_at 4 197, lw_at 4 205, lw_at 4 209, lw_at 4 181, some (.methodLink (cn 4) 96 yX11_distance), lw_at 4 190, lw_at 4 194, lw_at 4 201] := rfl
set_option maxRecDepth 100000 in
theorem lk_5 : (tb_m5).map (lk 5) = [] := rfl
set_option maxRecDepth 100000 in
theorem lk_6 : (tb_m6).map (lk 6) = [] := rfl
set_option maxRecDepth 100000 in
theorem lk_7 : (tb_m7).map (lk 7) = [lw_at 4 29, lw_at 4 30] := rfl
set_option maxRecDepth 100000 in
theorem lk_8 : (tb_m8).map (lk 8) = [lw_at 5 149] := rfl
set_option maxRecDepth 100000 in
theorem lk_9 : (tb_m9).map (lk 9) = [lw_at 3 111, lw_at 3 139, lw_at 3 115, lw_at 3 147, lw_at 3 119, lw_at 3 123, lw_at 3 127, lw_at 3 131, lw_at 3 135, lw_at 3 143, lw_at 3 151, lw_at 3 156] := rfl
set_option maxRecDepth 100000 in
theorem lk_10 : (tb_m10).map (lk 10) = [lw_at 5 35, lw_at 5 67] := rfl
set_option maxRecDepth 100000 in
theorem lk_11 : (tb_m11).map (lk 11) = [lw_at 3 28, lw_at 3 32, lw_at 3 35, lw_at 3 47, lw_at 3 64, lw_at 3 72, lw_at 3 76, lw_at 3 84, lw_at 4 126, lw_at 3 92, lw_at 3 100, lw_at 3 104, lw_at 3 107, lw_at 4 8, lw_at 4 16, lw_at 4 38, lw_at 4 50, lw_at 4 20, lw_at 4 24, lw_at 4 33, lw_at 4 42, lw_at 4 36, lw_at 4 37, lw_at 4 60, lw_at 4 69, lw_at 4 73, lw_at 4 77, lw_at 4 85, lw_at 4 89, lw_at 4 97, lw_at 4 104, lw_at 4 112, lw_at 4 115, lw_at 4 133, lw_at 4 119, lw_at 4 123, lw_at 4 141, lw_at 4 145, lw_at 4 137, lw_at 4 153, lw_at 4 237, lw_at 5 1, lw_at 4 157, lw_at 4 173, lw_at 4 213, lw_at 4 217, lw_at 4 161, lw_at 4 165, lw_at 4 169, lw_at 4 221, lw_at 4 225, lw_at 4 229, lw_at 5 13, lw_at 5 21, lw_at 5 31, lw_at 5 43, lw_at 5 47, lw_at 5 51, lw_at 5 55, lw_at 5 59, lw_at 5 63, lw_at 5 76, lw_at 5 93, lw_at 5 97, lw_at 5 101, lw_at 5 137, lw_at 5 145, lw_at 5 153, lw_at 5 166, lw_at 5 167, none, lw_at 5 178, lw_at 5 185, lw_at 5 193] := rfl
set_option maxRecDepth 100000 in
theorem lk_12 : (tb_m12).map (lk 12) = [lw_at 6 227, lw_at 7 237, lw_at 7 11, lw_at 6 238, lw_at 7 2, lw_at 7 7, lw_at 7 24, lw_at 7 41, lw_at 7 49, lw_at 7 53, lw_at 7 61, lw_at 7 110, lw_at 7 90, lw_at 7 118, lw_at 7 94, lw_at 7 98, lw_at 7 102, lw_at 7 106, lw_at 7 114, lw_at 7 86, lw_at 7 122, lw_at 7 74, lw_at 7 78, lw_at 7 82, lw_at 7 130, lw_at 7 146, lw_at 7 142, lw_at 7 150, lw_at 7 154, lw_at 7 138, lw_at 7 157, lw_at 7 165, lw_at 7 183, lw_at 7 179, lw_at 7 187, lw_at 7 195, lw_at 7 200, lw_at 7 213, lw_at 7 221, lw_at 7 226, lw_at 7 234, lw_at 7 230, lw_at 8 12, lw_at 8 16, lw_at 8 8, lw_at 8 4, lw_at 8 36, lw_at 8 44, lw_at 8 52, lw_at 8 32, lw_at 8 40, lw_at 8 48, lw_at 8 28, lw_at 8 24, lw_at 8 60, lw_at 8 72, lw_at 8 88, lw_at 8 92, lw_at 8 96, lw_at 8 126, lw_at 8 130, lw_at 8 122, lw_at 8 133, lw_at 8 137, lw_at 8 141, lw_at 8 161, lw_at 8 165] := rfl
set_option maxRecDepth 100000 in
theorem lk_13 : (tb_m13).map (lk 13) = [] := rfl
set_option maxRecDepth 100000 in
theorem lk_14 : (tb_m14).map (lk 14) = [] := rfl
set_option maxRecDepth 100000 in
theorem lk_15 : (tb_m15).map (lk 15) = [] := rfl
set_option maxRecDepth 100000 in
theorem lk_16 : (tb_m16).map (lk 16) = [lw_at 3 174, lw_at 3 164, lw_at 3 170, lw_at 3 160, lw_at 3 178] := rfl
set_option maxRecDepth 100000 in
theorem lk_17 : (tb_m17).map (lk 17) = [lw_at 3 187, lw_at 3 181, lw_at 3 184, lw_at 3 190] := rfl
def kw (own : Nat) (e : Nat × TV) : Option Cond := match e.2 with
  | .inl x => some (.constant (cn own) e.1 (Int32.ofInt x))
  | .inr (.inl x) => some (.constantLong (cn own) e.1 (Int64.ofInt x))
  | _ => none
theorem kw_0 : (tb_c0).map (kw 0) = [] := by decide +kernel
theorem kw_1 : (tb_c1).map (kw 1) = [] := by decide +kernel
theorem kw_2 : (tb_c2).map (kw 2) = [] := by decide +kernel
theorem kw_3 : (tb_c3).map (kw 3) = [] := by decide +kernel
theorem kw_4 : (tb_c4).map (kw 4) = [] := by decide +kernel
theorem kw_5 : (tb_c5).map (kw 5) = [] := by decide +kernel
theorem kw_6 : (tb_c6).map (kw 6) = [] := by decide +kernel
theorem kw_7 : (tb_c7).map (kw 7) = [lw_at 4 28] := by decide +kernel
theorem kw_8 : (tb_c8).map (kw 8) = [] := by decide +kernel
theorem kw_9 : (tb_c9).map (kw 9) = [lw_at 4 2, none] := by decide +kernel
theorem kw_10 : (tb_c10).map (kw 10) = [] := by decide +kernel
theorem kw_11 : (tb_c11).map (kw 11) = [lw_at 3 51, lw_at 4 54, lw_at 4 55, lw_at 5 84, lw_at 5 161] := by decide +kernel
theorem kw_12 : (tb_c12).map (kw 12) = [lw_at 7 5, lw_at 6 226, lw_at 7 6, lw_at 7 19, lw_at 7 28, lw_at 7 69, lw_at 7 81, lw_at 7 129, lw_at 7 169, lw_at 7 170, lw_at 7 199, lw_at 7 208, lw_at 7 225, lw_at 8 112, lw_at 8 121, lw_at 7 224, lw_at 8 172, lw_at 8 181] := by decide +kernel
theorem kw_13 : (tb_c13).map (kw 13) = [] := by decide +kernel
theorem kw_14 : (tb_c14).map (kw 14) = [lw_at 5 24, lw_at 5 25, lw_at 5 26] := by decide +kernel
theorem kw_15 : (tb_c15).map (kw 15) = [] := by decide +kernel
theorem kw_16 : (tb_c16).map (kw 16) = [some (.constant (cn 16) 38 1)] := by decide +kernel
theorem kw_17 : (tb_c17).map (kw 17) = [] := by decide +kernel
set_option maxRecDepth 100000 in
theorem uw_0 : (u_ws RX0 TX0 6).map some = [lw_at 1 232, lw_at 1 234, lw_at 1 236, lw_at 1 238, lw_at 2 0, lw_at 2 2] := rfl
set_option maxRecDepth 100000 in
theorem uw_1 : (u_ws RX1 TX1 6).map some = [lw_at 2 92, lw_at 2 94, lw_at 2 96, lw_at 2 98, lw_at 2 100, lw_at 2 102] := rfl
set_option maxRecDepth 100000 in
theorem uw_2 : (u_ws RX2 TX2 7).map some = [lw_at 2 26, lw_at 2 28, lw_at 2 30, lw_at 2 32, lw_at 2 34, lw_at 2 36, lw_at 2 38] := rfl
set_option maxRecDepth 100000 in
theorem uw_3 : (u_ws RX3 TX3 7).map some = [lw_at 2 60, lw_at 2 62, lw_at 2 64, lw_at 2 66, lw_at 2 68, lw_at 2 70, lw_at 2 72] := rfl
set_option maxRecDepth 100000 in
theorem uw_4 : (u_ws RX4 TX4 14).map some = [lw_at 1 119, lw_at 1 121, lw_at 1 123, lw_at 1 125, lw_at 1 127, lw_at 1 129, lw_at 1 131, lw_at 1 133, lw_at 1 135, lw_at 1 137, lw_at 1 139, lw_at 1 141, lw_at 1 143, lw_at 1 145] := rfl
set_option maxRecDepth 100000 in
theorem uw_5 : (u_ws RX5 TX5 7).map some = [lw_at 2 127, lw_at 2 129, lw_at 2 131, lw_at 2 133, lw_at 2 135, lw_at 2 137, lw_at 2 139] := rfl
set_option maxRecDepth 100000 in
theorem uw_6 : (u_ws RX6 TX6 11).map some = [lw_at 1 77, lw_at 1 79, lw_at 1 81, lw_at 1 83, lw_at 1 85, lw_at 1 87, lw_at 1 89, lw_at 1 91, lw_at 1 93, lw_at 1 95, lw_at 1 97] := rfl
set_option maxRecDepth 100000 in
theorem uw_7 : (u_ws RX7 TX7 7).map some = [lw_at 2 160, lw_at 2 162, lw_at 2 164, lw_at 2 166, lw_at 2 168, lw_at 2 170, lw_at 2 172] := rfl
set_option maxRecDepth 100000 in
theorem uw_8 : (u_ws RX8 TX8 4).map some = [lw_at 2 188, lw_at 2 190, lw_at 2 192, lw_at 2 194] := rfl
set_option maxRecDepth 100000 in
theorem uw_9 : (u_ws RX9 TX9 3).map some = [lw_at 1 164, lw_at 1 166, lw_at 1 168] := rfl
set_option maxRecDepth 100000 in
theorem uw_10 : (u_ws RX10 TX10 10).map some = [lw_at 1 197, lw_at 1 199, lw_at 1 201, lw_at 1 203, lw_at 1 205, lw_at 1 207, lw_at 1 209, lw_at 1 211, lw_at 1 213, lw_at 1 215] := rfl
set_option maxRecDepth 100000 in
theorem uw_11 : (u_ws RX11 TX11 19).map some = [lw_at 2 217, lw_at 2 219, lw_at 2 221, lw_at 2 223, lw_at 2 225, lw_at 2 227, lw_at 2 229, lw_at 2 231, lw_at 2 233, lw_at 2 235, lw_at 2 237, lw_at 2 239, lw_at 3 1, lw_at 3 3, lw_at 3 5, lw_at 3 7, lw_at 3 9, lw_at 3 11, lw_at 3 13] := rfl
set_option maxRecDepth 100000 in
theorem uw_12 : (u_ws RX12 TX12 86).map some = [lw_at 6 49, lw_at 6 51, lw_at 6 53, lw_at 6 55, lw_at 6 57, lw_at 6 59, lw_at 6 61, lw_at 6 63, lw_at 6 65, lw_at 6 67, lw_at 6 69, lw_at 6 71, lw_at 6 73, lw_at 6 75, lw_at 6 77, lw_at 6 79, lw_at 6 81, lw_at 6 83, lw_at 6 85, lw_at 6 87, lw_at 6 89, lw_at 6 91, lw_at 6 93, lw_at 6 95, lw_at 6 97, lw_at 6 99, lw_at 6 101, lw_at 6 103, lw_at 6 105, lw_at 6 107, lw_at 6 109, lw_at 6 111, lw_at 6 113, lw_at 6 115, lw_at 6 117, lw_at 6 119, lw_at 6 121, lw_at 6 123, lw_at 6 125, lw_at 6 127, lw_at 6 129, lw_at 6 131, lw_at 6 133, lw_at 6 135, lw_at 6 137, lw_at 6 139, lw_at 6 141, lw_at 6 143, lw_at 6 145, lw_at 6 147, lw_at 6 149, lw_at 6 151, lw_at 6 153, lw_at 6 155, lw_at 6 157, lw_at 6 159, lw_at 6 161, lw_at 6 163, lw_at 6 165, lw_at 6 167, lw_at 6 169, lw_at 6 171, lw_at 6 173, lw_at 6 175, lw_at 6 177, lw_at 6 179, lw_at 6 181, lw_at 6 183, lw_at 6 185, lw_at 6 187, lw_at 6 189, lw_at 6 191, lw_at 6 193, lw_at 6 195, lw_at 6 197, lw_at 6 199, lw_at 6 201, lw_at 6 203, lw_at 6 205, lw_at 6 207, lw_at 6 209, lw_at 6 211, lw_at 6 213, lw_at 6 215, lw_at 6 217, lw_at 6 219] := rfl
def dj (pc : Nat) (i : Instr) (ts : List Nat) : Bool := match i, ts with
  | .ifCond _ off, [t] => decide ((pc : Int) + off = (t : Int))
  | .if_icmp _ off, [t] => decide ((pc : Int) + off = (t : Int))
  | .if_acmp _ off, [t] => decide ((pc : Int) + off = (t : Int))
  | .goto off, [t] => decide ((pc : Int) + off = (t : Int))
  | .tableswitch d lo hi os, t :: us => decide ((pc : Int) + d = (t : Int)) && decide (os.toList.map (fun o => (pc : Int) + o) = us.map (fun (u : Nat) => (u : Int))) && decide (hi - lo + 1 = (os.size : Int))
  | .lookupswitch d ps, t :: us => decide ((pc : Int) + d = (t : Int)) && decide (ps.toList.map (fun o => (pc : Int) + o.2) = us.map (fun (u : Nat) => (u : Int))) && (ps.toList.zip (ps.toList.drop 1)).all (fun (a, next) => a.1 < next.1)
  | _, _ => true
def dk (b : ByteArray) (e : Nat × Instr × Nat × List Nat) : Bool := match decode b e.1 with
  | .ok (i, n) => decide (i = e.2.1) && Nat.beq e.2.2.1 (e.1 + n) && dj e.1 e.2.1 e.2.2.2
  | _ => false
theorem dk_0 : ((kX0_begin).2.2.2.1).all (fun l => l.all (dk prog_2_method_2_code)) = true := by decide +kernel
theorem dk_1 : ((kX0_of).2.2.2.1).all (fun l => l.all (dk prog_2_method_3_code)) = true := by decide +kernel
theorem dk_2 : ((kX0_began).2.2.2.1).all (fun l => l.all (dk prog_2_method_4_code)) = true := by decide +kernel
theorem dk_3 : ((kX0_run).2.2.2.1).all (fun l => l.all (dk prog_2_method_5_code)) = true := by decide +kernel
theorem dk_4 : ((kX0_means).2.2.2.1).all (fun l => l.all (dk prog_2_method_6_code)) = true := by decide +kernel
theorem dk_5 : ((kX0_clashes).2.2.2.1).all (fun l => l.all (dk prog_2_method_7_code)) = true := by decide +kernel
theorem dk_6 : ((kX0_hides).2.2.2.1).all (fun l => l.all (dk prog_2_method_8_code)) = true := by decide +kernel
theorem dk_7 : ((kX0_ends).2.2.2.1).all (fun l => l.all (dk prog_2_method_9_code)) = true := by decide +kernel
theorem dk_8 : ((kX1_late).2.2.2.1).all (fun l => l.all (dk prog_3_method_2_code)) = true := by decide +kernel
theorem dk_9 : ((kX2_due).2.2.2.1).all (fun l => l.all (dk prog_4_method_2_code)) = true := by decide +kernel
theorem dk_10 : ((kX2_firstDue).2.2.2.1).all (fun l => l.all (dk prog_4_method_3_code)) = true := by decide +kernel
theorem dk_11 : ((kX3_owed).2.2.2.1).all (fun l => l.all (dk prog_5_method_2_code)) = true := by decide +kernel
theorem dk_12 : ((kX4_begin).2.2.2.1).all (fun l => l.all (dk prog_6_method_2_code)) = true := by decide +kernel
theorem dk_13 : ((kX4_give).2.2.2.1).all (fun l => l.all (dk prog_6_method_3_code)) = true := by decide +kernel
theorem dk_14 : ((kX4_workOut).2.2.2.1).all (fun l => l.all (dk prog_6_method_4_code)) = true := by decide +kernel
theorem dk_15 : ((kX4_goal).2.2.2.1).all (fun l => l.all (dk prog_6_method_5_code)) = true := by decide +kernel
theorem dk_16 : ((kX4_measure).2.2.2.1).all (fun l => l.all (dk prog_6_method_6_code)) = true := by decide +kernel
theorem dk_17 : ((kX4_findFirst).2.2.2.1).all (fun l => l.all (dk prog_6_method_7_code)) = true := by decide +kernel
theorem dk_18 : ((kX4_compare).2.2.2.1).all (fun l => l.all (dk prog_6_method_8_code)) = true := by decide +kernel
theorem dk_19 : ((kX4_failSwaps).2.2.2.1).all (fun l => l.all (dk prog_6_method_9_code)) = true := by decide +kernel
theorem dk_20 : ((kX4_failBlocked).2.2.2.1).all (fun l => l.all (dk prog_6_method_10_code)) = true := by decide +kernel
theorem dk_21 : ((kX4_goes).2.2.2.1).all (fun l => l.all (dk prog_6_method_11_code)) = true := by decide +kernel
theorem dk_22 : ((kX4_cellAfter).2.2.2.1).all (fun l => l.all (dk prog_6_method_12_code)) = true := by decide +kernel
theorem dk_23 : ((kX4_numberAfter).2.2.2.1).all (fun l => l.all (dk prog_6_method_13_code)) = true := by decide +kernel
theorem dk_24 : ((kX4_carryOut).2.2.2.1).all (fun l => l.all (dk prog_6_method_14_code)) = true := by decide +kernel
theorem dk_25 : ((kX6_goBack).2.2.2.1).all (fun l => l.all (dk prog_8_method_2_code)) = true := by decide +kernel
theorem dk_26 : ((kX6_isElsewhere).2.2.2.1).all (fun l => l.all (dk prog_8_method_3_code)) = true := by decide +kernel
theorem dk_27 : ((kX7_add).2.2.2.1).all (fun l => l.all (dk prog_9_method_2_code)) = true := by decide +kernel
theorem dk_28 : ((kX7_worth).2.2.2.1).all (fun l => l.all (dk prog_9_method_3_code)) = true := by decide +kernel
theorem dk_29 : ((kX7_joined).2.2.2.1).all (fun l => l.all (dk prog_9_method_4_code)) = true := by decide +kernel
theorem dk_30 : ((kX8_isRow).2.2.2.1).all (fun l => l.all (dk prog_10_method_2_code)) = true := by decide +kernel
theorem dk_31 : ((kX8_becomeRow).2.2.2.1).all (fun l => l.all (dk prog_10_method_3_code)) = true := by decide +kernel
theorem dk_32 : ((kX8_refusal).2.2.2.1).all (fun l => l.all (dk prog_10_method_4_code)) = true := by decide +kernel
theorem dk_33 : ((kX8_hasRun).2.2.2.1).all (fun l => l.all (dk prog_10_method_5_code)) = true := by decide +kernel
theorem dk_34 : ((kX8_cut).2.2.2.1).all (fun l => l.all (dk prog_10_method_6_code)) = true := by decide +kernel
theorem dk_35 : ((kX9_add).2.2.2.1).all (fun l => l.all (dk prog_11_method_2_code)) = true := by decide +kernel
theorem dk_36 : ((kX9_next).2.2.2.1).all (fun l => l.all (dk prog_11_method_3_code)) = true := by decide +kernel
theorem dk_37 : ((kX9_compile).2.2.2.1).all (fun l => l.all (dk prog_11_method_4_code)) = true := by decide +kernel
theorem dk_38 : ((kX9_line).2.2.2.1).all (fun l => l.all (dk prog_11_method_5_code)) = true := by decide +kernel
theorem dk_39 : ((kX9_either).2.2.2.1).all (fun l => l.all (dk prog_11_method_6_code)) = true := by decide +kernel
theorem dk_40 : ((kX9_both).2.2.2.1).all (fun l => l.all (dk prog_11_method_7_code)) = true := by decide +kernel
theorem dk_41 : ((kX9_compared).2.2.2.1).all (fun l => l.all (dk prog_11_method_8_code)) = true := by decide +kernel
theorem dk_42 : ((kX9_sum).2.2.2.1).all (fun l => l.all (dk prog_11_method_9_code)) = true := by decide +kernel
theorem dk_43 : ((kX9_product).2.2.2.1).all (fun l => l.all (dk prog_11_method_10_code)) = true := by decide +kernel
theorem dk_44 : ((kX9_operand).2.2.2.1).all (fun l => l.all (dk prog_11_method_11_code)) = true := by decide +kernel
theorem dk_45 : ((kX9_number).2.2.2.1).all (fun l => l.all (dk prog_11_method_12_code)) = true := by decide +kernel
theorem dk_46 : ((kX9_name).2.2.2.1).all (fun l => l.all (dk prog_11_method_13_code)) = true := by decide +kernel
theorem dk_47 : ((kX10_tell).2.2.2.1).all (fun l => l.all (dk prog_12_method_2_code)) = true := by decide +kernel
theorem dk_48 : ((kX10_placeOf).2.2.2.1).all (fun l => l.all (dk prog_12_method_3_code)) = true := by decide +kernel
theorem dk_49 : ((kX10_rows).2.2.2.1).all (fun l => l.all (dk prog_12_method_4_code)) = true := by decide +kernel
theorem dk_50 : ((kX10_pick).2.2.2.1).all (fun l => l.all (dk prog_12_method_5_code)) = true := by decide +kernel
theorem dk_51 : ((kX10_pickDigits).2.2.2.1).all (fun l => l.all (dk prog_12_method_6_code)) = true := by decide +kernel
theorem dk_52 : ((kX10_choose).2.2.2.1).all (fun l => l.all (dk prog_12_method_7_code)) = true := by decide +kernel
theorem dk_53 : ((kX11_days).2.2.2.1).all (fun l => l.all (dk prog_1_method_2_code)) = true := by decide +kernel
theorem dk_54 : ((kX11_game).2.2.2.1).all (fun l => l.all (dk prog_1_method_3_code)) = true := by decide +kernel
theorem dk_55 : ((kX11_cell).2.2.2.1).all (fun l => l.all (dk prog_1_method_4_code)) = true := by decide +kernel
theorem dk_56 : ((kX11_holder).2.2.2.1).all (fun l => l.all (dk prog_1_method_5_code)) = true := by decide +kernel
theorem dk_57 : ((kX11_runs).2.2.2.1).all (fun l => l.all (dk prog_1_method_6_code)) = true := by decide +kernel
theorem dk_58 : ((kX11_drops).2.2.2.1).all (fun l => l.all (dk prog_1_method_7_code)) = true := by decide +kernel
theorem dk_59 : ((kX11_piece).2.2.2.1).all (fun l => l.all (dk prog_1_method_8_code)) = true := by decide +kernel
theorem dk_60 : ((kX11_ofPiece).2.2.2.1).all (fun l => l.all (dk prog_1_method_9_code)) = true := by decide +kernel
theorem dk_61 : ((kX11_ofHolder).2.2.2.1).all (fun l => l.all (dk prog_1_method_10_code)) = true := by decide +kernel
theorem dk_62 : ((kX11_ofGame).2.2.2.1).all (fun l => l.all (dk prog_1_method_11_code)) = true := by decide +kernel
theorem dk_63 : ((kX11_isGame).2.2.2.1).all (fun l => l.all (dk prog_1_method_12_code)) = true := by decide +kernel
theorem dk_64 : ((kX11_isHolder).2.2.2.1).all (fun l => l.all (dk prog_1_method_13_code)) = true := by decide +kernel
theorem dk_65 : ((kX11_isPiece).2.2.2.1).all (fun l => l.all (dk prog_1_method_14_code)) = true := by decide +kernel
theorem dk_66 : ((kX11_isCard).2.2.2.1).all (fun l => l.all (dk prog_1_method_15_code)) = true := by decide +kernel
theorem dk_67 : ((kX11_isOrder).2.2.2.1).all (fun l => l.all (dk prog_1_method_16_code)) = true := by decide +kernel
theorem dk_68 : ((kX11_isCell).2.2.2.1).all (fun l => l.all (dk prog_1_method_17_code)) = true := by decide +kernel
theorem dk_69 : ((kX11_isTurn).2.2.2.1).all (fun l => l.all (dk prog_1_method_18_code)) = true := by decide +kernel
theorem dk_70 : ((kX11_isShelf).2.2.2.1).all (fun l => l.all (dk prog_1_method_19_code)) = true := by decide +kernel
theorem dk_71 : ((kX11_distance).2.2.2.1).all (fun l => l.all (dk prog_1_method_20_code)) = true := by decide +kernel
theorem dk_72 : ((kX11_pieceIn).2.2.2.1).all (fun l => l.all (dk prog_1_method_21_code)) = true := by decide +kernel
theorem dk_73 : ((kX11_piecesOf).2.2.2.1).all (fun l => l.all (dk prog_1_method_22_code)) = true := by decide +kernel
theorem dk_74 : ((kX11_feed).2.2.2.1).all (fun l => l.all (dk prog_1_method_23_code)) = true := by decide +kernel
theorem dk_75 : ((kX11_rule).2.2.2.1).all (fun l => l.all (dk prog_1_method_24_code)) = true := by decide +kernel
theorem dk_76 : ((kX11_inForce).2.2.2.1).all (fun l => l.all (dk prog_1_method_25_code)) = true := by decide +kernel
theorem dk_77 : ((kX11_says).2.2.2.1).all (fun l => l.all (dk prog_1_method_26_code)) = true := by decide +kernel
theorem dk_78 : ((kX11_drawn).2.2.2.1).all (fun l => l.all (dk prog_1_method_27_code)) = true := by decide +kernel
theorem dk_79 : ((kX11_isRuled).2.2.2.1).all (fun l => l.all (dk prog_1_method_28_code)) = true := by decide +kernel
theorem dk_80 : ((kX11_ruleIn).2.2.2.1).all (fun l => l.all (dk prog_1_method_29_code)) = true := by decide +kernel
theorem dk_81 : ((kX11_drawnFor).2.2.2.1).all (fun l => l.all (dk prog_1_method_30_code)) = true := by decide +kernel
theorem dk_82 : ((kX11_clearNames).2.2.2.1).all (fun l => l.all (dk prog_1_method_31_code)) = true := by decide +kernel
theorem dk_83 : ((kX11_namePiece).2.2.2.1).all (fun l => l.all (dk prog_1_method_32_code)) = true := by decide +kernel
theorem dk_84 : ((kX11_mayBe).2.2.2.1).all (fun l => l.all (dk prog_1_method_33_code)) = true := by decide +kernel
theorem dk_85 : ((kX11_tieOf).2.2.2.1).all (fun l => l.all (dk prog_1_method_34_code)) = true := by decide +kernel
theorem dk_86 : ((kX11_sightOf).2.2.2.1).all (fun l => l.all (dk prog_1_method_35_code)) = true := by decide +kernel
theorem dk_87 : ((kX11_feeOf).2.2.2.1).all (fun l => l.all (dk prog_1_method_36_code)) = true := by decide +kernel
theorem dk_88 : ((kX11_within).2.2.2.1).all (fun l => l.all (dk prog_1_method_37_code)) = true := by decide +kernel
theorem dk_89 : ((kX11_card).2.2.2.1).all (fun l => l.all (dk prog_1_method_38_code)) = true := by decide +kernel
theorem dk_90 : ((kX11_ofCard).2.2.2.1).all (fun l => l.all (dk prog_1_method_39_code)) = true := by decide +kernel
theorem dk_91 : ((kX11_order).2.2.2.1).all (fun l => l.all (dk prog_1_method_40_code)) = true := by decide +kernel
theorem dk_92 : ((kX11_turn).2.2.2.1).all (fun l => l.all (dk prog_1_method_41_code)) = true := by decide +kernel
theorem dk_93 : ((kX11_ofOrder).2.2.2.1).all (fun l => l.all (dk prog_1_method_42_code)) = true := by decide +kernel
theorem dk_94 : ((kX11_read).2.2.2.1).all (fun l => l.all (dk prog_1_method_43_code)) = true := by decide +kernel
theorem dk_95 : ((kX11_orderOf).2.2.2.1).all (fun l => l.all (dk prog_1_method_44_code)) = true := by decide +kernel
theorem dk_96 : ((kX11_isSound).2.2.2.1).all (fun l => l.all (dk prog_1_method_45_code)) = true := by decide +kernel
theorem dk_97 : ((kX11_isKindTold).2.2.2.1).all (fun l => l.all (dk prog_1_method_46_code)) = true := by decide +kernel
theorem dk_98 : ((kX11_addOrder).2.2.2.1).all (fun l => l.all (dk prog_1_method_47_code)) = true := by decide +kernel
theorem dk_99 : ((kX11_readFour).2.2.2.1).all (fun l => l.all (dk prog_1_method_48_code)) = true := by decide +kernel
theorem dk_100 : ((kX11_cardCounts).2.2.2.1).all (fun l => l.all (dk prog_1_method_49_code)) = true := by decide +kernel
theorem dk_101 : ((kX11_canBe).2.2.2.1).all (fun l => l.all (dk prog_1_method_50_code)) = true := by decide +kernel
theorem dk_102 : ((kX11_isOfTurn).2.2.2.1).all (fun l => l.all (dk prog_1_method_51_code)) = true := by decide +kernel
theorem dk_103 : ((kX11_fits).2.2.2.1).all (fun l => l.all (dk prog_1_method_52_code)) = true := by decide +kernel
theorem dk_104 : ((kX11_holdsGood).2.2.2.1).all (fun l => l.all (dk prog_1_method_53_code)) = true := by decide +kernel
theorem dk_105 : ((kX11_done).2.2.2.1).all (fun l => l.all (dk prog_1_method_54_code)) = true := by decide +kernel
theorem dk_106 : ((kX11_again).2.2.2.1).all (fun l => l.all (dk prog_1_method_55_code)) = true := by decide +kernel
theorem dk_107 : ((kX11_was).2.2.2.1).all (fun l => l.all (dk prog_1_method_56_code)) = true := by decide +kernel
theorem dk_108 : ((kX11_doTurn).2.2.2.1).all (fun l => l.all (dk prog_1_method_57_code)) = true := by decide +kernel
theorem dk_109 : ((kX11_giveOrders).2.2.2.1).all (fun l => l.all (dk prog_1_method_58_code)) = true := by decide +kernel
theorem dk_110 : ((kX11_playsIn).2.2.2.1).all (fun l => l.all (dk prog_1_method_59_code)) = true := by decide +kernel
theorem dk_111 : ((kX11_settle).2.2.2.1).all (fun l => l.all (dk prog_1_method_60_code)) = true := by decide +kernel
theorem dk_112 : ((kX11_coinsAfter).2.2.2.1).all (fun l => l.all (dk prog_1_method_61_code)) = true := by decide +kernel
theorem dk_113 : ((kX11_sees).2.2.2.1).all (fun l => l.all (dk prog_1_method_62_code)) = true := by decide +kernel
theorem dk_114 : ((kX11_alike).2.2.2.1).all (fun l => l.all (dk prog_1_method_63_code)) = true := by decide +kernel
theorem dk_115 : ((kX11_sheetOf).2.2.2.1).all (fun l => l.all (dk prog_1_method_64_code)) = true := by decide +kernel
theorem dk_116 : ((kX11_way).2.2.2.1).all (fun l => l.all (dk prog_1_method_65_code)) = true := by decide +kernel
theorem dk_117 : ((kX11_best).2.2.2.1).all (fun l => l.all (dk prog_1_method_66_code)) = true := by decide +kernel
theorem dk_118 : ((kX11_bestWay).2.2.2.1).all (fun l => l.all (dk prog_1_method_67_code)) = true := by decide +kernel
theorem dk_119 : ((kX11_judge).2.2.2.1).all (fun l => l.all (dk prog_1_method_68_code)) = true := by decide +kernel
theorem dk_120 : ((kX11_canJudge).2.2.2.1).all (fun l => l.all (dk prog_1_method_69_code)) = true := by decide +kernel
theorem dk_121 : ((kX11_readyWays).2.2.2.1).all (fun l => l.all (dk prog_1_method_70_code)) = true := by decide +kernel
theorem dk_122 : ((kX11_playRow).2.2.2.1).all (fun l => l.all (dk prog_1_method_71_code)) = true := by decide +kernel
theorem dk_123 : ((kX11_pay).2.2.2.1).all (fun l => l.all (dk prog_1_method_72_code)) = true := by decide +kernel
theorem dk_124 : ((kX11_bar).2.2.2.1).all (fun l => l.all (dk prog_1_method_73_code)) = true := by decide +kernel
theorem dk_125 : ((kX11_act).2.2.2.1).all (fun l => l.all (dk prog_1_method_74_code)) = true := by decide +kernel
theorem dk_126 : ((kX11_trace).2.2.2.1).all (fun l => l.all (dk prog_1_method_75_code)) = true := by decide +kernel
theorem dk_127 : ((kX11_keep).2.2.2.1).all (fun l => l.all (dk prog_1_method_76_code)) = true := by decide +kernel
theorem dk_128 : ((kX11_row).2.2.2.1).all (fun l => l.all (dk prog_1_method_77_code)) = true := by decide +kernel
theorem dk_129 : ((kX11_put).2.2.2.1).all (fun l => l.all (dk prog_1_method_78_code)) = true := by decide +kernel
theorem dk_130 : ((kX11_element).2.2.2.1).all (fun l => l.all (dk prog_1_method_79_code)) = true := by decide +kernel
theorem dk_131 : ((kX11_shift).2.2.2.1).all (fun l => l.all (dk prog_1_method_80_code)) = true := by decide +kernel
theorem dk_132 : ((kX11_taken).2.2.2.1).all (fun l => l.all (dk prog_1_method_81_code)) = true := by decide +kernel
theorem dk_133 : ((kX11_check).2.2.2.1).all (fun l => l.all (dk prog_1_method_82_code)) = true := by decide +kernel
theorem dk_134 : ((kX11_count).2.2.2.1).all (fun l => l.all (dk prog_1_method_83_code)) = true := by decide +kernel
theorem dk_135 : ((kX11_piecesThere).2.2.2.1).all (fun l => l.all (dk prog_1_method_84_code)) = true := by decide +kernel
theorem dk_136 : ((kX11_isUnder).2.2.2.1).all (fun l => l.all (dk prog_1_method_85_code)) = true := by decide +kernel
theorem dk_137 : ((kX11_isBalanced).2.2.2.1).all (fun l => l.all (dk prog_1_method_86_code)) = true := by decide +kernel
theorem dk_138 : ((kX12_within).2.2.2.1).all (fun l => l.all (dk prog_14_method_2_code)) = true := by decide +kernel
theorem dk_139 : ((kX12_isGame).2.2.2.1).all (fun l => l.all (dk prog_14_method_3_code)) = true := by decide +kernel
theorem dk_140 : ((kX12_isHolder).2.2.2.1).all (fun l => l.all (dk prog_14_method_4_code)) = true := by decide +kernel
theorem dk_141 : ((kX12_isPiece).2.2.2.1).all (fun l => l.all (dk prog_14_method_5_code)) = true := by decide +kernel
theorem dk_142 : ((kX12_isCell).2.2.2.1).all (fun l => l.all (dk prog_14_method_6_code)) = true := by decide +kernel
theorem dk_143 : ((kX12_size).2.2.2.1).all (fun l => l.all (dk prog_14_method_7_code)) = true := by decide +kernel
theorem dk_144 : ((kX12_wayOf).2.2.2.1).all (fun l => l.all (dk prog_14_method_8_code)) = true := by decide +kernel
theorem dk_145 : ((kX12_gameOf).2.2.2.1).all (fun l => l.all (dk prog_14_method_9_code)) = true := by decide +kernel
theorem dk_146 : ((kX12_days).2.2.2.1).all (fun l => l.all (dk prog_14_method_10_code)) = true := by decide +kernel
theorem dk_147 : ((kX12_game).2.2.2.1).all (fun l => l.all (dk prog_14_method_11_code)) = true := by decide +kernel
theorem dk_148 : ((kX12_pieceAt).2.2.2.1).all (fun l => l.all (dk prog_14_method_12_code)) = true := by decide +kernel
theorem dk_149 : ((kX12_cell).2.2.2.1).all (fun l => l.all (dk prog_14_method_13_code)) = true := by decide +kernel
theorem dk_150 : ((kX12_holder).2.2.2.1).all (fun l => l.all (dk prog_14_method_14_code)) = true := by decide +kernel
theorem dk_151 : ((kX12_runs).2.2.2.1).all (fun l => l.all (dk prog_14_method_15_code)) = true := by decide +kernel
theorem dk_152 : ((kX12_drops).2.2.2.1).all (fun l => l.all (dk prog_14_method_16_code)) = true := by decide +kernel
theorem dk_153 : ((kX12_piece).2.2.2.1).all (fun l => l.all (dk prog_14_method_17_code)) = true := by decide +kernel
theorem dk_154 : ((kX12_ofPiece).2.2.2.1).all (fun l => l.all (dk prog_14_method_18_code)) = true := by decide +kernel
theorem dk_155 : ((kX12_standing).2.2.2.1).all (fun l => l.all (dk prog_14_method_19_code)) = true := by decide +kernel
theorem dk_156 : ((kX12_owed).2.2.2.1).all (fun l => l.all (dk prog_14_method_20_code)) = true := by decide +kernel
theorem dk_157 : ((kX12_ofHolder).2.2.2.1).all (fun l => l.all (dk prog_14_method_21_code)) = true := by decide +kernel
theorem dk_158 : ((kX12_dueOn).2.2.2.1).all (fun l => l.all (dk prog_14_method_22_code)) = true := by decide +kernel
theorem dk_159 : ((kX12_ofGame).2.2.2.1).all (fun l => l.all (dk prog_14_method_23_code)) = true := by decide +kernel
theorem dk_160 : ((kX12_feed).2.2.2.1).all (fun l => l.all (dk prog_14_method_24_code)) = true := by decide +kernel
theorem dk_161 : ((kX12_byteAt).2.2.2.1).all (fun l => l.all (dk prog_14_method_25_code)) = true := by decide +kernel
theorem dk_162 : ((kX12_wrong).2.2.2.1).all (fun l => l.all (dk prog_14_method_26_code)) = true := by decide +kernel
theorem dk_163 : ((kX12_takes).2.2.2.1).all (fun l => l.all (dk prog_14_method_27_code)) = true := by decide +kernel
theorem dk_164 : ((kX12_either).2.2.2.1).all (fun l => l.all (dk prog_14_method_28_code)) = true := by decide +kernel
theorem dk_165 : ((kX12_both).2.2.2.1).all (fun l => l.all (dk prog_14_method_29_code)) = true := by decide +kernel
theorem dk_166 : ((kX12_compared).2.2.2.1).all (fun l => l.all (dk prog_14_method_30_code)) = true := by decide +kernel
theorem dk_167 : ((kX12_sums).2.2.2.1).all (fun l => l.all (dk prog_14_method_31_code)) = true := by decide +kernel
theorem dk_168 : ((kX12_product).2.2.2.1).all (fun l => l.all (dk prog_14_method_32_code)) = true := by decide +kernel
theorem dk_169 : ((kX12_nameOf).2.2.2.1).all (fun l => l.all (dk prog_14_method_33_code)) = true := by decide +kernel
theorem dk_170 : ((kX12_one).2.2.2.1).all (fun l => l.all (dk prog_14_method_34_code)) = true := by decide +kernel
theorem dk_171 : ((kX12_workOut).2.2.2.1).all (fun l => l.all (dk prog_14_method_35_code)) = true := by decide +kernel
theorem dk_172 : ((kX12_isWhat).2.2.2.1).all (fun l => l.all (dk prog_14_method_36_code)) = true := by decide +kernel
theorem dk_173 : ((kX12_isTurn).2.2.2.1).all (fun l => l.all (dk prog_14_method_37_code)) = true := by decide +kernel
theorem dk_174 : ((kX12_rule).2.2.2.1).all (fun l => l.all (dk prog_14_method_38_code)) = true := by decide +kernel
theorem dk_175 : ((kX12_ruleFor).2.2.2.1).all (fun l => l.all (dk prog_14_method_39_code)) = true := by decide +kernel
theorem dk_176 : ((kX12_inForce).2.2.2.1).all (fun l => l.all (dk prog_14_method_40_code)) = true := by decide +kernel
theorem dk_177 : ((kX12_gives).2.2.2.1).all (fun l => l.all (dk prog_14_method_41_code)) = true := by decide +kernel
theorem dk_178 : ((kX12_held).2.2.2.1).all (fun l => l.all (dk prog_14_method_42_code)) = true := by decide +kernel
theorem dk_179 : ((kX12_noNames).2.2.2.1).all (fun l => l.all (dk prog_14_method_43_code)) = true := by decide +kernel
theorem dk_180 : ((kX12_nameOrder).2.2.2.1).all (fun l => l.all (dk prog_14_method_44_code)) = true := by decide +kernel
theorem dk_181 : ((kX12_sightOf).2.2.2.1).all (fun l => l.all (dk prog_14_method_45_code)) = true := by decide +kernel
theorem dk_182 : ((kX12_feeOf).2.2.2.1).all (fun l => l.all (dk prog_14_method_46_code)) = true := by decide +kernel
theorem dk_183 : ((kX12_says).2.2.2.1).all (fun l => l.all (dk prog_14_method_47_code)) = true := by decide +kernel
theorem dk_184 : ((kX12_drawnFor).2.2.2.1).all (fun l => l.all (dk prog_14_method_48_code)) = true := by decide +kernel
theorem dk_185 : ((kX12_drawn).2.2.2.1).all (fun l => l.all (dk prog_14_method_49_code)) = true := by decide +kernel
theorem dk_186 : ((kX12_card).2.2.2.1).all (fun l => l.all (dk prog_14_method_50_code)) = true := by decide +kernel
theorem dk_187 : ((kX12_isCard).2.2.2.1).all (fun l => l.all (dk prog_14_method_51_code)) = true := by decide +kernel
theorem dk_188 : ((kX12_isLate).2.2.2.1).all (fun l => l.all (dk prog_14_method_52_code)) = true := by decide +kernel
theorem dk_189 : ((kX12_counts).2.2.2.1).all (fun l => l.all (dk prog_14_method_53_code)) = true := by decide +kernel
theorem dk_190 : ((kX12_ofCard).2.2.2.1).all (fun l => l.all (dk prog_14_method_54_code)) = true := by decide +kernel
theorem dk_191 : ((kX12_add).2.2.2.1).all (fun l => l.all (dk prog_14_method_55_code)) = true := by decide +kernel
theorem dk_192 : ((kX12_isSaid).2.2.2.1).all (fun l => l.all (dk prog_14_method_56_code)) = true := by decide +kernel
theorem dk_193 : ((kX12_order).2.2.2.1).all (fun l => l.all (dk prog_14_method_57_code)) = true := by decide +kernel
theorem dk_194 : ((kX12_isOrder).2.2.2.1).all (fun l => l.all (dk prog_14_method_58_code)) = true := by decide +kernel
theorem dk_195 : ((kX12_turn).2.2.2.1).all (fun l => l.all (dk prog_14_method_59_code)) = true := by decide +kernel
theorem dk_196 : ((kX12_ofOrder).2.2.2.1).all (fun l => l.all (dk prog_14_method_60_code)) = true := by decide +kernel
theorem dk_197 : ((kX12_read).2.2.2.1).all (fun l => l.all (dk prog_14_method_61_code)) = true := by decide +kernel
theorem dk_198 : ((kX12_isBeside).2.2.2.1).all (fun l => l.all (dk prog_14_method_62_code)) = true := by decide +kernel
theorem dk_199 : ((kX12_canBe).2.2.2.1).all (fun l => l.all (dk prog_14_method_63_code)) = true := by decide +kernel
theorem dk_200 : ((kX12_mayBe).2.2.2.1).all (fun l => l.all (dk prog_14_method_64_code)) = true := by decide +kernel
theorem dk_201 : ((kX12_isFor).2.2.2.1).all (fun l => l.all (dk prog_14_method_65_code)) = true := by decide +kernel
theorem dk_202 : ((kX12_isOrderly).2.2.2.1).all (fun l => l.all (dk prog_14_method_66_code)) = true := by decide +kernel
theorem dk_203 : ((kX12_orderFor).2.2.2.1).all (fun l => l.all (dk prog_14_method_67_code)) = true := by decide +kernel
theorem dk_204 : ((kX12_orderOf).2.2.2.1).all (fun l => l.all (dk prog_14_method_68_code)) = true := by decide +kernel
theorem dk_205 : ((kX12_isIn).2.2.2.1).all (fun l => l.all (dk prog_14_method_69_code)) = true := by decide +kernel
theorem dk_206 : ((kX12_findOrders).2.2.2.1).all (fun l => l.all (dk prog_14_method_70_code)) = true := by decide +kernel
theorem dk_207 : ((kX12_isCut).2.2.2.1).all (fun l => l.all (dk prog_14_method_71_code)) = true := by decide +kernel
theorem dk_208 : ((kX12_findStrengths).2.2.2.1).all (fun l => l.all (dk prog_14_method_72_code)) = true := by decide +kernel
theorem dk_209 : ((kX12_moves).2.2.2.1).all (fun l => l.all (dk prog_14_method_73_code)) = true := by decide +kernel
theorem dk_210 : ((kX12_findFailed).2.2.2.1).all (fun l => l.all (dk prog_14_method_74_code)) = true := by decide +kernel
theorem dk_211 : ((kX12_goThrough).2.2.2.1).all (fun l => l.all (dk prog_14_method_75_code)) = true := by decide +kernel
theorem dk_212 : ((kX12_doTurn).2.2.2.1).all (fun l => l.all (dk prog_14_method_76_code)) = true := by decide +kernel
theorem dk_213 : ((kX12_done).2.2.2.1).all (fun l => l.all (dk prog_14_method_77_code)) = true := by decide +kernel
theorem dk_214 : ((kX12_again).2.2.2.1).all (fun l => l.all (dk prog_14_method_78_code)) = true := by decide +kernel
theorem dk_215 : ((kX12_lastCell).2.2.2.1).all (fun l => l.all (dk prog_14_method_79_code)) = true := by decide +kernel
theorem dk_216 : ((kX12_was).2.2.2.1).all (fun l => l.all (dk prog_14_method_80_code)) = true := by decide +kernel
theorem dk_217 : ((kX12_seesIn).2.2.2.1).all (fun l => l.all (dk prog_14_method_81_code)) = true := by decide +kernel
theorem dk_218 : ((kX12_sees).2.2.2.1).all (fun l => l.all (dk prog_14_method_82_code)) = true := by decide +kernel
theorem dk_219 : ((kX12_alike).2.2.2.1).all (fun l => l.all (dk prog_14_method_83_code)) = true := by decide +kernel
theorem dk_220 : ((kX12_way).2.2.2.1).all (fun l => l.all (dk prog_14_method_84_code)) = true := by decide +kernel
theorem dk_221 : ((kX12_coinsBy).2.2.2.1).all (fun l => l.all (dk prog_14_method_85_code)) = true := by decide +kernel
theorem dk_222 : ((kX12_isRow).2.2.2.1).all (fun l => l.all (dk prog_14_method_86_code)) = true := by decide +kernel
theorem dk_223 : ((kX12_noRow).2.2.2.1).all (fun l => l.all (dk prog_14_method_87_code)) = true := by decide +kernel
theorem dk_224 : ((kX12_best).2.2.2.1).all (fun l => l.all (dk prog_14_method_88_code)) = true := by decide +kernel
theorem dk_225 : ((kX12_bestWay).2.2.2.1).all (fun l => l.all (dk prog_14_method_89_code)) = true := by decide +kernel
theorem dk_226 : ((kX12_judge).2.2.2.1).all (fun l => l.all (dk prog_14_method_90_code)) = true := by decide +kernel
theorem dk_227 : ((kX12_pay).2.2.2.1).all (fun l => l.all (dk prog_14_method_91_code)) = true := by decide +kernel
theorem dk_228 : ((kX12_bar).2.2.2.1).all (fun l => l.all (dk prog_14_method_92_code)) = true := by decide +kernel
theorem dk_229 : ((kX12_above).2.2.2.1).all (fun l => l.all (dk prog_14_method_93_code)) = true := by decide +kernel
theorem dk_230 : ((kX12_ranBody).2.2.2.1).all (fun l => l.all (dk prog_14_method_94_code)) = true := by decide +kernel
theorem dk_231 : ((kX12_means).2.2.2.1).all (fun l => l.all (dk prog_14_method_95_code)) = true := by decide +kernel
theorem dk_232 : ((kX12_clashes).2.2.2.1).all (fun l => l.all (dk prog_14_method_96_code)) = true := by decide +kernel
theorem dk_233 : ((kX12_hides).2.2.2.1).all (fun l => l.all (dk prog_14_method_97_code)) = true := by decide +kernel
theorem dk_234 : ((kX12_endsOf).2.2.2.1).all (fun l => l.all (dk prog_14_method_98_code)) = true := by decide +kernel
theorem dk_235 : ((kX12_act).2.2.2.1).all (fun l => l.all (dk prog_14_method_99_code)) = true := by decide +kernel
theorem dk_236 : ((kX12_trace).2.2.2.1).all (fun l => l.all (dk prog_14_method_100_code)) = true := by decide +kernel
theorem dk_237 : ((kX12_isShelf).2.2.2.1).all (fun l => l.all (dk prog_14_method_101_code)) = true := by decide +kernel
theorem dk_238 : ((kX12_keep).2.2.2.1).all (fun l => l.all (dk prog_14_method_102_code)) = true := by decide +kernel
theorem dk_239 : ((kX12_row).2.2.2.1).all (fun l => l.all (dk prog_14_method_103_code)) = true := by decide +kernel
theorem dk_240 : ((kX12_refusal).2.2.2.1).all (fun l => l.all (dk prog_14_method_104_code)) = true := by decide +kernel
theorem dk_241 : ((kX12_asSort).2.2.2.1).all (fun l => l.all (dk prog_14_method_105_code)) = true := by decide +kernel
theorem dk_242 : ((kX12_put).2.2.2.1).all (fun l => l.all (dk prog_14_method_106_code)) = true := by decide +kernel
theorem dk_243 : ((kX12_element).2.2.2.1).all (fun l => l.all (dk prog_14_method_107_code)) = true := by decide +kernel
theorem dk_244 : ((kX12_shift).2.2.2.1).all (fun l => l.all (dk prog_14_method_108_code)) = true := by decide +kernel
theorem dk_245 : ((kX12_taken).2.2.2.1).all (fun l => l.all (dk prog_14_method_109_code)) = true := by decide +kernel
theorem dk_246 : ((kX12_check).2.2.2.1).all (fun l => l.all (dk prog_14_method_110_code)) = true := by decide +kernel
theorem dk_247 : ((kX12_count).2.2.2.1).all (fun l => l.all (dk prog_14_method_111_code)) = true := by decide +kernel
theorem dk_248 : ((kJ6_compare).2.2.2.1).all (fun l => l.all (dk prog_16_method_40_code)) = true := by decide +kernel
theorem dk_249 : ((kJ13_bitCount).2.2.2.1).all (fun l => l.all (dk prog_17_method_50_code)) = true := by decide +kernel
theorem dk_250 : ((kJ9_abs).2.2.2.1).all (fun l => l.all (dk prog_18_method_59_code)) = true := by decide +kernel
theorem dk_251 : ((kJ9_max).2.2.2.1).all (fun l => l.all (dk prog_18_method_65_code)) = true := by decide +kernel
theorem dk_252 : ((kJ9_min).2.2.2.1).all (fun l => l.all (dk prog_18_method_69_code)) = true := by decide +kernel
theorem dk_253 : ((kJ0_indexOf).2.2.2.1).all (fun l => l.all (dk prog_19_method_79_code)) = true := by decide +kernel
theorem dk_254 : ((kJ0_indexOf_2).2.2.2.1).all (fun l => l.all (dk prog_19_method_80_code)) = true := by decide +kernel
theorem dk_255 : ((kJ0_isLatin1).2.2.2.1).all (fun l => l.all (dk prog_19_method_154_code)) = true := by decide +kernel
theorem dk_256 : ((kJ0_length).2.2.2.1).all (fun l => l.all (dk prog_19_method_54_code)) = true := by decide +kernel
theorem dk_257 : ((kJ0_coder).2.2.2.1).all (fun l => l.all (dk prog_19_method_152_code)) = true := by decide +kernel
theorem dk_258 : ((kJ1_canEncode).2.2.2.1).all (fun l => l.all (dk prog_20_method_4_code)) = true := by decide +kernel
theorem dk_259 : ((kJ1_indexOf).2.2.2.1).all (fun l => l.all (dk prog_20_method_22_code)) = true := by decide +kernel
theorem dk_260 : ((kJ1_indexOfChar).2.2.2.1).all (fun l => l.all (dk prog_20_method_23_code)) = true := by decide +kernel
