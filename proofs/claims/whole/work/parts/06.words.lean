-- the tables of the claim, by places
def lw_at (j k : Nat) : Option Cond := match j with
  | 0 => t_nth (k2_sels lw_privs) k
  | 1 => t_nth tables_1_1 k
  | 2 => t_nth tables_1_2 k
  | 3 => t_nth tables_1_3 k
  | 4 => t_nth tables_1_4 k
  | 5 => t_nth tables_1_5 k
  | 6 => t_nth tables_1_6 k
  | 7 => t_nth tables_1_7 k
  | 8 => t_nth tables_1_8 k
  | _ => none
theorem t_nth_mem {α : Type} : ∀ (l : List α) (k : Nat) (a : α), t_nth l k = some a → a ∈ l
  | [], _, _, h => by cases h
  | x :: l, 0, a, h => by cases h; exact List.mem_cons_self
  | x :: l, k + 1, a, h => List.mem_cons_of_mem _ (t_nth_mem l k a h)
theorem lw_at_mem {j k : Nat} {w : Cond} (h : lw_at j k = some w) : w ∈ lw_tbl := by
  unfold lw_tbl tables_1
  simp only [List.mem_append]
  unfold lw_at at h
  split at h
  · have := t_nth_mem _ _ _ h; simp only [this, true_or, or_true]
  · have := t_nth_mem _ _ _ h; simp only [this, true_or, or_true]
  · have := t_nth_mem _ _ _ h; simp only [this, true_or, or_true]
  · have := t_nth_mem _ _ _ h; simp only [this, true_or, or_true]
  · have := t_nth_mem _ _ _ h; simp only [this, true_or, or_true]
  · have := t_nth_mem _ _ _ h; simp only [this, true_or, or_true]
  · have := t_nth_mem _ _ _ h; simp only [this, true_or, or_true]
  · have := t_nth_mem _ _ _ h; simp only [this, true_or, or_true]
  · have := t_nth_mem _ _ _ h; simp only [this, true_or, or_true]
  · cases h
def lwq (q : Nat × Nat) : Option Cond := lw_at q.1 q.2
def cn (c : Nat) : String := match c with
  | 0 => RX0
  | 1 => RX1
  | 2 => RX2
  | 3 => RX3
  | 4 => RX4
  | 5 => RX5
  | 6 => RX6
  | 7 => RX7
  | 8 => RX8
  | 9 => RX9
  | 10 => RX10
  | 11 => RX11
  | 12 => RX12
  | 13 => RJ6
  | 14 => RJ13
  | 15 => RJ9
  | 16 => RJ0
  | 17 => RJ1
  | _ => ""
def vT (c : Nat) : u_T := match c with
  | 0 => TX0
  | 1 => TX1
  | 2 => TX2
  | 3 => TX3
  | 4 => TX4
  | 5 => TX5
  | 6 => TX6
  | 7 => TX7
  | 8 => TX8
  | 9 => TX9
  | 10 => TX10
  | 11 => TX11
  | _ => TX12
def vN (c : Nat) : Nat := match c with
  | 0 => 6
  | 1 => 6
  | 2 => 7
  | 3 => 7
  | 4 => 14
  | 5 => 7
  | 6 => 11
  | 7 => 7
  | 8 => 4
  | 9 => 3
  | 10 => 10
  | 11 => 19
  | _ => 86
def fw (own : Nat) (e : Nat × (Nat × Nat × Bool)) : Cond := .fieldLink (cn own) e.1 (vT e.2.1 e.2.2.1).1 (vT e.2.1 e.2.2.1).2.1 (vT e.2.1 e.2.2.1).2.2.1
set_option maxRecDepth 100000 in
theorem fw_0 : (tb_f0).map (fun e => some (fw 0 e)) = [(1, 224), (1, 226), (1, 228), (1, 229), (1, 230), (1, 231), (2, 116), (2, 119), (2, 113)].map lwq := rfl
set_option maxRecDepth 100000 in
theorem fw_1 : (tb_f1).map (fun e => some (fw 1 e)) = [(2, 80), (2, 82), (2, 84), (2, 86), (2, 88), (2, 90)].map lwq := rfl
set_option maxRecDepth 100000 in
theorem fw_2 : (tb_f2).map (fun e => some (fw 2 e)) = [(2, 12), (2, 14), (2, 16), (2, 18), (2, 20), (2, 22), (2, 24)].map lwq := rfl
set_option maxRecDepth 100000 in
theorem fw_3 : (tb_f3).map (fun e => some (fw 3 e)) = [(2, 46), (2, 48), (2, 50), (2, 52), (2, 54), (2, 56), (2, 58)].map lwq := rfl
set_option maxRecDepth 100000 in
theorem fw_4 : (tb_f4).map (fun e => some (fw 4 e)) = [(1, 102), (1, 104), (1, 105), (1, 106), (1, 108), (1, 110), (1, 111), (1, 112), (1, 113), (1, 114), (1, 115), (1, 116), (1, 117), (1, 118), (1, 49), (1, 67), (1, 58), (1, 55), (1, 52), (1, 62), (1, 65), (1, 71), (1, 73)].map lwq := rfl
set_option maxRecDepth 100000 in
theorem fw_5 : (tb_f5).map (fun e => some (fw 5 e)) = [(2, 110), (2, 112), (2, 115), (2, 118), (2, 121), (2, 123), (2, 125)].map lwq := rfl
set_option maxRecDepth 100000 in
theorem fw_6 : (tb_f6).map (fun e => some (fw 6 e)) = [(1, 48), (1, 51), (1, 54), (1, 57), (1, 60), (1, 63), (1, 66), (1, 69), (1, 72), (1, 75), (1, 76)].map lwq := rfl
set_option maxRecDepth 100000 in
theorem fw_7 : (tb_f7).map (fun e => some (fw 7 e)) = [(2, 147), (2, 149), (2, 151), (2, 153), (2, 155), (2, 157), (2, 159)].map lwq := rfl
set_option maxRecDepth 100000 in
theorem fw_8 : (tb_f8).map (fun e => some (fw 8 e)) = [(2, 180), (2, 182), (2, 184), (2, 186)].map lwq := rfl
set_option maxRecDepth 100000 in
theorem fw_9 : (tb_f9).map (fun e => some (fw 9 e)) = [(1, 160), (1, 162), (1, 163), (2, 156), (2, 158)].map lwq := rfl
set_option maxRecDepth 100000 in
theorem fw_10 : (tb_f10).map (fun e => some (fw 10 e)) = [(1, 177), (1, 179), (1, 181), (1, 183), (1, 185), (1, 187), (1, 189), (1, 191), (1, 193), (1, 195)].map lwq := rfl
set_option maxRecDepth 100000 in
theorem fw_11 : (tb_f11).map (fun e => some (fw 11 e)) = [(2, 198), (2, 199), (2, 200), (2, 201), (2, 202), (2, 203), (1, 103), (2, 204), (2, 205), (2, 206), (2, 207), (2, 208), (2, 209), (2, 210), (2, 211), (2, 212), (2, 213), (2, 214), (2, 215), (2, 216), (2, 13), (2, 15), (2, 17), (2, 23), (2, 25), (2, 47), (2, 49), (2, 57), (2, 19), (2, 51), (2, 53), (1, 50), (1, 53), (1, 56), (1, 59), (1, 70), (1, 68), (1, 61), (1, 64), (2, 55), (2, 21), (1, 161), (2, 148), (2, 150), (2, 152), (2, 154), (2, 81), (2, 83), (2, 85), (2, 87), (2, 89), (2, 91), (2, 111), (2, 114), (2, 124), (2, 126), (2, 117), (2, 120), (2, 122), (2, 181), (2, 185), (2, 187), (1, 74), (1, 107), (2, 59), (1, 109), (1, 178), (1, 182), (1, 180), (1, 196), (1, 184), (1, 186), (1, 188), (1, 190), (1, 192), (1, 194), (1, 227), (1, 225), (2, 183)].map lwq := rfl
set_option maxRecDepth 100000 in
theorem fw_12 : (tb_f12).map (fun e => some (fw 12 e)) = [(5, 204), (5, 205), (5, 206), (5, 207), (5, 208), (5, 209), (5, 210), (5, 212), (5, 213), (5, 214), (5, 215), (5, 216), (5, 217), (5, 219), (5, 220), (5, 221), (5, 222), (5, 223), (5, 224), (5, 225), (5, 227), (5, 228), (5, 229), (5, 230), (5, 232), (5, 233), (5, 234), (5, 235), (5, 236), (5, 238), (5, 239), (6, 0), (6, 1), (6, 2), (6, 3), (6, 5), (6, 6), (6, 7), (6, 8), (6, 9), (6, 10), (6, 11), (6, 18), (6, 19), (6, 20), (6, 21), (6, 22), (6, 23), (6, 24), (6, 25), (6, 26), (6, 28), (6, 29), (6, 30), (6, 31), (6, 32), (6, 33), (6, 34), (6, 36), (6, 38), (6, 39), (6, 40), (6, 42), (6, 45), (6, 46), (6, 47), (6, 48), (5, 211), (5, 218), (5, 226), (5, 203), (5, 231), (6, 14), (6, 15), (6, 13), (6, 16), (6, 17), (5, 237), (6, 4), (6, 12), (6, 27), (6, 35), (6, 41), (6, 37), (6, 43), (6, 44)].map lwq := rfl
theorem fw_J : [some (Cond.fieldLink RJ0 9 RJ0 "value" "[B"), some (Cond.fieldLink RJ0 15 RJ0 "coder" "B"), some (Cond.fieldLink RJ0 38 RJ0 "COMPACT_STRINGS" "Z")] = [(8, 192), (8, 191), (3, 168)].map lwq := rfl
def mIs : List (MethodName × ByteArray × Nat × Option FieldType × Bool) := [(yX0_begin, prog_2_method_2_code, 1, none, false), (yX0_of, prog_2_method_3_code, 3, none, false), (yX0_began, prog_2_method_4_code, 2, none, false), (yX0_run, prog_2_method_5_code, 4, some .int, false), (yX0_means, prog_2_method_6_code, 3, some .int, false), (yX0_clashes, prog_2_method_7_code, 3, some .int, false), (yX0_hides, prog_2_method_8_code, 4, some .int, false), (yX0_ends, prog_2_method_9_code, 4, some .int, false), (yX1_late, prog_3_method_2_code, 1, some .boolean, false), (yX2_due, prog_4_method_2_code, 2, some .int, false), (yX2_firstDue, prog_4_method_3_code, 3, some .int, false), (yX3_owed, prog_5_method_2_code, 4, some .int, false), (yX4_begin, prog_6_method_2_code, 4, none, false), (yX4_give, prog_6_method_3_code, 5, none, false), (yX4_workOut, prog_6_method_4_code, 3, none, false), (yX4_goal, prog_6_method_5_code, 2, some .int, false), (yX4_measure, prog_6_method_6_code, 4, none, false), (yX4_findFirst, prog_6_method_7_code, 5, none, false), (yX4_compare, prog_6_method_8_code, 3, some .int, false), (yX4_failSwaps, prog_6_method_9_code, 4, none, false), (yX4_failBlocked, prog_6_method_10_code, 6, some .boolean, false), (yX4_goes, prog_6_method_11_code, 2, some .boolean, false), (yX4_cellAfter, prog_6_method_12_code, 3, some .int, false), (yX4_numberAfter, prog_6_method_13_code, 4, some .int, false), (yX4_carryOut, prog_6_method_14_code, 4, none, false), (yX6_goBack, prog_8_method_2_code, 2, none, false), (yX6_isElsewhere, prog_8_method_3_code, 1, some .boolean, false), (yX7_add, prog_9_method_2_code, 2, none, false), (yX7_worth, prog_9_method_3_code, 6, some .int, false), (yX7_joined, prog_9_method_4_code, 3, some .int, true), (yX8_isRow, prog_10_method_2_code, 1, some .boolean, false), (yX8_becomeRow, prog_10_method_3_code, 4, none, false), (yX8_refusal, prog_10_method_4_code, 2, some .int, false), (yX8_hasRun, prog_10_method_5_code, 3, some .boolean, false), (yX8_cut, prog_10_method_6_code, 3, some .long, false), (yX9_add, prog_11_method_2_code, 2, none, false), (yX9_next, prog_11_method_3_code, 1, some .int, false), (yX9_compile, prog_11_method_4_code, 3, some .int, false), (yX9_line, prog_11_method_5_code, 3, some .boolean, false), (yX9_either, prog_11_method_6_code, 4, some .boolean, false), (yX9_both, prog_11_method_7_code, 4, some .boolean, false), (yX9_compared, prog_11_method_8_code, 4, some .boolean, false), (yX9_sum, prog_11_method_9_code, 5, some .boolean, false), (yX9_product, prog_11_method_10_code, 5, some .boolean, false), (yX9_operand, prog_11_method_11_code, 4, some .boolean, false), (yX9_number, prog_11_method_12_code, 4, none, false), (yX9_name, prog_11_method_13_code, 4, some .boolean, false), (yX10_tell, prog_12_method_2_code, 5, some .int, false), (yX10_placeOf, prog_12_method_3_code, 3, some .int, false), (yX10_rows, prog_12_method_4_code, 3, some .int, false), (yX10_pick, prog_12_method_5_code, 4, none, false), (yX10_pickDigits, prog_12_method_6_code, 4, some .boolean, false), (yX10_choose, prog_12_method_7_code, 3, none, false), (yX11_days, prog_1_method_2_code, 2, some .int, false), (yX11_game, prog_1_method_3_code, 3, some .int, false), (yX11_cell, prog_1_method_4_code, 8, some .int, false), (yX11_holder, prog_1_method_5_code, 4, some .int, false), (yX11_runs, prog_1_method_6_code, 4, some .int, false), (yX11_drops, prog_1_method_7_code, 4, some .int, false), (yX11_piece, prog_1_method_8_code, 6, some .int, false), (yX11_ofPiece, prog_1_method_9_code, 4, some .int, false), (yX11_ofHolder, prog_1_method_10_code, 5, some .int, false), (yX11_ofGame, prog_1_method_11_code, 4, some .int, false), (yX11_isGame, prog_1_method_12_code, 2, some .boolean, false), (yX11_isHolder, prog_1_method_13_code, 2, some .boolean, false), (yX11_isPiece, prog_1_method_14_code, 2, some .boolean, false), (yX11_isCard, prog_1_method_15_code, 2, some .boolean, false), (yX11_isOrder, prog_1_method_16_code, 2, some .boolean, false), (yX11_isCell, prog_1_method_17_code, 1, some .boolean, true), (yX11_isTurn, prog_1_method_18_code, 1, some .boolean, true), (yX11_isShelf, prog_1_method_19_code, 1, some .boolean, true), (yX11_distance, prog_1_method_20_code, 2, some .int, true), (yX11_pieceIn, prog_1_method_21_code, 5, some .int, false), (yX11_piecesOf, prog_1_method_22_code, 4, some .int, false), (yX11_feed, prog_1_method_23_code, 4, some .int, false), (yX11_rule, prog_1_method_24_code, 5, some .int, false), (yX11_inForce, prog_1_method_25_code, 5, some .int, false), (yX11_says, prog_1_method_26_code, 4, some .int, false), (yX11_drawn, prog_1_method_27_code, 3, some .int, false), (yX11_isRuled, prog_1_method_28_code, 2, some .boolean, false), (yX11_ruleIn, prog_1_method_29_code, 7, some .int, false), (yX11_drawnFor, prog_1_method_30_code, 4, some .int, false), (yX11_clearNames, prog_1_method_31_code, 2, none, false), (yX11_namePiece, prog_1_method_32_code, 7, none, false), (yX11_mayBe, prog_1_method_33_code, 6, some .boolean, false), (yX11_tieOf, prog_1_method_34_code, 6, some .int, false), (yX11_sightOf, prog_1_method_35_code, 5, some .int, false), (yX11_feeOf, prog_1_method_36_code, 6, some .int, false), (yX11_within, prog_1_method_37_code, 2, some .int, true), (yX11_card, prog_1_method_38_code, 6, some .int, false), (yX11_ofCard, prog_1_method_39_code, 4, some .int, false), (yX11_order, prog_1_method_40_code, 5, some .int, false), (yX11_turn, prog_1_method_41_code, 7, some .int, false), (yX11_ofOrder, prog_1_method_42_code, 4, some .int, false), (yX11_read, prog_1_method_43_code, 9, some .int, false), (yX11_orderOf, prog_1_method_44_code, 4, some .int, false), (yX11_isSound, prog_1_method_45_code, 4, some .boolean, false), (yX11_isKindTold, prog_1_method_46_code, 3, some .boolean, true), (yX11_addOrder, prog_1_method_47_code, 7, none, false), (yX11_readFour, prog_1_method_48_code, 8, none, false), (yX11_cardCounts, prog_1_method_49_code, 3, some .boolean, false), (yX11_canBe, prog_1_method_50_code, 5, some .boolean, false), (yX11_isOfTurn, prog_1_method_51_code, 6, some .boolean, false), (yX11_fits, prog_1_method_52_code, 4, some .boolean, false), (yX11_holdsGood, prog_1_method_53_code, 5, some .boolean, false), (yX11_done, prog_1_method_54_code, 3, some .int, false), (yX11_again, prog_1_method_55_code, 6, some .int, false), (yX11_was, prog_1_method_56_code, 4, some .int, false), (yX11_doTurn, prog_1_method_57_code, 4, none, false), (yX11_giveOrders, prog_1_method_58_code, 6, none, false), (yX11_playsIn, prog_1_method_59_code, 4, some .boolean, false), (yX11_settle, prog_1_method_60_code, 5, none, false), (yX11_coinsAfter, prog_1_method_61_code, 7, some .int, false), (yX11_sees, prog_1_method_62_code, 4, some .int, false), (yX11_alike, prog_1_method_63_code, 3, some .int, false), (yX11_sheetOf, prog_1_method_64_code, 8, some .long, false), (yX11_way, prog_1_method_65_code, 4, some .int, false), (yX11_best, prog_1_method_66_code, 11, some .int, false), (yX11_bestWay, prog_1_method_67_code, 2, some .int, false), (yX11_judge, prog_1_method_68_code, 4, some .int, false), (yX11_canJudge, prog_1_method_69_code, 1, some .boolean, false), (yX11_readyWays, prog_1_method_70_code, 10, none, false), (yX11_playRow, prog_1_method_71_code, 5, some .int, false), (yX11_pay, prog_1_method_72_code, 3, some .int, false), (yX11_bar, prog_1_method_73_code, 5, some .int, false), (yX11_act, prog_1_method_74_code, 4, some .int, false), (yX11_trace, prog_1_method_75_code, 2, some .int, false), (yX11_keep, prog_1_method_76_code, 4, some .int, false), (yX11_row, prog_1_method_77_code, 4, some .int, false), (yX11_put, prog_1_method_78_code, 7, some .int, false), (yX11_element, prog_1_method_79_code, 4, some .long, false), (yX11_shift, prog_1_method_80_code, 8, some .int, false), (yX11_taken, prog_1_method_81_code, 5, some .int, false), (yX11_check, prog_1_method_82_code, 7, some .int, false), (yX11_count, prog_1_method_83_code, 2, some .int, false), (yX11_piecesThere, prog_1_method_84_code, 3, some .int, false), (yX11_isUnder, prog_1_method_85_code, 2, some .boolean, true), (yX11_isBalanced, prog_1_method_86_code, 8, some .boolean, false), (yX12_within, prog_14_method_2_code, 6, some .boolean, true), (yX12_isGame, prog_14_method_3_code, 2, some .boolean, false), (yX12_isHolder, prog_14_method_4_code, 2, some .boolean, false), (yX12_isPiece, prog_14_method_5_code, 2, some .boolean, false), (yX12_isCell, prog_14_method_6_code, 1, some .boolean, true), (yX12_size, prog_14_method_7_code, 1, some .int, true), (yX12_wayOf, prog_14_method_8_code, 2, some .int, true), (yX12_gameOf, prog_14_method_9_code, 2, some .int, false), (yX12_days, prog_14_method_10_code, 2, some .int, false), (yX12_game, prog_14_method_11_code, 2, some .int, false), (yX12_pieceAt, prog_14_method_12_code, 4, some .int, false), (yX12_cell, prog_14_method_13_code, 8, some .int, false), (yX12_holder, prog_14_method_14_code, 3, some .int, false), (yX12_runs, prog_14_method_15_code, 4, some .int, false), (yX12_drops, prog_14_method_16_code, 3, some .int, false), (yX12_piece, prog_14_method_17_code, 4, some .int, false), (yX12_ofPiece, prog_14_method_18_code, 3, some .int, false), (yX12_standing, prog_14_method_19_code, 4, some .int, false), (yX12_owed, prog_14_method_20_code, 4, some .int, false), (yX12_ofHolder, prog_14_method_21_code, 3, some .int, false), (yX12_dueOn, prog_14_method_22_code, 3, some .int, false), (yX12_ofGame, prog_14_method_23_code, 3, some .int, false), (yX12_feed, prog_14_method_24_code, 4, some .int, false), (yX12_byteAt, prog_14_method_25_code, 1, some .int, false), (yX12_wrong, prog_14_method_26_code, 1, some .int, false), (yX12_takes, prog_14_method_27_code, 2, some .boolean, false), (yX12_either, prog_14_method_28_code, 3, some .int, false), (yX12_both, prog_14_method_29_code, 3, some .int, false), (yX12_compared, prog_14_method_30_code, 4, some .int, false), (yX12_sums, prog_14_method_31_code, 4, some .int, false), (yX12_product, prog_14_method_32_code, 4, some .int, false), (yX12_nameOf, prog_14_method_33_code, 1, some .int, true), (yX12_one, prog_14_method_34_code, 5, some .int, false), (yX12_workOut, prog_14_method_35_code, 8, some .int, false), (yX12_isWhat, prog_14_method_36_code, 2, some .boolean, false), (yX12_isTurn, prog_14_method_37_code, 1, some .boolean, true), (yX12_rule, prog_14_method_38_code, 6, some .int, false), (yX12_ruleFor, prog_14_method_39_code, 6, some .int, false), (yX12_inForce, prog_14_method_40_code, 5, some .int, false), (yX12_gives, prog_14_method_41_code, 7, some .int, false), (yX12_held, prog_14_method_42_code, 2, some .int, true), (yX12_noNames, prog_14_method_43_code, 3, none, false), (yX12_nameOrder, prog_14_method_44_code, 6, none, false), (yX12_sightOf, prog_14_method_45_code, 3, some .int, false), (yX12_feeOf, prog_14_method_46_code, 4, some .int, false), (yX12_says, prog_14_method_47_code, 3, some .int, false), (yX12_drawnFor, prog_14_method_48_code, 4, some .int, false), (yX12_drawn, prog_14_method_49_code, 3, some .int, false), (yX12_card, prog_14_method_50_code, 6, some .int, false), (yX12_isCard, prog_14_method_51_code, 2, some .boolean, false), (yX12_isLate, prog_14_method_52_code, 2, some .boolean, false), (yX12_counts, prog_14_method_53_code, 2, some .boolean, false), (yX12_ofCard, prog_14_method_54_code, 3, some .int, false), (yX12_add, prog_14_method_55_code, 6, some .int, false), (yX12_isSaid, prog_14_method_56_code, 5, some .boolean, false), (yX12_order, prog_14_method_57_code, 5, some .int, false), (yX12_isOrder, prog_14_method_58_code, 2, some .boolean, false), (yX12_turn, prog_14_method_59_code, 7, some .int, false), (yX12_ofOrder, prog_14_method_60_code, 3, some .int, false), (yX12_read, prog_14_method_61_code, 13, some .int, false), (yX12_isBeside, prog_14_method_62_code, 3, some .boolean, false), (yX12_canBe, prog_14_method_63_code, 4, some .boolean, false), (yX12_mayBe, prog_14_method_64_code, 6, some .boolean, false), (yX12_isFor, prog_14_method_65_code, 6, some .boolean, false), (yX12_isOrderly, prog_14_method_66_code, 5, some .boolean, false), (yX12_orderFor, prog_14_method_67_code, 8, some .int, false), (yX12_orderOf, prog_14_method_68_code, 2, some .int, false), (yX12_isIn, prog_14_method_69_code, 3, some .boolean, false), (yX12_findOrders, prog_14_method_70_code, 7, none, false), (yX12_isCut, prog_14_method_71_code, 5, some .boolean, false), (yX12_findStrengths, prog_14_method_72_code, 7, none, false), (yX12_moves, prog_14_method_73_code, 3, some .boolean, false), (yX12_findFailed, prog_14_method_74_code, 7, none, false), (yX12_goThrough, prog_14_method_75_code, 7, none, false), (yX12_doTurn, prog_14_method_76_code, 4, none, false), (yX12_done, prog_14_method_77_code, 2, some .int, false), (yX12_again, prog_14_method_78_code, 6, some .int, false), (yX12_lastCell, prog_14_method_79_code, 4, some .int, false), (yX12_was, prog_14_method_80_code, 4, some .int, false), (yX12_seesIn, prog_14_method_81_code, 5, some .boolean, false), (yX12_sees, prog_14_method_82_code, 4, some .int, false), (yX12_alike, prog_14_method_83_code, 5, some .int, false), (yX12_way, prog_14_method_84_code, 5, some .int, false), (yX12_coinsBy, prog_14_method_85_code, 7, some .int, false), (yX12_isRow, prog_14_method_86_code, 5, some .boolean, false), (yX12_noRow, prog_14_method_87_code, 1, some .boolean, false), (yX12_best, prog_14_method_88_code, 7, some .int, false), (yX12_bestWay, prog_14_method_89_code, 2, some .int, false), (yX12_judge, prog_14_method_90_code, 7, some .int, false), (yX12_pay, prog_14_method_91_code, 3, some .int, false), (yX12_bar, prog_14_method_92_code, 5, some .int, false), (yX12_above, prog_14_method_93_code, 1, some .int, true), (yX12_ranBody, prog_14_method_94_code, 2, none, false), (yX12_means, prog_14_method_95_code, 3, some .int, false), (yX12_clashes, prog_14_method_96_code, 3, some .int, false), (yX12_hides, prog_14_method_97_code, 4, some .int, false), (yX12_endsOf, prog_14_method_98_code, 4, some .int, false), (yX12_act, prog_14_method_99_code, 4, some .int, false), (yX12_trace, prog_14_method_100_code, 2, some .int, false), (yX12_isShelf, prog_14_method_101_code, 1, some .boolean, true), (yX12_keep, prog_14_method_102_code, 3, some .int, false), (yX12_row, prog_14_method_103_code, 5, some .int, false), (yX12_refusal, prog_14_method_104_code, 3, some .int, false), (yX12_asSort, prog_14_method_105_code, 3, some .long, true), (yX12_put, prog_14_method_106_code, 6, some .int, false), (yX12_element, prog_14_method_107_code, 3, some .long, false), (yX12_shift, prog_14_method_108_code, 7, some .int, false), (yX12_taken, prog_14_method_109_code, 4, some .int, false), (yX12_check, prog_14_method_110_code, 7, some .int, false), (yX12_count, prog_14_method_111_code, 4, some .int, false), (yJ6_compare_7cf53, prog_16_method_40_code, 2, some .int, true), (yJ13_bitCount_95d88, prog_17_method_50_code, 2, some .int, true), (yJ9_abs_0f7a4, prog_18_method_59_code, 1, some .int, true), (yJ9_max_7cf53, prog_18_method_65_code, 2, some .int, true), (yJ9_min_7cf53, prog_18_method_69_code, 2, some .int, true), (yJ0_indexOf_0f7a4, prog_19_method_79_code, 2, some .int, false), (yJ0_indexOf_7cf53, prog_19_method_80_code, 3, some .int, false), (yJ0_isLatin1_aae02, prog_19_method_154_code, 1, some .boolean, false), (yJ0_length_8abf5, prog_19_method_54_code, 1, some .int, false), (yJ0_coder_7d493, prog_19_method_152_code, 1, some .byte, false), (yJ1_canEncode_9a6ad, prog_20_method_4_code, 1, some .boolean, true), (yJ1_indexOf_4cfef, prog_20_method_22_code, 4, some .int, true), (yJ1_indexOfChar_4cfef, prog_20_method_23_code, 6, some .int, true)]
def mI (k : Nat) : Option (MethodName × ByteArray × Nat × Option FieldType × Bool) := t_nth mIs k
def mw (k : Nat) : List (Option Cond) := match mI k with
  | some (y, b, n, r, true) => [some (.code y b n r), some (.static y), some (.initialized y.cls)]
  | some (y, b, n, r, false) => [some (.code y b n r), some (.instanceMethod y), some (.selects y.cls y y), some (.initialized y.cls)]
  | none => []
theorem mw_0 : mw 0 = [(5, 96), (5, 94), (5, 95), (1, 6)].map lwq := rfl
theorem mw_1 : mw 1 = [(5, 100), (5, 98), (5, 99), (1, 6)].map lwq := rfl
theorem mw_2 : mw 2 = [(5, 112), (5, 111), (0, 53), (1, 6)].map lwq := rfl
theorem mw_3 : mw 3 = [(5, 104), (5, 102), (5, 103), (1, 6)].map lwq := rfl
theorem mw_4 : mw 4 = [(5, 108), (5, 107), (0, 52), (1, 6)].map lwq := rfl
theorem mw_5 : mw 5 = [(5, 116), (5, 115), (0, 54), (1, 6)].map lwq := rfl
theorem mw_6 : mw 6 = [(5, 120), (5, 119), (0, 55), (1, 6)].map lwq := rfl
theorem mw_7 : mw 7 = [(5, 124), (5, 123), (0, 56), (1, 6)].map lwq := rfl
theorem mw_8 : mw 8 = [(4, 76), (4, 74), (4, 75), (1, 9)].map lwq := rfl
theorem mw_9 : mw 9 = [(3, 87), (3, 85), (3, 86), (1, 7)].map lwq := rfl
theorem mw_10 : mw 10 = [(4, 63), (4, 61), (4, 62), (1, 7)].map lwq := rfl
theorem mw_11 : mw 11 = [(3, 75), (3, 73), (3, 74), (1, 8)].map lwq := rfl
theorem mw_12 : mw 12 = [(4, 164), (4, 162), (4, 163), (1, 2)].map lwq := rfl
theorem mw_13 : mw 13 = [(4, 172), (4, 170), (4, 171), (1, 2)].map lwq := rfl
theorem mw_14 : mw 14 = [(4, 176), (4, 174), (4, 175), (1, 2)].map lwq := rfl
theorem mw_15 : mw 15 = [(4, 184), (4, 183), (0, 37), (1, 2)].map lwq := rfl
theorem mw_16 : mw 16 = [(4, 180), (4, 179), (0, 36), (1, 2)].map lwq := rfl
theorem mw_17 : mw 17 = [(4, 189), (4, 188), (0, 38), (1, 2)].map lwq := rfl
theorem mw_18 : mw 18 = [(4, 193), (4, 192), (0, 39), (1, 2)].map lwq := rfl
theorem mw_19 : mw 19 = [(4, 200), (4, 199), (0, 40), (1, 2)].map lwq := rfl
theorem mw_20 : mw 20 = [(4, 208), (4, 207), (0, 42), (1, 2)].map lwq := rfl
theorem mw_21 : mw 21 = [(4, 204), (4, 203), (0, 41), (1, 2)].map lwq := rfl
theorem mw_22 : mw 22 = [(4, 212), (4, 211), (0, 43), (1, 2)].map lwq := rfl
theorem mw_23 : mw 23 = [(4, 228), (4, 226), (4, 227), (1, 2)].map lwq := rfl
theorem mw_24 : mw 24 = [(4, 216), (4, 214), (4, 215), (1, 2)].map lwq := rfl
theorem mw_25 : mw 25 = [(5, 0), (4, 238), (4, 239), (1, 3)].map lwq := rfl
theorem mw_26 : mw 26 = [(5, 4), (5, 2), (5, 3), (1, 3)].map lwq := rfl
theorem mw_27 : mw 27 = [(3, 150), (3, 148), (3, 149), (1, 11)].map lwq := rfl
theorem mw_28 : mw 28 = [(4, 27), (4, 25), (4, 26), (1, 11)].map lwq := rfl
theorem mw_29 : mw 29 = [(4, 32), (4, 31), (1, 11)].map lwq := rfl
theorem mw_30 : mw 30 = [(5, 152), (5, 150), (5, 151), (1, 12)].map lwq := rfl
theorem mw_31 : mw 31 = [(5, 140), (5, 138), (5, 139), (1, 12)].map lwq := rfl
theorem mw_32 : mw 32 = [(5, 148), (5, 146), (5, 147), (1, 12)].map lwq := rfl
theorem mw_33 : mw 33 = [(5, 170), (5, 168), (5, 169), (1, 12)].map lwq := rfl
theorem mw_34 : mw 34 = [(5, 156), (5, 154), (5, 155), (1, 12)].map lwq := rfl
theorem mw_35 : mw 35 = [(3, 95), (3, 93), (3, 94), (1, 4)].map lwq := rfl
theorem mw_36 : mw 36 = [(3, 142), (3, 141), (0, 13), (1, 4)].map lwq := rfl
theorem mw_37 : mw 37 = [(3, 110), (3, 108), (3, 109), (1, 4)].map lwq := rfl
theorem mw_38 : mw 38 = [(3, 114), (3, 113), (0, 6), (1, 4)].map lwq := rfl
theorem mw_39 : mw 39 = [(3, 118), (3, 117), (0, 7), (1, 4)].map lwq := rfl
theorem mw_40 : mw 40 = [(3, 122), (3, 121), (0, 8), (1, 4)].map lwq := rfl
theorem mw_41 : mw 41 = [(3, 126), (3, 125), (0, 9), (1, 4)].map lwq := rfl
theorem mw_42 : mw 42 = [(3, 130), (3, 129), (0, 10), (1, 4)].map lwq := rfl
theorem mw_43 : mw 43 = [(3, 134), (3, 133), (0, 11), (1, 4)].map lwq := rfl
theorem mw_44 : mw 44 = [(3, 138), (3, 137), (0, 12), (1, 4)].map lwq := rfl
theorem mw_45 : mw 45 = [(3, 146), (3, 145), (0, 14), (1, 4)].map lwq := rfl
theorem mw_46 : mw 46 = [(3, 154), (3, 153), (0, 15), (1, 4)].map lwq := rfl
theorem mw_47 : mw 47 = [(5, 34), (5, 32), (5, 33), (1, 5)].map lwq := rfl
theorem mw_48 : mw 48 = [(5, 38), (5, 37), (0, 48), (1, 5)].map lwq := rfl
theorem mw_49 : mw 49 = [(5, 54), (5, 52), (5, 53), (1, 5)].map lwq := rfl
theorem mw_50 : mw 50 = [(5, 58), (5, 56), (5, 57), (1, 5)].map lwq := rfl
theorem mw_51 : mw 51 = [(5, 79), (5, 77), (5, 78), (1, 5)].map lwq := rfl
theorem mw_52 : mw 52 = [(5, 66), (5, 64), (5, 65), (1, 5)].map lwq := rfl
theorem mw_53 : mw 53 = [(3, 19), (3, 17), (3, 18), (1, 1)].map lwq := rfl
theorem mw_54 : mw 54 = [(3, 23), (3, 21), (3, 22), (1, 1)].map lwq := rfl
theorem mw_55 : mw 55 = [(3, 27), (3, 25), (3, 26), (1, 1)].map lwq := rfl
theorem mw_56 : mw 56 = [(3, 42), (3, 40), (3, 41), (1, 1)].map lwq := rfl
theorem mw_57 : mw 57 = [(3, 46), (3, 44), (3, 45), (1, 1)].map lwq := rfl
theorem mw_58 : mw 58 = [(3, 55), (3, 53), (3, 54), (1, 1)].map lwq := rfl
theorem mw_59 : mw 59 = [(3, 59), (3, 57), (3, 58), (1, 1)].map lwq := rfl
theorem mw_60 : mw 60 = [(3, 63), (3, 61), (3, 62), (1, 1)].map lwq := rfl
theorem mw_61 : mw 61 = [(3, 71), (3, 69), (3, 70), (1, 1)].map lwq := rfl
theorem mw_62 : mw 62 = [(3, 83), (3, 81), (3, 82), (1, 1)].map lwq := rfl
theorem mw_63 : mw 63 = [(3, 31), (3, 30), (0, 0), (1, 1)].map lwq := rfl
theorem mw_64 : mw 64 = [(3, 50), (3, 49), (0, 2), (1, 1)].map lwq := rfl
theorem mw_65 : mw 65 = [(3, 67), (3, 66), (0, 3), (1, 1)].map lwq := rfl
theorem mw_66 : mw 66 = [(4, 72), (4, 71), (0, 22), (1, 1)].map lwq := rfl
theorem mw_67 : mw 67 = [(4, 107), (4, 106), (0, 26), (1, 1)].map lwq := rfl
theorem mw_68 : mw 68 = [(3, 34), (3, 33), (1, 1)].map lwq := rfl
theorem mw_69 : mw 69 = [(3, 106), (3, 105), (1, 1)].map lwq := rfl
theorem mw_70 : mw 70 = [(4, 114), (4, 113), (1, 1)].map lwq := rfl
theorem mw_71 : mw 71 = [(4, 125), (4, 124), (1, 1)].map lwq := rfl
theorem mw_72 : mw 72 = [(3, 38), (3, 37), (0, 1), (1, 1)].map lwq := rfl
theorem mw_73 : mw 73 = [(3, 79), (3, 78), (0, 4), (1, 1)].map lwq := rfl
theorem mw_74 : mw 74 = [(3, 91), (3, 89), (3, 90), (1, 1)].map lwq := rfl
theorem mw_75 : mw 75 = [(3, 99), (3, 97), (3, 98), (1, 1)].map lwq := rfl
theorem mw_76 : mw 76 = [(4, 7), (4, 5), (4, 6), (1, 1)].map lwq := rfl
theorem mw_77 : mw 77 = [(4, 15), (4, 13), (4, 14), (1, 1)].map lwq := rfl
theorem mw_78 : mw 78 = [(4, 49), (4, 47), (4, 48), (1, 1)].map lwq := rfl
theorem mw_79 : mw 79 = [(3, 103), (3, 102), (0, 5), (1, 1)].map lwq := rfl
theorem mw_80 : mw 80 = [(4, 11), (4, 10), (0, 16), (1, 1)].map lwq := rfl
theorem mw_81 : mw 81 = [(4, 53), (4, 52), (0, 21), (1, 1)].map lwq := rfl
theorem mw_82 : mw 82 = [(4, 45), (4, 44), (0, 20), (1, 1)].map lwq := rfl
theorem mw_83 : mw 83 = [(4, 23), (4, 22), (0, 18), (1, 1)].map lwq := rfl
theorem mw_84 : mw 84 = [(4, 148), (4, 147), (0, 32), (1, 1)].map lwq := rfl
theorem mw_85 : mw 85 = [(4, 168), (4, 167), (0, 35), (1, 1)].map lwq := rfl
theorem mw_86 : mw 86 = [(4, 19), (4, 18), (0, 17), (1, 1)].map lwq := rfl
theorem mw_87 : mw 87 = [(4, 41), (4, 40), (0, 19), (1, 1)].map lwq := rfl
theorem mw_88 : mw 88 = [(4, 35), (4, 34), (1, 1)].map lwq := rfl
theorem mw_89 : mw 89 = [(4, 59), (4, 57), (4, 58), (1, 1)].map lwq := rfl
theorem mw_90 : mw 90 = [(4, 68), (4, 66), (4, 67), (1, 1)].map lwq := rfl
theorem mw_91 : mw 91 = [(4, 84), (4, 82), (4, 83), (1, 1)].map lwq := rfl
theorem mw_92 : mw 92 = [(4, 96), (4, 94), (4, 95), (1, 1)].map lwq := rfl
theorem mw_93 : mw 93 = [(4, 103), (4, 101), (4, 102), (1, 1)].map lwq := rfl
theorem mw_94 : mw 94 = [(4, 111), (4, 109), (4, 110), (1, 1)].map lwq := rfl
theorem mw_95 : mw 95 = [(4, 132), (4, 130), (4, 131), (1, 1)].map lwq := rfl
theorem mw_96 : mw 96 = [(4, 88), (4, 87), (0, 24), (1, 1)].map lwq := rfl
theorem mw_97 : mw 97 = [(4, 99), (4, 98), (1, 1)].map lwq := rfl
theorem mw_98 : mw 98 = [(4, 92), (4, 91), (0, 25), (1, 1)].map lwq := rfl
theorem mw_99 : mw 99 = [(4, 118), (4, 117), (0, 27), (1, 1)].map lwq := rfl
theorem mw_100 : mw 100 = [(4, 80), (4, 79), (0, 23), (1, 1)].map lwq := rfl
theorem mw_101 : mw 101 = [(4, 122), (4, 121), (0, 28), (1, 1)].map lwq := rfl
theorem mw_102 : mw 102 = [(4, 144), (4, 143), (0, 31), (1, 1)].map lwq := rfl
theorem mw_103 : mw 103 = [(4, 140), (4, 139), (0, 30), (1, 1)].map lwq := rfl
theorem mw_104 : mw 104 = [(4, 136), (4, 135), (0, 29), (1, 1)].map lwq := rfl
theorem mw_105 : mw 105 = [(4, 152), (4, 150), (4, 151), (1, 1)].map lwq := rfl
theorem mw_106 : mw 106 = [(4, 236), (4, 234), (4, 235), (1, 1)].map lwq := rfl
theorem mw_107 : mw 107 = [(5, 8), (5, 6), (5, 7), (1, 1)].map lwq := rfl
theorem mw_108 : mw 108 = [(4, 156), (4, 155), (0, 33), (1, 1)].map lwq := rfl
theorem mw_109 : mw 109 = [(4, 160), (4, 159), (0, 34), (1, 1)].map lwq := rfl
theorem mw_110 : mw 110 = [(4, 224), (4, 223), (0, 45), (1, 1)].map lwq := rfl
theorem mw_111 : mw 111 = [(4, 220), (4, 219), (0, 44), (1, 1)].map lwq := rfl
theorem mw_112 : mw 112 = [(4, 232), (4, 231), (0, 46), (1, 1)].map lwq := rfl
theorem mw_113 : mw 113 = [(5, 12), (5, 10), (5, 11), (1, 1)].map lwq := rfl
theorem mw_114 : mw 114 = [(5, 20), (5, 18), (5, 19), (1, 1)].map lwq := rfl
theorem mw_115 : mw 115 = [(5, 16), (5, 15), (0, 47), (1, 1)].map lwq := rfl
theorem mw_116 : mw 116 = [(5, 30), (5, 28), (5, 29), (1, 1)].map lwq := rfl
theorem mw_117 : mw 117 = [(5, 42), (5, 40), (5, 41), (1, 1)].map lwq := rfl
theorem mw_118 : mw 118 = [(5, 71), (5, 69), (5, 70), (1, 1)].map lwq := rfl
theorem mw_119 : mw 119 = [(5, 75), (5, 73), (5, 74), (1, 1)].map lwq := rfl
theorem mw_120 : mw 120 = [(5, 46), (5, 45), (0, 49), (1, 1)].map lwq := rfl
theorem mw_121 : mw 121 = [(5, 50), (5, 49), (0, 50), (1, 1)].map lwq := rfl
theorem mw_122 : mw 122 = [(5, 62), (5, 61), (0, 51), (1, 1)].map lwq := rfl
theorem mw_123 : mw 123 = [(5, 83), (5, 81), (5, 82), (1, 1)].map lwq := rfl
theorem mw_124 : mw 124 = [(5, 88), (5, 86), (5, 87), (1, 1)].map lwq := rfl
theorem mw_125 : mw 125 = [(5, 92), (5, 90), (5, 91), (1, 1)].map lwq := rfl
theorem mw_126 : mw 126 = [(5, 128), (5, 126), (5, 127), (1, 1)].map lwq := rfl
theorem mw_127 : mw 127 = [(5, 132), (5, 130), (5, 131), (1, 1)].map lwq := rfl
theorem mw_128 : mw 128 = [(5, 136), (5, 134), (5, 135), (1, 1)].map lwq := rfl
theorem mw_129 : mw 129 = [(5, 144), (5, 142), (5, 143), (1, 1)].map lwq := rfl
theorem mw_130 : mw 130 = [(5, 160), (5, 158), (5, 159), (1, 1)].map lwq := rfl
theorem mw_131 : mw 131 = [(5, 165), (5, 163), (5, 164), (1, 1)].map lwq := rfl
theorem mw_132 : mw 132 = [(5, 177), (5, 175), (5, 176), (1, 1)].map lwq := rfl
theorem mw_133 : mw 133 = [(5, 184), (5, 182), (5, 183), (1, 1)].map lwq := rfl
theorem mw_134 : mw 134 = [(5, 192), (5, 190), (5, 191), (1, 1)].map lwq := rfl
theorem mw_135 : mw 135 = [(5, 196), (5, 195), (0, 58), (1, 1)].map lwq := rfl
theorem mw_136 : mw 136 = [(5, 180), (5, 179), (1, 1)].map lwq := rfl
theorem mw_137 : mw 137 = [(5, 188), (5, 187), (0, 57), (1, 1)].map lwq := rfl
theorem mw_138 : mw 138 = [(6, 229), (6, 228), (1, 13)].map lwq := rfl
theorem mw_139 : mw 139 = [(7, 1), (7, 0), (0, 59), (1, 13)].map lwq := rfl
theorem mw_140 : mw 140 = [(7, 27), (7, 26), (0, 62), (1, 13)].map lwq := rfl
theorem mw_141 : mw 141 = [(7, 44), (7, 43), (0, 63), (1, 13)].map lwq := rfl
theorem mw_142 : mw 142 = [(7, 4), (7, 3), (1, 13)].map lwq := rfl
theorem mw_143 : mw 143 = [(7, 239), (7, 238), (1, 13)].map lwq := rfl
theorem mw_144 : mw 144 = [(7, 236), (7, 235), (1, 13)].map lwq := rfl
theorem mw_145 : mw 145 = [(7, 14), (7, 13), (0, 61), (1, 13)].map lwq := rfl
theorem mw_146 : mw 146 = [(6, 225), (6, 223), (6, 224), (1, 13)].map lwq := rfl
theorem mw_147 : mw 147 = [(6, 233), (6, 231), (6, 232), (1, 13)].map lwq := rfl
theorem mw_148 : mw 148 = [(7, 10), (7, 9), (0, 60), (1, 13)].map lwq := rfl
theorem mw_149 : mw 149 = [(6, 237), (6, 235), (6, 236), (1, 13)].map lwq := rfl
theorem mw_150 : mw 150 = [(7, 18), (7, 16), (7, 17), (1, 13)].map lwq := rfl
theorem mw_151 : mw 151 = [(7, 23), (7, 21), (7, 22), (1, 13)].map lwq := rfl
theorem mw_152 : mw 152 = [(7, 32), (7, 30), (7, 31), (1, 13)].map lwq := rfl
theorem mw_153 : mw 153 = [(7, 36), (7, 34), (7, 35), (1, 13)].map lwq := rfl
theorem mw_154 : mw 154 = [(7, 40), (7, 38), (7, 39), (1, 13)].map lwq := rfl
theorem mw_155 : mw 155 = [(7, 52), (7, 51), (0, 64), (1, 13)].map lwq := rfl
theorem mw_156 : mw 156 = [(7, 56), (7, 55), (0, 65), (1, 13)].map lwq := rfl
theorem mw_157 : mw 157 = [(7, 48), (7, 46), (7, 47), (1, 13)].map lwq := rfl
theorem mw_158 : mw 158 = [(7, 64), (7, 63), (0, 66), (1, 13)].map lwq := rfl
theorem mw_159 : mw 159 = [(7, 60), (7, 58), (7, 59), (1, 13)].map lwq := rfl
theorem mw_160 : mw 160 = [(7, 68), (7, 66), (7, 67), (1, 13)].map lwq := rfl
theorem mw_161 : mw 161 = [(7, 113), (7, 112), (0, 75), (1, 13)].map lwq := rfl
theorem mw_162 : mw 162 = [(7, 117), (7, 116), (0, 76), (1, 13)].map lwq := rfl
theorem mw_163 : mw 163 = [(7, 121), (7, 120), (0, 77), (1, 13)].map lwq := rfl
theorem mw_164 : mw 164 = [(7, 89), (7, 88), (0, 69), (1, 13)].map lwq := rfl
theorem mw_165 : mw 165 = [(7, 93), (7, 92), (0, 70), (1, 13)].map lwq := rfl
theorem mw_166 : mw 166 = [(7, 97), (7, 96), (0, 71), (1, 13)].map lwq := rfl
theorem mw_167 : mw 167 = [(7, 101), (7, 100), (0, 72), (1, 13)].map lwq := rfl
theorem mw_168 : mw 168 = [(7, 105), (7, 104), (0, 73), (1, 13)].map lwq := rfl
theorem mw_169 : mw 169 = [(7, 124), (7, 123), (1, 13)].map lwq := rfl
theorem mw_170 : mw 170 = [(7, 109), (7, 108), (0, 74), (1, 13)].map lwq := rfl
theorem mw_171 : mw 171 = [(7, 85), (7, 84), (0, 68), (1, 13)].map lwq := rfl
theorem mw_172 : mw 172 = [(7, 77), (7, 76), (0, 67), (1, 13)].map lwq := rfl
theorem mw_173 : mw 173 = [(7, 80), (7, 79), (1, 13)].map lwq := rfl
theorem mw_174 : mw 174 = [(7, 73), (7, 71), (7, 72), (1, 13)].map lwq := rfl
theorem mw_175 : mw 175 = [(7, 133), (7, 132), (0, 78), (1, 13)].map lwq := rfl
theorem mw_176 : mw 176 = [(7, 128), (7, 126), (7, 127), (1, 13)].map lwq := rfl
theorem mw_177 : mw 177 = [(7, 153), (7, 152), (0, 82), (1, 13)].map lwq := rfl
theorem mw_178 : mw 178 = [(7, 156), (7, 155), (1, 13)].map lwq := rfl
theorem mw_179 : mw 179 = [(7, 149), (7, 148), (0, 81), (1, 13)].map lwq := rfl
theorem mw_180 : mw 180 = [(7, 145), (7, 144), (0, 80), (1, 13)].map lwq := rfl
theorem mw_181 : mw 181 = [(7, 141), (7, 140), (0, 79), (1, 13)].map lwq := rfl
theorem mw_182 : mw 182 = [(7, 160), (7, 159), (0, 83), (1, 13)].map lwq := rfl
theorem mw_183 : mw 183 = [(7, 137), (7, 135), (7, 136), (1, 13)].map lwq := rfl
theorem mw_184 : mw 184 = [(7, 168), (7, 167), (0, 84), (1, 13)].map lwq := rfl
theorem mw_185 : mw 185 = [(7, 164), (7, 162), (7, 163), (1, 13)].map lwq := rfl
theorem mw_186 : mw 186 = [(7, 174), (7, 172), (7, 173), (1, 13)].map lwq := rfl
theorem mw_187 : mw 187 = [(7, 182), (7, 181), (0, 85), (1, 13)].map lwq := rfl
theorem mw_188 : mw 188 = [(7, 186), (7, 185), (0, 86), (1, 13)].map lwq := rfl
theorem mw_189 : mw 189 = [(7, 190), (7, 189), (0, 87), (1, 13)].map lwq := rfl
theorem mw_190 : mw 190 = [(7, 178), (7, 176), (7, 177), (1, 13)].map lwq := rfl
theorem mw_191 : mw 191 = [(7, 203), (7, 202), (0, 89), (1, 13)].map lwq := rfl
theorem mw_192 : mw 192 = [(7, 198), (7, 197), (0, 88), (1, 13)].map lwq := rfl
theorem mw_193 : mw 193 = [(7, 194), (7, 192), (7, 193), (1, 13)].map lwq := rfl
theorem mw_194 : mw 194 = [(7, 216), (7, 215), (0, 90), (1, 13)].map lwq := rfl
theorem mw_195 : mw 195 = [(7, 207), (7, 205), (7, 206), (1, 13)].map lwq := rfl
theorem mw_196 : mw 196 = [(7, 212), (7, 210), (7, 211), (1, 13)].map lwq := rfl
theorem mw_197 : mw 197 = [(7, 220), (7, 218), (7, 219), (1, 13)].map lwq := rfl
theorem mw_198 : mw 198 = [(7, 233), (7, 232), (0, 92), (1, 13)].map lwq := rfl
theorem mw_199 : mw 199 = [(7, 229), (7, 228), (0, 91), (1, 13)].map lwq := rfl
theorem mw_200 : mw 200 = [(8, 19), (8, 18), (0, 96), (1, 13)].map lwq := rfl
theorem mw_201 : mw 201 = [(8, 15), (8, 14), (0, 95), (1, 13)].map lwq := rfl
theorem mw_202 : mw 202 = [(8, 11), (8, 10), (0, 94), (1, 13)].map lwq := rfl
theorem mw_203 : mw 203 = [(8, 7), (8, 6), (0, 93), (1, 13)].map lwq := rfl
theorem mw_204 : mw 204 = [(8, 3), (8, 1), (8, 2), (1, 13)].map lwq := rfl
theorem mw_205 : mw 205 = [(8, 39), (8, 38), (0, 100), (1, 13)].map lwq := rfl
theorem mw_206 : mw 206 = [(8, 35), (8, 34), (0, 99), (1, 13)].map lwq := rfl
theorem mw_207 : mw 207 = [(8, 47), (8, 46), (0, 102), (1, 13)].map lwq := rfl
theorem mw_208 : mw 208 = [(8, 43), (8, 42), (0, 101), (1, 13)].map lwq := rfl
theorem mw_209 : mw 209 = [(8, 55), (8, 54), (0, 104), (1, 13)].map lwq := rfl
theorem mw_210 : mw 210 = [(8, 51), (8, 50), (0, 103), (1, 13)].map lwq := rfl
theorem mw_211 : mw 211 = [(8, 31), (8, 30), (0, 98), (1, 13)].map lwq := rfl
theorem mw_212 : mw 212 = [(8, 27), (8, 26), (0, 97), (1, 13)].map lwq := rfl
theorem mw_213 : mw 213 = [(8, 23), (8, 21), (8, 22), (1, 13)].map lwq := rfl
theorem mw_214 : mw 214 = [(8, 59), (8, 57), (8, 58), (1, 13)].map lwq := rfl
theorem mw_215 : mw 215 = [(8, 63), (8, 62), (0, 105), (1, 13)].map lwq := rfl
theorem mw_216 : mw 216 = [(8, 67), (8, 65), (8, 66), (1, 13)].map lwq := rfl
theorem mw_217 : mw 217 = [(8, 75), (8, 74), (0, 106), (1, 13)].map lwq := rfl
theorem mw_218 : mw 218 = [(8, 71), (8, 69), (8, 70), (1, 13)].map lwq := rfl
theorem mw_219 : mw 219 = [(8, 79), (8, 77), (8, 78), (1, 13)].map lwq := rfl
theorem mw_220 : mw 220 = [(8, 83), (8, 81), (8, 82), (1, 13)].map lwq := rfl
theorem mw_221 : mw 221 = [(8, 99), (8, 98), (0, 109), (1, 13)].map lwq := rfl
theorem mw_222 : mw 222 = [(8, 95), (8, 94), (0, 108), (1, 13)].map lwq := rfl
theorem mw_223 : mw 223 = [(8, 91), (8, 90), (0, 107), (1, 13)].map lwq := rfl
theorem mw_224 : mw 224 = [(8, 87), (8, 85), (8, 86), (1, 13)].map lwq := rfl
theorem mw_225 : mw 225 = [(8, 103), (8, 101), (8, 102), (1, 13)].map lwq := rfl
theorem mw_226 : mw 226 = [(8, 107), (8, 105), (8, 106), (1, 13)].map lwq := rfl
theorem mw_227 : mw 227 = [(8, 111), (8, 109), (8, 110), (1, 13)].map lwq := rfl
theorem mw_228 : mw 228 = [(8, 116), (8, 114), (8, 115), (1, 13)].map lwq := rfl
theorem mw_229 : mw 229 = [(8, 132), (8, 131), (1, 13)].map lwq := rfl
theorem mw_230 : mw 230 = [(8, 129), (8, 128), (0, 111), (1, 13)].map lwq := rfl
theorem mw_231 : mw 231 = [(8, 125), (8, 124), (0, 110), (1, 13)].map lwq := rfl
theorem mw_232 : mw 232 = [(8, 136), (8, 135), (0, 112), (1, 13)].map lwq := rfl
theorem mw_233 : mw 233 = [(8, 140), (8, 139), (0, 113), (1, 13)].map lwq := rfl
theorem mw_234 : mw 234 = [(8, 144), (8, 143), (0, 114), (1, 13)].map lwq := rfl
theorem mw_235 : mw 235 = [(8, 120), (8, 118), (8, 119), (1, 13)].map lwq := rfl
theorem mw_236 : mw 236 = [(8, 148), (8, 146), (8, 147), (1, 13)].map lwq := rfl
theorem mw_237 : mw 237 = [(7, 223), (7, 222), (1, 13)].map lwq := rfl
theorem mw_238 : mw 238 = [(8, 152), (8, 150), (8, 151), (1, 13)].map lwq := rfl
theorem mw_239 : mw 239 = [(8, 156), (8, 154), (8, 155), (1, 13)].map lwq := rfl
theorem mw_240 : mw 240 = [(8, 164), (8, 163), (0, 115), (1, 13)].map lwq := rfl
theorem mw_241 : mw 241 = [(8, 167), (8, 166), (1, 13)].map lwq := rfl
theorem mw_242 : mw 242 = [(8, 160), (8, 158), (8, 159), (1, 13)].map lwq := rfl
theorem mw_243 : mw 243 = [(8, 171), (8, 169), (8, 170), (1, 13)].map lwq := rfl
theorem mw_244 : mw 244 = [(8, 176), (8, 174), (8, 175), (1, 13)].map lwq := rfl
theorem mw_245 : mw 245 = [(8, 180), (8, 178), (8, 179), (1, 13)].map lwq := rfl
theorem mw_246 : mw 246 = [(8, 185), (8, 183), (8, 184), (1, 13)].map lwq := rfl
theorem mw_247 : mw 247 = [(8, 189), (8, 187), (8, 188), (1, 13)].map lwq := rfl
theorem mw_248 : mw 248 = [(4, 196), (4, 195), (1, 20)].map lwq := rfl
theorem mw_249 : mw 249 = [(5, 23), (5, 22), (1, 21)].map lwq := rfl
theorem mw_250 : mw 250 = [(4, 128), (4, 127), (1, 16)].map lwq := rfl
theorem mw_251 : mw 251 = [(3, 186), (3, 185), (1, 16)].map lwq := rfl
theorem mw_252 : mw 252 = [(3, 189), (3, 188), (1, 16)].map lwq := rfl
theorem mw_253 : mw 253 = [(3, 159), (3, 157), (3, 158), (1, 14)].map lwq := rfl
theorem mw_254 : mw 254 = [(3, 163), (3, 161), (3, 162), (1, 14)].map lwq := rfl
theorem mw_255 : mw 255 = [(3, 167), (3, 165), (3, 166), (1, 14)].map lwq := rfl
theorem mw_256 : mw 256 = [(3, 173), (3, 171), (3, 172), (1, 14)].map lwq := rfl
theorem mw_257 : mw 257 = [(3, 177), (3, 175), (3, 176), (1, 14)].map lwq := rfl
theorem mw_258 : mw 258 = [(3, 183), (3, 182), (1, 15)].map lwq := rfl
theorem mw_259 : mw 259 = [(3, 180), (3, 179), (1, 15)].map lwq := rfl
theorem mw_260 : mw 260 = [(3, 192), (3, 191), (1, 15)].map lwq := rfl
theorem mw_all (k : Nat) (h : k < mIs.length) : ∃ qs : List (Nat × Nat), mw k = qs.map lwq := match k, h with
  | 0, _ => ⟨_, mw_0⟩
  | 1, _ => ⟨_, mw_1⟩
  | 2, _ => ⟨_, mw_2⟩
  | 3, _ => ⟨_, mw_3⟩
  | 4, _ => ⟨_, mw_4⟩
  | 5, _ => ⟨_, mw_5⟩
  | 6, _ => ⟨_, mw_6⟩
  | 7, _ => ⟨_, mw_7⟩
  | 8, _ => ⟨_, mw_8⟩
  | 9, _ => ⟨_, mw_9⟩
  | 10, _ => ⟨_, mw_10⟩
  | 11, _ => ⟨_, mw_11⟩
  | 12, _ => ⟨_, mw_12⟩
  | 13, _ => ⟨_, mw_13⟩
  | 14, _ => ⟨_, mw_14⟩
  | 15, _ => ⟨_, mw_15⟩
  | 16, _ => ⟨_, mw_16⟩
  | 17, _ => ⟨_, mw_17⟩
  | 18, _ => ⟨_, mw_18⟩
  | 19, _ => ⟨_, mw_19⟩
  | 20, _ => ⟨_, mw_20⟩
  | 21, _ => ⟨_, mw_21⟩
  | 22, _ => ⟨_, mw_22⟩
  | 23, _ => ⟨_, mw_23⟩
  | 24, _ => ⟨_, mw_24⟩
  | 25, _ => ⟨_, mw_25⟩
  | 26, _ => ⟨_, mw_26⟩
  | 27, _ => ⟨_, mw_27⟩
  | 28, _ => ⟨_, mw_28⟩
  | 29, _ => ⟨_, mw_29⟩
  | 30, _ => ⟨_, mw_30⟩
  | 31, _ => ⟨_, mw_31⟩
  | 32, _ => ⟨_, mw_32⟩
  | 33, _ => ⟨_, mw_33⟩
  | 34, _ => ⟨_, mw_34⟩
  | 35, _ => ⟨_, mw_35⟩
  | 36, _ => ⟨_, mw_36⟩
  | 37, _ => ⟨_, mw_37⟩
  | 38, _ => ⟨_, mw_38⟩
  | 39, _ => ⟨_, mw_39⟩
  | 40, _ => ⟨_, mw_40⟩
  | 41, _ => ⟨_, mw_41⟩
  | 42, _ => ⟨_, mw_42⟩
  | 43, _ => ⟨_, mw_43⟩
  | 44, _ => ⟨_, mw_44⟩
  | 45, _ => ⟨_, mw_45⟩
  | 46, _ => ⟨_, mw_46⟩
  | 47, _ => ⟨_, mw_47⟩
  | 48, _ => ⟨_, mw_48⟩
  | 49, _ => ⟨_, mw_49⟩
  | 50, _ => ⟨_, mw_50⟩
  | 51, _ => ⟨_, mw_51⟩
  | 52, _ => ⟨_, mw_52⟩
  | 53, _ => ⟨_, mw_53⟩
  | 54, _ => ⟨_, mw_54⟩
  | 55, _ => ⟨_, mw_55⟩
  | 56, _ => ⟨_, mw_56⟩
  | 57, _ => ⟨_, mw_57⟩
  | 58, _ => ⟨_, mw_58⟩
  | 59, _ => ⟨_, mw_59⟩
  | 60, _ => ⟨_, mw_60⟩
  | 61, _ => ⟨_, mw_61⟩
  | 62, _ => ⟨_, mw_62⟩
  | 63, _ => ⟨_, mw_63⟩
  | 64, _ => ⟨_, mw_64⟩
  | 65, _ => ⟨_, mw_65⟩
  | 66, _ => ⟨_, mw_66⟩
  | 67, _ => ⟨_, mw_67⟩
  | 68, _ => ⟨_, mw_68⟩
  | 69, _ => ⟨_, mw_69⟩
  | 70, _ => ⟨_, mw_70⟩
  | 71, _ => ⟨_, mw_71⟩
  | 72, _ => ⟨_, mw_72⟩
  | 73, _ => ⟨_, mw_73⟩
  | 74, _ => ⟨_, mw_74⟩
  | 75, _ => ⟨_, mw_75⟩
  | 76, _ => ⟨_, mw_76⟩
  | 77, _ => ⟨_, mw_77⟩
  | 78, _ => ⟨_, mw_78⟩
  | 79, _ => ⟨_, mw_79⟩
  | 80, _ => ⟨_, mw_80⟩
  | 81, _ => ⟨_, mw_81⟩
  | 82, _ => ⟨_, mw_82⟩
  | 83, _ => ⟨_, mw_83⟩
  | 84, _ => ⟨_, mw_84⟩
  | 85, _ => ⟨_, mw_85⟩
  | 86, _ => ⟨_, mw_86⟩
  | 87, _ => ⟨_, mw_87⟩
  | 88, _ => ⟨_, mw_88⟩
  | 89, _ => ⟨_, mw_89⟩
  | 90, _ => ⟨_, mw_90⟩
  | 91, _ => ⟨_, mw_91⟩
  | 92, _ => ⟨_, mw_92⟩
  | 93, _ => ⟨_, mw_93⟩
  | 94, _ => ⟨_, mw_94⟩
  | 95, _ => ⟨_, mw_95⟩
  | 96, _ => ⟨_, mw_96⟩
  | 97, _ => ⟨_, mw_97⟩
  | 98, _ => ⟨_, mw_98⟩
  | 99, _ => ⟨_, mw_99⟩
  | 100, _ => ⟨_, mw_100⟩
  | 101, _ => ⟨_, mw_101⟩
  | 102, _ => ⟨_, mw_102⟩
  | 103, _ => ⟨_, mw_103⟩
  | 104, _ => ⟨_, mw_104⟩
  | 105, _ => ⟨_, mw_105⟩
  | 106, _ => ⟨_, mw_106⟩
  | 107, _ => ⟨_, mw_107⟩
  | 108, _ => ⟨_, mw_108⟩
  | 109, _ => ⟨_, mw_109⟩
  | 110, _ => ⟨_, mw_110⟩
  | 111, _ => ⟨_, mw_111⟩
  | 112, _ => ⟨_, mw_112⟩
  | 113, _ => ⟨_, mw_113⟩
  | 114, _ => ⟨_, mw_114⟩
  | 115, _ => ⟨_, mw_115⟩
  | 116, _ => ⟨_, mw_116⟩
  | 117, _ => ⟨_, mw_117⟩
  | 118, _ => ⟨_, mw_118⟩
  | 119, _ => ⟨_, mw_119⟩
  | 120, _ => ⟨_, mw_120⟩
  | 121, _ => ⟨_, mw_121⟩
  | 122, _ => ⟨_, mw_122⟩
  | 123, _ => ⟨_, mw_123⟩
  | 124, _ => ⟨_, mw_124⟩
  | 125, _ => ⟨_, mw_125⟩
  | 126, _ => ⟨_, mw_126⟩
  | 127, _ => ⟨_, mw_127⟩
  | 128, _ => ⟨_, mw_128⟩
  | 129, _ => ⟨_, mw_129⟩
  | 130, _ => ⟨_, mw_130⟩
  | 131, _ => ⟨_, mw_131⟩
  | 132, _ => ⟨_, mw_132⟩
  | 133, _ => ⟨_, mw_133⟩
  | 134, _ => ⟨_, mw_134⟩
  | 135, _ => ⟨_, mw_135⟩
  | 136, _ => ⟨_, mw_136⟩
  | 137, _ => ⟨_, mw_137⟩
  | 138, _ => ⟨_, mw_138⟩
  | 139, _ => ⟨_, mw_139⟩
  | 140, _ => ⟨_, mw_140⟩
  | 141, _ => ⟨_, mw_141⟩
  | 142, _ => ⟨_, mw_142⟩
  | 143, _ => ⟨_, mw_143⟩
  | 144, _ => ⟨_, mw_144⟩
  | 145, _ => ⟨_, mw_145⟩
  | 146, _ => ⟨_, mw_146⟩
  | 147, _ => ⟨_, mw_147⟩
  | 148, _ => ⟨_, mw_148⟩
  | 149, _ => ⟨_, mw_149⟩
  | 150, _ => ⟨_, mw_150⟩
  | 151, _ => ⟨_, mw_151⟩
  | 152, _ => ⟨_, mw_152⟩
  | 153, _ => ⟨_, mw_153⟩
  | 154, _ => ⟨_, mw_154⟩
  | 155, _ => ⟨_, mw_155⟩
  | 156, _ => ⟨_, mw_156⟩
  | 157, _ => ⟨_, mw_157⟩
  | 158, _ => ⟨_, mw_158⟩
  | 159, _ => ⟨_, mw_159⟩
  | 160, _ => ⟨_, mw_160⟩
  | 161, _ => ⟨_, mw_161⟩
  | 162, _ => ⟨_, mw_162⟩
  | 163, _ => ⟨_, mw_163⟩
  | 164, _ => ⟨_, mw_164⟩
  | 165, _ => ⟨_, mw_165⟩
  | 166, _ => ⟨_, mw_166⟩
  | 167, _ => ⟨_, mw_167⟩
  | 168, _ => ⟨_, mw_168⟩
  | 169, _ => ⟨_, mw_169⟩
  | 170, _ => ⟨_, mw_170⟩
  | 171, _ => ⟨_, mw_171⟩
  | 172, _ => ⟨_, mw_172⟩
  | 173, _ => ⟨_, mw_173⟩
  | 174, _ => ⟨_, mw_174⟩
  | 175, _ => ⟨_, mw_175⟩
  | 176, _ => ⟨_, mw_176⟩
  | 177, _ => ⟨_, mw_177⟩
  | 178, _ => ⟨_, mw_178⟩
  | 179, _ => ⟨_, mw_179⟩
  | 180, _ => ⟨_, mw_180⟩
  | 181, _ => ⟨_, mw_181⟩
  | 182, _ => ⟨_, mw_182⟩
  | 183, _ => ⟨_, mw_183⟩
  | 184, _ => ⟨_, mw_184⟩
  | 185, _ => ⟨_, mw_185⟩
  | 186, _ => ⟨_, mw_186⟩
  | 187, _ => ⟨_, mw_187⟩
  | 188, _ => ⟨_, mw_188⟩
  | 189, _ => ⟨_, mw_189⟩
  | 190, _ => ⟨_, mw_190⟩
  | 191, _ => ⟨_, mw_191⟩
  | 192, _ => ⟨_, mw_192⟩
  | 193, _ => ⟨_, mw_193⟩
  | 194, _ => ⟨_, mw_194⟩
  | 195, _ => ⟨_, mw_195⟩
  | 196, _ => ⟨_, mw_196⟩
  | 197, _ => ⟨_, mw_197⟩
  | 198, _ => ⟨_, mw_198⟩
  | 199, _ => ⟨_, mw_199⟩
  | 200, _ => ⟨_, mw_200⟩
  | 201, _ => ⟨_, mw_201⟩
  | 202, _ => ⟨_, mw_202⟩
  | 203, _ => ⟨_, mw_203⟩
  | 204, _ => ⟨_, mw_204⟩
  | 205, _ => ⟨_, mw_205⟩
  | 206, _ => ⟨_, mw_206⟩
  | 207, _ => ⟨_, mw_207⟩
  | 208, _ => ⟨_, mw_208⟩
  | 209, _ => ⟨_, mw_209⟩
  | 210, _ => ⟨_, mw_210⟩
  | 211, _ => ⟨_, mw_211⟩
  | 212, _ => ⟨_, mw_212⟩
  | 213, _ => ⟨_, mw_213⟩
  | 214, _ => ⟨_, mw_214⟩
  | 215, _ => ⟨_, mw_215⟩
  | 216, _ => ⟨_, mw_216⟩
  | 217, _ => ⟨_, mw_217⟩
  | 218, _ => ⟨_, mw_218⟩
  | 219, _ => ⟨_, mw_219⟩
  | 220, _ => ⟨_, mw_220⟩
  | 221, _ => ⟨_, mw_221⟩
  | 222, _ => ⟨_, mw_222⟩
  | 223, _ => ⟨_, mw_223⟩
  | 224, _ => ⟨_, mw_224⟩
  | 225, _ => ⟨_, mw_225⟩
  | 226, _ => ⟨_, mw_226⟩
  | 227, _ => ⟨_, mw_227⟩
  | 228, _ => ⟨_, mw_228⟩
  | 229, _ => ⟨_, mw_229⟩
  | 230, _ => ⟨_, mw_230⟩
  | 231, _ => ⟨_, mw_231⟩
  | 232, _ => ⟨_, mw_232⟩
  | 233, _ => ⟨_, mw_233⟩
  | 234, _ => ⟨_, mw_234⟩
  | 235, _ => ⟨_, mw_235⟩
  | 236, _ => ⟨_, mw_236⟩
  | 237, _ => ⟨_, mw_237⟩
  | 238, _ => ⟨_, mw_238⟩
  | 239, _ => ⟨_, mw_239⟩
  | 240, _ => ⟨_, mw_240⟩
  | 241, _ => ⟨_, mw_241⟩
  | 242, _ => ⟨_, mw_242⟩
  | 243, _ => ⟨_, mw_243⟩
  | 244, _ => ⟨_, mw_244⟩
  | 245, _ => ⟨_, mw_245⟩
  | 246, _ => ⟨_, mw_246⟩
  | 247, _ => ⟨_, mw_247⟩
  | 248, _ => ⟨_, mw_248⟩
  | 249, _ => ⟨_, mw_249⟩
  | 250, _ => ⟨_, mw_250⟩
  | 251, _ => ⟨_, mw_251⟩
  | 252, _ => ⟨_, mw_252⟩
  | 253, _ => ⟨_, mw_253⟩
  | 254, _ => ⟨_, mw_254⟩
  | 255, _ => ⟨_, mw_255⟩
  | 256, _ => ⟨_, mw_256⟩
  | 257, _ => ⟨_, mw_257⟩
  | 258, _ => ⟨_, mw_258⟩
  | 259, _ => ⟨_, mw_259⟩
  | 260, _ => ⟨_, mw_260⟩
  | k + 261, h => absurd (Nat.lt_of_lt_of_eq h (show mIs.length = 261 by decide +kernel)) (by omega)
def lk (own : Nat) (e : Nat × (Nat × Nat × Nat × Nat)) : Option Cond := if own = 4 ∧ e.1 = 96 then none else (mI e.2.1).map (fun q => .methodLink (cn own) e.1 q.1)
set_option maxRecDepth 100000 in
theorem lk_0 : (tb_m0).map (lk 0) = [(5, 105), (5, 113), (5, 117), (5, 121), (5, 109)].map lwq := rfl
set_option maxRecDepth 100000 in
theorem lk_1 : (tb_m1).map (lk 1) = [].map lwq := rfl
set_option maxRecDepth 100000 in
theorem lk_2 : (tb_m2).map (lk 2) = [(4, 64)].map lwq := rfl
set_option maxRecDepth 100000 in
theorem lk_3 : (tb_m3).map (lk 3) = [].map lwq := rfl
set_option maxRecDepth 100000 in
theorem lk_4 : (tb_m4).map (lk 4) = [(4, 177), (4, 186), (4, 197), (4, 205), (4, 209), (4, 181), (9, 0), (4, 190), (4, 194), (4, 201)].map lwq := rfl
set_option maxRecDepth 100000 in
theorem lk_5 : (tb_m5).map (lk 5) = [].map lwq := rfl
set_option maxRecDepth 100000 in
theorem lk_6 : (tb_m6).map (lk 6) = [].map lwq := rfl
set_option maxRecDepth 100000 in
theorem lk_7 : (tb_m7).map (lk 7) = [(4, 29), (4, 30)].map lwq := rfl
set_option maxRecDepth 100000 in
theorem lk_8 : (tb_m8).map (lk 8) = [(5, 149)].map lwq := rfl
set_option maxRecDepth 100000 in
theorem lk_9 : (tb_m9).map (lk 9) = [(3, 111), (3, 139), (3, 115), (3, 147), (3, 119), (3, 123), (3, 127), (3, 131), (3, 135), (3, 143), (3, 151), (3, 156)].map lwq := rfl
set_option maxRecDepth 100000 in
theorem lk_10 : (tb_m10).map (lk 10) = [(5, 35), (5, 67)].map lwq := rfl
set_option maxRecDepth 100000 in
theorem lk_11 : (tb_m11).map (lk 11) = [(3, 28), (3, 32), (3, 35), (3, 47), (3, 64), (3, 72), (3, 76), (3, 84), (4, 126), (3, 92), (3, 100), (3, 104), (3, 107), (4, 8), (4, 16), (4, 38), (4, 50), (4, 20), (4, 24), (4, 33), (4, 42), (4, 36), (4, 37), (4, 60), (4, 69), (4, 73), (4, 77), (4, 85), (4, 89), (4, 97), (4, 104), (4, 112), (4, 115), (4, 133), (4, 119), (4, 123), (4, 141), (4, 145), (4, 137), (4, 153), (4, 237), (5, 1), (4, 157), (4, 173), (4, 213), (4, 217), (4, 161), (4, 165), (4, 169), (4, 221), (4, 225), (4, 229), (5, 13), (5, 21), (5, 31), (5, 43), (5, 47), (5, 51), (5, 55), (5, 59), (5, 63), (5, 76), (5, 93), (5, 97), (5, 101), (5, 137), (5, 145), (5, 153), (5, 166), (5, 167), (9, 0), (5, 178), (5, 185), (5, 193)].map lwq := rfl
set_option maxRecDepth 100000 in
theorem lk_12 : (tb_m12).map (lk 12) = [(6, 227), (7, 237), (7, 11), (6, 238), (7, 2), (7, 7), (7, 24), (7, 41), (7, 49), (7, 53), (7, 61), (7, 110), (7, 90), (7, 118), (7, 94), (7, 98), (7, 102), (7, 106), (7, 114), (7, 86), (7, 122), (7, 74), (7, 78), (7, 82), (7, 130), (7, 146), (7, 142), (7, 150), (7, 154), (7, 138), (7, 157), (7, 165), (7, 183), (7, 179), (7, 187), (7, 195), (7, 200), (7, 213), (7, 221), (7, 226), (7, 234), (7, 230), (8, 12), (8, 16), (8, 8), (8, 4), (8, 36), (8, 44), (8, 52), (8, 32), (8, 40), (8, 48), (8, 28), (8, 24), (8, 60), (8, 72), (8, 88), (8, 92), (8, 96), (8, 126), (8, 130), (8, 122), (8, 133), (8, 137), (8, 141), (8, 161), (8, 165)].map lwq := rfl
set_option maxRecDepth 100000 in
theorem lk_13 : (tb_m13).map (lk 13) = [].map lwq := rfl
set_option maxRecDepth 100000 in
theorem lk_14 : (tb_m14).map (lk 14) = [].map lwq := rfl
set_option maxRecDepth 100000 in
theorem lk_15 : (tb_m15).map (lk 15) = [].map lwq := rfl
set_option maxRecDepth 100000 in
theorem lk_16 : (tb_m16).map (lk 16) = [(3, 174), (3, 164), (3, 170), (3, 160), (3, 178)].map lwq := rfl
set_option maxRecDepth 100000 in
theorem lk_17 : (tb_m17).map (lk 17) = [(3, 187), (3, 181), (3, 184), (3, 190)].map lwq := rfl
def kw (own : Nat) (e : Nat × TV) : Option Cond := if own = 16 then none else match e.2 with
  | .inl x => some (.constant (cn own) e.1 (Int32.ofInt x))
  | .inr (.inl x) => some (.constantLong (cn own) e.1 (Int64.ofInt x))
  | _ => none
theorem kw_0 : (tb_c0).map (kw 0) = [].map lwq := by decide +kernel
theorem kw_1 : (tb_c1).map (kw 1) = [].map lwq := by decide +kernel
theorem kw_2 : (tb_c2).map (kw 2) = [].map lwq := by decide +kernel
theorem kw_3 : (tb_c3).map (kw 3) = [].map lwq := by decide +kernel
theorem kw_4 : (tb_c4).map (kw 4) = [].map lwq := by decide +kernel
theorem kw_5 : (tb_c5).map (kw 5) = [].map lwq := by decide +kernel
theorem kw_6 : (tb_c6).map (kw 6) = [].map lwq := by decide +kernel
theorem kw_7 : (tb_c7).map (kw 7) = [(4, 28)].map lwq := by decide +kernel
theorem kw_8 : (tb_c8).map (kw 8) = [].map lwq := by decide +kernel
theorem kw_9 : (tb_c9).map (kw 9) = [(4, 2), (9, 0)].map lwq := by decide +kernel
theorem kw_10 : (tb_c10).map (kw 10) = [].map lwq := by decide +kernel
theorem kw_11 : (tb_c11).map (kw 11) = [(3, 51), (4, 54), (4, 55), (5, 84), (5, 161)].map lwq := by decide +kernel
theorem kw_12 : (tb_c12).map (kw 12) = [(7, 5), (6, 226), (7, 6), (7, 19), (7, 28), (7, 69), (7, 81), (7, 129), (7, 169), (7, 170), (7, 199), (7, 208), (7, 225), (8, 112), (8, 121), (7, 224), (8, 172), (8, 181)].map lwq := by decide +kernel
theorem kw_13 : (tb_c13).map (kw 13) = [].map lwq := by decide +kernel
theorem kw_14 : (tb_c14).map (kw 14) = [(5, 24), (5, 25), (5, 26)].map lwq := by decide +kernel
theorem kw_15 : (tb_c15).map (kw 15) = [].map lwq := by decide +kernel
theorem kw_16 : (tb_c16).map (kw 16) = [].map lwq := by decide +kernel
theorem kw_17 : (tb_c17).map (kw 17) = [].map lwq := by decide +kernel
set_option maxRecDepth 100000 in
theorem uw_0 : (u_ws RX0 TX0 6).map some = [(1, 232), (1, 234), (1, 236), (1, 238), (2, 0), (2, 2)].map lwq := rfl
set_option maxRecDepth 100000 in
theorem uw_1 : (u_ws RX1 TX1 6).map some = [(2, 92), (2, 94), (2, 96), (2, 98), (2, 100), (2, 102)].map lwq := rfl
set_option maxRecDepth 100000 in
theorem uw_2 : (u_ws RX2 TX2 7).map some = [(2, 26), (2, 28), (2, 30), (2, 32), (2, 34), (2, 36), (2, 38)].map lwq := rfl
set_option maxRecDepth 100000 in
theorem uw_3 : (u_ws RX3 TX3 7).map some = [(2, 60), (2, 62), (2, 64), (2, 66), (2, 68), (2, 70), (2, 72)].map lwq := rfl
set_option maxRecDepth 100000 in
theorem uw_4 : (u_ws RX4 TX4 14).map some = [(1, 119), (1, 121), (1, 123), (1, 125), (1, 127), (1, 129), (1, 131), (1, 133), (1, 135), (1, 137), (1, 139), (1, 141), (1, 143), (1, 145)].map lwq := rfl
set_option maxRecDepth 100000 in
theorem uw_5 : (u_ws RX5 TX5 7).map some = [(2, 127), (2, 129), (2, 131), (2, 133), (2, 135), (2, 137), (2, 139)].map lwq := rfl
set_option maxRecDepth 100000 in
theorem uw_6 : (u_ws RX6 TX6 11).map some = [(1, 77), (1, 79), (1, 81), (1, 83), (1, 85), (1, 87), (1, 89), (1, 91), (1, 93), (1, 95), (1, 97)].map lwq := rfl
set_option maxRecDepth 100000 in
theorem uw_7 : (u_ws RX7 TX7 7).map some = [(2, 160), (2, 162), (2, 164), (2, 166), (2, 168), (2, 170), (2, 172)].map lwq := rfl
set_option maxRecDepth 100000 in
theorem uw_8 : (u_ws RX8 TX8 4).map some = [(2, 188), (2, 190), (2, 192), (2, 194)].map lwq := rfl
set_option maxRecDepth 100000 in
theorem uw_9 : (u_ws RX9 TX9 3).map some = [(1, 164), (1, 166), (1, 168)].map lwq := rfl
set_option maxRecDepth 100000 in
theorem uw_10 : (u_ws RX10 TX10 10).map some = [(1, 197), (1, 199), (1, 201), (1, 203), (1, 205), (1, 207), (1, 209), (1, 211), (1, 213), (1, 215)].map lwq := rfl
set_option maxRecDepth 100000 in
theorem uw_11 : (u_ws RX11 TX11 19).map some = [(2, 217), (2, 219), (2, 221), (2, 223), (2, 225), (2, 227), (2, 229), (2, 231), (2, 233), (2, 235), (2, 237), (2, 239), (3, 1), (3, 3), (3, 5), (3, 7), (3, 9), (3, 11), (3, 13)].map lwq := rfl
set_option maxRecDepth 100000 in
theorem uw_12 : (u_ws RX12 TX12 86).map some = [(6, 49), (6, 51), (6, 53), (6, 55), (6, 57), (6, 59), (6, 61), (6, 63), (6, 65), (6, 67), (6, 69), (6, 71), (6, 73), (6, 75), (6, 77), (6, 79), (6, 81), (6, 83), (6, 85), (6, 87), (6, 89), (6, 91), (6, 93), (6, 95), (6, 97), (6, 99), (6, 101), (6, 103), (6, 105), (6, 107), (6, 109), (6, 111), (6, 113), (6, 115), (6, 117), (6, 119), (6, 121), (6, 123), (6, 125), (6, 127), (6, 129), (6, 131), (6, 133), (6, 135), (6, 137), (6, 139), (6, 141), (6, 143), (6, 145), (6, 147), (6, 149), (6, 151), (6, 153), (6, 155), (6, 157), (6, 159), (6, 161), (6, 163), (6, 165), (6, 167), (6, 169), (6, 171), (6, 173), (6, 175), (6, 177), (6, 179), (6, 181), (6, 183), (6, 185), (6, 187), (6, 189), (6, 191), (6, 193), (6, 195), (6, 197), (6, 199), (6, 201), (6, 203), (6, 205), (6, 207), (6, 209), (6, 211), (6, 213), (6, 215), (6, 217), (6, 219)].map lwq := rfl
def dj1 (pc : Nat) (off : Int) (ts : List Nat) : Bool := match ts with
  | [t] => decide ((pc : Int) + off = (t : Int))
  | _ => false
def dj (pc : Nat) (i : Instr) (ts : List Nat) : Bool := match i with
  | .ifCond _ off => dj1 pc off ts
  | .if_icmp _ off => dj1 pc off ts
  | .if_acmp _ off => dj1 pc off ts
  | .goto off => dj1 pc off ts
  | .tableswitch d lo hi os => (match ts with
    | t :: us => decide ((pc : Int) + d = (t : Int)) && decide (os.toList.map (fun o => (pc : Int) + o) = us.map (fun (u : Nat) => (u : Int))) && decide (hi - lo + 1 = (os.toList.length : Int))
    | _ => false)
  | .lookupswitch d ps => (match ts with
    | t :: us => decide ((pc : Int) + d = (t : Int)) && decide (ps.toList.map (fun o => (pc : Int) + o.2) = us.map (fun (u : Nat) => (u : Int))) && (ps.toList.zip (ps.toList.drop 1)).all (fun (a, next) => a.1 < next.1)
    | _ => false)
  | _ => true
theorem dj1_ok {pc : Nat} {off : Int} {ts : List Nat} (h : dj1 pc off ts = true) : ∃ t, ts = [t] ∧ (pc : Int) + off = (t : Int) := by
  unfold dj1 at h
  split at h
  · next t => exact ⟨t, rfl, of_decide_eq_true h⟩
  · cases h
def dl (i : Instr) (n : Nat) : Bool := match i with
  | .bipush _ | .iload _ | .lload _ | .aload _ | .istore _ | .lstore _ | .astore _ | .ldc _ => Nat.beq n 2
  | .sipush _ | .ldc_w _ | .ldc2_w _ | .getstatic _ | .iinc _ _ | .ifCond _ _ | .if_icmp _ _ | .if_acmp _ _ | .goto _ | .getfield _ | .putfield _ | .invokevirtual _ | .invokestatic _ => Nat.beq n 3
  | .tableswitch _ _ _ _ | .lookupswitch _ _ => true
  | _ => Nat.beq n 1
def dr (rb : Bool) (ret : Option FieldType) (i : Instr) : Bool := match i with
  | .ireturn => (match rb, ret with
    | true, some .boolean => true
    | true, some .byte => true
    | false, some .int => true
    | _, _ => false)
  | .lreturn => decide (ret = some .long)
  | .return_ => decide (ret = none)
  | _ => true
def dk (rb : Bool) (ret : Option FieldType) (b : ByteArray) (e : Nat × Instr × Nat × List Nat) : Bool := match decode b e.1 with
  | .ok (i, n) => decide (i = e.2.1) && Nat.beq e.2.2.1 (e.1 + n) && dj e.1 e.2.1 e.2.2.2 && dl e.2.1 n && dr rb ret e.2.1
  | _ => false
