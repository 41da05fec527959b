theorem dk_0 : ((kX0_begin).2.2.2.1).all (fun l => l.all (dk false (none) prog_2_method_2_code)) = true := by decide +kernel
theorem dk_1 : ((kX0_of).2.2.2.1).all (fun l => l.all (dk false (none) prog_2_method_3_code)) = true := by decide +kernel
theorem dk_2 : ((kX0_began).2.2.2.1).all (fun l => l.all (dk false (none) prog_2_method_4_code)) = true := by decide +kernel
theorem dk_3 : ((kX0_run).2.2.2.1).all (fun l => l.all (dk false (some .int) prog_2_method_5_code)) = true := by decide +kernel
theorem dk_4 : ((kX0_means).2.2.2.1).all (fun l => l.all (dk false (some .int) prog_2_method_6_code)) = true := by decide +kernel
theorem dk_5 : ((kX0_clashes).2.2.2.1).all (fun l => l.all (dk false (some .int) prog_2_method_7_code)) = true := by decide +kernel
theorem dk_6 : ((kX0_hides).2.2.2.1).all (fun l => l.all (dk false (some .int) prog_2_method_8_code)) = true := by decide +kernel
theorem dk_7 : ((kX0_ends).2.2.2.1).all (fun l => l.all (dk false (some .int) prog_2_method_9_code)) = true := by decide +kernel
theorem dk_8 : ((kX1_late).2.2.2.1).all (fun l => l.all (dk true (some .boolean) prog_3_method_2_code)) = true := by decide +kernel
theorem dk_9 : ((kX2_due).2.2.2.1).all (fun l => l.all (dk false (some .int) prog_4_method_2_code)) = true := by decide +kernel
theorem dk_10 : ((kX2_firstDue).2.2.2.1).all (fun l => l.all (dk false (some .int) prog_4_method_3_code)) = true := by decide +kernel
theorem dk_11 : ((kX3_owed).2.2.2.1).all (fun l => l.all (dk false (some .int) prog_5_method_2_code)) = true := by decide +kernel
theorem dk_12 : ((kX4_begin).2.2.2.1).all (fun l => l.all (dk false (none) prog_6_method_2_code)) = true := by decide +kernel
theorem dk_13 : ((kX4_give).2.2.2.1).all (fun l => l.all (dk false (none) prog_6_method_3_code)) = true := by decide +kernel
theorem dk_14 : ((kX4_workOut).2.2.2.1).all (fun l => l.all (dk false (none) prog_6_method_4_code)) = true := by decide +kernel
theorem dk_15 : ((kX4_goal).2.2.2.1).all (fun l => l.all (dk false (some .int) prog_6_method_5_code)) = true := by decide +kernel
theorem dk_16 : ((kX4_measure).2.2.2.1).all (fun l => l.all (dk false (none) prog_6_method_6_code)) = true := by decide +kernel
theorem dk_17 : ((kX4_findFirst).2.2.2.1).all (fun l => l.all (dk false (none) prog_6_method_7_code)) = true := by decide +kernel
theorem dk_18 : ((kX4_compare).2.2.2.1).all (fun l => l.all (dk false (some .int) prog_6_method_8_code)) = true := by decide +kernel
theorem dk_19 : ((kX4_failSwaps).2.2.2.1).all (fun l => l.all (dk false (none) prog_6_method_9_code)) = true := by decide +kernel
theorem dk_20 : ((kX4_failBlocked).2.2.2.1).all (fun l => l.all (dk true (some .boolean) prog_6_method_10_code)) = true := by decide +kernel
theorem dk_21 : ((kX4_goes).2.2.2.1).all (fun l => l.all (dk true (some .boolean) prog_6_method_11_code)) = true := by decide +kernel
theorem dk_22 : ((kX4_cellAfter).2.2.2.1).all (fun l => l.all (dk false (some .int) prog_6_method_12_code)) = true := by decide +kernel
theorem dk_23 : ((kX4_numberAfter).2.2.2.1).all (fun l => l.all (dk false (some .int) prog_6_method_13_code)) = true := by decide +kernel
theorem dk_24 : ((kX4_carryOut).2.2.2.1).all (fun l => l.all (dk false (none) prog_6_method_14_code)) = true := by decide +kernel
theorem dk_25 : ((kX6_goBack).2.2.2.1).all (fun l => l.all (dk false (none) prog_8_method_2_code)) = true := by decide +kernel
theorem dk_26 : ((kX6_isElsewhere).2.2.2.1).all (fun l => l.all (dk true (some .boolean) prog_8_method_3_code)) = true := by decide +kernel
theorem dk_27 : ((kX7_add).2.2.2.1).all (fun l => l.all (dk false (none) prog_9_method_2_code)) = true := by decide +kernel
theorem dk_28 : ((kX7_worth).2.2.2.1).all (fun l => l.all (dk false (some .int) prog_9_method_3_code)) = true := by decide +kernel
theorem dk_29 : ((kX7_joined).2.2.2.1).all (fun l => l.all (dk false (some .int) prog_9_method_4_code)) = true := by decide +kernel
theorem dk_30 : ((kX8_isRow).2.2.2.1).all (fun l => l.all (dk true (some .boolean) prog_10_method_2_code)) = true := by decide +kernel
theorem dk_31 : ((kX8_becomeRow).2.2.2.1).all (fun l => l.all (dk false (none) prog_10_method_3_code)) = true := by decide +kernel
theorem dk_32 : ((kX8_refusal).2.2.2.1).all (fun l => l.all (dk false (some .int) prog_10_method_4_code)) = true := by decide +kernel
theorem dk_33 : ((kX8_hasRun).2.2.2.1).all (fun l => l.all (dk true (some .boolean) prog_10_method_5_code)) = true := by decide +kernel
theorem dk_34 : ((kX8_cut).2.2.2.1).all (fun l => l.all (dk false (some .long) prog_10_method_6_code)) = true := by decide +kernel
theorem dk_35 : ((kX9_add).2.2.2.1).all (fun l => l.all (dk false (none) prog_11_method_2_code)) = true := by decide +kernel
theorem dk_36 : ((kX9_next).2.2.2.1).all (fun l => l.all (dk false (some .int) prog_11_method_3_code)) = true := by decide +kernel
theorem dk_37 : ((kX9_compile).2.2.2.1).all (fun l => l.all (dk false (some .int) prog_11_method_4_code)) = true := by decide +kernel
theorem dk_38 : ((kX9_line).2.2.2.1).all (fun l => l.all (dk true (some .boolean) prog_11_method_5_code)) = true := by decide +kernel
theorem dk_39 : ((kX9_either).2.2.2.1).all (fun l => l.all (dk true (some .boolean) prog_11_method_6_code)) = true := by decide +kernel
theorem dk_40 : ((kX9_both).2.2.2.1).all (fun l => l.all (dk true (some .boolean) prog_11_method_7_code)) = true := by decide +kernel
theorem dk_41 : ((kX9_compared).2.2.2.1).all (fun l => l.all (dk true (some .boolean) prog_11_method_8_code)) = true := by decide +kernel
theorem dk_42 : ((kX9_sum).2.2.2.1).all (fun l => l.all (dk true (some .boolean) prog_11_method_9_code)) = true := by decide +kernel
theorem dk_43 : ((kX9_product).2.2.2.1).all (fun l => l.all (dk true (some .boolean) prog_11_method_10_code)) = true := by decide +kernel
theorem dk_44 : ((kX9_operand).2.2.2.1).all (fun l => l.all (dk true (some .boolean) prog_11_method_11_code)) = true := by decide +kernel
theorem dk_45 : ((kX9_number).2.2.2.1).all (fun l => l.all (dk false (none) prog_11_method_12_code)) = true := by decide +kernel
theorem dk_46 : ((kX9_name).2.2.2.1).all (fun l => l.all (dk true (some .boolean) prog_11_method_13_code)) = true := by decide +kernel
theorem dk_47 : ((kX10_tell).2.2.2.1).all (fun l => l.all (dk false (some .int) prog_12_method_2_code)) = true := by decide +kernel
theorem dk_48 : ((kX10_placeOf).2.2.2.1).all (fun l => l.all (dk false (some .int) prog_12_method_3_code)) = true := by decide +kernel
theorem dk_49 : ((kX10_rows).2.2.2.1).all (fun l => l.all (dk false (some .int) prog_12_method_4_code)) = true := by decide +kernel
theorem dk_50 : ((kX10_pick).2.2.2.1).all (fun l => l.all (dk false (none) prog_12_method_5_code)) = true := by decide +kernel
theorem dk_51 : ((kX10_pickDigits).2.2.2.1).all (fun l => l.all (dk true (some .boolean) prog_12_method_6_code)) = true := by decide +kernel
theorem dk_52 : ((kX10_choose).2.2.2.1).all (fun l => l.all (dk false (none) prog_12_method_7_code)) = true := by decide +kernel
theorem dk_53 : ((kX11_days).2.2.2.1).all (fun l => l.all (dk false (some .int) prog_1_method_2_code)) = true := by decide +kernel
theorem dk_54 : ((kX11_game).2.2.2.1).all (fun l => l.all (dk false (some .int) prog_1_method_3_code)) = true := by decide +kernel
theorem dk_55 : ((kX11_cell).2.2.2.1).all (fun l => l.all (dk false (some .int) prog_1_method_4_code)) = true := by decide +kernel
theorem dk_56 : ((kX11_holder).2.2.2.1).all (fun l => l.all (dk false (some .int) prog_1_method_5_code)) = true := by decide +kernel
theorem dk_57 : ((kX11_runs).2.2.2.1).all (fun l => l.all (dk false (some .int) prog_1_method_6_code)) = true := by decide +kernel
theorem dk_58 : ((kX11_drops).2.2.2.1).all (fun l => l.all (dk false (some .int) prog_1_method_7_code)) = true := by decide +kernel
theorem dk_59 : ((kX11_piece).2.2.2.1).all (fun l => l.all (dk false (some .int) prog_1_method_8_code)) = true := by decide +kernel
theorem dk_60 : ((kX11_ofPiece).2.2.2.1).all (fun l => l.all (dk false (some .int) prog_1_method_9_code)) = true := by decide +kernel
theorem dk_61 : ((kX11_ofHolder).2.2.2.1).all (fun l => l.all (dk false (some .int) prog_1_method_10_code)) = true := by decide +kernel
theorem dk_62 : ((kX11_ofGame).2.2.2.1).all (fun l => l.all (dk false (some .int) prog_1_method_11_code)) = true := by decide +kernel
theorem dk_63 : ((kX11_isGame).2.2.2.1).all (fun l => l.all (dk true (some .boolean) prog_1_method_12_code)) = true := by decide +kernel
theorem dk_64 : ((kX11_isHolder).2.2.2.1).all (fun l => l.all (dk true (some .boolean) prog_1_method_13_code)) = true := by decide +kernel
theorem dk_65 : ((kX11_isPiece).2.2.2.1).all (fun l => l.all (dk true (some .boolean) prog_1_method_14_code)) = true := by decide +kernel
theorem dk_66 : ((kX11_isCard).2.2.2.1).all (fun l => l.all (dk true (some .boolean) prog_1_method_15_code)) = true := by decide +kernel
theorem dk_67 : ((kX11_isOrder).2.2.2.1).all (fun l => l.all (dk true (some .boolean) prog_1_method_16_code)) = true := by decide +kernel
theorem dk_68 : ((kX11_isCell).2.2.2.1).all (fun l => l.all (dk true (some .boolean) prog_1_method_17_code)) = true := by decide +kernel
theorem dk_69 : ((kX11_isTurn).2.2.2.1).all (fun l => l.all (dk true (some .boolean) prog_1_method_18_code)) = true := by decide +kernel
theorem dk_70 : ((kX11_isShelf).2.2.2.1).all (fun l => l.all (dk true (some .boolean) prog_1_method_19_code)) = true := by decide +kernel
theorem dk_71 : ((kX11_distance).2.2.2.1).all (fun l => l.all (dk false (some .int) prog_1_method_20_code)) = true := by decide +kernel
theorem dk_72 : ((kX11_pieceIn).2.2.2.1).all (fun l => l.all (dk false (some .int) prog_1_method_21_code)) = true := by decide +kernel
theorem dk_73 : ((kX11_piecesOf).2.2.2.1).all (fun l => l.all (dk false (some .int) prog_1_method_22_code)) = true := by decide +kernel
theorem dk_74 : ((kX11_feed).2.2.2.1).all (fun l => l.all (dk false (some .int) prog_1_method_23_code)) = true := by decide +kernel
theorem dk_75 : ((kX11_rule).2.2.2.1).all (fun l => l.all (dk false (some .int) prog_1_method_24_code)) = true := by decide +kernel
theorem dk_76 : ((kX11_inForce).2.2.2.1).all (fun l => l.all (dk false (some .int) prog_1_method_25_code)) = true := by decide +kernel
theorem dk_77 : ((kX11_says).2.2.2.1).all (fun l => l.all (dk false (some .int) prog_1_method_26_code)) = true := by decide +kernel
theorem dk_78 : ((kX11_drawn).2.2.2.1).all (fun l => l.all (dk false (some .int) prog_1_method_27_code)) = true := by decide +kernel
theorem dk_79 : ((kX11_isRuled).2.2.2.1).all (fun l => l.all (dk true (some .boolean) prog_1_method_28_code)) = true := by decide +kernel
theorem dk_80 : ((kX11_ruleIn).2.2.2.1).all (fun l => l.all (dk false (some .int) prog_1_method_29_code)) = true := by decide +kernel
theorem dk_81 : ((kX11_drawnFor).2.2.2.1).all (fun l => l.all (dk false (some .int) prog_1_method_30_code)) = true := by decide +kernel
theorem dk_82 : ((kX11_clearNames).2.2.2.1).all (fun l => l.all (dk false (none) prog_1_method_31_code)) = true := by decide +kernel
theorem dk_83 : ((kX11_namePiece).2.2.2.1).all (fun l => l.all (dk false (none) prog_1_method_32_code)) = true := by decide +kernel
theorem dk_84 : ((kX11_mayBe).2.2.2.1).all (fun l => l.all (dk true (some .boolean) prog_1_method_33_code)) = true := by decide +kernel
theorem dk_85 : ((kX11_tieOf).2.2.2.1).all (fun l => l.all (dk false (some .int) prog_1_method_34_code)) = true := by decide +kernel
theorem dk_86 : ((kX11_sightOf).2.2.2.1).all (fun l => l.all (dk false (some .int) prog_1_method_35_code)) = true := by decide +kernel
theorem dk_87 : ((kX11_feeOf).2.2.2.1).all (fun l => l.all (dk false (some .int) prog_1_method_36_code)) = true := by decide +kernel
theorem dk_88 : ((kX11_within).2.2.2.1).all (fun l => l.all (dk false (some .int) prog_1_method_37_code)) = true := by decide +kernel
theorem dk_89 : ((kX11_card).2.2.2.1).all (fun l => l.all (dk false (some .int) prog_1_method_38_code)) = true := by decide +kernel
theorem dk_90 : ((kX11_ofCard).2.2.2.1).all (fun l => l.all (dk false (some .int) prog_1_method_39_code)) = true := by decide +kernel
theorem dk_91 : ((kX11_order).2.2.2.1).all (fun l => l.all (dk false (some .int) prog_1_method_40_code)) = true := by decide +kernel
theorem dk_92 : ((kX11_turn).2.2.2.1).all (fun l => l.all (dk false (some .int) prog_1_method_41_code)) = true := by decide +kernel
theorem dk_93 : ((kX11_ofOrder).2.2.2.1).all (fun l => l.all (dk false (some .int) prog_1_method_42_code)) = true := by decide +kernel
theorem dk_94 : ((kX11_read).2.2.2.1).all (fun l => l.all (dk false (some .int) prog_1_method_43_code)) = true := by decide +kernel
theorem dk_95 : ((kX11_orderOf).2.2.2.1).all (fun l => l.all (dk false (some .int) prog_1_method_44_code)) = true := by decide +kernel
theorem dk_96 : ((kX11_isSound).2.2.2.1).all (fun l => l.all (dk true (some .boolean) prog_1_method_45_code)) = true := by decide +kernel
theorem dk_97 : ((kX11_isKindTold).2.2.2.1).all (fun l => l.all (dk true (some .boolean) prog_1_method_46_code)) = true := by decide +kernel
theorem dk_98 : ((kX11_addOrder).2.2.2.1).all (fun l => l.all (dk false (none) prog_1_method_47_code)) = true := by decide +kernel
theorem dk_99 : ((kX11_readFour).2.2.2.1).all (fun l => l.all (dk false (none) prog_1_method_48_code)) = true := by decide +kernel
theorem dk_100 : ((kX11_cardCounts).2.2.2.1).all (fun l => l.all (dk true (some .boolean) prog_1_method_49_code)) = true := by decide +kernel
theorem dk_101 : ((kX11_canBe).2.2.2.1).all (fun l => l.all (dk true (some .boolean) prog_1_method_50_code)) = true := by decide +kernel
theorem dk_102 : ((kX11_isOfTurn).2.2.2.1).all (fun l => l.all (dk true (some .boolean) prog_1_method_51_code)) = true := by decide +kernel
theorem dk_103 : ((kX11_fits).2.2.2.1).all (fun l => l.all (dk true (some .boolean) prog_1_method_52_code)) = true := by decide +kernel
theorem dk_104 : ((kX11_holdsGood).2.2.2.1).all (fun l => l.all (dk true (some .boolean) prog_1_method_53_code)) = true := by decide +kernel
theorem dk_105 : ((kX11_done).2.2.2.1).all (fun l => l.all (dk false (some .int) prog_1_method_54_code)) = true := by decide +kernel
theorem dk_106 : ((kX11_again).2.2.2.1).all (fun l => l.all (dk false (some .int) prog_1_method_55_code)) = true := by decide +kernel
theorem dk_107 : ((kX11_was).2.2.2.1).all (fun l => l.all (dk false (some .int) prog_1_method_56_code)) = true := by decide +kernel
theorem dk_108 : ((kX11_doTurn).2.2.2.1).all (fun l => l.all (dk false (none) prog_1_method_57_code)) = true := by decide +kernel
theorem dk_109 : ((kX11_giveOrders).2.2.2.1).all (fun l => l.all (dk false (none) prog_1_method_58_code)) = true := by decide +kernel
theorem dk_110 : ((kX11_playsIn).2.2.2.1).all (fun l => l.all (dk true (some .boolean) prog_1_method_59_code)) = true := by decide +kernel
theorem dk_111 : ((kX11_settle).2.2.2.1).all (fun l => l.all (dk false (none) prog_1_method_60_code)) = true := by decide +kernel
theorem dk_112 : ((kX11_coinsAfter).2.2.2.1).all (fun l => l.all (dk false (some .int) prog_1_method_61_code)) = true := by decide +kernel
theorem dk_113 : ((kX11_sees).2.2.2.1).all (fun l => l.all (dk false (some .int) prog_1_method_62_code)) = true := by decide +kernel
theorem dk_114 : ((kX11_alike).2.2.2.1).all (fun l => l.all (dk false (some .int) prog_1_method_63_code)) = true := by decide +kernel
theorem dk_115 : ((kX11_sheetOf).2.2.2.1).all (fun l => l.all (dk false (some .long) prog_1_method_64_code)) = true := by decide +kernel
theorem dk_116 : ((kX11_way).2.2.2.1).all (fun l => l.all (dk false (some .int) prog_1_method_65_code)) = true := by decide +kernel
theorem dk_117 : ((kX11_best).2.2.2.1).all (fun l => l.all (dk false (some .int) prog_1_method_66_code)) = true := by decide +kernel
theorem dk_118 : ((kX11_bestWay).2.2.2.1).all (fun l => l.all (dk false (some .int) prog_1_method_67_code)) = true := by decide +kernel
theorem dk_119 : ((kX11_judge).2.2.2.1).all (fun l => l.all (dk false (some .int) prog_1_method_68_code)) = true := by decide +kernel
theorem dk_120 : ((kX11_canJudge).2.2.2.1).all (fun l => l.all (dk true (some .boolean) prog_1_method_69_code)) = true := by decide +kernel
theorem dk_121 : ((kX11_readyWays).2.2.2.1).all (fun l => l.all (dk false (none) prog_1_method_70_code)) = true := by decide +kernel
theorem dk_122 : ((kX11_playRow).2.2.2.1).all (fun l => l.all (dk false (some .int) prog_1_method_71_code)) = true := by decide +kernel
theorem dk_123 : ((kX11_pay).2.2.2.1).all (fun l => l.all (dk false (some .int) prog_1_method_72_code)) = true := by decide +kernel
theorem dk_124 : ((kX11_bar).2.2.2.1).all (fun l => l.all (dk false (some .int) prog_1_method_73_code)) = true := by decide +kernel
theorem dk_125 : ((kX11_act).2.2.2.1).all (fun l => l.all (dk false (some .int) prog_1_method_74_code)) = true := by decide +kernel
theorem dk_126 : ((kX11_trace).2.2.2.1).all (fun l => l.all (dk false (some .int) prog_1_method_75_code)) = true := by decide +kernel
theorem dk_127 : ((kX11_keep).2.2.2.1).all (fun l => l.all (dk false (some .int) prog_1_method_76_code)) = true := by decide +kernel
theorem dk_128 : ((kX11_row).2.2.2.1).all (fun l => l.all (dk false (some .int) prog_1_method_77_code)) = true := by decide +kernel
theorem dk_129 : ((kX11_put).2.2.2.1).all (fun l => l.all (dk false (some .int) prog_1_method_78_code)) = true := by decide +kernel
theorem dk_130 : ((kX11_element).2.2.2.1).all (fun l => l.all (dk false (some .long) prog_1_method_79_code)) = true := by decide +kernel
theorem dk_131 : ((kX11_shift).2.2.2.1).all (fun l => l.all (dk false (some .int) prog_1_method_80_code)) = true := by decide +kernel
theorem dk_132 : ((kX11_taken).2.2.2.1).all (fun l => l.all (dk false (some .int) prog_1_method_81_code)) = true := by decide +kernel
theorem dk_133 : ((kX11_check).2.2.2.1).all (fun l => l.all (dk false (some .int) prog_1_method_82_code)) = true := by decide +kernel
theorem dk_134 : ((kX11_count).2.2.2.1).all (fun l => l.all (dk false (some .int) prog_1_method_83_code)) = true := by decide +kernel
theorem dk_135 : ((kX11_piecesThere).2.2.2.1).all (fun l => l.all (dk false (some .int) prog_1_method_84_code)) = true := by decide +kernel
theorem dk_136 : ((kX11_isUnder).2.2.2.1).all (fun l => l.all (dk true (some .boolean) prog_1_method_85_code)) = true := by decide +kernel
theorem dk_137 : ((kX11_isBalanced).2.2.2.1).all (fun l => l.all (dk true (some .boolean) prog_1_method_86_code)) = true := by decide +kernel
theorem dk_138 : ((kX12_within).2.2.2.1).all (fun l => l.all (dk true (some .boolean) prog_14_method_2_code)) = true := by decide +kernel
theorem dk_139 : ((kX12_isGame).2.2.2.1).all (fun l => l.all (dk true (some .boolean) prog_14_method_3_code)) = true := by decide +kernel
theorem dk_140 : ((kX12_isHolder).2.2.2.1).all (fun l => l.all (dk true (some .boolean) prog_14_method_4_code)) = true := by decide +kernel
theorem dk_141 : ((kX12_isPiece).2.2.2.1).all (fun l => l.all (dk true (some .boolean) prog_14_method_5_code)) = true := by decide +kernel
theorem dk_142 : ((kX12_isCell).2.2.2.1).all (fun l => l.all (dk true (some .boolean) prog_14_method_6_code)) = true := by decide +kernel
theorem dk_143 : ((kX12_size).2.2.2.1).all (fun l => l.all (dk false (some .int) prog_14_method_7_code)) = true := by decide +kernel
theorem dk_144 : ((kX12_wayOf).2.2.2.1).all (fun l => l.all (dk false (some .int) prog_14_method_8_code)) = true := by decide +kernel
theorem dk_145 : ((kX12_gameOf).2.2.2.1).all (fun l => l.all (dk false (some .int) prog_14_method_9_code)) = true := by decide +kernel
theorem dk_146 : ((kX12_days).2.2.2.1).all (fun l => l.all (dk false (some .int) prog_14_method_10_code)) = true := by decide +kernel
theorem dk_147 : ((kX12_game).2.2.2.1).all (fun l => l.all (dk false (some .int) prog_14_method_11_code)) = true := by decide +kernel
theorem dk_148 : ((kX12_pieceAt).2.2.2.1).all (fun l => l.all (dk false (some .int) prog_14_method_12_code)) = true := by decide +kernel
theorem dk_149 : ((kX12_cell).2.2.2.1).all (fun l => l.all (dk false (some .int) prog_14_method_13_code)) = true := by decide +kernel
theorem dk_150 : ((kX12_holder).2.2.2.1).all (fun l => l.all (dk false (some .int) prog_14_method_14_code)) = true := by decide +kernel
theorem dk_151 : ((kX12_runs).2.2.2.1).all (fun l => l.all (dk false (some .int) prog_14_method_15_code)) = true := by decide +kernel
theorem dk_152 : ((kX12_drops).2.2.2.1).all (fun l => l.all (dk false (some .int) prog_14_method_16_code)) = true := by decide +kernel
theorem dk_153 : ((kX12_piece).2.2.2.1).all (fun l => l.all (dk false (some .int) prog_14_method_17_code)) = true := by decide +kernel
theorem dk_154 : ((kX12_ofPiece).2.2.2.1).all (fun l => l.all (dk false (some .int) prog_14_method_18_code)) = true := by decide +kernel
theorem dk_155 : ((kX12_standing).2.2.2.1).all (fun l => l.all (dk false (some .int) prog_14_method_19_code)) = true := by decide +kernel
theorem dk_156 : ((kX12_owed).2.2.2.1).all (fun l => l.all (dk false (some .int) prog_14_method_20_code)) = true := by decide +kernel
theorem dk_157 : ((kX12_ofHolder).2.2.2.1).all (fun l => l.all (dk false (some .int) prog_14_method_21_code)) = true := by decide +kernel
theorem dk_158 : ((kX12_dueOn).2.2.2.1).all (fun l => l.all (dk false (some .int) prog_14_method_22_code)) = true := by decide +kernel
theorem dk_159 : ((kX12_ofGame).2.2.2.1).all (fun l => l.all (dk false (some .int) prog_14_method_23_code)) = true := by decide +kernel
theorem dk_160 : ((kX12_feed).2.2.2.1).all (fun l => l.all (dk false (some .int) prog_14_method_24_code)) = true := by decide +kernel
theorem dk_161 : ((kX12_byteAt).2.2.2.1).all (fun l => l.all (dk false (some .int) prog_14_method_25_code)) = true := by decide +kernel
theorem dk_162 : ((kX12_wrong).2.2.2.1).all (fun l => l.all (dk false (some .int) prog_14_method_26_code)) = true := by decide +kernel
theorem dk_163 : ((kX12_takes).2.2.2.1).all (fun l => l.all (dk true (some .boolean) prog_14_method_27_code)) = true := by decide +kernel
theorem dk_164 : ((kX12_either).2.2.2.1).all (fun l => l.all (dk false (some .int) prog_14_method_28_code)) = true := by decide +kernel
theorem dk_165 : ((kX12_both).2.2.2.1).all (fun l => l.all (dk false (some .int) prog_14_method_29_code)) = true := by decide +kernel
theorem dk_166 : ((kX12_compared).2.2.2.1).all (fun l => l.all (dk false (some .int) prog_14_method_30_code)) = true := by decide +kernel
theorem dk_167 : ((kX12_sums).2.2.2.1).all (fun l => l.all (dk false (some .int) prog_14_method_31_code)) = true := by decide +kernel
theorem dk_168 : ((kX12_product).2.2.2.1).all (fun l => l.all (dk false (some .int) prog_14_method_32_code)) = true := by decide +kernel
theorem dk_169 : ((kX12_nameOf).2.2.2.1).all (fun l => l.all (dk false (some .int) prog_14_method_33_code)) = true := by decide +kernel
theorem dk_170 : ((kX12_one).2.2.2.1).all (fun l => l.all (dk false (some .int) prog_14_method_34_code)) = true := by decide +kernel
theorem dk_171 : ((kX12_workOut).2.2.2.1).all (fun l => l.all (dk false (some .int) prog_14_method_35_code)) = true := by decide +kernel
theorem dk_172 : ((kX12_isWhat).2.2.2.1).all (fun l => l.all (dk true (some .boolean) prog_14_method_36_code)) = true := by decide +kernel
theorem dk_173 : ((kX12_isTurn).2.2.2.1).all (fun l => l.all (dk true (some .boolean) prog_14_method_37_code)) = true := by decide +kernel
theorem dk_174 : ((kX12_rule).2.2.2.1).all (fun l => l.all (dk false (some .int) prog_14_method_38_code)) = true := by decide +kernel
theorem dk_175 : ((kX12_ruleFor).2.2.2.1).all (fun l => l.all (dk false (some .int) prog_14_method_39_code)) = true := by decide +kernel
theorem dk_176 : ((kX12_inForce).2.2.2.1).all (fun l => l.all (dk false (some .int) prog_14_method_40_code)) = true := by decide +kernel
theorem dk_177 : ((kX12_gives).2.2.2.1).all (fun l => l.all (dk false (some .int) prog_14_method_41_code)) = true := by decide +kernel
theorem dk_178 : ((kX12_held).2.2.2.1).all (fun l => l.all (dk false (some .int) prog_14_method_42_code)) = true := by decide +kernel
theorem dk_179 : ((kX12_noNames).2.2.2.1).all (fun l => l.all (dk false (none) prog_14_method_43_code)) = true := by decide +kernel
theorem dk_180 : ((kX12_nameOrder).2.2.2.1).all (fun l => l.all (dk false (none) prog_14_method_44_code)) = true := by decide +kernel
theorem dk_181 : ((kX12_sightOf).2.2.2.1).all (fun l => l.all (dk false (some .int) prog_14_method_45_code)) = true := by decide +kernel
theorem dk_182 : ((kX12_feeOf).2.2.2.1).all (fun l => l.all (dk false (some .int) prog_14_method_46_code)) = true := by decide +kernel
theorem dk_183 : ((kX12_says).2.2.2.1).all (fun l => l.all (dk false (some .int) prog_14_method_47_code)) = true := by decide +kernel
theorem dk_184 : ((kX12_drawnFor).2.2.2.1).all (fun l => l.all (dk false (some .int) prog_14_method_48_code)) = true := by decide +kernel
theorem dk_185 : ((kX12_drawn).2.2.2.1).all (fun l => l.all (dk false (some .int) prog_14_method_49_code)) = true := by decide +kernel
theorem dk_186 : ((kX12_card).2.2.2.1).all (fun l => l.all (dk false (some .int) prog_14_method_50_code)) = true := by decide +kernel
theorem dk_187 : ((kX12_isCard).2.2.2.1).all (fun l => l.all (dk true (some .boolean) prog_14_method_51_code)) = true := by decide +kernel
theorem dk_188 : ((kX12_isLate).2.2.2.1).all (fun l => l.all (dk true (some .boolean) prog_14_method_52_code)) = true := by decide +kernel
theorem dk_189 : ((kX12_counts).2.2.2.1).all (fun l => l.all (dk true (some .boolean) prog_14_method_53_code)) = true := by decide +kernel
theorem dk_190 : ((kX12_ofCard).2.2.2.1).all (fun l => l.all (dk false (some .int) prog_14_method_54_code)) = true := by decide +kernel
theorem dk_191 : ((kX12_add).2.2.2.1).all (fun l => l.all (dk false (some .int) prog_14_method_55_code)) = true := by decide +kernel
theorem dk_192 : ((kX12_isSaid).2.2.2.1).all (fun l => l.all (dk true (some .boolean) prog_14_method_56_code)) = true := by decide +kernel
theorem dk_193 : ((kX12_order).2.2.2.1).all (fun l => l.all (dk false (some .int) prog_14_method_57_code)) = true := by decide +kernel
theorem dk_194 : ((kX12_isOrder).2.2.2.1).all (fun l => l.all (dk true (some .boolean) prog_14_method_58_code)) = true := by decide +kernel
theorem dk_195 : ((kX12_turn).2.2.2.1).all (fun l => l.all (dk false (some .int) prog_14_method_59_code)) = true := by decide +kernel
theorem dk_196 : ((kX12_ofOrder).2.2.2.1).all (fun l => l.all (dk false (some .int) prog_14_method_60_code)) = true := by decide +kernel
theorem dk_197 : ((kX12_read).2.2.2.1).all (fun l => l.all (dk false (some .int) prog_14_method_61_code)) = true := by decide +kernel
theorem dk_198 : ((kX12_isBeside).2.2.2.1).all (fun l => l.all (dk true (some .boolean) prog_14_method_62_code)) = true := by decide +kernel
theorem dk_199 : ((kX12_canBe).2.2.2.1).all (fun l => l.all (dk true (some .boolean) prog_14_method_63_code)) = true := by decide +kernel
theorem dk_200 : ((kX12_mayBe).2.2.2.1).all (fun l => l.all (dk true (some .boolean) prog_14_method_64_code)) = true := by decide +kernel
theorem dk_201 : ((kX12_isFor).2.2.2.1).all (fun l => l.all (dk true (some .boolean) prog_14_method_65_code)) = true := by decide +kernel
theorem dk_202 : ((kX12_isOrderly).2.2.2.1).all (fun l => l.all (dk true (some .boolean) prog_14_method_66_code)) = true := by decide +kernel
theorem dk_203 : ((kX12_orderFor).2.2.2.1).all (fun l => l.all (dk false (some .int) prog_14_method_67_code)) = true := by decide +kernel
theorem dk_204 : ((kX12_orderOf).2.2.2.1).all (fun l => l.all (dk false (some .int) prog_14_method_68_code)) = true := by decide +kernel
theorem dk_205 : ((kX12_isIn).2.2.2.1).all (fun l => l.all (dk true (some .boolean) prog_14_method_69_code)) = true := by decide +kernel
theorem dk_206 : ((kX12_findOrders).2.2.2.1).all (fun l => l.all (dk false (none) prog_14_method_70_code)) = true := by decide +kernel
theorem dk_207 : ((kX12_isCut).2.2.2.1).all (fun l => l.all (dk true (some .boolean) prog_14_method_71_code)) = true := by decide +kernel
theorem dk_208 : ((kX12_findStrengths).2.2.2.1).all (fun l => l.all (dk false (none) prog_14_method_72_code)) = true := by decide +kernel
theorem dk_209 : ((kX12_moves).2.2.2.1).all (fun l => l.all (dk true (some .boolean) prog_14_method_73_code)) = true := by decide +kernel
theorem dk_210 : ((kX12_findFailed).2.2.2.1).all (fun l => l.all (dk false (none) prog_14_method_74_code)) = true := by decide +kernel
theorem dk_211 : ((kX12_goThrough).2.2.2.1).all (fun l => l.all (dk false (none) prog_14_method_75_code)) = true := by decide +kernel
theorem dk_212 : ((kX12_doTurn).2.2.2.1).all (fun l => l.all (dk false (none) prog_14_method_76_code)) = true := by decide +kernel
theorem dk_213 : ((kX12_done).2.2.2.1).all (fun l => l.all (dk false (some .int) prog_14_method_77_code)) = true := by decide +kernel
theorem dk_214 : ((kX12_again).2.2.2.1).all (fun l => l.all (dk false (some .int) prog_14_method_78_code)) = true := by decide +kernel
theorem dk_215 : ((kX12_lastCell).2.2.2.1).all (fun l => l.all (dk false (some .int) prog_14_method_79_code)) = true := by decide +kernel
theorem dk_216 : ((kX12_was).2.2.2.1).all (fun l => l.all (dk false (some .int) prog_14_method_80_code)) = true := by decide +kernel
theorem dk_217 : ((kX12_seesIn).2.2.2.1).all (fun l => l.all (dk true (some .boolean) prog_14_method_81_code)) = true := by decide +kernel
theorem dk_218 : ((kX12_sees).2.2.2.1).all (fun l => l.all (dk false (some .int) prog_14_method_82_code)) = true := by decide +kernel
theorem dk_219 : ((kX12_alike).2.2.2.1).all (fun l => l.all (dk false (some .int) prog_14_method_83_code)) = true := by decide +kernel
theorem dk_220 : ((kX12_way).2.2.2.1).all (fun l => l.all (dk false (some .int) prog_14_method_84_code)) = true := by decide +kernel
theorem dk_221 : ((kX12_coinsBy).2.2.2.1).all (fun l => l.all (dk false (some .int) prog_14_method_85_code)) = true := by decide +kernel
theorem dk_222 : ((kX12_isRow).2.2.2.1).all (fun l => l.all (dk true (some .boolean) prog_14_method_86_code)) = true := by decide +kernel
theorem dk_223 : ((kX12_noRow).2.2.2.1).all (fun l => l.all (dk true (some .boolean) prog_14_method_87_code)) = true := by decide +kernel
theorem dk_224 : ((kX12_best).2.2.2.1).all (fun l => l.all (dk false (some .int) prog_14_method_88_code)) = true := by decide +kernel
theorem dk_225 : ((kX12_bestWay).2.2.2.1).all (fun l => l.all (dk false (some .int) prog_14_method_89_code)) = true := by decide +kernel
theorem dk_226 : ((kX12_judge).2.2.2.1).all (fun l => l.all (dk false (some .int) prog_14_method_90_code)) = true := by decide +kernel
theorem dk_227 : ((kX12_pay).2.2.2.1).all (fun l => l.all (dk false (some .int) prog_14_method_91_code)) = true := by decide +kernel
theorem dk_228 : ((kX12_bar).2.2.2.1).all (fun l => l.all (dk false (some .int) prog_14_method_92_code)) = true := by decide +kernel
theorem dk_229 : ((kX12_above).2.2.2.1).all (fun l => l.all (dk false (some .int) prog_14_method_93_code)) = true := by decide +kernel
theorem dk_230 : ((kX12_ranBody).2.2.2.1).all (fun l => l.all (dk false (none) prog_14_method_94_code)) = true := by decide +kernel
theorem dk_231 : ((kX12_means).2.2.2.1).all (fun l => l.all (dk false (some .int) prog_14_method_95_code)) = true := by decide +kernel
theorem dk_232 : ((kX12_clashes).2.2.2.1).all (fun l => l.all (dk false (some .int) prog_14_method_96_code)) = true := by decide +kernel
theorem dk_233 : ((kX12_hides).2.2.2.1).all (fun l => l.all (dk false (some .int) prog_14_method_97_code)) = true := by decide +kernel
theorem dk_234 : ((kX12_endsOf).2.2.2.1).all (fun l => l.all (dk false (some .int) prog_14_method_98_code)) = true := by decide +kernel
theorem dk_235 : ((kX12_act).2.2.2.1).all (fun l => l.all (dk false (some .int) prog_14_method_99_code)) = true := by decide +kernel
theorem dk_236 : ((kX12_trace).2.2.2.1).all (fun l => l.all (dk false (some .int) prog_14_method_100_code)) = true := by decide +kernel
theorem dk_237 : ((kX12_isShelf).2.2.2.1).all (fun l => l.all (dk true (some .boolean) prog_14_method_101_code)) = true := by decide +kernel
theorem dk_238 : ((kX12_keep).2.2.2.1).all (fun l => l.all (dk false (some .int) prog_14_method_102_code)) = true := by decide +kernel
theorem dk_239 : ((kX12_row).2.2.2.1).all (fun l => l.all (dk false (some .int) prog_14_method_103_code)) = true := by decide +kernel
theorem dk_240 : ((kX12_refusal).2.2.2.1).all (fun l => l.all (dk false (some .int) prog_14_method_104_code)) = true := by decide +kernel
theorem dk_241 : ((kX12_asSort).2.2.2.1).all (fun l => l.all (dk false (some .long) prog_14_method_105_code)) = true := by decide +kernel
theorem dk_242 : ((kX12_put).2.2.2.1).all (fun l => l.all (dk false (some .int) prog_14_method_106_code)) = true := by decide +kernel
theorem dk_243 : ((kX12_element).2.2.2.1).all (fun l => l.all (dk false (some .long) prog_14_method_107_code)) = true := by decide +kernel
theorem dk_244 : ((kX12_shift).2.2.2.1).all (fun l => l.all (dk false (some .int) prog_14_method_108_code)) = true := by decide +kernel
theorem dk_245 : ((kX12_taken).2.2.2.1).all (fun l => l.all (dk false (some .int) prog_14_method_109_code)) = true := by decide +kernel
theorem dk_246 : ((kX12_check).2.2.2.1).all (fun l => l.all (dk false (some .int) prog_14_method_110_code)) = true := by decide +kernel
theorem dk_247 : ((kX12_count).2.2.2.1).all (fun l => l.all (dk false (some .int) prog_14_method_111_code)) = true := by decide +kernel
theorem dk_248 : ((kJ6_compare).2.2.2.1).all (fun l => l.all (dk false (some .int) prog_16_method_40_code)) = true := by decide +kernel
theorem dk_249 : ((kJ13_bitCount).2.2.2.1).all (fun l => l.all (dk false (some .int) prog_17_method_50_code)) = true := by decide +kernel
theorem dk_250 : ((kJ9_abs).2.2.2.1).all (fun l => l.all (dk false (some .int) prog_18_method_59_code)) = true := by decide +kernel
theorem dk_251 : ((kJ9_max).2.2.2.1).all (fun l => l.all (dk false (some .int) prog_18_method_65_code)) = true := by decide +kernel
theorem dk_252 : ((kJ9_min).2.2.2.1).all (fun l => l.all (dk false (some .int) prog_18_method_69_code)) = true := by decide +kernel
theorem dk_253 : ((kJ0_indexOf).2.2.2.1).all (fun l => l.all (dk false (some .int) prog_19_method_79_code)) = true := by decide +kernel
theorem dk_254 : ((kJ0_indexOf_2).2.2.2.1).all (fun l => l.all (dk false (some .int) prog_19_method_80_code)) = true := by decide +kernel
theorem dk_255 : ((kJ0_isLatin1).2.2.2.1).all (fun l => l.all (dk true (some .boolean) prog_19_method_154_code)) = true := by decide +kernel
theorem dk_256 : ((kJ0_length).2.2.2.1).all (fun l => l.all (dk false (some .int) prog_19_method_54_code)) = true := by decide +kernel
theorem dk_257 : ((kJ0_coder).2.2.2.1).all (fun l => l.all (dk true (some .byte) prog_19_method_152_code)) = true := by decide +kernel
theorem dk_258 : ((kJ1_canEncode).2.2.2.1).all (fun l => l.all (dk true (some .boolean) prog_20_method_4_code)) = true := by decide +kernel
theorem dk_259 : ((kJ1_indexOf).2.2.2.1).all (fun l => l.all (dk false (some .int) prog_20_method_22_code)) = true := by decide +kernel
theorem dk_260 : ((kJ1_indexOfChar).2.2.2.1).all (fun l => l.all (dk false (some .int) prog_20_method_23_code)) = true := by decide +kernel
def dkP (q : TMth) (w : MethodName × ByteArray × Nat × Option FieldType × Bool) : Prop := (q.2.2.2.1).all (fun l => l.all (dk q.2.1 w.2.2.2.1 w.2.1)) = true
theorem dkc {k : Nat} {q q2 : TMth} {w w2 : MethodName × ByteArray × Nat × Option FieldType × Bool} (h1 : mtb k = some q) (h2 : mI k = some w) (e1 : mtb k = some q2) (e2 : mI k = some w2) (h : dkP q2 w2) : dkP q w := by
  have a := Option.some.inj (h1.symm.trans e1)
  have b := Option.some.inj (h2.symm.trans e2)
  rw [a, b]
  exact h
theorem dk_all (k : Nat) (h : k < mIs.length) (q : TMth) (w : MethodName × ByteArray × Nat × Option FieldType × Bool) (h1 : mtb k = some q) (h2 : mI k = some w) : dkP q w := match k, h, h1, h2 with
  | 0, _, h1, h2 => dkc (q2 := kX0_begin) h1 h2 rfl rfl dk_0
  | 1, _, h1, h2 => dkc (q2 := kX0_of) h1 h2 rfl rfl dk_1
  | 2, _, h1, h2 => dkc (q2 := kX0_began) h1 h2 rfl rfl dk_2
  | 3, _, h1, h2 => dkc (q2 := kX0_run) h1 h2 rfl rfl dk_3
  | 4, _, h1, h2 => dkc (q2 := kX0_means) h1 h2 rfl rfl dk_4
  | 5, _, h1, h2 => dkc (q2 := kX0_clashes) h1 h2 rfl rfl dk_5
  | 6, _, h1, h2 => dkc (q2 := kX0_hides) h1 h2 rfl rfl dk_6
  | 7, _, h1, h2 => dkc (q2 := kX0_ends) h1 h2 rfl rfl dk_7
  | 8, _, h1, h2 => dkc (q2 := kX1_late) h1 h2 rfl rfl dk_8
  | 9, _, h1, h2 => dkc (q2 := kX2_due) h1 h2 rfl rfl dk_9
  | 10, _, h1, h2 => dkc (q2 := kX2_firstDue) h1 h2 rfl rfl dk_10
  | 11, _, h1, h2 => dkc (q2 := kX3_owed) h1 h2 rfl rfl dk_11
  | 12, _, h1, h2 => dkc (q2 := kX4_begin) h1 h2 rfl rfl dk_12
  | 13, _, h1, h2 => dkc (q2 := kX4_give) h1 h2 rfl rfl dk_13
  | 14, _, h1, h2 => dkc (q2 := kX4_workOut) h1 h2 rfl rfl dk_14
  | 15, _, h1, h2 => dkc (q2 := kX4_goal) h1 h2 rfl rfl dk_15
  | 16, _, h1, h2 => dkc (q2 := kX4_measure) h1 h2 rfl rfl dk_16
  | 17, _, h1, h2 => dkc (q2 := kX4_findFirst) h1 h2 rfl rfl dk_17
  | 18, _, h1, h2 => dkc (q2 := kX4_compare) h1 h2 rfl rfl dk_18
  | 19, _, h1, h2 => dkc (q2 := kX4_failSwaps) h1 h2 rfl rfl dk_19
  | 20, _, h1, h2 => dkc (q2 := kX4_failBlocked) h1 h2 rfl rfl dk_20
  | 21, _, h1, h2 => dkc (q2 := kX4_goes) h1 h2 rfl rfl dk_21
  | 22, _, h1, h2 => dkc (q2 := kX4_cellAfter) h1 h2 rfl rfl dk_22
  | 23, _, h1, h2 => dkc (q2 := kX4_numberAfter) h1 h2 rfl rfl dk_23
  | 24, _, h1, h2 => dkc (q2 := kX4_carryOut) h1 h2 rfl rfl dk_24
  | 25, _, h1, h2 => dkc (q2 := kX6_goBack) h1 h2 rfl rfl dk_25
  | 26, _, h1, h2 => dkc (q2 := kX6_isElsewhere) h1 h2 rfl rfl dk_26
  | 27, _, h1, h2 => dkc (q2 := kX7_add) h1 h2 rfl rfl dk_27
  | 28, _, h1, h2 => dkc (q2 := kX7_worth) h1 h2 rfl rfl dk_28
  | 29, _, h1, h2 => dkc (q2 := kX7_joined) h1 h2 rfl rfl dk_29
  | 30, _, h1, h2 => dkc (q2 := kX8_isRow) h1 h2 rfl rfl dk_30
  | 31, _, h1, h2 => dkc (q2 := kX8_becomeRow) h1 h2 rfl rfl dk_31
  | 32, _, h1, h2 => dkc (q2 := kX8_refusal) h1 h2 rfl rfl dk_32
  | 33, _, h1, h2 => dkc (q2 := kX8_hasRun) h1 h2 rfl rfl dk_33
  | 34, _, h1, h2 => dkc (q2 := kX8_cut) h1 h2 rfl rfl dk_34
  | 35, _, h1, h2 => dkc (q2 := kX9_add) h1 h2 rfl rfl dk_35
  | 36, _, h1, h2 => dkc (q2 := kX9_next) h1 h2 rfl rfl dk_36
  | 37, _, h1, h2 => dkc (q2 := kX9_compile) h1 h2 rfl rfl dk_37
  | 38, _, h1, h2 => dkc (q2 := kX9_line) h1 h2 rfl rfl dk_38
  | 39, _, h1, h2 => dkc (q2 := kX9_either) h1 h2 rfl rfl dk_39
  | 40, _, h1, h2 => dkc (q2 := kX9_both) h1 h2 rfl rfl dk_40
  | 41, _, h1, h2 => dkc (q2 := kX9_compared) h1 h2 rfl rfl dk_41
  | 42, _, h1, h2 => dkc (q2 := kX9_sum) h1 h2 rfl rfl dk_42
  | 43, _, h1, h2 => dkc (q2 := kX9_product) h1 h2 rfl rfl dk_43
  | 44, _, h1, h2 => dkc (q2 := kX9_operand) h1 h2 rfl rfl dk_44
  | 45, _, h1, h2 => dkc (q2 := kX9_number) h1 h2 rfl rfl dk_45
  | 46, _, h1, h2 => dkc (q2 := kX9_name) h1 h2 rfl rfl dk_46
  | 47, _, h1, h2 => dkc (q2 := kX10_tell) h1 h2 rfl rfl dk_47
  | 48, _, h1, h2 => dkc (q2 := kX10_placeOf) h1 h2 rfl rfl dk_48
  | 49, _, h1, h2 => dkc (q2 := kX10_rows) h1 h2 rfl rfl dk_49
  | 50, _, h1, h2 => dkc (q2 := kX10_pick) h1 h2 rfl rfl dk_50
  | 51, _, h1, h2 => dkc (q2 := kX10_pickDigits) h1 h2 rfl rfl dk_51
  | 52, _, h1, h2 => dkc (q2 := kX10_choose) h1 h2 rfl rfl dk_52
  | 53, _, h1, h2 => dkc (q2 := kX11_days) h1 h2 rfl rfl dk_53
  | 54, _, h1, h2 => dkc (q2 := kX11_game) h1 h2 rfl rfl dk_54
  | 55, _, h1, h2 => dkc (q2 := kX11_cell) h1 h2 rfl rfl dk_55
  | 56, _, h1, h2 => dkc (q2 := kX11_holder) h1 h2 rfl rfl dk_56
  | 57, _, h1, h2 => dkc (q2 := kX11_runs) h1 h2 rfl rfl dk_57
  | 58, _, h1, h2 => dkc (q2 := kX11_drops) h1 h2 rfl rfl dk_58
  | 59, _, h1, h2 => dkc (q2 := kX11_piece) h1 h2 rfl rfl dk_59
  | 60, _, h1, h2 => dkc (q2 := kX11_ofPiece) h1 h2 rfl rfl dk_60
  | 61, _, h1, h2 => dkc (q2 := kX11_ofHolder) h1 h2 rfl rfl dk_61
  | 62, _, h1, h2 => dkc (q2 := kX11_ofGame) h1 h2 rfl rfl dk_62
  | 63, _, h1, h2 => dkc (q2 := kX11_isGame) h1 h2 rfl rfl dk_63
  | 64, _, h1, h2 => dkc (q2 := kX11_isHolder) h1 h2 rfl rfl dk_64
  | 65, _, h1, h2 => dkc (q2 := kX11_isPiece) h1 h2 rfl rfl dk_65
  | 66, _, h1, h2 => dkc (q2 := kX11_isCard) h1 h2 rfl rfl dk_66
  | 67, _, h1, h2 => dkc (q2 := kX11_isOrder) h1 h2 rfl rfl dk_67
  | 68, _, h1, h2 => dkc (q2 := kX11_isCell) h1 h2 rfl rfl dk_68
  | 69, _, h1, h2 => dkc (q2 := kX11_isTurn) h1 h2 rfl rfl dk_69
  | 70, _, h1, h2 => dkc (q2 := kX11_isShelf) h1 h2 rfl rfl dk_70
  | 71, _, h1, h2 => dkc (q2 := kX11_distance) h1 h2 rfl rfl dk_71
  | 72, _, h1, h2 => dkc (q2 := kX11_pieceIn) h1 h2 rfl rfl dk_72
  | 73, _, h1, h2 => dkc (q2 := kX11_piecesOf) h1 h2 rfl rfl dk_73
  | 74, _, h1, h2 => dkc (q2 := kX11_feed) h1 h2 rfl rfl dk_74
  | 75, _, h1, h2 => dkc (q2 := kX11_rule) h1 h2 rfl rfl dk_75
  | 76, _, h1, h2 => dkc (q2 := kX11_inForce) h1 h2 rfl rfl dk_76
  | 77, _, h1, h2 => dkc (q2 := kX11_says) h1 h2 rfl rfl dk_77
  | 78, _, h1, h2 => dkc (q2 := kX11_drawn) h1 h2 rfl rfl dk_78
  | 79, _, h1, h2 => dkc (q2 := kX11_isRuled) h1 h2 rfl rfl dk_79
  | 80, _, h1, h2 => dkc (q2 := kX11_ruleIn) h1 h2 rfl rfl dk_80
  | 81, _, h1, h2 => dkc (q2 := kX11_drawnFor) h1 h2 rfl rfl dk_81
  | 82, _, h1, h2 => dkc (q2 := kX11_clearNames) h1 h2 rfl rfl dk_82
  | 83, _, h1, h2 => dkc (q2 := kX11_namePiece) h1 h2 rfl rfl dk_83
  | 84, _, h1, h2 => dkc (q2 := kX11_mayBe) h1 h2 rfl rfl dk_84
  | 85, _, h1, h2 => dkc (q2 := kX11_tieOf) h1 h2 rfl rfl dk_85
  | 86, _, h1, h2 => dkc (q2 := kX11_sightOf) h1 h2 rfl rfl dk_86
  | 87, _, h1, h2 => dkc (q2 := kX11_feeOf) h1 h2 rfl rfl dk_87
  | 88, _, h1, h2 => dkc (q2 := kX11_within) h1 h2 rfl rfl dk_88
  | 89, _, h1, h2 => dkc (q2 := kX11_card) h1 h2 rfl rfl dk_89
  | 90, _, h1, h2 => dkc (q2 := kX11_ofCard) h1 h2 rfl rfl dk_90
  | 91, _, h1, h2 => dkc (q2 := kX11_order) h1 h2 rfl rfl dk_91
  | 92, _, h1, h2 => dkc (q2 := kX11_turn) h1 h2 rfl rfl dk_92
  | 93, _, h1, h2 => dkc (q2 := kX11_ofOrder) h1 h2 rfl rfl dk_93
  | 94, _, h1, h2 => dkc (q2 := kX11_read) h1 h2 rfl rfl dk_94
  | 95, _, h1, h2 => dkc (q2 := kX11_orderOf) h1 h2 rfl rfl dk_95
  | 96, _, h1, h2 => dkc (q2 := kX11_isSound) h1 h2 rfl rfl dk_96
  | 97, _, h1, h2 => dkc (q2 := kX11_isKindTold) h1 h2 rfl rfl dk_97
  | 98, _, h1, h2 => dkc (q2 := kX11_addOrder) h1 h2 rfl rfl dk_98
  | 99, _, h1, h2 => dkc (q2 := kX11_readFour) h1 h2 rfl rfl dk_99
  | 100, _, h1, h2 => dkc (q2 := kX11_cardCounts) h1 h2 rfl rfl dk_100
  | 101, _, h1, h2 => dkc (q2 := kX11_canBe) h1 h2 rfl rfl dk_101
  | 102, _, h1, h2 => dkc (q2 := kX11_isOfTurn) h1 h2 rfl rfl dk_102
  | 103, _, h1, h2 => dkc (q2 := kX11_fits) h1 h2 rfl rfl dk_103
  | 104, _, h1, h2 => dkc (q2 := kX11_holdsGood) h1 h2 rfl rfl dk_104
  | 105, _, h1, h2 => dkc (q2 := kX11_done) h1 h2 rfl rfl dk_105
  | 106, _, h1, h2 => dkc (q2 := kX11_again) h1 h2 rfl rfl dk_106
  | 107, _, h1, h2 => dkc (q2 := kX11_was) h1 h2 rfl rfl dk_107
  | 108, _, h1, h2 => dkc (q2 := kX11_doTurn) h1 h2 rfl rfl dk_108
  | 109, _, h1, h2 => dkc (q2 := kX11_giveOrders) h1 h2 rfl rfl dk_109
  | 110, _, h1, h2 => dkc (q2 := kX11_playsIn) h1 h2 rfl rfl dk_110
  | 111, _, h1, h2 => dkc (q2 := kX11_settle) h1 h2 rfl rfl dk_111
  | 112, _, h1, h2 => dkc (q2 := kX11_coinsAfter) h1 h2 rfl rfl dk_112
  | 113, _, h1, h2 => dkc (q2 := kX11_sees) h1 h2 rfl rfl dk_113
  | 114, _, h1, h2 => dkc (q2 := kX11_alike) h1 h2 rfl rfl dk_114
  | 115, _, h1, h2 => dkc (q2 := kX11_sheetOf) h1 h2 rfl rfl dk_115
  | 116, _, h1, h2 => dkc (q2 := kX11_way) h1 h2 rfl rfl dk_116
  | 117, _, h1, h2 => dkc (q2 := kX11_best) h1 h2 rfl rfl dk_117
  | 118, _, h1, h2 => dkc (q2 := kX11_bestWay) h1 h2 rfl rfl dk_118
  | 119, _, h1, h2 => dkc (q2 := kX11_judge) h1 h2 rfl rfl dk_119
  | 120, _, h1, h2 => dkc (q2 := kX11_canJudge) h1 h2 rfl rfl dk_120
  | 121, _, h1, h2 => dkc (q2 := kX11_readyWays) h1 h2 rfl rfl dk_121
  | 122, _, h1, h2 => dkc (q2 := kX11_playRow) h1 h2 rfl rfl dk_122
  | 123, _, h1, h2 => dkc (q2 := kX11_pay) h1 h2 rfl rfl dk_123
  | 124, _, h1, h2 => dkc (q2 := kX11_bar) h1 h2 rfl rfl dk_124
  | 125, _, h1, h2 => dkc (q2 := kX11_act) h1 h2 rfl rfl dk_125
  | 126, _, h1, h2 => dkc (q2 := kX11_trace) h1 h2 rfl rfl dk_126
  | 127, _, h1, h2 => dkc (q2 := kX11_keep) h1 h2 rfl rfl dk_127
  | 128, _, h1, h2 => dkc (q2 := kX11_row) h1 h2 rfl rfl dk_128
  | 129, _, h1, h2 => dkc (q2 := kX11_put) h1 h2 rfl rfl dk_129
  | 130, _, h1, h2 => dkc (q2 := kX11_element) h1 h2 rfl rfl dk_130
  | 131, _, h1, h2 => dkc (q2 := kX11_shift) h1 h2 rfl rfl dk_131
  | 132, _, h1, h2 => dkc (q2 := kX11_taken) h1 h2 rfl rfl dk_132
  | 133, _, h1, h2 => dkc (q2 := kX11_check) h1 h2 rfl rfl dk_133
  | 134, _, h1, h2 => dkc (q2 := kX11_count) h1 h2 rfl rfl dk_134
  | 135, _, h1, h2 => dkc (q2 := kX11_piecesThere) h1 h2 rfl rfl dk_135
  | 136, _, h1, h2 => dkc (q2 := kX11_isUnder) h1 h2 rfl rfl dk_136
  | 137, _, h1, h2 => dkc (q2 := kX11_isBalanced) h1 h2 rfl rfl dk_137
  | 138, _, h1, h2 => dkc (q2 := kX12_within) h1 h2 rfl rfl dk_138
  | 139, _, h1, h2 => dkc (q2 := kX12_isGame) h1 h2 rfl rfl dk_139
  | 140, _, h1, h2 => dkc (q2 := kX12_isHolder) h1 h2 rfl rfl dk_140
  | 141, _, h1, h2 => dkc (q2 := kX12_isPiece) h1 h2 rfl rfl dk_141
  | 142, _, h1, h2 => dkc (q2 := kX12_isCell) h1 h2 rfl rfl dk_142
  | 143, _, h1, h2 => dkc (q2 := kX12_size) h1 h2 rfl rfl dk_143
  | 144, _, h1, h2 => dkc (q2 := kX12_wayOf) h1 h2 rfl rfl dk_144
  | 145, _, h1, h2 => dkc (q2 := kX12_gameOf) h1 h2 rfl rfl dk_145
  | 146, _, h1, h2 => dkc (q2 := kX12_days) h1 h2 rfl rfl dk_146
  | 147, _, h1, h2 => dkc (q2 := kX12_game) h1 h2 rfl rfl dk_147
  | 148, _, h1, h2 => dkc (q2 := kX12_pieceAt) h1 h2 rfl rfl dk_148
  | 149, _, h1, h2 => dkc (q2 := kX12_cell) h1 h2 rfl rfl dk_149
  | 150, _, h1, h2 => dkc (q2 := kX12_holder) h1 h2 rfl rfl dk_150
  | 151, _, h1, h2 => dkc (q2 := kX12_runs) h1 h2 rfl rfl dk_151
  | 152, _, h1, h2 => dkc (q2 := kX12_drops) h1 h2 rfl rfl dk_152
  | 153, _, h1, h2 => dkc (q2 := kX12_piece) h1 h2 rfl rfl dk_153
  | 154, _, h1, h2 => dkc (q2 := kX12_ofPiece) h1 h2 rfl rfl dk_154
  | 155, _, h1, h2 => dkc (q2 := kX12_standing) h1 h2 rfl rfl dk_155
  | 156, _, h1, h2 => dkc (q2 := kX12_owed) h1 h2 rfl rfl dk_156
  | 157, _, h1, h2 => dkc (q2 := kX12_ofHolder) h1 h2 rfl rfl dk_157
  | 158, _, h1, h2 => dkc (q2 := kX12_dueOn) h1 h2 rfl rfl dk_158
  | 159, _, h1, h2 => dkc (q2 := kX12_ofGame) h1 h2 rfl rfl dk_159
  | 160, _, h1, h2 => dkc (q2 := kX12_feed) h1 h2 rfl rfl dk_160
  | 161, _, h1, h2 => dkc (q2 := kX12_byteAt) h1 h2 rfl rfl dk_161
  | 162, _, h1, h2 => dkc (q2 := kX12_wrong) h1 h2 rfl rfl dk_162
  | 163, _, h1, h2 => dkc (q2 := kX12_takes) h1 h2 rfl rfl dk_163
  | 164, _, h1, h2 => dkc (q2 := kX12_either) h1 h2 rfl rfl dk_164
  | 165, _, h1, h2 => dkc (q2 := kX12_both) h1 h2 rfl rfl dk_165
  | 166, _, h1, h2 => dkc (q2 := kX12_compared) h1 h2 rfl rfl dk_166
  | 167, _, h1, h2 => dkc (q2 := kX12_sums) h1 h2 rfl rfl dk_167
  | 168, _, h1, h2 => dkc (q2 := kX12_product) h1 h2 rfl rfl dk_168
  | 169, _, h1, h2 => dkc (q2 := kX12_nameOf) h1 h2 rfl rfl dk_169
  | 170, _, h1, h2 => dkc (q2 := kX12_one) h1 h2 rfl rfl dk_170
  | 171, _, h1, h2 => dkc (q2 := kX12_workOut) h1 h2 rfl rfl dk_171
  | 172, _, h1, h2 => dkc (q2 := kX12_isWhat) h1 h2 rfl rfl dk_172
  | 173, _, h1, h2 => dkc (q2 := kX12_isTurn) h1 h2 rfl rfl dk_173
  | 174, _, h1, h2 => dkc (q2 := kX12_rule) h1 h2 rfl rfl dk_174
  | 175, _, h1, h2 => dkc (q2 := kX12_ruleFor) h1 h2 rfl rfl dk_175
  | 176, _, h1, h2 => dkc (q2 := kX12_inForce) h1 h2 rfl rfl dk_176
  | 177, _, h1, h2 => dkc (q2 := kX12_gives) h1 h2 rfl rfl dk_177
  | 178, _, h1, h2 => dkc (q2 := kX12_held) h1 h2 rfl rfl dk_178
  | 179, _, h1, h2 => dkc (q2 := kX12_noNames) h1 h2 rfl rfl dk_179
  | 180, _, h1, h2 => dkc (q2 := kX12_nameOrder) h1 h2 rfl rfl dk_180
  | 181, _, h1, h2 => dkc (q2 := kX12_sightOf) h1 h2 rfl rfl dk_181
  | 182, _, h1, h2 => dkc (q2 := kX12_feeOf) h1 h2 rfl rfl dk_182
  | 183, _, h1, h2 => dkc (q2 := kX12_says) h1 h2 rfl rfl dk_183
  | 184, _, h1, h2 => dkc (q2 := kX12_drawnFor) h1 h2 rfl rfl dk_184
  | 185, _, h1, h2 => dkc (q2 := kX12_drawn) h1 h2 rfl rfl dk_185
  | 186, _, h1, h2 => dkc (q2 := kX12_card) h1 h2 rfl rfl dk_186
  | 187, _, h1, h2 => dkc (q2 := kX12_isCard) h1 h2 rfl rfl dk_187
  | 188, _, h1, h2 => dkc (q2 := kX12_isLate) h1 h2 rfl rfl dk_188
  | 189, _, h1, h2 => dkc (q2 := kX12_counts) h1 h2 rfl rfl dk_189
  | 190, _, h1, h2 => dkc (q2 := kX12_ofCard) h1 h2 rfl rfl dk_190
  | 191, _, h1, h2 => dkc (q2 := kX12_add) h1 h2 rfl rfl dk_191
  | 192, _, h1, h2 => dkc (q2 := kX12_isSaid) h1 h2 rfl rfl dk_192
  | 193, _, h1, h2 => dkc (q2 := kX12_order) h1 h2 rfl rfl dk_193
  | 194, _, h1, h2 => dkc (q2 := kX12_isOrder) h1 h2 rfl rfl dk_194
  | 195, _, h1, h2 => dkc (q2 := kX12_turn) h1 h2 rfl rfl dk_195
  | 196, _, h1, h2 => dkc (q2 := kX12_ofOrder) h1 h2 rfl rfl dk_196
  | 197, _, h1, h2 => dkc (q2 := kX12_read) h1 h2 rfl rfl dk_197
  | 198, _, h1, h2 => dkc (q2 := kX12_isBeside) h1 h2 rfl rfl dk_198
  | 199, _, h1, h2 => dkc (q2 := kX12_canBe) h1 h2 rfl rfl dk_199
  | 200, _, h1, h2 => dkc (q2 := kX12_mayBe) h1 h2 rfl rfl dk_200
  | 201, _, h1, h2 => dkc (q2 := kX12_isFor) h1 h2 rfl rfl dk_201
  | 202, _, h1, h2 => dkc (q2 := kX12_isOrderly) h1 h2 rfl rfl dk_202
  | 203, _, h1, h2 => dkc (q2 := kX12_orderFor) h1 h2 rfl rfl dk_203
  | 204, _, h1, h2 => dkc (q2 := kX12_orderOf) h1 h2 rfl rfl dk_204
  | 205, _, h1, h2 => dkc (q2 := kX12_isIn) h1 h2 rfl rfl dk_205
  | 206, _, h1, h2 => dkc (q2 := kX12_findOrders) h1 h2 rfl rfl dk_206
  | 207, _, h1, h2 => dkc (q2 := kX12_isCut) h1 h2 rfl rfl dk_207
  | 208, _, h1, h2 => dkc (q2 := kX12_findStrengths) h1 h2 rfl rfl dk_208
  | 209, _, h1, h2 => dkc (q2 := kX12_moves) h1 h2 rfl rfl dk_209
  | 210, _, h1, h2 => dkc (q2 := kX12_findFailed) h1 h2 rfl rfl dk_210
  | 211, _, h1, h2 => dkc (q2 := kX12_goThrough) h1 h2 rfl rfl dk_211
  | 212, _, h1, h2 => dkc (q2 := kX12_doTurn) h1 h2 rfl rfl dk_212
  | 213, _, h1, h2 => dkc (q2 := kX12_done) h1 h2 rfl rfl dk_213
  | 214, _, h1, h2 => dkc (q2 := kX12_again) h1 h2 rfl rfl dk_214
  | 215, _, h1, h2 => dkc (q2 := kX12_lastCell) h1 h2 rfl rfl dk_215
  | 216, _, h1, h2 => dkc (q2 := kX12_was) h1 h2 rfl rfl dk_216
  | 217, _, h1, h2 => dkc (q2 := kX12_seesIn) h1 h2 rfl rfl dk_217
  | 218, _, h1, h2 => dkc (q2 := kX12_sees) h1 h2 rfl rfl dk_218
  | 219, _, h1, h2 => dkc (q2 := kX12_alike) h1 h2 rfl rfl dk_219
  | 220, _, h1, h2 => dkc (q2 := kX12_way) h1 h2 rfl rfl dk_220
  | 221, _, h1, h2 => dkc (q2 := kX12_coinsBy) h1 h2 rfl rfl dk_221
  | 222, _, h1, h2 => dkc (q2 := kX12_isRow) h1 h2 rfl rfl dk_222
  | 223, _, h1, h2 => dkc (q2 := kX12_noRow) h1 h2 rfl rfl dk_223
  | 224, _, h1, h2 => dkc (q2 := kX12_best) h1 h2 rfl rfl dk_224
  | 225, _, h1, h2 => dkc (q2 := kX12_bestWay) h1 h2 rfl rfl dk_225
  | 226, _, h1, h2 => dkc (q2 := kX12_judge) h1 h2 rfl rfl dk_226
  | 227, _, h1, h2 => dkc (q2 := kX12_pay) h1 h2 rfl rfl dk_227
  | 228, _, h1, h2 => dkc (q2 := kX12_bar) h1 h2 rfl rfl dk_228
  | 229, _, h1, h2 => dkc (q2 := kX12_above) h1 h2 rfl rfl dk_229
  | 230, _, h1, h2 => dkc (q2 := kX12_ranBody) h1 h2 rfl rfl dk_230
  | 231, _, h1, h2 => dkc (q2 := kX12_means) h1 h2 rfl rfl dk_231
  | 232, _, h1, h2 => dkc (q2 := kX12_clashes) h1 h2 rfl rfl dk_232
  | 233, _, h1, h2 => dkc (q2 := kX12_hides) h1 h2 rfl rfl dk_233
  | 234, _, h1, h2 => dkc (q2 := kX12_endsOf) h1 h2 rfl rfl dk_234
  | 235, _, h1, h2 => dkc (q2 := kX12_act) h1 h2 rfl rfl dk_235
  | 236, _, h1, h2 => dkc (q2 := kX12_trace) h1 h2 rfl rfl dk_236
  | 237, _, h1, h2 => dkc (q2 := kX12_isShelf) h1 h2 rfl rfl dk_237
  | 238, _, h1, h2 => dkc (q2 := kX12_keep) h1 h2 rfl rfl dk_238
  | 239, _, h1, h2 => dkc (q2 := kX12_row) h1 h2 rfl rfl dk_239
  | 240, _, h1, h2 => dkc (q2 := kX12_refusal) h1 h2 rfl rfl dk_240
  | 241, _, h1, h2 => dkc (q2 := kX12_asSort) h1 h2 rfl rfl dk_241
  | 242, _, h1, h2 => dkc (q2 := kX12_put) h1 h2 rfl rfl dk_242
  | 243, _, h1, h2 => dkc (q2 := kX12_element) h1 h2 rfl rfl dk_243
  | 244, _, h1, h2 => dkc (q2 := kX12_shift) h1 h2 rfl rfl dk_244
  | 245, _, h1, h2 => dkc (q2 := kX12_taken) h1 h2 rfl rfl dk_245
  | 246, _, h1, h2 => dkc (q2 := kX12_check) h1 h2 rfl rfl dk_246
  | 247, _, h1, h2 => dkc (q2 := kX12_count) h1 h2 rfl rfl dk_247
  | 248, _, h1, h2 => dkc (q2 := kJ6_compare) h1 h2 rfl rfl dk_248
  | 249, _, h1, h2 => dkc (q2 := kJ13_bitCount) h1 h2 rfl rfl dk_249
  | 250, _, h1, h2 => dkc (q2 := kJ9_abs) h1 h2 rfl rfl dk_250
  | 251, _, h1, h2 => dkc (q2 := kJ9_max) h1 h2 rfl rfl dk_251
  | 252, _, h1, h2 => dkc (q2 := kJ9_min) h1 h2 rfl rfl dk_252
  | 253, _, h1, h2 => dkc (q2 := kJ0_indexOf) h1 h2 rfl rfl dk_253
  | 254, _, h1, h2 => dkc (q2 := kJ0_indexOf_2) h1 h2 rfl rfl dk_254
  | 255, _, h1, h2 => dkc (q2 := kJ0_isLatin1) h1 h2 rfl rfl dk_255
  | 256, _, h1, h2 => dkc (q2 := kJ0_length) h1 h2 rfl rfl dk_256
  | 257, _, h1, h2 => dkc (q2 := kJ0_coder) h1 h2 rfl rfl dk_257
  | 258, _, h1, h2 => dkc (q2 := kJ1_canEncode) h1 h2 rfl rfl dk_258
  | 259, _, h1, h2 => dkc (q2 := kJ1_indexOf) h1 h2 rfl rfl dk_259
  | 260, _, h1, h2 => dkc (q2 := kJ1_indexOfChar) h1 h2 rfl rfl dk_260
  | k + 261, h, _, _ => absurd (Nat.lt_of_lt_of_eq h (show mIs.length = 261 by decide +kernel)) (by omega)
