-- the methods by their numbers
set_option maxRecDepth 100000 in
theorem mt_0 : mtb 0 = some kX0_begin := rfl
set_option maxRecDepth 100000 in
theorem mt_1 : mtb 1 = some kX0_of := rfl
set_option maxRecDepth 100000 in
theorem mt_2 : mtb 2 = some kX0_began := rfl
set_option maxRecDepth 100000 in
theorem mt_3 : mtb 3 = some kX0_run := rfl
set_option maxRecDepth 100000 in
theorem mt_4 : mtb 4 = some kX0_means := rfl
set_option maxRecDepth 100000 in
theorem mt_5 : mtb 5 = some kX0_clashes := rfl
set_option maxRecDepth 100000 in
theorem mt_6 : mtb 6 = some kX0_hides := rfl
set_option maxRecDepth 100000 in
theorem mt_7 : mtb 7 = some kX0_ends := rfl
set_option maxRecDepth 100000 in
theorem mt_8 : mtb 8 = some kX1_late := rfl
set_option maxRecDepth 100000 in
theorem mt_9 : mtb 9 = some kX2_due := rfl
set_option maxRecDepth 100000 in
theorem mt_10 : mtb 10 = some kX2_firstDue := rfl
set_option maxRecDepth 100000 in
theorem mt_11 : mtb 11 = some kX3_owed := rfl
set_option maxRecDepth 100000 in
theorem mt_12 : mtb 12 = some kX4_begin := rfl
set_option maxRecDepth 100000 in
theorem mt_13 : mtb 13 = some kX4_give := rfl
set_option maxRecDepth 100000 in
theorem mt_14 : mtb 14 = some kX4_workOut := rfl
set_option maxRecDepth 100000 in
theorem mt_15 : mtb 15 = some kX4_goal := rfl
set_option maxRecDepth 100000 in
theorem mt_16 : mtb 16 = some kX4_measure := rfl
set_option maxRecDepth 100000 in
theorem mt_17 : mtb 17 = some kX4_findFirst := rfl
set_option maxRecDepth 100000 in
theorem mt_18 : mtb 18 = some kX4_compare := rfl
set_option maxRecDepth 100000 in
theorem mt_19 : mtb 19 = some kX4_failSwaps := rfl
set_option maxRecDepth 100000 in
theorem mt_20 : mtb 20 = some kX4_failBlocked := rfl
set_option maxRecDepth 100000 in
theorem mt_21 : mtb 21 = some kX4_goes := rfl
set_option maxRecDepth 100000 in
theorem mt_22 : mtb 22 = some kX4_cellAfter := rfl
set_option maxRecDepth 100000 in
theorem mt_23 : mtb 23 = some kX4_numberAfter := rfl
set_option maxRecDepth 100000 in
theorem mt_24 : mtb 24 = some kX4_carryOut := rfl
set_option maxRecDepth 100000 in
theorem mt_25 : mtb 25 = some kX6_goBack := rfl
set_option maxRecDepth 100000 in
theorem mt_26 : mtb 26 = some kX6_isElsewhere := rfl
set_option maxRecDepth 100000 in
theorem mt_27 : mtb 27 = some kX7_add := rfl
set_option maxRecDepth 100000 in
theorem mt_28 : mtb 28 = some kX7_worth := rfl
set_option maxRecDepth 100000 in
theorem mt_29 : mtb 29 = some kX7_joined := rfl
set_option maxRecDepth 100000 in
theorem mt_30 : mtb 30 = some kX8_isRow := rfl
set_option maxRecDepth 100000 in
theorem mt_31 : mtb 31 = some kX8_becomeRow := rfl
set_option maxRecDepth 100000 in
theorem mt_32 : mtb 32 = some kX8_refusal := rfl
set_option maxRecDepth 100000 in
theorem mt_33 : mtb 33 = some kX8_hasRun := rfl
set_option maxRecDepth 100000 in
theorem mt_34 : mtb 34 = some kX8_cut := rfl
set_option maxRecDepth 100000 in
theorem mt_35 : mtb 35 = some kX9_add := rfl
set_option maxRecDepth 100000 in
theorem mt_36 : mtb 36 = some kX9_next := rfl
set_option maxRecDepth 100000 in
theorem mt_37 : mtb 37 = some kX9_compile := rfl
set_option maxRecDepth 100000 in
theorem mt_38 : mtb 38 = some kX9_line := rfl
set_option maxRecDepth 100000 in
theorem mt_39 : mtb 39 = some kX9_either := rfl
set_option maxRecDepth 100000 in
theorem mt_40 : mtb 40 = some kX9_both := rfl
set_option maxRecDepth 100000 in
theorem mt_41 : mtb 41 = some kX9_compared := rfl
set_option maxRecDepth 100000 in
theorem mt_42 : mtb 42 = some kX9_sum := rfl
set_option maxRecDepth 100000 in
theorem mt_43 : mtb 43 = some kX9_product := rfl
set_option maxRecDepth 100000 in
theorem mt_44 : mtb 44 = some kX9_operand := rfl
set_option maxRecDepth 100000 in
theorem mt_45 : mtb 45 = some kX9_number := rfl
set_option maxRecDepth 100000 in
theorem mt_46 : mtb 46 = some kX9_name := rfl
set_option maxRecDepth 100000 in
theorem mt_47 : mtb 47 = some kX10_tell := rfl
set_option maxRecDepth 100000 in
theorem mt_48 : mtb 48 = some kX10_placeOf := rfl
set_option maxRecDepth 100000 in
theorem mt_49 : mtb 49 = some kX10_rows := rfl
set_option maxRecDepth 100000 in
theorem mt_50 : mtb 50 = some kX10_pick := rfl
set_option maxRecDepth 100000 in
theorem mt_51 : mtb 51 = some kX10_pickDigits := rfl
set_option maxRecDepth 100000 in
theorem mt_52 : mtb 52 = some kX10_choose := rfl
set_option maxRecDepth 100000 in
theorem mt_53 : mtb 53 = some kX11_days := rfl
set_option maxRecDepth 100000 in
theorem mt_54 : mtb 54 = some kX11_game := rfl
set_option maxRecDepth 100000 in
theorem mt_55 : mtb 55 = some kX11_cell := rfl
set_option maxRecDepth 100000 in
theorem mt_56 : mtb 56 = some kX11_holder := rfl
set_option maxRecDepth 100000 in
theorem mt_57 : mtb 57 = some kX11_runs := rfl
set_option maxRecDepth 100000 in
theorem mt_58 : mtb 58 = some kX11_drops := rfl
set_option maxRecDepth 100000 in
theorem mt_59 : mtb 59 = some kX11_piece := rfl
set_option maxRecDepth 100000 in
theorem mt_60 : mtb 60 = some kX11_ofPiece := rfl
set_option maxRecDepth 100000 in
theorem mt_61 : mtb 61 = some kX11_ofHolder := rfl
set_option maxRecDepth 100000 in
theorem mt_62 : mtb 62 = some kX11_ofGame := rfl
set_option maxRecDepth 100000 in
theorem mt_63 : mtb 63 = some kX11_isGame := rfl
set_option maxRecDepth 100000 in
theorem mt_64 : mtb 64 = some kX11_isHolder := rfl
set_option maxRecDepth 100000 in
theorem mt_65 : mtb 65 = some kX11_isPiece := rfl
set_option maxRecDepth 100000 in
theorem mt_66 : mtb 66 = some kX11_isCard := rfl
set_option maxRecDepth 100000 in
theorem mt_67 : mtb 67 = some kX11_isOrder := rfl
set_option maxRecDepth 100000 in
theorem mt_68 : mtb 68 = some kX11_isCell := rfl
set_option maxRecDepth 100000 in
theorem mt_69 : mtb 69 = some kX11_isTurn := rfl
set_option maxRecDepth 100000 in
theorem mt_70 : mtb 70 = some kX11_isShelf := rfl
set_option maxRecDepth 100000 in
theorem mt_71 : mtb 71 = some kX11_distance := rfl
set_option maxRecDepth 100000 in
theorem mt_72 : mtb 72 = some kX11_pieceIn := rfl
set_option maxRecDepth 100000 in
theorem mt_73 : mtb 73 = some kX11_piecesOf := rfl
set_option maxRecDepth 100000 in
theorem mt_74 : mtb 74 = some kX11_feed := rfl
set_option maxRecDepth 100000 in
theorem mt_75 : mtb 75 = some kX11_rule := rfl
set_option maxRecDepth 100000 in
theorem mt_76 : mtb 76 = some kX11_inForce := rfl
set_option maxRecDepth 100000 in
theorem mt_77 : mtb 77 = some kX11_says := rfl
set_option maxRecDepth 100000 in
theorem mt_78 : mtb 78 = some kX11_drawn := rfl
set_option maxRecDepth 100000 in
theorem mt_79 : mtb 79 = some kX11_isRuled := rfl
set_option maxRecDepth 100000 in
theorem mt_80 : mtb 80 = some kX11_ruleIn := rfl
set_option maxRecDepth 100000 in
theorem mt_81 : mtb 81 = some kX11_drawnFor := rfl
set_option maxRecDepth 100000 in
theorem mt_82 : mtb 82 = some kX11_clearNames := rfl
set_option maxRecDepth 100000 in
theorem mt_83 : mtb 83 = some kX11_namePiece := rfl
set_option maxRecDepth 100000 in
theorem mt_84 : mtb 84 = some kX11_mayBe := rfl
set_option maxRecDepth 100000 in
theorem mt_85 : mtb 85 = some kX11_tieOf := rfl
set_option maxRecDepth 100000 in
theorem mt_86 : mtb 86 = some kX11_sightOf := rfl
set_option maxRecDepth 100000 in
theorem mt_87 : mtb 87 = some kX11_feeOf := rfl
set_option maxRecDepth 100000 in
theorem mt_88 : mtb 88 = some kX11_within := rfl
set_option maxRecDepth 100000 in
theorem mt_89 : mtb 89 = some kX11_card := rfl
set_option maxRecDepth 100000 in
theorem mt_90 : mtb 90 = some kX11_ofCard := rfl
set_option maxRecDepth 100000 in
theorem mt_91 : mtb 91 = some kX11_order := rfl
set_option maxRecDepth 100000 in
theorem mt_92 : mtb 92 = some kX11_turn := rfl
set_option maxRecDepth 100000 in
theorem mt_93 : mtb 93 = some kX11_ofOrder := rfl
set_option maxRecDepth 100000 in
theorem mt_94 : mtb 94 = some kX11_read := rfl
set_option maxRecDepth 100000 in
theorem mt_95 : mtb 95 = some kX11_orderOf := rfl
set_option maxRecDepth 100000 in
theorem mt_96 : mtb 96 = some kX11_isSound := rfl
set_option maxRecDepth 100000 in
theorem mt_97 : mtb 97 = some kX11_isKindTold := rfl
set_option maxRecDepth 100000 in
theorem mt_98 : mtb 98 = some kX11_addOrder := rfl
set_option maxRecDepth 100000 in
theorem mt_99 : mtb 99 = some kX11_readFour := rfl
set_option maxRecDepth 100000 in
theorem mt_100 : mtb 100 = some kX11_cardCounts := rfl
set_option maxRecDepth 100000 in
theorem mt_101 : mtb 101 = some kX11_canBe := rfl
set_option maxRecDepth 100000 in
theorem mt_102 : mtb 102 = some kX11_isOfTurn := rfl
set_option maxRecDepth 100000 in
theorem mt_103 : mtb 103 = some kX11_fits := rfl
set_option maxRecDepth 100000 in
theorem mt_104 : mtb 104 = some kX11_holdsGood := rfl
set_option maxRecDepth 100000 in
theorem mt_105 : mtb 105 = some kX11_done := rfl
set_option maxRecDepth 100000 in
theorem mt_106 : mtb 106 = some kX11_again := rfl
set_option maxRecDepth 100000 in
theorem mt_107 : mtb 107 = some kX11_was := rfl
set_option maxRecDepth 100000 in
theorem mt_108 : mtb 108 = some kX11_doTurn := rfl
set_option maxRecDepth 100000 in
theorem mt_109 : mtb 109 = some kX11_giveOrders := rfl
set_option maxRecDepth 100000 in
theorem mt_110 : mtb 110 = some kX11_playsIn := rfl
set_option maxRecDepth 100000 in
theorem mt_111 : mtb 111 = some kX11_settle := rfl
set_option maxRecDepth 100000 in
theorem mt_112 : mtb 112 = some kX11_coinsAfter := rfl
set_option maxRecDepth 100000 in
theorem mt_113 : mtb 113 = some kX11_sees := rfl
set_option maxRecDepth 100000 in
theorem mt_114 : mtb 114 = some kX11_alike := rfl
set_option maxRecDepth 100000 in
theorem mt_115 : mtb 115 = some kX11_sheetOf := rfl
set_option maxRecDepth 100000 in
theorem mt_116 : mtb 116 = some kX11_way := rfl
set_option maxRecDepth 100000 in
theorem mt_117 : mtb 117 = some kX11_best := rfl
set_option maxRecDepth 100000 in
theorem mt_118 : mtb 118 = some kX11_bestWay := rfl
set_option maxRecDepth 100000 in
theorem mt_119 : mtb 119 = some kX11_judge := rfl
set_option maxRecDepth 100000 in
theorem mt_120 : mtb 120 = some kX11_canJudge := rfl
set_option maxRecDepth 100000 in
theorem mt_121 : mtb 121 = some kX11_readyWays := rfl
set_option maxRecDepth 100000 in
theorem mt_122 : mtb 122 = some kX11_playRow := rfl
set_option maxRecDepth 100000 in
theorem mt_123 : mtb 123 = some kX11_pay := rfl
set_option maxRecDepth 100000 in
theorem mt_124 : mtb 124 = some kX11_bar := rfl
set_option maxRecDepth 100000 in
theorem mt_125 : mtb 125 = some kX11_act := rfl
set_option maxRecDepth 100000 in
theorem mt_126 : mtb 126 = some kX11_trace := rfl
set_option maxRecDepth 100000 in
theorem mt_127 : mtb 127 = some kX11_keep := rfl
set_option maxRecDepth 100000 in
theorem mt_128 : mtb 128 = some kX11_row := rfl
set_option maxRecDepth 100000 in
theorem mt_129 : mtb 129 = some kX11_put := rfl
set_option maxRecDepth 100000 in
theorem mt_130 : mtb 130 = some kX11_element := rfl
set_option maxRecDepth 100000 in
theorem mt_131 : mtb 131 = some kX11_shift := rfl
set_option maxRecDepth 100000 in
theorem mt_132 : mtb 132 = some kX11_taken := rfl
set_option maxRecDepth 100000 in
theorem mt_133 : mtb 133 = some kX11_check := rfl
set_option maxRecDepth 100000 in
theorem mt_134 : mtb 134 = some kX11_count := rfl
set_option maxRecDepth 100000 in
theorem mt_135 : mtb 135 = some kX11_piecesThere := rfl
set_option maxRecDepth 100000 in
theorem mt_136 : mtb 136 = some kX11_isUnder := rfl
set_option maxRecDepth 100000 in
theorem mt_137 : mtb 137 = some kX11_isBalanced := rfl
set_option maxRecDepth 100000 in
theorem mt_138 : mtb 138 = some kX12_within := rfl
set_option maxRecDepth 100000 in
theorem mt_139 : mtb 139 = some kX12_isGame := rfl
set_option maxRecDepth 100000 in
theorem mt_140 : mtb 140 = some kX12_isHolder := rfl
set_option maxRecDepth 100000 in
theorem mt_141 : mtb 141 = some kX12_isPiece := rfl
set_option maxRecDepth 100000 in
theorem mt_142 : mtb 142 = some kX12_isCell := rfl
set_option maxRecDepth 100000 in
theorem mt_143 : mtb 143 = some kX12_size := rfl
set_option maxRecDepth 100000 in
theorem mt_144 : mtb 144 = some kX12_wayOf := rfl
set_option maxRecDepth 100000 in
theorem mt_145 : mtb 145 = some kX12_gameOf := rfl
set_option maxRecDepth 100000 in
theorem mt_146 : mtb 146 = some kX12_days := rfl
set_option maxRecDepth 100000 in
theorem mt_147 : mtb 147 = some kX12_game := rfl
set_option maxRecDepth 100000 in
theorem mt_148 : mtb 148 = some kX12_pieceAt := rfl
set_option maxRecDepth 100000 in
theorem mt_149 : mtb 149 = some kX12_cell := rfl
set_option maxRecDepth 100000 in
theorem mt_150 : mtb 150 = some kX12_holder := rfl
set_option maxRecDepth 100000 in
theorem mt_151 : mtb 151 = some kX12_runs := rfl
set_option maxRecDepth 100000 in
theorem mt_152 : mtb 152 = some kX12_drops := rfl
set_option maxRecDepth 100000 in
theorem mt_153 : mtb 153 = some kX12_piece := rfl
set_option maxRecDepth 100000 in
theorem mt_154 : mtb 154 = some kX12_ofPiece := rfl
set_option maxRecDepth 100000 in
theorem mt_155 : mtb 155 = some kX12_standing := rfl
set_option maxRecDepth 100000 in
theorem mt_156 : mtb 156 = some kX12_owed := rfl
set_option maxRecDepth 100000 in
theorem mt_157 : mtb 157 = some kX12_ofHolder := rfl
set_option maxRecDepth 100000 in
theorem mt_158 : mtb 158 = some kX12_dueOn := rfl
set_option maxRecDepth 100000 in
theorem mt_159 : mtb 159 = some kX12_ofGame := rfl
set_option maxRecDepth 100000 in
theorem mt_160 : mtb 160 = some kX12_feed := rfl
set_option maxRecDepth 100000 in
theorem mt_161 : mtb 161 = some kX12_byteAt := rfl
set_option maxRecDepth 100000 in
theorem mt_162 : mtb 162 = some kX12_wrong := rfl
set_option maxRecDepth 100000 in
theorem mt_163 : mtb 163 = some kX12_takes := rfl
set_option maxRecDepth 100000 in
theorem mt_164 : mtb 164 = some kX12_either := rfl
set_option maxRecDepth 100000 in
theorem mt_165 : mtb 165 = some kX12_both := rfl
set_option maxRecDepth 100000 in
theorem mt_166 : mtb 166 = some kX12_compared := rfl
set_option maxRecDepth 100000 in
theorem mt_167 : mtb 167 = some kX12_sums := rfl
set_option maxRecDepth 100000 in
theorem mt_168 : mtb 168 = some kX12_product := rfl
set_option maxRecDepth 100000 in
theorem mt_169 : mtb 169 = some kX12_nameOf := rfl
set_option maxRecDepth 100000 in
theorem mt_170 : mtb 170 = some kX12_one := rfl
set_option maxRecDepth 100000 in
theorem mt_171 : mtb 171 = some kX12_workOut := rfl
set_option maxRecDepth 100000 in
theorem mt_172 : mtb 172 = some kX12_isWhat := rfl
set_option maxRecDepth 100000 in
theorem mt_173 : mtb 173 = some kX12_isTurn := rfl
set_option maxRecDepth 100000 in
theorem mt_174 : mtb 174 = some kX12_rule := rfl
set_option maxRecDepth 100000 in
theorem mt_175 : mtb 175 = some kX12_ruleFor := rfl
set_option maxRecDepth 100000 in
theorem mt_176 : mtb 176 = some kX12_inForce := rfl
set_option maxRecDepth 100000 in
theorem mt_177 : mtb 177 = some kX12_gives := rfl
set_option maxRecDepth 100000 in
theorem mt_178 : mtb 178 = some kX12_held := rfl
set_option maxRecDepth 100000 in
theorem mt_179 : mtb 179 = some kX12_noNames := rfl
set_option maxRecDepth 100000 in
theorem mt_180 : mtb 180 = some kX12_nameOrder := rfl
set_option maxRecDepth 100000 in
theorem mt_181 : mtb 181 = some kX12_sightOf := rfl
set_option maxRecDepth 100000 in
theorem mt_182 : mtb 182 = some kX12_feeOf := rfl
set_option maxRecDepth 100000 in
theorem mt_183 : mtb 183 = some kX12_says := rfl
set_option maxRecDepth 100000 in
theorem mt_184 : mtb 184 = some kX12_drawnFor := rfl
set_option maxRecDepth 100000 in
theorem mt_185 : mtb 185 = some kX12_drawn := rfl
set_option maxRecDepth 100000 in
theorem mt_186 : mtb 186 = some kX12_card := rfl
set_option maxRecDepth 100000 in
theorem mt_187 : mtb 187 = some kX12_isCard := rfl
set_option maxRecDepth 100000 in
theorem mt_188 : mtb 188 = some kX12_isLate := rfl
set_option maxRecDepth 100000 in
theorem mt_189 : mtb 189 = some kX12_counts := rfl
set_option maxRecDepth 100000 in
theorem mt_190 : mtb 190 = some kX12_ofCard := rfl
set_option maxRecDepth 100000 in
theorem mt_191 : mtb 191 = some kX12_add := rfl
set_option maxRecDepth 100000 in
theorem mt_192 : mtb 192 = some kX12_isSaid := rfl
set_option maxRecDepth 100000 in
theorem mt_193 : mtb 193 = some kX12_order := rfl
set_option maxRecDepth 100000 in
theorem mt_194 : mtb 194 = some kX12_isOrder := rfl
set_option maxRecDepth 100000 in
theorem mt_195 : mtb 195 = some kX12_turn := rfl
set_option maxRecDepth 100000 in
theorem mt_196 : mtb 196 = some kX12_ofOrder := rfl
set_option maxRecDepth 100000 in
theorem mt_197 : mtb 197 = some kX12_read := rfl
set_option maxRecDepth 100000 in
theorem mt_198 : mtb 198 = some kX12_isBeside := rfl
set_option maxRecDepth 100000 in
theorem mt_199 : mtb 199 = some kX12_canBe := rfl
set_option maxRecDepth 100000 in
theorem mt_200 : mtb 200 = some kX12_mayBe := rfl
set_option maxRecDepth 100000 in
theorem mt_201 : mtb 201 = some kX12_isFor := rfl
set_option maxRecDepth 100000 in
theorem mt_202 : mtb 202 = some kX12_isOrderly := rfl
set_option maxRecDepth 100000 in
theorem mt_203 : mtb 203 = some kX12_orderFor := rfl
set_option maxRecDepth 100000 in
theorem mt_204 : mtb 204 = some kX12_orderOf := rfl
set_option maxRecDepth 100000 in
theorem mt_205 : mtb 205 = some kX12_isIn := rfl
set_option maxRecDepth 100000 in
theorem mt_206 : mtb 206 = some kX12_findOrders := rfl
set_option maxRecDepth 100000 in
theorem mt_207 : mtb 207 = some kX12_isCut := rfl
set_option maxRecDepth 100000 in
theorem mt_208 : mtb 208 = some kX12_findStrengths := rfl
set_option maxRecDepth 100000 in
theorem mt_209 : mtb 209 = some kX12_moves := rfl
set_option maxRecDepth 100000 in
theorem mt_210 : mtb 210 = some kX12_findFailed := rfl
set_option maxRecDepth 100000 in
theorem mt_211 : mtb 211 = some kX12_goThrough := rfl
set_option maxRecDepth 100000 in
theorem mt_212 : mtb 212 = some kX12_doTurn := rfl
set_option maxRecDepth 100000 in
theorem mt_213 : mtb 213 = some kX12_done := rfl
set_option maxRecDepth 100000 in
theorem mt_214 : mtb 214 = some kX12_again := rfl
set_option maxRecDepth 100000 in
theorem mt_215 : mtb 215 = some kX12_lastCell := rfl
set_option maxRecDepth 100000 in
theorem mt_216 : mtb 216 = some kX12_was := rfl
set_option maxRecDepth 100000 in
theorem mt_217 : mtb 217 = some kX12_seesIn := rfl
set_option maxRecDepth 100000 in
theorem mt_218 : mtb 218 = some kX12_sees := rfl
set_option maxRecDepth 100000 in
theorem mt_219 : mtb 219 = some kX12_alike := rfl
set_option maxRecDepth 100000 in
theorem mt_220 : mtb 220 = some kX12_way := rfl
set_option maxRecDepth 100000 in
theorem mt_221 : mtb 221 = some kX12_coinsBy := rfl
set_option maxRecDepth 100000 in
theorem mt_222 : mtb 222 = some kX12_isRow := rfl
set_option maxRecDepth 100000 in
theorem mt_223 : mtb 223 = some kX12_noRow := rfl
set_option maxRecDepth 100000 in
theorem mt_224 : mtb 224 = some kX12_best := rfl
set_option maxRecDepth 100000 in
theorem mt_225 : mtb 225 = some kX12_bestWay := rfl
set_option maxRecDepth 100000 in
theorem mt_226 : mtb 226 = some kX12_judge := rfl
set_option maxRecDepth 100000 in
theorem mt_227 : mtb 227 = some kX12_pay := rfl
set_option maxRecDepth 100000 in
theorem mt_228 : mtb 228 = some kX12_bar := rfl
set_option maxRecDepth 100000 in
theorem mt_229 : mtb 229 = some kX12_above := rfl
set_option maxRecDepth 100000 in
theorem mt_230 : mtb 230 = some kX12_ranBody := rfl
set_option maxRecDepth 100000 in
theorem mt_231 : mtb 231 = some kX12_means := rfl
set_option maxRecDepth 100000 in
theorem mt_232 : mtb 232 = some kX12_clashes := rfl
set_option maxRecDepth 100000 in
theorem mt_233 : mtb 233 = some kX12_hides := rfl
set_option maxRecDepth 100000 in
theorem mt_234 : mtb 234 = some kX12_endsOf := rfl
set_option maxRecDepth 100000 in
theorem mt_235 : mtb 235 = some kX12_act := rfl
set_option maxRecDepth 100000 in
theorem mt_236 : mtb 236 = some kX12_trace := rfl
set_option maxRecDepth 100000 in
theorem mt_237 : mtb 237 = some kX12_isShelf := rfl
set_option maxRecDepth 100000 in
theorem mt_238 : mtb 238 = some kX12_keep := rfl
set_option maxRecDepth 100000 in
theorem mt_239 : mtb 239 = some kX12_row := rfl
set_option maxRecDepth 100000 in
theorem mt_240 : mtb 240 = some kX12_refusal := rfl
set_option maxRecDepth 100000 in
theorem mt_241 : mtb 241 = some kX12_asSort := rfl
set_option maxRecDepth 100000 in
theorem mt_242 : mtb 242 = some kX12_put := rfl
set_option maxRecDepth 100000 in
theorem mt_243 : mtb 243 = some kX12_element := rfl
set_option maxRecDepth 100000 in
theorem mt_244 : mtb 244 = some kX12_shift := rfl
set_option maxRecDepth 100000 in
theorem mt_245 : mtb 245 = some kX12_taken := rfl
set_option maxRecDepth 100000 in
theorem mt_246 : mtb 246 = some kX12_check := rfl
set_option maxRecDepth 100000 in
theorem mt_247 : mtb 247 = some kX12_count := rfl
set_option maxRecDepth 100000 in
theorem mt_248 : mtb 248 = some kJ6_compare := rfl
set_option maxRecDepth 100000 in
theorem mt_249 : mtb 249 = some kJ13_bitCount := rfl
set_option maxRecDepth 100000 in
theorem mt_250 : mtb 250 = some kJ9_abs := rfl
set_option maxRecDepth 100000 in
theorem mt_251 : mtb 251 = some kJ9_max := rfl
set_option maxRecDepth 100000 in
theorem mt_252 : mtb 252 = some kJ9_min := rfl
set_option maxRecDepth 100000 in
theorem mt_253 : mtb 253 = some kJ0_indexOf := rfl
set_option maxRecDepth 100000 in
theorem mt_254 : mtb 254 = some kJ0_indexOf_2 := rfl
set_option maxRecDepth 100000 in
theorem mt_255 : mtb 255 = some kJ0_isLatin1 := rfl
set_option maxRecDepth 100000 in
theorem mt_256 : mtb 256 = some kJ0_length := rfl
set_option maxRecDepth 100000 in
theorem mt_257 : mtb 257 = some kJ0_coder := rfl
set_option maxRecDepth 100000 in
theorem mt_258 : mtb 258 = some kJ1_canEncode := rfl
set_option maxRecDepth 100000 in
theorem mt_259 : mtb 259 = some kJ1_indexOf := rfl
set_option maxRecDepth 100000 in
theorem mt_260 : mtb 260 = some kJ1_indexOfChar := rfl
