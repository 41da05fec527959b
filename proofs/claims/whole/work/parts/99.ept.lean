-- the constructor of PostTurns, by wip/whole/gen101.py
theorem zw_1_10 : Cond.initialized (cn 5) ∈ lw_tbl := lw_at_mem (j := 1) (k := 10) rfl
theorem zw_1_11 : Cond.initialized (cn 7) ∈ lw_tbl := lw_at_mem (j := 1) (k := 11) rfl
theorem zw_1_12 : Cond.initialized (cn 8) ∈ lw_tbl := lw_at_mem (j := 1) (k := 12) rfl
theorem zw_1_148 : Cond.classLink (cn 11) 46 (cn 1) ∈ lw_tbl := lw_at_mem (j := 1) (k := 148) rfl
theorem zw_1_149 : Cond.arrayOver (.object (cn 1)) ∈ lw_tbl := lw_at_mem (j := 1) (k := 149) rfl
theorem zw_1_150 : Cond.classLink (cn 11) 55 (cn 5) ∈ lw_tbl := lw_at_mem (j := 1) (k := 150) rfl
theorem zw_1_151 : Cond.arrayOver (.object (cn 5)) ∈ lw_tbl := lw_at_mem (j := 1) (k := 151) rfl
theorem zw_1_152 : Cond.classLink (cn 11) 64 (cn 7) ∈ lw_tbl := lw_at_mem (j := 1) (k := 152) rfl
theorem zw_1_153 : Cond.arrayOver (.object (cn 7)) ∈ lw_tbl := lw_at_mem (j := 1) (k := 153) rfl
theorem zw_1_154 : Cond.classLink (cn 11) 73 (cn 9) ∈ lw_tbl := lw_at_mem (j := 1) (k := 154) rfl
theorem zw_1_155 : Cond.instantiable (cn 9) (vN 9) ∈ lw_tbl := lw_at_mem (j := 1) (k := 155) rfl
theorem zw_1_156 : Cond.methodLinkNest (cn 11) 75 yX9_init "PostTurns" ∈ lw_tbl := lw_at_mem (j := 1) (k := 156) rfl
theorem zw_1_157 : Cond.instanceMethod yX9_init ∈ lw_tbl := lw_at_mem (j := 1) (k := 157) rfl
theorem zw_1_158 : Cond.code yX9_init cX9_init 1 none ∈ lw_tbl := lw_at_mem (j := 1) (k := 158) rfl
theorem zw_1_171 : Cond.classLink (cn 11) 84 (cn 10) ∈ lw_tbl := lw_at_mem (j := 1) (k := 171) rfl
theorem zw_1_172 : Cond.instantiable (cn 10) (vN 10) ∈ lw_tbl := lw_at_mem (j := 1) (k := 172) rfl
theorem zw_1_173 : Cond.methodLinkNest (cn 11) 86 yX10_init "PostTurns" ∈ lw_tbl := lw_at_mem (j := 1) (k := 173) rfl
theorem zw_1_174 : Cond.instanceMethod yX10_init ∈ lw_tbl := lw_at_mem (j := 1) (k := 174) rfl
theorem zw_1_175 : Cond.code yX10_init cX10_init 1 none ∈ lw_tbl := lw_at_mem (j := 1) (k := 175) rfl
theorem zw_1_2 : Cond.initialized (cn 4) ∈ lw_tbl := lw_at_mem (j := 1) (k := 2) rfl
theorem zw_1_218 : Cond.classLink (cn 11) 91 (cn 0) ∈ lw_tbl := lw_at_mem (j := 1) (k := 218) rfl
theorem zw_1_219 : Cond.instantiable (cn 0) (vN 0) ∈ lw_tbl := lw_at_mem (j := 1) (k := 219) rfl
theorem zw_1_220 : Cond.methodLinkNest (cn 11) 93 yX0_init "PostTurns" ∈ lw_tbl := lw_at_mem (j := 1) (k := 220) rfl
theorem zw_1_221 : Cond.instanceMethod yX0_init ∈ lw_tbl := lw_at_mem (j := 1) (k := 221) rfl
theorem zw_1_222 : Cond.code yX0_init cX0_init 1 none ∈ lw_tbl := lw_at_mem (j := 1) (k := 222) rfl
theorem zw_1_28 : Cond.methodLink (cn 11) 1 objectInit ∈ lw_tbl := lw_at_mem (j := 1) (k := 28) rfl
theorem zw_1_31 : Cond.classLink (cn 11) 13 (cn 2) ∈ lw_tbl := lw_at_mem (j := 1) (k := 31) rfl
theorem zw_1_32 : Cond.arrayOver (.object (cn 2)) ∈ lw_tbl := lw_at_mem (j := 1) (k := 32) rfl
theorem zw_1_33 : Cond.classLink (cn 11) 22 (cn 3) ∈ lw_tbl := lw_at_mem (j := 1) (k := 33) rfl
theorem zw_1_34 : Cond.arrayOver (.object (cn 3)) ∈ lw_tbl := lw_at_mem (j := 1) (k := 34) rfl
theorem zw_1_35 : Cond.classLink (cn 11) 31 (cn 4) ∈ lw_tbl := lw_at_mem (j := 1) (k := 35) rfl
theorem zw_1_36 : Cond.instantiable (cn 4) (vN 4) ∈ lw_tbl := lw_at_mem (j := 1) (k := 36) rfl
theorem zw_1_37 : Cond.methodLink (cn 11) 33 yX4_init ∈ lw_tbl := lw_at_mem (j := 1) (k := 37) rfl
theorem zw_1_38 : Cond.instanceMethod yX4_init ∈ lw_tbl := lw_at_mem (j := 1) (k := 38) rfl
theorem zw_1_39 : Cond.code yX4_init cX4_init 2 none ∈ lw_tbl := lw_at_mem (j := 1) (k := 39) rfl
theorem zw_1_4 : Cond.initialized (cn 9) ∈ lw_tbl := lw_at_mem (j := 1) (k := 4) rfl
theorem zw_1_5 : Cond.initialized (cn 10) ∈ lw_tbl := lw_at_mem (j := 1) (k := 5) rfl
theorem zw_1_6 : Cond.initialized (cn 0) ∈ lw_tbl := lw_at_mem (j := 1) (k := 6) rfl
theorem zw_1_7 : Cond.initialized (cn 2) ∈ lw_tbl := lw_at_mem (j := 1) (k := 7) rfl
theorem zw_1_8 : Cond.initialized (cn 3) ∈ lw_tbl := lw_at_mem (j := 1) (k := 8) rfl
theorem zw_1_9 : Cond.initialized (cn 1) ∈ lw_tbl := lw_at_mem (j := 1) (k := 9) rfl
theorem zw_2_10 : Cond.code yX2_init cX2_init 2 none ∈ lw_tbl := lw_at_mem (j := 2) (k := 10) rfl
theorem zw_2_105 : Cond.instantiable (cn 5) (vN 5) ∈ lw_tbl := lw_at_mem (j := 2) (k := 105) rfl
theorem zw_2_106 : Cond.methodLinkNest (cn 11) 107 yX5_init "PostTurns" ∈ lw_tbl := lw_at_mem (j := 2) (k := 106) rfl
theorem zw_2_107 : Cond.instanceMethod yX5_init ∈ lw_tbl := lw_at_mem (j := 2) (k := 107) rfl
theorem zw_2_108 : Cond.code yX5_init cX5_init 1 none ∈ lw_tbl := lw_at_mem (j := 2) (k := 108) rfl
theorem zw_2_142 : Cond.instantiable (cn 7) (vN 7) ∈ lw_tbl := lw_at_mem (j := 2) (k := 142) rfl
theorem zw_2_143 : Cond.methodLinkNest (cn 11) 108 yX7_init "PostTurns" ∈ lw_tbl := lw_at_mem (j := 2) (k := 143) rfl
theorem zw_2_144 : Cond.instanceMethod yX7_init ∈ lw_tbl := lw_at_mem (j := 2) (k := 144) rfl
theorem zw_2_145 : Cond.code yX7_init cX7_init 1 none ∈ lw_tbl := lw_at_mem (j := 2) (k := 145) rfl
theorem zw_2_175 : Cond.instantiable (cn 8) (vN 8) ∈ lw_tbl := lw_at_mem (j := 2) (k := 175) rfl
theorem zw_2_176 : Cond.methodLinkNest (cn 11) 109 yX8_init "PostTurns" ∈ lw_tbl := lw_at_mem (j := 2) (k := 176) rfl
theorem zw_2_177 : Cond.instanceMethod yX8_init ∈ lw_tbl := lw_at_mem (j := 2) (k := 177) rfl
theorem zw_2_178 : Cond.code yX8_init cX8_init 1 none ∈ lw_tbl := lw_at_mem (j := 2) (k := 178) rfl
theorem zw_2_41 : Cond.instantiable (cn 3) (vN 3) ∈ lw_tbl := lw_at_mem (j := 2) (k := 41) rfl
theorem zw_2_42 : Cond.methodLinkNest (cn 11) 105 yX3_init "PostTurns" ∈ lw_tbl := lw_at_mem (j := 2) (k := 42) rfl
theorem zw_2_43 : Cond.instanceMethod yX3_init ∈ lw_tbl := lw_at_mem (j := 2) (k := 43) rfl
theorem zw_2_44 : Cond.code yX3_init cX3_init 1 none ∈ lw_tbl := lw_at_mem (j := 2) (k := 44) rfl
theorem zw_2_5 : Cond.classLink (cn 11) 98 (cn 8) ∈ lw_tbl := lw_at_mem (j := 2) (k := 5) rfl
theorem zw_2_6 : Cond.arrayOver (.object (cn 8)) ∈ lw_tbl := lw_at_mem (j := 2) (k := 6) rfl
theorem zw_2_7 : Cond.instantiable (cn 2) (vN 2) ∈ lw_tbl := lw_at_mem (j := 2) (k := 7) rfl
theorem zw_2_75 : Cond.instantiable (cn 1) (vN 1) ∈ lw_tbl := lw_at_mem (j := 2) (k := 75) rfl
theorem zw_2_76 : Cond.methodLinkNest (cn 11) 106 yX1_init "PostTurns" ∈ lw_tbl := lw_at_mem (j := 2) (k := 76) rfl
theorem zw_2_77 : Cond.instanceMethod yX1_init ∈ lw_tbl := lw_at_mem (j := 2) (k := 77) rfl
theorem zw_2_78 : Cond.code yX1_init cX1_init 1 none ∈ lw_tbl := lw_at_mem (j := 2) (k := 78) rfl
theorem zw_2_8 : Cond.methodLink (cn 11) 104 yX2_init ∈ lw_tbl := lw_at_mem (j := 2) (k := 8) rfl
theorem zw_2_9 : Cond.instanceMethod yX2_init ∈ lw_tbl := lw_at_mem (j := 2) (k := 9) rfl
theorem dz11_0 : decode cX11_init 0 = .ok (.aload_n 0, 1) := by decide +kernel
theorem dz11_1 : decode cX11_init 1 = .ok (.invokespecial 1, 3) := by decide +kernel
theorem dz11_4 : decode cX11_init 4 = .ok (.aload_n 0, 1) := by decide +kernel
theorem dz11_5 : decode cX11_init 5 = .ok (.iconst 0, 1) := by decide +kernel
theorem dz11_6 : decode cX11_init 6 = .ok (.putfield 7, 3) := by decide +kernel
theorem dz11_9 : decode cX11_init 9 = .ok (.aload_n 0, 1) := by decide +kernel
theorem dz11_10 : decode cX11_init 10 = .ok (.iconst 3, 1) := by decide +kernel
theorem dz11_11 : decode cX11_init 11 = .ok (.anewarray 13, 3) := by decide +kernel
theorem dz11_14 : decode cX11_init 14 = .ok (.putfield 15, 3) := by decide +kernel
theorem dz11_17 : decode cX11_init 17 = .ok (.aload_n 0, 1) := by decide +kernel
theorem dz11_18 : decode cX11_init 18 = .ok (.iconst 0, 1) := by decide +kernel
theorem dz11_19 : decode cX11_init 19 = .ok (.putfield 19, 3) := by decide +kernel
theorem dz11_22 : decode cX11_init 22 = .ok (.aload_n 0, 1) := by decide +kernel
theorem dz11_23 : decode cX11_init 23 = .ok (.bipush 12, 2) := by decide +kernel
theorem dz11_25 : decode cX11_init 25 = .ok (.anewarray 22, 3) := by decide +kernel
theorem dz11_28 : decode cX11_init 28 = .ok (.putfield 24, 3) := by decide +kernel
theorem dz11_31 : decode cX11_init 31 = .ok (.aload_n 0, 1) := by decide +kernel
theorem dz11_32 : decode cX11_init 32 = .ok (.iconst 0, 1) := by decide +kernel
theorem dz11_33 : decode cX11_init 33 = .ok (.putfield 28, 3) := by decide +kernel
theorem dz11_36 : decode cX11_init 36 = .ok (.aload_n 0, 1) := by decide +kernel
theorem dz11_37 : decode cX11_init 37 = .ok (.new 31, 3) := by decide +kernel
theorem dz11_40 : decode cX11_init 40 = .ok (.dup, 1) := by decide +kernel
theorem dz11_41 : decode cX11_init 41 = .ok (.invokespecial 33, 3) := by decide +kernel
theorem dz11_44 : decode cX11_init 44 = .ok (.putfield 34, 3) := by decide +kernel
theorem dz11_47 : decode cX11_init 47 = .ok (.aload_n 0, 1) := by decide +kernel
theorem dz11_48 : decode cX11_init 48 = .ok (.aload_n 0, 1) := by decide +kernel
theorem dz11_49 : decode cX11_init 49 = .ok (.getfield 34, 3) := by decide +kernel
theorem dz11_52 : decode cX11_init 52 = .ok (.getfield 38, 3) := by decide +kernel
theorem dz11_55 : decode cX11_init 55 = .ok (.putfield 42, 3) := by decide +kernel
theorem dz11_58 : decode cX11_init 58 = .ok (.aload_n 0, 1) := by decide +kernel
theorem dz11_59 : decode cX11_init 59 = .ok (.iconst 0, 1) := by decide +kernel
theorem dz11_60 : decode cX11_init 60 = .ok (.putfield 43, 3) := by decide +kernel
theorem dz11_63 : decode cX11_init 63 = .ok (.aload_n 0, 1) := by decide +kernel
theorem dz11_64 : decode cX11_init 64 = .ok (.sipush 150, 3) := by decide +kernel
theorem dz11_67 : decode cX11_init 67 = .ok (.anewarray 46, 3) := by decide +kernel
theorem dz11_70 : decode cX11_init 70 = .ok (.putfield 48, 3) := by decide +kernel
theorem dz11_73 : decode cX11_init 73 = .ok (.aload_n 0, 1) := by decide +kernel
theorem dz11_74 : decode cX11_init 74 = .ok (.iconst 0, 1) := by decide +kernel
theorem dz11_75 : decode cX11_init 75 = .ok (.putfield 52, 3) := by decide +kernel
theorem dz11_78 : decode cX11_init 78 = .ok (.aload_n 0, 1) := by decide +kernel
theorem dz11_79 : decode cX11_init 79 = .ok (.sipush 300, 3) := by decide +kernel
theorem dz11_82 : decode cX11_init 82 = .ok (.anewarray 55, 3) := by decide +kernel
theorem dz11_85 : decode cX11_init 85 = .ok (.putfield 57, 3) := by decide +kernel
theorem dz11_88 : decode cX11_init 88 = .ok (.aload_n 0, 1) := by decide +kernel
theorem dz11_89 : decode cX11_init 89 = .ok (.iconst 0, 1) := by decide +kernel
theorem dz11_90 : decode cX11_init 90 = .ok (.putfield 61, 3) := by decide +kernel
theorem dz11_93 : decode cX11_init 93 = .ok (.aload_n 0, 1) := by decide +kernel
theorem dz11_94 : decode cX11_init 94 = .ok (.bipush 20, 2) := by decide +kernel
theorem dz11_96 : decode cX11_init 96 = .ok (.anewarray 64, 3) := by decide +kernel
theorem dz11_99 : decode cX11_init 99 = .ok (.putfield 66, 3) := by decide +kernel
theorem dz11_102 : decode cX11_init 102 = .ok (.aload_n 0, 1) := by decide +kernel
theorem dz11_103 : decode cX11_init 103 = .ok (.iconst 0, 1) := by decide +kernel
theorem dz11_104 : decode cX11_init 104 = .ok (.putfield 70, 3) := by decide +kernel
theorem dz11_107 : decode cX11_init 107 = .ok (.aload_n 0, 1) := by decide +kernel
theorem dz11_108 : decode cX11_init 108 = .ok (.new 73, 3) := by decide +kernel
theorem dz11_111 : decode cX11_init 111 = .ok (.dup, 1) := by decide +kernel
theorem dz11_112 : decode cX11_init 112 = .ok (.invokespecial 75, 3) := by decide +kernel
theorem dz11_115 : decode cX11_init 115 = .ok (.putfield 76, 3) := by decide +kernel
theorem dz11_118 : decode cX11_init 118 = .ok (.aload_n 0, 1) := by decide +kernel
theorem dz11_119 : decode cX11_init 119 = .ok (.bipush 11, 2) := by decide +kernel
theorem dz11_121 : decode cX11_init 121 = .ok (.newarray .int, 2) := by decide +kernel
theorem dz11_123 : decode cX11_init 123 = .ok (.putfield 80, 3) := by decide +kernel
theorem dz11_126 : decode cX11_init 126 = .ok (.aload_n 0, 1) := by decide +kernel
theorem dz11_127 : decode cX11_init 127 = .ok (.new 84, 3) := by decide +kernel
theorem dz11_130 : decode cX11_init 130 = .ok (.dup, 1) := by decide +kernel
theorem dz11_131 : decode cX11_init 131 = .ok (.invokespecial 86, 3) := by decide +kernel
theorem dz11_134 : decode cX11_init 134 = .ok (.putfield 87, 3) := by decide +kernel
theorem dz11_137 : decode cX11_init 137 = .ok (.aload_n 0, 1) := by decide +kernel
theorem dz11_138 : decode cX11_init 138 = .ok (.new 91, 3) := by decide +kernel
theorem dz11_141 : decode cX11_init 141 = .ok (.dup, 1) := by decide +kernel
theorem dz11_142 : decode cX11_init 142 = .ok (.invokespecial 93, 3) := by decide +kernel
theorem dz11_145 : decode cX11_init 145 = .ok (.putfield 94, 3) := by decide +kernel
theorem dz11_148 : decode cX11_init 148 = .ok (.aload_n 0, 1) := by decide +kernel
theorem dz11_149 : decode cX11_init 149 = .ok (.bipush 6, 2) := by decide +kernel
theorem dz11_151 : decode cX11_init 151 = .ok (.anewarray 98, 3) := by decide +kernel
theorem dz11_154 : decode cX11_init 154 = .ok (.putfield 100, 3) := by decide +kernel
theorem dz11_157 : decode cX11_init 157 = .ok (.iconst 0, 1) := by decide +kernel
theorem dz11_158 : decode cX11_init 158 = .ok (.istore_n 1, 1) := by decide +kernel
theorem dz11_159 : decode cX11_init 159 = .ok (.iload_n 1, 1) := by decide +kernel
theorem dz11_160 : decode cX11_init 160 = .ok (.iconst 3, 1) := by decide +kernel
theorem dz11_161 : decode cX11_init 161 = .ok (.if_icmp .ge 22, 3) := by decide +kernel
theorem dz11_164 : decode cX11_init 164 = .ok (.aload_n 0, 1) := by decide +kernel
theorem dz11_165 : decode cX11_init 165 = .ok (.getfield 15, 3) := by decide +kernel
theorem dz11_168 : decode cX11_init 168 = .ok (.iload_n 1, 1) := by decide +kernel
theorem dz11_169 : decode cX11_init 169 = .ok (.new 13, 3) := by decide +kernel
theorem dz11_172 : decode cX11_init 172 = .ok (.dup, 1) := by decide +kernel
theorem dz11_173 : decode cX11_init 173 = .ok (.invokespecial 104, 3) := by decide +kernel
theorem dz11_176 : decode cX11_init 176 = .ok (.aastore, 1) := by decide +kernel
theorem dz11_177 : decode cX11_init 177 = .ok (.iinc 1 1, 3) := by decide +kernel
theorem dz11_180 : decode cX11_init 180 = .ok (.goto (-21), 3) := by decide +kernel
theorem dz11_183 : decode cX11_init 183 = .ok (.iconst 0, 1) := by decide +kernel
theorem dz11_184 : decode cX11_init 184 = .ok (.istore_n 1, 1) := by decide +kernel
theorem dz11_185 : decode cX11_init 185 = .ok (.iload_n 1, 1) := by decide +kernel
theorem dz11_186 : decode cX11_init 186 = .ok (.bipush 12, 2) := by decide +kernel
theorem dz11_188 : decode cX11_init 188 = .ok (.if_icmp .ge 22, 3) := by decide +kernel
theorem dz11_191 : decode cX11_init 191 = .ok (.aload_n 0, 1) := by decide +kernel
theorem dz11_192 : decode cX11_init 192 = .ok (.getfield 24, 3) := by decide +kernel
theorem dz11_195 : decode cX11_init 195 = .ok (.iload_n 1, 1) := by decide +kernel
theorem dz11_196 : decode cX11_init 196 = .ok (.new 22, 3) := by decide +kernel
theorem dz11_199 : decode cX11_init 199 = .ok (.dup, 1) := by decide +kernel
theorem dz11_200 : decode cX11_init 200 = .ok (.invokespecial 105, 3) := by decide +kernel
theorem dz11_203 : decode cX11_init 203 = .ok (.aastore, 1) := by decide +kernel
theorem dz11_204 : decode cX11_init 204 = .ok (.iinc 1 1, 3) := by decide +kernel
theorem dz11_207 : decode cX11_init 207 = .ok (.goto (-22), 3) := by decide +kernel
theorem dz11_210 : decode cX11_init 210 = .ok (.iconst 0, 1) := by decide +kernel
theorem dz11_211 : decode cX11_init 211 = .ok (.istore_n 1, 1) := by decide +kernel
theorem dz11_212 : decode cX11_init 212 = .ok (.iload_n 1, 1) := by decide +kernel
theorem dz11_213 : decode cX11_init 213 = .ok (.sipush 150, 3) := by decide +kernel
theorem dz11_216 : decode cX11_init 216 = .ok (.if_icmp .ge 22, 3) := by decide +kernel
theorem dz11_219 : decode cX11_init 219 = .ok (.aload_n 0, 1) := by decide +kernel
theorem dz11_220 : decode cX11_init 220 = .ok (.getfield 48, 3) := by decide +kernel
theorem dz11_223 : decode cX11_init 223 = .ok (.iload_n 1, 1) := by decide +kernel
theorem dz11_224 : decode cX11_init 224 = .ok (.new 46, 3) := by decide +kernel
theorem dz11_227 : decode cX11_init 227 = .ok (.dup, 1) := by decide +kernel
theorem dz11_228 : decode cX11_init 228 = .ok (.invokespecial 106, 3) := by decide +kernel
theorem dz11_231 : decode cX11_init 231 = .ok (.aastore, 1) := by decide +kernel
theorem dz11_232 : decode cX11_init 232 = .ok (.iinc 1 1, 3) := by decide +kernel
theorem dz11_235 : decode cX11_init 235 = .ok (.goto (-23), 3) := by decide +kernel
theorem dz11_238 : decode cX11_init 238 = .ok (.iconst 0, 1) := by decide +kernel
theorem dz11_239 : decode cX11_init 239 = .ok (.istore_n 1, 1) := by decide +kernel
theorem dz11_240 : decode cX11_init 240 = .ok (.iload_n 1, 1) := by decide +kernel
theorem dz11_241 : decode cX11_init 241 = .ok (.sipush 300, 3) := by decide +kernel
theorem dz11_244 : decode cX11_init 244 = .ok (.if_icmp .ge 22, 3) := by decide +kernel
theorem dz11_247 : decode cX11_init 247 = .ok (.aload_n 0, 1) := by decide +kernel
theorem dz11_248 : decode cX11_init 248 = .ok (.getfield 57, 3) := by decide +kernel
theorem dz11_251 : decode cX11_init 251 = .ok (.iload_n 1, 1) := by decide +kernel
theorem dz11_252 : decode cX11_init 252 = .ok (.new 55, 3) := by decide +kernel
theorem dz11_255 : decode cX11_init 255 = .ok (.dup, 1) := by decide +kernel
theorem dz11_256 : decode cX11_init 256 = .ok (.invokespecial 107, 3) := by decide +kernel
theorem dz11_259 : decode cX11_init 259 = .ok (.aastore, 1) := by decide +kernel
theorem dz11_260 : decode cX11_init 260 = .ok (.iinc 1 1, 3) := by decide +kernel
theorem dz11_263 : decode cX11_init 263 = .ok (.goto (-23), 3) := by decide +kernel
theorem dz11_266 : decode cX11_init 266 = .ok (.iconst 0, 1) := by decide +kernel
theorem dz11_267 : decode cX11_init 267 = .ok (.istore_n 1, 1) := by decide +kernel
theorem dz11_268 : decode cX11_init 268 = .ok (.iload_n 1, 1) := by decide +kernel
theorem dz11_269 : decode cX11_init 269 = .ok (.bipush 20, 2) := by decide +kernel
theorem dz11_271 : decode cX11_init 271 = .ok (.if_icmp .ge 22, 3) := by decide +kernel
theorem dz11_274 : decode cX11_init 274 = .ok (.aload_n 0, 1) := by decide +kernel
theorem dz11_275 : decode cX11_init 275 = .ok (.getfield 66, 3) := by decide +kernel
theorem dz11_278 : decode cX11_init 278 = .ok (.iload_n 1, 1) := by decide +kernel
theorem dz11_279 : decode cX11_init 279 = .ok (.new 64, 3) := by decide +kernel
theorem dz11_282 : decode cX11_init 282 = .ok (.dup, 1) := by decide +kernel
theorem dz11_283 : decode cX11_init 283 = .ok (.invokespecial 108, 3) := by decide +kernel
theorem dz11_286 : decode cX11_init 286 = .ok (.aastore, 1) := by decide +kernel
theorem dz11_287 : decode cX11_init 287 = .ok (.iinc 1 1, 3) := by decide +kernel
theorem dz11_290 : decode cX11_init 290 = .ok (.goto (-22), 3) := by decide +kernel
theorem dz11_293 : decode cX11_init 293 = .ok (.iconst 0, 1) := by decide +kernel
theorem dz11_294 : decode cX11_init 294 = .ok (.istore_n 1, 1) := by decide +kernel
theorem dz11_295 : decode cX11_init 295 = .ok (.iload_n 1, 1) := by decide +kernel
theorem dz11_296 : decode cX11_init 296 = .ok (.bipush 6, 2) := by decide +kernel
theorem dz11_298 : decode cX11_init 298 = .ok (.if_icmp .ge 22, 3) := by decide +kernel
theorem dz11_301 : decode cX11_init 301 = .ok (.aload_n 0, 1) := by decide +kernel
theorem dz11_302 : decode cX11_init 302 = .ok (.getfield 100, 3) := by decide +kernel
theorem dz11_305 : decode cX11_init 305 = .ok (.iload_n 1, 1) := by decide +kernel
theorem dz11_306 : decode cX11_init 306 = .ok (.new 98, 3) := by decide +kernel
theorem dz11_309 : decode cX11_init 309 = .ok (.dup, 1) := by decide +kernel
theorem dz11_310 : decode cX11_init 310 = .ok (.invokespecial 109, 3) := by decide +kernel
theorem dz11_313 : decode cX11_init 313 = .ok (.aastore, 1) := by decide +kernel
theorem dz11_314 : decode cX11_init 314 = .ok (.iinc 1 1, 3) := by decide +kernel
theorem dz11_317 : decode cX11_init 317 = .ok (.goto (-22), 3) := by decide +kernel
theorem dz11_320 : decode cX11_init 320 = .ok (.return_, 1) := by decide +kernel
def zb11 (ca : Nat → ClassId) (a : Nat) : va_W := [(a, .inr (11, [.int (Int32.ofInt 0), .ref (a + 1), .int (Int32.ofInt 0), .ref (a + 2), .int (Int32.ofInt 0), .ref (a + 3), .ref (a + 3 + 1), .int (Int32.ofInt 0), .ref (a + 137), .int (Int32.ofInt 0), .ref (a + 138), .int (Int32.ofInt 0), .ref (a + 139), .int (Int32.ofInt 0), .ref (a + 140), .ref (a + 142), .ref (a + 143), .ref (a + 152), .ref (a + 154)])), (a + 1, .inl (ca 4, 3, .inr (.inr (.inr (.inr fun _ => none))))), (a + 2, .inl (ca 5, 12, .inr (.inr (.inr (.inr fun _ => none))))), (a + 3, .inr (4, [.ref (a + 3 + 1), .ref (a + 3 + 2), .int (Int32.ofInt 0), .ref (a + 3 + 3), .ref (a + 3 + 4), .ref (a + 3 + 5), .ref (a + 3 + 6), .ref (a + 3 + 7), .ref (a + 3 + 8), .ref (a + 3 + 9), .ref (a + 3 + 10), .ref (a + 3 + 11), .ref (a + 3 + 12), .ref (a + 3 + 13)])), (a + 3 + 1, .inl (ca 7, 40, .inr (.inr (.inr (.inr (fun j => if j < 40 then some (a + 3 + 14 + 3 * j) else none)))))), (a + 3 + 2, .inl (ca 0, zar 0 40)), (a + 3 + 3, .inl (ca 0, zar 0 40)), (a + 3 + 4, .inl (ca 0, zar 0 40)), (a + 3 + 5, .inl (ca 0, zar 0 40)), (a + 3 + 6, .inl (ca 0, zar 0 40)), (a + 3 + 7, .inl (ca 0, zar 0 40)), (a + 3 + 8, .inl (ca 0, zar 0 40)), (a + 3 + 9, .inl (ca 0, zar 0 40)), (a + 3 + 10, .inl (ca 1, zar 1 40)), (a + 3 + 11, .inl (ca 0, zar 0 48)), (a + 3 + 12, .inl (ca 0, zar 0 48)), (a + 3 + 13, .inl (ca 1, zar 1 48)), (a + 137, .inl (ca 3, 150, .inr (.inr (.inr (.inr fun _ => none))))), (a + 138, .inl (ca 6, 300, .inr (.inr (.inr (.inr fun _ => none))))), (a + 139, .inl (ca 8, 20, .inr (.inr (.inr (.inr fun _ => none))))), (a + 140, .inr (9, [.int (Int32.ofInt 0), .ref (a + 140 + 1), .int (Int32.ofInt 0)])), (a + 140 + 1, .inl (ca 0, zar 0 160)), (a + 142, .inl (ca 0, zar 0 11)), (a + 143, .inr (10, [.int (Int32.ofInt 0), .int (Int32.ofInt 0), .ref (a + 143 + 1), .ref (a + 143 + 2), .ref (a + 143 + 3), .ref (a + 143 + 4), .ref (a + 143 + 5), .ref (a + 143 + 6), .ref (a + 143 + 7), .ref (a + 143 + 8)])), (a + 143 + 1, .inl (ca 0, zar 0 3)), (a + 143 + 2, .inl (ca 0, zar 0 3)), (a + 143 + 3, .inl (ca 0, zar 0 12)), (a + 143 + 4, .inl (ca 0, zar 0 12)), (a + 143 + 5, .inl (ca 0, zar 0 12)), (a + 143 + 6, .inl (ca 0, zar 0 12)), (a + 143 + 7, .inl (ca 0, zar 0 3)), (a + 143 + 8, .inl (ca 0, zar 0 3)), (a + 152, .inr (0, [.ref (a + 152 + 1), .int (Int32.ofInt 0), .int (Int32.ofInt 0), .int (Int32.ofInt 0), .int (Int32.ofInt 0), .int (Int32.ofInt 1)])), (a + 152 + 1, .inl (ca 0, zar 0 24)), (a + 154, .inl (ca 9, 6, .inr (.inr (.inr (.inr fun _ => none)))))]
def ze11 (ca : Nat → ClassId) (a : Nat) : va_W := [(a, .inr (11, [.int (Int32.ofInt 0), .ref (a + 1), .int (Int32.ofInt 0), .ref (a + 2), .int (Int32.ofInt 0), .ref (a + 3), .ref (a + 3 + 1), .int (Int32.ofInt 0), .ref (a + 137), .int (Int32.ofInt 0), .ref (a + 138), .int (Int32.ofInt 0), .ref (a + 139), .int (Int32.ofInt 0), .ref (a + 140), .ref (a + 142), .ref (a + 143), .ref (a + 152), .ref (a + 154)])), (a + 1, .inl (ca 4, 3, .inr (.inr (.inr (.inr (fun j => if j < 3 then some (a + 155 + 3 * j) else none)))))), (a + 2, .inl (ca 5, 12, .inr (.inr (.inr (.inr (fun j => if j < 12 then some (a + 164 + 3 * j) else none)))))), (a + 3, .inr (4, [.ref (a + 3 + 1), .ref (a + 3 + 2), .int (Int32.ofInt 0), .ref (a + 3 + 3), .ref (a + 3 + 4), .ref (a + 3 + 5), .ref (a + 3 + 6), .ref (a + 3 + 7), .ref (a + 3 + 8), .ref (a + 3 + 9), .ref (a + 3 + 10), .ref (a + 3 + 11), .ref (a + 3 + 12), .ref (a + 3 + 13)])), (a + 3 + 1, .inl (ca 7, 40, .inr (.inr (.inr (.inr (fun j => if j < 40 then some (a + 3 + 14 + 3 * j) else none)))))), (a + 3 + 2, .inl (ca 0, zar 0 40)), (a + 3 + 3, .inl (ca 0, zar 0 40)), (a + 3 + 4, .inl (ca 0, zar 0 40)), (a + 3 + 5, .inl (ca 0, zar 0 40)), (a + 3 + 6, .inl (ca 0, zar 0 40)), (a + 3 + 7, .inl (ca 0, zar 0 40)), (a + 3 + 8, .inl (ca 0, zar 0 40)), (a + 3 + 9, .inl (ca 0, zar 0 40)), (a + 3 + 10, .inl (ca 1, zar 1 40)), (a + 3 + 11, .inl (ca 0, zar 0 48)), (a + 3 + 12, .inl (ca 0, zar 0 48)), (a + 3 + 13, .inl (ca 1, zar 1 48)), (a + 137, .inl (ca 3, 150, .inr (.inr (.inr (.inr (fun j => if j < 150 then some (a + 200 + 1 * j) else none)))))), (a + 138, .inl (ca 6, 300, .inr (.inr (.inr (.inr (fun j => if j < 300 then some (a + 350 + 1 * j) else none)))))), (a + 139, .inl (ca 8, 20, .inr (.inr (.inr (.inr (fun j => if j < 20 then some (a + 650 + 3 * j) else none)))))), (a + 140, .inr (9, [.int (Int32.ofInt 0), .ref (a + 140 + 1), .int (Int32.ofInt 0)])), (a + 140 + 1, .inl (ca 0, zar 0 160)), (a + 142, .inl (ca 0, zar 0 11)), (a + 143, .inr (10, [.int (Int32.ofInt 0), .int (Int32.ofInt 0), .ref (a + 143 + 1), .ref (a + 143 + 2), .ref (a + 143 + 3), .ref (a + 143 + 4), .ref (a + 143 + 5), .ref (a + 143 + 6), .ref (a + 143 + 7), .ref (a + 143 + 8)])), (a + 143 + 1, .inl (ca 0, zar 0 3)), (a + 143 + 2, .inl (ca 0, zar 0 3)), (a + 143 + 3, .inl (ca 0, zar 0 12)), (a + 143 + 4, .inl (ca 0, zar 0 12)), (a + 143 + 5, .inl (ca 0, zar 0 12)), (a + 143 + 6, .inl (ca 0, zar 0 12)), (a + 143 + 7, .inl (ca 0, zar 0 3)), (a + 143 + 8, .inl (ca 0, zar 0 3)), (a + 152, .inr (0, [.ref (a + 152 + 1), .int (Int32.ofInt 0), .int (Int32.ofInt 0), .int (Int32.ofInt 0), .int (Int32.ofInt 0), .int (Int32.ofInt 1)])), (a + 152 + 1, .inl (ca 0, zar 0 24)), (a + 154, .inl (ca 9, 6, .inr (.inr (.inr (.inr (fun j => if j < 6 then some (a + 710 + 2 * j) else none))))))]
def zf11 (ca : Nat → ClassId) (a : Nat) : va_W := ((((((zf4 ca (a + 3) ++ (List.range 3).flatMap (fun q => zo2 ca (a + 155 + 3 * q))) ++ (List.range 12).flatMap (fun q => zo3 ca (a + 164 + 3 * q))) ++ (List.range 150).flatMap (fun q => zo1 ca (a + 200 + 1 * q))) ++ (List.range 300).flatMap (fun q => zo5 ca (a + 350 + 1 * q))) ++ (List.range 20).flatMap (fun q => zo7 ca (a + 650 + 3 * q))) ++ (List.range 6).flatMap (fun q => zo8 ca (a + 710 + 2 * q)))
def zo11 (ca : Nat → ClassId) (a : Nat) : va_W := ze11 ca a ++ zf11 ca a
set_option maxHeartbeats 4000000 in
set_option maxRecDepth 20000 in
theorem zc11 (l : Launch) (D : va_G) (ca : Nat → ClassId) (a : Nat) : Zct l D ca yX11_init cX11_init 2 3 53 721 13392 11 (zfs [none, some 1, none, some 2, none, some 3, some 4, none, some 20, none, some 21, none, some 22, none, some 23, some 25, some 26, some 35, some 37]) a (zo11 ca a) := by
  refine zct_of (own := 11) rfl rfl (by decide) (by decide) ?_
  intro p e s m args below meth c Q Z hml hret ls H hl hW
  have h0 := lv_at hl 0 rfl
  obtain ⟨hx, hb, ht, hown, hKt, hA, hmn, hAO⟩ := id Z
  refine lv_aload_n hx hb dz11_0 rfl h0 ?_
  refine W.objInit hx hb hown (ht _ zw_1_28 rfl) (ht _ zw_1_29 rfl) (ht _ zw_1_30 rfl) rfl (by rw [hml]; exact hl.1) rfl dz11_1 (Nat.le_of_ble_eq_true rfl) (Nat.le_of_ble_eq_true rfl) ?_
  refine W.eq (g2 := F0 m 4 ls []) rfl ?_
  refine z_i (v := Int32.ofInt 0) (ty := .int) Z h0 dz11_4 (zp_c hx hb dz11_5 rfl) rfl (by decide) (Nat.le_of_ble_eq_true rfl) (fun _ => rfl) (by decide +kernel) rfl rfl dz11_6 hW (fun H locs hW => ?_)
  refine z_q (v := nI 3) (N := 3) (j := 4) (C := cn 2) (ty := .object (cn 2)) Z h0 dz11_9 (zp_c hx hb dz11_10 (by decide +kernel)) rfl zw_1_31 zw_1_32 (nI_pos (by decide)) (nI_clamp (by decide)) (by decide) (Nat.le_of_ble_eq_true rfl) (Nat.le_of_ble_eq_true rfl) dz11_11 rfl (by decide) (Nat.le_of_ble_eq_true rfl) (fun _ => rfl) (by decide +kernel) dz11_14 hW (fun H locs hW => ?_)
  refine z_i (v := Int32.ofInt 0) (ty := .int) Z h0 dz11_17 (zp_c hx hb dz11_18 rfl) rfl (by decide) (Nat.le_of_ble_eq_true rfl) (fun _ => rfl) (by decide +kernel) rfl rfl dz11_19 hW (fun H locs hW => ?_)
  refine z_q (v := nI 12) (N := 12) (j := 5) (C := cn 3) (ty := .object (cn 3)) Z h0 dz11_22 (zp_b hx hb dz11_23 (by decide +kernel)) rfl zw_1_33 zw_1_34 (nI_pos (by decide)) (nI_clamp (by decide)) (by decide) (Nat.le_of_ble_eq_true rfl) (Nat.le_of_ble_eq_true rfl) dz11_25 rfl (by decide) (Nat.le_of_ble_eq_true rfl) (fun _ => rfl) (by decide +kernel) dz11_28 hW (fun H locs hW => ?_)
  refine z_i (v := Int32.ofInt 0) (ty := .int) Z h0 dz11_31 (zp_c hx hb dz11_32 rfl) rfl (by decide) (Nat.le_of_ble_eq_true rfl) (fun _ => rfl) (by decide +kernel) rfl rfl dz11_33 hW (fun H locs hW => ?_)
  refine z_n (rT := (some 4, [some 4, some 5, none, some 6, some 7, some 8, some 9, some 10, some 11, some 12, some 13, some 14, some 15, some 16], none, none, 1)) (ty := .object (cn 4)) (out := fun q => zo4 ca q) Z hml hl.1 h0 dz11_36 dz11_37 dz11_40 dz11_41 dz11_44 (zck 3 (by decide)) rfl rfl (by decide) zw_1_35 zw_1_36 zw_1_2 (fun q => zc4 l D ca q) rfl rfl ⟨by decide, by decide, by decide +kernel⟩ (.inl zw_1_37) zw_1_38 zw_1_39 ⟨Nat.le_of_ble_eq_true rfl, Nat.le_of_ble_eq_true rfl⟩ ⟨Nat.le_of_ble_eq_true rfl, Nat.le_of_ble_eq_true rfl⟩ rfl (by decide) (Nat.le_of_ble_eq_true rfl) (fun _ => rfl) (by decide +kernel) (fun q => ⟨rfl, rfl⟩) (by decide) hW (fun H locs hW => ?_)
  try dsimp only at hW
  refine lv_aload_n hx hb dz11_47 rfl h0 ?_
  refine lv_aload_n hx hb dz11_48 rfl h0 ?_
  refine z_get hx hb ht hown hKt (q0 := 0) rfl (by decide) rfl rfl dz11_49 hW ?_
  refine z_get hx hb ht hown hKt (q0 := 3) (v := .ref (a + 3 + 1)) rfl (by decide) rfl rfl dz11_52 hW ?_
  refine z_put hx hb ht hown hKt hmn (ty := .array (.object (cn 6))) rfl (by decide) (Nat.le_of_ble_eq_true rfl) (fun _ => rfl) (by decide +kernel) rfl rfl (q0 := 0) rfl dz11_55 hW (fun H locs hW => ?_)
  rw [List.set_cons_zero] at hW
  refine z_i (v := Int32.ofInt 0) (ty := .int) Z h0 dz11_58 (zp_c hx hb dz11_59 rfl) rfl (by decide) (Nat.le_of_ble_eq_true rfl) (fun _ => rfl) (by decide +kernel) rfl rfl dz11_60 hW (fun H locs hW => ?_)
  refine z_q (v := nI 150) (N := 150) (j := 3) (C := cn 1) (ty := .object (cn 1)) Z h0 dz11_63 (zp_s hx hb dz11_64 (by decide +kernel)) rfl zw_1_148 zw_1_149 (nI_pos (by decide)) (nI_clamp (by decide)) (by decide) (Nat.le_of_ble_eq_true rfl) (Nat.le_of_ble_eq_true rfl) dz11_67 rfl (by decide) (Nat.le_of_ble_eq_true rfl) (fun _ => rfl) (by decide +kernel) dz11_70 hW (fun H locs hW => ?_)
  refine z_i (v := Int32.ofInt 0) (ty := .int) Z h0 dz11_73 (zp_c hx hb dz11_74 rfl) rfl (by decide) (Nat.le_of_ble_eq_true rfl) (fun _ => rfl) (by decide +kernel) rfl rfl dz11_75 hW (fun H locs hW => ?_)
  refine z_q (v := nI 300) (N := 300) (j := 6) (C := cn 5) (ty := .object (cn 5)) Z h0 dz11_78 (zp_s hx hb dz11_79 (by decide +kernel)) rfl zw_1_150 zw_1_151 (nI_pos (by decide)) (nI_clamp (by decide)) (by decide) (Nat.le_of_ble_eq_true rfl) (Nat.le_of_ble_eq_true rfl) dz11_82 rfl (by decide) (Nat.le_of_ble_eq_true rfl) (fun _ => rfl) (by decide +kernel) dz11_85 hW (fun H locs hW => ?_)
  refine z_i (v := Int32.ofInt 0) (ty := .int) Z h0 dz11_88 (zp_c hx hb dz11_89 rfl) rfl (by decide) (Nat.le_of_ble_eq_true rfl) (fun _ => rfl) (by decide +kernel) rfl rfl dz11_90 hW (fun H locs hW => ?_)
  refine z_q (v := nI 20) (N := 20) (j := 8) (C := cn 7) (ty := .object (cn 7)) Z h0 dz11_93 (zp_b hx hb dz11_94 (by decide +kernel)) rfl zw_1_152 zw_1_153 (nI_pos (by decide)) (nI_clamp (by decide)) (by decide) (Nat.le_of_ble_eq_true rfl) (Nat.le_of_ble_eq_true rfl) dz11_96 rfl (by decide) (Nat.le_of_ble_eq_true rfl) (fun _ => rfl) (by decide +kernel) dz11_99 hW (fun H locs hW => ?_)
  refine z_i (v := Int32.ofInt 0) (ty := .int) Z h0 dz11_102 (zp_c hx hb dz11_103 rfl) rfl (by decide) (Nat.le_of_ble_eq_true rfl) (fun _ => rfl) (by decide +kernel) rfl rfl dz11_104 hW (fun H locs hW => ?_)
  refine z_n (rT := (some 9, [none, some 24, none], none, none, 1)) (ty := .object (cn 9)) (out := fun q => zo9 ca q) Z hml hl.1 h0 dz11_107 dz11_108 dz11_111 dz11_112 dz11_115 (zck 23 (by decide)) rfl rfl (by decide) zw_1_154 zw_1_155 zw_1_4 (fun q => zc9 l D ca q) rfl rfl ⟨by decide, by decide, by decide +kernel⟩ (.inr ⟨_, zw_1_156⟩) zw_1_157 zw_1_158 ⟨Nat.le_of_ble_eq_true rfl, Nat.le_of_ble_eq_true rfl⟩ ⟨Nat.le_of_ble_eq_true rfl, Nat.le_of_ble_eq_true rfl⟩ rfl (by decide) (Nat.le_of_ble_eq_true rfl) (fun _ => rfl) (by decide +kernel) (fun q => ⟨rfl, rfl⟩) (by decide) hW (fun H locs hW => ?_)
  try dsimp only at hW
  refine z_a (v := nI 11) (N := 11) (srt := 0) (ty := zty 0) Z h0 dz11_118 (zp_b hx hb dz11_119 (by decide +kernel)) (by decide) zw_1_100 (nI_pos (by decide)) (nI_clamp (by decide)) (by decide) (Nat.le_of_ble_eq_true rfl) (Nat.le_of_ble_eq_true rfl) dz11_121 rfl (by decide) (Nat.le_of_ble_eq_true rfl) (fun _ => rfl) (by decide +kernel) dz11_123 hW (fun H locs hW => ?_)
  refine z_n (rT := (some 10, [none, none, some 27, some 28, some 29, some 30, some 31, some 32, some 33, some 34], none, none, 1)) (ty := .object (cn 10)) (out := fun q => zo10 ca q) Z hml hl.1 h0 dz11_126 dz11_127 dz11_130 dz11_131 dz11_134 (zck 26 (by decide)) rfl rfl (by decide) zw_1_171 zw_1_172 zw_1_5 (fun q => zc10 l D ca q) rfl rfl ⟨by decide, by decide, by decide +kernel⟩ (.inr ⟨_, zw_1_173⟩) zw_1_174 zw_1_175 ⟨Nat.le_of_ble_eq_true rfl, Nat.le_of_ble_eq_true rfl⟩ ⟨Nat.le_of_ble_eq_true rfl, Nat.le_of_ble_eq_true rfl⟩ rfl (by decide) (Nat.le_of_ble_eq_true rfl) (fun _ => rfl) (by decide +kernel) (fun q => ⟨rfl, rfl⟩) (by decide) hW (fun H locs hW => ?_)
  try dsimp only at hW
  refine z_n (rT := (some 0, [some 36, none, none, none, none, none], none, none, 1)) (ty := .object (cn 0)) (out := fun q => zo0 ca q) Z hml hl.1 h0 dz11_137 dz11_138 dz11_141 dz11_142 dz11_145 (zck 35 (by decide)) rfl rfl (by decide) zw_1_218 zw_1_219 zw_1_6 (fun q => zc0 l D ca q) rfl rfl ⟨by decide, by decide, by decide +kernel⟩ (.inr ⟨_, zw_1_220⟩) zw_1_221 zw_1_222 ⟨Nat.le_of_ble_eq_true rfl, Nat.le_of_ble_eq_true rfl⟩ ⟨Nat.le_of_ble_eq_true rfl, Nat.le_of_ble_eq_true rfl⟩ rfl (by decide) (Nat.le_of_ble_eq_true rfl) (fun _ => rfl) (by decide +kernel) (fun q => ⟨rfl, rfl⟩) (by decide) hW (fun H locs hW => ?_)
  try dsimp only at hW
  refine z_q (v := nI 6) (N := 6) (j := 9) (C := cn 8) (ty := .object (cn 8)) Z h0 dz11_148 (zp_b hx hb dz11_149 (by decide +kernel)) rfl zw_2_5 zw_2_6 (nI_pos (by decide)) (nI_clamp (by decide)) (by decide) (Nat.le_of_ble_eq_true rfl) (Nat.le_of_ble_eq_true rfl) dz11_151 rfl (by decide) (Nat.le_of_ble_eq_true rfl) (fun _ => rfl) (by decide +kernel) dz11_154 hW (fun H locs hW => ?_)
  have hW := hW.perm (w2 := zb11 ca a ++ zf4 ca (a + 3)) (by
    simp only [zo4, ze4, zb11, zo9, zo10, zo0, List.append_assoc, List.cons_append, List.nil_append]
    iterate 17 refine List.Perm.cons _ ?_
    exact List.perm_append_comm)
  refine lv_iconst (v := nI 0) hx hb dz11_157 (by decide +kernel) ?_
  refine lv_istore_n (lv' := [(1, .int (nI 0)), (0, .ref a)]) hx hb dz11_158 rfl hl (by decide) rfl (fun ls hl => ?_)
  have hW := Wd.ent (ws := zb11 ca a) (F := zf4 ca (a + 3)) (st := 3) (qa := 1) (aA := a + 1) (ct := ca 4) (N := 3) (n0 := a + 155) (out := fun q => zo2 ca (a + 155 + 3 * q)) hW rfl
  refine z_loop (ws := zb11 ca a) (F := zf4 ca (a + 3)) (rT := (some 2, [none, none, none, none, none, some 39, some 40], none, none, 3)) (N := 3) (st := 3) (n0 := a + 155) (vs := fun _ => _) (pc1 := 161) (pcx := 183) (out := fun q => zo2 ca (a + 155 + 3 * q)) (cells := 154) (slots := 4243) Z hml (by decide) (by decide) dz11_159 (zp_c hx hb dz11_160 (by decide +kernel)) dz11_161 (by decide) dz11_164 dz11_165 dz11_168 dz11_169 dz11_172 dz11_173 dz11_176 dz11_177 dz11_180 (by decide) rfl (by decide) rfl rfl rfl (by decide) (zck 38 (by decide)) rfl rfl (by decide) zw_1_31 zw_2_7 zw_1_7 (fun q _ => zc2 l D ca _) (fun q _ => rfl) rfl rfl rfl rfl ⟨by decide, by decide, by decide +kernel⟩ (.inl zw_2_8) zw_2_9 zw_2_10 ⟨Nat.le_of_ble_eq_true rfl, Nat.le_of_ble_eq_true rfl⟩ ⟨Nat.le_of_ble_eq_true rfl, Nat.le_of_ble_eq_true rfl⟩ (fun H locs ls hl hW => ?_) 3 0 rfl _ _ ls hl hW
  have hl := lv_sub hl [1] rfl
  have h0 := lv_at hl 0 rfl
  refine lv_iconst (v := nI 0) hx hb dz11_183 (by decide +kernel) ?_
  refine lv_istore_n (lv' := [(1, .int (nI 0)), (0, .ref a)]) hx hb dz11_184 rfl hl (by decide) rfl (fun ls hl => ?_)
  have hW := Wd.ent (ws := (zb11 ca a).set 1 (a + 1, .inl (ca 4, 3, .inr (.inr (.inr (.inr (fun j => if j < 3 then some (a + 155 + 3 * j) else none))))))) (F := (zf4 ca (a + 3) ++ (List.range 3).flatMap (fun q => zo2 ca (a + 155 + 3 * q)))) (st := 3) (qa := 2) (aA := a + 2) (ct := ca 5) (N := 12) (n0 := a + 164) (out := fun q => zo3 ca (a + 164 + 3 * q)) hW rfl
  refine z_loop (ws := (zb11 ca a).set 1 (a + 1, .inl (ca 4, 3, .inr (.inr (.inr (.inr (fun j => if j < 3 then some (a + 155 + 3 * j) else none))))))) (F := (zf4 ca (a + 3) ++ (List.range 3).flatMap (fun q => zo2 ca (a + 155 + 3 * q)))) (rT := (some 3, [none, none, none, none, none, some 42, some 43], none, none, 12)) (N := 12) (st := 3) (n0 := a + 164) (vs := fun _ => _) (pc1 := 188) (pcx := 210) (out := fun q => zo3 ca (a + 164 + 3 * q)) (cells := 163) (slots := 4552) Z hml (by decide) (by decide) dz11_185 (zp_b hx hb dz11_186 (by decide +kernel)) dz11_188 (by decide) dz11_191 dz11_192 dz11_195 dz11_196 dz11_199 dz11_200 dz11_203 dz11_204 dz11_207 (by decide) rfl (by decide) rfl rfl rfl (by decide) (zck 41 (by decide)) rfl rfl (by decide) zw_1_33 zw_2_41 zw_1_8 (fun q _ => zc3 l D ca _) (fun q _ => rfl) rfl rfl rfl rfl ⟨by decide, by decide, by decide +kernel⟩ (.inr ⟨_, zw_2_42⟩) zw_2_43 zw_2_44 ⟨Nat.le_of_ble_eq_true rfl, Nat.le_of_ble_eq_true rfl⟩ ⟨Nat.le_of_ble_eq_true rfl, Nat.le_of_ble_eq_true rfl⟩ (fun H locs ls hl hW => ?_) 12 0 rfl _ _ ls hl hW
  have hl := lv_sub hl [1] rfl
  have h0 := lv_at hl 0 rfl
  refine lv_iconst (v := nI 0) hx hb dz11_210 (by decide +kernel) ?_
  refine lv_istore_n (lv' := [(1, .int (nI 0)), (0, .ref a)]) hx hb dz11_211 rfl hl (by decide) rfl (fun ls hl => ?_)
  have hW := Wd.ent (ws := ((zb11 ca a).set 1 (a + 1, .inl (ca 4, 3, .inr (.inr (.inr (.inr (fun j => if j < 3 then some (a + 155 + 3 * j) else none))))))).set 2 (a + 2, .inl (ca 5, 12, .inr (.inr (.inr (.inr (fun j => if j < 12 then some (a + 164 + 3 * j) else none))))))) (F := ((zf4 ca (a + 3) ++ (List.range 3).flatMap (fun q => zo2 ca (a + 155 + 3 * q))) ++ (List.range 12).flatMap (fun q => zo3 ca (a + 164 + 3 * q)))) (st := 1) (qa := 17) (aA := a + 137) (ct := ca 3) (N := 150) (n0 := a + 200) (out := fun q => zo1 ca (a + 200 + 1 * q)) hW rfl
  refine z_loop (ws := ((zb11 ca a).set 1 (a + 1, .inl (ca 4, 3, .inr (.inr (.inr (.inr (fun j => if j < 3 then some (a + 155 + 3 * j) else none))))))).set 2 (a + 2, .inl (ca 5, 12, .inr (.inr (.inr (.inr (fun j => if j < 12 then some (a + 164 + 3 * j) else none))))))) (F := ((zf4 ca (a + 3) ++ (List.range 3).flatMap (fun q => zo2 ca (a + 155 + 3 * q))) ++ (List.range 12).flatMap (fun q => zo3 ca (a + 164 + 3 * q)))) (rT := (some 1, [none, none, none, none, none, none], none, none, 150)) (N := 150) (st := 1) (n0 := a + 200) (vs := fun _ => _) (pc1 := 216) (pcx := 238) (out := fun q => zo1 ca (a + 200 + 1 * q)) (cells := 199) (slots := 5368) Z hml (by decide) (by decide) dz11_212 (zp_s hx hb dz11_213 (by decide +kernel)) dz11_216 (by decide) dz11_219 dz11_220 dz11_223 dz11_224 dz11_227 dz11_228 dz11_231 dz11_232 dz11_235 (by decide) rfl (by decide) rfl rfl rfl (by decide) (zck 44 (by decide)) rfl rfl (by decide) zw_1_148 zw_2_75 zw_1_9 (fun q _ => zc1 l D ca _) (fun q _ => rfl) rfl rfl rfl rfl ⟨by decide, by decide, by decide +kernel⟩ (.inr ⟨_, zw_2_76⟩) zw_2_77 zw_2_78 ⟨Nat.le_of_ble_eq_true rfl, Nat.le_of_ble_eq_true rfl⟩ ⟨Nat.le_of_ble_eq_true rfl, Nat.le_of_ble_eq_true rfl⟩ (fun H locs ls hl hW => ?_) 150 0 rfl _ _ ls hl hW
  have hl := lv_sub hl [1] rfl
  have h0 := lv_at hl 0 rfl
  refine lv_iconst (v := nI 0) hx hb dz11_238 (by decide +kernel) ?_
  refine lv_istore_n (lv' := [(1, .int (nI 0)), (0, .ref a)]) hx hb dz11_239 rfl hl (by decide) rfl (fun ls hl => ?_)
  have hW := Wd.ent (ws := (((zb11 ca a).set 1 (a + 1, .inl (ca 4, 3, .inr (.inr (.inr (.inr (fun j => if j < 3 then some (a + 155 + 3 * j) else none))))))).set 2 (a + 2, .inl (ca 5, 12, .inr (.inr (.inr (.inr (fun j => if j < 12 then some (a + 164 + 3 * j) else none))))))).set 17 (a + 137, .inl (ca 3, 150, .inr (.inr (.inr (.inr (fun j => if j < 150 then some (a + 200 + 1 * j) else none))))))) (F := (((zf4 ca (a + 3) ++ (List.range 3).flatMap (fun q => zo2 ca (a + 155 + 3 * q))) ++ (List.range 12).flatMap (fun q => zo3 ca (a + 164 + 3 * q))) ++ (List.range 150).flatMap (fun q => zo1 ca (a + 200 + 1 * q)))) (st := 1) (qa := 18) (aA := a + 138) (ct := ca 6) (N := 300) (n0 := a + 350) (out := fun q => zo5 ca (a + 350 + 1 * q)) hW rfl
  refine z_loop (ws := (((zb11 ca a).set 1 (a + 1, .inl (ca 4, 3, .inr (.inr (.inr (.inr (fun j => if j < 3 then some (a + 155 + 3 * j) else none))))))).set 2 (a + 2, .inl (ca 5, 12, .inr (.inr (.inr (.inr (fun j => if j < 12 then some (a + 164 + 3 * j) else none))))))).set 17 (a + 137, .inl (ca 3, 150, .inr (.inr (.inr (.inr (fun j => if j < 150 then some (a + 200 + 1 * j) else none))))))) (F := (((zf4 ca (a + 3) ++ (List.range 3).flatMap (fun q => zo2 ca (a + 155 + 3 * q))) ++ (List.range 12).flatMap (fun q => zo3 ca (a + 164 + 3 * q))) ++ (List.range 150).flatMap (fun q => zo1 ca (a + 200 + 1 * q)))) (rT := (some 5, [none, none, none, none, none, none, none], none, none, 300)) (N := 300) (st := 1) (n0 := a + 350) (vs := fun _ => _) (pc1 := 244) (pcx := 266) (out := fun q => zo5 ca (a + 350 + 1 * q)) (cells := 349) (slots := 6268) Z hml (by decide) (by decide) dz11_240 (zp_s hx hb dz11_241 (by decide +kernel)) dz11_244 (by decide) dz11_247 dz11_248 dz11_251 dz11_252 dz11_255 dz11_256 dz11_259 dz11_260 dz11_263 (by decide) rfl (by decide) rfl rfl rfl (by decide) (zck 45 (by decide)) rfl rfl (by decide) zw_1_150 zw_2_105 zw_1_10 (fun q _ => zc5 l D ca _) (fun q _ => rfl) rfl rfl rfl rfl ⟨by decide, by decide, by decide +kernel⟩ (.inr ⟨_, zw_2_106⟩) zw_2_107 zw_2_108 ⟨Nat.le_of_ble_eq_true rfl, Nat.le_of_ble_eq_true rfl⟩ ⟨Nat.le_of_ble_eq_true rfl, Nat.le_of_ble_eq_true rfl⟩ (fun H locs ls hl hW => ?_) 300 0 rfl _ _ ls hl hW
  have hl := lv_sub hl [1] rfl
  have h0 := lv_at hl 0 rfl
  refine lv_iconst (v := nI 0) hx hb dz11_266 (by decide +kernel) ?_
  refine lv_istore_n (lv' := [(1, .int (nI 0)), (0, .ref a)]) hx hb dz11_267 rfl hl (by decide) rfl (fun ls hl => ?_)
  have hW := Wd.ent (ws := ((((zb11 ca a).set 1 (a + 1, .inl (ca 4, 3, .inr (.inr (.inr (.inr (fun j => if j < 3 then some (a + 155 + 3 * j) else none))))))).set 2 (a + 2, .inl (ca 5, 12, .inr (.inr (.inr (.inr (fun j => if j < 12 then some (a + 164 + 3 * j) else none))))))).set 17 (a + 137, .inl (ca 3, 150, .inr (.inr (.inr (.inr (fun j => if j < 150 then some (a + 200 + 1 * j) else none))))))).set 18 (a + 138, .inl (ca 6, 300, .inr (.inr (.inr (.inr (fun j => if j < 300 then some (a + 350 + 1 * j) else none))))))) (F := ((((zf4 ca (a + 3) ++ (List.range 3).flatMap (fun q => zo2 ca (a + 155 + 3 * q))) ++ (List.range 12).flatMap (fun q => zo3 ca (a + 164 + 3 * q))) ++ (List.range 150).flatMap (fun q => zo1 ca (a + 200 + 1 * q))) ++ (List.range 300).flatMap (fun q => zo5 ca (a + 350 + 1 * q)))) (st := 3) (qa := 19) (aA := a + 139) (ct := ca 8) (N := 20) (n0 := a + 650) (out := fun q => zo7 ca (a + 650 + 3 * q)) hW rfl
  refine z_loop (ws := ((((zb11 ca a).set 1 (a + 1, .inl (ca 4, 3, .inr (.inr (.inr (.inr (fun j => if j < 3 then some (a + 155 + 3 * j) else none))))))).set 2 (a + 2, .inl (ca 5, 12, .inr (.inr (.inr (.inr (fun j => if j < 12 then some (a + 164 + 3 * j) else none))))))).set 17 (a + 137, .inl (ca 3, 150, .inr (.inr (.inr (.inr (fun j => if j < 150 then some (a + 200 + 1 * j) else none))))))).set 18 (a + 138, .inl (ca 6, 300, .inr (.inr (.inr (.inr (fun j => if j < 300 then some (a + 350 + 1 * j) else none))))))) (F := ((((zf4 ca (a + 3) ++ (List.range 3).flatMap (fun q => zo2 ca (a + 155 + 3 * q))) ++ (List.range 12).flatMap (fun q => zo3 ca (a + 164 + 3 * q))) ++ (List.range 150).flatMap (fun q => zo1 ca (a + 200 + 1 * q))) ++ (List.range 300).flatMap (fun q => zo5 ca (a + 350 + 1 * q)))) (rT := (some 7, [none, none, none, none, none, some 47, some 48], none, none, 20)) (N := 20) (st := 3) (n0 := a + 650) (vs := fun _ => _) (pc1 := 271) (pcx := 293) (out := fun q => zo7 ca (a + 650 + 3 * q)) (cells := 649) (slots := 8368) Z hml (by decide) (by decide) dz11_268 (zp_b hx hb dz11_269 (by decide +kernel)) dz11_271 (by decide) dz11_274 dz11_275 dz11_278 dz11_279 dz11_282 dz11_283 dz11_286 dz11_287 dz11_290 (by decide) rfl (by decide) rfl rfl rfl (by decide) (zck 46 (by decide)) rfl rfl (by decide) zw_1_152 zw_2_142 zw_1_11 (fun q _ => zc7 l D ca _) (fun q _ => rfl) rfl rfl rfl rfl ⟨by decide, by decide, by decide +kernel⟩ (.inr ⟨_, zw_2_143⟩) zw_2_144 zw_2_145 ⟨Nat.le_of_ble_eq_true rfl, Nat.le_of_ble_eq_true rfl⟩ ⟨Nat.le_of_ble_eq_true rfl, Nat.le_of_ble_eq_true rfl⟩ (fun H locs ls hl hW => ?_) 20 0 rfl _ _ ls hl hW
  have hl := lv_sub hl [1] rfl
  have h0 := lv_at hl 0 rfl
  refine lv_iconst (v := nI 0) hx hb dz11_293 (by decide +kernel) ?_
  refine lv_istore_n (lv' := [(1, .int (nI 0)), (0, .ref a)]) hx hb dz11_294 rfl hl (by decide) rfl (fun ls hl => ?_)
  have hW := Wd.ent (ws := (((((zb11 ca a).set 1 (a + 1, .inl (ca 4, 3, .inr (.inr (.inr (.inr (fun j => if j < 3 then some (a + 155 + 3 * j) else none))))))).set 2 (a + 2, .inl (ca 5, 12, .inr (.inr (.inr (.inr (fun j => if j < 12 then some (a + 164 + 3 * j) else none))))))).set 17 (a + 137, .inl (ca 3, 150, .inr (.inr (.inr (.inr (fun j => if j < 150 then some (a + 200 + 1 * j) else none))))))).set 18 (a + 138, .inl (ca 6, 300, .inr (.inr (.inr (.inr (fun j => if j < 300 then some (a + 350 + 1 * j) else none))))))).set 19 (a + 139, .inl (ca 8, 20, .inr (.inr (.inr (.inr (fun j => if j < 20 then some (a + 650 + 3 * j) else none))))))) (F := (((((zf4 ca (a + 3) ++ (List.range 3).flatMap (fun q => zo2 ca (a + 155 + 3 * q))) ++ (List.range 12).flatMap (fun q => zo3 ca (a + 164 + 3 * q))) ++ (List.range 150).flatMap (fun q => zo1 ca (a + 200 + 1 * q))) ++ (List.range 300).flatMap (fun q => zo5 ca (a + 350 + 1 * q))) ++ (List.range 20).flatMap (fun q => zo7 ca (a + 650 + 3 * q)))) (st := 2) (qa := 34) (aA := a + 154) (ct := ca 9) (N := 6) (n0 := a + 710) (out := fun q => zo8 ca (a + 710 + 2 * q)) hW rfl
  refine z_loop (ws := (((((zb11 ca a).set 1 (a + 1, .inl (ca 4, 3, .inr (.inr (.inr (.inr (fun j => if j < 3 then some (a + 155 + 3 * j) else none))))))).set 2 (a + 2, .inl (ca 5, 12, .inr (.inr (.inr (.inr (fun j => if j < 12 then some (a + 164 + 3 * j) else none))))))).set 17 (a + 137, .inl (ca 3, 150, .inr (.inr (.inr (.inr (fun j => if j < 150 then some (a + 200 + 1 * j) else none))))))).set 18 (a + 138, .inl (ca 6, 300, .inr (.inr (.inr (.inr (fun j => if j < 300 then some (a + 350 + 1 * j) else none))))))).set 19 (a + 139, .inl (ca 8, 20, .inr (.inr (.inr (.inr (fun j => if j < 20 then some (a + 650 + 3 * j) else none))))))) (F := (((((zf4 ca (a + 3) ++ (List.range 3).flatMap (fun q => zo2 ca (a + 155 + 3 * q))) ++ (List.range 12).flatMap (fun q => zo3 ca (a + 164 + 3 * q))) ++ (List.range 150).flatMap (fun q => zo1 ca (a + 200 + 1 * q))) ++ (List.range 300).flatMap (fun q => zo5 ca (a + 350 + 1 * q))) ++ (List.range 20).flatMap (fun q => zo7 ca (a + 650 + 3 * q)))) (rT := (some 8, [none, none, none, some 50], none, none, 6)) (N := 6) (st := 2) (n0 := a + 710) (vs := fun _ => _) (pc1 := 298) (pcx := 320) (out := fun q => zo8 ca (a + 710 + 2 * q)) (cells := 709) (slots := 13008) Z hml (by decide) (by decide) dz11_295 (zp_b hx hb dz11_296 (by decide +kernel)) dz11_298 (by decide) dz11_301 dz11_302 dz11_305 dz11_306 dz11_309 dz11_310 dz11_313 dz11_314 dz11_317 (by decide) rfl (by decide) rfl rfl rfl (by decide) (zck 49 (by decide)) rfl rfl (by decide) zw_2_5 zw_2_175 zw_1_12 (fun q _ => zc8 l D ca _) (fun q _ => rfl) rfl rfl rfl rfl ⟨by decide, by decide, by decide +kernel⟩ (.inr ⟨_, zw_2_176⟩) zw_2_177 zw_2_178 ⟨Nat.le_of_ble_eq_true rfl, Nat.le_of_ble_eq_true rfl⟩ ⟨Nat.le_of_ble_eq_true rfl, Nat.le_of_ble_eq_true rfl⟩ (fun H locs ls hl hW => ?_) 6 0 rfl _ _ ls hl hW
  have hl := lv_sub hl [1] rfl
  have h0 := lv_at hl 0 rfl
  exact hret 320 ls H locs dz11_320 hW
