-- the constructor of PostTurnsModel, by wip/whole/gen101.py
theorem zw_5_202 : Cond.methodLink (cn 12) 1 objectInit ∈ lw_tbl := lw_at_mem (j := 5) (k := 202) rfl
theorem dz12_0 : decode cX12_init 0 = .ok (.aload_n 0, 1) := by decide +kernel
theorem dz12_1 : decode cX12_init 1 = .ok (.invokespecial 1, 3) := by decide +kernel
theorem dz12_4 : decode cX12_init 4 = .ok (.aload_n 0, 1) := by decide +kernel
theorem dz12_5 : decode cX12_init 5 = .ok (.iconst 3, 1) := by decide +kernel
theorem dz12_6 : decode cX12_init 6 = .ok (.newarray .int, 2) := by decide +kernel
theorem dz12_8 : decode cX12_init 8 = .ok (.putfield 9, 3) := by decide +kernel
theorem dz12_11 : decode cX12_init 11 = .ok (.aload_n 0, 1) := by decide +kernel
theorem dz12_12 : decode cX12_init 12 = .ok (.iconst 3, 1) := by decide +kernel
theorem dz12_13 : decode cX12_init 13 = .ok (.newarray .int, 2) := by decide +kernel
theorem dz12_15 : decode cX12_init 15 = .ok (.putfield 13, 3) := by decide +kernel
theorem dz12_18 : decode cX12_init 18 = .ok (.aload_n 0, 1) := by decide +kernel
theorem dz12_19 : decode cX12_init 19 = .ok (.iconst 3, 1) := by decide +kernel
theorem dz12_20 : decode cX12_init 20 = .ok (.newarray .int, 2) := by decide +kernel
theorem dz12_22 : decode cX12_init 22 = .ok (.putfield 16, 3) := by decide +kernel
theorem dz12_25 : decode cX12_init 25 = .ok (.aload_n 0, 1) := by decide +kernel
theorem dz12_26 : decode cX12_init 26 = .ok (.iconst 3, 1) := by decide +kernel
theorem dz12_27 : decode cX12_init 27 = .ok (.newarray .int, 2) := by decide +kernel
theorem dz12_29 : decode cX12_init 29 = .ok (.putfield 19, 3) := by decide +kernel
theorem dz12_32 : decode cX12_init 32 = .ok (.aload_n 0, 1) := by decide +kernel
theorem dz12_33 : decode cX12_init 33 = .ok (.iconst 3, 1) := by decide +kernel
theorem dz12_34 : decode cX12_init 34 = .ok (.newarray .int, 2) := by decide +kernel
theorem dz12_36 : decode cX12_init 36 = .ok (.putfield 22, 3) := by decide +kernel
theorem dz12_39 : decode cX12_init 39 = .ok (.aload_n 0, 1) := by decide +kernel
theorem dz12_40 : decode cX12_init 40 = .ok (.sipush 144, 3) := by decide +kernel
theorem dz12_43 : decode cX12_init 43 = .ok (.newarray .int, 2) := by decide +kernel
theorem dz12_45 : decode cX12_init 45 = .ok (.putfield 25, 3) := by decide +kernel
theorem dz12_48 : decode cX12_init 48 = .ok (.aload_n 0, 1) := by decide +kernel
theorem dz12_49 : decode cX12_init 49 = .ok (.sipush 144, 3) := by decide +kernel
theorem dz12_52 : decode cX12_init 52 = .ok (.newarray .boolean, 2) := by decide +kernel
theorem dz12_54 : decode cX12_init 54 = .ok (.putfield 28, 3) := by decide +kernel
theorem dz12_57 : decode cX12_init 57 = .ok (.aload_n 0, 1) := by decide +kernel
theorem dz12_58 : decode cX12_init 58 = .ok (.bipush 12, 2) := by decide +kernel
theorem dz12_60 : decode cX12_init 60 = .ok (.newarray .int, 2) := by decide +kernel
theorem dz12_62 : decode cX12_init 62 = .ok (.putfield 32, 3) := by decide +kernel
theorem dz12_65 : decode cX12_init 65 = .ok (.aload_n 0, 1) := by decide +kernel
theorem dz12_66 : decode cX12_init 66 = .ok (.bipush 12, 2) := by decide +kernel
theorem dz12_68 : decode cX12_init 68 = .ok (.newarray .int, 2) := by decide +kernel
theorem dz12_70 : decode cX12_init 70 = .ok (.putfield 35, 3) := by decide +kernel
theorem dz12_73 : decode cX12_init 73 = .ok (.aload_n 0, 1) := by decide +kernel
theorem dz12_74 : decode cX12_init 74 = .ok (.bipush 12, 2) := by decide +kernel
theorem dz12_76 : decode cX12_init 76 = .ok (.newarray .int, 2) := by decide +kernel
theorem dz12_78 : decode cX12_init 78 = .ok (.putfield 38, 3) := by decide +kernel
theorem dz12_81 : decode cX12_init 81 = .ok (.aload_n 0, 1) := by decide +kernel
theorem dz12_82 : decode cX12_init 82 = .ok (.bipush 12, 2) := by decide +kernel
theorem dz12_84 : decode cX12_init 84 = .ok (.newarray .int, 2) := by decide +kernel
theorem dz12_86 : decode cX12_init 86 = .ok (.putfield 41, 3) := by decide +kernel
theorem dz12_89 : decode cX12_init 89 = .ok (.aload_n 0, 1) := by decide +kernel
theorem dz12_90 : decode cX12_init 90 = .ok (.bipush 12, 2) := by decide +kernel
theorem dz12_92 : decode cX12_init 92 = .ok (.newarray .int, 2) := by decide +kernel
theorem dz12_94 : decode cX12_init 94 = .ok (.putfield 44, 3) := by decide +kernel
theorem dz12_97 : decode cX12_init 97 = .ok (.aload_n 0, 1) := by decide +kernel
theorem dz12_98 : decode cX12_init 98 = .ok (.bipush 12, 2) := by decide +kernel
theorem dz12_100 : decode cX12_init 100 = .ok (.newarray .int, 2) := by decide +kernel
theorem dz12_102 : decode cX12_init 102 = .ok (.putfield 47, 3) := by decide +kernel
theorem dz12_105 : decode cX12_init 105 = .ok (.aload_n 0, 1) := by decide +kernel
theorem dz12_106 : decode cX12_init 106 = .ok (.bipush 40, 2) := by decide +kernel
theorem dz12_108 : decode cX12_init 108 = .ok (.newarray .int, 2) := by decide +kernel
theorem dz12_110 : decode cX12_init 110 = .ok (.putfield 50, 3) := by decide +kernel
theorem dz12_113 : decode cX12_init 113 = .ok (.aload_n 0, 1) := by decide +kernel
theorem dz12_114 : decode cX12_init 114 = .ok (.bipush 40, 2) := by decide +kernel
theorem dz12_116 : decode cX12_init 116 = .ok (.newarray .int, 2) := by decide +kernel
theorem dz12_118 : decode cX12_init 118 = .ok (.putfield 53, 3) := by decide +kernel
theorem dz12_121 : decode cX12_init 121 = .ok (.aload_n 0, 1) := by decide +kernel
theorem dz12_122 : decode cX12_init 122 = .ok (.bipush 40, 2) := by decide +kernel
theorem dz12_124 : decode cX12_init 124 = .ok (.newarray .int, 2) := by decide +kernel
theorem dz12_126 : decode cX12_init 126 = .ok (.putfield 56, 3) := by decide +kernel
theorem dz12_129 : decode cX12_init 129 = .ok (.aload_n 0, 1) := by decide +kernel
theorem dz12_130 : decode cX12_init 130 = .ok (.bipush 40, 2) := by decide +kernel
theorem dz12_132 : decode cX12_init 132 = .ok (.newarray .int, 2) := by decide +kernel
theorem dz12_134 : decode cX12_init 134 = .ok (.putfield 59, 3) := by decide +kernel
theorem dz12_137 : decode cX12_init 137 = .ok (.aload_n 0, 1) := by decide +kernel
theorem dz12_138 : decode cX12_init 138 = .ok (.bipush 40, 2) := by decide +kernel
theorem dz12_140 : decode cX12_init 140 = .ok (.newarray .boolean, 2) := by decide +kernel
theorem dz12_142 : decode cX12_init 142 = .ok (.putfield 62, 3) := by decide +kernel
theorem dz12_145 : decode cX12_init 145 = .ok (.aload_n 0, 1) := by decide +kernel
theorem dz12_146 : decode cX12_init 146 = .ok (.bipush 40, 2) := by decide +kernel
theorem dz12_148 : decode cX12_init 148 = .ok (.newarray .int, 2) := by decide +kernel
theorem dz12_150 : decode cX12_init 150 = .ok (.putfield 65, 3) := by decide +kernel
theorem dz12_153 : decode cX12_init 153 = .ok (.aload_n 0, 1) := by decide +kernel
theorem dz12_154 : decode cX12_init 154 = .ok (.bipush 40, 2) := by decide +kernel
theorem dz12_156 : decode cX12_init 156 = .ok (.newarray .int, 2) := by decide +kernel
theorem dz12_158 : decode cX12_init 158 = .ok (.putfield 68, 3) := by decide +kernel
theorem dz12_161 : decode cX12_init 161 = .ok (.aload_n 0, 1) := by decide +kernel
theorem dz12_162 : decode cX12_init 162 = .ok (.sipush 1200, 3) := by decide +kernel
theorem dz12_165 : decode cX12_init 165 = .ok (.newarray .int, 2) := by decide +kernel
theorem dz12_167 : decode cX12_init 167 = .ok (.putfield 71, 3) := by decide +kernel
theorem dz12_170 : decode cX12_init 170 = .ok (.aload_n 0, 1) := by decide +kernel
theorem dz12_171 : decode cX12_init 171 = .ok (.sipush 360, 3) := by decide +kernel
theorem dz12_174 : decode cX12_init 174 = .ok (.newarray .int, 2) := by decide +kernel
theorem dz12_176 : decode cX12_init 176 = .ok (.putfield 74, 3) := by decide +kernel
theorem dz12_179 : decode cX12_init 179 = .ok (.aload_n 0, 1) := by decide +kernel
theorem dz12_180 : decode cX12_init 180 = .ok (.sipush 360, 3) := by decide +kernel
theorem dz12_183 : decode cX12_init 183 = .ok (.newarray .int, 2) := by decide +kernel
theorem dz12_185 : decode cX12_init 185 = .ok (.putfield 77, 3) := by decide +kernel
theorem dz12_188 : decode cX12_init 188 = .ok (.aload_n 0, 1) := by decide +kernel
theorem dz12_189 : decode cX12_init 189 = .ok (.sipush 160, 3) := by decide +kernel
theorem dz12_192 : decode cX12_init 192 = .ok (.newarray .int, 2) := by decide +kernel
theorem dz12_194 : decode cX12_init 194 = .ok (.putfield 80, 3) := by decide +kernel
theorem dz12_197 : decode cX12_init 197 = .ok (.aload_n 0, 1) := by decide +kernel
theorem dz12_198 : decode cX12_init 198 = .ok (.sipush 3200, 3) := by decide +kernel
theorem dz12_201 : decode cX12_init 201 = .ok (.newarray .int, 2) := by decide +kernel
theorem dz12_203 : decode cX12_init 203 = .ok (.putfield 83, 3) := by decide +kernel
theorem dz12_206 : decode cX12_init 206 = .ok (.aload_n 0, 1) := by decide +kernel
theorem dz12_207 : decode cX12_init 207 = .ok (.bipush 20, 2) := by decide +kernel
theorem dz12_209 : decode cX12_init 209 = .ok (.newarray .int, 2) := by decide +kernel
theorem dz12_211 : decode cX12_init 211 = .ok (.putfield 86, 3) := by decide +kernel
theorem dz12_214 : decode cX12_init 214 = .ok (.aload_n 0, 1) := by decide +kernel
theorem dz12_215 : decode cX12_init 215 = .ok (.bipush 20, 2) := by decide +kernel
theorem dz12_217 : decode cX12_init 217 = .ok (.newarray .int, 2) := by decide +kernel
theorem dz12_219 : decode cX12_init 219 = .ok (.putfield 89, 3) := by decide +kernel
theorem dz12_222 : decode cX12_init 222 = .ok (.aload_n 0, 1) := by decide +kernel
theorem dz12_223 : decode cX12_init 223 = .ok (.bipush 20, 2) := by decide +kernel
theorem dz12_225 : decode cX12_init 225 = .ok (.newarray .int, 2) := by decide +kernel
theorem dz12_227 : decode cX12_init 227 = .ok (.putfield 92, 3) := by decide +kernel
theorem dz12_230 : decode cX12_init 230 = .ok (.aload_n 0, 1) := by decide +kernel
theorem dz12_231 : decode cX12_init 231 = .ok (.bipush 20, 2) := by decide +kernel
theorem dz12_233 : decode cX12_init 233 = .ok (.newarray .int, 2) := by decide +kernel
theorem dz12_235 : decode cX12_init 235 = .ok (.putfield 95, 3) := by decide +kernel
theorem dz12_238 : decode cX12_init 238 = .ok (.aload_n 0, 1) := by decide +kernel
theorem dz12_239 : decode cX12_init 239 = .ok (.sipush 150, 3) := by decide +kernel
theorem dz12_242 : decode cX12_init 242 = .ok (.newarray .int, 2) := by decide +kernel
theorem dz12_244 : decode cX12_init 244 = .ok (.putfield 98, 3) := by decide +kernel
theorem dz12_247 : decode cX12_init 247 = .ok (.aload_n 0, 1) := by decide +kernel
theorem dz12_248 : decode cX12_init 248 = .ok (.sipush 150, 3) := by decide +kernel
theorem dz12_251 : decode cX12_init 251 = .ok (.newarray .int, 2) := by decide +kernel
theorem dz12_253 : decode cX12_init 253 = .ok (.putfield 101, 3) := by decide +kernel
theorem dz12_256 : decode cX12_init 256 = .ok (.aload_n 0, 1) := by decide +kernel
theorem dz12_257 : decode cX12_init 257 = .ok (.sipush 150, 3) := by decide +kernel
theorem dz12_260 : decode cX12_init 260 = .ok (.newarray .int, 2) := by decide +kernel
theorem dz12_262 : decode cX12_init 262 = .ok (.putfield 104, 3) := by decide +kernel
theorem dz12_265 : decode cX12_init 265 = .ok (.aload_n 0, 1) := by decide +kernel
theorem dz12_266 : decode cX12_init 266 = .ok (.sipush 150, 3) := by decide +kernel
theorem dz12_269 : decode cX12_init 269 = .ok (.newarray .int, 2) := by decide +kernel
theorem dz12_271 : decode cX12_init 271 = .ok (.putfield 107, 3) := by decide +kernel
theorem dz12_274 : decode cX12_init 274 = .ok (.aload_n 0, 1) := by decide +kernel
theorem dz12_275 : decode cX12_init 275 = .ok (.sipush 150, 3) := by decide +kernel
theorem dz12_278 : decode cX12_init 278 = .ok (.newarray .int, 2) := by decide +kernel
theorem dz12_280 : decode cX12_init 280 = .ok (.putfield 110, 3) := by decide +kernel
theorem dz12_283 : decode cX12_init 283 = .ok (.aload_n 0, 1) := by decide +kernel
theorem dz12_284 : decode cX12_init 284 = .ok (.sipush 150, 3) := by decide +kernel
theorem dz12_287 : decode cX12_init 287 = .ok (.newarray .int, 2) := by decide +kernel
theorem dz12_289 : decode cX12_init 289 = .ok (.putfield 113, 3) := by decide +kernel
theorem dz12_292 : decode cX12_init 292 = .ok (.aload_n 0, 1) := by decide +kernel
theorem dz12_293 : decode cX12_init 293 = .ok (.sipush 300, 3) := by decide +kernel
theorem dz12_296 : decode cX12_init 296 = .ok (.newarray .int, 2) := by decide +kernel
theorem dz12_298 : decode cX12_init 298 = .ok (.putfield 116, 3) := by decide +kernel
theorem dz12_301 : decode cX12_init 301 = .ok (.aload_n 0, 1) := by decide +kernel
theorem dz12_302 : decode cX12_init 302 = .ok (.sipush 300, 3) := by decide +kernel
theorem dz12_305 : decode cX12_init 305 = .ok (.newarray .int, 2) := by decide +kernel
theorem dz12_307 : decode cX12_init 307 = .ok (.putfield 119, 3) := by decide +kernel
theorem dz12_310 : decode cX12_init 310 = .ok (.aload_n 0, 1) := by decide +kernel
theorem dz12_311 : decode cX12_init 311 = .ok (.sipush 300, 3) := by decide +kernel
theorem dz12_314 : decode cX12_init 314 = .ok (.newarray .int, 2) := by decide +kernel
theorem dz12_316 : decode cX12_init 316 = .ok (.putfield 122, 3) := by decide +kernel
theorem dz12_319 : decode cX12_init 319 = .ok (.aload_n 0, 1) := by decide +kernel
theorem dz12_320 : decode cX12_init 320 = .ok (.sipush 300, 3) := by decide +kernel
theorem dz12_323 : decode cX12_init 323 = .ok (.newarray .int, 2) := by decide +kernel
theorem dz12_325 : decode cX12_init 325 = .ok (.putfield 125, 3) := by decide +kernel
theorem dz12_328 : decode cX12_init 328 = .ok (.aload_n 0, 1) := by decide +kernel
theorem dz12_329 : decode cX12_init 329 = .ok (.sipush 300, 3) := by decide +kernel
theorem dz12_332 : decode cX12_init 332 = .ok (.newarray .int, 2) := by decide +kernel
theorem dz12_334 : decode cX12_init 334 = .ok (.putfield 128, 3) := by decide +kernel
theorem dz12_337 : decode cX12_init 337 = .ok (.aload_n 0, 1) := by decide +kernel
theorem dz12_338 : decode cX12_init 338 = .ok (.sipush 300, 3) := by decide +kernel
theorem dz12_341 : decode cX12_init 341 = .ok (.newarray .int, 2) := by decide +kernel
theorem dz12_343 : decode cX12_init 343 = .ok (.putfield 131, 3) := by decide +kernel
theorem dz12_346 : decode cX12_init 346 = .ok (.aload_n 0, 1) := by decide +kernel
theorem dz12_347 : decode cX12_init 347 = .ok (.sipush 300, 3) := by decide +kernel
theorem dz12_350 : decode cX12_init 350 = .ok (.newarray .int, 2) := by decide +kernel
theorem dz12_352 : decode cX12_init 352 = .ok (.putfield 134, 3) := by decide +kernel
theorem dz12_355 : decode cX12_init 355 = .ok (.aload_n 0, 1) := by decide +kernel
theorem dz12_356 : decode cX12_init 356 = .ok (.bipush 11, 2) := by decide +kernel
theorem dz12_358 : decode cX12_init 358 = .ok (.newarray .int, 2) := by decide +kernel
theorem dz12_360 : decode cX12_init 360 = .ok (.putfield 137, 3) := by decide +kernel
theorem dz12_363 : decode cX12_init 363 = .ok (.aload_n 0, 1) := by decide +kernel
theorem dz12_364 : decode cX12_init 364 = .ok (.bipush 40, 2) := by decide +kernel
theorem dz12_366 : decode cX12_init 366 = .ok (.newarray .int, 2) := by decide +kernel
theorem dz12_368 : decode cX12_init 368 = .ok (.putfield 140, 3) := by decide +kernel
theorem dz12_371 : decode cX12_init 371 = .ok (.aload_n 0, 1) := by decide +kernel
theorem dz12_372 : decode cX12_init 372 = .ok (.bipush 40, 2) := by decide +kernel
theorem dz12_374 : decode cX12_init 374 = .ok (.newarray .int, 2) := by decide +kernel
theorem dz12_376 : decode cX12_init 376 = .ok (.putfield 143, 3) := by decide +kernel
theorem dz12_379 : decode cX12_init 379 = .ok (.aload_n 0, 1) := by decide +kernel
theorem dz12_380 : decode cX12_init 380 = .ok (.bipush 40, 2) := by decide +kernel
theorem dz12_382 : decode cX12_init 382 = .ok (.newarray .int, 2) := by decide +kernel
theorem dz12_384 : decode cX12_init 384 = .ok (.putfield 146, 3) := by decide +kernel
theorem dz12_387 : decode cX12_init 387 = .ok (.aload_n 0, 1) := by decide +kernel
theorem dz12_388 : decode cX12_init 388 = .ok (.bipush 40, 2) := by decide +kernel
theorem dz12_390 : decode cX12_init 390 = .ok (.newarray .int, 2) := by decide +kernel
theorem dz12_392 : decode cX12_init 392 = .ok (.putfield 149, 3) := by decide +kernel
theorem dz12_395 : decode cX12_init 395 = .ok (.aload_n 0, 1) := by decide +kernel
theorem dz12_396 : decode cX12_init 396 = .ok (.bipush 40, 2) := by decide +kernel
theorem dz12_398 : decode cX12_init 398 = .ok (.newarray .int, 2) := by decide +kernel
theorem dz12_400 : decode cX12_init 400 = .ok (.putfield 152, 3) := by decide +kernel
theorem dz12_403 : decode cX12_init 403 = .ok (.aload_n 0, 1) := by decide +kernel
theorem dz12_404 : decode cX12_init 404 = .ok (.bipush 40, 2) := by decide +kernel
theorem dz12_406 : decode cX12_init 406 = .ok (.newarray .int, 2) := by decide +kernel
theorem dz12_408 : decode cX12_init 408 = .ok (.putfield 155, 3) := by decide +kernel
theorem dz12_411 : decode cX12_init 411 = .ok (.aload_n 0, 1) := by decide +kernel
theorem dz12_412 : decode cX12_init 412 = .ok (.bipush 40, 2) := by decide +kernel
theorem dz12_414 : decode cX12_init 414 = .ok (.newarray .int, 2) := by decide +kernel
theorem dz12_416 : decode cX12_init 416 = .ok (.putfield 158, 3) := by decide +kernel
theorem dz12_419 : decode cX12_init 419 = .ok (.aload_n 0, 1) := by decide +kernel
theorem dz12_420 : decode cX12_init 420 = .ok (.bipush 40, 2) := by decide +kernel
theorem dz12_422 : decode cX12_init 422 = .ok (.newarray .int, 2) := by decide +kernel
theorem dz12_424 : decode cX12_init 424 = .ok (.putfield 161, 3) := by decide +kernel
theorem dz12_427 : decode cX12_init 427 = .ok (.aload_n 0, 1) := by decide +kernel
theorem dz12_428 : decode cX12_init 428 = .ok (.bipush 40, 2) := by decide +kernel
theorem dz12_430 : decode cX12_init 430 = .ok (.newarray .boolean, 2) := by decide +kernel
theorem dz12_432 : decode cX12_init 432 = .ok (.putfield 164, 3) := by decide +kernel
theorem dz12_435 : decode cX12_init 435 = .ok (.aload_n 0, 1) := by decide +kernel
theorem dz12_436 : decode cX12_init 436 = .ok (.bipush 12, 2) := by decide +kernel
theorem dz12_438 : decode cX12_init 438 = .ok (.newarray .int, 2) := by decide +kernel
theorem dz12_440 : decode cX12_init 440 = .ok (.putfield 167, 3) := by decide +kernel
theorem dz12_443 : decode cX12_init 443 = .ok (.aload_n 0, 1) := by decide +kernel
theorem dz12_444 : decode cX12_init 444 = .ok (.bipush 40, 2) := by decide +kernel
theorem dz12_446 : decode cX12_init 446 = .ok (.newarray .int, 2) := by decide +kernel
theorem dz12_448 : decode cX12_init 448 = .ok (.putfield 170, 3) := by decide +kernel
theorem dz12_451 : decode cX12_init 451 = .ok (.aload_n 0, 1) := by decide +kernel
theorem dz12_452 : decode cX12_init 452 = .ok (.iconst 3, 1) := by decide +kernel
theorem dz12_453 : decode cX12_init 453 = .ok (.newarray .int, 2) := by decide +kernel
theorem dz12_455 : decode cX12_init 455 = .ok (.putfield 173, 3) := by decide +kernel
theorem dz12_458 : decode cX12_init 458 = .ok (.aload_n 0, 1) := by decide +kernel
theorem dz12_459 : decode cX12_init 459 = .ok (.bipush 12, 2) := by decide +kernel
theorem dz12_461 : decode cX12_init 461 = .ok (.newarray .int, 2) := by decide +kernel
theorem dz12_463 : decode cX12_init 463 = .ok (.putfield 176, 3) := by decide +kernel
theorem dz12_466 : decode cX12_init 466 = .ok (.aload_n 0, 1) := by decide +kernel
theorem dz12_467 : decode cX12_init 467 = .ok (.bipush 12, 2) := by decide +kernel
theorem dz12_469 : decode cX12_init 469 = .ok (.newarray .int, 2) := by decide +kernel
theorem dz12_471 : decode cX12_init 471 = .ok (.putfield 179, 3) := by decide +kernel
theorem dz12_474 : decode cX12_init 474 = .ok (.aload_n 0, 1) := by decide +kernel
theorem dz12_475 : decode cX12_init 475 = .ok (.iconst 3, 1) := by decide +kernel
theorem dz12_476 : decode cX12_init 476 = .ok (.newarray .int, 2) := by decide +kernel
theorem dz12_478 : decode cX12_init 478 = .ok (.putfield 182, 3) := by decide +kernel
theorem dz12_481 : decode cX12_init 481 = .ok (.aload_n 0, 1) := by decide +kernel
theorem dz12_482 : decode cX12_init 482 = .ok (.iconst 3, 1) := by decide +kernel
theorem dz12_483 : decode cX12_init 483 = .ok (.newarray .int, 2) := by decide +kernel
theorem dz12_485 : decode cX12_init 485 = .ok (.putfield 185, 3) := by decide +kernel
theorem dz12_488 : decode cX12_init 488 = .ok (.aload_n 0, 1) := by decide +kernel
theorem dz12_489 : decode cX12_init 489 = .ok (.bipush 40, 2) := by decide +kernel
theorem dz12_491 : decode cX12_init 491 = .ok (.newarray .int, 2) := by decide +kernel
theorem dz12_493 : decode cX12_init 493 = .ok (.putfield 188, 3) := by decide +kernel
theorem dz12_496 : decode cX12_init 496 = .ok (.aload_n 0, 1) := by decide +kernel
theorem dz12_497 : decode cX12_init 497 = .ok (.bipush 40, 2) := by decide +kernel
theorem dz12_499 : decode cX12_init 499 = .ok (.newarray .boolean, 2) := by decide +kernel
theorem dz12_501 : decode cX12_init 501 = .ok (.putfield 191, 3) := by decide +kernel
theorem dz12_504 : decode cX12_init 504 = .ok (.aload_n 0, 1) := by decide +kernel
theorem dz12_505 : decode cX12_init 505 = .ok (.bipush 12, 2) := by decide +kernel
theorem dz12_507 : decode cX12_init 507 = .ok (.newarray .int, 2) := by decide +kernel
theorem dz12_509 : decode cX12_init 509 = .ok (.putfield 194, 3) := by decide +kernel
theorem dz12_512 : decode cX12_init 512 = .ok (.aload_n 0, 1) := by decide +kernel
theorem dz12_513 : decode cX12_init 513 = .ok (.bipush 24, 2) := by decide +kernel
theorem dz12_515 : decode cX12_init 515 = .ok (.newarray .int, 2) := by decide +kernel
theorem dz12_517 : decode cX12_init 517 = .ok (.putfield 197, 3) := by decide +kernel
theorem dz12_520 : decode cX12_init 520 = .ok (.aload_n 0, 1) := by decide +kernel
theorem dz12_521 : decode cX12_init 521 = .ok (.bipush 6, 2) := by decide +kernel
theorem dz12_523 : decode cX12_init 523 = .ok (.newarray .int, 2) := by decide +kernel
theorem dz12_525 : decode cX12_init 525 = .ok (.putfield 200, 3) := by decide +kernel
theorem dz12_528 : decode cX12_init 528 = .ok (.aload_n 0, 1) := by decide +kernel
theorem dz12_529 : decode cX12_init 529 = .ok (.bipush 6, 2) := by decide +kernel
theorem dz12_531 : decode cX12_init 531 = .ok (.newarray .int, 2) := by decide +kernel
theorem dz12_533 : decode cX12_init 533 = .ok (.putfield 203, 3) := by decide +kernel
theorem dz12_536 : decode cX12_init 536 = .ok (.aload_n 0, 1) := by decide +kernel
theorem dz12_537 : decode cX12_init 537 = .ok (.sipush 360, 3) := by decide +kernel
theorem dz12_540 : decode cX12_init 540 = .ok (.newarray .long, 2) := by decide +kernel
theorem dz12_542 : decode cX12_init 542 = .ok (.putfield 206, 3) := by decide +kernel
theorem dz12_545 : decode cX12_init 545 = .ok (.aload_n 0, 1) := by decide +kernel
theorem dz12_546 : decode cX12_init 546 = .ok (.bipush 60, 2) := by decide +kernel
theorem dz12_548 : decode cX12_init 548 = .ok (.newarray .long, 2) := by decide +kernel
theorem dz12_550 : decode cX12_init 550 = .ok (.putfield 210, 3) := by decide +kernel
theorem dz12_553 : decode cX12_init 553 = .ok (.iconst 0, 1) := by decide +kernel
theorem dz12_554 : decode cX12_init 554 = .ok (.istore_n 1, 1) := by decide +kernel
theorem dz12_555 : decode cX12_init 555 = .ok (.iload_n 1, 1) := by decide +kernel
theorem dz12_556 : decode cX12_init 556 = .ok (.sipush 144, 3) := by decide +kernel
theorem dz12_559 : decode cX12_init 559 = .ok (.if_icmp .ge 16, 3) := by decide +kernel
theorem dz12_562 : decode cX12_init 562 = .ok (.aload_n 0, 1) := by decide +kernel
theorem dz12_563 : decode cX12_init 563 = .ok (.getfield 25, 3) := by decide +kernel
theorem dz12_566 : decode cX12_init 566 = .ok (.iload_n 1, 1) := by decide +kernel
theorem dz12_567 : decode cX12_init 567 = .ok (.iconst 1, 1) := by decide +kernel
theorem dz12_568 : decode cX12_init 568 = .ok (.iastore, 1) := by decide +kernel
theorem dz12_569 : decode cX12_init 569 = .ok (.iinc 1 1, 3) := by decide +kernel
theorem dz12_572 : decode cX12_init 572 = .ok (.goto (-17), 3) := by decide +kernel
theorem dz12_575 : decode cX12_init 575 = .ok (.iconst 0, 1) := by decide +kernel
theorem dz12_576 : decode cX12_init 576 = .ok (.istore_n 1, 1) := by decide +kernel
theorem dz12_577 : decode cX12_init 577 = .ok (.iload_n 1, 1) := by decide +kernel
theorem dz12_578 : decode cX12_init 578 = .ok (.bipush 6, 2) := by decide +kernel
theorem dz12_580 : decode cX12_init 580 = .ok (.if_icmp .ge 16, 3) := by decide +kernel
theorem dz12_583 : decode cX12_init 583 = .ok (.aload_n 0, 1) := by decide +kernel
theorem dz12_584 : decode cX12_init 584 = .ok (.getfield 200, 3) := by decide +kernel
theorem dz12_587 : decode cX12_init 587 = .ok (.iload_n 1, 1) := by decide +kernel
theorem dz12_588 : decode cX12_init 588 = .ok (.iconst (-1), 1) := by decide +kernel
theorem dz12_589 : decode cX12_init 589 = .ok (.iastore, 1) := by decide +kernel
theorem dz12_590 : decode cX12_init 590 = .ok (.iinc 1 1, 3) := by decide +kernel
theorem dz12_593 : decode cX12_init 593 = .ok (.goto (-16), 3) := by decide +kernel
theorem dz12_596 : decode cX12_init 596 = .ok (.return_, 1) := by decide +kernel
def zmv (a n : Nat) : List (Option Nat) → List Value
  | [] => []
  | none :: l => .int 0 :: zmv a n l
  | some k :: l => cond (Nat.blt k (52 + n)) (.ref (a + 1 + (k - 52))) .null :: zmv a n l
def zmf (a n : Nat) : List Value := zmv a n [none, some 52, some 53, some 54, some 55, some 56, some 57, some 58, none, some 59, some 60, some 61, some 62, some 63, some 64, none, some 65, some 66, some 67, some 68, some 69, some 70, some 71, none, some 72, some 73, some 74, some 75, none, some 76, some 77, some 78, some 79, some 80, none, some 81, some 82, some 83, some 84, some 85, some 86, none, some 87, some 88, some 89, some 90, some 91, some 92, some 93, none, none, none, none, none, none, some 94, some 95, some 96, some 97, some 98, some 99, some 100, some 101, some 102, none, some 103, some 104, some 105, some 106, some 107, some 108, some 109, none, some 110, none, some 111, some 112, some 113, none, some 114, none, none, some 115, some 116, some 117, some 118]
def zme (k : Nat) : Nat × Nat := match t_nth tb_kinds k with
  | some (_, _, some (srt, N), _) => (srt, N.toNat)
  | _ => (0, 0)
def zmr (ca : Nat → ClassId) (a : Nat) : Nat → va_W
  | 0 => []
  | n + 1 => zmr ca a n ++ [(a + 1 + n, .inl (ca (zme (52 + n)).1, zar (zme (52 + n)).1 (zme (52 + n)).2))]
set_option maxRecDepth 20000 in
theorem zmf_0 (a : Nat) : (zmf a 0).set 1 (.ref (a + 1 + 0)) = zmf a 1 := rfl
set_option maxRecDepth 20000 in
theorem zms_0 {p : Program} {l : Launch} {e : Env} {R : Room} {s : State} {m : MethodId} {args : Array Value} {below : List Frame} {meth : Method} {c : Code} {cells slots : Nat} {D : va_G} {ca : Nat → ClassId} {A : Nat → Prop} {Q : State → Prop} {ls : Array Slot} {H : Heap} {locs : List Loc} {a : Nat} (Z : Zc p s m args meth c cX12_init 12 D ca A) (h0 : ls[0]? = some (.val (.ref a))) (hcells : cells + 1 ≤ R.cells) (hslots : slots + 3 ≤ R.slots) (hW : Wd D A s.heap ((a, .inr (12, zmf a 0)) :: zmr ca a 0) H locs (a + 1 + 0)) (kk : ∀ H1 locs1, Wd D A s.heap ((a, .inr (12, zmf a 1)) :: zmr ca a 1) H1 locs1 (a + 1 + 1) → W p l e R s m args below meth c H1 locs1 (cells + 1) (slots + 3) Q (F0 m 11 ls [])) : W p l e R s m args below meth c H locs cells slots Q (F0 m 4 ls []) := by
  obtain ⟨hx, hb, -⟩ := id Z
  refine z_a (v := nI 3) (N := 3) (srt := 0) (ty := zty 0) Z h0 dz12_4 (zp_c hx hb dz12_5 (by decide +kernel)) (by decide) zw_1_100 (nI_pos (by decide)) (nI_clamp (by decide)) (by decide) hcells hslots dz12_6 rfl (by decide) (Nat.le_of_ble_eq_true rfl) (fun _ => rfl) (by decide +kernel) dz12_8 hW (fun H locs hW => ?_)
  rw [zmf_0] at hW
  exact kk H locs hW
set_option maxRecDepth 20000 in
theorem zmf_1 (a : Nat) : (zmf a 1).set 2 (.ref (a + 1 + 1)) = zmf a 2 := rfl
set_option maxRecDepth 20000 in
theorem zms_1 {p : Program} {l : Launch} {e : Env} {R : Room} {s : State} {m : MethodId} {args : Array Value} {below : List Frame} {meth : Method} {c : Code} {cells slots : Nat} {D : va_G} {ca : Nat → ClassId} {A : Nat → Prop} {Q : State → Prop} {ls : Array Slot} {H : Heap} {locs : List Loc} {a : Nat} (Z : Zc p s m args meth c cX12_init 12 D ca A) (h0 : ls[0]? = some (.val (.ref a))) (hcells : cells + 1 ≤ R.cells) (hslots : slots + 3 ≤ R.slots) (hW : Wd D A s.heap ((a, .inr (12, zmf a 1)) :: zmr ca a 1) H locs (a + 1 + 1)) (kk : ∀ H1 locs1, Wd D A s.heap ((a, .inr (12, zmf a 2)) :: zmr ca a 2) H1 locs1 (a + 1 + 2) → W p l e R s m args below meth c H1 locs1 (cells + 1) (slots + 3) Q (F0 m 18 ls [])) : W p l e R s m args below meth c H locs cells slots Q (F0 m 11 ls []) := by
  obtain ⟨hx, hb, -⟩ := id Z
  refine z_a (v := nI 3) (N := 3) (srt := 0) (ty := zty 0) Z h0 dz12_11 (zp_c hx hb dz12_12 (by decide +kernel)) (by decide) zw_1_100 (nI_pos (by decide)) (nI_clamp (by decide)) (by decide) hcells hslots dz12_13 rfl (by decide) (Nat.le_of_ble_eq_true rfl) (fun _ => rfl) (by decide +kernel) dz12_15 hW (fun H locs hW => ?_)
  rw [zmf_1] at hW
  exact kk H locs hW
set_option maxRecDepth 20000 in
theorem zmf_2 (a : Nat) : (zmf a 2).set 3 (.ref (a + 1 + 2)) = zmf a 3 := rfl
set_option maxRecDepth 20000 in
theorem zms_2 {p : Program} {l : Launch} {e : Env} {R : Room} {s : State} {m : MethodId} {args : Array Value} {below : List Frame} {meth : Method} {c : Code} {cells slots : Nat} {D : va_G} {ca : Nat → ClassId} {A : Nat → Prop} {Q : State → Prop} {ls : Array Slot} {H : Heap} {locs : List Loc} {a : Nat} (Z : Zc p s m args meth c cX12_init 12 D ca A) (h0 : ls[0]? = some (.val (.ref a))) (hcells : cells + 1 ≤ R.cells) (hslots : slots + 3 ≤ R.slots) (hW : Wd D A s.heap ((a, .inr (12, zmf a 2)) :: zmr ca a 2) H locs (a + 1 + 2)) (kk : ∀ H1 locs1, Wd D A s.heap ((a, .inr (12, zmf a 3)) :: zmr ca a 3) H1 locs1 (a + 1 + 3) → W p l e R s m args below meth c H1 locs1 (cells + 1) (slots + 3) Q (F0 m 25 ls [])) : W p l e R s m args below meth c H locs cells slots Q (F0 m 18 ls []) := by
  obtain ⟨hx, hb, -⟩ := id Z
  refine z_a (v := nI 3) (N := 3) (srt := 0) (ty := zty 0) Z h0 dz12_18 (zp_c hx hb dz12_19 (by decide +kernel)) (by decide) zw_1_100 (nI_pos (by decide)) (nI_clamp (by decide)) (by decide) hcells hslots dz12_20 rfl (by decide) (Nat.le_of_ble_eq_true rfl) (fun _ => rfl) (by decide +kernel) dz12_22 hW (fun H locs hW => ?_)
  rw [zmf_2] at hW
  exact kk H locs hW
set_option maxRecDepth 20000 in
theorem zmf_3 (a : Nat) : (zmf a 3).set 4 (.ref (a + 1 + 3)) = zmf a 4 := rfl
set_option maxRecDepth 20000 in
theorem zms_3 {p : Program} {l : Launch} {e : Env} {R : Room} {s : State} {m : MethodId} {args : Array Value} {below : List Frame} {meth : Method} {c : Code} {cells slots : Nat} {D : va_G} {ca : Nat → ClassId} {A : Nat → Prop} {Q : State → Prop} {ls : Array Slot} {H : Heap} {locs : List Loc} {a : Nat} (Z : Zc p s m args meth c cX12_init 12 D ca A) (h0 : ls[0]? = some (.val (.ref a))) (hcells : cells + 1 ≤ R.cells) (hslots : slots + 3 ≤ R.slots) (hW : Wd D A s.heap ((a, .inr (12, zmf a 3)) :: zmr ca a 3) H locs (a + 1 + 3)) (kk : ∀ H1 locs1, Wd D A s.heap ((a, .inr (12, zmf a 4)) :: zmr ca a 4) H1 locs1 (a + 1 + 4) → W p l e R s m args below meth c H1 locs1 (cells + 1) (slots + 3) Q (F0 m 32 ls [])) : W p l e R s m args below meth c H locs cells slots Q (F0 m 25 ls []) := by
  obtain ⟨hx, hb, -⟩ := id Z
  refine z_a (v := nI 3) (N := 3) (srt := 0) (ty := zty 0) Z h0 dz12_25 (zp_c hx hb dz12_26 (by decide +kernel)) (by decide) zw_1_100 (nI_pos (by decide)) (nI_clamp (by decide)) (by decide) hcells hslots dz12_27 rfl (by decide) (Nat.le_of_ble_eq_true rfl) (fun _ => rfl) (by decide +kernel) dz12_29 hW (fun H locs hW => ?_)
  rw [zmf_3] at hW
  exact kk H locs hW
set_option maxRecDepth 20000 in
theorem zmf_4 (a : Nat) : (zmf a 4).set 5 (.ref (a + 1 + 4)) = zmf a 5 := rfl
set_option maxRecDepth 20000 in
theorem zms_4 {p : Program} {l : Launch} {e : Env} {R : Room} {s : State} {m : MethodId} {args : Array Value} {below : List Frame} {meth : Method} {c : Code} {cells slots : Nat} {D : va_G} {ca : Nat → ClassId} {A : Nat → Prop} {Q : State → Prop} {ls : Array Slot} {H : Heap} {locs : List Loc} {a : Nat} (Z : Zc p s m args meth c cX12_init 12 D ca A) (h0 : ls[0]? = some (.val (.ref a))) (hcells : cells + 1 ≤ R.cells) (hslots : slots + 3 ≤ R.slots) (hW : Wd D A s.heap ((a, .inr (12, zmf a 4)) :: zmr ca a 4) H locs (a + 1 + 4)) (kk : ∀ H1 locs1, Wd D A s.heap ((a, .inr (12, zmf a 5)) :: zmr ca a 5) H1 locs1 (a + 1 + 5) → W p l e R s m args below meth c H1 locs1 (cells + 1) (slots + 3) Q (F0 m 39 ls [])) : W p l e R s m args below meth c H locs cells slots Q (F0 m 32 ls []) := by
  obtain ⟨hx, hb, -⟩ := id Z
  refine z_a (v := nI 3) (N := 3) (srt := 0) (ty := zty 0) Z h0 dz12_32 (zp_c hx hb dz12_33 (by decide +kernel)) (by decide) zw_1_100 (nI_pos (by decide)) (nI_clamp (by decide)) (by decide) hcells hslots dz12_34 rfl (by decide) (Nat.le_of_ble_eq_true rfl) (fun _ => rfl) (by decide +kernel) dz12_36 hW (fun H locs hW => ?_)
  rw [zmf_4] at hW
  exact kk H locs hW
set_option maxRecDepth 20000 in
theorem zmf_5 (a : Nat) : (zmf a 5).set 6 (.ref (a + 1 + 5)) = zmf a 6 := rfl
set_option maxRecDepth 20000 in
theorem zms_5 {p : Program} {l : Launch} {e : Env} {R : Room} {s : State} {m : MethodId} {args : Array Value} {below : List Frame} {meth : Method} {c : Code} {cells slots : Nat} {D : va_G} {ca : Nat → ClassId} {A : Nat → Prop} {Q : State → Prop} {ls : Array Slot} {H : Heap} {locs : List Loc} {a : Nat} (Z : Zc p s m args meth c cX12_init 12 D ca A) (h0 : ls[0]? = some (.val (.ref a))) (hcells : cells + 1 ≤ R.cells) (hslots : slots + 144 ≤ R.slots) (hW : Wd D A s.heap ((a, .inr (12, zmf a 5)) :: zmr ca a 5) H locs (a + 1 + 5)) (kk : ∀ H1 locs1, Wd D A s.heap ((a, .inr (12, zmf a 6)) :: zmr ca a 6) H1 locs1 (a + 1 + 6) → W p l e R s m args below meth c H1 locs1 (cells + 1) (slots + 144) Q (F0 m 48 ls [])) : W p l e R s m args below meth c H locs cells slots Q (F0 m 39 ls []) := by
  obtain ⟨hx, hb, -⟩ := id Z
  refine z_a (v := nI 144) (N := 144) (srt := 0) (ty := zty 0) Z h0 dz12_39 (zp_s hx hb dz12_40 (by decide +kernel)) (by decide) zw_1_100 (nI_pos (by decide)) (nI_clamp (by decide)) (by decide) hcells hslots dz12_43 rfl (by decide) (Nat.le_of_ble_eq_true rfl) (fun _ => rfl) (by decide +kernel) dz12_45 hW (fun H locs hW => ?_)
  rw [zmf_5] at hW
  exact kk H locs hW
set_option maxRecDepth 20000 in
theorem zmf_6 (a : Nat) : (zmf a 6).set 7 (.ref (a + 1 + 6)) = zmf a 7 := rfl
set_option maxRecDepth 20000 in
theorem zms_6 {p : Program} {l : Launch} {e : Env} {R : Room} {s : State} {m : MethodId} {args : Array Value} {below : List Frame} {meth : Method} {c : Code} {cells slots : Nat} {D : va_G} {ca : Nat → ClassId} {A : Nat → Prop} {Q : State → Prop} {ls : Array Slot} {H : Heap} {locs : List Loc} {a : Nat} (Z : Zc p s m args meth c cX12_init 12 D ca A) (h0 : ls[0]? = some (.val (.ref a))) (hcells : cells + 1 ≤ R.cells) (hslots : slots + 144 ≤ R.slots) (hW : Wd D A s.heap ((a, .inr (12, zmf a 6)) :: zmr ca a 6) H locs (a + 1 + 6)) (kk : ∀ H1 locs1, Wd D A s.heap ((a, .inr (12, zmf a 7)) :: zmr ca a 7) H1 locs1 (a + 1 + 7) → W p l e R s m args below meth c H1 locs1 (cells + 1) (slots + 144) Q (F0 m 57 ls [])) : W p l e R s m args below meth c H locs cells slots Q (F0 m 48 ls []) := by
  obtain ⟨hx, hb, -⟩ := id Z
  refine z_a (v := nI 144) (N := 144) (srt := 1) (ty := zty 1) Z h0 dz12_48 (zp_s hx hb dz12_49 (by decide +kernel)) (by decide) zw_1_101 (nI_pos (by decide)) (nI_clamp (by decide)) (by decide) hcells hslots dz12_52 rfl (by decide) (Nat.le_of_ble_eq_true rfl) (fun _ => rfl) (by decide +kernel) dz12_54 hW (fun H locs hW => ?_)
  rw [zmf_6] at hW
  exact kk H locs hW
set_option maxRecDepth 20000 in
theorem zmf_7 (a : Nat) : (zmf a 7).set 9 (.ref (a + 1 + 7)) = zmf a 8 := rfl
set_option maxRecDepth 20000 in
theorem zms_7 {p : Program} {l : Launch} {e : Env} {R : Room} {s : State} {m : MethodId} {args : Array Value} {below : List Frame} {meth : Method} {c : Code} {cells slots : Nat} {D : va_G} {ca : Nat → ClassId} {A : Nat → Prop} {Q : State → Prop} {ls : Array Slot} {H : Heap} {locs : List Loc} {a : Nat} (Z : Zc p s m args meth c cX12_init 12 D ca A) (h0 : ls[0]? = some (.val (.ref a))) (hcells : cells + 1 ≤ R.cells) (hslots : slots + 12 ≤ R.slots) (hW : Wd D A s.heap ((a, .inr (12, zmf a 7)) :: zmr ca a 7) H locs (a + 1 + 7)) (kk : ∀ H1 locs1, Wd D A s.heap ((a, .inr (12, zmf a 8)) :: zmr ca a 8) H1 locs1 (a + 1 + 8) → W p l e R s m args below meth c H1 locs1 (cells + 1) (slots + 12) Q (F0 m 65 ls [])) : W p l e R s m args below meth c H locs cells slots Q (F0 m 57 ls []) := by
  obtain ⟨hx, hb, -⟩ := id Z
  refine z_a (v := nI 12) (N := 12) (srt := 0) (ty := zty 0) Z h0 dz12_57 (zp_b hx hb dz12_58 (by decide +kernel)) (by decide) zw_1_100 (nI_pos (by decide)) (nI_clamp (by decide)) (by decide) hcells hslots dz12_60 rfl (by decide) (Nat.le_of_ble_eq_true rfl) (fun _ => rfl) (by decide +kernel) dz12_62 hW (fun H locs hW => ?_)
  rw [zmf_7] at hW
  exact kk H locs hW
set_option maxRecDepth 20000 in
theorem zmf_8 (a : Nat) : (zmf a 8).set 10 (.ref (a + 1 + 8)) = zmf a 9 := rfl
set_option maxRecDepth 20000 in
theorem zms_8 {p : Program} {l : Launch} {e : Env} {R : Room} {s : State} {m : MethodId} {args : Array Value} {below : List Frame} {meth : Method} {c : Code} {cells slots : Nat} {D : va_G} {ca : Nat → ClassId} {A : Nat → Prop} {Q : State → Prop} {ls : Array Slot} {H : Heap} {locs : List Loc} {a : Nat} (Z : Zc p s m args meth c cX12_init 12 D ca A) (h0 : ls[0]? = some (.val (.ref a))) (hcells : cells + 1 ≤ R.cells) (hslots : slots + 12 ≤ R.slots) (hW : Wd D A s.heap ((a, .inr (12, zmf a 8)) :: zmr ca a 8) H locs (a + 1 + 8)) (kk : ∀ H1 locs1, Wd D A s.heap ((a, .inr (12, zmf a 9)) :: zmr ca a 9) H1 locs1 (a + 1 + 9) → W p l e R s m args below meth c H1 locs1 (cells + 1) (slots + 12) Q (F0 m 73 ls [])) : W p l e R s m args below meth c H locs cells slots Q (F0 m 65 ls []) := by
  obtain ⟨hx, hb, -⟩ := id Z
  refine z_a (v := nI 12) (N := 12) (srt := 0) (ty := zty 0) Z h0 dz12_65 (zp_b hx hb dz12_66 (by decide +kernel)) (by decide) zw_1_100 (nI_pos (by decide)) (nI_clamp (by decide)) (by decide) hcells hslots dz12_68 rfl (by decide) (Nat.le_of_ble_eq_true rfl) (fun _ => rfl) (by decide +kernel) dz12_70 hW (fun H locs hW => ?_)
  rw [zmf_8] at hW
  exact kk H locs hW
set_option maxRecDepth 20000 in
theorem zmf_9 (a : Nat) : (zmf a 9).set 11 (.ref (a + 1 + 9)) = zmf a 10 := rfl
set_option maxRecDepth 20000 in
theorem zms_9 {p : Program} {l : Launch} {e : Env} {R : Room} {s : State} {m : MethodId} {args : Array Value} {below : List Frame} {meth : Method} {c : Code} {cells slots : Nat} {D : va_G} {ca : Nat → ClassId} {A : Nat → Prop} {Q : State → Prop} {ls : Array Slot} {H : Heap} {locs : List Loc} {a : Nat} (Z : Zc p s m args meth c cX12_init 12 D ca A) (h0 : ls[0]? = some (.val (.ref a))) (hcells : cells + 1 ≤ R.cells) (hslots : slots + 12 ≤ R.slots) (hW : Wd D A s.heap ((a, .inr (12, zmf a 9)) :: zmr ca a 9) H locs (a + 1 + 9)) (kk : ∀ H1 locs1, Wd D A s.heap ((a, .inr (12, zmf a 10)) :: zmr ca a 10) H1 locs1 (a + 1 + 10) → W p l e R s m args below meth c H1 locs1 (cells + 1) (slots + 12) Q (F0 m 81 ls [])) : W p l e R s m args below meth c H locs cells slots Q (F0 m 73 ls []) := by
  obtain ⟨hx, hb, -⟩ := id Z
  refine z_a (v := nI 12) (N := 12) (srt := 0) (ty := zty 0) Z h0 dz12_73 (zp_b hx hb dz12_74 (by decide +kernel)) (by decide) zw_1_100 (nI_pos (by decide)) (nI_clamp (by decide)) (by decide) hcells hslots dz12_76 rfl (by decide) (Nat.le_of_ble_eq_true rfl) (fun _ => rfl) (by decide +kernel) dz12_78 hW (fun H locs hW => ?_)
  rw [zmf_9] at hW
  exact kk H locs hW
set_option maxRecDepth 20000 in
theorem zmf_10 (a : Nat) : (zmf a 10).set 12 (.ref (a + 1 + 10)) = zmf a 11 := rfl
set_option maxRecDepth 20000 in
theorem zms_10 {p : Program} {l : Launch} {e : Env} {R : Room} {s : State} {m : MethodId} {args : Array Value} {below : List Frame} {meth : Method} {c : Code} {cells slots : Nat} {D : va_G} {ca : Nat → ClassId} {A : Nat → Prop} {Q : State → Prop} {ls : Array Slot} {H : Heap} {locs : List Loc} {a : Nat} (Z : Zc p s m args meth c cX12_init 12 D ca A) (h0 : ls[0]? = some (.val (.ref a))) (hcells : cells + 1 ≤ R.cells) (hslots : slots + 12 ≤ R.slots) (hW : Wd D A s.heap ((a, .inr (12, zmf a 10)) :: zmr ca a 10) H locs (a + 1 + 10)) (kk : ∀ H1 locs1, Wd D A s.heap ((a, .inr (12, zmf a 11)) :: zmr ca a 11) H1 locs1 (a + 1 + 11) → W p l e R s m args below meth c H1 locs1 (cells + 1) (slots + 12) Q (F0 m 89 ls [])) : W p l e R s m args below meth c H locs cells slots Q (F0 m 81 ls []) := by
  obtain ⟨hx, hb, -⟩ := id Z
  refine z_a (v := nI 12) (N := 12) (srt := 0) (ty := zty 0) Z h0 dz12_81 (zp_b hx hb dz12_82 (by decide +kernel)) (by decide) zw_1_100 (nI_pos (by decide)) (nI_clamp (by decide)) (by decide) hcells hslots dz12_84 rfl (by decide) (Nat.le_of_ble_eq_true rfl) (fun _ => rfl) (by decide +kernel) dz12_86 hW (fun H locs hW => ?_)
  rw [zmf_10] at hW
  exact kk H locs hW
set_option maxRecDepth 20000 in
theorem zmf_11 (a : Nat) : (zmf a 11).set 13 (.ref (a + 1 + 11)) = zmf a 12 := rfl
set_option maxRecDepth 20000 in
theorem zms_11 {p : Program} {l : Launch} {e : Env} {R : Room} {s : State} {m : MethodId} {args : Array Value} {below : List Frame} {meth : Method} {c : Code} {cells slots : Nat} {D : va_G} {ca : Nat → ClassId} {A : Nat → Prop} {Q : State → Prop} {ls : Array Slot} {H : Heap} {locs : List Loc} {a : Nat} (Z : Zc p s m args meth c cX12_init 12 D ca A) (h0 : ls[0]? = some (.val (.ref a))) (hcells : cells + 1 ≤ R.cells) (hslots : slots + 12 ≤ R.slots) (hW : Wd D A s.heap ((a, .inr (12, zmf a 11)) :: zmr ca a 11) H locs (a + 1 + 11)) (kk : ∀ H1 locs1, Wd D A s.heap ((a, .inr (12, zmf a 12)) :: zmr ca a 12) H1 locs1 (a + 1 + 12) → W p l e R s m args below meth c H1 locs1 (cells + 1) (slots + 12) Q (F0 m 97 ls [])) : W p l e R s m args below meth c H locs cells slots Q (F0 m 89 ls []) := by
  obtain ⟨hx, hb, -⟩ := id Z
  refine z_a (v := nI 12) (N := 12) (srt := 0) (ty := zty 0) Z h0 dz12_89 (zp_b hx hb dz12_90 (by decide +kernel)) (by decide) zw_1_100 (nI_pos (by decide)) (nI_clamp (by decide)) (by decide) hcells hslots dz12_92 rfl (by decide) (Nat.le_of_ble_eq_true rfl) (fun _ => rfl) (by decide +kernel) dz12_94 hW (fun H locs hW => ?_)
  rw [zmf_11] at hW
  exact kk H locs hW
set_option maxRecDepth 20000 in
theorem zmf_12 (a : Nat) : (zmf a 12).set 14 (.ref (a + 1 + 12)) = zmf a 13 := rfl
set_option maxRecDepth 20000 in
theorem zms_12 {p : Program} {l : Launch} {e : Env} {R : Room} {s : State} {m : MethodId} {args : Array Value} {below : List Frame} {meth : Method} {c : Code} {cells slots : Nat} {D : va_G} {ca : Nat → ClassId} {A : Nat → Prop} {Q : State → Prop} {ls : Array Slot} {H : Heap} {locs : List Loc} {a : Nat} (Z : Zc p s m args meth c cX12_init 12 D ca A) (h0 : ls[0]? = some (.val (.ref a))) (hcells : cells + 1 ≤ R.cells) (hslots : slots + 12 ≤ R.slots) (hW : Wd D A s.heap ((a, .inr (12, zmf a 12)) :: zmr ca a 12) H locs (a + 1 + 12)) (kk : ∀ H1 locs1, Wd D A s.heap ((a, .inr (12, zmf a 13)) :: zmr ca a 13) H1 locs1 (a + 1 + 13) → W p l e R s m args below meth c H1 locs1 (cells + 1) (slots + 12) Q (F0 m 105 ls [])) : W p l e R s m args below meth c H locs cells slots Q (F0 m 97 ls []) := by
  obtain ⟨hx, hb, -⟩ := id Z
  refine z_a (v := nI 12) (N := 12) (srt := 0) (ty := zty 0) Z h0 dz12_97 (zp_b hx hb dz12_98 (by decide +kernel)) (by decide) zw_1_100 (nI_pos (by decide)) (nI_clamp (by decide)) (by decide) hcells hslots dz12_100 rfl (by decide) (Nat.le_of_ble_eq_true rfl) (fun _ => rfl) (by decide +kernel) dz12_102 hW (fun H locs hW => ?_)
  rw [zmf_12] at hW
  exact kk H locs hW
set_option maxRecDepth 20000 in
theorem zmf_13 (a : Nat) : (zmf a 13).set 16 (.ref (a + 1 + 13)) = zmf a 14 := rfl
set_option maxRecDepth 20000 in
theorem zms_13 {p : Program} {l : Launch} {e : Env} {R : Room} {s : State} {m : MethodId} {args : Array Value} {below : List Frame} {meth : Method} {c : Code} {cells slots : Nat} {D : va_G} {ca : Nat → ClassId} {A : Nat → Prop} {Q : State → Prop} {ls : Array Slot} {H : Heap} {locs : List Loc} {a : Nat} (Z : Zc p s m args meth c cX12_init 12 D ca A) (h0 : ls[0]? = some (.val (.ref a))) (hcells : cells + 1 ≤ R.cells) (hslots : slots + 40 ≤ R.slots) (hW : Wd D A s.heap ((a, .inr (12, zmf a 13)) :: zmr ca a 13) H locs (a + 1 + 13)) (kk : ∀ H1 locs1, Wd D A s.heap ((a, .inr (12, zmf a 14)) :: zmr ca a 14) H1 locs1 (a + 1 + 14) → W p l e R s m args below meth c H1 locs1 (cells + 1) (slots + 40) Q (F0 m 113 ls [])) : W p l e R s m args below meth c H locs cells slots Q (F0 m 105 ls []) := by
  obtain ⟨hx, hb, -⟩ := id Z
  refine z_a (v := nI 40) (N := 40) (srt := 0) (ty := zty 0) Z h0 dz12_105 (zp_b hx hb dz12_106 (by decide +kernel)) (by decide) zw_1_100 (nI_pos (by decide)) (nI_clamp (by decide)) (by decide) hcells hslots dz12_108 rfl (by decide) (Nat.le_of_ble_eq_true rfl) (fun _ => rfl) (by decide +kernel) dz12_110 hW (fun H locs hW => ?_)
  rw [zmf_13] at hW
  exact kk H locs hW
set_option maxRecDepth 20000 in
theorem zmf_14 (a : Nat) : (zmf a 14).set 17 (.ref (a + 1 + 14)) = zmf a 15 := rfl
set_option maxRecDepth 20000 in
theorem zms_14 {p : Program} {l : Launch} {e : Env} {R : Room} {s : State} {m : MethodId} {args : Array Value} {below : List Frame} {meth : Method} {c : Code} {cells slots : Nat} {D : va_G} {ca : Nat → ClassId} {A : Nat → Prop} {Q : State → Prop} {ls : Array Slot} {H : Heap} {locs : List Loc} {a : Nat} (Z : Zc p s m args meth c cX12_init 12 D ca A) (h0 : ls[0]? = some (.val (.ref a))) (hcells : cells + 1 ≤ R.cells) (hslots : slots + 40 ≤ R.slots) (hW : Wd D A s.heap ((a, .inr (12, zmf a 14)) :: zmr ca a 14) H locs (a + 1 + 14)) (kk : ∀ H1 locs1, Wd D A s.heap ((a, .inr (12, zmf a 15)) :: zmr ca a 15) H1 locs1 (a + 1 + 15) → W p l e R s m args below meth c H1 locs1 (cells + 1) (slots + 40) Q (F0 m 121 ls [])) : W p l e R s m args below meth c H locs cells slots Q (F0 m 113 ls []) := by
  obtain ⟨hx, hb, -⟩ := id Z
  refine z_a (v := nI 40) (N := 40) (srt := 0) (ty := zty 0) Z h0 dz12_113 (zp_b hx hb dz12_114 (by decide +kernel)) (by decide) zw_1_100 (nI_pos (by decide)) (nI_clamp (by decide)) (by decide) hcells hslots dz12_116 rfl (by decide) (Nat.le_of_ble_eq_true rfl) (fun _ => rfl) (by decide +kernel) dz12_118 hW (fun H locs hW => ?_)
  rw [zmf_14] at hW
  exact kk H locs hW
set_option maxRecDepth 20000 in
theorem zmf_15 (a : Nat) : (zmf a 15).set 18 (.ref (a + 1 + 15)) = zmf a 16 := rfl
set_option maxRecDepth 20000 in
theorem zms_15 {p : Program} {l : Launch} {e : Env} {R : Room} {s : State} {m : MethodId} {args : Array Value} {below : List Frame} {meth : Method} {c : Code} {cells slots : Nat} {D : va_G} {ca : Nat → ClassId} {A : Nat → Prop} {Q : State → Prop} {ls : Array Slot} {H : Heap} {locs : List Loc} {a : Nat} (Z : Zc p s m args meth c cX12_init 12 D ca A) (h0 : ls[0]? = some (.val (.ref a))) (hcells : cells + 1 ≤ R.cells) (hslots : slots + 40 ≤ R.slots) (hW : Wd D A s.heap ((a, .inr (12, zmf a 15)) :: zmr ca a 15) H locs (a + 1 + 15)) (kk : ∀ H1 locs1, Wd D A s.heap ((a, .inr (12, zmf a 16)) :: zmr ca a 16) H1 locs1 (a + 1 + 16) → W p l e R s m args below meth c H1 locs1 (cells + 1) (slots + 40) Q (F0 m 129 ls [])) : W p l e R s m args below meth c H locs cells slots Q (F0 m 121 ls []) := by
  obtain ⟨hx, hb, -⟩ := id Z
  refine z_a (v := nI 40) (N := 40) (srt := 0) (ty := zty 0) Z h0 dz12_121 (zp_b hx hb dz12_122 (by decide +kernel)) (by decide) zw_1_100 (nI_pos (by decide)) (nI_clamp (by decide)) (by decide) hcells hslots dz12_124 rfl (by decide) (Nat.le_of_ble_eq_true rfl) (fun _ => rfl) (by decide +kernel) dz12_126 hW (fun H locs hW => ?_)
  rw [zmf_15] at hW
  exact kk H locs hW
set_option maxRecDepth 20000 in
theorem zmf_16 (a : Nat) : (zmf a 16).set 19 (.ref (a + 1 + 16)) = zmf a 17 := rfl
set_option maxRecDepth 20000 in
theorem zms_16 {p : Program} {l : Launch} {e : Env} {R : Room} {s : State} {m : MethodId} {args : Array Value} {below : List Frame} {meth : Method} {c : Code} {cells slots : Nat} {D : va_G} {ca : Nat → ClassId} {A : Nat → Prop} {Q : State → Prop} {ls : Array Slot} {H : Heap} {locs : List Loc} {a : Nat} (Z : Zc p s m args meth c cX12_init 12 D ca A) (h0 : ls[0]? = some (.val (.ref a))) (hcells : cells + 1 ≤ R.cells) (hslots : slots + 40 ≤ R.slots) (hW : Wd D A s.heap ((a, .inr (12, zmf a 16)) :: zmr ca a 16) H locs (a + 1 + 16)) (kk : ∀ H1 locs1, Wd D A s.heap ((a, .inr (12, zmf a 17)) :: zmr ca a 17) H1 locs1 (a + 1 + 17) → W p l e R s m args below meth c H1 locs1 (cells + 1) (slots + 40) Q (F0 m 137 ls [])) : W p l e R s m args below meth c H locs cells slots Q (F0 m 129 ls []) := by
  obtain ⟨hx, hb, -⟩ := id Z
  refine z_a (v := nI 40) (N := 40) (srt := 0) (ty := zty 0) Z h0 dz12_129 (zp_b hx hb dz12_130 (by decide +kernel)) (by decide) zw_1_100 (nI_pos (by decide)) (nI_clamp (by decide)) (by decide) hcells hslots dz12_132 rfl (by decide) (Nat.le_of_ble_eq_true rfl) (fun _ => rfl) (by decide +kernel) dz12_134 hW (fun H locs hW => ?_)
  rw [zmf_16] at hW
  exact kk H locs hW
set_option maxRecDepth 20000 in
theorem zmf_17 (a : Nat) : (zmf a 17).set 20 (.ref (a + 1 + 17)) = zmf a 18 := rfl
set_option maxRecDepth 20000 in
theorem zms_17 {p : Program} {l : Launch} {e : Env} {R : Room} {s : State} {m : MethodId} {args : Array Value} {below : List Frame} {meth : Method} {c : Code} {cells slots : Nat} {D : va_G} {ca : Nat → ClassId} {A : Nat → Prop} {Q : State → Prop} {ls : Array Slot} {H : Heap} {locs : List Loc} {a : Nat} (Z : Zc p s m args meth c cX12_init 12 D ca A) (h0 : ls[0]? = some (.val (.ref a))) (hcells : cells + 1 ≤ R.cells) (hslots : slots + 40 ≤ R.slots) (hW : Wd D A s.heap ((a, .inr (12, zmf a 17)) :: zmr ca a 17) H locs (a + 1 + 17)) (kk : ∀ H1 locs1, Wd D A s.heap ((a, .inr (12, zmf a 18)) :: zmr ca a 18) H1 locs1 (a + 1 + 18) → W p l e R s m args below meth c H1 locs1 (cells + 1) (slots + 40) Q (F0 m 145 ls [])) : W p l e R s m args below meth c H locs cells slots Q (F0 m 137 ls []) := by
  obtain ⟨hx, hb, -⟩ := id Z
  refine z_a (v := nI 40) (N := 40) (srt := 1) (ty := zty 1) Z h0 dz12_137 (zp_b hx hb dz12_138 (by decide +kernel)) (by decide) zw_1_101 (nI_pos (by decide)) (nI_clamp (by decide)) (by decide) hcells hslots dz12_140 rfl (by decide) (Nat.le_of_ble_eq_true rfl) (fun _ => rfl) (by decide +kernel) dz12_142 hW (fun H locs hW => ?_)
  rw [zmf_17] at hW
  exact kk H locs hW
set_option maxRecDepth 20000 in
theorem zmf_18 (a : Nat) : (zmf a 18).set 21 (.ref (a + 1 + 18)) = zmf a 19 := rfl
set_option maxRecDepth 20000 in
theorem zms_18 {p : Program} {l : Launch} {e : Env} {R : Room} {s : State} {m : MethodId} {args : Array Value} {below : List Frame} {meth : Method} {c : Code} {cells slots : Nat} {D : va_G} {ca : Nat → ClassId} {A : Nat → Prop} {Q : State → Prop} {ls : Array Slot} {H : Heap} {locs : List Loc} {a : Nat} (Z : Zc p s m args meth c cX12_init 12 D ca A) (h0 : ls[0]? = some (.val (.ref a))) (hcells : cells + 1 ≤ R.cells) (hslots : slots + 40 ≤ R.slots) (hW : Wd D A s.heap ((a, .inr (12, zmf a 18)) :: zmr ca a 18) H locs (a + 1 + 18)) (kk : ∀ H1 locs1, Wd D A s.heap ((a, .inr (12, zmf a 19)) :: zmr ca a 19) H1 locs1 (a + 1 + 19) → W p l e R s m args below meth c H1 locs1 (cells + 1) (slots + 40) Q (F0 m 153 ls [])) : W p l e R s m args below meth c H locs cells slots Q (F0 m 145 ls []) := by
  obtain ⟨hx, hb, -⟩ := id Z
  refine z_a (v := nI 40) (N := 40) (srt := 0) (ty := zty 0) Z h0 dz12_145 (zp_b hx hb dz12_146 (by decide +kernel)) (by decide) zw_1_100 (nI_pos (by decide)) (nI_clamp (by decide)) (by decide) hcells hslots dz12_148 rfl (by decide) (Nat.le_of_ble_eq_true rfl) (fun _ => rfl) (by decide +kernel) dz12_150 hW (fun H locs hW => ?_)
  rw [zmf_18] at hW
  exact kk H locs hW
set_option maxRecDepth 20000 in
theorem zmf_19 (a : Nat) : (zmf a 19).set 22 (.ref (a + 1 + 19)) = zmf a 20 := rfl
set_option maxRecDepth 20000 in
theorem zms_19 {p : Program} {l : Launch} {e : Env} {R : Room} {s : State} {m : MethodId} {args : Array Value} {below : List Frame} {meth : Method} {c : Code} {cells slots : Nat} {D : va_G} {ca : Nat → ClassId} {A : Nat → Prop} {Q : State → Prop} {ls : Array Slot} {H : Heap} {locs : List Loc} {a : Nat} (Z : Zc p s m args meth c cX12_init 12 D ca A) (h0 : ls[0]? = some (.val (.ref a))) (hcells : cells + 1 ≤ R.cells) (hslots : slots + 40 ≤ R.slots) (hW : Wd D A s.heap ((a, .inr (12, zmf a 19)) :: zmr ca a 19) H locs (a + 1 + 19)) (kk : ∀ H1 locs1, Wd D A s.heap ((a, .inr (12, zmf a 20)) :: zmr ca a 20) H1 locs1 (a + 1 + 20) → W p l e R s m args below meth c H1 locs1 (cells + 1) (slots + 40) Q (F0 m 161 ls [])) : W p l e R s m args below meth c H locs cells slots Q (F0 m 153 ls []) := by
  obtain ⟨hx, hb, -⟩ := id Z
  refine z_a (v := nI 40) (N := 40) (srt := 0) (ty := zty 0) Z h0 dz12_153 (zp_b hx hb dz12_154 (by decide +kernel)) (by decide) zw_1_100 (nI_pos (by decide)) (nI_clamp (by decide)) (by decide) hcells hslots dz12_156 rfl (by decide) (Nat.le_of_ble_eq_true rfl) (fun _ => rfl) (by decide +kernel) dz12_158 hW (fun H locs hW => ?_)
  rw [zmf_19] at hW
  exact kk H locs hW
set_option maxRecDepth 20000 in
theorem zmf_20 (a : Nat) : (zmf a 20).set 24 (.ref (a + 1 + 20)) = zmf a 21 := rfl
set_option maxRecDepth 20000 in
theorem zms_20 {p : Program} {l : Launch} {e : Env} {R : Room} {s : State} {m : MethodId} {args : Array Value} {below : List Frame} {meth : Method} {c : Code} {cells slots : Nat} {D : va_G} {ca : Nat → ClassId} {A : Nat → Prop} {Q : State → Prop} {ls : Array Slot} {H : Heap} {locs : List Loc} {a : Nat} (Z : Zc p s m args meth c cX12_init 12 D ca A) (h0 : ls[0]? = some (.val (.ref a))) (hcells : cells + 1 ≤ R.cells) (hslots : slots + 1200 ≤ R.slots) (hW : Wd D A s.heap ((a, .inr (12, zmf a 20)) :: zmr ca a 20) H locs (a + 1 + 20)) (kk : ∀ H1 locs1, Wd D A s.heap ((a, .inr (12, zmf a 21)) :: zmr ca a 21) H1 locs1 (a + 1 + 21) → W p l e R s m args below meth c H1 locs1 (cells + 1) (slots + 1200) Q (F0 m 170 ls [])) : W p l e R s m args below meth c H locs cells slots Q (F0 m 161 ls []) := by
  obtain ⟨hx, hb, -⟩ := id Z
  refine z_a (v := nI 1200) (N := 1200) (srt := 0) (ty := zty 0) Z h0 dz12_161 (zp_s hx hb dz12_162 (by decide +kernel)) (by decide) zw_1_100 (nI_pos (by decide)) (nI_clamp (by decide)) (by decide) hcells hslots dz12_165 rfl (by decide) (Nat.le_of_ble_eq_true rfl) (fun _ => rfl) (by decide +kernel) dz12_167 hW (fun H locs hW => ?_)
  rw [zmf_20] at hW
  exact kk H locs hW
set_option maxRecDepth 20000 in
theorem zmf_21 (a : Nat) : (zmf a 21).set 25 (.ref (a + 1 + 21)) = zmf a 22 := rfl
set_option maxRecDepth 20000 in
theorem zms_21 {p : Program} {l : Launch} {e : Env} {R : Room} {s : State} {m : MethodId} {args : Array Value} {below : List Frame} {meth : Method} {c : Code} {cells slots : Nat} {D : va_G} {ca : Nat → ClassId} {A : Nat → Prop} {Q : State → Prop} {ls : Array Slot} {H : Heap} {locs : List Loc} {a : Nat} (Z : Zc p s m args meth c cX12_init 12 D ca A) (h0 : ls[0]? = some (.val (.ref a))) (hcells : cells + 1 ≤ R.cells) (hslots : slots + 360 ≤ R.slots) (hW : Wd D A s.heap ((a, .inr (12, zmf a 21)) :: zmr ca a 21) H locs (a + 1 + 21)) (kk : ∀ H1 locs1, Wd D A s.heap ((a, .inr (12, zmf a 22)) :: zmr ca a 22) H1 locs1 (a + 1 + 22) → W p l e R s m args below meth c H1 locs1 (cells + 1) (slots + 360) Q (F0 m 179 ls [])) : W p l e R s m args below meth c H locs cells slots Q (F0 m 170 ls []) := by
  obtain ⟨hx, hb, -⟩ := id Z
  refine z_a (v := nI 360) (N := 360) (srt := 0) (ty := zty 0) Z h0 dz12_170 (zp_s hx hb dz12_171 (by decide +kernel)) (by decide) zw_1_100 (nI_pos (by decide)) (nI_clamp (by decide)) (by decide) hcells hslots dz12_174 rfl (by decide) (Nat.le_of_ble_eq_true rfl) (fun _ => rfl) (by decide +kernel) dz12_176 hW (fun H locs hW => ?_)
  rw [zmf_21] at hW
  exact kk H locs hW
set_option maxRecDepth 20000 in
theorem zmf_22 (a : Nat) : (zmf a 22).set 26 (.ref (a + 1 + 22)) = zmf a 23 := rfl
set_option maxRecDepth 20000 in
theorem zms_22 {p : Program} {l : Launch} {e : Env} {R : Room} {s : State} {m : MethodId} {args : Array Value} {below : List Frame} {meth : Method} {c : Code} {cells slots : Nat} {D : va_G} {ca : Nat → ClassId} {A : Nat → Prop} {Q : State → Prop} {ls : Array Slot} {H : Heap} {locs : List Loc} {a : Nat} (Z : Zc p s m args meth c cX12_init 12 D ca A) (h0 : ls[0]? = some (.val (.ref a))) (hcells : cells + 1 ≤ R.cells) (hslots : slots + 360 ≤ R.slots) (hW : Wd D A s.heap ((a, .inr (12, zmf a 22)) :: zmr ca a 22) H locs (a + 1 + 22)) (kk : ∀ H1 locs1, Wd D A s.heap ((a, .inr (12, zmf a 23)) :: zmr ca a 23) H1 locs1 (a + 1 + 23) → W p l e R s m args below meth c H1 locs1 (cells + 1) (slots + 360) Q (F0 m 188 ls [])) : W p l e R s m args below meth c H locs cells slots Q (F0 m 179 ls []) := by
  obtain ⟨hx, hb, -⟩ := id Z
  refine z_a (v := nI 360) (N := 360) (srt := 0) (ty := zty 0) Z h0 dz12_179 (zp_s hx hb dz12_180 (by decide +kernel)) (by decide) zw_1_100 (nI_pos (by decide)) (nI_clamp (by decide)) (by decide) hcells hslots dz12_183 rfl (by decide) (Nat.le_of_ble_eq_true rfl) (fun _ => rfl) (by decide +kernel) dz12_185 hW (fun H locs hW => ?_)
  rw [zmf_22] at hW
  exact kk H locs hW
set_option maxRecDepth 20000 in
theorem zmf_23 (a : Nat) : (zmf a 23).set 27 (.ref (a + 1 + 23)) = zmf a 24 := rfl
set_option maxRecDepth 20000 in
theorem zms_23 {p : Program} {l : Launch} {e : Env} {R : Room} {s : State} {m : MethodId} {args : Array Value} {below : List Frame} {meth : Method} {c : Code} {cells slots : Nat} {D : va_G} {ca : Nat → ClassId} {A : Nat → Prop} {Q : State → Prop} {ls : Array Slot} {H : Heap} {locs : List Loc} {a : Nat} (Z : Zc p s m args meth c cX12_init 12 D ca A) (h0 : ls[0]? = some (.val (.ref a))) (hcells : cells + 1 ≤ R.cells) (hslots : slots + 160 ≤ R.slots) (hW : Wd D A s.heap ((a, .inr (12, zmf a 23)) :: zmr ca a 23) H locs (a + 1 + 23)) (kk : ∀ H1 locs1, Wd D A s.heap ((a, .inr (12, zmf a 24)) :: zmr ca a 24) H1 locs1 (a + 1 + 24) → W p l e R s m args below meth c H1 locs1 (cells + 1) (slots + 160) Q (F0 m 197 ls [])) : W p l e R s m args below meth c H locs cells slots Q (F0 m 188 ls []) := by
  obtain ⟨hx, hb, -⟩ := id Z
  refine z_a (v := nI 160) (N := 160) (srt := 0) (ty := zty 0) Z h0 dz12_188 (zp_s hx hb dz12_189 (by decide +kernel)) (by decide) zw_1_100 (nI_pos (by decide)) (nI_clamp (by decide)) (by decide) hcells hslots dz12_192 rfl (by decide) (Nat.le_of_ble_eq_true rfl) (fun _ => rfl) (by decide +kernel) dz12_194 hW (fun H locs hW => ?_)
  rw [zmf_23] at hW
  exact kk H locs hW
set_option maxRecDepth 20000 in
theorem zmf_24 (a : Nat) : (zmf a 24).set 29 (.ref (a + 1 + 24)) = zmf a 25 := rfl
set_option maxRecDepth 20000 in
theorem zms_24 {p : Program} {l : Launch} {e : Env} {R : Room} {s : State} {m : MethodId} {args : Array Value} {below : List Frame} {meth : Method} {c : Code} {cells slots : Nat} {D : va_G} {ca : Nat → ClassId} {A : Nat → Prop} {Q : State → Prop} {ls : Array Slot} {H : Heap} {locs : List Loc} {a : Nat} (Z : Zc p s m args meth c cX12_init 12 D ca A) (h0 : ls[0]? = some (.val (.ref a))) (hcells : cells + 1 ≤ R.cells) (hslots : slots + 3200 ≤ R.slots) (hW : Wd D A s.heap ((a, .inr (12, zmf a 24)) :: zmr ca a 24) H locs (a + 1 + 24)) (kk : ∀ H1 locs1, Wd D A s.heap ((a, .inr (12, zmf a 25)) :: zmr ca a 25) H1 locs1 (a + 1 + 25) → W p l e R s m args below meth c H1 locs1 (cells + 1) (slots + 3200) Q (F0 m 206 ls [])) : W p l e R s m args below meth c H locs cells slots Q (F0 m 197 ls []) := by
  obtain ⟨hx, hb, -⟩ := id Z
  refine z_a (v := nI 3200) (N := 3200) (srt := 0) (ty := zty 0) Z h0 dz12_197 (zp_s hx hb dz12_198 (by decide +kernel)) (by decide) zw_1_100 (nI_pos (by decide)) (nI_clamp (by decide)) (by decide) hcells hslots dz12_201 rfl (by decide) (Nat.le_of_ble_eq_true rfl) (fun _ => rfl) (by decide +kernel) dz12_203 hW (fun H locs hW => ?_)
  rw [zmf_24] at hW
  exact kk H locs hW
set_option maxRecDepth 20000 in
theorem zmf_25 (a : Nat) : (zmf a 25).set 30 (.ref (a + 1 + 25)) = zmf a 26 := rfl
set_option maxRecDepth 20000 in
theorem zms_25 {p : Program} {l : Launch} {e : Env} {R : Room} {s : State} {m : MethodId} {args : Array Value} {below : List Frame} {meth : Method} {c : Code} {cells slots : Nat} {D : va_G} {ca : Nat → ClassId} {A : Nat → Prop} {Q : State → Prop} {ls : Array Slot} {H : Heap} {locs : List Loc} {a : Nat} (Z : Zc p s m args meth c cX12_init 12 D ca A) (h0 : ls[0]? = some (.val (.ref a))) (hcells : cells + 1 ≤ R.cells) (hslots : slots + 20 ≤ R.slots) (hW : Wd D A s.heap ((a, .inr (12, zmf a 25)) :: zmr ca a 25) H locs (a + 1 + 25)) (kk : ∀ H1 locs1, Wd D A s.heap ((a, .inr (12, zmf a 26)) :: zmr ca a 26) H1 locs1 (a + 1 + 26) → W p l e R s m args below meth c H1 locs1 (cells + 1) (slots + 20) Q (F0 m 214 ls [])) : W p l e R s m args below meth c H locs cells slots Q (F0 m 206 ls []) := by
  obtain ⟨hx, hb, -⟩ := id Z
  refine z_a (v := nI 20) (N := 20) (srt := 0) (ty := zty 0) Z h0 dz12_206 (zp_b hx hb dz12_207 (by decide +kernel)) (by decide) zw_1_100 (nI_pos (by decide)) (nI_clamp (by decide)) (by decide) hcells hslots dz12_209 rfl (by decide) (Nat.le_of_ble_eq_true rfl) (fun _ => rfl) (by decide +kernel) dz12_211 hW (fun H locs hW => ?_)
  rw [zmf_25] at hW
  exact kk H locs hW
set_option maxRecDepth 20000 in
theorem zmf_26 (a : Nat) : (zmf a 26).set 31 (.ref (a + 1 + 26)) = zmf a 27 := rfl
set_option maxRecDepth 20000 in
theorem zms_26 {p : Program} {l : Launch} {e : Env} {R : Room} {s : State} {m : MethodId} {args : Array Value} {below : List Frame} {meth : Method} {c : Code} {cells slots : Nat} {D : va_G} {ca : Nat → ClassId} {A : Nat → Prop} {Q : State → Prop} {ls : Array Slot} {H : Heap} {locs : List Loc} {a : Nat} (Z : Zc p s m args meth c cX12_init 12 D ca A) (h0 : ls[0]? = some (.val (.ref a))) (hcells : cells + 1 ≤ R.cells) (hslots : slots + 20 ≤ R.slots) (hW : Wd D A s.heap ((a, .inr (12, zmf a 26)) :: zmr ca a 26) H locs (a + 1 + 26)) (kk : ∀ H1 locs1, Wd D A s.heap ((a, .inr (12, zmf a 27)) :: zmr ca a 27) H1 locs1 (a + 1 + 27) → W p l e R s m args below meth c H1 locs1 (cells + 1) (slots + 20) Q (F0 m 222 ls [])) : W p l e R s m args below meth c H locs cells slots Q (F0 m 214 ls []) := by
  obtain ⟨hx, hb, -⟩ := id Z
  refine z_a (v := nI 20) (N := 20) (srt := 0) (ty := zty 0) Z h0 dz12_214 (zp_b hx hb dz12_215 (by decide +kernel)) (by decide) zw_1_100 (nI_pos (by decide)) (nI_clamp (by decide)) (by decide) hcells hslots dz12_217 rfl (by decide) (Nat.le_of_ble_eq_true rfl) (fun _ => rfl) (by decide +kernel) dz12_219 hW (fun H locs hW => ?_)
  rw [zmf_26] at hW
  exact kk H locs hW
set_option maxRecDepth 20000 in
theorem zmf_27 (a : Nat) : (zmf a 27).set 32 (.ref (a + 1 + 27)) = zmf a 28 := rfl
set_option maxRecDepth 20000 in
theorem zms_27 {p : Program} {l : Launch} {e : Env} {R : Room} {s : State} {m : MethodId} {args : Array Value} {below : List Frame} {meth : Method} {c : Code} {cells slots : Nat} {D : va_G} {ca : Nat → ClassId} {A : Nat → Prop} {Q : State → Prop} {ls : Array Slot} {H : Heap} {locs : List Loc} {a : Nat} (Z : Zc p s m args meth c cX12_init 12 D ca A) (h0 : ls[0]? = some (.val (.ref a))) (hcells : cells + 1 ≤ R.cells) (hslots : slots + 20 ≤ R.slots) (hW : Wd D A s.heap ((a, .inr (12, zmf a 27)) :: zmr ca a 27) H locs (a + 1 + 27)) (kk : ∀ H1 locs1, Wd D A s.heap ((a, .inr (12, zmf a 28)) :: zmr ca a 28) H1 locs1 (a + 1 + 28) → W p l e R s m args below meth c H1 locs1 (cells + 1) (slots + 20) Q (F0 m 230 ls [])) : W p l e R s m args below meth c H locs cells slots Q (F0 m 222 ls []) := by
  obtain ⟨hx, hb, -⟩ := id Z
  refine z_a (v := nI 20) (N := 20) (srt := 0) (ty := zty 0) Z h0 dz12_222 (zp_b hx hb dz12_223 (by decide +kernel)) (by decide) zw_1_100 (nI_pos (by decide)) (nI_clamp (by decide)) (by decide) hcells hslots dz12_225 rfl (by decide) (Nat.le_of_ble_eq_true rfl) (fun _ => rfl) (by decide +kernel) dz12_227 hW (fun H locs hW => ?_)
  rw [zmf_27] at hW
  exact kk H locs hW
set_option maxRecDepth 20000 in
theorem zmf_28 (a : Nat) : (zmf a 28).set 33 (.ref (a + 1 + 28)) = zmf a 29 := rfl
set_option maxRecDepth 20000 in
theorem zms_28 {p : Program} {l : Launch} {e : Env} {R : Room} {s : State} {m : MethodId} {args : Array Value} {below : List Frame} {meth : Method} {c : Code} {cells slots : Nat} {D : va_G} {ca : Nat → ClassId} {A : Nat → Prop} {Q : State → Prop} {ls : Array Slot} {H : Heap} {locs : List Loc} {a : Nat} (Z : Zc p s m args meth c cX12_init 12 D ca A) (h0 : ls[0]? = some (.val (.ref a))) (hcells : cells + 1 ≤ R.cells) (hslots : slots + 20 ≤ R.slots) (hW : Wd D A s.heap ((a, .inr (12, zmf a 28)) :: zmr ca a 28) H locs (a + 1 + 28)) (kk : ∀ H1 locs1, Wd D A s.heap ((a, .inr (12, zmf a 29)) :: zmr ca a 29) H1 locs1 (a + 1 + 29) → W p l e R s m args below meth c H1 locs1 (cells + 1) (slots + 20) Q (F0 m 238 ls [])) : W p l e R s m args below meth c H locs cells slots Q (F0 m 230 ls []) := by
  obtain ⟨hx, hb, -⟩ := id Z
  refine z_a (v := nI 20) (N := 20) (srt := 0) (ty := zty 0) Z h0 dz12_230 (zp_b hx hb dz12_231 (by decide +kernel)) (by decide) zw_1_100 (nI_pos (by decide)) (nI_clamp (by decide)) (by decide) hcells hslots dz12_233 rfl (by decide) (Nat.le_of_ble_eq_true rfl) (fun _ => rfl) (by decide +kernel) dz12_235 hW (fun H locs hW => ?_)
  rw [zmf_28] at hW
  exact kk H locs hW
set_option maxRecDepth 20000 in
theorem zmf_29 (a : Nat) : (zmf a 29).set 35 (.ref (a + 1 + 29)) = zmf a 30 := rfl
set_option maxRecDepth 20000 in
theorem zms_29 {p : Program} {l : Launch} {e : Env} {R : Room} {s : State} {m : MethodId} {args : Array Value} {below : List Frame} {meth : Method} {c : Code} {cells slots : Nat} {D : va_G} {ca : Nat → ClassId} {A : Nat → Prop} {Q : State → Prop} {ls : Array Slot} {H : Heap} {locs : List Loc} {a : Nat} (Z : Zc p s m args meth c cX12_init 12 D ca A) (h0 : ls[0]? = some (.val (.ref a))) (hcells : cells + 1 ≤ R.cells) (hslots : slots + 150 ≤ R.slots) (hW : Wd D A s.heap ((a, .inr (12, zmf a 29)) :: zmr ca a 29) H locs (a + 1 + 29)) (kk : ∀ H1 locs1, Wd D A s.heap ((a, .inr (12, zmf a 30)) :: zmr ca a 30) H1 locs1 (a + 1 + 30) → W p l e R s m args below meth c H1 locs1 (cells + 1) (slots + 150) Q (F0 m 247 ls [])) : W p l e R s m args below meth c H locs cells slots Q (F0 m 238 ls []) := by
  obtain ⟨hx, hb, -⟩ := id Z
  refine z_a (v := nI 150) (N := 150) (srt := 0) (ty := zty 0) Z h0 dz12_238 (zp_s hx hb dz12_239 (by decide +kernel)) (by decide) zw_1_100 (nI_pos (by decide)) (nI_clamp (by decide)) (by decide) hcells hslots dz12_242 rfl (by decide) (Nat.le_of_ble_eq_true rfl) (fun _ => rfl) (by decide +kernel) dz12_244 hW (fun H locs hW => ?_)
  rw [zmf_29] at hW
  exact kk H locs hW
set_option maxRecDepth 20000 in
theorem zmf_30 (a : Nat) : (zmf a 30).set 36 (.ref (a + 1 + 30)) = zmf a 31 := rfl
set_option maxRecDepth 20000 in
theorem zms_30 {p : Program} {l : Launch} {e : Env} {R : Room} {s : State} {m : MethodId} {args : Array Value} {below : List Frame} {meth : Method} {c : Code} {cells slots : Nat} {D : va_G} {ca : Nat → ClassId} {A : Nat → Prop} {Q : State → Prop} {ls : Array Slot} {H : Heap} {locs : List Loc} {a : Nat} (Z : Zc p s m args meth c cX12_init 12 D ca A) (h0 : ls[0]? = some (.val (.ref a))) (hcells : cells + 1 ≤ R.cells) (hslots : slots + 150 ≤ R.slots) (hW : Wd D A s.heap ((a, .inr (12, zmf a 30)) :: zmr ca a 30) H locs (a + 1 + 30)) (kk : ∀ H1 locs1, Wd D A s.heap ((a, .inr (12, zmf a 31)) :: zmr ca a 31) H1 locs1 (a + 1 + 31) → W p l e R s m args below meth c H1 locs1 (cells + 1) (slots + 150) Q (F0 m 256 ls [])) : W p l e R s m args below meth c H locs cells slots Q (F0 m 247 ls []) := by
  obtain ⟨hx, hb, -⟩ := id Z
  refine z_a (v := nI 150) (N := 150) (srt := 0) (ty := zty 0) Z h0 dz12_247 (zp_s hx hb dz12_248 (by decide +kernel)) (by decide) zw_1_100 (nI_pos (by decide)) (nI_clamp (by decide)) (by decide) hcells hslots dz12_251 rfl (by decide) (Nat.le_of_ble_eq_true rfl) (fun _ => rfl) (by decide +kernel) dz12_253 hW (fun H locs hW => ?_)
  rw [zmf_30] at hW
  exact kk H locs hW
set_option maxRecDepth 20000 in
theorem zmf_31 (a : Nat) : (zmf a 31).set 37 (.ref (a + 1 + 31)) = zmf a 32 := rfl
set_option maxRecDepth 20000 in
theorem zms_31 {p : Program} {l : Launch} {e : Env} {R : Room} {s : State} {m : MethodId} {args : Array Value} {below : List Frame} {meth : Method} {c : Code} {cells slots : Nat} {D : va_G} {ca : Nat → ClassId} {A : Nat → Prop} {Q : State → Prop} {ls : Array Slot} {H : Heap} {locs : List Loc} {a : Nat} (Z : Zc p s m args meth c cX12_init 12 D ca A) (h0 : ls[0]? = some (.val (.ref a))) (hcells : cells + 1 ≤ R.cells) (hslots : slots + 150 ≤ R.slots) (hW : Wd D A s.heap ((a, .inr (12, zmf a 31)) :: zmr ca a 31) H locs (a + 1 + 31)) (kk : ∀ H1 locs1, Wd D A s.heap ((a, .inr (12, zmf a 32)) :: zmr ca a 32) H1 locs1 (a + 1 + 32) → W p l e R s m args below meth c H1 locs1 (cells + 1) (slots + 150) Q (F0 m 265 ls [])) : W p l e R s m args below meth c H locs cells slots Q (F0 m 256 ls []) := by
  obtain ⟨hx, hb, -⟩ := id Z
  refine z_a (v := nI 150) (N := 150) (srt := 0) (ty := zty 0) Z h0 dz12_256 (zp_s hx hb dz12_257 (by decide +kernel)) (by decide) zw_1_100 (nI_pos (by decide)) (nI_clamp (by decide)) (by decide) hcells hslots dz12_260 rfl (by decide) (Nat.le_of_ble_eq_true rfl) (fun _ => rfl) (by decide +kernel) dz12_262 hW (fun H locs hW => ?_)
  rw [zmf_31] at hW
  exact kk H locs hW
set_option maxRecDepth 20000 in
theorem zmf_32 (a : Nat) : (zmf a 32).set 38 (.ref (a + 1 + 32)) = zmf a 33 := rfl
set_option maxRecDepth 20000 in
theorem zms_32 {p : Program} {l : Launch} {e : Env} {R : Room} {s : State} {m : MethodId} {args : Array Value} {below : List Frame} {meth : Method} {c : Code} {cells slots : Nat} {D : va_G} {ca : Nat → ClassId} {A : Nat → Prop} {Q : State → Prop} {ls : Array Slot} {H : Heap} {locs : List Loc} {a : Nat} (Z : Zc p s m args meth c cX12_init 12 D ca A) (h0 : ls[0]? = some (.val (.ref a))) (hcells : cells + 1 ≤ R.cells) (hslots : slots + 150 ≤ R.slots) (hW : Wd D A s.heap ((a, .inr (12, zmf a 32)) :: zmr ca a 32) H locs (a + 1 + 32)) (kk : ∀ H1 locs1, Wd D A s.heap ((a, .inr (12, zmf a 33)) :: zmr ca a 33) H1 locs1 (a + 1 + 33) → W p l e R s m args below meth c H1 locs1 (cells + 1) (slots + 150) Q (F0 m 274 ls [])) : W p l e R s m args below meth c H locs cells slots Q (F0 m 265 ls []) := by
  obtain ⟨hx, hb, -⟩ := id Z
  refine z_a (v := nI 150) (N := 150) (srt := 0) (ty := zty 0) Z h0 dz12_265 (zp_s hx hb dz12_266 (by decide +kernel)) (by decide) zw_1_100 (nI_pos (by decide)) (nI_clamp (by decide)) (by decide) hcells hslots dz12_269 rfl (by decide) (Nat.le_of_ble_eq_true rfl) (fun _ => rfl) (by decide +kernel) dz12_271 hW (fun H locs hW => ?_)
  rw [zmf_32] at hW
  exact kk H locs hW
set_option maxRecDepth 20000 in
theorem zmf_33 (a : Nat) : (zmf a 33).set 39 (.ref (a + 1 + 33)) = zmf a 34 := rfl
set_option maxRecDepth 20000 in
theorem zms_33 {p : Program} {l : Launch} {e : Env} {R : Room} {s : State} {m : MethodId} {args : Array Value} {below : List Frame} {meth : Method} {c : Code} {cells slots : Nat} {D : va_G} {ca : Nat → ClassId} {A : Nat → Prop} {Q : State → Prop} {ls : Array Slot} {H : Heap} {locs : List Loc} {a : Nat} (Z : Zc p s m args meth c cX12_init 12 D ca A) (h0 : ls[0]? = some (.val (.ref a))) (hcells : cells + 1 ≤ R.cells) (hslots : slots + 150 ≤ R.slots) (hW : Wd D A s.heap ((a, .inr (12, zmf a 33)) :: zmr ca a 33) H locs (a + 1 + 33)) (kk : ∀ H1 locs1, Wd D A s.heap ((a, .inr (12, zmf a 34)) :: zmr ca a 34) H1 locs1 (a + 1 + 34) → W p l e R s m args below meth c H1 locs1 (cells + 1) (slots + 150) Q (F0 m 283 ls [])) : W p l e R s m args below meth c H locs cells slots Q (F0 m 274 ls []) := by
  obtain ⟨hx, hb, -⟩ := id Z
  refine z_a (v := nI 150) (N := 150) (srt := 0) (ty := zty 0) Z h0 dz12_274 (zp_s hx hb dz12_275 (by decide +kernel)) (by decide) zw_1_100 (nI_pos (by decide)) (nI_clamp (by decide)) (by decide) hcells hslots dz12_278 rfl (by decide) (Nat.le_of_ble_eq_true rfl) (fun _ => rfl) (by decide +kernel) dz12_280 hW (fun H locs hW => ?_)
  rw [zmf_33] at hW
  exact kk H locs hW
set_option maxRecDepth 20000 in
theorem zmf_34 (a : Nat) : (zmf a 34).set 40 (.ref (a + 1 + 34)) = zmf a 35 := rfl
set_option maxRecDepth 20000 in
theorem zms_34 {p : Program} {l : Launch} {e : Env} {R : Room} {s : State} {m : MethodId} {args : Array Value} {below : List Frame} {meth : Method} {c : Code} {cells slots : Nat} {D : va_G} {ca : Nat → ClassId} {A : Nat → Prop} {Q : State → Prop} {ls : Array Slot} {H : Heap} {locs : List Loc} {a : Nat} (Z : Zc p s m args meth c cX12_init 12 D ca A) (h0 : ls[0]? = some (.val (.ref a))) (hcells : cells + 1 ≤ R.cells) (hslots : slots + 150 ≤ R.slots) (hW : Wd D A s.heap ((a, .inr (12, zmf a 34)) :: zmr ca a 34) H locs (a + 1 + 34)) (kk : ∀ H1 locs1, Wd D A s.heap ((a, .inr (12, zmf a 35)) :: zmr ca a 35) H1 locs1 (a + 1 + 35) → W p l e R s m args below meth c H1 locs1 (cells + 1) (slots + 150) Q (F0 m 292 ls [])) : W p l e R s m args below meth c H locs cells slots Q (F0 m 283 ls []) := by
  obtain ⟨hx, hb, -⟩ := id Z
  refine z_a (v := nI 150) (N := 150) (srt := 0) (ty := zty 0) Z h0 dz12_283 (zp_s hx hb dz12_284 (by decide +kernel)) (by decide) zw_1_100 (nI_pos (by decide)) (nI_clamp (by decide)) (by decide) hcells hslots dz12_287 rfl (by decide) (Nat.le_of_ble_eq_true rfl) (fun _ => rfl) (by decide +kernel) dz12_289 hW (fun H locs hW => ?_)
  rw [zmf_34] at hW
  exact kk H locs hW
set_option maxRecDepth 20000 in
theorem zmf_35 (a : Nat) : (zmf a 35).set 42 (.ref (a + 1 + 35)) = zmf a 36 := rfl
set_option maxRecDepth 20000 in
theorem zms_35 {p : Program} {l : Launch} {e : Env} {R : Room} {s : State} {m : MethodId} {args : Array Value} {below : List Frame} {meth : Method} {c : Code} {cells slots : Nat} {D : va_G} {ca : Nat → ClassId} {A : Nat → Prop} {Q : State → Prop} {ls : Array Slot} {H : Heap} {locs : List Loc} {a : Nat} (Z : Zc p s m args meth c cX12_init 12 D ca A) (h0 : ls[0]? = some (.val (.ref a))) (hcells : cells + 1 ≤ R.cells) (hslots : slots + 300 ≤ R.slots) (hW : Wd D A s.heap ((a, .inr (12, zmf a 35)) :: zmr ca a 35) H locs (a + 1 + 35)) (kk : ∀ H1 locs1, Wd D A s.heap ((a, .inr (12, zmf a 36)) :: zmr ca a 36) H1 locs1 (a + 1 + 36) → W p l e R s m args below meth c H1 locs1 (cells + 1) (slots + 300) Q (F0 m 301 ls [])) : W p l e R s m args below meth c H locs cells slots Q (F0 m 292 ls []) := by
  obtain ⟨hx, hb, -⟩ := id Z
  refine z_a (v := nI 300) (N := 300) (srt := 0) (ty := zty 0) Z h0 dz12_292 (zp_s hx hb dz12_293 (by decide +kernel)) (by decide) zw_1_100 (nI_pos (by decide)) (nI_clamp (by decide)) (by decide) hcells hslots dz12_296 rfl (by decide) (Nat.le_of_ble_eq_true rfl) (fun _ => rfl) (by decide +kernel) dz12_298 hW (fun H locs hW => ?_)
  rw [zmf_35] at hW
  exact kk H locs hW
set_option maxRecDepth 20000 in
theorem zmf_36 (a : Nat) : (zmf a 36).set 43 (.ref (a + 1 + 36)) = zmf a 37 := rfl
set_option maxRecDepth 20000 in
theorem zms_36 {p : Program} {l : Launch} {e : Env} {R : Room} {s : State} {m : MethodId} {args : Array Value} {below : List Frame} {meth : Method} {c : Code} {cells slots : Nat} {D : va_G} {ca : Nat → ClassId} {A : Nat → Prop} {Q : State → Prop} {ls : Array Slot} {H : Heap} {locs : List Loc} {a : Nat} (Z : Zc p s m args meth c cX12_init 12 D ca A) (h0 : ls[0]? = some (.val (.ref a))) (hcells : cells + 1 ≤ R.cells) (hslots : slots + 300 ≤ R.slots) (hW : Wd D A s.heap ((a, .inr (12, zmf a 36)) :: zmr ca a 36) H locs (a + 1 + 36)) (kk : ∀ H1 locs1, Wd D A s.heap ((a, .inr (12, zmf a 37)) :: zmr ca a 37) H1 locs1 (a + 1 + 37) → W p l e R s m args below meth c H1 locs1 (cells + 1) (slots + 300) Q (F0 m 310 ls [])) : W p l e R s m args below meth c H locs cells slots Q (F0 m 301 ls []) := by
  obtain ⟨hx, hb, -⟩ := id Z
  refine z_a (v := nI 300) (N := 300) (srt := 0) (ty := zty 0) Z h0 dz12_301 (zp_s hx hb dz12_302 (by decide +kernel)) (by decide) zw_1_100 (nI_pos (by decide)) (nI_clamp (by decide)) (by decide) hcells hslots dz12_305 rfl (by decide) (Nat.le_of_ble_eq_true rfl) (fun _ => rfl) (by decide +kernel) dz12_307 hW (fun H locs hW => ?_)
  rw [zmf_36] at hW
  exact kk H locs hW
set_option maxRecDepth 20000 in
theorem zmf_37 (a : Nat) : (zmf a 37).set 44 (.ref (a + 1 + 37)) = zmf a 38 := rfl
set_option maxRecDepth 20000 in
theorem zms_37 {p : Program} {l : Launch} {e : Env} {R : Room} {s : State} {m : MethodId} {args : Array Value} {below : List Frame} {meth : Method} {c : Code} {cells slots : Nat} {D : va_G} {ca : Nat → ClassId} {A : Nat → Prop} {Q : State → Prop} {ls : Array Slot} {H : Heap} {locs : List Loc} {a : Nat} (Z : Zc p s m args meth c cX12_init 12 D ca A) (h0 : ls[0]? = some (.val (.ref a))) (hcells : cells + 1 ≤ R.cells) (hslots : slots + 300 ≤ R.slots) (hW : Wd D A s.heap ((a, .inr (12, zmf a 37)) :: zmr ca a 37) H locs (a + 1 + 37)) (kk : ∀ H1 locs1, Wd D A s.heap ((a, .inr (12, zmf a 38)) :: zmr ca a 38) H1 locs1 (a + 1 + 38) → W p l e R s m args below meth c H1 locs1 (cells + 1) (slots + 300) Q (F0 m 319 ls [])) : W p l e R s m args below meth c H locs cells slots Q (F0 m 310 ls []) := by
  obtain ⟨hx, hb, -⟩ := id Z
  refine z_a (v := nI 300) (N := 300) (srt := 0) (ty := zty 0) Z h0 dz12_310 (zp_s hx hb dz12_311 (by decide +kernel)) (by decide) zw_1_100 (nI_pos (by decide)) (nI_clamp (by decide)) (by decide) hcells hslots dz12_314 rfl (by decide) (Nat.le_of_ble_eq_true rfl) (fun _ => rfl) (by decide +kernel) dz12_316 hW (fun H locs hW => ?_)
  rw [zmf_37] at hW
  exact kk H locs hW
set_option maxRecDepth 20000 in
theorem zmf_38 (a : Nat) : (zmf a 38).set 45 (.ref (a + 1 + 38)) = zmf a 39 := rfl
set_option maxRecDepth 20000 in
theorem zms_38 {p : Program} {l : Launch} {e : Env} {R : Room} {s : State} {m : MethodId} {args : Array Value} {below : List Frame} {meth : Method} {c : Code} {cells slots : Nat} {D : va_G} {ca : Nat → ClassId} {A : Nat → Prop} {Q : State → Prop} {ls : Array Slot} {H : Heap} {locs : List Loc} {a : Nat} (Z : Zc p s m args meth c cX12_init 12 D ca A) (h0 : ls[0]? = some (.val (.ref a))) (hcells : cells + 1 ≤ R.cells) (hslots : slots + 300 ≤ R.slots) (hW : Wd D A s.heap ((a, .inr (12, zmf a 38)) :: zmr ca a 38) H locs (a + 1 + 38)) (kk : ∀ H1 locs1, Wd D A s.heap ((a, .inr (12, zmf a 39)) :: zmr ca a 39) H1 locs1 (a + 1 + 39) → W p l e R s m args below meth c H1 locs1 (cells + 1) (slots + 300) Q (F0 m 328 ls [])) : W p l e R s m args below meth c H locs cells slots Q (F0 m 319 ls []) := by
  obtain ⟨hx, hb, -⟩ := id Z
  refine z_a (v := nI 300) (N := 300) (srt := 0) (ty := zty 0) Z h0 dz12_319 (zp_s hx hb dz12_320 (by decide +kernel)) (by decide) zw_1_100 (nI_pos (by decide)) (nI_clamp (by decide)) (by decide) hcells hslots dz12_323 rfl (by decide) (Nat.le_of_ble_eq_true rfl) (fun _ => rfl) (by decide +kernel) dz12_325 hW (fun H locs hW => ?_)
  rw [zmf_38] at hW
  exact kk H locs hW
set_option maxRecDepth 20000 in
theorem zmf_39 (a : Nat) : (zmf a 39).set 46 (.ref (a + 1 + 39)) = zmf a 40 := rfl
set_option maxRecDepth 20000 in
theorem zms_39 {p : Program} {l : Launch} {e : Env} {R : Room} {s : State} {m : MethodId} {args : Array Value} {below : List Frame} {meth : Method} {c : Code} {cells slots : Nat} {D : va_G} {ca : Nat → ClassId} {A : Nat → Prop} {Q : State → Prop} {ls : Array Slot} {H : Heap} {locs : List Loc} {a : Nat} (Z : Zc p s m args meth c cX12_init 12 D ca A) (h0 : ls[0]? = some (.val (.ref a))) (hcells : cells + 1 ≤ R.cells) (hslots : slots + 300 ≤ R.slots) (hW : Wd D A s.heap ((a, .inr (12, zmf a 39)) :: zmr ca a 39) H locs (a + 1 + 39)) (kk : ∀ H1 locs1, Wd D A s.heap ((a, .inr (12, zmf a 40)) :: zmr ca a 40) H1 locs1 (a + 1 + 40) → W p l e R s m args below meth c H1 locs1 (cells + 1) (slots + 300) Q (F0 m 337 ls [])) : W p l e R s m args below meth c H locs cells slots Q (F0 m 328 ls []) := by
  obtain ⟨hx, hb, -⟩ := id Z
  refine z_a (v := nI 300) (N := 300) (srt := 0) (ty := zty 0) Z h0 dz12_328 (zp_s hx hb dz12_329 (by decide +kernel)) (by decide) zw_1_100 (nI_pos (by decide)) (nI_clamp (by decide)) (by decide) hcells hslots dz12_332 rfl (by decide) (Nat.le_of_ble_eq_true rfl) (fun _ => rfl) (by decide +kernel) dz12_334 hW (fun H locs hW => ?_)
  rw [zmf_39] at hW
  exact kk H locs hW
set_option maxRecDepth 20000 in
theorem zmf_40 (a : Nat) : (zmf a 40).set 47 (.ref (a + 1 + 40)) = zmf a 41 := rfl
set_option maxRecDepth 20000 in
theorem zms_40 {p : Program} {l : Launch} {e : Env} {R : Room} {s : State} {m : MethodId} {args : Array Value} {below : List Frame} {meth : Method} {c : Code} {cells slots : Nat} {D : va_G} {ca : Nat → ClassId} {A : Nat → Prop} {Q : State → Prop} {ls : Array Slot} {H : Heap} {locs : List Loc} {a : Nat} (Z : Zc p s m args meth c cX12_init 12 D ca A) (h0 : ls[0]? = some (.val (.ref a))) (hcells : cells + 1 ≤ R.cells) (hslots : slots + 300 ≤ R.slots) (hW : Wd D A s.heap ((a, .inr (12, zmf a 40)) :: zmr ca a 40) H locs (a + 1 + 40)) (kk : ∀ H1 locs1, Wd D A s.heap ((a, .inr (12, zmf a 41)) :: zmr ca a 41) H1 locs1 (a + 1 + 41) → W p l e R s m args below meth c H1 locs1 (cells + 1) (slots + 300) Q (F0 m 346 ls [])) : W p l e R s m args below meth c H locs cells slots Q (F0 m 337 ls []) := by
  obtain ⟨hx, hb, -⟩ := id Z
  refine z_a (v := nI 300) (N := 300) (srt := 0) (ty := zty 0) Z h0 dz12_337 (zp_s hx hb dz12_338 (by decide +kernel)) (by decide) zw_1_100 (nI_pos (by decide)) (nI_clamp (by decide)) (by decide) hcells hslots dz12_341 rfl (by decide) (Nat.le_of_ble_eq_true rfl) (fun _ => rfl) (by decide +kernel) dz12_343 hW (fun H locs hW => ?_)
  rw [zmf_40] at hW
  exact kk H locs hW
set_option maxRecDepth 20000 in
theorem zmf_41 (a : Nat) : (zmf a 41).set 48 (.ref (a + 1 + 41)) = zmf a 42 := rfl
set_option maxRecDepth 20000 in
theorem zms_41 {p : Program} {l : Launch} {e : Env} {R : Room} {s : State} {m : MethodId} {args : Array Value} {below : List Frame} {meth : Method} {c : Code} {cells slots : Nat} {D : va_G} {ca : Nat → ClassId} {A : Nat → Prop} {Q : State → Prop} {ls : Array Slot} {H : Heap} {locs : List Loc} {a : Nat} (Z : Zc p s m args meth c cX12_init 12 D ca A) (h0 : ls[0]? = some (.val (.ref a))) (hcells : cells + 1 ≤ R.cells) (hslots : slots + 300 ≤ R.slots) (hW : Wd D A s.heap ((a, .inr (12, zmf a 41)) :: zmr ca a 41) H locs (a + 1 + 41)) (kk : ∀ H1 locs1, Wd D A s.heap ((a, .inr (12, zmf a 42)) :: zmr ca a 42) H1 locs1 (a + 1 + 42) → W p l e R s m args below meth c H1 locs1 (cells + 1) (slots + 300) Q (F0 m 355 ls [])) : W p l e R s m args below meth c H locs cells slots Q (F0 m 346 ls []) := by
  obtain ⟨hx, hb, -⟩ := id Z
  refine z_a (v := nI 300) (N := 300) (srt := 0) (ty := zty 0) Z h0 dz12_346 (zp_s hx hb dz12_347 (by decide +kernel)) (by decide) zw_1_100 (nI_pos (by decide)) (nI_clamp (by decide)) (by decide) hcells hslots dz12_350 rfl (by decide) (Nat.le_of_ble_eq_true rfl) (fun _ => rfl) (by decide +kernel) dz12_352 hW (fun H locs hW => ?_)
  rw [zmf_41] at hW
  exact kk H locs hW
set_option maxRecDepth 20000 in
theorem zmf_42 (a : Nat) : (zmf a 42).set 55 (.ref (a + 1 + 42)) = zmf a 43 := rfl
set_option maxRecDepth 20000 in
theorem zms_42 {p : Program} {l : Launch} {e : Env} {R : Room} {s : State} {m : MethodId} {args : Array Value} {below : List Frame} {meth : Method} {c : Code} {cells slots : Nat} {D : va_G} {ca : Nat → ClassId} {A : Nat → Prop} {Q : State → Prop} {ls : Array Slot} {H : Heap} {locs : List Loc} {a : Nat} (Z : Zc p s m args meth c cX12_init 12 D ca A) (h0 : ls[0]? = some (.val (.ref a))) (hcells : cells + 1 ≤ R.cells) (hslots : slots + 11 ≤ R.slots) (hW : Wd D A s.heap ((a, .inr (12, zmf a 42)) :: zmr ca a 42) H locs (a + 1 + 42)) (kk : ∀ H1 locs1, Wd D A s.heap ((a, .inr (12, zmf a 43)) :: zmr ca a 43) H1 locs1 (a + 1 + 43) → W p l e R s m args below meth c H1 locs1 (cells + 1) (slots + 11) Q (F0 m 363 ls [])) : W p l e R s m args below meth c H locs cells slots Q (F0 m 355 ls []) := by
  obtain ⟨hx, hb, -⟩ := id Z
  refine z_a (v := nI 11) (N := 11) (srt := 0) (ty := zty 0) Z h0 dz12_355 (zp_b hx hb dz12_356 (by decide +kernel)) (by decide) zw_1_100 (nI_pos (by decide)) (nI_clamp (by decide)) (by decide) hcells hslots dz12_358 rfl (by decide) (Nat.le_of_ble_eq_true rfl) (fun _ => rfl) (by decide +kernel) dz12_360 hW (fun H locs hW => ?_)
  rw [zmf_42] at hW
  exact kk H locs hW
set_option maxRecDepth 20000 in
theorem zmf_43 (a : Nat) : (zmf a 43).set 56 (.ref (a + 1 + 43)) = zmf a 44 := rfl
set_option maxRecDepth 20000 in
theorem zms_43 {p : Program} {l : Launch} {e : Env} {R : Room} {s : State} {m : MethodId} {args : Array Value} {below : List Frame} {meth : Method} {c : Code} {cells slots : Nat} {D : va_G} {ca : Nat → ClassId} {A : Nat → Prop} {Q : State → Prop} {ls : Array Slot} {H : Heap} {locs : List Loc} {a : Nat} (Z : Zc p s m args meth c cX12_init 12 D ca A) (h0 : ls[0]? = some (.val (.ref a))) (hcells : cells + 1 ≤ R.cells) (hslots : slots + 40 ≤ R.slots) (hW : Wd D A s.heap ((a, .inr (12, zmf a 43)) :: zmr ca a 43) H locs (a + 1 + 43)) (kk : ∀ H1 locs1, Wd D A s.heap ((a, .inr (12, zmf a 44)) :: zmr ca a 44) H1 locs1 (a + 1 + 44) → W p l e R s m args below meth c H1 locs1 (cells + 1) (slots + 40) Q (F0 m 371 ls [])) : W p l e R s m args below meth c H locs cells slots Q (F0 m 363 ls []) := by
  obtain ⟨hx, hb, -⟩ := id Z
  refine z_a (v := nI 40) (N := 40) (srt := 0) (ty := zty 0) Z h0 dz12_363 (zp_b hx hb dz12_364 (by decide +kernel)) (by decide) zw_1_100 (nI_pos (by decide)) (nI_clamp (by decide)) (by decide) hcells hslots dz12_366 rfl (by decide) (Nat.le_of_ble_eq_true rfl) (fun _ => rfl) (by decide +kernel) dz12_368 hW (fun H locs hW => ?_)
  rw [zmf_43] at hW
  exact kk H locs hW
set_option maxRecDepth 20000 in
theorem zmf_44 (a : Nat) : (zmf a 44).set 57 (.ref (a + 1 + 44)) = zmf a 45 := rfl
set_option maxRecDepth 20000 in
theorem zms_44 {p : Program} {l : Launch} {e : Env} {R : Room} {s : State} {m : MethodId} {args : Array Value} {below : List Frame} {meth : Method} {c : Code} {cells slots : Nat} {D : va_G} {ca : Nat → ClassId} {A : Nat → Prop} {Q : State → Prop} {ls : Array Slot} {H : Heap} {locs : List Loc} {a : Nat} (Z : Zc p s m args meth c cX12_init 12 D ca A) (h0 : ls[0]? = some (.val (.ref a))) (hcells : cells + 1 ≤ R.cells) (hslots : slots + 40 ≤ R.slots) (hW : Wd D A s.heap ((a, .inr (12, zmf a 44)) :: zmr ca a 44) H locs (a + 1 + 44)) (kk : ∀ H1 locs1, Wd D A s.heap ((a, .inr (12, zmf a 45)) :: zmr ca a 45) H1 locs1 (a + 1 + 45) → W p l e R s m args below meth c H1 locs1 (cells + 1) (slots + 40) Q (F0 m 379 ls [])) : W p l e R s m args below meth c H locs cells slots Q (F0 m 371 ls []) := by
  obtain ⟨hx, hb, -⟩ := id Z
  refine z_a (v := nI 40) (N := 40) (srt := 0) (ty := zty 0) Z h0 dz12_371 (zp_b hx hb dz12_372 (by decide +kernel)) (by decide) zw_1_100 (nI_pos (by decide)) (nI_clamp (by decide)) (by decide) hcells hslots dz12_374 rfl (by decide) (Nat.le_of_ble_eq_true rfl) (fun _ => rfl) (by decide +kernel) dz12_376 hW (fun H locs hW => ?_)
  rw [zmf_44] at hW
  exact kk H locs hW
set_option maxRecDepth 20000 in
theorem zmf_45 (a : Nat) : (zmf a 45).set 58 (.ref (a + 1 + 45)) = zmf a 46 := rfl
set_option maxRecDepth 20000 in
theorem zms_45 {p : Program} {l : Launch} {e : Env} {R : Room} {s : State} {m : MethodId} {args : Array Value} {below : List Frame} {meth : Method} {c : Code} {cells slots : Nat} {D : va_G} {ca : Nat → ClassId} {A : Nat → Prop} {Q : State → Prop} {ls : Array Slot} {H : Heap} {locs : List Loc} {a : Nat} (Z : Zc p s m args meth c cX12_init 12 D ca A) (h0 : ls[0]? = some (.val (.ref a))) (hcells : cells + 1 ≤ R.cells) (hslots : slots + 40 ≤ R.slots) (hW : Wd D A s.heap ((a, .inr (12, zmf a 45)) :: zmr ca a 45) H locs (a + 1 + 45)) (kk : ∀ H1 locs1, Wd D A s.heap ((a, .inr (12, zmf a 46)) :: zmr ca a 46) H1 locs1 (a + 1 + 46) → W p l e R s m args below meth c H1 locs1 (cells + 1) (slots + 40) Q (F0 m 387 ls [])) : W p l e R s m args below meth c H locs cells slots Q (F0 m 379 ls []) := by
  obtain ⟨hx, hb, -⟩ := id Z
  refine z_a (v := nI 40) (N := 40) (srt := 0) (ty := zty 0) Z h0 dz12_379 (zp_b hx hb dz12_380 (by decide +kernel)) (by decide) zw_1_100 (nI_pos (by decide)) (nI_clamp (by decide)) (by decide) hcells hslots dz12_382 rfl (by decide) (Nat.le_of_ble_eq_true rfl) (fun _ => rfl) (by decide +kernel) dz12_384 hW (fun H locs hW => ?_)
  rw [zmf_45] at hW
  exact kk H locs hW
set_option maxRecDepth 20000 in
theorem zmf_46 (a : Nat) : (zmf a 46).set 59 (.ref (a + 1 + 46)) = zmf a 47 := rfl
set_option maxRecDepth 20000 in
theorem zms_46 {p : Program} {l : Launch} {e : Env} {R : Room} {s : State} {m : MethodId} {args : Array Value} {below : List Frame} {meth : Method} {c : Code} {cells slots : Nat} {D : va_G} {ca : Nat → ClassId} {A : Nat → Prop} {Q : State → Prop} {ls : Array Slot} {H : Heap} {locs : List Loc} {a : Nat} (Z : Zc p s m args meth c cX12_init 12 D ca A) (h0 : ls[0]? = some (.val (.ref a))) (hcells : cells + 1 ≤ R.cells) (hslots : slots + 40 ≤ R.slots) (hW : Wd D A s.heap ((a, .inr (12, zmf a 46)) :: zmr ca a 46) H locs (a + 1 + 46)) (kk : ∀ H1 locs1, Wd D A s.heap ((a, .inr (12, zmf a 47)) :: zmr ca a 47) H1 locs1 (a + 1 + 47) → W p l e R s m args below meth c H1 locs1 (cells + 1) (slots + 40) Q (F0 m 395 ls [])) : W p l e R s m args below meth c H locs cells slots Q (F0 m 387 ls []) := by
  obtain ⟨hx, hb, -⟩ := id Z
  refine z_a (v := nI 40) (N := 40) (srt := 0) (ty := zty 0) Z h0 dz12_387 (zp_b hx hb dz12_388 (by decide +kernel)) (by decide) zw_1_100 (nI_pos (by decide)) (nI_clamp (by decide)) (by decide) hcells hslots dz12_390 rfl (by decide) (Nat.le_of_ble_eq_true rfl) (fun _ => rfl) (by decide +kernel) dz12_392 hW (fun H locs hW => ?_)
  rw [zmf_46] at hW
  exact kk H locs hW
set_option maxRecDepth 20000 in
theorem zmf_47 (a : Nat) : (zmf a 47).set 60 (.ref (a + 1 + 47)) = zmf a 48 := rfl
set_option maxRecDepth 20000 in
theorem zms_47 {p : Program} {l : Launch} {e : Env} {R : Room} {s : State} {m : MethodId} {args : Array Value} {below : List Frame} {meth : Method} {c : Code} {cells slots : Nat} {D : va_G} {ca : Nat → ClassId} {A : Nat → Prop} {Q : State → Prop} {ls : Array Slot} {H : Heap} {locs : List Loc} {a : Nat} (Z : Zc p s m args meth c cX12_init 12 D ca A) (h0 : ls[0]? = some (.val (.ref a))) (hcells : cells + 1 ≤ R.cells) (hslots : slots + 40 ≤ R.slots) (hW : Wd D A s.heap ((a, .inr (12, zmf a 47)) :: zmr ca a 47) H locs (a + 1 + 47)) (kk : ∀ H1 locs1, Wd D A s.heap ((a, .inr (12, zmf a 48)) :: zmr ca a 48) H1 locs1 (a + 1 + 48) → W p l e R s m args below meth c H1 locs1 (cells + 1) (slots + 40) Q (F0 m 403 ls [])) : W p l e R s m args below meth c H locs cells slots Q (F0 m 395 ls []) := by
  obtain ⟨hx, hb, -⟩ := id Z
  refine z_a (v := nI 40) (N := 40) (srt := 0) (ty := zty 0) Z h0 dz12_395 (zp_b hx hb dz12_396 (by decide +kernel)) (by decide) zw_1_100 (nI_pos (by decide)) (nI_clamp (by decide)) (by decide) hcells hslots dz12_398 rfl (by decide) (Nat.le_of_ble_eq_true rfl) (fun _ => rfl) (by decide +kernel) dz12_400 hW (fun H locs hW => ?_)
  rw [zmf_47] at hW
  exact kk H locs hW
set_option maxRecDepth 20000 in
theorem zmf_48 (a : Nat) : (zmf a 48).set 61 (.ref (a + 1 + 48)) = zmf a 49 := rfl
set_option maxRecDepth 20000 in
theorem zms_48 {p : Program} {l : Launch} {e : Env} {R : Room} {s : State} {m : MethodId} {args : Array Value} {below : List Frame} {meth : Method} {c : Code} {cells slots : Nat} {D : va_G} {ca : Nat → ClassId} {A : Nat → Prop} {Q : State → Prop} {ls : Array Slot} {H : Heap} {locs : List Loc} {a : Nat} (Z : Zc p s m args meth c cX12_init 12 D ca A) (h0 : ls[0]? = some (.val (.ref a))) (hcells : cells + 1 ≤ R.cells) (hslots : slots + 40 ≤ R.slots) (hW : Wd D A s.heap ((a, .inr (12, zmf a 48)) :: zmr ca a 48) H locs (a + 1 + 48)) (kk : ∀ H1 locs1, Wd D A s.heap ((a, .inr (12, zmf a 49)) :: zmr ca a 49) H1 locs1 (a + 1 + 49) → W p l e R s m args below meth c H1 locs1 (cells + 1) (slots + 40) Q (F0 m 411 ls [])) : W p l e R s m args below meth c H locs cells slots Q (F0 m 403 ls []) := by
  obtain ⟨hx, hb, -⟩ := id Z
  refine z_a (v := nI 40) (N := 40) (srt := 0) (ty := zty 0) Z h0 dz12_403 (zp_b hx hb dz12_404 (by decide +kernel)) (by decide) zw_1_100 (nI_pos (by decide)) (nI_clamp (by decide)) (by decide) hcells hslots dz12_406 rfl (by decide) (Nat.le_of_ble_eq_true rfl) (fun _ => rfl) (by decide +kernel) dz12_408 hW (fun H locs hW => ?_)
  rw [zmf_48] at hW
  exact kk H locs hW
set_option maxRecDepth 20000 in
theorem zmf_49 (a : Nat) : (zmf a 49).set 62 (.ref (a + 1 + 49)) = zmf a 50 := rfl
set_option maxRecDepth 20000 in
theorem zms_49 {p : Program} {l : Launch} {e : Env} {R : Room} {s : State} {m : MethodId} {args : Array Value} {below : List Frame} {meth : Method} {c : Code} {cells slots : Nat} {D : va_G} {ca : Nat → ClassId} {A : Nat → Prop} {Q : State → Prop} {ls : Array Slot} {H : Heap} {locs : List Loc} {a : Nat} (Z : Zc p s m args meth c cX12_init 12 D ca A) (h0 : ls[0]? = some (.val (.ref a))) (hcells : cells + 1 ≤ R.cells) (hslots : slots + 40 ≤ R.slots) (hW : Wd D A s.heap ((a, .inr (12, zmf a 49)) :: zmr ca a 49) H locs (a + 1 + 49)) (kk : ∀ H1 locs1, Wd D A s.heap ((a, .inr (12, zmf a 50)) :: zmr ca a 50) H1 locs1 (a + 1 + 50) → W p l e R s m args below meth c H1 locs1 (cells + 1) (slots + 40) Q (F0 m 419 ls [])) : W p l e R s m args below meth c H locs cells slots Q (F0 m 411 ls []) := by
  obtain ⟨hx, hb, -⟩ := id Z
  refine z_a (v := nI 40) (N := 40) (srt := 0) (ty := zty 0) Z h0 dz12_411 (zp_b hx hb dz12_412 (by decide +kernel)) (by decide) zw_1_100 (nI_pos (by decide)) (nI_clamp (by decide)) (by decide) hcells hslots dz12_414 rfl (by decide) (Nat.le_of_ble_eq_true rfl) (fun _ => rfl) (by decide +kernel) dz12_416 hW (fun H locs hW => ?_)
  rw [zmf_49] at hW
  exact kk H locs hW
set_option maxRecDepth 20000 in
theorem zmf_50 (a : Nat) : (zmf a 50).set 63 (.ref (a + 1 + 50)) = zmf a 51 := rfl
set_option maxRecDepth 20000 in
theorem zms_50 {p : Program} {l : Launch} {e : Env} {R : Room} {s : State} {m : MethodId} {args : Array Value} {below : List Frame} {meth : Method} {c : Code} {cells slots : Nat} {D : va_G} {ca : Nat → ClassId} {A : Nat → Prop} {Q : State → Prop} {ls : Array Slot} {H : Heap} {locs : List Loc} {a : Nat} (Z : Zc p s m args meth c cX12_init 12 D ca A) (h0 : ls[0]? = some (.val (.ref a))) (hcells : cells + 1 ≤ R.cells) (hslots : slots + 40 ≤ R.slots) (hW : Wd D A s.heap ((a, .inr (12, zmf a 50)) :: zmr ca a 50) H locs (a + 1 + 50)) (kk : ∀ H1 locs1, Wd D A s.heap ((a, .inr (12, zmf a 51)) :: zmr ca a 51) H1 locs1 (a + 1 + 51) → W p l e R s m args below meth c H1 locs1 (cells + 1) (slots + 40) Q (F0 m 427 ls [])) : W p l e R s m args below meth c H locs cells slots Q (F0 m 419 ls []) := by
  obtain ⟨hx, hb, -⟩ := id Z
  refine z_a (v := nI 40) (N := 40) (srt := 0) (ty := zty 0) Z h0 dz12_419 (zp_b hx hb dz12_420 (by decide +kernel)) (by decide) zw_1_100 (nI_pos (by decide)) (nI_clamp (by decide)) (by decide) hcells hslots dz12_422 rfl (by decide) (Nat.le_of_ble_eq_true rfl) (fun _ => rfl) (by decide +kernel) dz12_424 hW (fun H locs hW => ?_)
  rw [zmf_50] at hW
  exact kk H locs hW
set_option maxRecDepth 20000 in
theorem zmf_51 (a : Nat) : (zmf a 51).set 65 (.ref (a + 1 + 51)) = zmf a 52 := rfl
set_option maxRecDepth 20000 in
theorem zms_51 {p : Program} {l : Launch} {e : Env} {R : Room} {s : State} {m : MethodId} {args : Array Value} {below : List Frame} {meth : Method} {c : Code} {cells slots : Nat} {D : va_G} {ca : Nat → ClassId} {A : Nat → Prop} {Q : State → Prop} {ls : Array Slot} {H : Heap} {locs : List Loc} {a : Nat} (Z : Zc p s m args meth c cX12_init 12 D ca A) (h0 : ls[0]? = some (.val (.ref a))) (hcells : cells + 1 ≤ R.cells) (hslots : slots + 40 ≤ R.slots) (hW : Wd D A s.heap ((a, .inr (12, zmf a 51)) :: zmr ca a 51) H locs (a + 1 + 51)) (kk : ∀ H1 locs1, Wd D A s.heap ((a, .inr (12, zmf a 52)) :: zmr ca a 52) H1 locs1 (a + 1 + 52) → W p l e R s m args below meth c H1 locs1 (cells + 1) (slots + 40) Q (F0 m 435 ls [])) : W p l e R s m args below meth c H locs cells slots Q (F0 m 427 ls []) := by
  obtain ⟨hx, hb, -⟩ := id Z
  refine z_a (v := nI 40) (N := 40) (srt := 1) (ty := zty 1) Z h0 dz12_427 (zp_b hx hb dz12_428 (by decide +kernel)) (by decide) zw_1_101 (nI_pos (by decide)) (nI_clamp (by decide)) (by decide) hcells hslots dz12_430 rfl (by decide) (Nat.le_of_ble_eq_true rfl) (fun _ => rfl) (by decide +kernel) dz12_432 hW (fun H locs hW => ?_)
  rw [zmf_51] at hW
  exact kk H locs hW
set_option maxRecDepth 20000 in
theorem zmf_52 (a : Nat) : (zmf a 52).set 66 (.ref (a + 1 + 52)) = zmf a 53 := rfl
set_option maxRecDepth 20000 in
theorem zms_52 {p : Program} {l : Launch} {e : Env} {R : Room} {s : State} {m : MethodId} {args : Array Value} {below : List Frame} {meth : Method} {c : Code} {cells slots : Nat} {D : va_G} {ca : Nat → ClassId} {A : Nat → Prop} {Q : State → Prop} {ls : Array Slot} {H : Heap} {locs : List Loc} {a : Nat} (Z : Zc p s m args meth c cX12_init 12 D ca A) (h0 : ls[0]? = some (.val (.ref a))) (hcells : cells + 1 ≤ R.cells) (hslots : slots + 12 ≤ R.slots) (hW : Wd D A s.heap ((a, .inr (12, zmf a 52)) :: zmr ca a 52) H locs (a + 1 + 52)) (kk : ∀ H1 locs1, Wd D A s.heap ((a, .inr (12, zmf a 53)) :: zmr ca a 53) H1 locs1 (a + 1 + 53) → W p l e R s m args below meth c H1 locs1 (cells + 1) (slots + 12) Q (F0 m 443 ls [])) : W p l e R s m args below meth c H locs cells slots Q (F0 m 435 ls []) := by
  obtain ⟨hx, hb, -⟩ := id Z
  refine z_a (v := nI 12) (N := 12) (srt := 0) (ty := zty 0) Z h0 dz12_435 (zp_b hx hb dz12_436 (by decide +kernel)) (by decide) zw_1_100 (nI_pos (by decide)) (nI_clamp (by decide)) (by decide) hcells hslots dz12_438 rfl (by decide) (Nat.le_of_ble_eq_true rfl) (fun _ => rfl) (by decide +kernel) dz12_440 hW (fun H locs hW => ?_)
  rw [zmf_52] at hW
  exact kk H locs hW
set_option maxRecDepth 20000 in
theorem zmf_53 (a : Nat) : (zmf a 53).set 67 (.ref (a + 1 + 53)) = zmf a 54 := rfl
set_option maxRecDepth 20000 in
theorem zms_53 {p : Program} {l : Launch} {e : Env} {R : Room} {s : State} {m : MethodId} {args : Array Value} {below : List Frame} {meth : Method} {c : Code} {cells slots : Nat} {D : va_G} {ca : Nat → ClassId} {A : Nat → Prop} {Q : State → Prop} {ls : Array Slot} {H : Heap} {locs : List Loc} {a : Nat} (Z : Zc p s m args meth c cX12_init 12 D ca A) (h0 : ls[0]? = some (.val (.ref a))) (hcells : cells + 1 ≤ R.cells) (hslots : slots + 40 ≤ R.slots) (hW : Wd D A s.heap ((a, .inr (12, zmf a 53)) :: zmr ca a 53) H locs (a + 1 + 53)) (kk : ∀ H1 locs1, Wd D A s.heap ((a, .inr (12, zmf a 54)) :: zmr ca a 54) H1 locs1 (a + 1 + 54) → W p l e R s m args below meth c H1 locs1 (cells + 1) (slots + 40) Q (F0 m 451 ls [])) : W p l e R s m args below meth c H locs cells slots Q (F0 m 443 ls []) := by
  obtain ⟨hx, hb, -⟩ := id Z
  refine z_a (v := nI 40) (N := 40) (srt := 0) (ty := zty 0) Z h0 dz12_443 (zp_b hx hb dz12_444 (by decide +kernel)) (by decide) zw_1_100 (nI_pos (by decide)) (nI_clamp (by decide)) (by decide) hcells hslots dz12_446 rfl (by decide) (Nat.le_of_ble_eq_true rfl) (fun _ => rfl) (by decide +kernel) dz12_448 hW (fun H locs hW => ?_)
  rw [zmf_53] at hW
  exact kk H locs hW
set_option maxRecDepth 20000 in
theorem zmf_54 (a : Nat) : (zmf a 54).set 68 (.ref (a + 1 + 54)) = zmf a 55 := rfl
set_option maxRecDepth 20000 in
theorem zms_54 {p : Program} {l : Launch} {e : Env} {R : Room} {s : State} {m : MethodId} {args : Array Value} {below : List Frame} {meth : Method} {c : Code} {cells slots : Nat} {D : va_G} {ca : Nat → ClassId} {A : Nat → Prop} {Q : State → Prop} {ls : Array Slot} {H : Heap} {locs : List Loc} {a : Nat} (Z : Zc p s m args meth c cX12_init 12 D ca A) (h0 : ls[0]? = some (.val (.ref a))) (hcells : cells + 1 ≤ R.cells) (hslots : slots + 3 ≤ R.slots) (hW : Wd D A s.heap ((a, .inr (12, zmf a 54)) :: zmr ca a 54) H locs (a + 1 + 54)) (kk : ∀ H1 locs1, Wd D A s.heap ((a, .inr (12, zmf a 55)) :: zmr ca a 55) H1 locs1 (a + 1 + 55) → W p l e R s m args below meth c H1 locs1 (cells + 1) (slots + 3) Q (F0 m 458 ls [])) : W p l e R s m args below meth c H locs cells slots Q (F0 m 451 ls []) := by
  obtain ⟨hx, hb, -⟩ := id Z
  refine z_a (v := nI 3) (N := 3) (srt := 0) (ty := zty 0) Z h0 dz12_451 (zp_c hx hb dz12_452 (by decide +kernel)) (by decide) zw_1_100 (nI_pos (by decide)) (nI_clamp (by decide)) (by decide) hcells hslots dz12_453 rfl (by decide) (Nat.le_of_ble_eq_true rfl) (fun _ => rfl) (by decide +kernel) dz12_455 hW (fun H locs hW => ?_)
  rw [zmf_54] at hW
  exact kk H locs hW
set_option maxRecDepth 20000 in
theorem zmf_55 (a : Nat) : (zmf a 55).set 69 (.ref (a + 1 + 55)) = zmf a 56 := rfl
set_option maxRecDepth 20000 in
theorem zms_55 {p : Program} {l : Launch} {e : Env} {R : Room} {s : State} {m : MethodId} {args : Array Value} {below : List Frame} {meth : Method} {c : Code} {cells slots : Nat} {D : va_G} {ca : Nat → ClassId} {A : Nat → Prop} {Q : State → Prop} {ls : Array Slot} {H : Heap} {locs : List Loc} {a : Nat} (Z : Zc p s m args meth c cX12_init 12 D ca A) (h0 : ls[0]? = some (.val (.ref a))) (hcells : cells + 1 ≤ R.cells) (hslots : slots + 12 ≤ R.slots) (hW : Wd D A s.heap ((a, .inr (12, zmf a 55)) :: zmr ca a 55) H locs (a + 1 + 55)) (kk : ∀ H1 locs1, Wd D A s.heap ((a, .inr (12, zmf a 56)) :: zmr ca a 56) H1 locs1 (a + 1 + 56) → W p l e R s m args below meth c H1 locs1 (cells + 1) (slots + 12) Q (F0 m 466 ls [])) : W p l e R s m args below meth c H locs cells slots Q (F0 m 458 ls []) := by
  obtain ⟨hx, hb, -⟩ := id Z
  refine z_a (v := nI 12) (N := 12) (srt := 0) (ty := zty 0) Z h0 dz12_458 (zp_b hx hb dz12_459 (by decide +kernel)) (by decide) zw_1_100 (nI_pos (by decide)) (nI_clamp (by decide)) (by decide) hcells hslots dz12_461 rfl (by decide) (Nat.le_of_ble_eq_true rfl) (fun _ => rfl) (by decide +kernel) dz12_463 hW (fun H locs hW => ?_)
  rw [zmf_55] at hW
  exact kk H locs hW
set_option maxRecDepth 20000 in
theorem zmf_56 (a : Nat) : (zmf a 56).set 70 (.ref (a + 1 + 56)) = zmf a 57 := rfl
set_option maxRecDepth 20000 in
theorem zms_56 {p : Program} {l : Launch} {e : Env} {R : Room} {s : State} {m : MethodId} {args : Array Value} {below : List Frame} {meth : Method} {c : Code} {cells slots : Nat} {D : va_G} {ca : Nat → ClassId} {A : Nat → Prop} {Q : State → Prop} {ls : Array Slot} {H : Heap} {locs : List Loc} {a : Nat} (Z : Zc p s m args meth c cX12_init 12 D ca A) (h0 : ls[0]? = some (.val (.ref a))) (hcells : cells + 1 ≤ R.cells) (hslots : slots + 12 ≤ R.slots) (hW : Wd D A s.heap ((a, .inr (12, zmf a 56)) :: zmr ca a 56) H locs (a + 1 + 56)) (kk : ∀ H1 locs1, Wd D A s.heap ((a, .inr (12, zmf a 57)) :: zmr ca a 57) H1 locs1 (a + 1 + 57) → W p l e R s m args below meth c H1 locs1 (cells + 1) (slots + 12) Q (F0 m 474 ls [])) : W p l e R s m args below meth c H locs cells slots Q (F0 m 466 ls []) := by
  obtain ⟨hx, hb, -⟩ := id Z
  refine z_a (v := nI 12) (N := 12) (srt := 0) (ty := zty 0) Z h0 dz12_466 (zp_b hx hb dz12_467 (by decide +kernel)) (by decide) zw_1_100 (nI_pos (by decide)) (nI_clamp (by decide)) (by decide) hcells hslots dz12_469 rfl (by decide) (Nat.le_of_ble_eq_true rfl) (fun _ => rfl) (by decide +kernel) dz12_471 hW (fun H locs hW => ?_)
  rw [zmf_56] at hW
  exact kk H locs hW
set_option maxRecDepth 20000 in
theorem zmf_57 (a : Nat) : (zmf a 57).set 71 (.ref (a + 1 + 57)) = zmf a 58 := rfl
set_option maxRecDepth 20000 in
theorem zms_57 {p : Program} {l : Launch} {e : Env} {R : Room} {s : State} {m : MethodId} {args : Array Value} {below : List Frame} {meth : Method} {c : Code} {cells slots : Nat} {D : va_G} {ca : Nat → ClassId} {A : Nat → Prop} {Q : State → Prop} {ls : Array Slot} {H : Heap} {locs : List Loc} {a : Nat} (Z : Zc p s m args meth c cX12_init 12 D ca A) (h0 : ls[0]? = some (.val (.ref a))) (hcells : cells + 1 ≤ R.cells) (hslots : slots + 3 ≤ R.slots) (hW : Wd D A s.heap ((a, .inr (12, zmf a 57)) :: zmr ca a 57) H locs (a + 1 + 57)) (kk : ∀ H1 locs1, Wd D A s.heap ((a, .inr (12, zmf a 58)) :: zmr ca a 58) H1 locs1 (a + 1 + 58) → W p l e R s m args below meth c H1 locs1 (cells + 1) (slots + 3) Q (F0 m 481 ls [])) : W p l e R s m args below meth c H locs cells slots Q (F0 m 474 ls []) := by
  obtain ⟨hx, hb, -⟩ := id Z
  refine z_a (v := nI 3) (N := 3) (srt := 0) (ty := zty 0) Z h0 dz12_474 (zp_c hx hb dz12_475 (by decide +kernel)) (by decide) zw_1_100 (nI_pos (by decide)) (nI_clamp (by decide)) (by decide) hcells hslots dz12_476 rfl (by decide) (Nat.le_of_ble_eq_true rfl) (fun _ => rfl) (by decide +kernel) dz12_478 hW (fun H locs hW => ?_)
  rw [zmf_57] at hW
  exact kk H locs hW
set_option maxRecDepth 20000 in
theorem zmf_58 (a : Nat) : (zmf a 58).set 73 (.ref (a + 1 + 58)) = zmf a 59 := rfl
set_option maxRecDepth 20000 in
theorem zms_58 {p : Program} {l : Launch} {e : Env} {R : Room} {s : State} {m : MethodId} {args : Array Value} {below : List Frame} {meth : Method} {c : Code} {cells slots : Nat} {D : va_G} {ca : Nat → ClassId} {A : Nat → Prop} {Q : State → Prop} {ls : Array Slot} {H : Heap} {locs : List Loc} {a : Nat} (Z : Zc p s m args meth c cX12_init 12 D ca A) (h0 : ls[0]? = some (.val (.ref a))) (hcells : cells + 1 ≤ R.cells) (hslots : slots + 3 ≤ R.slots) (hW : Wd D A s.heap ((a, .inr (12, zmf a 58)) :: zmr ca a 58) H locs (a + 1 + 58)) (kk : ∀ H1 locs1, Wd D A s.heap ((a, .inr (12, zmf a 59)) :: zmr ca a 59) H1 locs1 (a + 1 + 59) → W p l e R s m args below meth c H1 locs1 (cells + 1) (slots + 3) Q (F0 m 488 ls [])) : W p l e R s m args below meth c H locs cells slots Q (F0 m 481 ls []) := by
  obtain ⟨hx, hb, -⟩ := id Z
  refine z_a (v := nI 3) (N := 3) (srt := 0) (ty := zty 0) Z h0 dz12_481 (zp_c hx hb dz12_482 (by decide +kernel)) (by decide) zw_1_100 (nI_pos (by decide)) (nI_clamp (by decide)) (by decide) hcells hslots dz12_483 rfl (by decide) (Nat.le_of_ble_eq_true rfl) (fun _ => rfl) (by decide +kernel) dz12_485 hW (fun H locs hW => ?_)
  rw [zmf_58] at hW
  exact kk H locs hW
set_option maxRecDepth 20000 in
theorem zmf_59 (a : Nat) : (zmf a 59).set 75 (.ref (a + 1 + 59)) = zmf a 60 := rfl
set_option maxRecDepth 20000 in
theorem zms_59 {p : Program} {l : Launch} {e : Env} {R : Room} {s : State} {m : MethodId} {args : Array Value} {below : List Frame} {meth : Method} {c : Code} {cells slots : Nat} {D : va_G} {ca : Nat → ClassId} {A : Nat → Prop} {Q : State → Prop} {ls : Array Slot} {H : Heap} {locs : List Loc} {a : Nat} (Z : Zc p s m args meth c cX12_init 12 D ca A) (h0 : ls[0]? = some (.val (.ref a))) (hcells : cells + 1 ≤ R.cells) (hslots : slots + 40 ≤ R.slots) (hW : Wd D A s.heap ((a, .inr (12, zmf a 59)) :: zmr ca a 59) H locs (a + 1 + 59)) (kk : ∀ H1 locs1, Wd D A s.heap ((a, .inr (12, zmf a 60)) :: zmr ca a 60) H1 locs1 (a + 1 + 60) → W p l e R s m args below meth c H1 locs1 (cells + 1) (slots + 40) Q (F0 m 496 ls [])) : W p l e R s m args below meth c H locs cells slots Q (F0 m 488 ls []) := by
  obtain ⟨hx, hb, -⟩ := id Z
  refine z_a (v := nI 40) (N := 40) (srt := 0) (ty := zty 0) Z h0 dz12_488 (zp_b hx hb dz12_489 (by decide +kernel)) (by decide) zw_1_100 (nI_pos (by decide)) (nI_clamp (by decide)) (by decide) hcells hslots dz12_491 rfl (by decide) (Nat.le_of_ble_eq_true rfl) (fun _ => rfl) (by decide +kernel) dz12_493 hW (fun H locs hW => ?_)
  rw [zmf_59] at hW
  exact kk H locs hW
set_option maxRecDepth 20000 in
theorem zmf_60 (a : Nat) : (zmf a 60).set 76 (.ref (a + 1 + 60)) = zmf a 61 := rfl
set_option maxRecDepth 20000 in
theorem zms_60 {p : Program} {l : Launch} {e : Env} {R : Room} {s : State} {m : MethodId} {args : Array Value} {below : List Frame} {meth : Method} {c : Code} {cells slots : Nat} {D : va_G} {ca : Nat → ClassId} {A : Nat → Prop} {Q : State → Prop} {ls : Array Slot} {H : Heap} {locs : List Loc} {a : Nat} (Z : Zc p s m args meth c cX12_init 12 D ca A) (h0 : ls[0]? = some (.val (.ref a))) (hcells : cells + 1 ≤ R.cells) (hslots : slots + 40 ≤ R.slots) (hW : Wd D A s.heap ((a, .inr (12, zmf a 60)) :: zmr ca a 60) H locs (a + 1 + 60)) (kk : ∀ H1 locs1, Wd D A s.heap ((a, .inr (12, zmf a 61)) :: zmr ca a 61) H1 locs1 (a + 1 + 61) → W p l e R s m args below meth c H1 locs1 (cells + 1) (slots + 40) Q (F0 m 504 ls [])) : W p l e R s m args below meth c H locs cells slots Q (F0 m 496 ls []) := by
  obtain ⟨hx, hb, -⟩ := id Z
  refine z_a (v := nI 40) (N := 40) (srt := 1) (ty := zty 1) Z h0 dz12_496 (zp_b hx hb dz12_497 (by decide +kernel)) (by decide) zw_1_101 (nI_pos (by decide)) (nI_clamp (by decide)) (by decide) hcells hslots dz12_499 rfl (by decide) (Nat.le_of_ble_eq_true rfl) (fun _ => rfl) (by decide +kernel) dz12_501 hW (fun H locs hW => ?_)
  rw [zmf_60] at hW
  exact kk H locs hW
set_option maxRecDepth 20000 in
theorem zmf_61 (a : Nat) : (zmf a 61).set 77 (.ref (a + 1 + 61)) = zmf a 62 := rfl
set_option maxRecDepth 20000 in
theorem zms_61 {p : Program} {l : Launch} {e : Env} {R : Room} {s : State} {m : MethodId} {args : Array Value} {below : List Frame} {meth : Method} {c : Code} {cells slots : Nat} {D : va_G} {ca : Nat → ClassId} {A : Nat → Prop} {Q : State → Prop} {ls : Array Slot} {H : Heap} {locs : List Loc} {a : Nat} (Z : Zc p s m args meth c cX12_init 12 D ca A) (h0 : ls[0]? = some (.val (.ref a))) (hcells : cells + 1 ≤ R.cells) (hslots : slots + 12 ≤ R.slots) (hW : Wd D A s.heap ((a, .inr (12, zmf a 61)) :: zmr ca a 61) H locs (a + 1 + 61)) (kk : ∀ H1 locs1, Wd D A s.heap ((a, .inr (12, zmf a 62)) :: zmr ca a 62) H1 locs1 (a + 1 + 62) → W p l e R s m args below meth c H1 locs1 (cells + 1) (slots + 12) Q (F0 m 512 ls [])) : W p l e R s m args below meth c H locs cells slots Q (F0 m 504 ls []) := by
  obtain ⟨hx, hb, -⟩ := id Z
  refine z_a (v := nI 12) (N := 12) (srt := 0) (ty := zty 0) Z h0 dz12_504 (zp_b hx hb dz12_505 (by decide +kernel)) (by decide) zw_1_100 (nI_pos (by decide)) (nI_clamp (by decide)) (by decide) hcells hslots dz12_507 rfl (by decide) (Nat.le_of_ble_eq_true rfl) (fun _ => rfl) (by decide +kernel) dz12_509 hW (fun H locs hW => ?_)
  rw [zmf_61] at hW
  exact kk H locs hW
set_option maxRecDepth 20000 in
theorem zmf_62 (a : Nat) : (zmf a 62).set 79 (.ref (a + 1 + 62)) = zmf a 63 := rfl
set_option maxRecDepth 20000 in
theorem zms_62 {p : Program} {l : Launch} {e : Env} {R : Room} {s : State} {m : MethodId} {args : Array Value} {below : List Frame} {meth : Method} {c : Code} {cells slots : Nat} {D : va_G} {ca : Nat → ClassId} {A : Nat → Prop} {Q : State → Prop} {ls : Array Slot} {H : Heap} {locs : List Loc} {a : Nat} (Z : Zc p s m args meth c cX12_init 12 D ca A) (h0 : ls[0]? = some (.val (.ref a))) (hcells : cells + 1 ≤ R.cells) (hslots : slots + 24 ≤ R.slots) (hW : Wd D A s.heap ((a, .inr (12, zmf a 62)) :: zmr ca a 62) H locs (a + 1 + 62)) (kk : ∀ H1 locs1, Wd D A s.heap ((a, .inr (12, zmf a 63)) :: zmr ca a 63) H1 locs1 (a + 1 + 63) → W p l e R s m args below meth c H1 locs1 (cells + 1) (slots + 24) Q (F0 m 520 ls [])) : W p l e R s m args below meth c H locs cells slots Q (F0 m 512 ls []) := by
  obtain ⟨hx, hb, -⟩ := id Z
  refine z_a (v := nI 24) (N := 24) (srt := 0) (ty := zty 0) Z h0 dz12_512 (zp_b hx hb dz12_513 (by decide +kernel)) (by decide) zw_1_100 (nI_pos (by decide)) (nI_clamp (by decide)) (by decide) hcells hslots dz12_515 rfl (by decide) (Nat.le_of_ble_eq_true rfl) (fun _ => rfl) (by decide +kernel) dz12_517 hW (fun H locs hW => ?_)
  rw [zmf_62] at hW
  exact kk H locs hW
set_option maxRecDepth 20000 in
theorem zmf_63 (a : Nat) : (zmf a 63).set 82 (.ref (a + 1 + 63)) = zmf a 64 := rfl
set_option maxRecDepth 20000 in
theorem zms_63 {p : Program} {l : Launch} {e : Env} {R : Room} {s : State} {m : MethodId} {args : Array Value} {below : List Frame} {meth : Method} {c : Code} {cells slots : Nat} {D : va_G} {ca : Nat → ClassId} {A : Nat → Prop} {Q : State → Prop} {ls : Array Slot} {H : Heap} {locs : List Loc} {a : Nat} (Z : Zc p s m args meth c cX12_init 12 D ca A) (h0 : ls[0]? = some (.val (.ref a))) (hcells : cells + 1 ≤ R.cells) (hslots : slots + 6 ≤ R.slots) (hW : Wd D A s.heap ((a, .inr (12, zmf a 63)) :: zmr ca a 63) H locs (a + 1 + 63)) (kk : ∀ H1 locs1, Wd D A s.heap ((a, .inr (12, zmf a 64)) :: zmr ca a 64) H1 locs1 (a + 1 + 64) → W p l e R s m args below meth c H1 locs1 (cells + 1) (slots + 6) Q (F0 m 528 ls [])) : W p l e R s m args below meth c H locs cells slots Q (F0 m 520 ls []) := by
  obtain ⟨hx, hb, -⟩ := id Z
  refine z_a (v := nI 6) (N := 6) (srt := 0) (ty := zty 0) Z h0 dz12_520 (zp_b hx hb dz12_521 (by decide +kernel)) (by decide) zw_1_100 (nI_pos (by decide)) (nI_clamp (by decide)) (by decide) hcells hslots dz12_523 rfl (by decide) (Nat.le_of_ble_eq_true rfl) (fun _ => rfl) (by decide +kernel) dz12_525 hW (fun H locs hW => ?_)
  rw [zmf_63] at hW
  exact kk H locs hW
set_option maxRecDepth 20000 in
theorem zmf_64 (a : Nat) : (zmf a 64).set 83 (.ref (a + 1 + 64)) = zmf a 65 := rfl
set_option maxRecDepth 20000 in
theorem zms_64 {p : Program} {l : Launch} {e : Env} {R : Room} {s : State} {m : MethodId} {args : Array Value} {below : List Frame} {meth : Method} {c : Code} {cells slots : Nat} {D : va_G} {ca : Nat → ClassId} {A : Nat → Prop} {Q : State → Prop} {ls : Array Slot} {H : Heap} {locs : List Loc} {a : Nat} (Z : Zc p s m args meth c cX12_init 12 D ca A) (h0 : ls[0]? = some (.val (.ref a))) (hcells : cells + 1 ≤ R.cells) (hslots : slots + 6 ≤ R.slots) (hW : Wd D A s.heap ((a, .inr (12, zmf a 64)) :: zmr ca a 64) H locs (a + 1 + 64)) (kk : ∀ H1 locs1, Wd D A s.heap ((a, .inr (12, zmf a 65)) :: zmr ca a 65) H1 locs1 (a + 1 + 65) → W p l e R s m args below meth c H1 locs1 (cells + 1) (slots + 6) Q (F0 m 536 ls [])) : W p l e R s m args below meth c H locs cells slots Q (F0 m 528 ls []) := by
  obtain ⟨hx, hb, -⟩ := id Z
  refine z_a (v := nI 6) (N := 6) (srt := 0) (ty := zty 0) Z h0 dz12_528 (zp_b hx hb dz12_529 (by decide +kernel)) (by decide) zw_1_100 (nI_pos (by decide)) (nI_clamp (by decide)) (by decide) hcells hslots dz12_531 rfl (by decide) (Nat.le_of_ble_eq_true rfl) (fun _ => rfl) (by decide +kernel) dz12_533 hW (fun H locs hW => ?_)
  rw [zmf_64] at hW
  exact kk H locs hW
set_option maxRecDepth 20000 in
theorem zmf_65 (a : Nat) : (zmf a 65).set 84 (.ref (a + 1 + 65)) = zmf a 66 := rfl
set_option maxRecDepth 20000 in
theorem zms_65 {p : Program} {l : Launch} {e : Env} {R : Room} {s : State} {m : MethodId} {args : Array Value} {below : List Frame} {meth : Method} {c : Code} {cells slots : Nat} {D : va_G} {ca : Nat → ClassId} {A : Nat → Prop} {Q : State → Prop} {ls : Array Slot} {H : Heap} {locs : List Loc} {a : Nat} (Z : Zc p s m args meth c cX12_init 12 D ca A) (h0 : ls[0]? = some (.val (.ref a))) (hcells : cells + 1 ≤ R.cells) (hslots : slots + 360 ≤ R.slots) (hW : Wd D A s.heap ((a, .inr (12, zmf a 65)) :: zmr ca a 65) H locs (a + 1 + 65)) (kk : ∀ H1 locs1, Wd D A s.heap ((a, .inr (12, zmf a 66)) :: zmr ca a 66) H1 locs1 (a + 1 + 66) → W p l e R s m args below meth c H1 locs1 (cells + 1) (slots + 360) Q (F0 m 545 ls [])) : W p l e R s m args below meth c H locs cells slots Q (F0 m 536 ls []) := by
  obtain ⟨hx, hb, -⟩ := id Z
  refine z_a (v := nI 360) (N := 360) (srt := 2) (ty := zty 2) Z h0 dz12_536 (zp_s hx hb dz12_537 (by decide +kernel)) (by decide) zw_2_197 (nI_pos (by decide)) (nI_clamp (by decide)) (by decide) hcells hslots dz12_540 rfl (by decide) (Nat.le_of_ble_eq_true rfl) (fun _ => rfl) (by decide +kernel) dz12_542 hW (fun H locs hW => ?_)
  rw [zmf_65] at hW
  exact kk H locs hW
set_option maxRecDepth 20000 in
theorem zmf_66 (a : Nat) : (zmf a 66).set 85 (.ref (a + 1 + 66)) = zmf a 67 := rfl
set_option maxRecDepth 20000 in
theorem zms_66 {p : Program} {l : Launch} {e : Env} {R : Room} {s : State} {m : MethodId} {args : Array Value} {below : List Frame} {meth : Method} {c : Code} {cells slots : Nat} {D : va_G} {ca : Nat → ClassId} {A : Nat → Prop} {Q : State → Prop} {ls : Array Slot} {H : Heap} {locs : List Loc} {a : Nat} (Z : Zc p s m args meth c cX12_init 12 D ca A) (h0 : ls[0]? = some (.val (.ref a))) (hcells : cells + 1 ≤ R.cells) (hslots : slots + 60 ≤ R.slots) (hW : Wd D A s.heap ((a, .inr (12, zmf a 66)) :: zmr ca a 66) H locs (a + 1 + 66)) (kk : ∀ H1 locs1, Wd D A s.heap ((a, .inr (12, zmf a 67)) :: zmr ca a 67) H1 locs1 (a + 1 + 67) → W p l e R s m args below meth c H1 locs1 (cells + 1) (slots + 60) Q (F0 m 553 ls [])) : W p l e R s m args below meth c H locs cells slots Q (F0 m 545 ls []) := by
  obtain ⟨hx, hb, -⟩ := id Z
  refine z_a (v := nI 60) (N := 60) (srt := 2) (ty := zty 2) Z h0 dz12_545 (zp_b hx hb dz12_546 (by decide +kernel)) (by decide) zw_2_197 (nI_pos (by decide)) (nI_clamp (by decide)) (by decide) hcells hslots dz12_548 rfl (by decide) (Nat.le_of_ble_eq_true rfl) (fun _ => rfl) (by decide +kernel) dz12_550 hW (fun H locs hW => ?_)
  rw [zmf_66] at hW
  exact kk H locs hW
def zo12 (ca : Nat → ClassId) (a : Nat) : va_W := (((a, .inr (12, zmf a 67)) :: zmr ca a 67).set 6 (a + 1 + 5, .inl (ca 0, 144, .inl (fun j => if j < 144 then Int32.ofInt 1 else (0 : Int32))))).set 64 (a + 1 + 63, .inl (ca 0, 6, .inl (fun j => if j < 6 then Int32.ofInt (-1) else (0 : Int32))))
theorem zmr_len {ca : Nat → ClassId} {a : Nat} : ∀ n, (zmr ca a n).length = n
  | 0 => rfl
  | n + 1 => by
    show (zmr ca a n ++ [_]).length = n + 1
    rw [List.length_append, zmr_len n]
    rfl
theorem zmr_get {ca : Nat → ClassId} {a j : Nat} : ∀ n, j < n → (zmr ca a n)[j]? = some (a + 1 + j, .inl (ca (zme (52 + j)).1, zar (zme (52 + j)).1 (zme (52 + j)).2))
  | 0, h => absurd h (Nat.not_lt_zero j)
  | n + 1, h => by
    show (zmr ca a n ++ [_])[j]? = _
    by_cases h1 : j < n
    · rw [List.getElem?_append_left (by rw [zmr_len]; exact h1)]
      exact zmr_get n h1
    · have h2 : j = n := by omega
      subst h2
      rw [List.getElem?_append_right (by rw [zmr_len]; exact Nat.le_refl _), zmr_len, Nat.sub_self]
      rfl
theorem zmg_57 {ca : Nat → ClassId} {a : Nat} {x : Nat × va_E} : (x :: zmr ca a 67)[6]? = some (a + 1 + 5, .inl (ca 0, 144, .inl fun _ => 0)) := by
  rw [List.getElem?_cons_succ, zmr_get 67 (by decide)]
  rfl
theorem zmg_115 {ca : Nat → ClassId} {a : Nat} {x : Nat × va_E} : (x :: zmr ca a 67)[64]? = some (a + 1 + 63, .inl (ca 0, 6, .inl fun _ => 0)) := by
  rw [List.getElem?_cons_succ, zmr_get 67 (by decide)]
  rfl
set_option maxHeartbeats 4000000 in
theorem z12_fill {p : Program} {l : Launch} {e : Env} {R : Room} {s : State} {m : MethodId} {args : Array Value} {below : List Frame} {meth : Method} {c : Code} {cells slots : Nat} {D : va_G} {ca : Nat → ClassId} {A : Nat → Prop} {Q : State → Prop} {ls : Array Slot} {H : Heap} {locs : List Loc} {a n q1 q2 : Nat} {ws : va_W} {fs : List Value} (Z : Zc p s m args meth c cX12_init 12 D ca A) (hl : lv_has ls 2 [(0, .ref a)]) (hob : ws[0]? = some (a, .inr (12, fs))) (hf1 : fs[6]? = some (.ref q1)) (hf2 : fs[82]? = some (.ref q2)) (h57 : ws[6]? = some (q1, .inl (ca 0, 144, .inl fun _ => 0))) (h115 : ws[64]? = some (q2, .inl (ca 0, 6, .inl fun _ => 0)))
    (hret : ∀ (ls : Array Slot) (H : Heap) (locs : List Loc), Wd D A s.heap ((ws.set 6 (q1, .inl (ca 0, 144, .inl (fun j => if j < 144 then Int32.ofInt 1 else (0 : Int32))))).set 64 (q2, .inl (ca 0, 6, .inl (fun j => if j < 6 then Int32.ofInt (-1) else (0 : Int32))))) H locs n → W p l e R s m args below meth c H locs cells slots Q (F0 m 596 ls [])) (hW : Wd D A s.heap ws H locs n) : W p l e R s m args below meth c H locs cells slots Q (F0 m 553 ls []) := by
  obtain ⟨hx, hb, -⟩ := id Z
  refine lv_iconst (v := nI 0) hx hb dz12_553 (by decide +kernel) ?_
  refine lv_istore_n (lv' := [(1, .int (nI 0)), (0, .ref a)]) hx hb dz12_554 rfl hl (by decide) rfl (fun ls hl => ?_)
  have hW2 := hW.re (q0 := 6) (e1 := .inl (ca 0, 144, .inl (fun j => if j < 0 then Int32.ofInt 1 else (0 : Int32)))) h57 (fun h => by rw [z_if0]; exact h)
  refine z_fill (ws := ws) (N := 144) (v := Int32.ofInt 1) (f0 := fun _ => 0) (k := 1) (pc1 := 559) (pcx := 575) Z (by decide) (by decide) dz12_555 (zp_s hx hb dz12_556 (by decide +kernel)) dz12_559 (by decide) dz12_562 dz12_563 dz12_566 dz12_567 rfl dz12_568 dz12_569 dz12_572 (by decide) rfl (by decide) (qa := 6) hob hf1 h57 (by decide) (fun H locs ls hl hW => ?_) 144 0 rfl _ _ ls hl hW2
  have hl := lv_sub hl [1] rfl
  refine lv_iconst (v := nI 0) hx hb dz12_575 (by decide +kernel) ?_
  refine lv_istore_n (lv' := [(1, .int (nI 0)), (0, .ref a)]) hx hb dz12_576 rfl hl (by decide) rfl (fun ls hl => ?_)
  have hob2 : (ws.set 6 (q1, (.inl (ca 0, 144, .inl (fun j => if j < 144 then Int32.ofInt 1 else (0 : Int32))) : va_E)))[0]? = some (a, .inr (12, fs)) := by rw [List.getElem?_set_ne (by decide)]; exact hob
  have h115b : (ws.set 6 (q1, (.inl (ca 0, 144, .inl (fun j => if j < 144 then Int32.ofInt 1 else (0 : Int32))) : va_E)))[64]? = some (q2, .inl (ca 0, 6, .inl fun _ => 0)) := by rw [List.getElem?_set_ne (by decide)]; exact h115
  have hW2 := hW.re (q0 := 64) (e1 := .inl (ca 0, 6, .inl (fun j => if j < 0 then Int32.ofInt (-1) else (0 : Int32)))) h115b (fun h => by rw [z_if0]; exact h)
  exact z_fill (N := 6) (v := Int32.ofInt (-1)) (f0 := fun _ => 0) (k := (-1)) (pc1 := 580) (pcx := 596) Z (by decide) (by decide) dz12_577 (zp_b hx hb dz12_578 (by decide +kernel)) dz12_580 (by decide) dz12_583 dz12_584 dz12_587 dz12_588 rfl dz12_589 dz12_590 dz12_593 (by decide) rfl (by decide) (qa := 64) hob2 hf2 h115b (by decide) (fun H locs ls hl hW => hret ls H locs hW) 6 0 rfl _ _ ls hl hW2
set_option maxHeartbeats 4000000 in
set_option maxRecDepth 20000 in
theorem zc12 (l : Launch) (D : va_G) (ca : Nat → ClassId) (a : Nat) : Zct l D ca yX12_init cX12_init 2 1 12 67 10019 12 (zfs [none, some 52, some 53, some 54, some 55, some 56, some 57, some 58, none, some 59, some 60, some 61, some 62, some 63, some 64, none, some 65, some 66, some 67, some 68, some 69, some 70, some 71, none, some 72, some 73, some 74, some 75, none, some 76, some 77, some 78, some 79, some 80, none, some 81, some 82, some 83, some 84, some 85, some 86, none, some 87, some 88, some 89, some 90, some 91, some 92, some 93, none, none, none, none, none, none, some 94, some 95, some 96, some 97, some 98, some 99, some 100, some 101, some 102, none, some 103, some 104, some 105, some 106, some 107, some 108, some 109, none, some 110, none, some 111, some 112, some 113, none, some 114, none, none, some 115, some 116, some 117, some 118]) a (zo12 ca a) := by
  refine zct_of (own := 12) rfl rfl (by decide) (by decide) ?_
  intro p e s m args below meth c Q Z hml hret ls H hl hW
  have h0 := lv_at hl 0 rfl
  obtain ⟨hx, hb, ht, hown, hKt, hA, hmn, hAO⟩ := id Z
  refine lv_aload_n hx hb dz12_0 rfl h0 ?_
  refine W.objInit hx hb hown (ht _ zw_5_202 rfl) (ht _ zw_1_29 rfl) (ht _ zw_1_30 rfl) rfl (by rw [hml]; exact hl.1) rfl dz12_1 (Nat.le_of_ble_eq_true rfl) (Nat.le_of_ble_eq_true rfl) ?_
  refine W.eq (g2 := F0 m 4 ls []) rfl ?_
  refine zms_0 Z h0 (Nat.le_of_ble_eq_true rfl) (Nat.le_of_ble_eq_true rfl) hW (fun H locs hW => ?_)
  refine zms_1 Z h0 (Nat.le_of_ble_eq_true rfl) (Nat.le_of_ble_eq_true rfl) hW (fun H locs hW => ?_)
  refine zms_2 Z h0 (Nat.le_of_ble_eq_true rfl) (Nat.le_of_ble_eq_true rfl) hW (fun H locs hW => ?_)
  refine zms_3 Z h0 (Nat.le_of_ble_eq_true rfl) (Nat.le_of_ble_eq_true rfl) hW (fun H locs hW => ?_)
  refine zms_4 Z h0 (Nat.le_of_ble_eq_true rfl) (Nat.le_of_ble_eq_true rfl) hW (fun H locs hW => ?_)
  refine zms_5 Z h0 (Nat.le_of_ble_eq_true rfl) (Nat.le_of_ble_eq_true rfl) hW (fun H locs hW => ?_)
  refine zms_6 Z h0 (Nat.le_of_ble_eq_true rfl) (Nat.le_of_ble_eq_true rfl) hW (fun H locs hW => ?_)
  refine zms_7 Z h0 (Nat.le_of_ble_eq_true rfl) (Nat.le_of_ble_eq_true rfl) hW (fun H locs hW => ?_)
  refine zms_8 Z h0 (Nat.le_of_ble_eq_true rfl) (Nat.le_of_ble_eq_true rfl) hW (fun H locs hW => ?_)
  refine zms_9 Z h0 (Nat.le_of_ble_eq_true rfl) (Nat.le_of_ble_eq_true rfl) hW (fun H locs hW => ?_)
  refine zms_10 Z h0 (Nat.le_of_ble_eq_true rfl) (Nat.le_of_ble_eq_true rfl) hW (fun H locs hW => ?_)
  refine zms_11 Z h0 (Nat.le_of_ble_eq_true rfl) (Nat.le_of_ble_eq_true rfl) hW (fun H locs hW => ?_)
  refine zms_12 Z h0 (Nat.le_of_ble_eq_true rfl) (Nat.le_of_ble_eq_true rfl) hW (fun H locs hW => ?_)
  refine zms_13 Z h0 (Nat.le_of_ble_eq_true rfl) (Nat.le_of_ble_eq_true rfl) hW (fun H locs hW => ?_)
  refine zms_14 Z h0 (Nat.le_of_ble_eq_true rfl) (Nat.le_of_ble_eq_true rfl) hW (fun H locs hW => ?_)
  refine zms_15 Z h0 (Nat.le_of_ble_eq_true rfl) (Nat.le_of_ble_eq_true rfl) hW (fun H locs hW => ?_)
  refine zms_16 Z h0 (Nat.le_of_ble_eq_true rfl) (Nat.le_of_ble_eq_true rfl) hW (fun H locs hW => ?_)
  refine zms_17 Z h0 (Nat.le_of_ble_eq_true rfl) (Nat.le_of_ble_eq_true rfl) hW (fun H locs hW => ?_)
  refine zms_18 Z h0 (Nat.le_of_ble_eq_true rfl) (Nat.le_of_ble_eq_true rfl) hW (fun H locs hW => ?_)
  refine zms_19 Z h0 (Nat.le_of_ble_eq_true rfl) (Nat.le_of_ble_eq_true rfl) hW (fun H locs hW => ?_)
  refine zms_20 Z h0 (Nat.le_of_ble_eq_true rfl) (Nat.le_of_ble_eq_true rfl) hW (fun H locs hW => ?_)
  refine zms_21 Z h0 (Nat.le_of_ble_eq_true rfl) (Nat.le_of_ble_eq_true rfl) hW (fun H locs hW => ?_)
  refine zms_22 Z h0 (Nat.le_of_ble_eq_true rfl) (Nat.le_of_ble_eq_true rfl) hW (fun H locs hW => ?_)
  refine zms_23 Z h0 (Nat.le_of_ble_eq_true rfl) (Nat.le_of_ble_eq_true rfl) hW (fun H locs hW => ?_)
  refine zms_24 Z h0 (Nat.le_of_ble_eq_true rfl) (Nat.le_of_ble_eq_true rfl) hW (fun H locs hW => ?_)
  refine zms_25 Z h0 (Nat.le_of_ble_eq_true rfl) (Nat.le_of_ble_eq_true rfl) hW (fun H locs hW => ?_)
  refine zms_26 Z h0 (Nat.le_of_ble_eq_true rfl) (Nat.le_of_ble_eq_true rfl) hW (fun H locs hW => ?_)
  refine zms_27 Z h0 (Nat.le_of_ble_eq_true rfl) (Nat.le_of_ble_eq_true rfl) hW (fun H locs hW => ?_)
  refine zms_28 Z h0 (Nat.le_of_ble_eq_true rfl) (Nat.le_of_ble_eq_true rfl) hW (fun H locs hW => ?_)
  refine zms_29 Z h0 (Nat.le_of_ble_eq_true rfl) (Nat.le_of_ble_eq_true rfl) hW (fun H locs hW => ?_)
  refine zms_30 Z h0 (Nat.le_of_ble_eq_true rfl) (Nat.le_of_ble_eq_true rfl) hW (fun H locs hW => ?_)
  refine zms_31 Z h0 (Nat.le_of_ble_eq_true rfl) (Nat.le_of_ble_eq_true rfl) hW (fun H locs hW => ?_)
  refine zms_32 Z h0 (Nat.le_of_ble_eq_true rfl) (Nat.le_of_ble_eq_true rfl) hW (fun H locs hW => ?_)
  refine zms_33 Z h0 (Nat.le_of_ble_eq_true rfl) (Nat.le_of_ble_eq_true rfl) hW (fun H locs hW => ?_)
  refine zms_34 Z h0 (Nat.le_of_ble_eq_true rfl) (Nat.le_of_ble_eq_true rfl) hW (fun H locs hW => ?_)
  refine zms_35 Z h0 (Nat.le_of_ble_eq_true rfl) (Nat.le_of_ble_eq_true rfl) hW (fun H locs hW => ?_)
  refine zms_36 Z h0 (Nat.le_of_ble_eq_true rfl) (Nat.le_of_ble_eq_true rfl) hW (fun H locs hW => ?_)
  refine zms_37 Z h0 (Nat.le_of_ble_eq_true rfl) (Nat.le_of_ble_eq_true rfl) hW (fun H locs hW => ?_)
  refine zms_38 Z h0 (Nat.le_of_ble_eq_true rfl) (Nat.le_of_ble_eq_true rfl) hW (fun H locs hW => ?_)
  refine zms_39 Z h0 (Nat.le_of_ble_eq_true rfl) (Nat.le_of_ble_eq_true rfl) hW (fun H locs hW => ?_)
  refine zms_40 Z h0 (Nat.le_of_ble_eq_true rfl) (Nat.le_of_ble_eq_true rfl) hW (fun H locs hW => ?_)
  refine zms_41 Z h0 (Nat.le_of_ble_eq_true rfl) (Nat.le_of_ble_eq_true rfl) hW (fun H locs hW => ?_)
  refine zms_42 Z h0 (Nat.le_of_ble_eq_true rfl) (Nat.le_of_ble_eq_true rfl) hW (fun H locs hW => ?_)
  refine zms_43 Z h0 (Nat.le_of_ble_eq_true rfl) (Nat.le_of_ble_eq_true rfl) hW (fun H locs hW => ?_)
  refine zms_44 Z h0 (Nat.le_of_ble_eq_true rfl) (Nat.le_of_ble_eq_true rfl) hW (fun H locs hW => ?_)
  refine zms_45 Z h0 (Nat.le_of_ble_eq_true rfl) (Nat.le_of_ble_eq_true rfl) hW (fun H locs hW => ?_)
  refine zms_46 Z h0 (Nat.le_of_ble_eq_true rfl) (Nat.le_of_ble_eq_true rfl) hW (fun H locs hW => ?_)
  refine zms_47 Z h0 (Nat.le_of_ble_eq_true rfl) (Nat.le_of_ble_eq_true rfl) hW (fun H locs hW => ?_)
  refine zms_48 Z h0 (Nat.le_of_ble_eq_true rfl) (Nat.le_of_ble_eq_true rfl) hW (fun H locs hW => ?_)
  refine zms_49 Z h0 (Nat.le_of_ble_eq_true rfl) (Nat.le_of_ble_eq_true rfl) hW (fun H locs hW => ?_)
  refine zms_50 Z h0 (Nat.le_of_ble_eq_true rfl) (Nat.le_of_ble_eq_true rfl) hW (fun H locs hW => ?_)
  refine zms_51 Z h0 (Nat.le_of_ble_eq_true rfl) (Nat.le_of_ble_eq_true rfl) hW (fun H locs hW => ?_)
  refine zms_52 Z h0 (Nat.le_of_ble_eq_true rfl) (Nat.le_of_ble_eq_true rfl) hW (fun H locs hW => ?_)
  refine zms_53 Z h0 (Nat.le_of_ble_eq_true rfl) (Nat.le_of_ble_eq_true rfl) hW (fun H locs hW => ?_)
  refine zms_54 Z h0 (Nat.le_of_ble_eq_true rfl) (Nat.le_of_ble_eq_true rfl) hW (fun H locs hW => ?_)
  refine zms_55 Z h0 (Nat.le_of_ble_eq_true rfl) (Nat.le_of_ble_eq_true rfl) hW (fun H locs hW => ?_)
  refine zms_56 Z h0 (Nat.le_of_ble_eq_true rfl) (Nat.le_of_ble_eq_true rfl) hW (fun H locs hW => ?_)
  refine zms_57 Z h0 (Nat.le_of_ble_eq_true rfl) (Nat.le_of_ble_eq_true rfl) hW (fun H locs hW => ?_)
  refine zms_58 Z h0 (Nat.le_of_ble_eq_true rfl) (Nat.le_of_ble_eq_true rfl) hW (fun H locs hW => ?_)
  refine zms_59 Z h0 (Nat.le_of_ble_eq_true rfl) (Nat.le_of_ble_eq_true rfl) hW (fun H locs hW => ?_)
  refine zms_60 Z h0 (Nat.le_of_ble_eq_true rfl) (Nat.le_of_ble_eq_true rfl) hW (fun H locs hW => ?_)
  refine zms_61 Z h0 (Nat.le_of_ble_eq_true rfl) (Nat.le_of_ble_eq_true rfl) hW (fun H locs hW => ?_)
  refine zms_62 Z h0 (Nat.le_of_ble_eq_true rfl) (Nat.le_of_ble_eq_true rfl) hW (fun H locs hW => ?_)
  refine zms_63 Z h0 (Nat.le_of_ble_eq_true rfl) (Nat.le_of_ble_eq_true rfl) hW (fun H locs hW => ?_)
  refine zms_64 Z h0 (Nat.le_of_ble_eq_true rfl) (Nat.le_of_ble_eq_true rfl) hW (fun H locs hW => ?_)
  refine zms_65 Z h0 (Nat.le_of_ble_eq_true rfl) (Nat.le_of_ble_eq_true rfl) hW (fun H locs hW => ?_)
  refine zms_66 Z h0 (Nat.le_of_ble_eq_true rfl) (Nat.le_of_ble_eq_true rfl) hW (fun H locs hW => ?_)
  refine z12_fill (fs := zmf a 67) Z hl rfl rfl rfl zmg_57 zmg_115 (fun ls H locs hW => ?_) hW
  exact hret 596 ls H locs dz12_596 hW
