/-! ===== blocks of methods (printed by wip/whole/mkall.py) ===== -/
theorem dX2_run_0 : decode cX2_run 0 = .ok (.iload_n 2, 1) := by decide +kernel
theorem dX2_run_1 : decode cX2_run 1 = .ok (.istore_n 3, 1) := by decide +kernel
theorem dX2_run_2 : decode cX2_run 2 = .ok (.iconst 0, 1) := by decide +kernel
theorem dX2_run_3 : decode cX2_run 3 = .ok (.istore 4, 2) := by decide +kernel
theorem dX2_run_5 : decode cX2_run 5 = .ok (.aload_n 0, 1) := by decide +kernel
theorem dX2_run_6 : decode cX2_run 6 = .ok (.iconst 0, 1) := by decide +kernel
theorem dX2_run_7 : decode cX2_run 7 = .ok (.putfield 15, 3) := by decide +kernel
theorem dX2_run_10 : decode cX2_run 10 = .ok (.iconst 0, 1) := by decide +kernel
theorem dX2_run_11 : decode cX2_run 11 = .ok (.istore 5, 2) := by decide +kernel
theorem dX2_run_13 : decode cX2_run 13 = .ok (.iload 5, 2) := by decide +kernel
theorem dX2_run_15 : decode cX2_run 15 = .ok (.sipush 1000, 3) := by decide +kernel
theorem dX2_run_18 : decode cX2_run 18 = .ok (.if_icmp .ge 454, 3) := by decide +kernel
theorem dX2_run_21 : decode cX2_run 21 = .ok (.iload_n 3, 1) := by decide +kernel
theorem dX2_run_22 : decode cX2_run 22 = .ok (.ifCond .lt 450, 3) := by decide +kernel
theorem dX2_run_25 : decode cX2_run 25 = .ok (.iload_n 3, 1) := by decide +kernel
theorem dX2_run_26 : decode cX2_run 26 = .ok (.aload_n 1, 1) := by decide +kernel
theorem dX2_run_27 : decode cX2_run 27 = .ok (.arraylength, 1) := by decide +kernel
theorem dX2_run_28 : decode cX2_run 28 = .ok (.if_icmp .ge 444, 3) := by decide +kernel
theorem dX2_run_31 : decode cX2_run 31 = .ok (.aload_n 1, 1) := by decide +kernel
theorem dX2_run_32 : decode cX2_run 32 = .ok (.iload_n 3, 1) := by decide +kernel
theorem dX2_run_33 : decode cX2_run 33 = .ok (.iaload, 1) := by decide +kernel
theorem dX2_run_34 : decode cX2_run 34 = .ok (.bipush 31, 2) := by decide +kernel
theorem dX2_run_36 : decode cX2_run 36 = .ok (.iand, 1) := by decide +kernel
theorem dX2_run_37 : decode cX2_run 37 = .ok (.istore 6, 2) := by decide +kernel
theorem dX2_run_39 : decode cX2_run 39 = .ok (.aload_n 1, 1) := by decide +kernel
theorem dX2_run_40 : decode cX2_run 40 = .ok (.iload_n 3, 1) := by decide +kernel
theorem dX2_run_41 : decode cX2_run 41 = .ok (.iaload, 1) := by decide +kernel
theorem dX2_run_42 : decode cX2_run 42 = .ok (.iconst 5, 1) := by decide +kernel
theorem dX2_run_43 : decode cX2_run 43 = .ok (.ishr, 1) := by decide +kernel
theorem dX2_run_44 : decode cX2_run 44 = .ok (.istore 7, 2) := by decide +kernel
theorem dX2_run_46 : decode cX2_run 46 = .ok (.iinc 3 1, 3) := by decide +kernel
theorem dX2_run_49 : decode cX2_run 49 = .ok (.iload 6, 2) := by decide +kernel
theorem dX2_run_51 : decode cX2_run 51 = .ok (.iconst 1, 1) := by decide +kernel
theorem dX2_run_52 : decode cX2_run 52 = .ok (.if_icmp .eq 9, 3) := by decide +kernel
theorem dX2_run_55 : decode cX2_run 55 = .ok (.iload 6, 2) := by decide +kernel
theorem dX2_run_57 : decode cX2_run 57 = .ok (.iconst 2, 1) := by decide +kernel
theorem dX2_run_58 : decode cX2_run 58 = .ok (.if_icmp .ne 57, 3) := by decide +kernel
theorem dX2_run_61 : decode cX2_run 61 = .ok (.iload 4, 2) := by decide +kernel
theorem dX2_run_63 : decode cX2_run 63 = .ok (.bipush 120, 2) := by decide +kernel
theorem dX2_run_65 : decode cX2_run 65 = .ok (.if_icmp .ge 407, 3) := by decide +kernel
theorem dX2_run_68 : decode cX2_run 68 = .ok (.iload 6, 2) := by decide +kernel
theorem dX2_run_70 : decode cX2_run 70 = .ok (.iconst 2, 1) := by decide +kernel
theorem dX2_run_71 : decode cX2_run 71 = .ok (.if_icmp .ne 13, 3) := by decide +kernel
theorem dX2_run_74 : decode cX2_run 74 = .ok (.iload 7, 2) := by decide +kernel
theorem dX2_run_76 : decode cX2_run 76 = .ok (.bipush 13, 2) := by decide +kernel
theorem dX2_run_78 : decode cX2_run 78 = .ok (.if_icmp .lt 6, 3) := by decide +kernel
theorem dX2_run_81 : decode cX2_run 81 = .ok (.goto 391, 3) := by decide +kernel
theorem dX2_run_84 : decode cX2_run 84 = .ok (.aload_n 0, 1) := by decide +kernel
theorem dX2_run_85 : decode cX2_run 85 = .ok (.getfield 19, 3) := by decide +kernel
theorem dX2_run_88 : decode cX2_run 88 = .ok (.iload 4, 2) := by decide +kernel
theorem dX2_run_90 : decode cX2_run 90 = .ok (.iload 6, 2) := by decide +kernel
theorem dX2_run_92 : decode cX2_run 92 = .ok (.iconst 1, 1) := by decide +kernel
theorem dX2_run_93 : decode cX2_run 93 = .ok (.if_icmp .ne 8, 3) := by decide +kernel
theorem dX2_run_96 : decode cX2_run 96 = .ok (.iload 7, 2) := by decide +kernel
theorem dX2_run_98 : decode cX2_run 98 = .ok (.goto 10, 3) := by decide +kernel
theorem dX2_run_101 : decode cX2_run 101 = .ok (.aload_n 0, 1) := by decide +kernel
theorem dX2_run_102 : decode cX2_run 102 = .ok (.getfield 9, 3) := by decide +kernel
theorem dX2_run_105 : decode cX2_run 105 = .ok (.iload 7, 2) := by decide +kernel
theorem dX2_run_107 : decode cX2_run 107 = .ok (.iaload, 1) := by decide +kernel
theorem dX2_run_108 : decode cX2_run 108 = .ok (.iastore, 1) := by decide +kernel
theorem dX2_run_109 : decode cX2_run 109 = .ok (.iinc 4 1, 3) := by decide +kernel
theorem dX2_run_112 : decode cX2_run 112 = .ok (.goto 354, 3) := by decide +kernel
theorem dX2_run_115 : decode cX2_run 115 = .ok (.iload 4, 2) := by decide +kernel
theorem dX2_run_117 : decode cX2_run 117 = .ok (.ifCond .eq 8, 3) := by decide +kernel
theorem dX2_run_120 : decode cX2_run 120 = .ok (.iload 6, 2) := by decide +kernel
theorem dX2_run_122 : decode cX2_run 122 = .ok (.ifCond .ne 20, 3) := by decide +kernel
theorem dX2_run_125 : decode cX2_run 125 = .ok (.iload 4, 2) := by decide +kernel
theorem dX2_run_127 : decode cX2_run 127 = .ok (.iconst 1, 1) := by decide +kernel
theorem dX2_run_128 : decode cX2_run 128 = .ok (.if_icmp .ne 12, 3) := by decide +kernel
theorem dX2_run_131 : decode cX2_run 131 = .ok (.aload_n 0, 1) := by decide +kernel
theorem dX2_run_132 : decode cX2_run 132 = .ok (.getfield 19, 3) := by decide +kernel
theorem dX2_run_135 : decode cX2_run 135 = .ok (.iconst 0, 1) := by decide +kernel
theorem dX2_run_136 : decode cX2_run 136 = .ok (.iaload, 1) := by decide +kernel
theorem dX2_run_137 : decode cX2_run 137 = .ok (.goto 4, 3) := by decide +kernel
theorem dX2_run_140 : decode cX2_run 140 = .ok (.iconst 0, 1) := by decide +kernel
theorem dX2_run_141 : decode cX2_run 141 = .ok (.ireturn, 1) := by decide +kernel
theorem dX2_run_142 : decode cX2_run 142 = .ok (.iload 6, 2) := by decide +kernel
theorem dX2_run_144 : decode cX2_run 144 = .ok (.bipush 11, 2) := by decide +kernel
theorem dX2_run_146 : decode cX2_run 146 = .ok (.if_icmp .ne 26, 3) := by decide +kernel
theorem dX2_run_149 : decode cX2_run 149 = .ok (.aload_n 0, 1) := by decide +kernel
theorem dX2_run_150 : decode cX2_run 150 = .ok (.getfield 19, 3) := by decide +kernel
theorem dX2_run_153 : decode cX2_run 153 = .ok (.iload 4, 2) := by decide +kernel
theorem dX2_run_155 : decode cX2_run 155 = .ok (.iconst 1, 1) := by decide +kernel
theorem dX2_run_156 : decode cX2_run 156 = .ok (.isub, 1) := by decide +kernel
theorem dX2_run_157 : decode cX2_run 157 = .ok (.iconst 1, 1) := by decide +kernel
theorem dX2_run_158 : decode cX2_run 158 = .ok (.aload_n 0, 1) := by decide +kernel
theorem dX2_run_159 : decode cX2_run 159 = .ok (.getfield 19, 3) := by decide +kernel
theorem dX2_run_162 : decode cX2_run 162 = .ok (.iload 4, 2) := by decide +kernel
theorem dX2_run_164 : decode cX2_run 164 = .ok (.iconst 1, 1) := by decide +kernel
theorem dX2_run_165 : decode cX2_run 165 = .ok (.isub, 1) := by decide +kernel
theorem dX2_run_166 : decode cX2_run 166 = .ok (.iaload, 1) := by decide +kernel
theorem dX2_run_167 : decode cX2_run 167 = .ok (.isub, 1) := by decide +kernel
theorem dX2_run_168 : decode cX2_run 168 = .ok (.iastore, 1) := by decide +kernel
theorem dX2_run_169 : decode cX2_run 169 = .ok (.goto 297, 3) := by decide +kernel
theorem dX2_run_172 : decode cX2_run 172 = .ok (.iload 6, 2) := by decide +kernel
theorem dX2_run_174 : decode cX2_run 174 = .ok (.bipush 12, 2) := by decide +kernel
theorem dX2_run_176 : decode cX2_run 176 = .ok (.if_icmp .eq 10, 3) := by decide +kernel
theorem dX2_run_179 : decode cX2_run 179 = .ok (.iload 6, 2) := by decide +kernel
theorem dX2_run_181 : decode cX2_run 181 = .ok (.bipush 13, 2) := by decide +kernel
theorem dX2_run_183 : decode cX2_run 183 = .ok (.if_icmp .ne 47, 3) := by decide +kernel
theorem dX2_run_186 : decode cX2_run 186 = .ok (.aload_n 0, 1) := by decide +kernel
theorem dX2_run_187 : decode cX2_run 187 = .ok (.getfield 19, 3) := by decide +kernel
theorem dX2_run_190 : decode cX2_run 190 = .ok (.iload 4, 2) := by decide +kernel
theorem dX2_run_192 : decode cX2_run 192 = .ok (.iconst 1, 1) := by decide +kernel
theorem dX2_run_193 : decode cX2_run 193 = .ok (.isub, 1) := by decide +kernel
theorem dX2_run_194 : decode cX2_run 194 = .ok (.iaload, 1) := by decide +kernel
theorem dX2_run_195 : decode cX2_run 195 = .ok (.ifCond .eq 7, 3) := by decide +kernel
theorem dX2_run_198 : decode cX2_run 198 = .ok (.iconst 1, 1) := by decide +kernel
theorem dX2_run_199 : decode cX2_run 199 = .ok (.goto 4, 3) := by decide +kernel
theorem dX2_run_202 : decode cX2_run 202 = .ok (.iconst 0, 1) := by decide +kernel
theorem dX2_run_203 : decode cX2_run 203 = .ok (.iload 6, 2) := by decide +kernel
theorem dX2_run_205 : decode cX2_run 205 = .ok (.bipush 12, 2) := by decide +kernel
theorem dX2_run_207 : decode cX2_run 207 = .ok (.if_icmp .ne 7, 3) := by decide +kernel
theorem dX2_run_210 : decode cX2_run 210 = .ok (.iconst 1, 1) := by decide +kernel
theorem dX2_run_211 : decode cX2_run 211 = .ok (.goto 4, 3) := by decide +kernel
theorem dX2_run_214 : decode cX2_run 214 = .ok (.iconst 0, 1) := by decide +kernel
theorem dX2_run_215 : decode cX2_run 215 = .ok (.if_icmp .ne 9, 3) := by decide +kernel
theorem dX2_run_218 : decode cX2_run 218 = .ok (.iload 7, 2) := by decide +kernel
theorem dX2_run_220 : decode cX2_run 220 = .ok (.istore_n 3, 1) := by decide +kernel
theorem dX2_run_221 : decode cX2_run 221 = .ok (.goto 245, 3) := by decide +kernel
theorem dX2_run_224 : decode cX2_run 224 = .ok (.iinc 4 (-1), 3) := by decide +kernel
theorem dX2_run_227 : decode cX2_run 227 = .ok (.goto 239, 3) := by decide +kernel
theorem dX2_run_230 : decode cX2_run 230 = .ok (.aload_n 0, 1) := by decide +kernel
theorem dX2_run_231 : decode cX2_run 231 = .ok (.getfield 19, 3) := by decide +kernel
theorem dX2_run_234 : decode cX2_run 234 = .ok (.iload 4, 2) := by decide +kernel
theorem dX2_run_236 : decode cX2_run 236 = .ok (.iconst 1, 1) := by decide +kernel
theorem dX2_run_237 : decode cX2_run 237 = .ok (.isub, 1) := by decide +kernel
theorem dX2_run_238 : decode cX2_run 238 = .ok (.iaload, 1) := by decide +kernel
theorem dX2_run_239 : decode cX2_run 239 = .ok (.i2l, 1) := by decide +kernel
theorem dX2_run_240 : decode cX2_run 240 = .ok (.lstore 8, 2) := by decide +kernel
theorem dX2_run_242 : decode cX2_run 242 = .ok (.iload 4, 2) := by decide +kernel
theorem dX2_run_244 : decode cX2_run 244 = .ok (.iconst 2, 1) := by decide +kernel
theorem dX2_run_245 : decode cX2_run 245 = .ok (.if_icmp .lt 227, 3) := by decide +kernel
theorem dX2_run_248 : decode cX2_run 248 = .ok (.lload 8, 2) := by decide +kernel
theorem dX2_run_250 : decode cX2_run 250 = .ok (.lconst 0, 1) := by decide +kernel
theorem dX2_run_251 : decode cX2_run 251 = .ok (.lcmp, 1) := by decide +kernel
theorem dX2_run_252 : decode cX2_run 252 = .ok (.ifCond .ne 20, 3) := by decide +kernel
theorem dX2_run_255 : decode cX2_run 255 = .ok (.iload 6, 2) := by decide +kernel
theorem dX2_run_257 : decode cX2_run 257 = .ok (.bipush 6, 2) := by decide +kernel
theorem dX2_run_259 : decode cX2_run 259 = .ok (.if_icmp .eq 213, 3) := by decide +kernel
theorem dX2_run_262 : decode cX2_run 262 = .ok (.iload 6, 2) := by decide +kernel
theorem dX2_run_264 : decode cX2_run 264 = .ok (.bipush 7, 2) := by decide +kernel
theorem dX2_run_266 : decode cX2_run 266 = .ok (.if_icmp .ne 6, 3) := by decide +kernel
theorem dX2_run_269 : decode cX2_run 269 = .ok (.goto 203, 3) := by decide +kernel
theorem dX2_run_272 : decode cX2_run 272 = .ok (.iinc 4 (-1), 3) := by decide +kernel
theorem dX2_run_275 : decode cX2_run 275 = .ok (.aload_n 0, 1) := by decide +kernel
theorem dX2_run_276 : decode cX2_run 276 = .ok (.getfield 19, 3) := by decide +kernel
theorem dX2_run_279 : decode cX2_run 279 = .ok (.iload 4, 2) := by decide +kernel
theorem dX2_run_281 : decode cX2_run 281 = .ok (.iconst 1, 1) := by decide +kernel
theorem dX2_run_282 : decode cX2_run 282 = .ok (.isub, 1) := by decide +kernel
theorem dX2_run_283 : decode cX2_run 283 = .ok (.iaload, 1) := by decide +kernel
theorem dX2_run_284 : decode cX2_run 284 = .ok (.i2l, 1) := by decide +kernel
theorem dX2_run_285 : decode cX2_run 285 = .ok (.lstore 10, 2) := by decide +kernel
theorem dX2_run_287 : decode cX2_run 287 = .ok (.iload 6, 2) := by decide +kernel
theorem dX2_run_289 : decode cX2_run 289 = .ok (.tableswitch 129 3 9 #[43, 53, 63, 73, 83, 93, 111], 43) := by decide +kernel
theorem dX2_run_332 : decode cX2_run 332 = .ok (.lload 10, 2) := by decide +kernel
theorem dX2_run_334 : decode cX2_run 334 = .ok (.lload 8, 2) := by decide +kernel
theorem dX2_run_336 : decode cX2_run 336 = .ok (.ladd, 1) := by decide +kernel
theorem dX2_run_337 : decode cX2_run 337 = .ok (.lstore 12, 2) := by decide +kernel
theorem dX2_run_339 : decode cX2_run 339 = .ok (.goto 94, 3) := by decide +kernel
theorem dX2_run_342 : decode cX2_run 342 = .ok (.lload 10, 2) := by decide +kernel
theorem dX2_run_344 : decode cX2_run 344 = .ok (.lload 8, 2) := by decide +kernel
theorem dX2_run_346 : decode cX2_run 346 = .ok (.lsub, 1) := by decide +kernel
theorem dX2_run_347 : decode cX2_run 347 = .ok (.lstore 12, 2) := by decide +kernel
theorem dX2_run_349 : decode cX2_run 349 = .ok (.goto 84, 3) := by decide +kernel
theorem dX2_run_352 : decode cX2_run 352 = .ok (.lload 10, 2) := by decide +kernel
theorem dX2_run_354 : decode cX2_run 354 = .ok (.lload 8, 2) := by decide +kernel
theorem dX2_run_356 : decode cX2_run 356 = .ok (.lmul, 1) := by decide +kernel
theorem dX2_run_357 : decode cX2_run 357 = .ok (.lstore 12, 2) := by decide +kernel
theorem dX2_run_359 : decode cX2_run 359 = .ok (.goto 74, 3) := by decide +kernel
theorem dX2_run_362 : decode cX2_run 362 = .ok (.lload 10, 2) := by decide +kernel
theorem dX2_run_364 : decode cX2_run 364 = .ok (.lload 8, 2) := by decide +kernel
theorem dX2_run_366 : decode cX2_run 366 = .ok (.ldiv, 1) := by decide +kernel
theorem dX2_run_367 : decode cX2_run 367 = .ok (.lstore 12, 2) := by decide +kernel
theorem dX2_run_369 : decode cX2_run 369 = .ok (.goto 64, 3) := by decide +kernel
theorem dX2_run_372 : decode cX2_run 372 = .ok (.lload 10, 2) := by decide +kernel
theorem dX2_run_374 : decode cX2_run 374 = .ok (.lload 8, 2) := by decide +kernel
theorem dX2_run_376 : decode cX2_run 376 = .ok (.lrem, 1) := by decide +kernel
theorem dX2_run_377 : decode cX2_run 377 = .ok (.lstore 12, 2) := by decide +kernel
theorem dX2_run_379 : decode cX2_run 379 = .ok (.goto 54, 3) := by decide +kernel
theorem dX2_run_382 : decode cX2_run 382 = .ok (.lload 10, 2) := by decide +kernel
theorem dX2_run_384 : decode cX2_run 384 = .ok (.lload 8, 2) := by decide +kernel
theorem dX2_run_386 : decode cX2_run 386 = .ok (.lcmp, 1) := by decide +kernel
theorem dX2_run_387 : decode cX2_run 387 = .ok (.ifCond .ge 7, 3) := by decide +kernel
theorem dX2_run_390 : decode cX2_run 390 = .ok (.lconst 1, 1) := by decide +kernel
theorem dX2_run_391 : decode cX2_run 391 = .ok (.goto 4, 3) := by decide +kernel
theorem dX2_run_394 : decode cX2_run 394 = .ok (.lconst 0, 1) := by decide +kernel
theorem dX2_run_395 : decode cX2_run 395 = .ok (.lstore 12, 2) := by decide +kernel
theorem dX2_run_397 : decode cX2_run 397 = .ok (.goto 36, 3) := by decide +kernel
theorem dX2_run_400 : decode cX2_run 400 = .ok (.lload 10, 2) := by decide +kernel
theorem dX2_run_402 : decode cX2_run 402 = .ok (.lload 8, 2) := by decide +kernel
theorem dX2_run_404 : decode cX2_run 404 = .ok (.lcmp, 1) := by decide +kernel
theorem dX2_run_405 : decode cX2_run 405 = .ok (.ifCond .le 7, 3) := by decide +kernel
theorem dX2_run_408 : decode cX2_run 408 = .ok (.lconst 1, 1) := by decide +kernel
theorem dX2_run_409 : decode cX2_run 409 = .ok (.goto 4, 3) := by decide +kernel
theorem dX2_run_412 : decode cX2_run 412 = .ok (.lconst 0, 1) := by decide +kernel
theorem dX2_run_413 : decode cX2_run 413 = .ok (.lstore 12, 2) := by decide +kernel
theorem dX2_run_415 : decode cX2_run 415 = .ok (.goto 18, 3) := by decide +kernel
theorem dX2_run_418 : decode cX2_run 418 = .ok (.lload 10, 2) := by decide +kernel
theorem dX2_run_420 : decode cX2_run 420 = .ok (.lload 8, 2) := by decide +kernel
theorem dX2_run_422 : decode cX2_run 422 = .ok (.lcmp, 1) := by decide +kernel
theorem dX2_run_423 : decode cX2_run 423 = .ok (.ifCond .ne 7, 3) := by decide +kernel
theorem dX2_run_426 : decode cX2_run 426 = .ok (.lconst 1, 1) := by decide +kernel
theorem dX2_run_427 : decode cX2_run 427 = .ok (.goto 4, 3) := by decide +kernel
theorem dX2_run_430 : decode cX2_run 430 = .ok (.lconst 0, 1) := by decide +kernel
theorem dX2_run_431 : decode cX2_run 431 = .ok (.lstore 12, 2) := by decide +kernel
theorem dX2_run_433 : decode cX2_run 433 = .ok (.lload 12, 2) := by decide +kernel
theorem dX2_run_435 : decode cX2_run 435 = .ok (.ldc2_w 22, 3) := by decide +kernel
theorem dX2_run_438 : decode cX2_run 438 = .ok (.lcmp, 1) := by decide +kernel
theorem dX2_run_439 : decode cX2_run 439 = .ok (.ifCond .gt 33, 3) := by decide +kernel
theorem dX2_run_442 : decode cX2_run 442 = .ok (.lload 12, 2) := by decide +kernel
theorem dX2_run_444 : decode cX2_run 444 = .ok (.ldc2_w 24, 3) := by decide +kernel
theorem dX2_run_447 : decode cX2_run 447 = .ok (.lcmp, 1) := by decide +kernel
theorem dX2_run_448 : decode cX2_run 448 = .ok (.ifCond .ge 6, 3) := by decide +kernel
theorem dX2_run_451 : decode cX2_run 451 = .ok (.goto 21, 3) := by decide +kernel
theorem dX2_run_454 : decode cX2_run 454 = .ok (.aload_n 0, 1) := by decide +kernel
theorem dX2_run_455 : decode cX2_run 455 = .ok (.getfield 19, 3) := by decide +kernel
theorem dX2_run_458 : decode cX2_run 458 = .ok (.iload 4, 2) := by decide +kernel
theorem dX2_run_460 : decode cX2_run 460 = .ok (.iconst 1, 1) := by decide +kernel
theorem dX2_run_461 : decode cX2_run 461 = .ok (.isub, 1) := by decide +kernel
theorem dX2_run_462 : decode cX2_run 462 = .ok (.lload 12, 2) := by decide +kernel
theorem dX2_run_464 : decode cX2_run 464 = .ok (.l2i, 1) := by decide +kernel
theorem dX2_run_465 : decode cX2_run 465 = .ok (.iastore, 1) := by decide +kernel
theorem dX2_run_466 : decode cX2_run 466 = .ok (.iinc 5 1, 3) := by decide +kernel
theorem dX2_run_469 : decode cX2_run 469 = .ok (.goto (-456), 3) := by decide +kernel
theorem dX2_run_472 : decode cX2_run 472 = .ok (.aload_n 0, 1) := by decide +kernel
theorem dX2_run_473 : decode cX2_run 473 = .ok (.iconst 1, 1) := by decide +kernel
theorem dX2_run_474 : decode cX2_run 474 = .ok (.putfield 15, 3) := by decide +kernel
theorem dX2_run_477 : decode cX2_run 477 = .ok (.iconst 0, 1) := by decide +kernel
theorem dX2_run_478 : decode cX2_run 478 = .ok (.ireturn, 1) := by decide +kernel
set_option maxRecDepth 20000 in
theorem T_X2_run_13 {Q : Option Value → ah_T → Prop} {h : ah_T} (hs : Sh h) (a1 : Nat) (x3 : Int32) (x4 : Int32) (x5 : Int32) (hk_a1 : ah_k h a1 = 14) (ht : ((1000 ≤ x5 → Wp mX2_run Q 0 0 472 [some (.ref 26), none, none, none, none, none, none, none, none, none, none, none, none, none] [] h) ∧ (¬ 1000 ≤ x5 → ((x3 < 0 → Wp mX2_run Q 0 0 472 [some (.ref 26), none, none, none, none, none, none, none, none, none, none, none, none, none] [] h) ∧ (¬ x3 < 0 → (((Int32.ofNat (ah_n h a1)) ≤ x3 → Wp mX2_run Q 0 0 472 [some (.ref 26), none, none, none, none, none, none, none, none, none, none, none, none, none] [] h) ∧ (¬ (Int32.ofNat (ah_n h a1)) ≤ x3 → (vp_in x3 (ah_n h a1)) ∧ (vp_in x3 (ah_n h a1)) ∧ ((((ah_i h a1 (Int32.toNatClampNeg x3)) &&& 31) = 1 → Wp mX2_run Q 0 0 61 [some (.ref 26), some (.ref a1), none, some (.int (x3 + 1)), some (.int x4), some (.int x5), some (.int ((ah_i h a1 (Int32.toNatClampNeg x3)) &&& 31)), some (.int ((ah_i h a1 (Int32.toNatClampNeg x3)) >>> (5 &&& 31))), none, none, none, none, none, none] [] h) ∧ (¬ ((ah_i h a1 (Int32.toNatClampNeg x3)) &&& 31) = 1 → ((¬ ((ah_i h a1 (Int32.toNatClampNeg x3)) &&& 31) = 2 → ((x4 = 0 → Wp mX2_run Q 0 0 125 [some (.ref 26), none, none, none, some (.int x4), none, none, none, none, none, none, none, none, none] [] h) ∧ (¬ x4 = 0 → ((¬ ((ah_i h a1 (Int32.toNatClampNeg x3)) &&& 31) = 0 → ((¬ ((ah_i h a1 (Int32.toNatClampNeg x3)) &&& 31) = 11 → ((((ah_i h a1 (Int32.toNatClampNeg x3)) &&& 31) = 12 → Wp mX2_run Q 0 0 186 [some (.ref 26), some (.ref a1), none, some (.int (x3 + 1)), some (.int x4), some (.int x5), some (.int ((ah_i h a1 (Int32.toNatClampNeg x3)) &&& 31)), some (.int ((ah_i h a1 (Int32.toNatClampNeg x3)) >>> (5 &&& 31))), none, none, none, none, none, none] [] h) ∧ (¬ ((ah_i h a1 (Int32.toNatClampNeg x3)) &&& 31) = 12 → ((¬ ((ah_i h a1 (Int32.toNatClampNeg x3)) &&& 31) = 13 → (vp_in (x4 - 1) (ah_n h 28)) ∧ ((x4 < 2 → Wp mX2_run Q 0 0 472 [some (.ref 26), none, none, none, none, none, none, none, none, none, none, none, none, none] [] h) ∧ (¬ x4 < 2 → ((¬ (lg_cmp ((ah_i h 28 (Int32.toNatClampNeg (x4 - 1)))).toInt64 (0 : Int64)) = 0 → Wp mX2_run Q 0 0 272 [some (.ref 26), some (.ref a1), none, some (.int (x3 + 1)), some (.int x4), some (.int x5), some (.int ((ah_i h a1 (Int32.toNatClampNeg x3)) &&& 31)), none, some (.long (((ah_i h 28 (Int32.toNatClampNeg (x4 - 1)))).toInt64)), none, none, none, none, none] [] h) ∧ ((lg_cmp ((ah_i h 28 (Int32.toNatClampNeg (x4 - 1)))).toInt64 (0 : Int64)) = 0 → ((((ah_i h a1 (Int32.toNatClampNeg x3)) &&& 31) = 6 → Wp mX2_run Q 0 0 472 [some (.ref 26), none, none, none, none, none, none, none, none, none, none, none, none, none] [] h) ∧ (¬ ((ah_i h a1 (Int32.toNatClampNeg x3)) &&& 31) = 6 → ((¬ ((ah_i h a1 (Int32.toNatClampNeg x3)) &&& 31) = 7 → Wp mX2_run Q 0 0 272 [some (.ref 26), some (.ref a1), none, some (.int (x3 + 1)), some (.int x4), some (.int x5), some (.int ((ah_i h a1 (Int32.toNatClampNeg x3)) &&& 31)), none, some (.long (((ah_i h 28 (Int32.toNatClampNeg (x4 - 1)))).toInt64)), none, none, none, none, none] [] h) ∧ (((ah_i h a1 (Int32.toNatClampNeg x3)) &&& 31) = 7 → Wp mX2_run Q 0 0 472 [some (.ref 26), none, none, none, none, none, none, none, none, none, none, none, none, none] [] h))))))))) ∧ (((ah_i h a1 (Int32.toNatClampNeg x3)) &&& 31) = 13 → Wp mX2_run Q 0 0 186 [some (.ref 26), some (.ref a1), none, some (.int (x3 + 1)), some (.int x4), some (.int x5), some (.int ((ah_i h a1 (Int32.toNatClampNeg x3)) &&& 31)), some (.int ((ah_i h a1 (Int32.toNatClampNeg x3)) >>> (5 &&& 31))), none, none, none, none, none, none] [] h))))) ∧ (((ah_i h a1 (Int32.toNatClampNeg x3)) &&& 31) = 11 → (vp_in (x4 - 1) (ah_n h 28)) ∧ (vp_in (x4 - 1) (ah_n h 28)) ∧ (∀ h24, h24 = ah_si h 28 (Int32.toNatClampNeg (x4 - 1)) (1 - (ah_i h 28 (Int32.toNatClampNeg (x4 - 1)))) → Wp mX2_run Q 0 0 466 [some (.ref 26), some (.ref a1), none, some (.int (x3 + 1)), some (.int x4), some (.int x5), none, none, none, none, none, none, none, none] [] h24)))) ∧ (((ah_i h a1 (Int32.toNatClampNeg x3)) &&& 31) = 0 → Wp mX2_run Q 0 0 125 [some (.ref 26), none, none, none, some (.int x4), none, none, none, none, none, none, none, none, none] [] h))))) ∧ (((ah_i h a1 (Int32.toNatClampNeg x3)) &&& 31) = 2 → Wp mX2_run Q 0 0 61 [some (.ref 26), some (.ref a1), none, some (.int (x3 + 1)), some (.int x4), some (.int x5), some (.int ((ah_i h a1 (Int32.toNatClampNeg x3)) &&& 31)), some (.int ((ah_i h a1 (Int32.toNatClampNeg x3)) >>> (5 &&& 31))), none, none, none, none, none, none] [] h))))))))))) : Wp mX2_run Q 0 0 13 [some (.ref 26), some (.ref a1), none, some (.int x3), some (.int x4), some (.int x5), none, none, none, none, none, none, none, none] [] h := by
  refine ab_iload (i := 5) dX2_run_13 rfl ?_
  refine ab_sipush (v := 1000) dX2_run_15 (by decide) ?_
  refine ab_icmp_ge (tgt := 472) dX2_run_18 (by decide) (fun c5 => ?_) (fun c5 => ?_)
  · have ht := ht.1 c5
    exact Wp.fewer (L' := [some (.ref 26), none, none, none, none, none, none, none, none, none, none, none, none, none]) (show ab_leL _ _ from ⟨rfl, trivial⟩) ht
  · have ht := ht.2 c5
    refine ab_iload_n (i := 3) dX2_run_21 rfl rfl ?_
    refine ab_if_lt (tgt := 472) dX2_run_22 (by decide) (fun c6 => ?_) (fun c6 => ?_)
    · have ht := ht.1 c6
      exact Wp.fewer (L' := [some (.ref 26), none, none, none, none, none, none, none, none, none, none, none, none, none]) (show ab_leL _ _ from ⟨rfl, trivial⟩) ht
    · have ht := ht.2 c6
      refine ab_iload_n (i := 3) dX2_run_25 rfl rfl ?_
      refine ab_aload_n (i := 1) dX2_run_26 rfl rfl ?_
      refine ab_alen 14 (by decide) hk_a1 rfl dX2_run_27 ?_
      refine ab_icmp_ge (tgt := 472) dX2_run_28 (by decide) (fun c7 => ?_) (fun c7 => ?_)
      · have ht := ht.1 c7
        exact Wp.fewer (L' := [some (.ref 26), none, none, none, none, none, none, none, none, none, none, none, none, none]) (show ab_leL _ _ from ⟨rfl, trivial⟩) ht
      · have ht := ht.2 c7
        refine ab_aload_n (i := 1) dX2_run_31 rfl rfl ?_
        refine ab_iload_n (i := 3) dX2_run_32 rfl rfl ?_
        obtain ⟨hc8, ht⟩ := ht
        refine ab_iald hk_a1 hc8 dX2_run_33 ?_
        refine ab_bipush (v := 31) dX2_run_34 (by decide) ?_
        refine ab_iand dX2_run_36 ?_
        refine ab_istore (i := 6) (L' := [some (.ref 26), some (.ref a1), none, some (.int x3), some (.int x4), some (.int x5), some (.int ((ah_i h a1 (Int32.toNatClampNeg x3)) &&& 31)), none, none, none, none, none, none, none]) dX2_run_37 (by exact (Nat.le_of_ble_eq_true rfl)) rfl rfl ?_
        refine ab_aload_n (i := 1) dX2_run_39 rfl rfl ?_
        refine ab_iload_n (i := 3) dX2_run_40 rfl rfl ?_
        obtain ⟨hc9, ht⟩ := ht
        refine ab_iald hk_a1 hc9 dX2_run_41 ?_
        refine ab_iconst (v := 5) dX2_run_42 (by decide) ?_
        refine ab_ishr dX2_run_43 ?_
        refine ab_istore (i := 7) (L' := [some (.ref 26), some (.ref a1), none, some (.int x3), some (.int x4), some (.int x5), some (.int ((ah_i h a1 (Int32.toNatClampNeg x3)) &&& 31)), some (.int ((ah_i h a1 (Int32.toNatClampNeg x3)) >>> (5 &&& 31))), none, none, none, none, none, none]) dX2_run_44 (by exact (Nat.le_of_ble_eq_true rfl)) rfl rfl ?_
        refine ab_iinc (i := 3) (x := x3) (v := (x3 + 1)) (L' := [some (.ref 26), some (.ref a1), none, some (.int (x3 + 1)), some (.int x4), some (.int x5), some (.int ((ah_i h a1 (Int32.toNatClampNeg x3)) &&& 31)), some (.int ((ah_i h a1 (Int32.toNatClampNeg x3)) >>> (5 &&& 31))), none, none, none, none, none, none]) dX2_run_46 rfl rfl (by exact (Nat.le_of_ble_eq_true rfl)) rfl rfl ?_
        refine ab_iload (i := 6) dX2_run_49 rfl ?_
        refine ab_iconst (v := 1) dX2_run_51 (by decide) ?_
        refine ab_icmp_eq (tgt := 61) dX2_run_52 (by decide) (fun c10 => ?_) (fun c10 => ?_)
        · have ht := ht.1 c10
          exact Wp.fewer (L' := [some (.ref 26), some (.ref a1), none, some (.int (x3 + 1)), some (.int x4), some (.int x5), some (.int ((ah_i h a1 (Int32.toNatClampNeg x3)) &&& 31)), some (.int ((ah_i h a1 (Int32.toNatClampNeg x3)) >>> (5 &&& 31))), none, none, none, none, none, none]) (show ab_leL _ _ from ⟨rfl, ⟨rfl, ⟨rfl, ⟨rfl, ⟨rfl, ⟨rfl, ⟨rfl, trivial⟩⟩⟩⟩⟩⟩⟩) ht
        · have ht := ht.2 c10
          refine ab_iload (i := 6) dX2_run_55 rfl ?_
          refine ab_iconst (v := 2) dX2_run_57 (by decide) ?_
          refine ab_icmp_ne (tgt := 115) dX2_run_58 (by decide) (fun c11 => ?_) (fun c11 => ?_)
          · have ht := ht.1 c11
            refine ab_iload (i := 4) dX2_run_115 rfl ?_
            refine ab_if_eq (tgt := 125) dX2_run_117 (by decide) (fun c12 => ?_) (fun c12 => ?_)
            · have ht := ht.1 c12
              exact Wp.fewer (L' := [some (.ref 26), none, none, none, some (.int x4), none, none, none, none, none, none, none, none, none]) (show ab_leL _ _ from ⟨rfl, ⟨rfl, trivial⟩⟩) ht
            · have ht := ht.2 c12
              refine ab_iload (i := 6) dX2_run_120 rfl ?_
              refine ab_if_ne (tgt := 142) dX2_run_122 (by decide) (fun c13 => ?_) (fun c13 => ?_)
              · have ht := ht.1 c13
                refine ab_iload (i := 6) dX2_run_142 rfl ?_
                refine ab_bipush (v := 11) dX2_run_144 (by decide) ?_
                refine ab_icmp_ne (tgt := 172) dX2_run_146 (by decide) (fun c14 => ?_) (fun c14 => ?_)
                · have ht := ht.1 c14
                  refine ab_iload (i := 6) dX2_run_172 rfl ?_
                  refine ab_bipush (v := 12) dX2_run_174 (by decide) ?_
                  refine ab_icmp_eq (tgt := 186) dX2_run_176 (by decide) (fun c15 => ?_) (fun c15 => ?_)
                  · have ht := ht.1 c15
                    exact Wp.fewer (L' := [some (.ref 26), some (.ref a1), none, some (.int (x3 + 1)), some (.int x4), some (.int x5), some (.int ((ah_i h a1 (Int32.toNatClampNeg x3)) &&& 31)), some (.int ((ah_i h a1 (Int32.toNatClampNeg x3)) >>> (5 &&& 31))), none, none, none, none, none, none]) (show ab_leL _ _ from ⟨rfl, ⟨rfl, ⟨rfl, ⟨rfl, ⟨rfl, ⟨rfl, ⟨rfl, trivial⟩⟩⟩⟩⟩⟩⟩) ht
                  · have ht := ht.2 c15
                    refine ab_iload (i := 6) dX2_run_179 rfl ?_
                    refine ab_bipush (v := 13) dX2_run_181 (by decide) ?_
                    refine ab_icmp_ne (tgt := 230) dX2_run_183 (by decide) (fun c16 => ?_) (fun c16 => ?_)
                    · have ht := ht.1 c16
                      refine ab_aload_n (i := 0) dX2_run_230 rfl rfl ?_
                      refine ab_getR (b := 28) f_X2_19 rfl (sh_k hs 26 2 (by decide) rfl) (sh_r hs 33 rfl) dX2_run_231 ?_
                      refine ab_iload (i := 4) dX2_run_234 rfl ?_
                      refine ab_iconst (v := 1) dX2_run_236 (by decide) ?_
                      refine ab_isub dX2_run_237 ?_
                      obtain ⟨hc17, ht⟩ := ht
                      refine ab_iald (sh_k hs 28 14 (by decide) rfl) hc17 dX2_run_238 ?_
                      refine ab_i2l dX2_run_239 ?_
                      refine ab_lstore (i := 8) (L' := [some (.ref 26), some (.ref a1), none, some (.int (x3 + 1)), some (.int x4), some (.int x5), some (.int ((ah_i h a1 (Int32.toNatClampNeg x3)) &&& 31)), some (.int ((ah_i h a1 (Int32.toNatClampNeg x3)) >>> (5 &&& 31))), some (.long (((ah_i h 28 (Int32.toNatClampNeg (x4 - 1)))).toInt64)), none, none, none, none, none]) dX2_run_240 (by exact (Nat.le_of_ble_eq_true rfl)) rfl rfl ?_
                      refine ab_iload (i := 4) dX2_run_242 rfl ?_
                      refine ab_iconst (v := 2) dX2_run_244 (by decide) ?_
                      refine ab_icmp_lt (tgt := 472) dX2_run_245 (by decide) (fun c18 => ?_) (fun c18 => ?_)
                      · have ht := ht.1 c18
                        exact Wp.fewer (L' := [some (.ref 26), none, none, none, none, none, none, none, none, none, none, none, none, none]) (show ab_leL _ _ from ⟨rfl, trivial⟩) ht
                      · have ht := ht.2 c18
                        refine ab_lload (i := 8) dX2_run_248 rfl ?_
                        refine ab_lconst (v := 0) dX2_run_250 (by decide) ?_
                        refine ab_lcmp dX2_run_251 ?_
                        refine ab_if_ne (tgt := 272) dX2_run_252 (by decide) (fun c19 => ?_) (fun c19 => ?_)
                        · have ht := ht.1 c19
                          exact Wp.fewer (L' := [some (.ref 26), some (.ref a1), none, some (.int (x3 + 1)), some (.int x4), some (.int x5), some (.int ((ah_i h a1 (Int32.toNatClampNeg x3)) &&& 31)), none, some (.long (((ah_i h 28 (Int32.toNatClampNeg (x4 - 1)))).toInt64)), none, none, none, none, none]) (show ab_leL _ _ from ⟨rfl, ⟨rfl, ⟨rfl, ⟨rfl, ⟨rfl, ⟨rfl, ⟨rfl, trivial⟩⟩⟩⟩⟩⟩⟩) ht
                        · have ht := ht.2 c19
                          refine ab_iload (i := 6) dX2_run_255 rfl ?_
                          refine ab_bipush (v := 6) dX2_run_257 (by decide) ?_
                          refine ab_icmp_eq (tgt := 472) dX2_run_259 (by decide) (fun c20 => ?_) (fun c20 => ?_)
                          · have ht := ht.1 c20
                            exact Wp.fewer (L' := [some (.ref 26), none, none, none, none, none, none, none, none, none, none, none, none, none]) (show ab_leL _ _ from ⟨rfl, trivial⟩) ht
                          · have ht := ht.2 c20
                            refine ab_iload (i := 6) dX2_run_262 rfl ?_
                            refine ab_bipush (v := 7) dX2_run_264 (by decide) ?_
                            refine ab_icmp_ne (tgt := 272) dX2_run_266 (by decide) (fun c21 => ?_) (fun c21 => ?_)
                            · have ht := ht.1 c21
                              exact Wp.fewer (L' := [some (.ref 26), some (.ref a1), none, some (.int (x3 + 1)), some (.int x4), some (.int x5), some (.int ((ah_i h a1 (Int32.toNatClampNeg x3)) &&& 31)), none, some (.long (((ah_i h 28 (Int32.toNatClampNeg (x4 - 1)))).toInt64)), none, none, none, none, none]) (show ab_leL _ _ from ⟨rfl, ⟨rfl, ⟨rfl, ⟨rfl, ⟨rfl, ⟨rfl, ⟨rfl, trivial⟩⟩⟩⟩⟩⟩⟩) ht
                            · have ht := ht.2 c21
                              refine ab_goto (tgt := 472) dX2_run_269 (by decide) ?_
                              exact Wp.fewer (L' := [some (.ref 26), none, none, none, none, none, none, none, none, none, none, none, none, none]) (show ab_leL _ _ from ⟨rfl, trivial⟩) ht
                    · have ht := ht.2 c16
                      exact Wp.fewer (L' := [some (.ref 26), some (.ref a1), none, some (.int (x3 + 1)), some (.int x4), some (.int x5), some (.int ((ah_i h a1 (Int32.toNatClampNeg x3)) &&& 31)), some (.int ((ah_i h a1 (Int32.toNatClampNeg x3)) >>> (5 &&& 31))), none, none, none, none, none, none]) (show ab_leL _ _ from ⟨rfl, ⟨rfl, ⟨rfl, ⟨rfl, ⟨rfl, ⟨rfl, ⟨rfl, trivial⟩⟩⟩⟩⟩⟩⟩) ht
                · have ht := ht.2 c14
                  refine ab_aload_n (i := 0) dX2_run_149 rfl rfl ?_
                  refine ab_getR (b := 28) f_X2_19 rfl (sh_k hs 26 2 (by decide) rfl) (sh_r hs 33 rfl) dX2_run_150 ?_
                  refine ab_iload (i := 4) dX2_run_153 rfl ?_
                  refine ab_iconst (v := 1) dX2_run_155 (by decide) ?_
                  refine ab_isub dX2_run_156 ?_
                  refine ab_iconst (v := 1) dX2_run_157 (by decide) ?_
                  refine ab_aload_n (i := 0) dX2_run_158 rfl rfl ?_
                  refine ab_getR (b := 28) f_X2_19 rfl (sh_k hs 26 2 (by decide) rfl) (sh_r hs 33 rfl) dX2_run_159 ?_
                  refine ab_iload (i := 4) dX2_run_162 rfl ?_
                  refine ab_iconst (v := 1) dX2_run_164 (by decide) ?_
                  refine ab_isub dX2_run_165 ?_
                  obtain ⟨hc22, ht⟩ := ht
                  refine ab_iald (sh_k hs 28 14 (by decide) rfl) hc22 dX2_run_166 ?_
                  refine ab_isub dX2_run_167 ?_
                  obtain ⟨hc23, ht⟩ := ht
                  refine ab_iast (sh_k hs 28 14 (by decide) rfl) hc23 dX2_run_168 ?_
                  refine Wp.nm fun h24 e25 => ?_
                  have ht := ht h24 e25
                  have hs26 : Sh h24 := by rw [e25]; exact sh_si hs
                  have hk27 : ah_k h24 a1 = 14 := by rw [e25]; exact hk_a1
                  refine ab_goto (tgt := 466) dX2_run_169 (by decide) ?_
                  exact Wp.fewer (L' := [some (.ref 26), some (.ref a1), none, some (.int (x3 + 1)), some (.int x4), some (.int x5), none, none, none, none, none, none, none, none]) (show ab_leL _ _ from ⟨rfl, ⟨rfl, ⟨rfl, ⟨rfl, ⟨rfl, trivial⟩⟩⟩⟩⟩) ht
              · have ht := ht.2 c13
                exact Wp.fewer (L' := [some (.ref 26), none, none, none, some (.int x4), none, none, none, none, none, none, none, none, none]) (show ab_leL _ _ from ⟨rfl, ⟨rfl, trivial⟩⟩) ht
          · have ht := ht.2 c11
            exact Wp.fewer (L' := [some (.ref 26), some (.ref a1), none, some (.int (x3 + 1)), some (.int x4), some (.int x5), some (.int ((ah_i h a1 (Int32.toNatClampNeg x3)) &&& 31)), some (.int ((ah_i h a1 (Int32.toNatClampNeg x3)) >>> (5 &&& 31))), none, none, none, none, none, none]) (show ab_leL _ _ from ⟨rfl, ⟨rfl, ⟨rfl, ⟨rfl, ⟨rfl, ⟨rfl, ⟨rfl, trivial⟩⟩⟩⟩⟩⟩⟩) ht
set_option maxRecDepth 20000 in
theorem T_X2_run_472 {Q : Option Value → ah_T → Prop} {h : ah_T} (hs : Sh h)  (ht : (∀ h28, h28 = ah_si h 26 1 1 → Q (some (.int 0)) h28)) : Wp mX2_run Q 0 0 472 [some (.ref 26), none, none, none, none, none, none, none, none, none, none, none, none, none] [] h := by
  refine ab_aload_n (i := 0) dX2_run_472 rfl rfl ?_
  refine ab_iconst (v := 1) dX2_run_473 (by decide) ?_
  refine ab_putI f_X2_15 (Or.inl rfl) rfl (sh_k hs 26 2 (by decide) rfl) rfl rfl dX2_run_474 ?_
  refine Wp.nm fun h28 e29 => ?_
  have ht := ht h28 e29
  have hs30 : Sh h28 := by rw [e29]; exact sh_si hs
  refine ab_iconst (v := 0) dX2_run_477 (by decide) ?_
  exact ab_iret rfl dX2_run_478 (Nat.le_of_ble_eq_true rfl) (Nat.le_of_ble_eq_true rfl) ht
set_option maxRecDepth 20000 in
theorem T_X2_run_61 {Q : Option Value → ah_T → Prop} {h : ah_T} (hs : Sh h) (a1 : Nat) (x3 : Int32) (x4 : Int32) (x5 : Int32) (x6 : Int32) (x7 : Int32) (hk_a1 : ah_k h a1 = 14) (ht : ((120 ≤ x4 → Wp mX2_run Q 0 0 472 [some (.ref 26), none, none, none, none, none, none, none, none, none, none, none, none, none] [] h) ∧ (¬ 120 ≤ x4 → ((¬ x6 = 2 → Wp mX2_run Q 0 0 84 [some (.ref 26), some (.ref a1), none, some (.int x3), some (.int x4), some (.int x5), some (.int x6), some (.int x7), none, none, none, none, none, none] [] h) ∧ (x6 = 2 → ((x7 < 13 → Wp mX2_run Q 0 0 84 [some (.ref 26), some (.ref a1), none, some (.int x3), some (.int x4), some (.int x5), some (.int x6), some (.int x7), none, none, none, none, none, none] [] h) ∧ (¬ x7 < 13 → Wp mX2_run Q 0 0 472 [some (.ref 26), none, none, none, none, none, none, none, none, none, none, none, none, none] [] h))))))) : Wp mX2_run Q 0 0 61 [some (.ref 26), some (.ref a1), none, some (.int x3), some (.int x4), some (.int x5), some (.int x6), some (.int x7), none, none, none, none, none, none] [] h := by
  refine ab_iload (i := 4) dX2_run_61 rfl ?_
  refine ab_bipush (v := 120) dX2_run_63 (by decide) ?_
  refine ab_icmp_ge (tgt := 472) dX2_run_65 (by decide) (fun c31 => ?_) (fun c31 => ?_)
  · have ht := ht.1 c31
    exact Wp.fewer (L' := [some (.ref 26), none, none, none, none, none, none, none, none, none, none, none, none, none]) (show ab_leL _ _ from ⟨rfl, trivial⟩) ht
  · have ht := ht.2 c31
    refine ab_iload (i := 6) dX2_run_68 rfl ?_
    refine ab_iconst (v := 2) dX2_run_70 (by decide) ?_
    refine ab_icmp_ne (tgt := 84) dX2_run_71 (by decide) (fun c32 => ?_) (fun c32 => ?_)
    · have ht := ht.1 c32
      exact Wp.fewer (L' := [some (.ref 26), some (.ref a1), none, some (.int x3), some (.int x4), some (.int x5), some (.int x6), some (.int x7), none, none, none, none, none, none]) (show ab_leL _ _ from ⟨rfl, ⟨rfl, ⟨rfl, ⟨rfl, ⟨rfl, ⟨rfl, ⟨rfl, trivial⟩⟩⟩⟩⟩⟩⟩) ht
    · have ht := ht.2 c32
      refine ab_iload (i := 7) dX2_run_74 rfl ?_
      refine ab_bipush (v := 13) dX2_run_76 (by decide) ?_
      refine ab_icmp_lt (tgt := 84) dX2_run_78 (by decide) (fun c33 => ?_) (fun c33 => ?_)
      · have ht := ht.1 c33
        exact Wp.fewer (L' := [some (.ref 26), some (.ref a1), none, some (.int x3), some (.int x4), some (.int x5), some (.int x6), some (.int x7), none, none, none, none, none, none]) (show ab_leL _ _ from ⟨rfl, ⟨rfl, ⟨rfl, ⟨rfl, ⟨rfl, ⟨rfl, ⟨rfl, trivial⟩⟩⟩⟩⟩⟩⟩) ht
      · have ht := ht.2 c33
        refine ab_goto (tgt := 472) dX2_run_81 (by decide) ?_
        exact Wp.fewer (L' := [some (.ref 26), none, none, none, none, none, none, none, none, none, none, none, none, none]) (show ab_leL _ _ from ⟨rfl, trivial⟩) ht
set_option maxRecDepth 20000 in
theorem T_X2_run_125 {Q : Option Value → ah_T → Prop} {h : ah_T} (hs : Sh h) (x4 : Int32) (ht : ((¬ x4 = 1 → Q (some (.int 0)) h) ∧ (x4 = 1 → Q (some (.int (ah_i h 28 (Int32.toNatClampNeg 0)))) h))) : Wp mX2_run Q 0 0 125 [some (.ref 26), none, none, none, some (.int x4), none, none, none, none, none, none, none, none, none] [] h := by
  refine ab_iload (i := 4) dX2_run_125 rfl ?_
  refine ab_iconst (v := 1) dX2_run_127 (by decide) ?_
  refine ab_icmp_ne (tgt := 140) dX2_run_128 (by decide) (fun c34 => ?_) (fun c34 => ?_)
  · have ht := ht.1 c34
    refine ab_iconst (v := 0) dX2_run_140 (by decide) ?_
    exact ab_iret rfl dX2_run_141 (Nat.le_of_ble_eq_true rfl) (Nat.le_of_ble_eq_true rfl) ht
  · have ht := ht.2 c34
    refine ab_aload_n (i := 0) dX2_run_131 rfl rfl ?_
    refine ab_getR (b := 28) f_X2_19 rfl (sh_k hs 26 2 (by decide) rfl) (sh_r hs 33 rfl) dX2_run_132 ?_
    refine ab_iconst (v := 0) dX2_run_135 (by decide) ?_
    refine ab_iald (sh_k hs 28 14 (by decide) rfl) (sh_in hs 28 120 (by decide) (by decide) rfl (by unfold vp_in; decide)) dX2_run_136 ?_
    refine ab_goto (tgt := 141) dX2_run_137 (by decide) ?_
    exact ab_iret rfl dX2_run_141 (Nat.le_of_ble_eq_true rfl) (Nat.le_of_ble_eq_true rfl) ht
set_option maxRecDepth 20000 in
theorem T_X2_run_186 {Q : Option Value → ah_T → Prop} {h : ah_T} (hs : Sh h) (a1 : Nat) (x3 : Int32) (x4 : Int32) (x5 : Int32) (x6 : Int32) (x7 : Int32) (hk_a1 : ah_k h a1 = 14) (ht : (vp_in (x4 - 1) (ah_n h 28)) ∧ (((ah_i h 28 (Int32.toNatClampNeg (x4 - 1))) = 0 → ((¬ x6 = 12 → Wp mX2_run Q 0 0 466 [some (.ref 26), some (.ref a1), none, some (.int x7), some (.int x4), some (.int x5), none, none, none, none, none, none, none, none] [] h) ∧ (x6 = 12 → Wp mX2_run Q 0 0 466 [some (.ref 26), some (.ref a1), none, some (.int x3), some (.int (x4 + (-1))), some (.int x5), none, none, none, none, none, none, none, none] [] h))) ∧ (¬ (ah_i h 28 (Int32.toNatClampNeg (x4 - 1))) = 0 → ((¬ x6 = 12 → Wp mX2_run Q 0 0 466 [some (.ref 26), some (.ref a1), none, some (.int x3), some (.int (x4 + (-1))), some (.int x5), none, none, none, none, none, none, none, none] [] h) ∧ (x6 = 12 → Wp mX2_run Q 0 0 466 [some (.ref 26), some (.ref a1), none, some (.int x7), some (.int x4), some (.int x5), none, none, none, none, none, none, none, none] [] h))))) : Wp mX2_run Q 0 0 186 [some (.ref 26), some (.ref a1), none, some (.int x3), some (.int x4), some (.int x5), some (.int x6), some (.int x7), none, none, none, none, none, none] [] h := by
  refine ab_aload_n (i := 0) dX2_run_186 rfl rfl ?_
  refine ab_getR (b := 28) f_X2_19 rfl (sh_k hs 26 2 (by decide) rfl) (sh_r hs 33 rfl) dX2_run_187 ?_
  refine ab_iload (i := 4) dX2_run_190 rfl ?_
  refine ab_iconst (v := 1) dX2_run_192 (by decide) ?_
  refine ab_isub dX2_run_193 ?_
  obtain ⟨hc35, ht⟩ := ht
  refine ab_iald (sh_k hs 28 14 (by decide) rfl) hc35 dX2_run_194 ?_
  refine ab_if_eq (tgt := 202) dX2_run_195 (by decide) (fun c36 => ?_) (fun c36 => ?_)
  · have ht := ht.1 c36
    refine ab_iconst (v := 0) dX2_run_202 (by decide) ?_
    refine ab_iload (i := 6) dX2_run_203 rfl ?_
    refine ab_bipush (v := 12) dX2_run_205 (by decide) ?_
    refine ab_icmp_ne (tgt := 214) dX2_run_207 (by decide) (fun c37 => ?_) (fun c37 => ?_)
    · have ht := ht.1 c37
      refine ab_iconst (v := 0) dX2_run_214 (by decide) ?_
      refine ab_icmp_ne (tgt := 224) dX2_run_215 (by decide) (fun q => absurd (by decide) q) (fun _ => ?_)
      refine ab_iload (i := 7) dX2_run_218 rfl ?_
      refine ab_istore_n (i := 3) (L' := [some (.ref 26), some (.ref a1), none, some (.int x7), some (.int x4), some (.int x5), some (.int x6), some (.int x7), none, none, none, none, none, none]) dX2_run_220 rfl (by exact (Nat.le_of_ble_eq_true rfl)) rfl rfl ?_
      refine ab_goto (tgt := 466) dX2_run_221 (by decide) ?_
      exact Wp.fewer (L' := [some (.ref 26), some (.ref a1), none, some (.int x7), some (.int x4), some (.int x5), none, none, none, none, none, none, none, none]) (show ab_leL _ _ from ⟨rfl, ⟨rfl, ⟨rfl, ⟨rfl, ⟨rfl, trivial⟩⟩⟩⟩⟩) ht
    · have ht := ht.2 c37
      refine ab_iconst (v := 1) dX2_run_210 (by decide) ?_
      refine ab_goto (tgt := 215) dX2_run_211 (by decide) ?_
      refine ab_icmp_ne (tgt := 224) dX2_run_215 (by decide) (fun _ => ?_) (fun q => absurd q (by decide))
      refine ab_iinc (i := 4) (x := x4) (v := (x4 + (-1))) (L' := [some (.ref 26), some (.ref a1), none, some (.int x3), some (.int (x4 + (-1))), some (.int x5), some (.int x6), some (.int x7), none, none, none, none, none, none]) dX2_run_224 rfl rfl (by exact (Nat.le_of_ble_eq_true rfl)) rfl rfl ?_
      refine ab_goto (tgt := 466) dX2_run_227 (by decide) ?_
      exact Wp.fewer (L' := [some (.ref 26), some (.ref a1), none, some (.int x3), some (.int (x4 + (-1))), some (.int x5), none, none, none, none, none, none, none, none]) (show ab_leL _ _ from ⟨rfl, ⟨rfl, ⟨rfl, ⟨rfl, ⟨rfl, trivial⟩⟩⟩⟩⟩) ht
  · have ht := ht.2 c36
    refine ab_iconst (v := 1) dX2_run_198 (by decide) ?_
    refine ab_goto (tgt := 203) dX2_run_199 (by decide) ?_
    refine ab_iload (i := 6) dX2_run_203 rfl ?_
    refine ab_bipush (v := 12) dX2_run_205 (by decide) ?_
    refine ab_icmp_ne (tgt := 214) dX2_run_207 (by decide) (fun c38 => ?_) (fun c38 => ?_)
    · have ht := ht.1 c38
      refine ab_iconst (v := 0) dX2_run_214 (by decide) ?_
      refine ab_icmp_ne (tgt := 224) dX2_run_215 (by decide) (fun _ => ?_) (fun q => absurd q (by decide))
      refine ab_iinc (i := 4) (x := x4) (v := (x4 + (-1))) (L' := [some (.ref 26), some (.ref a1), none, some (.int x3), some (.int (x4 + (-1))), some (.int x5), some (.int x6), some (.int x7), none, none, none, none, none, none]) dX2_run_224 rfl rfl (by exact (Nat.le_of_ble_eq_true rfl)) rfl rfl ?_
      refine ab_goto (tgt := 466) dX2_run_227 (by decide) ?_
      exact Wp.fewer (L' := [some (.ref 26), some (.ref a1), none, some (.int x3), some (.int (x4 + (-1))), some (.int x5), none, none, none, none, none, none, none, none]) (show ab_leL _ _ from ⟨rfl, ⟨rfl, ⟨rfl, ⟨rfl, ⟨rfl, trivial⟩⟩⟩⟩⟩) ht
    · have ht := ht.2 c38
      refine ab_iconst (v := 1) dX2_run_210 (by decide) ?_
      refine ab_goto (tgt := 215) dX2_run_211 (by decide) ?_
      refine ab_icmp_ne (tgt := 224) dX2_run_215 (by decide) (fun q => absurd (by decide) q) (fun _ => ?_)
      refine ab_iload (i := 7) dX2_run_218 rfl ?_
      refine ab_istore_n (i := 3) (L' := [some (.ref 26), some (.ref a1), none, some (.int x7), some (.int x4), some (.int x5), some (.int x6), some (.int x7), none, none, none, none, none, none]) dX2_run_220 rfl (by exact (Nat.le_of_ble_eq_true rfl)) rfl rfl ?_
      refine ab_goto (tgt := 466) dX2_run_221 (by decide) ?_
      exact Wp.fewer (L' := [some (.ref 26), some (.ref a1), none, some (.int x7), some (.int x4), some (.int x5), none, none, none, none, none, none, none, none]) (show ab_leL _ _ from ⟨rfl, ⟨rfl, ⟨rfl, ⟨rfl, ⟨rfl, trivial⟩⟩⟩⟩⟩) ht
set_option maxRecDepth 20000 in
theorem T_X2_run_272 {Q : Option Value → ah_T → Prop} {h : ah_T} (hs : Sh h) (a1 : Nat) (x3 : Int32) (x4 : Int32) (x5 : Int32) (x6 : Int32) (x8 : Int64) (hk_a1 : ah_k h a1 = 14) (ht : (vp_in ((x4 + (-1)) - 1) (ah_n h 28)) ∧ ((x6 = 3 → Wp mX2_run Q 0 0 433 [some (.ref 26), some (.ref a1), none, some (.int x3), some (.int (x4 + (-1))), some (.int x5), none, none, none, none, none, none, some (.long (((ah_i h 28 (Int32.toNatClampNeg ((x4 + (-1)) - 1)))).toInt64 + x8)), none] [] h) ∧ (x6 = 4 → Wp mX2_run Q 0 0 433 [some (.ref 26), some (.ref a1), none, some (.int x3), some (.int (x4 + (-1))), some (.int x5), none, none, none, none, none, none, some (.long (((ah_i h 28 (Int32.toNatClampNeg ((x4 + (-1)) - 1)))).toInt64 - x8)), none] [] h) ∧ (x6 = 5 → Wp mX2_run Q 0 0 433 [some (.ref 26), some (.ref a1), none, some (.int x3), some (.int (x4 + (-1))), some (.int x5), none, none, none, none, none, none, some (.long (((ah_i h 28 (Int32.toNatClampNeg ((x4 + (-1)) - 1)))).toInt64 * x8)), none] [] h) ∧ (x6 = 6 → (¬ x8 = 0) ∧ Wp mX2_run Q 0 0 433 [some (.ref 26), some (.ref a1), none, some (.int x3), some (.int (x4 + (-1))), some (.int x5), none, none, none, none, none, none, some (.long (((ah_i h 28 (Int32.toNatClampNeg ((x4 + (-1)) - 1)))).toInt64 / x8)), none] [] h) ∧ (x6 = 7 → (¬ x8 = 0) ∧ Wp mX2_run Q 0 0 433 [some (.ref 26), some (.ref a1), none, some (.int x3), some (.int (x4 + (-1))), some (.int x5), none, none, none, none, none, none, some (.long (((ah_i h 28 (Int32.toNatClampNeg ((x4 + (-1)) - 1)))).toInt64 - ((ah_i h 28 (Int32.toNatClampNeg ((x4 + (-1)) - 1)))).toInt64 / x8 * x8)), none] [] h) ∧ (x6 = 8 → ((0 ≤ (lg_cmp ((ah_i h 28 (Int32.toNatClampNeg ((x4 + (-1)) - 1)))).toInt64 x8) → Wp mX2_run Q 0 0 433 [some (.ref 26), some (.ref a1), none, some (.int x3), some (.int (x4 + (-1))), some (.int x5), none, none, none, none, none, none, some (.long (0 : Int64)), none] [] h) ∧ (¬ 0 ≤ (lg_cmp ((ah_i h 28 (Int32.toNatClampNeg ((x4 + (-1)) - 1)))).toInt64 x8) → Wp mX2_run Q 0 0 433 [some (.ref 26), some (.ref a1), none, some (.int x3), some (.int (x4 + (-1))), some (.int x5), none, none, none, none, none, none, some (.long (1 : Int64)), none] [] h))) ∧ (x6 = 9 → (((lg_cmp ((ah_i h 28 (Int32.toNatClampNeg ((x4 + (-1)) - 1)))).toInt64 x8) ≤ 0 → Wp mX2_run Q 0 0 433 [some (.ref 26), some (.ref a1), none, some (.int x3), some (.int (x4 + (-1))), some (.int x5), none, none, none, none, none, none, some (.long (0 : Int64)), none] [] h) ∧ (¬ (lg_cmp ((ah_i h 28 (Int32.toNatClampNeg ((x4 + (-1)) - 1)))).toInt64 x8) ≤ 0 → Wp mX2_run Q 0 0 433 [some (.ref 26), some (.ref a1), none, some (.int x3), some (.int (x4 + (-1))), some (.int x5), none, none, none, none, none, none, some (.long (1 : Int64)), none] [] h))) ∧ (¬ x6 = 3 → ¬ x6 = 4 → ¬ x6 = 5 → ¬ x6 = 6 → ¬ x6 = 7 → ¬ x6 = 8 → ¬ x6 = 9 → ((¬ (lg_cmp ((ah_i h 28 (Int32.toNatClampNeg ((x4 + (-1)) - 1)))).toInt64 x8) = 0 → Wp mX2_run Q 0 0 433 [some (.ref 26), some (.ref a1), none, some (.int x3), some (.int (x4 + (-1))), some (.int x5), none, none, none, none, none, none, some (.long (0 : Int64)), none] [] h) ∧ ((lg_cmp ((ah_i h 28 (Int32.toNatClampNeg ((x4 + (-1)) - 1)))).toInt64 x8) = 0 → Wp mX2_run Q 0 0 433 [some (.ref 26), some (.ref a1), none, some (.int x3), some (.int (x4 + (-1))), some (.int x5), none, none, none, none, none, none, some (.long (1 : Int64)), none] [] h))))) : Wp mX2_run Q 0 0 272 [some (.ref 26), some (.ref a1), none, some (.int x3), some (.int x4), some (.int x5), some (.int x6), none, some (.long x8), none, none, none, none, none] [] h := by
  refine ab_iinc (i := 4) (x := x4) (v := (x4 + (-1))) (L' := [some (.ref 26), some (.ref a1), none, some (.int x3), some (.int (x4 + (-1))), some (.int x5), some (.int x6), none, some (.long x8), none, none, none, none, none]) dX2_run_272 rfl rfl (by exact (Nat.le_of_ble_eq_true rfl)) rfl rfl ?_
  refine ab_aload_n (i := 0) dX2_run_275 rfl rfl ?_
  refine ab_getR (b := 28) f_X2_19 rfl (sh_k hs 26 2 (by decide) rfl) (sh_r hs 33 rfl) dX2_run_276 ?_
  refine ab_iload (i := 4) dX2_run_279 rfl ?_
  refine ab_iconst (v := 1) dX2_run_281 (by decide) ?_
  refine ab_isub dX2_run_282 ?_
  obtain ⟨hc39, ht⟩ := ht
  refine ab_iald (sh_k hs 28 14 (by decide) rfl) hc39 dX2_run_283 ?_
  refine ab_i2l dX2_run_284 ?_
  refine ab_lstore (i := 10) (L' := [some (.ref 26), some (.ref a1), none, some (.int x3), some (.int (x4 + (-1))), some (.int x5), some (.int x6), none, some (.long x8), none, some (.long (((ah_i h 28 (Int32.toNatClampNeg ((x4 + (-1)) - 1)))).toInt64)), none, none, none]) dX2_run_285 (by exact (Nat.le_of_ble_eq_true rfl)) rfl rfl ?_
  refine ab_iload (i := 6) dX2_run_287 rfl ?_
  have ht0 := ht
  by_cases c40 : x6 = 3
  · have ht := (ht0.1) c40
    refine ab_tableIn (off := 43) (tgt := 332) dX2_run_289 (by rw [c40]; decide) (by rw [c40]; decide) (by rw [c40]; rfl) (by decide) ?_
    refine ab_lload (i := 10) dX2_run_332 rfl ?_
    refine ab_lload (i := 8) dX2_run_334 rfl ?_
    refine ab_ladd dX2_run_336 ?_
    refine ab_lstore (i := 12) (L' := [some (.ref 26), some (.ref a1), none, some (.int x3), some (.int (x4 + (-1))), some (.int x5), some (.int x6), none, some (.long x8), none, some (.long (((ah_i h 28 (Int32.toNatClampNeg ((x4 + (-1)) - 1)))).toInt64)), none, some (.long (((ah_i h 28 (Int32.toNatClampNeg ((x4 + (-1)) - 1)))).toInt64 + x8)), none]) dX2_run_337 (by exact (Nat.le_of_ble_eq_true rfl)) rfl rfl ?_
    refine ab_goto (tgt := 433) dX2_run_339 (by decide) ?_
    exact Wp.fewer (L' := [some (.ref 26), some (.ref a1), none, some (.int x3), some (.int (x4 + (-1))), some (.int x5), none, none, none, none, none, none, some (.long (((ah_i h 28 (Int32.toNatClampNeg ((x4 + (-1)) - 1)))).toInt64 + x8)), none]) (show ab_leL _ _ from ⟨rfl, ⟨rfl, ⟨rfl, ⟨rfl, ⟨rfl, ⟨rfl, trivial⟩⟩⟩⟩⟩⟩) ht
  by_cases c41 : x6 = 4
  · have ht := (ht0.2.1) c41
    refine ab_tableIn (off := 53) (tgt := 342) dX2_run_289 (by rw [c41]; decide) (by rw [c41]; decide) (by rw [c41]; rfl) (by decide) ?_
    refine ab_lload (i := 10) dX2_run_342 rfl ?_
    refine ab_lload (i := 8) dX2_run_344 rfl ?_
    refine ab_lsub dX2_run_346 ?_
    refine ab_lstore (i := 12) (L' := [some (.ref 26), some (.ref a1), none, some (.int x3), some (.int (x4 + (-1))), some (.int x5), some (.int x6), none, some (.long x8), none, some (.long (((ah_i h 28 (Int32.toNatClampNeg ((x4 + (-1)) - 1)))).toInt64)), none, some (.long (((ah_i h 28 (Int32.toNatClampNeg ((x4 + (-1)) - 1)))).toInt64 - x8)), none]) dX2_run_347 (by exact (Nat.le_of_ble_eq_true rfl)) rfl rfl ?_
    refine ab_goto (tgt := 433) dX2_run_349 (by decide) ?_
    exact Wp.fewer (L' := [some (.ref 26), some (.ref a1), none, some (.int x3), some (.int (x4 + (-1))), some (.int x5), none, none, none, none, none, none, some (.long (((ah_i h 28 (Int32.toNatClampNeg ((x4 + (-1)) - 1)))).toInt64 - x8)), none]) (show ab_leL _ _ from ⟨rfl, ⟨rfl, ⟨rfl, ⟨rfl, ⟨rfl, ⟨rfl, trivial⟩⟩⟩⟩⟩⟩) ht
  by_cases c42 : x6 = 5
  · have ht := (ht0.2.2.1) c42
    refine ab_tableIn (off := 63) (tgt := 352) dX2_run_289 (by rw [c42]; decide) (by rw [c42]; decide) (by rw [c42]; rfl) (by decide) ?_
    refine ab_lload (i := 10) dX2_run_352 rfl ?_
    refine ab_lload (i := 8) dX2_run_354 rfl ?_
    refine ab_lmul dX2_run_356 ?_
    refine ab_lstore (i := 12) (L' := [some (.ref 26), some (.ref a1), none, some (.int x3), some (.int (x4 + (-1))), some (.int x5), some (.int x6), none, some (.long x8), none, some (.long (((ah_i h 28 (Int32.toNatClampNeg ((x4 + (-1)) - 1)))).toInt64)), none, some (.long (((ah_i h 28 (Int32.toNatClampNeg ((x4 + (-1)) - 1)))).toInt64 * x8)), none]) dX2_run_357 (by exact (Nat.le_of_ble_eq_true rfl)) rfl rfl ?_
    refine ab_goto (tgt := 433) dX2_run_359 (by decide) ?_
    exact Wp.fewer (L' := [some (.ref 26), some (.ref a1), none, some (.int x3), some (.int (x4 + (-1))), some (.int x5), none, none, none, none, none, none, some (.long (((ah_i h 28 (Int32.toNatClampNeg ((x4 + (-1)) - 1)))).toInt64 * x8)), none]) (show ab_leL _ _ from ⟨rfl, ⟨rfl, ⟨rfl, ⟨rfl, ⟨rfl, ⟨rfl, trivial⟩⟩⟩⟩⟩⟩) ht
  by_cases c43 : x6 = 6
  · have ht := (ht0.2.2.2.1) c43
    refine ab_tableIn (off := 73) (tgt := 362) dX2_run_289 (by rw [c43]; decide) (by rw [c43]; decide) (by rw [c43]; rfl) (by decide) ?_
    refine ab_lload (i := 10) dX2_run_362 rfl ?_
    refine ab_lload (i := 8) dX2_run_364 rfl ?_
    obtain ⟨hc44, ht⟩ := ht
    refine ab_ldiv dX2_run_366 hc44 ?_
    refine ab_lstore (i := 12) (L' := [some (.ref 26), some (.ref a1), none, some (.int x3), some (.int (x4 + (-1))), some (.int x5), some (.int x6), none, some (.long x8), none, some (.long (((ah_i h 28 (Int32.toNatClampNeg ((x4 + (-1)) - 1)))).toInt64)), none, some (.long (((ah_i h 28 (Int32.toNatClampNeg ((x4 + (-1)) - 1)))).toInt64 / x8)), none]) dX2_run_367 (by exact (Nat.le_of_ble_eq_true rfl)) rfl rfl ?_
    refine ab_goto (tgt := 433) dX2_run_369 (by decide) ?_
    exact Wp.fewer (L' := [some (.ref 26), some (.ref a1), none, some (.int x3), some (.int (x4 + (-1))), some (.int x5), none, none, none, none, none, none, some (.long (((ah_i h 28 (Int32.toNatClampNeg ((x4 + (-1)) - 1)))).toInt64 / x8)), none]) (show ab_leL _ _ from ⟨rfl, ⟨rfl, ⟨rfl, ⟨rfl, ⟨rfl, ⟨rfl, trivial⟩⟩⟩⟩⟩⟩) ht
  by_cases c45 : x6 = 7
  · have ht := (ht0.2.2.2.2.1) c45
    refine ab_tableIn (off := 83) (tgt := 372) dX2_run_289 (by rw [c45]; decide) (by rw [c45]; decide) (by rw [c45]; rfl) (by decide) ?_
    refine ab_lload (i := 10) dX2_run_372 rfl ?_
    refine ab_lload (i := 8) dX2_run_374 rfl ?_
    obtain ⟨hc46, ht⟩ := ht
    refine ab_lrem dX2_run_376 hc46 ?_
    refine ab_lstore (i := 12) (L' := [some (.ref 26), some (.ref a1), none, some (.int x3), some (.int (x4 + (-1))), some (.int x5), some (.int x6), none, some (.long x8), none, some (.long (((ah_i h 28 (Int32.toNatClampNeg ((x4 + (-1)) - 1)))).toInt64)), none, some (.long (((ah_i h 28 (Int32.toNatClampNeg ((x4 + (-1)) - 1)))).toInt64 - ((ah_i h 28 (Int32.toNatClampNeg ((x4 + (-1)) - 1)))).toInt64 / x8 * x8)), none]) dX2_run_377 (by exact (Nat.le_of_ble_eq_true rfl)) rfl rfl ?_
    refine ab_goto (tgt := 433) dX2_run_379 (by decide) ?_
    exact Wp.fewer (L' := [some (.ref 26), some (.ref a1), none, some (.int x3), some (.int (x4 + (-1))), some (.int x5), none, none, none, none, none, none, some (.long (((ah_i h 28 (Int32.toNatClampNeg ((x4 + (-1)) - 1)))).toInt64 - ((ah_i h 28 (Int32.toNatClampNeg ((x4 + (-1)) - 1)))).toInt64 / x8 * x8)), none]) (show ab_leL _ _ from ⟨rfl, ⟨rfl, ⟨rfl, ⟨rfl, ⟨rfl, ⟨rfl, trivial⟩⟩⟩⟩⟩⟩) ht
  by_cases c47 : x6 = 8
  · have ht := (ht0.2.2.2.2.2.1) c47
    refine ab_tableIn (off := 93) (tgt := 382) dX2_run_289 (by rw [c47]; decide) (by rw [c47]; decide) (by rw [c47]; rfl) (by decide) ?_
    refine ab_lload (i := 10) dX2_run_382 rfl ?_
    refine ab_lload (i := 8) dX2_run_384 rfl ?_
    refine ab_lcmp dX2_run_386 ?_
    refine ab_if_ge (tgt := 394) dX2_run_387 (by decide) (fun c48 => ?_) (fun c48 => ?_)
    · have ht := ht.1 c48
      refine ab_lconst (v := 0) dX2_run_394 (by decide) ?_
      refine ab_lstore (i := 12) (L' := [some (.ref 26), some (.ref a1), none, some (.int x3), some (.int (x4 + (-1))), some (.int x5), some (.int x6), none, some (.long x8), none, some (.long (((ah_i h 28 (Int32.toNatClampNeg ((x4 + (-1)) - 1)))).toInt64)), none, some (.long (0 : Int64)), none]) dX2_run_395 (by exact (Nat.le_of_ble_eq_true rfl)) rfl rfl ?_
      refine ab_goto (tgt := 433) dX2_run_397 (by decide) ?_
      exact Wp.fewer (L' := [some (.ref 26), some (.ref a1), none, some (.int x3), some (.int (x4 + (-1))), some (.int x5), none, none, none, none, none, none, some (.long (0 : Int64)), none]) (show ab_leL _ _ from ⟨rfl, ⟨rfl, ⟨rfl, ⟨rfl, ⟨rfl, ⟨rfl, trivial⟩⟩⟩⟩⟩⟩) ht
    · have ht := ht.2 c48
      refine ab_lconst (v := 1) dX2_run_390 (by decide) ?_
      refine ab_goto (tgt := 395) dX2_run_391 (by decide) ?_
      refine ab_lstore (i := 12) (L' := [some (.ref 26), some (.ref a1), none, some (.int x3), some (.int (x4 + (-1))), some (.int x5), some (.int x6), none, some (.long x8), none, some (.long (((ah_i h 28 (Int32.toNatClampNeg ((x4 + (-1)) - 1)))).toInt64)), none, some (.long (1 : Int64)), none]) dX2_run_395 (by exact (Nat.le_of_ble_eq_true rfl)) rfl rfl ?_
      refine ab_goto (tgt := 433) dX2_run_397 (by decide) ?_
      exact Wp.fewer (L' := [some (.ref 26), some (.ref a1), none, some (.int x3), some (.int (x4 + (-1))), some (.int x5), none, none, none, none, none, none, some (.long (1 : Int64)), none]) (show ab_leL _ _ from ⟨rfl, ⟨rfl, ⟨rfl, ⟨rfl, ⟨rfl, ⟨rfl, trivial⟩⟩⟩⟩⟩⟩) ht
  by_cases c49 : x6 = 9
  · have ht := (ht0.2.2.2.2.2.2.1) c49
    refine ab_tableIn (off := 111) (tgt := 400) dX2_run_289 (by rw [c49]; decide) (by rw [c49]; decide) (by rw [c49]; rfl) (by decide) ?_
    refine ab_lload (i := 10) dX2_run_400 rfl ?_
    refine ab_lload (i := 8) dX2_run_402 rfl ?_
    refine ab_lcmp dX2_run_404 ?_
    refine ab_if_le (tgt := 412) dX2_run_405 (by decide) (fun c50 => ?_) (fun c50 => ?_)
    · have ht := ht.1 c50
      refine ab_lconst (v := 0) dX2_run_412 (by decide) ?_
      refine ab_lstore (i := 12) (L' := [some (.ref 26), some (.ref a1), none, some (.int x3), some (.int (x4 + (-1))), some (.int x5), some (.int x6), none, some (.long x8), none, some (.long (((ah_i h 28 (Int32.toNatClampNeg ((x4 + (-1)) - 1)))).toInt64)), none, some (.long (0 : Int64)), none]) dX2_run_413 (by exact (Nat.le_of_ble_eq_true rfl)) rfl rfl ?_
      refine ab_goto (tgt := 433) dX2_run_415 (by decide) ?_
      exact Wp.fewer (L' := [some (.ref 26), some (.ref a1), none, some (.int x3), some (.int (x4 + (-1))), some (.int x5), none, none, none, none, none, none, some (.long (0 : Int64)), none]) (show ab_leL _ _ from ⟨rfl, ⟨rfl, ⟨rfl, ⟨rfl, ⟨rfl, ⟨rfl, trivial⟩⟩⟩⟩⟩⟩) ht
    · have ht := ht.2 c50
      refine ab_lconst (v := 1) dX2_run_408 (by decide) ?_
      refine ab_goto (tgt := 413) dX2_run_409 (by decide) ?_
      refine ab_lstore (i := 12) (L' := [some (.ref 26), some (.ref a1), none, some (.int x3), some (.int (x4 + (-1))), some (.int x5), some (.int x6), none, some (.long x8), none, some (.long (((ah_i h 28 (Int32.toNatClampNeg ((x4 + (-1)) - 1)))).toInt64)), none, some (.long (1 : Int64)), none]) dX2_run_413 (by exact (Nat.le_of_ble_eq_true rfl)) rfl rfl ?_
      refine ab_goto (tgt := 433) dX2_run_415 (by decide) ?_
      exact Wp.fewer (L' := [some (.ref 26), some (.ref a1), none, some (.int x3), some (.int (x4 + (-1))), some (.int x5), none, none, none, none, none, none, some (.long (1 : Int64)), none]) (show ab_leL _ _ from ⟨rfl, ⟨rfl, ⟨rfl, ⟨rfl, ⟨rfl, ⟨rfl, trivial⟩⟩⟩⟩⟩⟩) ht
  have ht := (ht0.2.2.2.2.2.2.2) c40 c41 c42 c43 c45 c47 c49
  refine ab_tableOut (tgt := 418) dX2_run_289 (by
      have zc40 := lv_neT (a := 3) c40 (by decide)
      have zc41 := lv_neT (a := 4) c41 (by decide)
      have zc42 := lv_neT (a := 5) c42 (by decide)
      have zc43 := lv_neT (a := 6) c43 (by decide)
      have zc45 := lv_neT (a := 7) c45 (by decide)
      have zc47 := lv_neT (a := 8) c47 (by decide)
      have zc49 := lv_neT (a := 9) c49 (by decide)
      omega) (by decide) ?_
  refine ab_lload (i := 10) dX2_run_418 rfl ?_
  refine ab_lload (i := 8) dX2_run_420 rfl ?_
  refine ab_lcmp dX2_run_422 ?_
  refine ab_if_ne (tgt := 430) dX2_run_423 (by decide) (fun c51 => ?_) (fun c51 => ?_)
  · have ht := ht.1 c51
    refine ab_lconst (v := 0) dX2_run_430 (by decide) ?_
    refine ab_lstore (i := 12) (L' := [some (.ref 26), some (.ref a1), none, some (.int x3), some (.int (x4 + (-1))), some (.int x5), some (.int x6), none, some (.long x8), none, some (.long (((ah_i h 28 (Int32.toNatClampNeg ((x4 + (-1)) - 1)))).toInt64)), none, some (.long (0 : Int64)), none]) dX2_run_431 (by exact (Nat.le_of_ble_eq_true rfl)) rfl rfl ?_
    exact Wp.fewer (L' := [some (.ref 26), some (.ref a1), none, some (.int x3), some (.int (x4 + (-1))), some (.int x5), none, none, none, none, none, none, some (.long (0 : Int64)), none]) (show ab_leL _ _ from ⟨rfl, ⟨rfl, ⟨rfl, ⟨rfl, ⟨rfl, ⟨rfl, trivial⟩⟩⟩⟩⟩⟩) ht
  · have ht := ht.2 c51
    refine ab_lconst (v := 1) dX2_run_426 (by decide) ?_
    refine ab_goto (tgt := 431) dX2_run_427 (by decide) ?_
    refine ab_lstore (i := 12) (L' := [some (.ref 26), some (.ref a1), none, some (.int x3), some (.int (x4 + (-1))), some (.int x5), some (.int x6), none, some (.long x8), none, some (.long (((ah_i h 28 (Int32.toNatClampNeg ((x4 + (-1)) - 1)))).toInt64)), none, some (.long (1 : Int64)), none]) dX2_run_431 (by exact (Nat.le_of_ble_eq_true rfl)) rfl rfl ?_
    exact Wp.fewer (L' := [some (.ref 26), some (.ref a1), none, some (.int x3), some (.int (x4 + (-1))), some (.int x5), none, none, none, none, none, none, some (.long (1 : Int64)), none]) (show ab_leL _ _ from ⟨rfl, ⟨rfl, ⟨rfl, ⟨rfl, ⟨rfl, ⟨rfl, trivial⟩⟩⟩⟩⟩⟩) ht
set_option maxRecDepth 20000 in
theorem T_X2_run_466 {Q : Option Value → ah_T → Prop} {h : ah_T} (hs : Sh h) (a1 : Nat) (x3 : Int32) (x4 : Int32) (x5 : Int32) (hk_a1 : ah_k h a1 = 14) (ht : Wp mX2_run Q 0 0 13 [some (.ref 26), some (.ref a1), none, some (.int x3), some (.int x4), some (.int (x5 + 1)), none, none, none, none, none, none, none, none] [] h) : Wp mX2_run Q 0 0 466 [some (.ref 26), some (.ref a1), none, some (.int x3), some (.int x4), some (.int x5), none, none, none, none, none, none, none, none] [] h := by
  refine ab_iinc (i := 5) (x := x5) (v := (x5 + 1)) (L' := [some (.ref 26), some (.ref a1), none, some (.int x3), some (.int x4), some (.int (x5 + 1)), none, none, none, none, none, none, none, none]) dX2_run_466 rfl rfl (by exact (Nat.le_of_ble_eq_true rfl)) rfl rfl ?_
  refine ab_goto (tgt := 13) dX2_run_469 (by decide) ?_
  exact Wp.fewer (L' := [some (.ref 26), some (.ref a1), none, some (.int x3), some (.int x4), some (.int (x5 + 1)), none, none, none, none, none, none, none, none]) (show ab_leL _ _ from ⟨rfl, ⟨rfl, ⟨rfl, ⟨rfl, ⟨rfl, trivial⟩⟩⟩⟩⟩) ht
set_option maxRecDepth 20000 in
theorem T_X2_run_84 {Q : Option Value → ah_T → Prop} {h : ah_T} (hs : Sh h) (a1 : Nat) (x3 : Int32) (x4 : Int32) (x5 : Int32) (x6 : Int32) (x7 : Int32) (hk_a1 : ah_k h a1 = 14) (ht : ((¬ x6 = 1 → (vp_in x7 (ah_n h 27)) ∧ (vp_in x4 (ah_n h 28)) ∧ (∀ h55, h55 = ah_si h 28 (Int32.toNatClampNeg x4) (ah_i h 27 (Int32.toNatClampNeg x7)) → Wp mX2_run Q 0 0 466 [some (.ref 26), some (.ref a1), none, some (.int x3), some (.int (x4 + 1)), some (.int x5), none, none, none, none, none, none, none, none] [] h55)) ∧ (x6 = 1 → (vp_in x4 (ah_n h 28)) ∧ (∀ h60, h60 = ah_si h 28 (Int32.toNatClampNeg x4) x7 → Wp mX2_run Q 0 0 466 [some (.ref 26), some (.ref a1), none, some (.int x3), some (.int (x4 + 1)), some (.int x5), none, none, none, none, none, none, none, none] [] h60)))) : Wp mX2_run Q 0 0 84 [some (.ref 26), some (.ref a1), none, some (.int x3), some (.int x4), some (.int x5), some (.int x6), some (.int x7), none, none, none, none, none, none] [] h := by
  refine ab_aload_n (i := 0) dX2_run_84 rfl rfl ?_
  refine ab_getR (b := 28) f_X2_19 rfl (sh_k hs 26 2 (by decide) rfl) (sh_r hs 33 rfl) dX2_run_85 ?_
  refine ab_iload (i := 4) dX2_run_88 rfl ?_
  refine ab_iload (i := 6) dX2_run_90 rfl ?_
  refine ab_iconst (v := 1) dX2_run_92 (by decide) ?_
  refine ab_icmp_ne (tgt := 101) dX2_run_93 (by decide) (fun c52 => ?_) (fun c52 => ?_)
  · have ht := ht.1 c52
    refine ab_aload_n (i := 0) dX2_run_101 rfl rfl ?_
    refine ab_getR (b := 27) f_X2_9 rfl (sh_k hs 26 2 (by decide) rfl) (sh_r hs 32 rfl) dX2_run_102 ?_
    refine ab_iload (i := 7) dX2_run_105 rfl ?_
    obtain ⟨hc53, ht⟩ := ht
    refine ab_iald (sh_k hs 27 14 (by decide) rfl) hc53 dX2_run_107 ?_
    obtain ⟨hc54, ht⟩ := ht
    refine ab_iast (sh_k hs 28 14 (by decide) rfl) hc54 dX2_run_108 ?_
    refine Wp.nm fun h55 e56 => ?_
    have ht := ht h55 e56
    have hs57 : Sh h55 := by rw [e56]; exact sh_si hs
    have hk58 : ah_k h55 a1 = 14 := by rw [e56]; exact hk_a1
    refine ab_iinc (i := 4) (x := x4) (v := (x4 + 1)) (L' := [some (.ref 26), some (.ref a1), none, some (.int x3), some (.int (x4 + 1)), some (.int x5), some (.int x6), some (.int x7), none, none, none, none, none, none]) dX2_run_109 rfl rfl (by exact (Nat.le_of_ble_eq_true rfl)) rfl rfl ?_
    refine ab_goto (tgt := 466) dX2_run_112 (by decide) ?_
    exact Wp.fewer (L' := [some (.ref 26), some (.ref a1), none, some (.int x3), some (.int (x4 + 1)), some (.int x5), none, none, none, none, none, none, none, none]) (show ab_leL _ _ from ⟨rfl, ⟨rfl, ⟨rfl, ⟨rfl, ⟨rfl, trivial⟩⟩⟩⟩⟩) ht
  · have ht := ht.2 c52
    refine ab_iload (i := 7) dX2_run_96 rfl ?_
    refine ab_goto (tgt := 108) dX2_run_98 (by decide) ?_
    obtain ⟨hc59, ht⟩ := ht
    refine ab_iast (sh_k hs 28 14 (by decide) rfl) hc59 dX2_run_108 ?_
    refine Wp.nm fun h60 e61 => ?_
    have ht := ht h60 e61
    have hs62 : Sh h60 := by rw [e61]; exact sh_si hs
    have hk63 : ah_k h60 a1 = 14 := by rw [e61]; exact hk_a1
    refine ab_iinc (i := 4) (x := x4) (v := (x4 + 1)) (L' := [some (.ref 26), some (.ref a1), none, some (.int x3), some (.int (x4 + 1)), some (.int x5), some (.int x6), some (.int x7), none, none, none, none, none, none]) dX2_run_109 rfl rfl (by exact (Nat.le_of_ble_eq_true rfl)) rfl rfl ?_
    refine ab_goto (tgt := 466) dX2_run_112 (by decide) ?_
    exact Wp.fewer (L' := [some (.ref 26), some (.ref a1), none, some (.int x3), some (.int (x4 + 1)), some (.int x5), none, none, none, none, none, none, none, none]) (show ab_leL _ _ from ⟨rfl, ⟨rfl, ⟨rfl, ⟨rfl, ⟨rfl, trivial⟩⟩⟩⟩⟩) ht
set_option maxRecDepth 20000 in
theorem T_X2_run_433 {Q : Option Value → ah_T → Prop} {h : ah_T} (hs : Sh h) (a1 : Nat) (x3 : Int32) (x4 : Int32) (x5 : Int32) (x12 : Int64) (hk_a1 : ah_k h a1 = 14) (ht : ((0 < (lg_cmp x12 (1000000000 : Int64)) → Wp mX2_run Q 0 0 472 [some (.ref 26), none, none, none, none, none, none, none, none, none, none, none, none, none] [] h) ∧ (¬ 0 < (lg_cmp x12 (1000000000 : Int64)) → ((0 ≤ (lg_cmp x12 ((-1000000000) : Int64)) → (vp_in (x4 - 1) (ah_n h 28)) ∧ (∀ h67, h67 = ah_si h 28 (Int32.toNatClampNeg (x4 - 1)) ((x12).toInt32) → Wp mX2_run Q 0 0 466 [some (.ref 26), some (.ref a1), none, some (.int x3), some (.int x4), some (.int x5), none, none, none, none, none, none, none, none] [] h67)) ∧ (¬ 0 ≤ (lg_cmp x12 ((-1000000000) : Int64)) → Wp mX2_run Q 0 0 472 [some (.ref 26), none, none, none, none, none, none, none, none, none, none, none, none, none] [] h))))) : Wp mX2_run Q 0 0 433 [some (.ref 26), some (.ref a1), none, some (.int x3), some (.int x4), some (.int x5), none, none, none, none, none, none, some (.long x12), none] [] h := by
  refine ab_lload (i := 12) dX2_run_433 rfl ?_
  refine ab_ldc2 (v := 1000000000) (tb_5 (List.mem_of_getElem? (i := 16) (by decide +kernel)) rfl) dX2_run_435 ?_
  refine ab_lcmp dX2_run_438 ?_
  refine ab_if_gt (tgt := 472) dX2_run_439 (by decide) (fun c64 => ?_) (fun c64 => ?_)
  · have ht := ht.1 c64
    exact Wp.fewer (L' := [some (.ref 26), none, none, none, none, none, none, none, none, none, none, none, none, none]) (show ab_leL _ _ from ⟨rfl, trivial⟩) ht
  · have ht := ht.2 c64
    refine ab_lload (i := 12) dX2_run_442 rfl ?_
    refine ab_ldc2 (v := (-1000000000)) (tb_5 (List.mem_of_getElem? (i := 17) (by decide +kernel)) rfl) dX2_run_444 ?_
    refine ab_lcmp dX2_run_447 ?_
    refine ab_if_ge (tgt := 454) dX2_run_448 (by decide) (fun c65 => ?_) (fun c65 => ?_)
    · have ht := ht.1 c65
      refine ab_aload_n (i := 0) dX2_run_454 rfl rfl ?_
      refine ab_getR (b := 28) f_X2_19 rfl (sh_k hs 26 2 (by decide) rfl) (sh_r hs 33 rfl) dX2_run_455 ?_
      refine ab_iload (i := 4) dX2_run_458 rfl ?_
      refine ab_iconst (v := 1) dX2_run_460 (by decide) ?_
      refine ab_isub dX2_run_461 ?_
      refine ab_lload (i := 12) dX2_run_462 rfl ?_
      refine ab_l2i dX2_run_464 ?_
      obtain ⟨hc66, ht⟩ := ht
      refine ab_iast (sh_k hs 28 14 (by decide) rfl) hc66 dX2_run_465 ?_
      refine Wp.nm fun h67 e68 => ?_
      have ht := ht h67 e68
      have hs69 : Sh h67 := by rw [e68]; exact sh_si hs
      have hk70 : ah_k h67 a1 = 14 := by rw [e68]; exact hk_a1
      exact Wp.fewer (L' := [some (.ref 26), some (.ref a1), none, some (.int x3), some (.int x4), some (.int x5), none, none, none, none, none, none, none, none]) (show ab_leL _ _ from ⟨rfl, ⟨rfl, ⟨rfl, ⟨rfl, ⟨rfl, trivial⟩⟩⟩⟩⟩) ht
    · have ht := ht.2 c65
      refine ab_goto (tgt := 472) dX2_run_451 (by decide) ?_
      exact Wp.fewer (L' := [some (.ref 26), none, none, none, none, none, none, none, none, none, none, none, none, none]) (show ab_leL _ _ from ⟨rfl, trivial⟩) ht
set_option maxRecDepth 20000 in
theorem T_X2_run {Q : Option Value → ah_T → Prop} {h : ah_T} (hs : Sh h) (a1 : Nat) (x2 : Int32) (hk_a1 : ah_k h a1 = 14) (ht : (∀ h1, h1 = ah_si h 26 1 0 → Wp mX2_run Q 0 0 13 [some (.ref 26), some (.ref a1), none, some (.int x2), some (.int 0), some (.int 0), none, none, none, none, none, none, none, none] [] h1)) : Mt mX2_run [.ref 26, .ref a1, .int x2] h Q := by
  refine Mt.ofWp rfl (by exact (Nat.le_of_ble_eq_true rfl)) (Wp.fewer (L' := [some (.ref 26), some (.ref a1), some (.int x2), none, none, none, none, none, none, none, none, none, none, none]) (show ab_leL _ _ from ⟨rfl, ⟨rfl, ⟨rfl, trivial⟩⟩⟩) ?_)
  refine ab_iload_n (i := 2) dX2_run_0 rfl rfl ?_
  refine ab_istore_n (i := 3) (L' := [some (.ref 26), some (.ref a1), some (.int x2), some (.int x2), none, none, none, none, none, none, none, none, none, none]) dX2_run_1 rfl (by exact (Nat.le_of_ble_eq_true rfl)) rfl rfl ?_
  refine ab_iconst (v := 0) dX2_run_2 (by decide) ?_
  refine ab_istore (i := 4) (L' := [some (.ref 26), some (.ref a1), some (.int x2), some (.int x2), some (.int 0), none, none, none, none, none, none, none, none, none]) dX2_run_3 (by exact (Nat.le_of_ble_eq_true rfl)) rfl rfl ?_
  refine ab_aload_n (i := 0) dX2_run_5 rfl rfl ?_
  refine ab_iconst (v := 0) dX2_run_6 (by decide) ?_
  refine ab_putI f_X2_15 (Or.inl rfl) rfl (sh_k hs 26 2 (by decide) rfl) rfl rfl dX2_run_7 ?_
  refine Wp.nm fun h1 e2 => ?_
  have ht := ht h1 e2
  have hs3 : Sh h1 := by rw [e2]; exact sh_si hs
  have hk4 : ah_k h1 a1 = 14 := by rw [e2]; exact hk_a1
  refine ab_iconst (v := 0) dX2_run_10 (by decide) ?_
  refine ab_istore (i := 5) (L' := [some (.ref 26), some (.ref a1), some (.int x2), some (.int x2), some (.int 0), some (.int 0), none, none, none, none, none, none, none, none]) dX2_run_11 (by exact (Nat.le_of_ble_eq_true rfl)) rfl rfl ?_
  exact Wp.fewer (L' := [some (.ref 26), some (.ref a1), none, some (.int x2), some (.int 0), some (.int 0), none, none, none, none, none, none, none, none]) (show ab_leL _ _ from ⟨rfl, ⟨rfl, ⟨rfl, ⟨rfl, ⟨rfl, trivial⟩⟩⟩⟩⟩) ht
