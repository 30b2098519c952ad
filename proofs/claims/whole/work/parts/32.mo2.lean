theorem d_Mo_move_0 : decode b_Mo_move 0 = .ok (.aload_n 0, 1) := by decide +kernel
theorem d_Mo_move_1 : decode b_Mo_move 1 = .ok (.iconst 0, 1) := by decide +kernel
theorem d_Mo_move_2 : decode b_Mo_move 2 = .ok (.putfield 72, 3) := by decide +kernel
theorem d_Mo_move_5 : decode b_Mo_move 5 = .ok (.aload_n 0, 1) := by decide +kernel
theorem d_Mo_move_6 : decode b_Mo_move 6 = .ok (.iload_n 1, 1) := by decide +kernel
theorem d_Mo_move_7 : decode b_Mo_move 7 = .ok (.invokevirtual 115, 3) := by decide +kernel
theorem d_Mo_move_10 : decode b_Mo_move 10 = .ok (.ifCond .eq 39, 3) := by decide +kernel
theorem d_Mo_move_13 : decode b_Mo_move 13 = .ok (.aload_n 0, 1) := by decide +kernel
theorem d_Mo_move_14 : decode b_Mo_move 14 = .ok (.iload_n 2, 1) := by decide +kernel
theorem d_Mo_move_15 : decode b_Mo_move 15 = .ok (.invokevirtual 115, 3) := by decide +kernel
theorem d_Mo_move_18 : decode b_Mo_move 18 = .ok (.ifCond .eq 31, 3) := by decide +kernel
theorem d_Mo_move_21 : decode b_Mo_move 21 = .ok (.iload_n 1, 1) := by decide +kernel
theorem d_Mo_move_22 : decode b_Mo_move 22 = .ok (.iload_n 2, 1) := by decide +kernel
theorem d_Mo_move_23 : decode b_Mo_move 23 = .ok (.if_icmp .eq 26, 3) := by decide +kernel
theorem d_Mo_move_26 : decode b_Mo_move 26 = .ok (.lload_n 3, 1) := by decide +kernel
theorem d_Mo_move_27 : decode b_Mo_move 27 = .ok (.lconst 1, 1) := by decide +kernel
theorem d_Mo_move_28 : decode b_Mo_move 28 = .ok (.lcmp, 1) := by decide +kernel
theorem d_Mo_move_29 : decode b_Mo_move 29 = .ok (.ifCond .lt 20, 3) := by decide +kernel
theorem d_Mo_move_32 : decode b_Mo_move 32 = .ok (.lload_n 3, 1) := by decide +kernel
theorem d_Mo_move_33 : decode b_Mo_move 33 = .ok (.ldc2_w 79, 3) := by decide +kernel
theorem d_Mo_move_36 : decode b_Mo_move 36 = .ok (.lcmp, 1) := by decide +kernel
theorem d_Mo_move_37 : decode b_Mo_move 37 = .ok (.ifCond .gt 12, 3) := by decide +kernel
theorem d_Mo_move_40 : decode b_Mo_move 40 = .ok (.aload_n 0, 1) := by decide +kernel
theorem d_Mo_move_41 : decode b_Mo_move 41 = .ok (.iload_n 1, 1) := by decide +kernel
theorem d_Mo_move_42 : decode b_Mo_move 42 = .ok (.iload_n 2, 1) := by decide +kernel
theorem d_Mo_move_43 : decode b_Mo_move 43 = .ok (.invokevirtual 137, 3) := by decide +kernel
theorem d_Mo_move_46 : decode b_Mo_move 46 = .ok (.ifCond .ne 7, 3) := by decide +kernel
theorem d_Mo_move_49 : decode b_Mo_move 49 = .ok (.ldc2_w 141, 3) := by decide +kernel
theorem d_Mo_move_52 : decode b_Mo_move 52 = .ok (.lreturn, 1) := by decide +kernel
theorem d_Mo_move_53 : decode b_Mo_move 53 = .ok (.iconst 0, 1) := by decide +kernel
theorem d_Mo_move_54 : decode b_Mo_move 54 = .ok (.istore 5, 2) := by decide +kernel
theorem d_Mo_move_56 : decode b_Mo_move 56 = .ok (.iconst 0, 1) := by decide +kernel
theorem d_Mo_move_57 : decode b_Mo_move 57 = .ok (.istore 6, 2) := by decide +kernel
theorem d_Mo_move_59 : decode b_Mo_move 59 = .ok (.iload 6, 2) := by decide +kernel
theorem d_Mo_move_61 : decode b_Mo_move 61 = .ok (.aload_n 0, 1) := by decide +kernel
theorem d_Mo_move_62 : decode b_Mo_move 62 = .ok (.getfield 134, 3) := by decide +kernel
theorem d_Mo_move_65 : decode b_Mo_move 65 = .ok (.if_icmp .ge 105, 3) := by decide +kernel
theorem d_Mo_move_68 : decode b_Mo_move 68 = .ok (.aload_n 0, 1) := by decide +kernel
theorem d_Mo_move_69 : decode b_Mo_move 69 = .ok (.getfield 54, 3) := by decide +kernel
theorem d_Mo_move_72 : decode b_Mo_move 72 = .ok (.iload 6, 2) := by decide +kernel
theorem d_Mo_move_74 : decode b_Mo_move 74 = .ok (.iaload, 1) := by decide +kernel
theorem d_Mo_move_75 : decode b_Mo_move 75 = .ok (.iconst 2, 1) := by decide +kernel
theorem d_Mo_move_76 : decode b_Mo_move 76 = .ok (.idiv, 1) := by decide +kernel
theorem d_Mo_move_77 : decode b_Mo_move 77 = .ok (.istore 7, 2) := by decide +kernel
theorem d_Mo_move_79 : decode b_Mo_move 79 = .ok (.aload_n 0, 1) := by decide +kernel
theorem d_Mo_move_80 : decode b_Mo_move 80 = .ok (.getfield 54, 3) := by decide +kernel
theorem d_Mo_move_83 : decode b_Mo_move 83 = .ok (.iload 6, 2) := by decide +kernel
theorem d_Mo_move_85 : decode b_Mo_move 85 = .ok (.iaload, 1) := by decide +kernel
theorem d_Mo_move_86 : decode b_Mo_move 86 = .ok (.iconst 2, 1) := by decide +kernel
theorem d_Mo_move_87 : decode b_Mo_move 87 = .ok (.irem, 1) := by decide +kernel
theorem d_Mo_move_88 : decode b_Mo_move 88 = .ok (.iconst 1, 1) := by decide +kernel
theorem d_Mo_move_89 : decode b_Mo_move 89 = .ok (.if_icmp .ne 7, 3) := by decide +kernel
theorem d_Mo_move_92 : decode b_Mo_move 92 = .ok (.iconst 1, 1) := by decide +kernel
theorem d_Mo_move_93 : decode b_Mo_move 93 = .ok (.goto 4, 3) := by decide +kernel
theorem d_Mo_move_96 : decode b_Mo_move 96 = .ok (.iconst 0, 1) := by decide +kernel
theorem d_Mo_move_97 : decode b_Mo_move 97 = .ok (.istore 8, 2) := by decide +kernel
theorem d_Mo_move_99 : decode b_Mo_move 99 = .ok (.iconst 0, 1) := by decide +kernel
theorem d_Mo_move_100 : decode b_Mo_move 100 = .ok (.istore 9, 2) := by decide +kernel
theorem d_Mo_move_102 : decode b_Mo_move 102 = .ok (.iload 9, 2) := by decide +kernel
theorem d_Mo_move_104 : decode b_Mo_move 104 = .ok (.aload_n 0, 1) := by decide +kernel
theorem d_Mo_move_105 : decode b_Mo_move 105 = .ok (.getfield 35, 3) := by decide +kernel
theorem d_Mo_move_108 : decode b_Mo_move 108 = .ok (.iload 7, 2) := by decide +kernel
theorem d_Mo_move_110 : decode b_Mo_move 110 = .ok (.iaload, 1) := by decide +kernel
theorem d_Mo_move_111 : decode b_Mo_move 111 = .ok (.if_icmp .ge 53, 3) := by decide +kernel
theorem d_Mo_move_114 : decode b_Mo_move 114 = .ok (.aload_n 0, 1) := by decide +kernel
theorem d_Mo_move_115 : decode b_Mo_move 115 = .ok (.getfield 57, 3) := by decide +kernel
theorem d_Mo_move_118 : decode b_Mo_move 118 = .ok (.iload 5, 2) := by decide +kernel
theorem d_Mo_move_120 : decode b_Mo_move 120 = .ok (.aload_n 0, 1) := by decide +kernel
theorem d_Mo_move_121 : decode b_Mo_move 121 = .ok (.getfield 38, 3) := by decide +kernel
theorem d_Mo_move_124 : decode b_Mo_move 124 = .ok (.sipush 200, 3) := by decide +kernel
theorem d_Mo_move_127 : decode b_Mo_move 127 = .ok (.iload 7, 2) := by decide +kernel
theorem d_Mo_move_129 : decode b_Mo_move 129 = .ok (.imul, 1) := by decide +kernel
theorem d_Mo_move_130 : decode b_Mo_move 130 = .ok (.iload 8, 2) := by decide +kernel
theorem d_Mo_move_132 : decode b_Mo_move 132 = .ok (.ifCond .eq 18, 3) := by decide +kernel
theorem d_Mo_move_135 : decode b_Mo_move 135 = .ok (.aload_n 0, 1) := by decide +kernel
theorem d_Mo_move_136 : decode b_Mo_move 136 = .ok (.getfield 35, 3) := by decide +kernel
theorem d_Mo_move_139 : decode b_Mo_move 139 = .ok (.iload 7, 2) := by decide +kernel
theorem d_Mo_move_141 : decode b_Mo_move 141 = .ok (.iaload, 1) := by decide +kernel
theorem d_Mo_move_142 : decode b_Mo_move 142 = .ok (.iconst 1, 1) := by decide +kernel
theorem d_Mo_move_143 : decode b_Mo_move 143 = .ok (.isub, 1) := by decide +kernel
theorem d_Mo_move_144 : decode b_Mo_move 144 = .ok (.iload 9, 2) := by decide +kernel
theorem d_Mo_move_146 : decode b_Mo_move 146 = .ok (.isub, 1) := by decide +kernel
theorem d_Mo_move_147 : decode b_Mo_move 147 = .ok (.goto 5, 3) := by decide +kernel
theorem d_Mo_move_150 : decode b_Mo_move 150 = .ok (.iload 9, 2) := by decide +kernel
theorem d_Mo_move_152 : decode b_Mo_move 152 = .ok (.iadd, 1) := by decide +kernel
theorem d_Mo_move_153 : decode b_Mo_move 153 = .ok (.baload, 1) := by decide +kernel
theorem d_Mo_move_154 : decode b_Mo_move 154 = .ok (.bastore, 1) := by decide +kernel
theorem d_Mo_move_155 : decode b_Mo_move 155 = .ok (.iinc 5 1, 3) := by decide +kernel
theorem d_Mo_move_158 : decode b_Mo_move 158 = .ok (.iinc 9 1, 3) := by decide +kernel
theorem d_Mo_move_161 : decode b_Mo_move 161 = .ok (.goto (-59), 3) := by decide +kernel
theorem d_Mo_move_164 : decode b_Mo_move 164 = .ok (.iinc 6 1, 3) := by decide +kernel
theorem d_Mo_move_167 : decode b_Mo_move 167 = .ok (.goto (-108), 3) := by decide +kernel
theorem d_Mo_move_170 : decode b_Mo_move 170 = .ok (.aload_n 0, 1) := by decide +kernel
theorem d_Mo_move_171 : decode b_Mo_move 171 = .ok (.getfield 23, 3) := by decide +kernel
theorem d_Mo_move_174 : decode b_Mo_move 174 = .ok (.iload_n 1, 1) := by decide +kernel
theorem d_Mo_move_175 : decode b_Mo_move 175 = .ok (.iaload, 1) := by decide +kernel
theorem d_Mo_move_176 : decode b_Mo_move 176 = .ok (.istore 6, 2) := by decide +kernel
theorem d_Mo_move_178 : decode b_Mo_move 178 = .ok (.iconst 0, 1) := by decide +kernel
theorem d_Mo_move_179 : decode b_Mo_move 179 = .ok (.istore 7, 2) := by decide +kernel
theorem d_Mo_move_181 : decode b_Mo_move 181 = .ok (.iconst 1, 1) := by decide +kernel
theorem d_Mo_move_182 : decode b_Mo_move 182 = .ok (.istore 8, 2) := by decide +kernel
theorem d_Mo_move_184 : decode b_Mo_move 184 = .ok (.iload 8, 2) := by decide +kernel
theorem d_Mo_move_186 : decode b_Mo_move 186 = .ok (.ifCond .eq 110, 3) := by decide +kernel
theorem d_Mo_move_189 : decode b_Mo_move 189 = .ok (.iload 7, 2) := by decide +kernel
theorem d_Mo_move_191 : decode b_Mo_move 191 = .ok (.i2l, 1) := by decide +kernel
theorem d_Mo_move_192 : decode b_Mo_move 192 = .ok (.lload_n 3, 1) := by decide +kernel
theorem d_Mo_move_193 : decode b_Mo_move 193 = .ok (.lcmp, 1) := by decide +kernel
theorem d_Mo_move_194 : decode b_Mo_move 194 = .ok (.ifCond .ge 102, 3) := by decide +kernel
theorem d_Mo_move_197 : decode b_Mo_move 197 = .ok (.iload 7, 2) := by decide +kernel
theorem d_Mo_move_199 : decode b_Mo_move 199 = .ok (.iload 5, 2) := by decide +kernel
theorem d_Mo_move_201 : decode b_Mo_move 201 = .ok (.if_icmp .ge 18, 3) := by decide +kernel
theorem d_Mo_move_204 : decode b_Mo_move 204 = .ok (.aload_n 0, 1) := by decide +kernel
theorem d_Mo_move_205 : decode b_Mo_move 205 = .ok (.getfield 57, 3) := by decide +kernel
theorem d_Mo_move_208 : decode b_Mo_move 208 = .ok (.iload 5, 2) := by decide +kernel
theorem d_Mo_move_210 : decode b_Mo_move 210 = .ok (.iconst 1, 1) := by decide +kernel
theorem d_Mo_move_211 : decode b_Mo_move 211 = .ok (.isub, 1) := by decide +kernel
theorem d_Mo_move_212 : decode b_Mo_move 212 = .ok (.iload 7, 2) := by decide +kernel
theorem d_Mo_move_214 : decode b_Mo_move 214 = .ok (.isub, 1) := by decide +kernel
theorem d_Mo_move_215 : decode b_Mo_move 215 = .ok (.baload, 1) := by decide +kernel
theorem d_Mo_move_216 : decode b_Mo_move 216 = .ok (.goto 5, 3) := by decide +kernel
theorem d_Mo_move_219 : decode b_Mo_move 219 = .ok (.iload 6, 2) := by decide +kernel
theorem d_Mo_move_221 : decode b_Mo_move 221 = .ok (.istore 9, 2) := by decide +kernel
theorem d_Mo_move_223 : decode b_Mo_move 223 = .ok (.aload_n 0, 1) := by decide +kernel
theorem d_Mo_move_224 : decode b_Mo_move 224 = .ok (.getfield 20, 3) := by decide +kernel
theorem d_Mo_move_227 : decode b_Mo_move 227 = .ok (.iload_n 1, 1) := by decide +kernel
theorem d_Mo_move_228 : decode b_Mo_move 228 = .ok (.laload, 1) := by decide +kernel
theorem d_Mo_move_229 : decode b_Mo_move 229 = .ok (.lconst 0, 1) := by decide +kernel
theorem d_Mo_move_230 : decode b_Mo_move 230 = .ok (.lcmp, 1) := by decide +kernel
theorem d_Mo_move_231 : decode b_Mo_move 231 = .ok (.ifCond .le 28, 3) := by decide +kernel
theorem d_Mo_move_234 : decode b_Mo_move 234 = .ok (.iload 9, 2) := by decide +kernel
theorem d_Mo_move_236 : decode b_Mo_move 236 = .ok (.ifCond .eq 19, 3) := by decide +kernel
theorem d_Mo_move_239 : decode b_Mo_move 239 = .ok (.aload_n 0, 1) := by decide +kernel
theorem d_Mo_move_240 : decode b_Mo_move 240 = .ok (.getfield 20, 3) := by decide +kernel
theorem d_Mo_move_243 : decode b_Mo_move 243 = .ok (.iload_n 2, 1) := by decide +kernel
theorem d_Mo_move_244 : decode b_Mo_move 244 = .ok (.laload, 1) := by decide +kernel
theorem d_Mo_move_245 : decode b_Mo_move 245 = .ok (.aload_n 0, 1) := by decide +kernel
theorem d_Mo_move_246 : decode b_Mo_move 246 = .ok (.getfield 16, 3) := by decide +kernel
theorem d_Mo_move_249 : decode b_Mo_move 249 = .ok (.iload_n 2, 1) := by decide +kernel
theorem d_Mo_move_250 : decode b_Mo_move 250 = .ok (.laload, 1) := by decide +kernel
theorem d_Mo_move_251 : decode b_Mo_move 251 = .ok (.lcmp, 1) := by decide +kernel
theorem d_Mo_move_252 : decode b_Mo_move 252 = .ok (.ifCond .ge 7, 3) := by decide +kernel
theorem d_Mo_move_255 : decode b_Mo_move 255 = .ok (.iconst 1, 1) := by decide +kernel
theorem d_Mo_move_256 : decode b_Mo_move 256 = .ok (.goto 4, 3) := by decide +kernel
theorem d_Mo_move_259 : decode b_Mo_move 259 = .ok (.iconst 0, 1) := by decide +kernel
theorem d_Mo_move_260 : decode b_Mo_move 260 = .ok (.istore 8, 2) := by decide +kernel
theorem d_Mo_move_262 : decode b_Mo_move 262 = .ok (.iload 8, 2) := by decide +kernel
theorem d_Mo_move_264 : decode b_Mo_move 264 = .ok (.ifCond .eq 29, 3) := by decide +kernel
theorem d_Mo_move_267 : decode b_Mo_move 267 = .ok (.aload_n 0, 1) := by decide +kernel
theorem d_Mo_move_268 : decode b_Mo_move 268 = .ok (.getfield 20, 3) := by decide +kernel
theorem d_Mo_move_271 : decode b_Mo_move 271 = .ok (.iload_n 1, 1) := by decide +kernel
theorem d_Mo_move_272 : decode b_Mo_move 272 = .ok (.dup2, 1) := by decide +kernel
theorem d_Mo_move_273 : decode b_Mo_move 273 = .ok (.laload, 1) := by decide +kernel
theorem d_Mo_move_274 : decode b_Mo_move 274 = .ok (.lconst 1, 1) := by decide +kernel
theorem d_Mo_move_275 : decode b_Mo_move 275 = .ok (.lsub, 1) := by decide +kernel
theorem d_Mo_move_276 : decode b_Mo_move 276 = .ok (.lastore, 1) := by decide +kernel
theorem d_Mo_move_277 : decode b_Mo_move 277 = .ok (.iload 9, 2) := by decide +kernel
theorem d_Mo_move_279 : decode b_Mo_move 279 = .ok (.ifCond .le 11, 3) := by decide +kernel
theorem d_Mo_move_282 : decode b_Mo_move 282 = .ok (.aload_n 0, 1) := by decide +kernel
theorem d_Mo_move_283 : decode b_Mo_move 283 = .ok (.iload_n 2, 1) := by decide +kernel
theorem d_Mo_move_284 : decode b_Mo_move 284 = .ok (.iload 9, 2) := by decide +kernel
theorem d_Mo_move_286 : decode b_Mo_move 286 = .ok (.lconst 1, 1) := by decide +kernel
theorem d_Mo_move_287 : decode b_Mo_move 287 = .ok (.invokevirtual 118, 3) := by decide +kernel
theorem d_Mo_move_290 : decode b_Mo_move 290 = .ok (.iinc 7 1, 3) := by decide +kernel
theorem d_Mo_move_293 : decode b_Mo_move 293 = .ok (.goto (-109), 3) := by decide +kernel
theorem d_Mo_move_296 : decode b_Mo_move 296 = .ok (.aload_n 0, 1) := by decide +kernel
theorem d_Mo_move_297 : decode b_Mo_move 297 = .ok (.getfield 23, 3) := by decide +kernel
theorem d_Mo_move_300 : decode b_Mo_move 300 = .ok (.iload_n 1, 1) := by decide +kernel
theorem d_Mo_move_301 : decode b_Mo_move 301 = .ok (.aload_n 0, 1) := by decide +kernel
theorem d_Mo_move_302 : decode b_Mo_move 302 = .ok (.getfield 20, 3) := by decide +kernel
theorem d_Mo_move_305 : decode b_Mo_move 305 = .ok (.iload_n 1, 1) := by decide +kernel
theorem d_Mo_move_306 : decode b_Mo_move 306 = .ok (.laload, 1) := by decide +kernel
theorem d_Mo_move_307 : decode b_Mo_move 307 = .ok (.lconst 0, 1) := by decide +kernel
theorem d_Mo_move_308 : decode b_Mo_move 308 = .ok (.lcmp, 1) := by decide +kernel
theorem d_Mo_move_309 : decode b_Mo_move 309 = .ok (.ifCond .ne 7, 3) := by decide +kernel
theorem d_Mo_move_312 : decode b_Mo_move 312 = .ok (.iconst 0, 1) := by decide +kernel
theorem d_Mo_move_313 : decode b_Mo_move 313 = .ok (.goto 9, 3) := by decide +kernel
theorem d_Mo_move_316 : decode b_Mo_move 316 = .ok (.aload_n 0, 1) := by decide +kernel
theorem d_Mo_move_317 : decode b_Mo_move 317 = .ok (.getfield 23, 3) := by decide +kernel
theorem d_Mo_move_320 : decode b_Mo_move 320 = .ok (.iload_n 1, 1) := by decide +kernel
theorem d_Mo_move_321 : decode b_Mo_move 321 = .ok (.iaload, 1) := by decide +kernel
theorem d_Mo_move_322 : decode b_Mo_move 322 = .ok (.iastore, 1) := by decide +kernel
theorem d_Mo_move_323 : decode b_Mo_move 323 = .ok (.iconst 0, 1) := by decide +kernel
theorem d_Mo_move_324 : decode b_Mo_move 324 = .ok (.istore 9, 2) := by decide +kernel
theorem d_Mo_move_326 : decode b_Mo_move 326 = .ok (.iconst 0, 1) := by decide +kernel
theorem d_Mo_move_327 : decode b_Mo_move 327 = .ok (.istore 10, 2) := by decide +kernel
theorem d_Mo_move_329 : decode b_Mo_move 329 = .ok (.iload 10, 2) := by decide +kernel
theorem d_Mo_move_331 : decode b_Mo_move 331 = .ok (.aload_n 0, 1) := by decide +kernel
theorem d_Mo_move_332 : decode b_Mo_move 332 = .ok (.getfield 134, 3) := by decide +kernel
theorem d_Mo_move_335 : decode b_Mo_move 335 = .ok (.if_icmp .ge 125, 3) := by decide +kernel
theorem d_Mo_move_338 : decode b_Mo_move 338 = .ok (.aload_n 0, 1) := by decide +kernel
theorem d_Mo_move_339 : decode b_Mo_move 339 = .ok (.getfield 54, 3) := by decide +kernel
theorem d_Mo_move_342 : decode b_Mo_move 342 = .ok (.iload 10, 2) := by decide +kernel
theorem d_Mo_move_344 : decode b_Mo_move 344 = .ok (.iaload, 1) := by decide +kernel
theorem d_Mo_move_345 : decode b_Mo_move 345 = .ok (.iconst 2, 1) := by decide +kernel
theorem d_Mo_move_346 : decode b_Mo_move 346 = .ok (.idiv, 1) := by decide +kernel
theorem d_Mo_move_347 : decode b_Mo_move 347 = .ok (.istore 11, 2) := by decide +kernel
theorem d_Mo_move_349 : decode b_Mo_move 349 = .ok (.aload_n 0, 1) := by decide +kernel
theorem d_Mo_move_350 : decode b_Mo_move 350 = .ok (.getfield 54, 3) := by decide +kernel
theorem d_Mo_move_353 : decode b_Mo_move 353 = .ok (.iload 10, 2) := by decide +kernel
theorem d_Mo_move_355 : decode b_Mo_move 355 = .ok (.iaload, 1) := by decide +kernel
theorem d_Mo_move_356 : decode b_Mo_move 356 = .ok (.iconst 2, 1) := by decide +kernel
theorem d_Mo_move_357 : decode b_Mo_move 357 = .ok (.irem, 1) := by decide +kernel
theorem d_Mo_move_358 : decode b_Mo_move 358 = .ok (.iconst 1, 1) := by decide +kernel
theorem d_Mo_move_359 : decode b_Mo_move 359 = .ok (.if_icmp .ne 7, 3) := by decide +kernel
theorem d_Mo_move_362 : decode b_Mo_move 362 = .ok (.iconst 1, 1) := by decide +kernel
theorem d_Mo_move_363 : decode b_Mo_move 363 = .ok (.goto 4, 3) := by decide +kernel
theorem d_Mo_move_366 : decode b_Mo_move 366 = .ok (.iconst 0, 1) := by decide +kernel
theorem d_Mo_move_367 : decode b_Mo_move 367 = .ok (.istore 12, 2) := by decide +kernel
theorem d_Mo_move_369 : decode b_Mo_move 369 = .ok (.iconst 0, 1) := by decide +kernel
theorem d_Mo_move_370 : decode b_Mo_move 370 = .ok (.istore 13, 2) := by decide +kernel
theorem d_Mo_move_372 : decode b_Mo_move 372 = .ok (.iload 13, 2) := by decide +kernel
theorem d_Mo_move_374 : decode b_Mo_move 374 = .ok (.aload_n 0, 1) := by decide +kernel
theorem d_Mo_move_375 : decode b_Mo_move 375 = .ok (.getfield 35, 3) := by decide +kernel
theorem d_Mo_move_378 : decode b_Mo_move 378 = .ok (.iload 11, 2) := by decide +kernel
theorem d_Mo_move_380 : decode b_Mo_move 380 = .ok (.iaload, 1) := by decide +kernel
theorem d_Mo_move_381 : decode b_Mo_move 381 = .ok (.if_icmp .ge 73, 3) := by decide +kernel
theorem d_Mo_move_384 : decode b_Mo_move 384 = .ok (.iload 9, 2) := by decide +kernel
theorem d_Mo_move_386 : decode b_Mo_move 386 = .ok (.iload 7, 2) := by decide +kernel
theorem d_Mo_move_388 : decode b_Mo_move 388 = .ok (.if_icmp .ge 8, 3) := by decide +kernel
theorem d_Mo_move_391 : decode b_Mo_move 391 = .ok (.iload 6, 2) := by decide +kernel
theorem d_Mo_move_393 : decode b_Mo_move 393 = .ok (.goto 13, 3) := by decide +kernel
theorem d_Mo_move_396 : decode b_Mo_move 396 = .ok (.aload_n 0, 1) := by decide +kernel
theorem d_Mo_move_397 : decode b_Mo_move 397 = .ok (.getfield 57, 3) := by decide +kernel
theorem d_Mo_move_400 : decode b_Mo_move 400 = .ok (.iload 9, 2) := by decide +kernel
theorem d_Mo_move_402 : decode b_Mo_move 402 = .ok (.iload 7, 2) := by decide +kernel
theorem d_Mo_move_404 : decode b_Mo_move 404 = .ok (.isub, 1) := by decide +kernel
theorem d_Mo_move_405 : decode b_Mo_move 405 = .ok (.baload, 1) := by decide +kernel
theorem d_Mo_move_406 : decode b_Mo_move 406 = .ok (.istore 14, 2) := by decide +kernel
theorem d_Mo_move_408 : decode b_Mo_move 408 = .ok (.aload_n 0, 1) := by decide +kernel
theorem d_Mo_move_409 : decode b_Mo_move 409 = .ok (.getfield 38, 3) := by decide +kernel
theorem d_Mo_move_412 : decode b_Mo_move 412 = .ok (.sipush 200, 3) := by decide +kernel
theorem d_Mo_move_415 : decode b_Mo_move 415 = .ok (.iload 11, 2) := by decide +kernel
theorem d_Mo_move_417 : decode b_Mo_move 417 = .ok (.imul, 1) := by decide +kernel
theorem d_Mo_move_418 : decode b_Mo_move 418 = .ok (.iload 12, 2) := by decide +kernel
theorem d_Mo_move_420 : decode b_Mo_move 420 = .ok (.ifCond .eq 18, 3) := by decide +kernel
theorem d_Mo_move_423 : decode b_Mo_move 423 = .ok (.aload_n 0, 1) := by decide +kernel
theorem d_Mo_move_424 : decode b_Mo_move 424 = .ok (.getfield 35, 3) := by decide +kernel
theorem d_Mo_move_427 : decode b_Mo_move 427 = .ok (.iload 11, 2) := by decide +kernel
theorem d_Mo_move_429 : decode b_Mo_move 429 = .ok (.iaload, 1) := by decide +kernel
theorem d_Mo_move_430 : decode b_Mo_move 430 = .ok (.iconst 1, 1) := by decide +kernel
theorem d_Mo_move_431 : decode b_Mo_move 431 = .ok (.isub, 1) := by decide +kernel
theorem d_Mo_move_432 : decode b_Mo_move 432 = .ok (.iload 13, 2) := by decide +kernel
theorem d_Mo_move_434 : decode b_Mo_move 434 = .ok (.isub, 1) := by decide +kernel
theorem d_Mo_move_435 : decode b_Mo_move 435 = .ok (.goto 5, 3) := by decide +kernel
theorem d_Mo_move_438 : decode b_Mo_move 438 = .ok (.iload 13, 2) := by decide +kernel
theorem d_Mo_move_440 : decode b_Mo_move 440 = .ok (.iadd, 1) := by decide +kernel
theorem d_Mo_move_441 : decode b_Mo_move 441 = .ok (.iload 14, 2) := by decide +kernel
theorem d_Mo_move_443 : decode b_Mo_move 443 = .ok (.i2b, 1) := by decide +kernel
theorem d_Mo_move_444 : decode b_Mo_move 444 = .ok (.bastore, 1) := by decide +kernel
theorem d_Mo_move_445 : decode b_Mo_move 445 = .ok (.iinc 9 1, 3) := by decide +kernel
theorem d_Mo_move_448 : decode b_Mo_move 448 = .ok (.iinc 13 1, 3) := by decide +kernel
theorem d_Mo_move_451 : decode b_Mo_move 451 = .ok (.goto (-79), 3) := by decide +kernel
theorem d_Mo_move_454 : decode b_Mo_move 454 = .ok (.iinc 10 1, 3) := by decide +kernel
theorem d_Mo_move_457 : decode b_Mo_move 457 = .ok (.goto (-128), 3) := by decide +kernel
theorem d_Mo_move_460 : decode b_Mo_move 460 = .ok (.iload 7, 2) := by decide +kernel
theorem d_Mo_move_462 : decode b_Mo_move 462 = .ok (.i2l, 1) := by decide +kernel
theorem d_Mo_move_463 : decode b_Mo_move 463 = .ok (.lreturn, 1) := by decide +kernel
theorem d_Mo_joined_0 : decode b_Mo_joined 0 = .ok (.aload_n 0, 1) := by decide +kernel
theorem d_Mo_joined_1 : decode b_Mo_joined 1 = .ok (.iconst 0, 1) := by decide +kernel
theorem d_Mo_joined_2 : decode b_Mo_joined 2 = .ok (.putfield 72, 3) := by decide +kernel
theorem d_Mo_joined_5 : decode b_Mo_joined 5 = .ok (.aload_n 0, 1) := by decide +kernel
theorem d_Mo_joined_6 : decode b_Mo_joined 6 = .ok (.iload_n 1, 1) := by decide +kernel
theorem d_Mo_joined_7 : decode b_Mo_joined 7 = .ok (.invokevirtual 115, 3) := by decide +kernel
theorem d_Mo_joined_10 : decode b_Mo_joined 10 = .ok (.ifCond .ne 5, 3) := by decide +kernel
theorem d_Mo_joined_13 : decode b_Mo_joined 13 = .ok (.iconst (-1), 1) := by decide +kernel
theorem d_Mo_joined_14 : decode b_Mo_joined 14 = .ok (.ireturn, 1) := by decide +kernel
theorem d_Mo_joined_15 : decode b_Mo_joined 15 = .ok (.iload_n 2, 1) := by decide +kernel
theorem d_Mo_joined_16 : decode b_Mo_joined 16 = .ok (.istore_n 3, 1) := by decide +kernel
theorem d_Mo_joined_17 : decode b_Mo_joined 17 = .ok (.iconst 0, 1) := by decide +kernel
theorem d_Mo_joined_18 : decode b_Mo_joined 18 = .ok (.istore 4, 2) := by decide +kernel
theorem d_Mo_joined_20 : decode b_Mo_joined 20 = .ok (.iload 4, 2) := by decide +kernel
theorem d_Mo_joined_22 : decode b_Mo_joined 22 = .ok (.aload_n 0, 1) := by decide +kernel
theorem d_Mo_joined_23 : decode b_Mo_joined 23 = .ok (.getfield 76, 3) := by decide +kernel
theorem d_Mo_joined_26 : decode b_Mo_joined 26 = .ok (.if_icmp .ge 49, 3) := by decide +kernel
theorem d_Mo_joined_29 : decode b_Mo_joined 29 = .ok (.iload_n 3, 1) := by decide +kernel
theorem d_Mo_joined_30 : decode b_Mo_joined 30 = .ok (.ifCond .lt 45, 3) := by decide +kernel
theorem d_Mo_joined_33 : decode b_Mo_joined 33 = .ok (.iload 4, 2) := by decide +kernel
theorem d_Mo_joined_35 : decode b_Mo_joined 35 = .ok (.iload_n 1, 1) := by decide +kernel
theorem d_Mo_joined_36 : decode b_Mo_joined 36 = .ok (.if_icmp .eq 33, 3) := by decide +kernel
theorem d_Mo_joined_39 : decode b_Mo_joined 39 = .ok (.aload_n 0, 1) := by decide +kernel
theorem d_Mo_joined_40 : decode b_Mo_joined 40 = .ok (.getfield 9, 3) := by decide +kernel
theorem d_Mo_joined_43 : decode b_Mo_joined 43 = .ok (.iload 4, 2) := by decide +kernel
theorem d_Mo_joined_45 : decode b_Mo_joined 45 = .ok (.iaload, 1) := by decide +kernel
theorem d_Mo_joined_46 : decode b_Mo_joined 46 = .ok (.ifCond .ne 23, 3) := by decide +kernel
theorem d_Mo_joined_49 : decode b_Mo_joined 49 = .ok (.aload_n 0, 1) := by decide +kernel
theorem d_Mo_joined_50 : decode b_Mo_joined 50 = .ok (.iload_n 1, 1) := by decide +kernel
theorem d_Mo_joined_51 : decode b_Mo_joined 51 = .ok (.iload 4, 2) := by decide +kernel
theorem d_Mo_joined_53 : decode b_Mo_joined 53 = .ok (.invokevirtual 137, 3) := by decide +kernel
theorem d_Mo_joined_56 : decode b_Mo_joined 56 = .ok (.ifCond .eq 13, 3) := by decide +kernel
theorem d_Mo_joined_59 : decode b_Mo_joined 59 = .ok (.iload_n 3, 1) := by decide +kernel
theorem d_Mo_joined_60 : decode b_Mo_joined 60 = .ok (.ifCond .ne 6, 3) := by decide +kernel
theorem d_Mo_joined_63 : decode b_Mo_joined 63 = .ok (.iload 4, 2) := by decide +kernel
theorem d_Mo_joined_65 : decode b_Mo_joined 65 = .ok (.ireturn, 1) := by decide +kernel
theorem d_Mo_joined_66 : decode b_Mo_joined 66 = .ok (.iinc 3 (-1), 3) := by decide +kernel
theorem d_Mo_joined_69 : decode b_Mo_joined 69 = .ok (.iinc 4 1, 3) := by decide +kernel
theorem d_Mo_joined_72 : decode b_Mo_joined 72 = .ok (.goto (-52), 3) := by decide +kernel
theorem d_Mo_joined_75 : decode b_Mo_joined 75 = .ok (.iconst (-1), 1) := by decide +kernel
theorem d_Mo_joined_76 : decode b_Mo_joined 76 = .ok (.ireturn, 1) := by decide +kernel
theorem d_Mo_unit_0 : decode b_Mo_unit 0 = .ok (.aload_n 0, 1) := by decide +kernel
theorem d_Mo_unit_1 : decode b_Mo_unit 1 = .ok (.iconst 0, 1) := by decide +kernel
theorem d_Mo_unit_2 : decode b_Mo_unit 2 = .ok (.putfield 72, 3) := by decide +kernel
theorem d_Mo_unit_5 : decode b_Mo_unit 5 = .ok (.iload_n 1, 1) := by decide +kernel
theorem d_Mo_unit_6 : decode b_Mo_unit 6 = .ok (.iconst 1, 1) := by decide +kernel
theorem d_Mo_unit_7 : decode b_Mo_unit 7 = .ok (.if_icmp .lt 19, 3) := by decide +kernel
theorem d_Mo_unit_10 : decode b_Mo_unit 10 = .ok (.iload_n 1, 1) := by decide +kernel
theorem d_Mo_unit_11 : decode b_Mo_unit 11 = .ok (.bipush 127, 2) := by decide +kernel
theorem d_Mo_unit_13 : decode b_Mo_unit 13 = .ok (.if_icmp .gt 13, 3) := by decide +kernel
theorem d_Mo_unit_16 : decode b_Mo_unit 16 = .ok (.aload_n 0, 1) := by decide +kernel
theorem d_Mo_unit_17 : decode b_Mo_unit 17 = .ok (.getfield 143, 3) := by decide +kernel
theorem d_Mo_unit_20 : decode b_Mo_unit 20 = .ok (.sipush 2000, 3) := by decide +kernel
theorem d_Mo_unit_23 : decode b_Mo_unit 23 = .ok (.if_icmp .ne 5, 3) := by decide +kernel
theorem d_Mo_unit_26 : decode b_Mo_unit 26 = .ok (.iconst 0, 1) := by decide +kernel
theorem d_Mo_unit_27 : decode b_Mo_unit 27 = .ok (.ireturn, 1) := by decide +kernel
theorem d_Mo_unit_28 : decode b_Mo_unit 28 = .ok (.aload_n 0, 1) := by decide +kernel
theorem d_Mo_unit_29 : decode b_Mo_unit 29 = .ok (.getfield 60, 3) := by decide +kernel
theorem d_Mo_unit_32 : decode b_Mo_unit 32 = .ok (.aload_n 0, 1) := by decide +kernel
theorem d_Mo_unit_33 : decode b_Mo_unit 33 = .ok (.getfield 143, 3) := by decide +kernel
theorem d_Mo_unit_36 : decode b_Mo_unit 36 = .ok (.iload_n 1, 1) := by decide +kernel
theorem d_Mo_unit_37 : decode b_Mo_unit 37 = .ok (.i2b, 1) := by decide +kernel
theorem d_Mo_unit_38 : decode b_Mo_unit 38 = .ok (.bastore, 1) := by decide +kernel
theorem d_Mo_unit_39 : decode b_Mo_unit 39 = .ok (.aload_n 0, 1) := by decide +kernel
theorem d_Mo_unit_40 : decode b_Mo_unit 40 = .ok (.dup, 1) := by decide +kernel
theorem d_Mo_unit_41 : decode b_Mo_unit 41 = .ok (.getfield 143, 3) := by decide +kernel
theorem d_Mo_unit_44 : decode b_Mo_unit 44 = .ok (.iconst 1, 1) := by decide +kernel
theorem d_Mo_unit_45 : decode b_Mo_unit 45 = .ok (.iadd, 1) := by decide +kernel
theorem d_Mo_unit_46 : decode b_Mo_unit 46 = .ok (.putfield 143, 3) := by decide +kernel
theorem d_Mo_unit_49 : decode b_Mo_unit 49 = .ok (.iconst 1, 1) := by decide +kernel
theorem d_Mo_unit_50 : decode b_Mo_unit 50 = .ok (.ireturn, 1) := by decide +kernel
theorem d_Mo_here_0 : decode b_Mo_here 0 = .ok (.aload_n 0, 1) := by decide +kernel
theorem d_Mo_here_1 : decode b_Mo_here 1 = .ok (.getfield 146, 3) := by decide +kernel
theorem d_Mo_here_4 : decode b_Mo_here 4 = .ok (.aload_n 0, 1) := by decide +kernel
theorem d_Mo_here_5 : decode b_Mo_here 5 = .ok (.getfield 143, 3) := by decide +kernel
theorem d_Mo_here_8 : decode b_Mo_here 8 = .ok (.if_icmp .ge 15, 3) := by decide +kernel
theorem d_Mo_here_11 : decode b_Mo_here 11 = .ok (.aload_n 0, 1) := by decide +kernel
theorem d_Mo_here_12 : decode b_Mo_here 12 = .ok (.getfield 60, 3) := by decide +kernel
theorem d_Mo_here_15 : decode b_Mo_here 15 = .ok (.aload_n 0, 1) := by decide +kernel
theorem d_Mo_here_16 : decode b_Mo_here 16 = .ok (.getfield 146, 3) := by decide +kernel
theorem d_Mo_here_19 : decode b_Mo_here 19 = .ok (.baload, 1) := by decide +kernel
theorem d_Mo_here_20 : decode b_Mo_here 20 = .ok (.goto 4, 3) := by decide +kernel
theorem d_Mo_here_23 : decode b_Mo_here 23 = .ok (.iconst 0, 1) := by decide +kernel
theorem d_Mo_here_24 : decode b_Mo_here 24 = .ok (.ireturn, 1) := by decide +kernel
theorem d_Mo_over_0 : decode b_Mo_over 0 = .ok (.lload_n 1, 1) := by decide +kernel
theorem d_Mo_over_1 : decode b_Mo_over 1 = .ok (.lstore_n 3, 1) := by decide +kernel
theorem d_Mo_over_2 : decode b_Mo_over 2 = .ok (.lload_n 3, 1) := by decide +kernel
theorem d_Mo_over_3 : decode b_Mo_over 3 = .ok (.lconst 0, 1) := by decide +kernel
theorem d_Mo_over_4 : decode b_Mo_over 4 = .ok (.lcmp, 1) := by decide +kernel
theorem d_Mo_over_5 : decode b_Mo_over 5 = .ok (.ifCond .eq 36, 3) := by decide +kernel
theorem d_Mo_over_8 : decode b_Mo_over 8 = .ok (.aload_n 0, 1) := by decide +kernel
theorem d_Mo_over_9 : decode b_Mo_over 9 = .ok (.invokevirtual 149, 3) := by decide +kernel
theorem d_Mo_over_12 : decode b_Mo_over 12 = .ok (.lload_n 3, 1) := by decide +kernel
theorem d_Mo_over_13 : decode b_Mo_over 13 = .ok (.ldc2_w 153, 3) := by decide +kernel
theorem d_Mo_over_16 : decode b_Mo_over 16 = .ok (.land, 1) := by decide +kernel
theorem d_Mo_over_17 : decode b_Mo_over 17 = .ok (.l2i, 1) := by decide +kernel
theorem d_Mo_over_18 : decode b_Mo_over 18 = .ok (.if_icmp .eq 5, 3) := by decide +kernel
theorem d_Mo_over_21 : decode b_Mo_over 21 = .ok (.iconst 0, 1) := by decide +kernel
theorem d_Mo_over_22 : decode b_Mo_over 22 = .ok (.ireturn, 1) := by decide +kernel
theorem d_Mo_over_23 : decode b_Mo_over 23 = .ok (.aload_n 0, 1) := by decide +kernel
theorem d_Mo_over_24 : decode b_Mo_over 24 = .ok (.dup, 1) := by decide +kernel
theorem d_Mo_over_25 : decode b_Mo_over 25 = .ok (.getfield 146, 3) := by decide +kernel
theorem d_Mo_over_28 : decode b_Mo_over 28 = .ok (.iconst 1, 1) := by decide +kernel
theorem d_Mo_over_29 : decode b_Mo_over 29 = .ok (.iadd, 1) := by decide +kernel
theorem d_Mo_over_30 : decode b_Mo_over 30 = .ok (.putfield 146, 3) := by decide +kernel
theorem d_Mo_over_33 : decode b_Mo_over 33 = .ok (.lload_n 3, 1) := by decide +kernel
theorem d_Mo_over_34 : decode b_Mo_over 34 = .ok (.bipush 8, 2) := by decide +kernel
theorem d_Mo_over_36 : decode b_Mo_over 36 = .ok (.lushr, 1) := by decide +kernel
theorem d_Mo_over_37 : decode b_Mo_over 37 = .ok (.lstore_n 3, 1) := by decide +kernel
theorem d_Mo_over_38 : decode b_Mo_over 38 = .ok (.goto (-36), 3) := by decide +kernel
theorem d_Mo_over_41 : decode b_Mo_over 41 = .ok (.iconst 1, 1) := by decide +kernel
theorem d_Mo_over_42 : decode b_Mo_over 42 = .ok (.ireturn, 1) := by decide +kernel
theorem d_Mo_value_0 : decode b_Mo_value 0 = .ok (.aload_n 0, 1) := by decide +kernel
theorem d_Mo_value_1 : decode b_Mo_value 1 = .ok (.ldc2_w 155, 3) := by decide +kernel
theorem d_Mo_value_4 : decode b_Mo_value 4 = .ok (.invokevirtual 157, 3) := by decide +kernel
theorem d_Mo_value_7 : decode b_Mo_value 7 = .ok (.ifCond .ne 5, 3) := by decide +kernel
theorem d_Mo_value_10 : decode b_Mo_value 10 = .ok (.iconst 0, 1) := by decide +kernel
theorem d_Mo_value_11 : decode b_Mo_value 11 = .ok (.ireturn, 1) := by decide +kernel
theorem d_Mo_value_12 : decode b_Mo_value 12 = .ok (.aload_n 0, 1) := by decide +kernel
theorem d_Mo_value_13 : decode b_Mo_value 13 = .ok (.ldc2_w 141, 3) := by decide +kernel
theorem d_Mo_value_16 : decode b_Mo_value 16 = .ok (.putfield 161, 3) := by decide +kernel
theorem d_Mo_value_19 : decode b_Mo_value 19 = .ok (.iload_n 1, 1) := by decide +kernel
theorem d_Mo_value_20 : decode b_Mo_value 20 = .ok (.ifCond .eq 24, 3) := by decide +kernel
theorem d_Mo_value_23 : decode b_Mo_value 23 = .ok (.aload_n 0, 1) := by decide +kernel
theorem d_Mo_value_24 : decode b_Mo_value 24 = .ok (.invokevirtual 149, 3) := by decide +kernel
theorem d_Mo_value_27 : decode b_Mo_value 27 = .ok (.bipush 45, 2) := by decide +kernel
theorem d_Mo_value_29 : decode b_Mo_value 29 = .ok (.if_icmp .ne 15, 3) := by decide +kernel
theorem d_Mo_value_32 : decode b_Mo_value 32 = .ok (.aload_n 0, 1) := by decide +kernel
theorem d_Mo_value_33 : decode b_Mo_value 33 = .ok (.dup, 1) := by decide +kernel
theorem d_Mo_value_34 : decode b_Mo_value 34 = .ok (.getfield 146, 3) := by decide +kernel
theorem d_Mo_value_37 : decode b_Mo_value 37 = .ok (.iconst 1, 1) := by decide +kernel
theorem d_Mo_value_38 : decode b_Mo_value 38 = .ok (.iadd, 1) := by decide +kernel
theorem d_Mo_value_39 : decode b_Mo_value 39 = .ok (.putfield 146, 3) := by decide +kernel
theorem d_Mo_value_42 : decode b_Mo_value 42 = .ok (.iconst 1, 1) := by decide +kernel
theorem d_Mo_value_43 : decode b_Mo_value 43 = .ok (.ireturn, 1) := by decide +kernel
theorem d_Mo_value_44 : decode b_Mo_value 44 = .ok (.aload_n 0, 1) := by decide +kernel
theorem d_Mo_value_45 : decode b_Mo_value 45 = .ok (.getfield 146, 3) := by decide +kernel
theorem d_Mo_value_48 : decode b_Mo_value 48 = .ok (.istore_n 2, 1) := by decide +kernel
theorem d_Mo_value_49 : decode b_Mo_value 49 = .ok (.aload_n 0, 1) := by decide +kernel
theorem d_Mo_value_50 : decode b_Mo_value 50 = .ok (.lconst 0, 1) := by decide +kernel
theorem d_Mo_value_51 : decode b_Mo_value 51 = .ok (.putfield 161, 3) := by decide +kernel
theorem d_Mo_value_54 : decode b_Mo_value 54 = .ok (.aload_n 0, 1) := by decide +kernel
theorem d_Mo_value_55 : decode b_Mo_value 55 = .ok (.invokevirtual 149, 3) := by decide +kernel
theorem d_Mo_value_58 : decode b_Mo_value 58 = .ok (.bipush 48, 2) := by decide +kernel
theorem d_Mo_value_60 : decode b_Mo_value 60 = .ok (.if_icmp .lt 77, 3) := by decide +kernel
theorem d_Mo_value_63 : decode b_Mo_value 63 = .ok (.aload_n 0, 1) := by decide +kernel
theorem d_Mo_value_64 : decode b_Mo_value 64 = .ok (.invokevirtual 149, 3) := by decide +kernel
theorem d_Mo_value_67 : decode b_Mo_value 67 = .ok (.bipush 57, 2) := by decide +kernel
theorem d_Mo_value_69 : decode b_Mo_value 69 = .ok (.if_icmp .gt 68, 3) := by decide +kernel
theorem d_Mo_value_72 : decode b_Mo_value 72 = .ok (.aload_n 0, 1) := by decide +kernel
theorem d_Mo_value_73 : decode b_Mo_value 73 = .ok (.getfield 146, 3) := by decide +kernel
theorem d_Mo_value_76 : decode b_Mo_value 76 = .ok (.iload_n 2, 1) := by decide +kernel
theorem d_Mo_value_77 : decode b_Mo_value 77 = .ok (.bipush 7, 2) := by decide +kernel
theorem d_Mo_value_79 : decode b_Mo_value 79 = .ok (.iadd, 1) := by decide +kernel
theorem d_Mo_value_80 : decode b_Mo_value 80 = .ok (.if_icmp .ge 57, 3) := by decide +kernel
theorem d_Mo_value_83 : decode b_Mo_value 83 = .ok (.aload_n 0, 1) := by decide +kernel
theorem d_Mo_value_84 : decode b_Mo_value 84 = .ok (.getfield 146, 3) := by decide +kernel
theorem d_Mo_value_87 : decode b_Mo_value 87 = .ok (.iload_n 2, 1) := by decide +kernel
theorem d_Mo_value_88 : decode b_Mo_value 88 = .ok (.iconst 1, 1) := by decide +kernel
theorem d_Mo_value_89 : decode b_Mo_value 89 = .ok (.iadd, 1) := by decide +kernel
theorem d_Mo_value_90 : decode b_Mo_value 90 = .ok (.if_icmp .ne 12, 3) := by decide +kernel
theorem d_Mo_value_93 : decode b_Mo_value 93 = .ok (.aload_n 0, 1) := by decide +kernel
theorem d_Mo_value_94 : decode b_Mo_value 94 = .ok (.getfield 161, 3) := by decide +kernel
theorem d_Mo_value_97 : decode b_Mo_value 97 = .ok (.lconst 0, 1) := by decide +kernel
theorem d_Mo_value_98 : decode b_Mo_value 98 = .ok (.lcmp, 1) := by decide +kernel
theorem d_Mo_value_99 : decode b_Mo_value 99 = .ok (.ifCond .eq 38, 3) := by decide +kernel
theorem d_Mo_value_102 : decode b_Mo_value 102 = .ok (.aload_n 0, 1) := by decide +kernel
theorem d_Mo_value_103 : decode b_Mo_value 103 = .ok (.ldc2_w 165, 3) := by decide +kernel
theorem d_Mo_value_106 : decode b_Mo_value 106 = .ok (.aload_n 0, 1) := by decide +kernel
theorem d_Mo_value_107 : decode b_Mo_value 107 = .ok (.getfield 161, 3) := by decide +kernel
theorem d_Mo_value_110 : decode b_Mo_value 110 = .ok (.lmul, 1) := by decide +kernel
theorem d_Mo_value_111 : decode b_Mo_value 111 = .ok (.aload_n 0, 1) := by decide +kernel
theorem d_Mo_value_112 : decode b_Mo_value 112 = .ok (.invokevirtual 149, 3) := by decide +kernel
theorem d_Mo_value_115 : decode b_Mo_value 115 = .ok (.i2l, 1) := by decide +kernel
theorem d_Mo_value_116 : decode b_Mo_value 116 = .ok (.ladd, 1) := by decide +kernel
theorem d_Mo_value_117 : decode b_Mo_value 117 = .ok (.ldc2_w 167, 3) := by decide +kernel
theorem d_Mo_value_120 : decode b_Mo_value 120 = .ok (.lsub, 1) := by decide +kernel
theorem d_Mo_value_121 : decode b_Mo_value 121 = .ok (.putfield 161, 3) := by decide +kernel
theorem d_Mo_value_124 : decode b_Mo_value 124 = .ok (.aload_n 0, 1) := by decide +kernel
theorem d_Mo_value_125 : decode b_Mo_value 125 = .ok (.dup, 1) := by decide +kernel
theorem d_Mo_value_126 : decode b_Mo_value 126 = .ok (.getfield 146, 3) := by decide +kernel
theorem d_Mo_value_129 : decode b_Mo_value 129 = .ok (.iconst 1, 1) := by decide +kernel
theorem d_Mo_value_130 : decode b_Mo_value 130 = .ok (.iadd, 1) := by decide +kernel
theorem d_Mo_value_131 : decode b_Mo_value 131 = .ok (.putfield 146, 3) := by decide +kernel
theorem d_Mo_value_134 : decode b_Mo_value 134 = .ok (.goto (-80), 3) := by decide +kernel
theorem d_Mo_value_137 : decode b_Mo_value 137 = .ok (.aload_n 0, 1) := by decide +kernel
theorem d_Mo_value_138 : decode b_Mo_value 138 = .ok (.getfield 146, 3) := by decide +kernel
theorem d_Mo_value_141 : decode b_Mo_value 141 = .ok (.iload_n 2, 1) := by decide +kernel
theorem d_Mo_value_142 : decode b_Mo_value 142 = .ok (.if_icmp .le 7, 3) := by decide +kernel
theorem d_Mo_value_145 : decode b_Mo_value 145 = .ok (.iconst 1, 1) := by decide +kernel
theorem d_Mo_value_146 : decode b_Mo_value 146 = .ok (.goto 4, 3) := by decide +kernel
theorem d_Mo_value_149 : decode b_Mo_value 149 = .ok (.iconst 0, 1) := by decide +kernel
theorem d_Mo_value_150 : decode b_Mo_value 150 = .ok (.ireturn, 1) := by decide +kernel
theorem d_Mo_line_0 : decode b_Mo_line 0 = .ok (.iconst (-1), 1) := by decide +kernel
theorem d_Mo_line_1 : decode b_Mo_line 1 = .ok (.istore_n 1, 1) := by decide +kernel
theorem d_Mo_line_2 : decode b_Mo_line 2 = .ok (.iconst 0, 1) := by decide +kernel
theorem d_Mo_line_3 : decode b_Mo_line 3 = .ok (.istore_n 2, 1) := by decide +kernel
theorem d_Mo_line_4 : decode b_Mo_line 4 = .ok (.aload_n 0, 1) := by decide +kernel
theorem d_Mo_line_5 : decode b_Mo_line 5 = .ok (.invokevirtual 149, 3) := by decide +kernel
theorem d_Mo_line_8 : decode b_Mo_line 8 = .ok (.bipush 116, 2) := by decide +kernel
theorem d_Mo_line_10 : decode b_Mo_line 10 = .ok (.if_icmp .ne 24, 3) := by decide +kernel
theorem d_Mo_line_13 : decode b_Mo_line 13 = .ok (.aload_n 0, 1) := by decide +kernel
theorem d_Mo_line_14 : decode b_Mo_line 14 = .ok (.ldc2_w 169, 3) := by decide +kernel
theorem d_Mo_line_17 : decode b_Mo_line 17 = .ok (.invokevirtual 157, 3) := by decide +kernel
theorem d_Mo_line_20 : decode b_Mo_line 20 = .ok (.ifCond .eq 7, 3) := by decide +kernel
theorem d_Mo_line_23 : decode b_Mo_line 23 = .ok (.iconst 0, 1) := by decide +kernel
theorem d_Mo_line_24 : decode b_Mo_line 24 = .ok (.goto 4, 3) := by decide +kernel
theorem d_Mo_line_27 : decode b_Mo_line 27 = .ok (.iconst (-1), 1) := by decide +kernel
theorem d_Mo_line_28 : decode b_Mo_line 28 = .ok (.istore_n 1, 1) := by decide +kernel
theorem d_Mo_line_29 : decode b_Mo_line 29 = .ok (.iconst 1, 1) := by decide +kernel
theorem d_Mo_line_30 : decode b_Mo_line 30 = .ok (.istore_n 2, 1) := by decide +kernel
theorem d_Mo_line_31 : decode b_Mo_line 31 = .ok (.goto 89, 3) := by decide +kernel
theorem d_Mo_line_34 : decode b_Mo_line 34 = .ok (.aload_n 0, 1) := by decide +kernel
theorem d_Mo_line_35 : decode b_Mo_line 35 = .ok (.invokevirtual 149, 3) := by decide +kernel
theorem d_Mo_line_38 : decode b_Mo_line 38 = .ok (.bipush 118, 2) := by decide +kernel
theorem d_Mo_line_40 : decode b_Mo_line 40 = .ok (.if_icmp .ne 24, 3) := by decide +kernel
theorem d_Mo_line_43 : decode b_Mo_line 43 = .ok (.aload_n 0, 1) := by decide +kernel
theorem d_Mo_line_44 : decode b_Mo_line 44 = .ok (.ldc2_w 171, 3) := by decide +kernel
theorem d_Mo_line_47 : decode b_Mo_line 47 = .ok (.invokevirtual 157, 3) := by decide +kernel
theorem d_Mo_line_50 : decode b_Mo_line 50 = .ok (.ifCond .eq 7, 3) := by decide +kernel
theorem d_Mo_line_53 : decode b_Mo_line 53 = .ok (.iconst 2, 1) := by decide +kernel
theorem d_Mo_line_54 : decode b_Mo_line 54 = .ok (.goto 4, 3) := by decide +kernel
theorem d_Mo_line_57 : decode b_Mo_line 57 = .ok (.iconst (-1), 1) := by decide +kernel
theorem d_Mo_line_58 : decode b_Mo_line 58 = .ok (.istore_n 1, 1) := by decide +kernel
theorem d_Mo_line_59 : decode b_Mo_line 59 = .ok (.iconst 1, 1) := by decide +kernel
theorem d_Mo_line_60 : decode b_Mo_line 60 = .ok (.istore_n 2, 1) := by decide +kernel
theorem d_Mo_line_61 : decode b_Mo_line 61 = .ok (.goto 59, 3) := by decide +kernel
theorem d_Mo_line_64 : decode b_Mo_line 64 = .ok (.aload_n 0, 1) := by decide +kernel
theorem d_Mo_line_65 : decode b_Mo_line 65 = .ok (.ldc2_w 173, 3) := by decide +kernel
theorem d_Mo_line_68 : decode b_Mo_line 68 = .ok (.invokevirtual 157, 3) := by decide +kernel
theorem d_Mo_line_71 : decode b_Mo_line 71 = .ok (.ifCond .eq 49, 3) := by decide +kernel
theorem d_Mo_line_74 : decode b_Mo_line 74 = .ok (.aload_n 0, 1) := by decide +kernel
theorem d_Mo_line_75 : decode b_Mo_line 75 = .ok (.invokevirtual 149, 3) := by decide +kernel
theorem d_Mo_line_78 : decode b_Mo_line 78 = .ok (.bipush 117, 2) := by decide +kernel
theorem d_Mo_line_80 : decode b_Mo_line 80 = .ok (.if_icmp .ne 22, 3) := by decide +kernel
theorem d_Mo_line_83 : decode b_Mo_line 83 = .ok (.aload_n 0, 1) := by decide +kernel
theorem d_Mo_line_84 : decode b_Mo_line 84 = .ok (.ldc2_w 175, 3) := by decide +kernel
theorem d_Mo_line_87 : decode b_Mo_line 87 = .ok (.invokevirtual 157, 3) := by decide +kernel
theorem d_Mo_line_90 : decode b_Mo_line 90 = .ok (.ifCond .eq 7, 3) := by decide +kernel
theorem d_Mo_line_93 : decode b_Mo_line 93 = .ok (.iconst 1, 1) := by decide +kernel
theorem d_Mo_line_94 : decode b_Mo_line 94 = .ok (.goto 4, 3) := by decide +kernel
theorem d_Mo_line_97 : decode b_Mo_line 97 = .ok (.iconst (-1), 1) := by decide +kernel
theorem d_Mo_line_98 : decode b_Mo_line 98 = .ok (.istore_n 1, 1) := by decide +kernel
theorem d_Mo_line_99 : decode b_Mo_line 99 = .ok (.goto 21, 3) := by decide +kernel
theorem d_Mo_line_102 : decode b_Mo_line 102 = .ok (.aload_n 0, 1) := by decide +kernel
theorem d_Mo_line_103 : decode b_Mo_line 103 = .ok (.ldc2_w 177, 3) := by decide +kernel
theorem d_Mo_line_106 : decode b_Mo_line 106 = .ok (.invokevirtual 157, 3) := by decide +kernel
theorem d_Mo_line_109 : decode b_Mo_line 109 = .ok (.ifCond .eq 7, 3) := by decide +kernel
theorem d_Mo_line_112 : decode b_Mo_line 112 = .ok (.iconst 3, 1) := by decide +kernel
theorem d_Mo_line_113 : decode b_Mo_line 113 = .ok (.goto 4, 3) := by decide +kernel
theorem d_Mo_line_116 : decode b_Mo_line 116 = .ok (.iconst (-1), 1) := by decide +kernel
theorem d_Mo_line_117 : decode b_Mo_line 117 = .ok (.istore_n 1, 1) := by decide +kernel
theorem d_Mo_line_118 : decode b_Mo_line 118 = .ok (.iconst 3, 1) := by decide +kernel
theorem d_Mo_line_119 : decode b_Mo_line 119 = .ok (.istore_n 2, 1) := by decide +kernel
theorem d_Mo_line_120 : decode b_Mo_line 120 = .ok (.iload_n 1, 1) := by decide +kernel
theorem d_Mo_line_121 : decode b_Mo_line 121 = .ok (.iconst (-1), 1) := by decide +kernel
theorem d_Mo_line_122 : decode b_Mo_line 122 = .ok (.if_icmp .ne 5, 3) := by decide +kernel
theorem d_Mo_line_125 : decode b_Mo_line 125 = .ok (.iconst (-1), 1) := by decide +kernel
theorem d_Mo_line_126 : decode b_Mo_line 126 = .ok (.ireturn, 1) := by decide +kernel
theorem d_Mo_line_127 : decode b_Mo_line 127 = .ok (.iconst 0, 1) := by decide +kernel
theorem d_Mo_line_128 : decode b_Mo_line 128 = .ok (.istore_n 3, 1) := by decide +kernel
theorem d_Mo_line_129 : decode b_Mo_line 129 = .ok (.iload_n 3, 1) := by decide +kernel
theorem d_Mo_line_130 : decode b_Mo_line 130 = .ok (.iload_n 2, 1) := by decide +kernel
theorem d_Mo_line_131 : decode b_Mo_line 131 = .ok (.if_icmp .ge 44, 3) := by decide +kernel
theorem d_Mo_line_134 : decode b_Mo_line 134 = .ok (.aload_n 0, 1) := by decide +kernel
theorem d_Mo_line_135 : decode b_Mo_line 135 = .ok (.iload_n 1, 1) := by decide +kernel
theorem d_Mo_line_136 : decode b_Mo_line 136 = .ok (.iconst 3, 1) := by decide +kernel
theorem d_Mo_line_137 : decode b_Mo_line 137 = .ok (.if_icmp .ne 12, 3) := by decide +kernel
theorem d_Mo_line_140 : decode b_Mo_line 140 = .ok (.iload_n 3, 1) := by decide +kernel
theorem d_Mo_line_141 : decode b_Mo_line 141 = .ok (.iconst 2, 1) := by decide +kernel
theorem d_Mo_line_142 : decode b_Mo_line 142 = .ok (.if_icmp .ge 7, 3) := by decide +kernel
theorem d_Mo_line_145 : decode b_Mo_line 145 = .ok (.iconst 1, 1) := by decide +kernel
theorem d_Mo_line_146 : decode b_Mo_line 146 = .ok (.goto 4, 3) := by decide +kernel
theorem d_Mo_line_149 : decode b_Mo_line 149 = .ok (.iconst 0, 1) := by decide +kernel
theorem d_Mo_line_150 : decode b_Mo_line 150 = .ok (.invokevirtual 179, 3) := by decide +kernel
theorem d_Mo_line_153 : decode b_Mo_line 153 = .ok (.ifCond .ne 5, 3) := by decide +kernel
theorem d_Mo_line_156 : decode b_Mo_line 156 = .ok (.iconst (-1), 1) := by decide +kernel
theorem d_Mo_line_157 : decode b_Mo_line 157 = .ok (.ireturn, 1) := by decide +kernel
theorem d_Mo_line_158 : decode b_Mo_line 158 = .ok (.aload_n 0, 1) := by decide +kernel
theorem d_Mo_line_159 : decode b_Mo_line 159 = .ok (.getfield 69, 3) := by decide +kernel
theorem d_Mo_line_162 : decode b_Mo_line 162 = .ok (.iload_n 3, 1) := by decide +kernel
theorem d_Mo_line_163 : decode b_Mo_line 163 = .ok (.aload_n 0, 1) := by decide +kernel
theorem d_Mo_line_164 : decode b_Mo_line 164 = .ok (.getfield 161, 3) := by decide +kernel
theorem d_Mo_line_167 : decode b_Mo_line 167 = .ok (.l2i, 1) := by decide +kernel
theorem d_Mo_line_168 : decode b_Mo_line 168 = .ok (.iastore, 1) := by decide +kernel
theorem d_Mo_line_169 : decode b_Mo_line 169 = .ok (.iinc 3 1, 3) := by decide +kernel
theorem d_Mo_line_172 : decode b_Mo_line 172 = .ok (.goto (-43), 3) := by decide +kernel
theorem d_Mo_line_175 : decode b_Mo_line 175 = .ok (.aload_n 0, 1) := by decide +kernel
theorem d_Mo_line_176 : decode b_Mo_line 176 = .ok (.invokevirtual 149, 3) := by decide +kernel
theorem d_Mo_line_179 : decode b_Mo_line 179 = .ok (.bipush 10, 2) := by decide +kernel
theorem d_Mo_line_181 : decode b_Mo_line 181 = .ok (.if_icmp .ne 7, 3) := by decide +kernel
theorem d_Mo_line_184 : decode b_Mo_line 184 = .ok (.iload_n 1, 1) := by decide +kernel
theorem d_Mo_line_185 : decode b_Mo_line 185 = .ok (.goto 4, 3) := by decide +kernel
theorem d_Mo_line_188 : decode b_Mo_line 188 = .ok (.iconst (-1), 1) := by decide +kernel
theorem d_Mo_line_189 : decode b_Mo_line 189 = .ok (.ireturn, 1) := by decide +kernel
theorem kw32_6501a0b : (Cond.fieldLink R_Mo 72 "PlantGraphModel" "thrown" "I" : Cond) ∈ tb := by decide +kernel
theorem kw32_9096378 : (Cond.methodLink R_Mo 115 y_Mo_isTank : Cond) ∈ tb := by decide +kernel
theorem kw32_f60b64a : (Cond.instanceMethod y_Mo_isTank : Cond) ∈ tb := by decide +kernel
theorem kw32_aff81c1 : (Cond.selects R_Mo y_Mo_isTank y_Mo_isTank : Cond) ∈ tb := by decide +kernel
theorem kw32_7a5931c : (Cond.initialized R_Mo : Cond) ∈ tb := by decide +kernel
theorem kw32_0b8852f : (Cond.code y_Mo_isTank b_Mo_isTank 2 (some .boolean) : Cond) ∈ tb := by decide +kernel
theorem kw32_485221d : (Cond.constantLong R_Mo 141 (-1) : Cond) ∈ tb := by decide +kernel
theorem kw32_8ce1ef1 : (Cond.constantLong R_Mo 79 100000 : Cond) ∈ tb := by decide +kernel
theorem kw32_b63ebdf : (Cond.methodLink R_Mo 137 y_Mo_find : Cond) ∈ tb := by decide +kernel
theorem kw32_53fad68 : (Cond.instanceMethod y_Mo_find : Cond) ∈ tb := by decide +kernel
theorem kw32_250de68 : (Cond.selects R_Mo y_Mo_find y_Mo_find : Cond) ∈ tb := by decide +kernel
theorem kw32_282a8c8 : (Cond.code y_Mo_find b_Mo_find 8 (some .boolean) : Cond) ∈ tb := by decide +kernel
theorem kw32_39da439 : (Cond.fieldLink R_Mo 23 "PlantGraphModel" "liquids" "[I" : Cond) ∈ tb := by decide +kernel
theorem kw32_2e8e0ae : (Cond.fieldLink R_Mo 57 "PlantGraphModel" "line" "[B" : Cond) ∈ tb := by decide +kernel
theorem kw32_ca8a8d8 : (Cond.fieldLink R_Mo 20 "PlantGraphModel" "litres" "[J" : Cond) ∈ tb := by decide +kernel
theorem kw32_3652779 : (Cond.fieldLink R_Mo 16 "PlantGraphModel" "rooms" "[J" : Cond) ∈ tb := by decide +kernel
theorem kw32_7460624 : (Cond.methodLink R_Mo 118 y_Mo_come : Cond) ∈ tb := by decide +kernel
theorem kw32_bddea6e : (Cond.instanceMethod y_Mo_come : Cond) ∈ tb := by decide +kernel
theorem kw32_659c46d : (Cond.selects R_Mo y_Mo_come y_Mo_come : Cond) ∈ tb := by decide +kernel
theorem kw32_5eee85d : (Cond.code y_Mo_come b_Mo_come 5 none : Cond) ∈ tb := by decide +kernel
theorem kw32_aabbf4f : (Cond.fieldLink R_Mo 134 "PlantGraphModel" "wide" "I" : Cond) ∈ tb := by decide +kernel
theorem kw32_34de539 : (Cond.fieldLink R_Mo 54 "PlantGraphModel" "way" "[I" : Cond) ∈ tb := by decide +kernel
theorem kw32_b664d45 : (Cond.fieldLink R_Mo 35 "PlantGraphModel" "sizes" "[I" : Cond) ∈ tb := by decide +kernel
theorem kw32_fd4a9fd : (Cond.fieldLink R_Mo 38 "PlantGraphModel" "contents" "[B" : Cond) ∈ tb := by decide +kernel
theorem kw32_063c233 : (Cond.fieldLink R_Mo 76 "PlantGraphModel" "things" "I" : Cond) ∈ tb := by decide +kernel
theorem kw32_cf02404 : (Cond.fieldLink R_Mo 9 "PlantGraphModel" "kinds" "[I" : Cond) ∈ tb := by decide +kernel
theorem kw32_f319621 : (Cond.fieldLink R_Mo 143 "PlantGraphModel" "size" "I" : Cond) ∈ tb := by decide +kernel
theorem kw32_705ee1c : (Cond.fieldLink R_Mo 60 "PlantGraphModel" "text" "[B" : Cond) ∈ tb := by decide +kernel
theorem kw32_72ee9a0 : (Cond.fieldLink R_Mo 146 "PlantGraphModel" "place" "I" : Cond) ∈ tb := by decide +kernel
theorem kw32_5ffaa2f : (Cond.methodLink R_Mo 149 y_Mo_here : Cond) ∈ tb := by decide +kernel
theorem kw32_4ddafd5 : (Cond.instanceMethod y_Mo_here : Cond) ∈ tb := by decide +kernel
theorem kw32_d996e64 : (Cond.selects R_Mo y_Mo_here y_Mo_here : Cond) ∈ tb := by decide +kernel
theorem kw32_a4d8f3a : (Cond.code y_Mo_here b_Mo_here 1 (some .int) : Cond) ∈ tb := by decide +kernel
theorem kw32_6c6cb25 : (Cond.constantLong R_Mo 153 255 : Cond) ∈ tb := by decide +kernel
theorem kw32_3ffcd02 : (Cond.constantLong R_Mo 155 32 : Cond) ∈ tb := by decide +kernel
theorem kw32_4914bae : (Cond.methodLink R_Mo 157 y_Mo_over : Cond) ∈ tb := by decide +kernel
theorem kw32_0f34b7b : (Cond.instanceMethod y_Mo_over : Cond) ∈ tb := by decide +kernel
theorem kw32_76cdcc2 : (Cond.selects R_Mo y_Mo_over y_Mo_over : Cond) ∈ tb := by decide +kernel
theorem kw32_b51ddd1 : (Cond.code y_Mo_over b_Mo_over 5 (some .boolean) : Cond) ∈ tb := by decide +kernel
theorem kw32_95e4c86 : (Cond.fieldLink R_Mo 161 "PlantGraphModel" "number" "J" : Cond) ∈ tb := by decide +kernel
theorem kw32_63be58a : (Cond.constantLong R_Mo 165 10 : Cond) ∈ tb := by decide +kernel
theorem kw32_64a98e1 : (Cond.constantLong R_Mo 167 48 : Cond) ∈ tb := by decide +kernel
theorem kw32_23b526c : (Cond.constantLong R_Mo 173 112 : Cond) ∈ tb := by decide +kernel
theorem kw32_4781994 : (Cond.constantLong R_Mo 177 6647913 : Cond) ∈ tb := by decide +kernel
theorem kw32_91c0eaa : (Cond.constantLong R_Mo 175 7368053 : Cond) ∈ tb := by decide +kernel
theorem kw32_955e88f : (Cond.constantLong R_Mo 171 435778511222 : Cond) ∈ tb := by decide +kernel
theorem kw32_2d0149c : (Cond.constantLong R_Mo 169 1802396020 : Cond) ∈ tb := by decide +kernel
theorem kw32_d148dfa : (Cond.methodLink R_Mo 179 y_Mo_value : Cond) ∈ tb := by decide +kernel
theorem kw32_f940ced : (Cond.instanceMethod y_Mo_value : Cond) ∈ tb := by decide +kernel
theorem kw32_6a7a569 : (Cond.selects R_Mo y_Mo_value y_Mo_value : Cond) ∈ tb := by decide +kernel
theorem kw32_0ed84a1 : (Cond.code y_Mo_value b_Mo_value 3 (some .boolean) : Cond) ∈ tb := by decide +kernel
theorem kw32_6657e9c : (Cond.fieldLink R_Mo 69 "PlantGraphModel" "words" "[I" : Cond) ∈ tb := by decide +kernel
def wj_Mo_move_260 (x1 : Int32) (x2 : Int32) (B_184 : Int32 → Int32 → (Nat → Int64) → (Nat → Int32) → Prop) (x7_J260 : Int32) (x9_J260 : Int32) (f_t_litres_J260 : (Nat → Int64)) (f_t_liquids_J260 : (Nat → Int32)) (s0_J260 : Int32) : Prop := ((s0_J260 = 0 → B_184 x7_J260 s0_J260 f_t_litres_J260 f_t_liquids_J260) ∧ (¬ s0_J260 = 0 → (vp_in x1 40 ∧ (vp_in x1 40 ∧ ((x9_J260 ≤ 0 → B_184 (x7_J260 + 1) s0_J260 (vp_updL f_t_litres_J260 x1.toNatClampNeg ((f_t_litres_J260 x1.toNatClampNeg) - 1)) f_t_liquids_J260) ∧ (¬ x9_J260 ≤ 0 → wp_Mo_come (vp_updL f_t_litres_J260 x1.toNatClampNeg ((f_t_litres_J260 x1.toNatClampNeg) - 1)) f_t_liquids_J260 x2 x9_J260 1 (fun f_t_litres_c287 f_t_liquids_c287 => B_184 (x7_J260 + 1) s0_J260 f_t_litres_c287 f_t_liquids_c287)))))))
def wk_Mo_move_164_102 (x6_J97 : Int32) (B_59 : Int32 → Int32 → (Nat → Int32) → Prop) (x5_L102 : Int32) (x9_L102 : Int32) (f_t_line_L102 : (Nat → Int32)) : Prop := B_59 x5_L102 (x6_J97 + 1) f_t_line_L102
def wl_Mo_move_102 (x7_J97 : Int32) (f_t_sizes : (Nat → Int32)) (s0_J97 : Int32) (f_t_contents : (Nat → Int32)) (K_164 : Int32 → Int32 → (Nat → Int32) → Prop) : Nat → Int32 → Int32 → (Nat → Int32) → Prop
  | 0, _, _, _ => False
  | k_102 + 1, x5_L102, x9_L102, f_t_line_L102 => (vp_in x7_J97 60 ∧ (((f_t_sizes x7_J97.toNatClampNeg) ≤ x9_L102 → K_164 x5_L102 x9_L102 f_t_line_L102) ∧ (¬ (f_t_sizes x7_J97.toNatClampNeg) ≤ x9_L102 → ((s0_J97 = 0 → (vp_in ((200 * x7_J97) + x9_L102) 12000 ∧ (vp_in x5_L102 12000 ∧ wl_Mo_move_102 x7_J97 f_t_sizes s0_J97 f_t_contents K_164 k_102 (x5_L102 + 1) (x9_L102 + 1) (upd f_t_line_L102 x5_L102.toNatClampNeg (vp_nar .byte (f_t_contents ((200 * x7_J97) + x9_L102).toNatClampNeg)))))) ∧ (¬ s0_J97 = 0 → (vp_in x7_J97 60 ∧ (vp_in ((200 * x7_J97) + (((f_t_sizes x7_J97.toNatClampNeg) - 1) - x9_L102)) 12000 ∧ (vp_in x5_L102 12000 ∧ wl_Mo_move_102 x7_J97 f_t_sizes s0_J97 f_t_contents K_164 k_102 (x5_L102 + 1) (x9_L102 + 1) (upd f_t_line_L102 x5_L102.toNatClampNeg (vp_nar .byte (f_t_contents ((200 * x7_J97) + (((f_t_sizes x7_J97.toNatClampNeg) - 1) - x9_L102)).toNatClampNeg)))))))))))
def wj_Mo_move_406 (s0_J367 : Int32) (x11_J367 : Int32) (f_t_sizes : (Nat → Int32)) (B_372 : Int32 → Int32 → (Nat → Int32) → Prop) (x9_J406 : Int32) (x13_J406 : Int32) (f_t_contents_J406 : (Nat → Int32)) (s0_J406 : Int32) : Prop := ((s0_J367 = 0 → (vp_in ((200 * x11_J367) + x13_J406) 12000 ∧ B_372 (x9_J406 + 1) (x13_J406 + 1) (upd f_t_contents_J406 ((200 * x11_J367) + x13_J406).toNatClampNeg (vp_nar .byte ((s0_J406 : Int32).toInt8.toInt32))))) ∧ (¬ s0_J367 = 0 → (vp_in x11_J367 60 ∧ (vp_in ((200 * x11_J367) + (((f_t_sizes x11_J367.toNatClampNeg) - 1) - x13_J406)) 12000 ∧ B_372 (x9_J406 + 1) (x13_J406 + 1) (upd f_t_contents_J406 ((200 * x11_J367) + (((f_t_sizes x11_J367.toNatClampNeg) - 1) - x13_J406)).toNatClampNeg (vp_nar .byte ((s0_J406 : Int32).toInt8.toInt32)))))))
def wk_Mo_move_454_372 (x10_J367 : Int32) (B_329 : Int32 → Int32 → (Nat → Int32) → Prop) (x9_L372 : Int32) (x13_L372 : Int32) (f_t_contents_L372 : (Nat → Int32)) : Prop := B_329 x9_L372 (x10_J367 + 1) f_t_contents_L372
def wk_Mo_move_460_329 (x7_J322 : Int32) (v_t_wide_J322 : Int32) (v_t_thrown_J322 : Int32) (f_t_litres_J322 : (Nat → Int64)) (f_t_liquids_J322 : (Nat → Int32)) (s1_J322 : Int32) (s0_J322 : Int32) (f_t_left_J322 : (Nat → Int32)) (f_t_way_J322 : (Nat → Int32)) (f_t_line_J322 : (Nat → Int32)) (P : Int64 → Int32 → Int32 → (Nat → Int64) → (Nat → Int32) → (Nat → Int32) → (Nat → Int32) → (Nat → Int32) → (Nat → Int32) → Prop) (x9_L329 : Int32) (x10_L329 : Int32) (f_t_contents_L329 : (Nat → Int32)) : Prop := P ((x7_J322 : Int32).toInt64) v_t_wide_J322 v_t_thrown_J322 f_t_litres_J322 (upd f_t_liquids_J322 s1_J322.toNatClampNeg s0_J322) f_t_contents_L329 f_t_left_J322 f_t_way_J322 f_t_line_J322
def wj_Mo_move_259 (x1 : Int32) (x2 : Int32) (B_184 : Int32 → Int32 → (Nat → Int64) → (Nat → Int32) → Prop) (x7_J259 : Int32) (x9_J259 : Int32) (f_t_litres_J259 : (Nat → Int64)) (f_t_liquids_J259 : (Nat → Int32)) : Prop := wj_Mo_move_260 x1 x2 (B_184) x7_J259 x9_J259 f_t_litres_J259 f_t_liquids_J259 0
def wj_Mo_move_255 (x1 : Int32) (x2 : Int32) (B_184 : Int32 → Int32 → (Nat → Int64) → (Nat → Int32) → Prop) (x7_J255 : Int32) (x9_J255 : Int32) (f_t_litres_J255 : (Nat → Int64)) (f_t_liquids_J255 : (Nat → Int32)) : Prop := wj_Mo_move_260 x1 x2 (B_184) x7_J255 x9_J255 f_t_litres_J255 f_t_liquids_J255 1
def wj_Mo_move_97 (f_t_sizes : (Nat → Int32)) (f_t_contents : (Nat → Int32)) (B_59 : Int32 → Int32 → (Nat → Int32) → Prop) (x5_J97 : Int32) (x6_J97 : Int32) (x7_J97 : Int32) (f_t_line_J97 : (Nat → Int32)) (s0_J97 : Int32) : Prop := (∃ n_102 : Nat, wl_Mo_move_102 x7_J97 f_t_sizes s0_J97 f_t_contents (wk_Mo_move_164_102 x6_J97 (B_59)) n_102 x5_J97 0 f_t_line_J97)
def wl_Mo_move_372 (x11_J367 : Int32) (f_t_sizes : (Nat → Int32)) (x7_J322 : Int32) (s0_J367 : Int32) (f_t_line_J322 : (Nat → Int32)) (x6_J322 : Int32) (K_454 : Int32 → Int32 → (Nat → Int32) → Prop) : Nat → Int32 → Int32 → (Nat → Int32) → Prop
  | 0, _, _, _ => False
  | k_372 + 1, x9_L372, x13_L372, f_t_contents_L372 => (vp_in x11_J367 60 ∧ (((f_t_sizes x11_J367.toNatClampNeg) ≤ x13_L372 → K_454 x9_L372 x13_L372 f_t_contents_L372) ∧ (¬ (f_t_sizes x11_J367.toNatClampNeg) ≤ x13_L372 → ((x7_J322 ≤ x9_L372 → (vp_in (x9_L372 - x7_J322) 12000 ∧ wj_Mo_move_406 s0_J367 x11_J367 f_t_sizes (wl_Mo_move_372 x11_J367 f_t_sizes x7_J322 s0_J367 f_t_line_J322 x6_J322 K_454 k_372) x9_L372 x13_L372 f_t_contents_L372 (f_t_line_J322 (x9_L372 - x7_J322).toNatClampNeg))) ∧ (¬ x7_J322 ≤ x9_L372 → wj_Mo_move_406 s0_J367 x11_J367 f_t_sizes (wl_Mo_move_372 x11_J367 f_t_sizes x7_J322 s0_J367 f_t_line_J322 x6_J322 K_454 k_372) x9_L372 x13_L372 f_t_contents_L372 x6_J322)))))
def wj_Mo_move_221 (x1 : Int32) (x2 : Int32) (f_t_rooms : (Nat → Int64)) (B_184 : Int32 → Int32 → (Nat → Int64) → (Nat → Int32) → Prop) (x7_J221 : Int32) (f_t_litres_J221 : (Nat → Int64)) (f_t_liquids_J221 : (Nat → Int32)) (s0_J221 : Int32) : Prop := (vp_in x1 40 ∧ (((lg_cmp (f_t_litres_J221 x1.toNatClampNeg) 0) ≤ 0 → wj_Mo_move_259 x1 x2 (B_184) x7_J221 s0_J221 f_t_litres_J221 f_t_liquids_J221) ∧ (¬ (lg_cmp (f_t_litres_J221 x1.toNatClampNeg) 0) ≤ 0 → ((s0_J221 = 0 → wj_Mo_move_255 x1 x2 (B_184) x7_J221 s0_J221 f_t_litres_J221 f_t_liquids_J221) ∧ (¬ s0_J221 = 0 → (vp_in x2 40 ∧ (vp_in x2 40 ∧ ((0 ≤ (lg_cmp (f_t_litres_J221 x2.toNatClampNeg) (f_t_rooms x2.toNatClampNeg)) → wj_Mo_move_259 x1 x2 (B_184) x7_J221 s0_J221 f_t_litres_J221 f_t_liquids_J221) ∧ (¬ 0 ≤ (lg_cmp (f_t_litres_J221 x2.toNatClampNeg) (f_t_rooms x2.toNatClampNeg)) → wj_Mo_move_255 x1 x2 (B_184) x7_J221 s0_J221 f_t_litres_J221 f_t_liquids_J221)))))))))
def wl_Mo_move_59 (v_t_wide_c43 : Int32) (f_t_way_c43 : (Nat → Int32)) (f_t_sizes : (Nat → Int32)) (f_t_contents : (Nat → Int32)) (K_170 : Int32 → Int32 → (Nat → Int32) → Prop) : Nat → Int32 → Int32 → (Nat → Int32) → Prop
  | 0, _, _, _ => False
  | k_59 + 1, x5_L59, x6_L59, f_t_line_L59 => ((v_t_wide_c43 ≤ x6_L59 → K_170 x5_L59 x6_L59 f_t_line_L59) ∧ (¬ v_t_wide_c43 ≤ x6_L59 → (vp_in x6_L59 60 ∧ (vp_in x6_L59 60 ∧ ((¬ ((f_t_way_c43 x6_L59.toNatClampNeg) - (f_t_way_c43 x6_L59.toNatClampNeg) / 2 * 2) = (1 : Int32) → wj_Mo_move_97 f_t_sizes f_t_contents (wl_Mo_move_59 v_t_wide_c43 f_t_way_c43 f_t_sizes f_t_contents K_170 k_59) x5_L59 x6_L59 ((f_t_way_c43 x6_L59.toNatClampNeg) / 2) f_t_line_L59 0) ∧ (((f_t_way_c43 x6_L59.toNatClampNeg) - (f_t_way_c43 x6_L59.toNatClampNeg) / 2 * 2) = (1 : Int32) → wj_Mo_move_97 f_t_sizes f_t_contents (wl_Mo_move_59 v_t_wide_c43 f_t_way_c43 f_t_sizes f_t_contents K_170 k_59) x5_L59 x6_L59 ((f_t_way_c43 x6_L59.toNatClampNeg) / 2) f_t_line_L59 1))))))
def wj_Mo_move_367 (f_t_sizes : (Nat → Int32)) (x7_J322 : Int32) (f_t_line_J322 : (Nat → Int32)) (x6_J322 : Int32) (B_329 : Int32 → Int32 → (Nat → Int32) → Prop) (x9_J367 : Int32) (x10_J367 : Int32) (x11_J367 : Int32) (f_t_contents_J367 : (Nat → Int32)) (s0_J367 : Int32) : Prop := (∃ n_372 : Nat, wl_Mo_move_372 x11_J367 f_t_sizes x7_J322 s0_J367 f_t_line_J322 x6_J322 (wk_Mo_move_454_372 x10_J367 (B_329)) n_372 x9_J367 0 f_t_contents_J367)
def wl_Mo_move_184 (x3 : Int64) (x5_L59 : Int32) (x1 : Int32) (x2 : Int32) (f_t_rooms : (Nat → Int64)) (f_t_liquids : (Nat → Int32)) (f_t_line_L59 : (Nat → Int32)) (K_296 : Int32 → Int32 → (Nat → Int64) → (Nat → Int32) → Prop) : Nat → Int32 → Int32 → (Nat → Int64) → (Nat → Int32) → Prop
  | 0, _, _, _, _ => False
  | k_184 + 1, x7_L184, x8_L184, f_t_litres_L184, f_t_liquids_L184 => ((x8_L184 = 0 → K_296 x7_L184 x8_L184 f_t_litres_L184 f_t_liquids_L184) ∧ (¬ x8_L184 = 0 → ((0 ≤ (lg_cmp ((x7_L184 : Int32).toInt64) x3) → K_296 x7_L184 x8_L184 f_t_litres_L184 f_t_liquids_L184) ∧ (¬ 0 ≤ (lg_cmp ((x7_L184 : Int32).toInt64) x3) → ((x5_L59 ≤ x7_L184 → wj_Mo_move_221 x1 x2 f_t_rooms (wl_Mo_move_184 x3 x5_L59 x1 x2 f_t_rooms f_t_liquids f_t_line_L59 K_296 k_184) x7_L184 f_t_litres_L184 f_t_liquids_L184 (f_t_liquids x1.toNatClampNeg)) ∧ (¬ x5_L59 ≤ x7_L184 → (vp_in ((x5_L59 - 1) - x7_L184) 12000 ∧ wj_Mo_move_221 x1 x2 f_t_rooms (wl_Mo_move_184 x3 x5_L59 x1 x2 f_t_rooms f_t_liquids f_t_line_L59 K_296 k_184) x7_L184 f_t_litres_L184 f_t_liquids_L184 (f_t_line_L59 ((x5_L59 - 1) - x7_L184).toNatClampNeg))))))))
def wl_Mo_move_329 (v_t_wide_J322 : Int32) (f_t_way_J322 : (Nat → Int32)) (f_t_sizes : (Nat → Int32)) (x7_J322 : Int32) (f_t_line_J322 : (Nat → Int32)) (x6_J322 : Int32) (K_460 : Int32 → Int32 → (Nat → Int32) → Prop) : Nat → Int32 → Int32 → (Nat → Int32) → Prop
  | 0, _, _, _ => False
  | k_329 + 1, x9_L329, x10_L329, f_t_contents_L329 => ((v_t_wide_J322 ≤ x10_L329 → K_460 x9_L329 x10_L329 f_t_contents_L329) ∧ (¬ v_t_wide_J322 ≤ x10_L329 → (vp_in x10_L329 60 ∧ (vp_in x10_L329 60 ∧ ((¬ ((f_t_way_J322 x10_L329.toNatClampNeg) - (f_t_way_J322 x10_L329.toNatClampNeg) / 2 * 2) = (1 : Int32) → wj_Mo_move_367 f_t_sizes x7_J322 f_t_line_J322 x6_J322 (wl_Mo_move_329 v_t_wide_J322 f_t_way_J322 f_t_sizes x7_J322 f_t_line_J322 x6_J322 K_460 k_329) x9_L329 x10_L329 ((f_t_way_J322 x10_L329.toNatClampNeg) / 2) f_t_contents_L329 0) ∧ (((f_t_way_J322 x10_L329.toNatClampNeg) - (f_t_way_J322 x10_L329.toNatClampNeg) / 2 * 2) = (1 : Int32) → wj_Mo_move_367 f_t_sizes x7_J322 f_t_line_J322 x6_J322 (wl_Mo_move_329 v_t_wide_J322 f_t_way_J322 f_t_sizes x7_J322 f_t_line_J322 x6_J322 K_460 k_329) x9_L329 x10_L329 ((f_t_way_J322 x10_L329.toNatClampNeg) / 2) f_t_contents_L329 1))))))
def wj_Mo_move_322 (f_t_sizes : (Nat → Int32)) (P : Int64 → Int32 → Int32 → (Nat → Int64) → (Nat → Int32) → (Nat → Int32) → (Nat → Int32) → (Nat → Int32) → (Nat → Int32) → Prop) (x6_J322 : Int32) (x7_J322 : Int32) (v_t_wide_J322 : Int32) (v_t_thrown_J322 : Int32) (f_t_litres_J322 : (Nat → Int64)) (f_t_liquids_J322 : (Nat → Int32)) (f_t_contents_J322 : (Nat → Int32)) (f_t_left_J322 : (Nat → Int32)) (f_t_way_J322 : (Nat → Int32)) (f_t_line_J322 : (Nat → Int32)) (s0_J322 : Int32) (s1_J322 : Int32) : Prop := (vp_in s1_J322 40 ∧ (∃ n_329 : Nat, wl_Mo_move_329 v_t_wide_J322 f_t_way_J322 f_t_sizes x7_J322 f_t_line_J322 x6_J322 (wk_Mo_move_460_329 x7_J322 v_t_wide_J322 v_t_thrown_J322 f_t_litres_J322 f_t_liquids_J322 s1_J322 s0_J322 f_t_left_J322 f_t_way_J322 f_t_line_J322 P) n_329 0 0 f_t_contents_J322))
def wj_Mo_move_296 (x1 : Int32) (f_t_sizes : (Nat → Int32)) (P : Int64 → Int32 → Int32 → (Nat → Int64) → (Nat → Int32) → (Nat → Int32) → (Nat → Int32) → (Nat → Int32) → (Nat → Int32) → Prop) (x6_J296 : Int32) (x7_J296 : Int32) (v_t_wide_J296 : Int32) (v_t_thrown_J296 : Int32) (f_t_litres_J296 : (Nat → Int64)) (f_t_liquids_J296 : (Nat → Int32)) (f_t_contents_J296 : (Nat → Int32)) (f_t_left_J296 : (Nat → Int32)) (f_t_way_J296 : (Nat → Int32)) (f_t_line_J296 : (Nat → Int32)) : Prop := (vp_in x1 40 ∧ ((¬ (lg_cmp (f_t_litres_J296 x1.toNatClampNeg) 0) = 0 → (vp_in x1 40 ∧ wj_Mo_move_322 f_t_sizes P x6_J296 x7_J296 v_t_wide_J296 v_t_thrown_J296 f_t_litres_J296 f_t_liquids_J296 f_t_contents_J296 f_t_left_J296 f_t_way_J296 f_t_line_J296 (f_t_liquids_J296 x1.toNatClampNeg) x1)) ∧ ((lg_cmp (f_t_litres_J296 x1.toNatClampNeg) 0) = 0 → wj_Mo_move_322 f_t_sizes P x6_J296 x7_J296 v_t_wide_J296 v_t_thrown_J296 f_t_litres_J296 f_t_liquids_J296 f_t_contents_J296 f_t_left_J296 f_t_way_J296 f_t_line_J296 0 x1)))
def wk_Mo_move_296_184 (x1 : Int32) (f_t_sizes : (Nat → Int32)) (f_t_liquids : (Nat → Int32)) (v_t_wide_c43 : Int32) (f_t_contents : (Nat → Int32)) (f_t_left_c43 : (Nat → Int32)) (f_t_way_c43 : (Nat → Int32)) (f_t_line_L59 : (Nat → Int32)) (P : Int64 → Int32 → Int32 → (Nat → Int64) → (Nat → Int32) → (Nat → Int32) → (Nat → Int32) → (Nat → Int32) → (Nat → Int32) → Prop) (x7_L184 : Int32) (x8_L184 : Int32) (f_t_litres_L184 : (Nat → Int64)) (f_t_liquids_L184 : (Nat → Int32)) : Prop := wj_Mo_move_296 x1 f_t_sizes P (f_t_liquids x1.toNatClampNeg) x7_L184 v_t_wide_c43 0 f_t_litres_L184 f_t_liquids_L184 f_t_contents f_t_left_c43 f_t_way_c43 f_t_line_L59
def wk_Mo_move_170_59 (x1 : Int32) (x3 : Int64) (x2 : Int32) (f_t_rooms : (Nat → Int64)) (f_t_liquids : (Nat → Int32)) (f_t_sizes : (Nat → Int32)) (v_t_wide_c43 : Int32) (f_t_contents : (Nat → Int32)) (f_t_left_c43 : (Nat → Int32)) (f_t_way_c43 : (Nat → Int32)) (f_t_litres : (Nat → Int64)) (P : Int64 → Int32 → Int32 → (Nat → Int64) → (Nat → Int32) → (Nat → Int32) → (Nat → Int32) → (Nat → Int32) → (Nat → Int32) → Prop) (x5_L59 : Int32) (x6_L59 : Int32) (f_t_line_L59 : (Nat → Int32)) : Prop := (vp_in x1 40 ∧ (∃ n_184 : Nat, wl_Mo_move_184 x3 x5_L59 x1 x2 f_t_rooms f_t_liquids f_t_line_L59 (wk_Mo_move_296_184 x1 f_t_sizes f_t_liquids v_t_wide_c43 f_t_contents f_t_left_c43 f_t_way_c43 f_t_line_L59 P) n_184 0 1 f_t_litres f_t_liquids))
def wp_Mo_move (v_t_things : Int32) (v_t_pipes : Int32) (v_t_wide : Int32) (v_t_thrown : Int32) (f_t_kinds : (Nat → Int32)) (f_t_rooms : (Nat → Int64)) (f_t_litres : (Nat → Int64)) (f_t_liquids : (Nat → Int32)) (f_t_positions : (Nat → Int32)) (f_t_ends : (Nat → Int32)) (f_t_sizes : (Nat → Int32)) (f_t_contents : (Nat → Int32)) (f_t_at : (Nat → Int32)) (f_t_ports : (Nat → Int32)) (f_t_bends : (Nat → Int32)) (f_t_left : (Nat → Int32)) (f_t_way : (Nat → Int32)) (f_t_line : (Nat → Int32)) (x1 : Int32) (x2 : Int32) (x3 : Int64) (P : Int64 → Int32 → Int32 → (Nat → Int64) → (Nat → Int32) → (Nat → Int32) → (Nat → Int32) → (Nat → Int32) → (Nat → Int32) → Prop) : Prop := wp_Mo_isTank v_t_things f_t_kinds x1 (fun r7 => ((r7 = 0 → P (-1) v_t_wide 0 f_t_litres f_t_liquids f_t_contents f_t_left f_t_way f_t_line) ∧ (¬ r7 = 0 → wp_Mo_isTank v_t_things f_t_kinds x2 (fun r15 => ((r15 = 0 → P (-1) v_t_wide 0 f_t_litres f_t_liquids f_t_contents f_t_left f_t_way f_t_line) ∧ (¬ r15 = 0 → ((x1 = x2 → P (-1) v_t_wide 0 f_t_litres f_t_liquids f_t_contents f_t_left f_t_way f_t_line) ∧ (¬ x1 = x2 → (((lg_cmp x3 1) < 0 → P (-1) v_t_wide 0 f_t_litres f_t_liquids f_t_contents f_t_left f_t_way f_t_line) ∧ (¬ (lg_cmp x3 1) < 0 → ((0 < (lg_cmp x3 100000) → P (-1) v_t_wide 0 f_t_litres f_t_liquids f_t_contents f_t_left f_t_way f_t_line) ∧ (¬ 0 < (lg_cmp x3 100000) → wp_Mo_find v_t_pipes v_t_wide f_t_kinds f_t_positions f_t_ends f_t_at f_t_ports f_t_bends f_t_left f_t_way x1 x2 (fun r43 v_t_wide_c43 f_t_left_c43 f_t_way_c43 => ((¬ r43 = 0 → (∃ n_59 : Nat, wl_Mo_move_59 v_t_wide_c43 f_t_way_c43 f_t_sizes f_t_contents (wk_Mo_move_170_59 x1 x3 x2 f_t_rooms f_t_liquids f_t_sizes v_t_wide_c43 f_t_contents f_t_left_c43 f_t_way_c43 f_t_litres P) n_59 0 0 f_t_line)) ∧ (r43 = 0 → P (-1) v_t_wide_c43 0 f_t_litres f_t_liquids f_t_contents f_t_left_c43 f_t_way_c43 f_t_line)))))))))))))))
def w_Mo_move : List Cond := .code y_Mo_move b_Mo_move 15 (some .long) :: tb
abbrev rm_Mo_move : Room := { frames := 4, cells := 0, slots := 0, locals := 102 }
abbrev Q_Mo_move (dC : Nat → ClassId) (dI : Nat → Nat → Nat) (cI cL cB : ClassId) (q_t : Nat) (a_t : Nat → Nat) (v_t_things : Int32) (v_t_pipes : Int32) (v_t_wide : Int32) (v_t_size : Int32) (v_t_place : Int32) (v_t_number : Int64) (v_t_thrown : Int32) (v_t_wish : Int32) (v_t_found : Int32) (f_t_kinds : (Nat → Int32)) (f_t_rooms : (Nat → Int64)) (f_t_litres : (Nat → Int64)) (f_t_liquids : (Nat → Int32)) (f_t_positions : (Nat → Int32)) (f_t_ends : (Nat → Int32)) (f_t_sizes : (Nat → Int32)) (f_t_contents : (Nat → Int32)) (f_t_at : (Nat → Int32)) (f_t_ports : (Nat → Int32)) (f_t_bends : (Nat → Int32)) (f_t_left : (Nat → Int32)) (f_t_way : (Nat → Int32)) (f_t_line : (Nat → Int32)) (x1 : Int32) (x2 : Int32) (x3 : Int64) (P : Int64 → Int32 → Int32 → (Nat → Int64) → (Nat → Int32) → (Nat → Int32) → (Nat → Int32) → (Nat → Int32) → (Nat → Int32) → Prop) (A : Nat → Prop) : Array Value → State → Outcome → State → Prop := va_Ql (fun (r : Int64) (u : Int32 × Int32 × (Nat → Int64) × (Nat → Int32) × (Nat → Int32) × (Nat → Int32) × (Nat → Int32) × (Nat → Int32)) => P r u.1 u.2.1 u.2.2.1 u.2.2.2.1 u.2.2.2.2.1 u.2.2.2.2.2.1 u.2.2.2.2.2.2.1 u.2.2.2.2.2.2.2) (fun u t => va_P (dC, dI) classes [(q_t, .inr (7, o_Mo a_t v_t_things v_t_pipes u.1 v_t_size v_t_place v_t_number u.2.1 v_t_wish v_t_found)), ((a_t 1), .inl (cI, 40, .inl f_t_kinds)), ((a_t 3), .inl (cL, 40, .inr (.inl f_t_rooms))), ((a_t 4), .inl (cL, 40, .inr (.inl u.2.2.1))), ((a_t 5), .inl (cI, 40, .inl u.2.2.2.1)), ((a_t 6), .inl (cI, 40, .inl f_t_positions)), ((a_t 8), .inl (cI, 160, .inl f_t_ends)), ((a_t 10), .inl (cI, 60, .inl f_t_sizes)), ((a_t 11), .inl (cB, 12000, .inl u.2.2.2.2.1)), ((a_t 12), .inl (cI, 120, .inl f_t_at)), ((a_t 13), .inl (cI, 120, .inl f_t_ports)), ((a_t 14), .inl (cI, 120, .inl f_t_bends)), ((a_t 15), .inl (cI, 120, .inl u.2.2.2.2.2.1)), ((a_t 16), .inl (cI, 60, .inl u.2.2.2.2.2.2.1)), ((a_t 18), .inl (cB, 12000, .inl u.2.2.2.2.2.2.2))] t.heap ∧ va_K (dC, dI) classes [(cI, .int), (cL, .long), (cB, .byte)] t ∧ va_D A [(q_t, .inr (7, o_Mo a_t v_t_things v_t_pipes u.1 v_t_size v_t_place v_t_number u.2.1 v_t_wish v_t_found)), ((a_t 1), .inl (cI, 40, .inl f_t_kinds)), ((a_t 3), .inl (cL, 40, .inr (.inl f_t_rooms))), ((a_t 4), .inl (cL, 40, .inr (.inl u.2.2.1))), ((a_t 5), .inl (cI, 40, .inl u.2.2.2.1)), ((a_t 6), .inl (cI, 40, .inl f_t_positions)), ((a_t 8), .inl (cI, 160, .inl f_t_ends)), ((a_t 10), .inl (cI, 60, .inl f_t_sizes)), ((a_t 11), .inl (cB, 12000, .inl u.2.2.2.2.1)), ((a_t 12), .inl (cI, 120, .inl f_t_at)), ((a_t 13), .inl (cI, 120, .inl f_t_ports)), ((a_t 14), .inl (cI, 120, .inl f_t_bends)), ((a_t 15), .inl (cI, 120, .inl u.2.2.2.2.2.1)), ((a_t 16), .inl (cI, 60, .inl u.2.2.2.2.2.2.1)), ((a_t 18), .inl (cB, 12000, .inl u.2.2.2.2.2.2.2))]) A
set_option maxHeartbeats 4000000 in
set_option maxRecDepth 100000 in
theorem c_Mo_move (l : Launch) (dC : Nat → ClassId) (dI : Nat → Nat → Nat) (cI cL cB : ClassId) (q_t : Nat) (a_t : Nat → Nat) (sz : Nat) (v_t_things : Int32) (v_t_pipes : Int32) (v_t_wide : Int32) (v_t_size : Int32) (v_t_place : Int32) (v_t_number : Int64) (v_t_thrown : Int32) (v_t_wish : Int32) (v_t_found : Int32) (f_t_kinds : (Nat → Int32)) (f_t_rooms : (Nat → Int64)) (f_t_litres : (Nat → Int64)) (f_t_liquids : (Nat → Int32)) (f_t_positions : (Nat → Int32)) (f_t_ends : (Nat → Int32)) (f_t_sizes : (Nat → Int32)) (f_t_contents : (Nat → Int32)) (f_t_at : (Nat → Int32)) (f_t_ports : (Nat → Int32)) (f_t_bends : (Nat → Int32)) (f_t_left : (Nat → Int32)) (f_t_way : (Nat → Int32)) (f_t_line : (Nat → Int32)) (x1 : Int32) (x2 : Int32) (x3 : Int64) (P : Int64 → Int32 → Int32 → (Nat → Int64) → (Nat → Int32) → (Nat → Int32) → (Nat → Int32) → (Nat → Int32) → (Nat → Int32) → Prop) (hw : wp_Mo_move v_t_things v_t_pipes v_t_wide v_t_thrown f_t_kinds f_t_rooms f_t_litres f_t_liquids f_t_positions f_t_ends f_t_sizes f_t_contents f_t_at f_t_ports f_t_bends f_t_left f_t_way f_t_line x1 x2 x3 P) : Met l y_Mo_move w_Mo_move rm_Mo_move (va_Pc [.ref q_t, .int x1, .int x2, .long x3] (fun U => U.heap.size = sz ∧ va_P (dC, dI) classes [(q_t, .inr (7, o_Mo a_t v_t_things v_t_pipes v_t_wide v_t_size v_t_place v_t_number v_t_thrown v_t_wish v_t_found)), ((a_t 1), .inl (cI, 40, .inl f_t_kinds)), ((a_t 3), .inl (cL, 40, .inr (.inl f_t_rooms))), ((a_t 4), .inl (cL, 40, .inr (.inl f_t_litres))), ((a_t 5), .inl (cI, 40, .inl f_t_liquids)), ((a_t 6), .inl (cI, 40, .inl f_t_positions)), ((a_t 8), .inl (cI, 160, .inl f_t_ends)), ((a_t 10), .inl (cI, 60, .inl f_t_sizes)), ((a_t 11), .inl (cB, 12000, .inl f_t_contents)), ((a_t 12), .inl (cI, 120, .inl f_t_at)), ((a_t 13), .inl (cI, 120, .inl f_t_ports)), ((a_t 14), .inl (cI, 120, .inl f_t_bends)), ((a_t 15), .inl (cI, 120, .inl f_t_left)), ((a_t 16), .inl (cI, 60, .inl f_t_way)), ((a_t 18), .inl (cB, 12000, .inl f_t_line))] U.heap ∧ va_K (dC, dI) classes [(cI, .int), (cL, .long), (cB, .byte)] U ∧ va_D (fun _ => True) [(q_t, .inr (7, o_Mo a_t v_t_things v_t_pipes v_t_wide v_t_size v_t_place v_t_number v_t_thrown v_t_wish v_t_found)), ((a_t 1), .inl (cI, 40, .inl f_t_kinds)), ((a_t 3), .inl (cL, 40, .inr (.inl f_t_rooms))), ((a_t 4), .inl (cL, 40, .inr (.inl f_t_litres))), ((a_t 5), .inl (cI, 40, .inl f_t_liquids)), ((a_t 6), .inl (cI, 40, .inl f_t_positions)), ((a_t 8), .inl (cI, 160, .inl f_t_ends)), ((a_t 10), .inl (cI, 60, .inl f_t_sizes)), ((a_t 11), .inl (cB, 12000, .inl f_t_contents)), ((a_t 12), .inl (cI, 120, .inl f_t_at)), ((a_t 13), .inl (cI, 120, .inl f_t_ports)), ((a_t 14), .inl (cI, 120, .inl f_t_bends)), ((a_t 15), .inl (cI, 120, .inl f_t_left)), ((a_t 16), .inl (cI, 60, .inl f_t_way)), ((a_t 18), .inl (cB, 12000, .inl f_t_line))])) (Q_Mo_move dC dI cI cL cB q_t a_t v_t_things v_t_pipes v_t_wide v_t_size v_t_place v_t_number v_t_thrown v_t_wish v_t_found f_t_kinds f_t_rooms f_t_litres f_t_liquids f_t_positions f_t_ends f_t_sizes f_t_contents f_t_at f_t_ports f_t_bends f_t_left f_t_way f_t_line x1 x2 x3 P (va_A [(q_t, .inr (7, o_Mo a_t v_t_things v_t_pipes v_t_wide v_t_size v_t_place v_t_number v_t_thrown v_t_wish v_t_found)), ((a_t 1), .inl (cI, 40, .inl f_t_kinds)), ((a_t 3), .inl (cL, 40, .inr (.inl f_t_rooms))), ((a_t 4), .inl (cL, 40, .inr (.inl f_t_litres))), ((a_t 5), .inl (cI, 40, .inl f_t_liquids)), ((a_t 6), .inl (cI, 40, .inl f_t_positions)), ((a_t 8), .inl (cI, 160, .inl f_t_ends)), ((a_t 10), .inl (cI, 60, .inl f_t_sizes)), ((a_t 11), .inl (cB, 12000, .inl f_t_contents)), ((a_t 12), .inl (cI, 120, .inl f_t_at)), ((a_t 13), .inl (cI, 120, .inl f_t_ports)), ((a_t 14), .inl (cI, 120, .inl f_t_bends)), ((a_t 15), .inl (cI, 120, .inl f_t_left)), ((a_t 16), .inl (cI, 60, .inl f_t_way)), ((a_t 18), .inl (cB, 12000, .inl f_t_line))] sz)) 0 0 (va_A [(q_t, .inr (7, o_Mo a_t v_t_things v_t_pipes v_t_wide v_t_size v_t_place v_t_number v_t_thrown v_t_wish v_t_found)), ((a_t 1), .inl (cI, 40, .inl f_t_kinds)), ((a_t 3), .inl (cL, 40, .inr (.inl f_t_rooms))), ((a_t 4), .inl (cL, 40, .inr (.inl f_t_litres))), ((a_t 5), .inl (cI, 40, .inl f_t_liquids)), ((a_t 6), .inl (cI, 40, .inl f_t_positions)), ((a_t 8), .inl (cI, 160, .inl f_t_ends)), ((a_t 10), .inl (cI, 60, .inl f_t_sizes)), ((a_t 11), .inl (cB, 12000, .inl f_t_contents)), ((a_t 12), .inl (cI, 120, .inl f_t_at)), ((a_t 13), .inl (cI, 120, .inl f_t_ports)), ((a_t 14), .inl (cI, 120, .inl f_t_bends)), ((a_t 15), .inl (cI, 120, .inl f_t_left)), ((a_t 16), .inl (cI, 60, .inl f_t_way)), ((a_t 18), .inl (cB, 12000, .inl f_t_line))] sz) := by
  refine Met.ofW (cc := b_Mo_move) (maxL := 15) (ret := (some .long)) (by decide) rfl ?_
  intro p e s m args below meth c s₁ B hml hv
  obtain ⟨ha, hsz, hP, hK, hD0⟩ := hv
  have hx := B.exec
  have hb := B.bytes
  have hr := B.returns
  have hts0 := atoms_spec (ws := w_Mo_move) B.pre
  have hts : ∀ w ∈ tb, w.before args s = true := fun w h => hts0 w (List.mem_cons_of_mem _ h)
  have hown : s.vm.findClass R_Mo = some m.cls := findClass_of_methodNamed B.named
  have hlocks := B.notSynchronized
  subst hsz
  have hD := hD0.self (sz := s.heap.size)
  generalize hAe : va_A [(q_t, .inr (7, o_Mo a_t v_t_things v_t_pipes v_t_wide v_t_size v_t_place v_t_number v_t_thrown v_t_wish v_t_found)), ((a_t 1), .inl (cI, 40, .inl f_t_kinds)), ((a_t 3), .inl (cL, 40, .inr (.inl f_t_rooms))), ((a_t 4), .inl (cL, 40, .inr (.inl f_t_litres))), ((a_t 5), .inl (cI, 40, .inl f_t_liquids)), ((a_t 6), .inl (cI, 40, .inl f_t_positions)), ((a_t 8), .inl (cI, 160, .inl f_t_ends)), ((a_t 10), .inl (cI, 60, .inl f_t_sizes)), ((a_t 11), .inl (cB, 12000, .inl f_t_contents)), ((a_t 12), .inl (cI, 120, .inl f_t_at)), ((a_t 13), .inl (cI, 120, .inl f_t_ports)), ((a_t 14), .inl (cI, 120, .inl f_t_bends)), ((a_t 15), .inl (cI, 120, .inl f_t_left)), ((a_t 16), .inl (cI, 60, .inl f_t_way)), ((a_t 18), .inl (cB, 12000, .inl f_t_line))] s.heap.size = A at hD ⊢
  have hA : ∀ q : Nat, s.heap.size ≤ q → A q := fun q h => by rw [← hAe]; exact Or.inr h
  have hS : va_S A s.heap s.heap [] := va_S.rf
  have hP : va_P (dC, dI) classes [(q_t, .inr (7, o_Mo a_t v_t_things v_t_pipes v_t_wide v_t_size v_t_place v_t_number v_t_thrown v_t_wish v_t_found)), ((a_t 1), .inl (cI, 40, .inl f_t_kinds)), ((a_t 3), .inl (cL, 40, .inr (.inl f_t_rooms))), ((a_t 4), .inl (cL, 40, .inr (.inl f_t_litres))), ((a_t 5), .inl (cI, 40, .inl f_t_liquids)), ((a_t 6), .inl (cI, 40, .inl f_t_positions)), ((a_t 8), .inl (cI, 160, .inl f_t_ends)), ((a_t 10), .inl (cI, 60, .inl f_t_sizes)), ((a_t 11), .inl (cB, 12000, .inl f_t_contents)), ((a_t 12), .inl (cI, 120, .inl f_t_at)), ((a_t 13), .inl (cI, 120, .inl f_t_ports)), ((a_t 14), .inl (cI, 120, .inl f_t_bends)), ((a_t 15), .inl (cI, 120, .inl f_t_left)), ((a_t 16), .inl (cI, 60, .inl f_t_way)), ((a_t 18), .inl (cB, 12000, .inl f_t_line))] s.heap := hP
  have hl := lv_entry [.ref q_t, .int x1, .int x2, .long x3] (n := 15) (Nat.le_of_ble_eq_true rfl)
  have he9 : entryFrame m args 15 = F0 m 0 ((lg_sl [.ref q_t, .int x1, .int x2, .long x3] ++ List.replicate (15 - (lg_sl [.ref q_t, .int x1, .int x2, .long x3]).length) Slot.unset).toArray) [] := by rw [ha]; exact lg_entry_eq _ _ _
  rw [he9]
  clear he9
  generalize (lg_sl [.ref q_t, .int x1, .int x2, .long x3] ++ List.replicate (15 - (lg_sl [.ref q_t, .int x1, .int x2, .long x3]).length) Slot.unset).toArray = ls at hl ⊢
  have hl : lv_has ls 15 [(0, .ref q_t), (1, .int x1), (2, .int x2), (3, .long x3)] := hl
  unfold wp_Mo_move at hw
  have J_322 : ∀ (x6_J322 : Int32) (x7_J322 : Int32) (v_t_wide_J322 : Int32) (v_t_thrown_J322 : Int32) (f_t_litres_J322 : (Nat → Int64)) (f_t_liquids_J322 : (Nat → Int32)) (f_t_contents_J322 : (Nat → Int32)) (f_t_left_J322 : (Nat → Int32)) (f_t_way_J322 : (Nat → Int32)) (f_t_line_J322 : (Nat → Int32)) (s0_J322 : Int32) (s1_J322 : Int32) (H : Heap) (locs : List Loc) (ls : Array Slot), va_P (dC, dI) classes [(q_t, .inr (7, o_Mo a_t v_t_things v_t_pipes v_t_wide_J322 v_t_size v_t_place v_t_number v_t_thrown_J322 v_t_wish v_t_found)), ((a_t 1), .inl (cI, 40, .inl f_t_kinds)), ((a_t 3), .inl (cL, 40, .inr (.inl f_t_rooms))), ((a_t 4), .inl (cL, 40, .inr (.inl f_t_litres_J322))), ((a_t 5), .inl (cI, 40, .inl f_t_liquids_J322)), ((a_t 6), .inl (cI, 40, .inl f_t_positions)), ((a_t 8), .inl (cI, 160, .inl f_t_ends)), ((a_t 10), .inl (cI, 60, .inl f_t_sizes)), ((a_t 11), .inl (cB, 12000, .inl f_t_contents_J322)), ((a_t 12), .inl (cI, 120, .inl f_t_at)), ((a_t 13), .inl (cI, 120, .inl f_t_ports)), ((a_t 14), .inl (cI, 120, .inl f_t_bends)), ((a_t 15), .inl (cI, 120, .inl f_t_left_J322)), ((a_t 16), .inl (cI, 60, .inl f_t_way_J322)), ((a_t 18), .inl (cB, 12000, .inl f_t_line_J322))] H → va_D A [(q_t, .inr (7, o_Mo a_t v_t_things v_t_pipes v_t_wide_J322 v_t_size v_t_place v_t_number v_t_thrown_J322 v_t_wish v_t_found)), ((a_t 1), .inl (cI, 40, .inl f_t_kinds)), ((a_t 3), .inl (cL, 40, .inr (.inl f_t_rooms))), ((a_t 4), .inl (cL, 40, .inr (.inl f_t_litres_J322))), ((a_t 5), .inl (cI, 40, .inl f_t_liquids_J322)), ((a_t 6), .inl (cI, 40, .inl f_t_positions)), ((a_t 8), .inl (cI, 160, .inl f_t_ends)), ((a_t 10), .inl (cI, 60, .inl f_t_sizes)), ((a_t 11), .inl (cB, 12000, .inl f_t_contents_J322)), ((a_t 12), .inl (cI, 120, .inl f_t_at)), ((a_t 13), .inl (cI, 120, .inl f_t_ports)), ((a_t 14), .inl (cI, 120, .inl f_t_bends)), ((a_t 15), .inl (cI, 120, .inl f_t_left_J322)), ((a_t 16), .inl (cI, 60, .inl f_t_way_J322)), ((a_t 18), .inl (cB, 12000, .inl f_t_line_J322))] → va_S A s.heap H locs → lv_has ls 15 [(0, .ref q_t), (6, .int x6_J322), (7, .int x7_J322)] → wj_Mo_move_322 f_t_sizes P x6_J322 x7_J322 v_t_wide_J322 v_t_thrown_J322 f_t_litres_J322 f_t_liquids_J322 f_t_contents_J322 f_t_left_J322 f_t_way_J322 f_t_line_J322 s0_J322 s1_J322 → W p l e (headSpec w_Mo_move rm_Mo_move).room s m args below meth c H locs 0 0 (MQ below (Q_Mo_move dC dI cI cL cB q_t a_t v_t_things v_t_pipes v_t_wide v_t_size v_t_place v_t_number v_t_thrown v_t_wish v_t_found f_t_kinds f_t_rooms f_t_litres f_t_liquids f_t_positions f_t_ends f_t_sizes f_t_contents f_t_at f_t_ports f_t_bends f_t_left f_t_way f_t_line x1 x2 x3 P A) args s 0 0 A) (F0 m 322 ls [.int s0_J322, .int s1_J322, .ref (a_t 5)]) := by
    intro x6_J322 x7_J322 v_t_wide_J322 v_t_thrown_J322 f_t_litres_J322 f_t_liquids_J322 f_t_contents_J322 f_t_left_J322 f_t_way_J322 f_t_line_J322 s0_J322 s1_J322 H locs ls hP hD hS hl hw
    unfold wj_Mo_move_322 at hw
    refine va_iast hx hb hK hP hD hS 4 0 rfl rfl hw.1 d_Mo_move_322 (fun H locs hP hD hS => ?_)
    replace hw := hw.2
    have hP : va_P (dC, dI) classes [(q_t, .inr (7, o_Mo a_t v_t_things v_t_pipes v_t_wide_J322 v_t_size v_t_place v_t_number v_t_thrown_J322 v_t_wish v_t_found)), ((a_t 1), .inl (cI, 40, .inl f_t_kinds)), ((a_t 3), .inl (cL, 40, .inr (.inl f_t_rooms))), ((a_t 4), .inl (cL, 40, .inr (.inl f_t_litres_J322))), ((a_t 5), .inl (cI, 40, .inl (upd f_t_liquids_J322 s1_J322.toNatClampNeg s0_J322))), ((a_t 6), .inl (cI, 40, .inl f_t_positions)), ((a_t 8), .inl (cI, 160, .inl f_t_ends)), ((a_t 10), .inl (cI, 60, .inl f_t_sizes)), ((a_t 11), .inl (cB, 12000, .inl f_t_contents_J322)), ((a_t 12), .inl (cI, 120, .inl f_t_at)), ((a_t 13), .inl (cI, 120, .inl f_t_ports)), ((a_t 14), .inl (cI, 120, .inl f_t_bends)), ((a_t 15), .inl (cI, 120, .inl f_t_left_J322)), ((a_t 16), .inl (cI, 60, .inl f_t_way_J322)), ((a_t 18), .inl (cB, 12000, .inl f_t_line_J322))] H := hP
    have hD : va_D A [(q_t, .inr (7, o_Mo a_t v_t_things v_t_pipes v_t_wide_J322 v_t_size v_t_place v_t_number v_t_thrown_J322 v_t_wish v_t_found)), ((a_t 1), .inl (cI, 40, .inl f_t_kinds)), ((a_t 3), .inl (cL, 40, .inr (.inl f_t_rooms))), ((a_t 4), .inl (cL, 40, .inr (.inl f_t_litres_J322))), ((a_t 5), .inl (cI, 40, .inl (upd f_t_liquids_J322 s1_J322.toNatClampNeg s0_J322))), ((a_t 6), .inl (cI, 40, .inl f_t_positions)), ((a_t 8), .inl (cI, 160, .inl f_t_ends)), ((a_t 10), .inl (cI, 60, .inl f_t_sizes)), ((a_t 11), .inl (cB, 12000, .inl f_t_contents_J322)), ((a_t 12), .inl (cI, 120, .inl f_t_at)), ((a_t 13), .inl (cI, 120, .inl f_t_ports)), ((a_t 14), .inl (cI, 120, .inl f_t_bends)), ((a_t 15), .inl (cI, 120, .inl f_t_left_J322)), ((a_t 16), .inl (cI, 60, .inl f_t_way_J322)), ((a_t 18), .inl (cB, 12000, .inl f_t_line_J322))] := hD
    refine lv_iconst (v := 0) hx hb d_Mo_move_323 (by decide) ?_
    refine lv_istore (lv' := [(9, .int 0), (0, .ref q_t), (6, .int x6_J322), (7, .int x7_J322)]) hx hb d_Mo_move_324 hl (by decide) rfl (fun ls hl => ?_)
    refine lv_iconst (v := 0) hx hb d_Mo_move_326 (by decide) ?_
    refine lv_istore (lv' := [(10, .int 0), (9, .int 0), (0, .ref q_t), (6, .int x6_J322), (7, .int x7_J322)]) hx hb d_Mo_move_327 hl (by decide) rfl (fun ls hl => ?_)
    obtain ⟨n_329, hw⟩ := hw
    have EX_460 : ∀ (x9_L329 : Int32) (x10_L329 : Int32) (f_t_contents_L329 : (Nat → Int32)) (H : Heap) (locs : List Loc) (ls : Array Slot), va_P (dC, dI) classes [(q_t, .inr (7, o_Mo a_t v_t_things v_t_pipes v_t_wide_J322 v_t_size v_t_place v_t_number v_t_thrown_J322 v_t_wish v_t_found)), ((a_t 1), .inl (cI, 40, .inl f_t_kinds)), ((a_t 3), .inl (cL, 40, .inr (.inl f_t_rooms))), ((a_t 4), .inl (cL, 40, .inr (.inl f_t_litres_J322))), ((a_t 5), .inl (cI, 40, .inl (upd f_t_liquids_J322 s1_J322.toNatClampNeg s0_J322))), ((a_t 6), .inl (cI, 40, .inl f_t_positions)), ((a_t 8), .inl (cI, 160, .inl f_t_ends)), ((a_t 10), .inl (cI, 60, .inl f_t_sizes)), ((a_t 11), .inl (cB, 12000, .inl f_t_contents_L329)), ((a_t 12), .inl (cI, 120, .inl f_t_at)), ((a_t 13), .inl (cI, 120, .inl f_t_ports)), ((a_t 14), .inl (cI, 120, .inl f_t_bends)), ((a_t 15), .inl (cI, 120, .inl f_t_left_J322)), ((a_t 16), .inl (cI, 60, .inl f_t_way_J322)), ((a_t 18), .inl (cB, 12000, .inl f_t_line_J322))] H → va_D A [(q_t, .inr (7, o_Mo a_t v_t_things v_t_pipes v_t_wide_J322 v_t_size v_t_place v_t_number v_t_thrown_J322 v_t_wish v_t_found)), ((a_t 1), .inl (cI, 40, .inl f_t_kinds)), ((a_t 3), .inl (cL, 40, .inr (.inl f_t_rooms))), ((a_t 4), .inl (cL, 40, .inr (.inl f_t_litres_J322))), ((a_t 5), .inl (cI, 40, .inl (upd f_t_liquids_J322 s1_J322.toNatClampNeg s0_J322))), ((a_t 6), .inl (cI, 40, .inl f_t_positions)), ((a_t 8), .inl (cI, 160, .inl f_t_ends)), ((a_t 10), .inl (cI, 60, .inl f_t_sizes)), ((a_t 11), .inl (cB, 12000, .inl f_t_contents_L329)), ((a_t 12), .inl (cI, 120, .inl f_t_at)), ((a_t 13), .inl (cI, 120, .inl f_t_ports)), ((a_t 14), .inl (cI, 120, .inl f_t_bends)), ((a_t 15), .inl (cI, 120, .inl f_t_left_J322)), ((a_t 16), .inl (cI, 60, .inl f_t_way_J322)), ((a_t 18), .inl (cB, 12000, .inl f_t_line_J322))] → va_S A s.heap H locs → lv_has ls 15 [(0, .ref q_t), (6, .int x6_J322), (7, .int x7_J322), (9, .int x9_L329), (10, .int x10_L329)] → wk_Mo_move_460_329 x7_J322 v_t_wide_J322 v_t_thrown_J322 f_t_litres_J322 f_t_liquids_J322 s1_J322 s0_J322 f_t_left_J322 f_t_way_J322 f_t_line_J322 P x9_L329 x10_L329 f_t_contents_L329 → W p l e (headSpec w_Mo_move rm_Mo_move).room s m args below meth c H locs 0 0 (MQ below (Q_Mo_move dC dI cI cL cB q_t a_t v_t_things v_t_pipes v_t_wide v_t_size v_t_place v_t_number v_t_thrown v_t_wish v_t_found f_t_kinds f_t_rooms f_t_litres f_t_liquids f_t_positions f_t_ends f_t_sizes f_t_contents f_t_at f_t_ports f_t_bends f_t_left f_t_way f_t_line x1 x2 x3 P A) args s 0 0 A) (F0 m 460 ls []) := by
      intro x9_L329 x10_L329 f_t_contents_L329 H locs ls hP hD hS hl hw
      unfold wk_Mo_move_460_329 at hw
      refine lv_iload hx hb d_Mo_move_460 (lv_at hl 2 rfl) ?_
      refine lv_i2l hx hb d_Mo_move_462 rfl ?_
      exact W.lret (v := (x7_J322 : Int32).toInt64) hx hb hr (fun t ht hW => ⟨⟨(x7_J322 : Int32).toInt64, (v_t_wide_J322, v_t_thrown_J322, f_t_litres_J322, (upd f_t_liquids_J322 s1_J322.toNatClampNeg s0_J322), f_t_contents_L329, f_t_left_J322, f_t_way_J322, f_t_line_J322), rfl, hw, by rw [ht]; exact hP, va_K.moved hW.alike hK, hD⟩, hS.F ht⟩) hS.2.2 d_Mo_move_463
    have LP_329 : ∀ (k_329 : Nat) (x9_L329 : Int32) (x10_L329 : Int32) (f_t_contents_L329 : (Nat → Int32)) (H : Heap) (locs : List Loc) (ls : Array Slot), va_P (dC, dI) classes [(q_t, .inr (7, o_Mo a_t v_t_things v_t_pipes v_t_wide_J322 v_t_size v_t_place v_t_number v_t_thrown_J322 v_t_wish v_t_found)), ((a_t 1), .inl (cI, 40, .inl f_t_kinds)), ((a_t 3), .inl (cL, 40, .inr (.inl f_t_rooms))), ((a_t 4), .inl (cL, 40, .inr (.inl f_t_litres_J322))), ((a_t 5), .inl (cI, 40, .inl (upd f_t_liquids_J322 s1_J322.toNatClampNeg s0_J322))), ((a_t 6), .inl (cI, 40, .inl f_t_positions)), ((a_t 8), .inl (cI, 160, .inl f_t_ends)), ((a_t 10), .inl (cI, 60, .inl f_t_sizes)), ((a_t 11), .inl (cB, 12000, .inl f_t_contents_L329)), ((a_t 12), .inl (cI, 120, .inl f_t_at)), ((a_t 13), .inl (cI, 120, .inl f_t_ports)), ((a_t 14), .inl (cI, 120, .inl f_t_bends)), ((a_t 15), .inl (cI, 120, .inl f_t_left_J322)), ((a_t 16), .inl (cI, 60, .inl f_t_way_J322)), ((a_t 18), .inl (cB, 12000, .inl f_t_line_J322))] H → va_D A [(q_t, .inr (7, o_Mo a_t v_t_things v_t_pipes v_t_wide_J322 v_t_size v_t_place v_t_number v_t_thrown_J322 v_t_wish v_t_found)), ((a_t 1), .inl (cI, 40, .inl f_t_kinds)), ((a_t 3), .inl (cL, 40, .inr (.inl f_t_rooms))), ((a_t 4), .inl (cL, 40, .inr (.inl f_t_litres_J322))), ((a_t 5), .inl (cI, 40, .inl (upd f_t_liquids_J322 s1_J322.toNatClampNeg s0_J322))), ((a_t 6), .inl (cI, 40, .inl f_t_positions)), ((a_t 8), .inl (cI, 160, .inl f_t_ends)), ((a_t 10), .inl (cI, 60, .inl f_t_sizes)), ((a_t 11), .inl (cB, 12000, .inl f_t_contents_L329)), ((a_t 12), .inl (cI, 120, .inl f_t_at)), ((a_t 13), .inl (cI, 120, .inl f_t_ports)), ((a_t 14), .inl (cI, 120, .inl f_t_bends)), ((a_t 15), .inl (cI, 120, .inl f_t_left_J322)), ((a_t 16), .inl (cI, 60, .inl f_t_way_J322)), ((a_t 18), .inl (cB, 12000, .inl f_t_line_J322))] → va_S A s.heap H locs → lv_has ls 15 [(0, .ref q_t), (6, .int x6_J322), (7, .int x7_J322), (9, .int x9_L329), (10, .int x10_L329)] → wl_Mo_move_329 v_t_wide_J322 f_t_way_J322 f_t_sizes x7_J322 f_t_line_J322 x6_J322 (wk_Mo_move_460_329 x7_J322 v_t_wide_J322 v_t_thrown_J322 f_t_litres_J322 f_t_liquids_J322 s1_J322 s0_J322 f_t_left_J322 f_t_way_J322 f_t_line_J322 P) k_329 x9_L329 x10_L329 f_t_contents_L329 → W p l e (headSpec w_Mo_move rm_Mo_move).room s m args below meth c H locs 0 0 (MQ below (Q_Mo_move dC dI cI cL cB q_t a_t v_t_things v_t_pipes v_t_wide v_t_size v_t_place v_t_number v_t_thrown v_t_wish v_t_found f_t_kinds f_t_rooms f_t_litres f_t_liquids f_t_positions f_t_ends f_t_sizes f_t_contents f_t_at f_t_ports f_t_bends f_t_left f_t_way f_t_line x1 x2 x3 P A) args s 0 0 A) (F0 m 329 ls []) := by
      intro k_329
      induction k_329 with
      | zero => intro x9_L329 x10_L329 f_t_contents_L329 H locs ls hP hD hS hl hw; unfold wl_Mo_move_329 at hw; exact hw.elim
      | succ k_329 ih_329 =>
        intro x9_L329 x10_L329 f_t_contents_L329 H locs ls hP hD hS hl hw
        unfold wl_Mo_move_329 at hw
        have J_367 : ∀ (x9_J367 : Int32) (x10_J367 : Int32) (x11_J367 : Int32) (f_t_contents_J367 : (Nat → Int32)) (s0_J367 : Int32) (H : Heap) (locs : List Loc) (ls : Array Slot), va_P (dC, dI) classes [(q_t, .inr (7, o_Mo a_t v_t_things v_t_pipes v_t_wide_J322 v_t_size v_t_place v_t_number v_t_thrown_J322 v_t_wish v_t_found)), ((a_t 1), .inl (cI, 40, .inl f_t_kinds)), ((a_t 3), .inl (cL, 40, .inr (.inl f_t_rooms))), ((a_t 4), .inl (cL, 40, .inr (.inl f_t_litres_J322))), ((a_t 5), .inl (cI, 40, .inl (upd f_t_liquids_J322 s1_J322.toNatClampNeg s0_J322))), ((a_t 6), .inl (cI, 40, .inl f_t_positions)), ((a_t 8), .inl (cI, 160, .inl f_t_ends)), ((a_t 10), .inl (cI, 60, .inl f_t_sizes)), ((a_t 11), .inl (cB, 12000, .inl f_t_contents_J367)), ((a_t 12), .inl (cI, 120, .inl f_t_at)), ((a_t 13), .inl (cI, 120, .inl f_t_ports)), ((a_t 14), .inl (cI, 120, .inl f_t_bends)), ((a_t 15), .inl (cI, 120, .inl f_t_left_J322)), ((a_t 16), .inl (cI, 60, .inl f_t_way_J322)), ((a_t 18), .inl (cB, 12000, .inl f_t_line_J322))] H → va_D A [(q_t, .inr (7, o_Mo a_t v_t_things v_t_pipes v_t_wide_J322 v_t_size v_t_place v_t_number v_t_thrown_J322 v_t_wish v_t_found)), ((a_t 1), .inl (cI, 40, .inl f_t_kinds)), ((a_t 3), .inl (cL, 40, .inr (.inl f_t_rooms))), ((a_t 4), .inl (cL, 40, .inr (.inl f_t_litres_J322))), ((a_t 5), .inl (cI, 40, .inl (upd f_t_liquids_J322 s1_J322.toNatClampNeg s0_J322))), ((a_t 6), .inl (cI, 40, .inl f_t_positions)), ((a_t 8), .inl (cI, 160, .inl f_t_ends)), ((a_t 10), .inl (cI, 60, .inl f_t_sizes)), ((a_t 11), .inl (cB, 12000, .inl f_t_contents_J367)), ((a_t 12), .inl (cI, 120, .inl f_t_at)), ((a_t 13), .inl (cI, 120, .inl f_t_ports)), ((a_t 14), .inl (cI, 120, .inl f_t_bends)), ((a_t 15), .inl (cI, 120, .inl f_t_left_J322)), ((a_t 16), .inl (cI, 60, .inl f_t_way_J322)), ((a_t 18), .inl (cB, 12000, .inl f_t_line_J322))] → va_S A s.heap H locs → lv_has ls 15 [(0, .ref q_t), (6, .int x6_J322), (7, .int x7_J322), (9, .int x9_J367), (10, .int x10_J367), (11, .int x11_J367)] → wj_Mo_move_367 f_t_sizes x7_J322 f_t_line_J322 x6_J322 (wl_Mo_move_329 v_t_wide_J322 f_t_way_J322 f_t_sizes x7_J322 f_t_line_J322 x6_J322 (wk_Mo_move_460_329 x7_J322 v_t_wide_J322 v_t_thrown_J322 f_t_litres_J322 f_t_liquids_J322 s1_J322 s0_J322 f_t_left_J322 f_t_way_J322 f_t_line_J322 P) k_329) x9_J367 x10_J367 x11_J367 f_t_contents_J367 s0_J367 → W p l e (headSpec w_Mo_move rm_Mo_move).room s m args below meth c H locs 0 0 (MQ below (Q_Mo_move dC dI cI cL cB q_t a_t v_t_things v_t_pipes v_t_wide v_t_size v_t_place v_t_number v_t_thrown v_t_wish v_t_found f_t_kinds f_t_rooms f_t_litres f_t_liquids f_t_positions f_t_ends f_t_sizes f_t_contents f_t_at f_t_ports f_t_bends f_t_left f_t_way f_t_line x1 x2 x3 P A) args s 0 0 A) (F0 m 367 ls [.int s0_J367]) := by
          intro x9_J367 x10_J367 x11_J367 f_t_contents_J367 s0_J367 H locs ls hP hD hS hl hw
          unfold wj_Mo_move_367 at hw
          refine lv_istore (lv' := [(12, .int s0_J367), (0, .ref q_t), (6, .int x6_J322), (7, .int x7_J322), (9, .int x9_J367), (10, .int x10_J367), (11, .int x11_J367)]) hx hb d_Mo_move_367 hl (by decide) rfl (fun ls hl => ?_)
          refine lv_iconst (v := 0) hx hb d_Mo_move_369 (by decide) ?_
          refine lv_istore (lv' := [(13, .int 0), (12, .int s0_J367), (0, .ref q_t), (6, .int x6_J322), (7, .int x7_J322), (9, .int x9_J367), (10, .int x10_J367), (11, .int x11_J367)]) hx hb d_Mo_move_370 hl (by decide) rfl (fun ls hl => ?_)
          obtain ⟨n_372, hw⟩ := hw
          have EX_454 : ∀ (x9_L372 : Int32) (x13_L372 : Int32) (f_t_contents_L372 : (Nat → Int32)) (H : Heap) (locs : List Loc) (ls : Array Slot), va_P (dC, dI) classes [(q_t, .inr (7, o_Mo a_t v_t_things v_t_pipes v_t_wide_J322 v_t_size v_t_place v_t_number v_t_thrown_J322 v_t_wish v_t_found)), ((a_t 1), .inl (cI, 40, .inl f_t_kinds)), ((a_t 3), .inl (cL, 40, .inr (.inl f_t_rooms))), ((a_t 4), .inl (cL, 40, .inr (.inl f_t_litres_J322))), ((a_t 5), .inl (cI, 40, .inl (upd f_t_liquids_J322 s1_J322.toNatClampNeg s0_J322))), ((a_t 6), .inl (cI, 40, .inl f_t_positions)), ((a_t 8), .inl (cI, 160, .inl f_t_ends)), ((a_t 10), .inl (cI, 60, .inl f_t_sizes)), ((a_t 11), .inl (cB, 12000, .inl f_t_contents_L372)), ((a_t 12), .inl (cI, 120, .inl f_t_at)), ((a_t 13), .inl (cI, 120, .inl f_t_ports)), ((a_t 14), .inl (cI, 120, .inl f_t_bends)), ((a_t 15), .inl (cI, 120, .inl f_t_left_J322)), ((a_t 16), .inl (cI, 60, .inl f_t_way_J322)), ((a_t 18), .inl (cB, 12000, .inl f_t_line_J322))] H → va_D A [(q_t, .inr (7, o_Mo a_t v_t_things v_t_pipes v_t_wide_J322 v_t_size v_t_place v_t_number v_t_thrown_J322 v_t_wish v_t_found)), ((a_t 1), .inl (cI, 40, .inl f_t_kinds)), ((a_t 3), .inl (cL, 40, .inr (.inl f_t_rooms))), ((a_t 4), .inl (cL, 40, .inr (.inl f_t_litres_J322))), ((a_t 5), .inl (cI, 40, .inl (upd f_t_liquids_J322 s1_J322.toNatClampNeg s0_J322))), ((a_t 6), .inl (cI, 40, .inl f_t_positions)), ((a_t 8), .inl (cI, 160, .inl f_t_ends)), ((a_t 10), .inl (cI, 60, .inl f_t_sizes)), ((a_t 11), .inl (cB, 12000, .inl f_t_contents_L372)), ((a_t 12), .inl (cI, 120, .inl f_t_at)), ((a_t 13), .inl (cI, 120, .inl f_t_ports)), ((a_t 14), .inl (cI, 120, .inl f_t_bends)), ((a_t 15), .inl (cI, 120, .inl f_t_left_J322)), ((a_t 16), .inl (cI, 60, .inl f_t_way_J322)), ((a_t 18), .inl (cB, 12000, .inl f_t_line_J322))] → va_S A s.heap H locs → lv_has ls 15 [(0, .ref q_t), (6, .int x6_J322), (7, .int x7_J322), (9, .int x9_L372), (10, .int x10_J367), (11, .int x11_J367), (12, .int s0_J367), (13, .int x13_L372)] → wk_Mo_move_454_372 x10_J367 (wl_Mo_move_329 v_t_wide_J322 f_t_way_J322 f_t_sizes x7_J322 f_t_line_J322 x6_J322 (wk_Mo_move_460_329 x7_J322 v_t_wide_J322 v_t_thrown_J322 f_t_litres_J322 f_t_liquids_J322 s1_J322 s0_J322 f_t_left_J322 f_t_way_J322 f_t_line_J322 P) k_329) x9_L372 x13_L372 f_t_contents_L372 → W p l e (headSpec w_Mo_move rm_Mo_move).room s m args below meth c H locs 0 0 (MQ below (Q_Mo_move dC dI cI cL cB q_t a_t v_t_things v_t_pipes v_t_wide v_t_size v_t_place v_t_number v_t_thrown v_t_wish v_t_found f_t_kinds f_t_rooms f_t_litres f_t_liquids f_t_positions f_t_ends f_t_sizes f_t_contents f_t_at f_t_ports f_t_bends f_t_left f_t_way f_t_line x1 x2 x3 P A) args s 0 0 A) (F0 m 454 ls []) := by
            intro x9_L372 x13_L372 f_t_contents_L372 H locs ls hP hD hS hl hw
            unfold wk_Mo_move_454_372 at hw
            refine lv_iinc (v := (x10_J367 + 1)) (lv' := [(10, .int (x10_J367 + 1)), (0, .ref q_t), (6, .int x6_J322), (7, .int x7_J322), (9, .int x9_L372), (11, .int x11_J367), (12, .int s0_J367), (13, .int x13_L372)]) hx hb d_Mo_move_454 hl (k := 4) rfl rfl (by decide) rfl (fun ls hl => ?_)
            refine lv_goto (tgt := 329) hx hb d_Mo_move_457 (by decide) ?_
            exact ih_329 x9_L372 (x10_J367 + 1) f_t_contents_L372 H _ _ hP hD hS (lv_sub hl [1, 2, 3, 4, 0] rfl) hw
          have LP_372 : ∀ (k_372 : Nat) (x9_L372 : Int32) (x13_L372 : Int32) (f_t_contents_L372 : (Nat → Int32)) (H : Heap) (locs : List Loc) (ls : Array Slot), va_P (dC, dI) classes [(q_t, .inr (7, o_Mo a_t v_t_things v_t_pipes v_t_wide_J322 v_t_size v_t_place v_t_number v_t_thrown_J322 v_t_wish v_t_found)), ((a_t 1), .inl (cI, 40, .inl f_t_kinds)), ((a_t 3), .inl (cL, 40, .inr (.inl f_t_rooms))), ((a_t 4), .inl (cL, 40, .inr (.inl f_t_litres_J322))), ((a_t 5), .inl (cI, 40, .inl (upd f_t_liquids_J322 s1_J322.toNatClampNeg s0_J322))), ((a_t 6), .inl (cI, 40, .inl f_t_positions)), ((a_t 8), .inl (cI, 160, .inl f_t_ends)), ((a_t 10), .inl (cI, 60, .inl f_t_sizes)), ((a_t 11), .inl (cB, 12000, .inl f_t_contents_L372)), ((a_t 12), .inl (cI, 120, .inl f_t_at)), ((a_t 13), .inl (cI, 120, .inl f_t_ports)), ((a_t 14), .inl (cI, 120, .inl f_t_bends)), ((a_t 15), .inl (cI, 120, .inl f_t_left_J322)), ((a_t 16), .inl (cI, 60, .inl f_t_way_J322)), ((a_t 18), .inl (cB, 12000, .inl f_t_line_J322))] H → va_D A [(q_t, .inr (7, o_Mo a_t v_t_things v_t_pipes v_t_wide_J322 v_t_size v_t_place v_t_number v_t_thrown_J322 v_t_wish v_t_found)), ((a_t 1), .inl (cI, 40, .inl f_t_kinds)), ((a_t 3), .inl (cL, 40, .inr (.inl f_t_rooms))), ((a_t 4), .inl (cL, 40, .inr (.inl f_t_litres_J322))), ((a_t 5), .inl (cI, 40, .inl (upd f_t_liquids_J322 s1_J322.toNatClampNeg s0_J322))), ((a_t 6), .inl (cI, 40, .inl f_t_positions)), ((a_t 8), .inl (cI, 160, .inl f_t_ends)), ((a_t 10), .inl (cI, 60, .inl f_t_sizes)), ((a_t 11), .inl (cB, 12000, .inl f_t_contents_L372)), ((a_t 12), .inl (cI, 120, .inl f_t_at)), ((a_t 13), .inl (cI, 120, .inl f_t_ports)), ((a_t 14), .inl (cI, 120, .inl f_t_bends)), ((a_t 15), .inl (cI, 120, .inl f_t_left_J322)), ((a_t 16), .inl (cI, 60, .inl f_t_way_J322)), ((a_t 18), .inl (cB, 12000, .inl f_t_line_J322))] → va_S A s.heap H locs → lv_has ls 15 [(0, .ref q_t), (6, .int x6_J322), (7, .int x7_J322), (9, .int x9_L372), (10, .int x10_J367), (11, .int x11_J367), (12, .int s0_J367), (13, .int x13_L372)] → wl_Mo_move_372 x11_J367 f_t_sizes x7_J322 s0_J367 f_t_line_J322 x6_J322 (wk_Mo_move_454_372 x10_J367 (wl_Mo_move_329 v_t_wide_J322 f_t_way_J322 f_t_sizes x7_J322 f_t_line_J322 x6_J322 (wk_Mo_move_460_329 x7_J322 v_t_wide_J322 v_t_thrown_J322 f_t_litres_J322 f_t_liquids_J322 s1_J322 s0_J322 f_t_left_J322 f_t_way_J322 f_t_line_J322 P) k_329)) k_372 x9_L372 x13_L372 f_t_contents_L372 → W p l e (headSpec w_Mo_move rm_Mo_move).room s m args below meth c H locs 0 0 (MQ below (Q_Mo_move dC dI cI cL cB q_t a_t v_t_things v_t_pipes v_t_wide v_t_size v_t_place v_t_number v_t_thrown v_t_wish v_t_found f_t_kinds f_t_rooms f_t_litres f_t_liquids f_t_positions f_t_ends f_t_sizes f_t_contents f_t_at f_t_ports f_t_bends f_t_left f_t_way f_t_line x1 x2 x3 P A) args s 0 0 A) (F0 m 372 ls []) := by
            intro k_372
            induction k_372 with
            | zero => intro x9_L372 x13_L372 f_t_contents_L372 H locs ls hP hD hS hl hw; unfold wl_Mo_move_372 at hw; exact hw.elim
            | succ k_372 ih_372 =>
              intro x9_L372 x13_L372 f_t_contents_L372 H locs ls hP hD hS hl hw
              unfold wl_Mo_move_372 at hw
              have J_406 : ∀ (x9_J406 : Int32) (x13_J406 : Int32) (f_t_contents_J406 : (Nat → Int32)) (s0_J406 : Int32) (H : Heap) (locs : List Loc) (ls : Array Slot), va_P (dC, dI) classes [(q_t, .inr (7, o_Mo a_t v_t_things v_t_pipes v_t_wide_J322 v_t_size v_t_place v_t_number v_t_thrown_J322 v_t_wish v_t_found)), ((a_t 1), .inl (cI, 40, .inl f_t_kinds)), ((a_t 3), .inl (cL, 40, .inr (.inl f_t_rooms))), ((a_t 4), .inl (cL, 40, .inr (.inl f_t_litres_J322))), ((a_t 5), .inl (cI, 40, .inl (upd f_t_liquids_J322 s1_J322.toNatClampNeg s0_J322))), ((a_t 6), .inl (cI, 40, .inl f_t_positions)), ((a_t 8), .inl (cI, 160, .inl f_t_ends)), ((a_t 10), .inl (cI, 60, .inl f_t_sizes)), ((a_t 11), .inl (cB, 12000, .inl f_t_contents_J406)), ((a_t 12), .inl (cI, 120, .inl f_t_at)), ((a_t 13), .inl (cI, 120, .inl f_t_ports)), ((a_t 14), .inl (cI, 120, .inl f_t_bends)), ((a_t 15), .inl (cI, 120, .inl f_t_left_J322)), ((a_t 16), .inl (cI, 60, .inl f_t_way_J322)), ((a_t 18), .inl (cB, 12000, .inl f_t_line_J322))] H → va_D A [(q_t, .inr (7, o_Mo a_t v_t_things v_t_pipes v_t_wide_J322 v_t_size v_t_place v_t_number v_t_thrown_J322 v_t_wish v_t_found)), ((a_t 1), .inl (cI, 40, .inl f_t_kinds)), ((a_t 3), .inl (cL, 40, .inr (.inl f_t_rooms))), ((a_t 4), .inl (cL, 40, .inr (.inl f_t_litres_J322))), ((a_t 5), .inl (cI, 40, .inl (upd f_t_liquids_J322 s1_J322.toNatClampNeg s0_J322))), ((a_t 6), .inl (cI, 40, .inl f_t_positions)), ((a_t 8), .inl (cI, 160, .inl f_t_ends)), ((a_t 10), .inl (cI, 60, .inl f_t_sizes)), ((a_t 11), .inl (cB, 12000, .inl f_t_contents_J406)), ((a_t 12), .inl (cI, 120, .inl f_t_at)), ((a_t 13), .inl (cI, 120, .inl f_t_ports)), ((a_t 14), .inl (cI, 120, .inl f_t_bends)), ((a_t 15), .inl (cI, 120, .inl f_t_left_J322)), ((a_t 16), .inl (cI, 60, .inl f_t_way_J322)), ((a_t 18), .inl (cB, 12000, .inl f_t_line_J322))] → va_S A s.heap H locs → lv_has ls 15 [(0, .ref q_t), (6, .int x6_J322), (7, .int x7_J322), (9, .int x9_J406), (10, .int x10_J367), (11, .int x11_J367), (12, .int s0_J367), (13, .int x13_J406)] → wj_Mo_move_406 s0_J367 x11_J367 f_t_sizes (wl_Mo_move_372 x11_J367 f_t_sizes x7_J322 s0_J367 f_t_line_J322 x6_J322 (wk_Mo_move_454_372 x10_J367 (wl_Mo_move_329 v_t_wide_J322 f_t_way_J322 f_t_sizes x7_J322 f_t_line_J322 x6_J322 (wk_Mo_move_460_329 x7_J322 v_t_wide_J322 v_t_thrown_J322 f_t_litres_J322 f_t_liquids_J322 s1_J322 s0_J322 f_t_left_J322 f_t_way_J322 f_t_line_J322 P) k_329)) k_372) x9_J406 x13_J406 f_t_contents_J406 s0_J406 → W p l e (headSpec w_Mo_move rm_Mo_move).room s m args below meth c H locs 0 0 (MQ below (Q_Mo_move dC dI cI cL cB q_t a_t v_t_things v_t_pipes v_t_wide v_t_size v_t_place v_t_number v_t_thrown v_t_wish v_t_found f_t_kinds f_t_rooms f_t_litres f_t_liquids f_t_positions f_t_ends f_t_sizes f_t_contents f_t_at f_t_ports f_t_bends f_t_left f_t_way f_t_line x1 x2 x3 P A) args s 0 0 A) (F0 m 406 ls [.int s0_J406]) := by
                intro x9_J406 x13_J406 f_t_contents_J406 s0_J406 H locs ls hP hD hS hl hw
                unfold wj_Mo_move_406 at hw
                refine lv_istore (lv' := [(14, .int s0_J406), (0, .ref q_t), (6, .int x6_J322), (7, .int x7_J322), (9, .int x9_J406), (10, .int x10_J367), (11, .int x11_J367), (12, .int s0_J367), (13, .int x13_J406)]) hx hb d_Mo_move_406 hl (by decide) rfl (fun ls hl => ?_)
                refine lv_aload_n hx hb d_Mo_move_408 rfl (lv_at hl 1 rfl) ?_
                refine va_get (D := (dC, dI)) (ci := 7) (v := .ref (a_t 11)) (C := R_Mo) (T := F_Mo) (N := 29) hx hb hts i_Mo hown hK hP 0 rfl rfl 11 (by decide) (hts (Cond.fieldLink R_Mo 38 "PlantGraphModel" "contents" "[B") kw32_fd4a9fd) (fun _ h9 => h9) rfl d_Mo_move_409 ?_
                refine lv_sipush (v := 200) hx hb d_Mo_move_412 (by decide) ?_
                refine lv_iload hx hb d_Mo_move_415 (lv_at hl 6 rfl) ?_
                refine lv_imul hx hb d_Mo_move_417 ?_
                refine lv_iload hx hb d_Mo_move_418 (lv_at hl 7 rfl) ?_
                refine lv_if_eq (tgt := 438) hx hb d_Mo_move_420 (by decide) (fun c420 => ?_) (fun c420 => ?_)
                · replace hw := hw.1 c420
                  refine lv_iload hx hb d_Mo_move_438 (lv_at hl 8 rfl) ?_
                  refine lv_iadd hx hb d_Mo_move_440 ?_
                  refine lv_iload hx hb d_Mo_move_441 (lv_at hl 0 rfl) ?_
                  refine lv_i2b hx hb d_Mo_move_443 rfl ?_
                  refine va_bast hx hb hK hP hD hS 8 2 rfl rfl hw.1 d_Mo_move_444 (fun H locs hP hD hS => ?_)
                  replace hw := hw.2
                  have hP : va_P (dC, dI) classes [(q_t, .inr (7, o_Mo a_t v_t_things v_t_pipes v_t_wide_J322 v_t_size v_t_place v_t_number v_t_thrown_J322 v_t_wish v_t_found)), ((a_t 1), .inl (cI, 40, .inl f_t_kinds)), ((a_t 3), .inl (cL, 40, .inr (.inl f_t_rooms))), ((a_t 4), .inl (cL, 40, .inr (.inl f_t_litres_J322))), ((a_t 5), .inl (cI, 40, .inl (upd f_t_liquids_J322 s1_J322.toNatClampNeg s0_J322))), ((a_t 6), .inl (cI, 40, .inl f_t_positions)), ((a_t 8), .inl (cI, 160, .inl f_t_ends)), ((a_t 10), .inl (cI, 60, .inl f_t_sizes)), ((a_t 11), .inl (cB, 12000, .inl (upd f_t_contents_J406 ((200 * x11_J367) + x13_J406).toNatClampNeg (vp_nar .byte ((s0_J406 : Int32).toInt8.toInt32))))), ((a_t 12), .inl (cI, 120, .inl f_t_at)), ((a_t 13), .inl (cI, 120, .inl f_t_ports)), ((a_t 14), .inl (cI, 120, .inl f_t_bends)), ((a_t 15), .inl (cI, 120, .inl f_t_left_J322)), ((a_t 16), .inl (cI, 60, .inl f_t_way_J322)), ((a_t 18), .inl (cB, 12000, .inl f_t_line_J322))] H := hP
                  have hD : va_D A [(q_t, .inr (7, o_Mo a_t v_t_things v_t_pipes v_t_wide_J322 v_t_size v_t_place v_t_number v_t_thrown_J322 v_t_wish v_t_found)), ((a_t 1), .inl (cI, 40, .inl f_t_kinds)), ((a_t 3), .inl (cL, 40, .inr (.inl f_t_rooms))), ((a_t 4), .inl (cL, 40, .inr (.inl f_t_litres_J322))), ((a_t 5), .inl (cI, 40, .inl (upd f_t_liquids_J322 s1_J322.toNatClampNeg s0_J322))), ((a_t 6), .inl (cI, 40, .inl f_t_positions)), ((a_t 8), .inl (cI, 160, .inl f_t_ends)), ((a_t 10), .inl (cI, 60, .inl f_t_sizes)), ((a_t 11), .inl (cB, 12000, .inl (upd f_t_contents_J406 ((200 * x11_J367) + x13_J406).toNatClampNeg (vp_nar .byte ((s0_J406 : Int32).toInt8.toInt32))))), ((a_t 12), .inl (cI, 120, .inl f_t_at)), ((a_t 13), .inl (cI, 120, .inl f_t_ports)), ((a_t 14), .inl (cI, 120, .inl f_t_bends)), ((a_t 15), .inl (cI, 120, .inl f_t_left_J322)), ((a_t 16), .inl (cI, 60, .inl f_t_way_J322)), ((a_t 18), .inl (cB, 12000, .inl f_t_line_J322))] := hD
                  refine lv_iinc (v := (x9_J406 + 1)) (lv' := [(9, .int (x9_J406 + 1)), (14, .int s0_J406), (0, .ref q_t), (6, .int x6_J322), (7, .int x7_J322), (10, .int x10_J367), (11, .int x11_J367), (12, .int s0_J367), (13, .int x13_J406)]) hx hb d_Mo_move_445 hl (k := 4) rfl rfl (by decide) rfl (fun ls hl => ?_)
                  refine lv_iinc (v := (x13_J406 + 1)) (lv' := [(13, .int (x13_J406 + 1)), (9, .int (x9_J406 + 1)), (14, .int s0_J406), (0, .ref q_t), (6, .int x6_J322), (7, .int x7_J322), (10, .int x10_J367), (11, .int x11_J367), (12, .int s0_J367)]) hx hb d_Mo_move_448 hl (k := 8) rfl rfl (by decide) rfl (fun ls hl => ?_)
                  refine lv_goto (tgt := 372) hx hb d_Mo_move_451 (by decide) ?_
                  exact ih_372 (x9_J406 + 1) (x13_J406 + 1) (upd f_t_contents_J406 ((200 * x11_J367) + x13_J406).toNatClampNeg (vp_nar .byte ((s0_J406 : Int32).toInt8.toInt32))) H _ _ hP hD hS (lv_sub hl [3, 4, 5, 1, 6, 7, 8, 0] rfl) hw
                · replace hw := hw.2 c420
                  refine lv_aload_n hx hb d_Mo_move_423 rfl (lv_at hl 1 rfl) ?_
                  refine va_get (D := (dC, dI)) (ci := 7) (v := .ref (a_t 10)) (C := R_Mo) (T := F_Mo) (N := 29) hx hb hts i_Mo hown hK hP 0 rfl rfl 10 (by decide) (hts (Cond.fieldLink R_Mo 35 "PlantGraphModel" "sizes" "[I") kw32_b664d45) (fun _ h9 => h9) rfl d_Mo_move_424 ?_
                  refine lv_iload hx hb d_Mo_move_427 (lv_at hl 6 rfl) ?_
                  refine va_iald hx hb hK hP 7 0 rfl rfl hw.1 d_Mo_move_429 ?_
                  replace hw := hw.2
                  refine lv_iconst (v := 1) hx hb d_Mo_move_430 (by decide) ?_
                  refine lv_isub hx hb d_Mo_move_431 ?_
                  refine lv_iload hx hb d_Mo_move_432 (lv_at hl 8 rfl) ?_
                  refine lv_isub hx hb d_Mo_move_434 ?_
                  refine lv_goto (tgt := 440) hx hb d_Mo_move_435 (by decide) ?_
                  refine lv_iadd hx hb d_Mo_move_440 ?_
                  refine lv_iload hx hb d_Mo_move_441 (lv_at hl 0 rfl) ?_
                  refine lv_i2b hx hb d_Mo_move_443 rfl ?_
                  refine va_bast hx hb hK hP hD hS 8 2 rfl rfl hw.1 d_Mo_move_444 (fun H locs hP hD hS => ?_)
                  replace hw := hw.2
                  have hP : va_P (dC, dI) classes [(q_t, .inr (7, o_Mo a_t v_t_things v_t_pipes v_t_wide_J322 v_t_size v_t_place v_t_number v_t_thrown_J322 v_t_wish v_t_found)), ((a_t 1), .inl (cI, 40, .inl f_t_kinds)), ((a_t 3), .inl (cL, 40, .inr (.inl f_t_rooms))), ((a_t 4), .inl (cL, 40, .inr (.inl f_t_litres_J322))), ((a_t 5), .inl (cI, 40, .inl (upd f_t_liquids_J322 s1_J322.toNatClampNeg s0_J322))), ((a_t 6), .inl (cI, 40, .inl f_t_positions)), ((a_t 8), .inl (cI, 160, .inl f_t_ends)), ((a_t 10), .inl (cI, 60, .inl f_t_sizes)), ((a_t 11), .inl (cB, 12000, .inl (upd f_t_contents_J406 ((200 * x11_J367) + (((f_t_sizes x11_J367.toNatClampNeg) - 1) - x13_J406)).toNatClampNeg (vp_nar .byte ((s0_J406 : Int32).toInt8.toInt32))))), ((a_t 12), .inl (cI, 120, .inl f_t_at)), ((a_t 13), .inl (cI, 120, .inl f_t_ports)), ((a_t 14), .inl (cI, 120, .inl f_t_bends)), ((a_t 15), .inl (cI, 120, .inl f_t_left_J322)), ((a_t 16), .inl (cI, 60, .inl f_t_way_J322)), ((a_t 18), .inl (cB, 12000, .inl f_t_line_J322))] H := hP
                  have hD : va_D A [(q_t, .inr (7, o_Mo a_t v_t_things v_t_pipes v_t_wide_J322 v_t_size v_t_place v_t_number v_t_thrown_J322 v_t_wish v_t_found)), ((a_t 1), .inl (cI, 40, .inl f_t_kinds)), ((a_t 3), .inl (cL, 40, .inr (.inl f_t_rooms))), ((a_t 4), .inl (cL, 40, .inr (.inl f_t_litres_J322))), ((a_t 5), .inl (cI, 40, .inl (upd f_t_liquids_J322 s1_J322.toNatClampNeg s0_J322))), ((a_t 6), .inl (cI, 40, .inl f_t_positions)), ((a_t 8), .inl (cI, 160, .inl f_t_ends)), ((a_t 10), .inl (cI, 60, .inl f_t_sizes)), ((a_t 11), .inl (cB, 12000, .inl (upd f_t_contents_J406 ((200 * x11_J367) + (((f_t_sizes x11_J367.toNatClampNeg) - 1) - x13_J406)).toNatClampNeg (vp_nar .byte ((s0_J406 : Int32).toInt8.toInt32))))), ((a_t 12), .inl (cI, 120, .inl f_t_at)), ((a_t 13), .inl (cI, 120, .inl f_t_ports)), ((a_t 14), .inl (cI, 120, .inl f_t_bends)), ((a_t 15), .inl (cI, 120, .inl f_t_left_J322)), ((a_t 16), .inl (cI, 60, .inl f_t_way_J322)), ((a_t 18), .inl (cB, 12000, .inl f_t_line_J322))] := hD
                  refine lv_iinc (v := (x9_J406 + 1)) (lv' := [(9, .int (x9_J406 + 1)), (14, .int s0_J406), (0, .ref q_t), (6, .int x6_J322), (7, .int x7_J322), (10, .int x10_J367), (11, .int x11_J367), (12, .int s0_J367), (13, .int x13_J406)]) hx hb d_Mo_move_445 hl (k := 4) rfl rfl (by decide) rfl (fun ls hl => ?_)
                  refine lv_iinc (v := (x13_J406 + 1)) (lv' := [(13, .int (x13_J406 + 1)), (9, .int (x9_J406 + 1)), (14, .int s0_J406), (0, .ref q_t), (6, .int x6_J322), (7, .int x7_J322), (10, .int x10_J367), (11, .int x11_J367), (12, .int s0_J367)]) hx hb d_Mo_move_448 hl (k := 8) rfl rfl (by decide) rfl (fun ls hl => ?_)
                  refine lv_goto (tgt := 372) hx hb d_Mo_move_451 (by decide) ?_
                  exact ih_372 (x9_J406 + 1) (x13_J406 + 1) (upd f_t_contents_J406 ((200 * x11_J367) + (((f_t_sizes x11_J367.toNatClampNeg) - 1) - x13_J406)).toNatClampNeg (vp_nar .byte ((s0_J406 : Int32).toInt8.toInt32))) H _ _ hP hD hS (lv_sub hl [3, 4, 5, 1, 6, 7, 8, 0] rfl) hw
              refine lv_iload hx hb d_Mo_move_372 (lv_at hl 7 rfl) ?_
              refine lv_aload_n hx hb d_Mo_move_374 rfl (lv_at hl 0 rfl) ?_
              refine va_get (D := (dC, dI)) (ci := 7) (v := .ref (a_t 10)) (C := R_Mo) (T := F_Mo) (N := 29) hx hb hts i_Mo hown hK hP 0 rfl rfl 10 (by decide) (hts (Cond.fieldLink R_Mo 35 "PlantGraphModel" "sizes" "[I") kw32_b664d45) (fun _ h9 => h9) rfl d_Mo_move_375 ?_
              refine lv_iload hx hb d_Mo_move_378 (lv_at hl 5 rfl) ?_
              refine va_iald hx hb hK hP 7 0 rfl rfl hw.1 d_Mo_move_380 ?_
              replace hw := hw.2
              refine lv_icmp_ge (tgt := 454) hx hb d_Mo_move_381 (by decide) (fun c381 => ?_) (fun c381 => ?_)
              · replace hw := hw.1 c381
                exact EX_454 x9_L372 x13_L372 f_t_contents_L372 H _ _ hP hD hS (lv_sub hl [0, 1, 2, 3, 4, 5, 6, 7] rfl) hw
              · replace hw := hw.2 c381
                refine lv_iload hx hb d_Mo_move_384 (lv_at hl 3 rfl) ?_
                refine lv_iload hx hb d_Mo_move_386 (lv_at hl 2 rfl) ?_
                refine lv_icmp_ge (tgt := 396) hx hb d_Mo_move_388 (by decide) (fun c388 => ?_) (fun c388 => ?_)
                · replace hw := hw.1 c388
                  refine lv_aload_n hx hb d_Mo_move_396 rfl (lv_at hl 0 rfl) ?_
                  refine va_get (D := (dC, dI)) (ci := 7) (v := .ref (a_t 18)) (C := R_Mo) (T := F_Mo) (N := 29) hx hb hts i_Mo hown hK hP 0 rfl rfl 18 (by decide) (hts (Cond.fieldLink R_Mo 57 "PlantGraphModel" "line" "[B") kw32_2e8e0ae) (fun _ h9 => h9) rfl d_Mo_move_397 ?_
                  refine lv_iload hx hb d_Mo_move_400 (lv_at hl 3 rfl) ?_
                  refine lv_iload hx hb d_Mo_move_402 (lv_at hl 2 rfl) ?_
                  refine lv_isub hx hb d_Mo_move_404 ?_
                  refine va_bald hx hb hK hP 14 2 rfl rfl hw.1 d_Mo_move_405 ?_
                  replace hw := hw.2
                  exact J_406 x9_L372 x13_L372 f_t_contents_L372 (f_t_line_J322 (x9_L372 - x7_J322).toNatClampNeg) H _ _ hP hD hS (lv_sub hl [0, 1, 2, 3, 4, 5, 6, 7] rfl) hw
                · replace hw := hw.2 c388
                  refine lv_iload hx hb d_Mo_move_391 (lv_at hl 1 rfl) ?_
                  refine lv_goto (tgt := 406) hx hb d_Mo_move_393 (by decide) ?_
                  exact J_406 x9_L372 x13_L372 f_t_contents_L372 x6_J322 H _ _ hP hD hS (lv_sub hl [0, 1, 2, 3, 4, 5, 6, 7] rfl) hw
          exact LP_372 n_372 x9_J367 0 f_t_contents_J367 H _ _ hP hD hS (lv_sub hl [2, 3, 4, 5, 6, 7, 1, 0] rfl) hw
        refine lv_iload hx hb d_Mo_move_329 (lv_at hl 4 rfl) ?_
        refine lv_aload_n hx hb d_Mo_move_331 rfl (lv_at hl 0 rfl) ?_
        refine va_get (D := (dC, dI)) (ci := 7) (v := .int v_t_wide_J322) (C := R_Mo) (T := F_Mo) (N := 29) hx hb hts i_Mo hown hK hP 0 rfl rfl 17 (by decide) (hts (Cond.fieldLink R_Mo 134 "PlantGraphModel" "wide" "I") kw32_aabbf4f) (fun _ h9 => h9) rfl d_Mo_move_332 ?_
        refine lv_icmp_ge (tgt := 460) hx hb d_Mo_move_335 (by decide) (fun c335 => ?_) (fun c335 => ?_)
        · replace hw := hw.1 c335
          exact EX_460 x9_L329 x10_L329 f_t_contents_L329 H _ _ hP hD hS (lv_sub hl [0, 1, 2, 3, 4] rfl) hw
        · replace hw := hw.2 c335
          refine lv_aload_n hx hb d_Mo_move_338 rfl (lv_at hl 0 rfl) ?_
          refine va_get (D := (dC, dI)) (ci := 7) (v := .ref (a_t 16)) (C := R_Mo) (T := F_Mo) (N := 29) hx hb hts i_Mo hown hK hP 0 rfl rfl 16 (by decide) (hts (Cond.fieldLink R_Mo 54 "PlantGraphModel" "way" "[I") kw32_34de539) (fun _ h9 => h9) rfl d_Mo_move_339 ?_
          refine lv_iload hx hb d_Mo_move_342 (lv_at hl 4 rfl) ?_
          refine va_iald hx hb hK hP 13 0 rfl rfl hw.1 d_Mo_move_344 ?_
          replace hw := hw.2
          refine lv_iconst (v := 2) hx hb d_Mo_move_345 (by decide) ?_
          refine lv_idiv hx hb d_Mo_move_346 (by decide) ?_
          refine lv_istore (lv' := [(11, .int ((f_t_way_J322 x10_L329.toNatClampNeg) / 2)), (0, .ref q_t), (6, .int x6_J322), (7, .int x7_J322), (9, .int x9_L329), (10, .int x10_L329)]) hx hb d_Mo_move_347 hl (by decide) rfl (fun ls hl => ?_)
          refine lv_aload_n hx hb d_Mo_move_349 rfl (lv_at hl 1 rfl) ?_
          refine va_get (D := (dC, dI)) (ci := 7) (v := .ref (a_t 16)) (C := R_Mo) (T := F_Mo) (N := 29) hx hb hts i_Mo hown hK hP 0 rfl rfl 16 (by decide) (hts (Cond.fieldLink R_Mo 54 "PlantGraphModel" "way" "[I") kw32_34de539) (fun _ h9 => h9) rfl d_Mo_move_350 ?_
          refine lv_iload hx hb d_Mo_move_353 (lv_at hl 5 rfl) ?_
          refine va_iald hx hb hK hP 13 0 rfl rfl hw.1 d_Mo_move_355 ?_
          replace hw := hw.2
          refine lv_iconst (v := 2) hx hb d_Mo_move_356 (by decide) ?_
          refine lv_irem hx hb d_Mo_move_357 (by decide) ?_
          refine lv_iconst (v := 1) hx hb d_Mo_move_358 (by decide) ?_
          refine lv_icmp_ne (tgt := 366) hx hb d_Mo_move_359 (by decide) (fun c359 => ?_) (fun c359 => ?_)
          · replace hw := hw.1 c359
            refine lv_iconst (v := 0) hx hb d_Mo_move_366 (by decide) ?_
            exact J_367 x9_L329 x10_L329 ((f_t_way_J322 x10_L329.toNatClampNeg) / 2) f_t_contents_L329 0 H _ _ hP hD hS (lv_sub hl [1, 2, 3, 4, 5, 0] rfl) hw
          · replace hw := hw.2 c359
            refine lv_iconst (v := 1) hx hb d_Mo_move_362 (by decide) ?_
            refine lv_goto (tgt := 367) hx hb d_Mo_move_363 (by decide) ?_
            exact J_367 x9_L329 x10_L329 ((f_t_way_J322 x10_L329.toNatClampNeg) / 2) f_t_contents_L329 1 H _ _ hP hD hS (lv_sub hl [1, 2, 3, 4, 5, 0] rfl) hw
    exact LP_329 n_329 0 0 f_t_contents_J322 H _ _ hP hD hS (lv_sub hl [2, 3, 4, 1, 0] rfl) hw
  have J_296 : ∀ (x6_J296 : Int32) (x7_J296 : Int32) (v_t_wide_J296 : Int32) (v_t_thrown_J296 : Int32) (f_t_litres_J296 : (Nat → Int64)) (f_t_liquids_J296 : (Nat → Int32)) (f_t_contents_J296 : (Nat → Int32)) (f_t_left_J296 : (Nat → Int32)) (f_t_way_J296 : (Nat → Int32)) (f_t_line_J296 : (Nat → Int32)) (H : Heap) (locs : List Loc) (ls : Array Slot), va_P (dC, dI) classes [(q_t, .inr (7, o_Mo a_t v_t_things v_t_pipes v_t_wide_J296 v_t_size v_t_place v_t_number v_t_thrown_J296 v_t_wish v_t_found)), ((a_t 1), .inl (cI, 40, .inl f_t_kinds)), ((a_t 3), .inl (cL, 40, .inr (.inl f_t_rooms))), ((a_t 4), .inl (cL, 40, .inr (.inl f_t_litres_J296))), ((a_t 5), .inl (cI, 40, .inl f_t_liquids_J296)), ((a_t 6), .inl (cI, 40, .inl f_t_positions)), ((a_t 8), .inl (cI, 160, .inl f_t_ends)), ((a_t 10), .inl (cI, 60, .inl f_t_sizes)), ((a_t 11), .inl (cB, 12000, .inl f_t_contents_J296)), ((a_t 12), .inl (cI, 120, .inl f_t_at)), ((a_t 13), .inl (cI, 120, .inl f_t_ports)), ((a_t 14), .inl (cI, 120, .inl f_t_bends)), ((a_t 15), .inl (cI, 120, .inl f_t_left_J296)), ((a_t 16), .inl (cI, 60, .inl f_t_way_J296)), ((a_t 18), .inl (cB, 12000, .inl f_t_line_J296))] H → va_D A [(q_t, .inr (7, o_Mo a_t v_t_things v_t_pipes v_t_wide_J296 v_t_size v_t_place v_t_number v_t_thrown_J296 v_t_wish v_t_found)), ((a_t 1), .inl (cI, 40, .inl f_t_kinds)), ((a_t 3), .inl (cL, 40, .inr (.inl f_t_rooms))), ((a_t 4), .inl (cL, 40, .inr (.inl f_t_litres_J296))), ((a_t 5), .inl (cI, 40, .inl f_t_liquids_J296)), ((a_t 6), .inl (cI, 40, .inl f_t_positions)), ((a_t 8), .inl (cI, 160, .inl f_t_ends)), ((a_t 10), .inl (cI, 60, .inl f_t_sizes)), ((a_t 11), .inl (cB, 12000, .inl f_t_contents_J296)), ((a_t 12), .inl (cI, 120, .inl f_t_at)), ((a_t 13), .inl (cI, 120, .inl f_t_ports)), ((a_t 14), .inl (cI, 120, .inl f_t_bends)), ((a_t 15), .inl (cI, 120, .inl f_t_left_J296)), ((a_t 16), .inl (cI, 60, .inl f_t_way_J296)), ((a_t 18), .inl (cB, 12000, .inl f_t_line_J296))] → va_S A s.heap H locs → lv_has ls 15 [(0, .ref q_t), (1, .int x1), (6, .int x6_J296), (7, .int x7_J296)] → wj_Mo_move_296 x1 f_t_sizes P x6_J296 x7_J296 v_t_wide_J296 v_t_thrown_J296 f_t_litres_J296 f_t_liquids_J296 f_t_contents_J296 f_t_left_J296 f_t_way_J296 f_t_line_J296 → W p l e (headSpec w_Mo_move rm_Mo_move).room s m args below meth c H locs 0 0 (MQ below (Q_Mo_move dC dI cI cL cB q_t a_t v_t_things v_t_pipes v_t_wide v_t_size v_t_place v_t_number v_t_thrown v_t_wish v_t_found f_t_kinds f_t_rooms f_t_litres f_t_liquids f_t_positions f_t_ends f_t_sizes f_t_contents f_t_at f_t_ports f_t_bends f_t_left f_t_way f_t_line x1 x2 x3 P A) args s 0 0 A) (F0 m 296 ls []) := by
    intro x6_J296 x7_J296 v_t_wide_J296 v_t_thrown_J296 f_t_litres_J296 f_t_liquids_J296 f_t_contents_J296 f_t_left_J296 f_t_way_J296 f_t_line_J296 H locs ls hP hD hS hl hw
    unfold wj_Mo_move_296 at hw
    refine lv_aload_n hx hb d_Mo_move_296 rfl (lv_at hl 0 rfl) ?_
    refine va_get (D := (dC, dI)) (ci := 7) (v := .ref (a_t 5)) (C := R_Mo) (T := F_Mo) (N := 29) hx hb hts i_Mo hown hK hP 0 rfl rfl 5 (by decide) (hts (Cond.fieldLink R_Mo 23 "PlantGraphModel" "liquids" "[I") kw32_39da439) (fun _ h9 => h9) rfl d_Mo_move_297 ?_
    refine lv_iload_n hx hb d_Mo_move_300 rfl (lv_at hl 1 rfl) ?_
    refine lv_aload_n hx hb d_Mo_move_301 rfl (lv_at hl 0 rfl) ?_
    refine va_get (D := (dC, dI)) (ci := 7) (v := .ref (a_t 4)) (C := R_Mo) (T := F_Mo) (N := 29) hx hb hts i_Mo hown hK hP 0 rfl rfl 4 (by decide) (hts (Cond.fieldLink R_Mo 20 "PlantGraphModel" "litres" "[J") kw32_ca8a8d8) (fun _ h9 => h9) rfl d_Mo_move_302 ?_
    refine lv_iload_n hx hb d_Mo_move_305 rfl (lv_at hl 1 rfl) ?_
    refine va_lald hx hb hK hP 3 1 rfl rfl hw.1 d_Mo_move_306 ?_
    replace hw := hw.2
    refine lv_lconst (v := 0) hx hb d_Mo_move_307 (by decide) ?_
    refine W.lcmp hx hb d_Mo_move_308 ?_
    refine lv_if_ne (tgt := 316) hx hb d_Mo_move_309 (by decide) (fun c309 => ?_) (fun c309 => ?_)
    · replace hw := hw.1 c309
      refine lv_aload_n hx hb d_Mo_move_316 rfl (lv_at hl 0 rfl) ?_
      refine va_get (D := (dC, dI)) (ci := 7) (v := .ref (a_t 5)) (C := R_Mo) (T := F_Mo) (N := 29) hx hb hts i_Mo hown hK hP 0 rfl rfl 5 (by decide) (hts (Cond.fieldLink R_Mo 23 "PlantGraphModel" "liquids" "[I") kw32_39da439) (fun _ h9 => h9) rfl d_Mo_move_317 ?_
      refine lv_iload_n hx hb d_Mo_move_320 rfl (lv_at hl 1 rfl) ?_
      refine va_iald hx hb hK hP 4 0 rfl rfl hw.1 d_Mo_move_321 ?_
      replace hw := hw.2
      exact J_322 x6_J296 x7_J296 v_t_wide_J296 v_t_thrown_J296 f_t_litres_J296 f_t_liquids_J296 f_t_contents_J296 f_t_left_J296 f_t_way_J296 f_t_line_J296 (f_t_liquids_J296 x1.toNatClampNeg) x1 H _ _ hP hD hS (lv_sub hl [0, 2, 3] rfl) hw
    · replace hw := hw.2 c309
      refine lv_iconst (v := 0) hx hb d_Mo_move_312 (by decide) ?_
      refine lv_goto (tgt := 322) hx hb d_Mo_move_313 (by decide) ?_
      exact J_322 x6_J296 x7_J296 v_t_wide_J296 v_t_thrown_J296 f_t_litres_J296 f_t_liquids_J296 f_t_contents_J296 f_t_left_J296 f_t_way_J296 f_t_line_J296 0 x1 H _ _ hP hD hS (lv_sub hl [0, 2, 3] rfl) hw
  refine lv_aload_n hx hb d_Mo_move_0 rfl (lv_at hl 0 rfl) ?_
  refine lv_iconst (v := 0) hx hb d_Mo_move_1 (by decide) ?_
  refine va_put (D := (dC, dI)) (ci := 7) (v := .int 0) (ty := .int) (C := R_Mo) (T := F_Mo) (N := 29) hx hb hts i_Mo t_Mo t_Mo_ok n_Mo hown hK hP hD hS 0 rfl rfl 26 (by decide) (hts (Cond.fieldLink R_Mo 72 "PlantGraphModel" "thrown" "I") kw32_6501a0b) (fun _ h9 => h9) rfl (by decide +kernel) rfl rfl (Nat.le_of_ble_eq_true rfl) d_Mo_move_2 (fun H locs hP hD hS => ?_)
  have hP : va_P (dC, dI) classes [(q_t, .inr (7, o_Mo a_t v_t_things v_t_pipes v_t_wide v_t_size v_t_place v_t_number 0 v_t_wish v_t_found)), ((a_t 1), .inl (cI, 40, .inl f_t_kinds)), ((a_t 3), .inl (cL, 40, .inr (.inl f_t_rooms))), ((a_t 4), .inl (cL, 40, .inr (.inl f_t_litres))), ((a_t 5), .inl (cI, 40, .inl f_t_liquids)), ((a_t 6), .inl (cI, 40, .inl f_t_positions)), ((a_t 8), .inl (cI, 160, .inl f_t_ends)), ((a_t 10), .inl (cI, 60, .inl f_t_sizes)), ((a_t 11), .inl (cB, 12000, .inl f_t_contents)), ((a_t 12), .inl (cI, 120, .inl f_t_at)), ((a_t 13), .inl (cI, 120, .inl f_t_ports)), ((a_t 14), .inl (cI, 120, .inl f_t_bends)), ((a_t 15), .inl (cI, 120, .inl f_t_left)), ((a_t 16), .inl (cI, 60, .inl f_t_way)), ((a_t 18), .inl (cB, 12000, .inl f_t_line))] H := hP
  have hD : va_D A [(q_t, .inr (7, o_Mo a_t v_t_things v_t_pipes v_t_wide v_t_size v_t_place v_t_number 0 v_t_wish v_t_found)), ((a_t 1), .inl (cI, 40, .inl f_t_kinds)), ((a_t 3), .inl (cL, 40, .inr (.inl f_t_rooms))), ((a_t 4), .inl (cL, 40, .inr (.inl f_t_litres))), ((a_t 5), .inl (cI, 40, .inl f_t_liquids)), ((a_t 6), .inl (cI, 40, .inl f_t_positions)), ((a_t 8), .inl (cI, 160, .inl f_t_ends)), ((a_t 10), .inl (cI, 60, .inl f_t_sizes)), ((a_t 11), .inl (cB, 12000, .inl f_t_contents)), ((a_t 12), .inl (cI, 120, .inl f_t_at)), ((a_t 13), .inl (cI, 120, .inl f_t_ports)), ((a_t 14), .inl (cI, 120, .inl f_t_bends)), ((a_t 15), .inl (cI, 120, .inl f_t_left)), ((a_t 16), .inl (cI, 60, .inl f_t_way)), ((a_t 18), .inl (cB, 12000, .inl f_t_line))] := hD
  refine lv_aload_n hx hb d_Mo_move_5 rfl (lv_at hl 0 rfl) ?_
  refine lv_iload_n hx hb d_Mo_move_6 rfl (lv_at hl 1 rfl) ?_
  have hPc := hP.sub (ws' := [(q_t, .inr (7, o_Mo a_t v_t_things v_t_pipes v_t_wide v_t_size v_t_place v_t_number 0 v_t_wish v_t_found)), ((a_t 1), .inl (cI, 40, .inl f_t_kinds))]) [0, 1] rfl
  have hDc := hD.sub (ws' := [(q_t, .inr (7, o_Mo a_t v_t_things v_t_pipes v_t_wide v_t_size v_t_place v_t_number 0 v_t_wish v_t_found)), ((a_t 1), .inl (cI, 40, .inl f_t_kinds))]) [0, 1] (by decide) rfl
  have hFc := va_free (wc := [(q_t, .inr (7, o_Mo a_t v_t_things v_t_pipes v_t_wide v_t_size v_t_place v_t_number 0 v_t_wish v_t_found)), ((a_t 1), .inl (cI, 40, .inl f_t_kinds))]) hD hS hA [0, 1] rfl
  refine va_calli (va_runV (As := [.int x1]) (rest := []) ⟨hx, hb, hml, hown, hts⟩ (c_Mo_isTank l dC dI cI cL cB q_t a_t H.size v_t_things v_t_pipes v_t_wide v_t_size v_t_place v_t_number 0 v_t_wish v_t_found f_t_kinds x1 _ hw) (my_cwV 1 hts kw32_9096378 kw32_f60b64a kw32_aff81c1 kw32_7a5931c kw32_0b8852f rfl rfl (by decide +kernel) ⟨Nat.le_of_ble_eq_true rfl, Nat.le_of_ble_eq_true rfl⟩) ⟨fun a U g mk q => by obtain ⟨q0, q1, qP, qK, qD⟩ := q; exact ⟨q0, q1, qP, va_K.moved (u := U) (U := U.calling g mk a) (Vm.Alike.refl U.vm) qK, qD⟩, va_recv hK hP (ci := 7) (q0 := 0) rfl rfl, fun U hU hW => ⟨rfl, by rw [hU], by rw [hU]; exact hPc, va_K.moved hW.alike hK, hDc.weaken (fun _ _ _ _ => trivial)⟩⟩ rfl rfl hl.1 rfl (lv_room (Nat.le_of_ble_eq_true rfl)) d_Mo_move_7 ⟨Nat.zero_le _, Nat.zero_le _⟩) hS (fun q _ h => hFc q h) hFc (fun r7 u t H locs ht hvm hw hB hz1 hk1 hS => ?_)
  obtain ⟨hP1, hK1, hD1⟩ := hB
  rw [ht] at hP1
  obtain ⟨hP, hD⟩ := va_join (wr := [((a_t 3), .inl (cL, 40, .inr (.inl f_t_rooms))), ((a_t 4), .inl (cL, 40, .inr (.inl f_t_litres))), ((a_t 5), .inl (cI, 40, .inl f_t_liquids)), ((a_t 6), .inl (cI, 40, .inl f_t_positions)), ((a_t 8), .inl (cI, 160, .inl f_t_ends)), ((a_t 10), .inl (cI, 60, .inl f_t_sizes)), ((a_t 11), .inl (cB, 12000, .inl f_t_contents)), ((a_t 12), .inl (cI, 120, .inl f_t_at)), ((a_t 13), .inl (cI, 120, .inl f_t_ports)), ((a_t 14), .inl (cI, 120, .inl f_t_bends)), ((a_t 15), .inl (cI, 120, .inl f_t_left)), ((a_t 16), .inl (cI, 60, .inl f_t_way)), ((a_t 18), .inl (cB, 12000, .inl f_t_line))]) (w1 := [(q_t, .inr (7, o_Mo a_t v_t_things v_t_pipes v_t_wide v_t_size v_t_place v_t_number 0 v_t_wish v_t_found)), ((a_t 1), .inl (cI, 40, .inl f_t_kinds))]) hP hD [0, 1] [2, 3, 4, 5, 6, 7, 8, 9, 10, 11, 12, 13, 14] rfl rfl (by decide) (by decide) hk1 hFc hP1 hD1
  have hP : va_P (dC, dI) classes [(q_t, .inr (7, o_Mo a_t v_t_things v_t_pipes v_t_wide v_t_size v_t_place v_t_number 0 v_t_wish v_t_found)), ((a_t 1), .inl (cI, 40, .inl f_t_kinds)), ((a_t 3), .inl (cL, 40, .inr (.inl f_t_rooms))), ((a_t 4), .inl (cL, 40, .inr (.inl f_t_litres))), ((a_t 5), .inl (cI, 40, .inl f_t_liquids)), ((a_t 6), .inl (cI, 40, .inl f_t_positions)), ((a_t 8), .inl (cI, 160, .inl f_t_ends)), ((a_t 10), .inl (cI, 60, .inl f_t_sizes)), ((a_t 11), .inl (cB, 12000, .inl f_t_contents)), ((a_t 12), .inl (cI, 120, .inl f_t_at)), ((a_t 13), .inl (cI, 120, .inl f_t_ports)), ((a_t 14), .inl (cI, 120, .inl f_t_bends)), ((a_t 15), .inl (cI, 120, .inl f_t_left)), ((a_t 16), .inl (cI, 60, .inl f_t_way)), ((a_t 18), .inl (cB, 12000, .inl f_t_line))] H := hP.sub (ws' := [(q_t, .inr (7, o_Mo a_t v_t_things v_t_pipes v_t_wide v_t_size v_t_place v_t_number 0 v_t_wish v_t_found)), ((a_t 1), .inl (cI, 40, .inl f_t_kinds)), ((a_t 3), .inl (cL, 40, .inr (.inl f_t_rooms))), ((a_t 4), .inl (cL, 40, .inr (.inl f_t_litres))), ((a_t 5), .inl (cI, 40, .inl f_t_liquids)), ((a_t 6), .inl (cI, 40, .inl f_t_positions)), ((a_t 8), .inl (cI, 160, .inl f_t_ends)), ((a_t 10), .inl (cI, 60, .inl f_t_sizes)), ((a_t 11), .inl (cB, 12000, .inl f_t_contents)), ((a_t 12), .inl (cI, 120, .inl f_t_at)), ((a_t 13), .inl (cI, 120, .inl f_t_ports)), ((a_t 14), .inl (cI, 120, .inl f_t_bends)), ((a_t 15), .inl (cI, 120, .inl f_t_left)), ((a_t 16), .inl (cI, 60, .inl f_t_way)), ((a_t 18), .inl (cB, 12000, .inl f_t_line))]) [13, 14, 0, 1, 2, 3, 4, 5, 6, 7, 8, 9, 10, 11, 12] rfl
  have hD : va_D A [(q_t, .inr (7, o_Mo a_t v_t_things v_t_pipes v_t_wide v_t_size v_t_place v_t_number 0 v_t_wish v_t_found)), ((a_t 1), .inl (cI, 40, .inl f_t_kinds)), ((a_t 3), .inl (cL, 40, .inr (.inl f_t_rooms))), ((a_t 4), .inl (cL, 40, .inr (.inl f_t_litres))), ((a_t 5), .inl (cI, 40, .inl f_t_liquids)), ((a_t 6), .inl (cI, 40, .inl f_t_positions)), ((a_t 8), .inl (cI, 160, .inl f_t_ends)), ((a_t 10), .inl (cI, 60, .inl f_t_sizes)), ((a_t 11), .inl (cB, 12000, .inl f_t_contents)), ((a_t 12), .inl (cI, 120, .inl f_t_at)), ((a_t 13), .inl (cI, 120, .inl f_t_ports)), ((a_t 14), .inl (cI, 120, .inl f_t_bends)), ((a_t 15), .inl (cI, 120, .inl f_t_left)), ((a_t 16), .inl (cI, 60, .inl f_t_way)), ((a_t 18), .inl (cB, 12000, .inl f_t_line))] := hD.sub (ws' := [(q_t, .inr (7, o_Mo a_t v_t_things v_t_pipes v_t_wide v_t_size v_t_place v_t_number 0 v_t_wish v_t_found)), ((a_t 1), .inl (cI, 40, .inl f_t_kinds)), ((a_t 3), .inl (cL, 40, .inr (.inl f_t_rooms))), ((a_t 4), .inl (cL, 40, .inr (.inl f_t_litres))), ((a_t 5), .inl (cI, 40, .inl f_t_liquids)), ((a_t 6), .inl (cI, 40, .inl f_t_positions)), ((a_t 8), .inl (cI, 160, .inl f_t_ends)), ((a_t 10), .inl (cI, 60, .inl f_t_sizes)), ((a_t 11), .inl (cB, 12000, .inl f_t_contents)), ((a_t 12), .inl (cI, 120, .inl f_t_at)), ((a_t 13), .inl (cI, 120, .inl f_t_ports)), ((a_t 14), .inl (cI, 120, .inl f_t_bends)), ((a_t 15), .inl (cI, 120, .inl f_t_left)), ((a_t 16), .inl (cI, 60, .inl f_t_way)), ((a_t 18), .inl (cB, 12000, .inl f_t_line))]) [13, 14, 0, 1, 2, 3, 4, 5, 6, 7, 8, 9, 10, 11, 12] (by decide) rfl
  refine lv_if_eq (tgt := 49) hx hb d_Mo_move_10 (by decide) (fun c10 => ?_) (fun c10 => ?_)
  · replace hw := hw.1 c10
    refine lv_ldc2 (v := (-1)) hx hb hown (hts (Cond.constantLong R_Mo 141 (-1)) kw32_485221d) d_Mo_move_49 ?_
    exact W.lret (v := (-1)) hx hb hr (fun t ht hW => ⟨⟨(-1), (v_t_wide, 0, f_t_litres, f_t_liquids, f_t_contents, f_t_left, f_t_way, f_t_line), rfl, hw, by rw [ht]; exact hP, va_K.moved hW.alike hK, hD⟩, hS.F ht⟩) hS.2.2 d_Mo_move_52
  · replace hw := hw.2 c10
    refine lv_aload_n hx hb d_Mo_move_13 rfl (lv_at hl 0 rfl) ?_
    refine lv_iload_n hx hb d_Mo_move_14 rfl (lv_at hl 2 rfl) ?_
    have hPc := hP.sub (ws' := [(q_t, .inr (7, o_Mo a_t v_t_things v_t_pipes v_t_wide v_t_size v_t_place v_t_number 0 v_t_wish v_t_found)), ((a_t 1), .inl (cI, 40, .inl f_t_kinds))]) [0, 1] rfl
    have hDc := hD.sub (ws' := [(q_t, .inr (7, o_Mo a_t v_t_things v_t_pipes v_t_wide v_t_size v_t_place v_t_number 0 v_t_wish v_t_found)), ((a_t 1), .inl (cI, 40, .inl f_t_kinds))]) [0, 1] (by decide) rfl
    have hFc := va_free (wc := [(q_t, .inr (7, o_Mo a_t v_t_things v_t_pipes v_t_wide v_t_size v_t_place v_t_number 0 v_t_wish v_t_found)), ((a_t 1), .inl (cI, 40, .inl f_t_kinds))]) hD hS hA [0, 1] rfl
    refine va_calli (va_runV (As := [.int x2]) (rest := []) ⟨hx, hb, hml, hown, hts⟩ (c_Mo_isTank l dC dI cI cL cB q_t a_t H.size v_t_things v_t_pipes v_t_wide v_t_size v_t_place v_t_number 0 v_t_wish v_t_found f_t_kinds x2 _ hw) (my_cwV 1 hts kw32_9096378 kw32_f60b64a kw32_aff81c1 kw32_7a5931c kw32_0b8852f rfl rfl (by decide +kernel) ⟨Nat.le_of_ble_eq_true rfl, Nat.le_of_ble_eq_true rfl⟩) ⟨fun a U g mk q => by obtain ⟨q0, q1, qP, qK, qD⟩ := q; exact ⟨q0, q1, qP, va_K.moved (u := U) (U := U.calling g mk a) (Vm.Alike.refl U.vm) qK, qD⟩, va_recv hK hP (ci := 7) (q0 := 0) rfl rfl, fun U hU hW => ⟨rfl, by rw [hU], by rw [hU]; exact hPc, va_K.moved hW.alike hK, hDc.weaken (fun _ _ _ _ => trivial)⟩⟩ rfl rfl hl.1 rfl (lv_room (Nat.le_of_ble_eq_true rfl)) d_Mo_move_15 ⟨Nat.zero_le _, Nat.zero_le _⟩) hS (fun q _ h => hFc q h) hFc (fun r15 u t H locs ht hvm hw hB hz1 hk1 hS => ?_)
    obtain ⟨hP1, hK1, hD1⟩ := hB
    rw [ht] at hP1
    obtain ⟨hP, hD⟩ := va_join (wr := [((a_t 3), .inl (cL, 40, .inr (.inl f_t_rooms))), ((a_t 4), .inl (cL, 40, .inr (.inl f_t_litres))), ((a_t 5), .inl (cI, 40, .inl f_t_liquids)), ((a_t 6), .inl (cI, 40, .inl f_t_positions)), ((a_t 8), .inl (cI, 160, .inl f_t_ends)), ((a_t 10), .inl (cI, 60, .inl f_t_sizes)), ((a_t 11), .inl (cB, 12000, .inl f_t_contents)), ((a_t 12), .inl (cI, 120, .inl f_t_at)), ((a_t 13), .inl (cI, 120, .inl f_t_ports)), ((a_t 14), .inl (cI, 120, .inl f_t_bends)), ((a_t 15), .inl (cI, 120, .inl f_t_left)), ((a_t 16), .inl (cI, 60, .inl f_t_way)), ((a_t 18), .inl (cB, 12000, .inl f_t_line))]) (w1 := [(q_t, .inr (7, o_Mo a_t v_t_things v_t_pipes v_t_wide v_t_size v_t_place v_t_number 0 v_t_wish v_t_found)), ((a_t 1), .inl (cI, 40, .inl f_t_kinds))]) hP hD [0, 1] [2, 3, 4, 5, 6, 7, 8, 9, 10, 11, 12, 13, 14] rfl rfl (by decide) (by decide) hk1 hFc hP1 hD1
    have hP : va_P (dC, dI) classes [(q_t, .inr (7, o_Mo a_t v_t_things v_t_pipes v_t_wide v_t_size v_t_place v_t_number 0 v_t_wish v_t_found)), ((a_t 1), .inl (cI, 40, .inl f_t_kinds)), ((a_t 3), .inl (cL, 40, .inr (.inl f_t_rooms))), ((a_t 4), .inl (cL, 40, .inr (.inl f_t_litres))), ((a_t 5), .inl (cI, 40, .inl f_t_liquids)), ((a_t 6), .inl (cI, 40, .inl f_t_positions)), ((a_t 8), .inl (cI, 160, .inl f_t_ends)), ((a_t 10), .inl (cI, 60, .inl f_t_sizes)), ((a_t 11), .inl (cB, 12000, .inl f_t_contents)), ((a_t 12), .inl (cI, 120, .inl f_t_at)), ((a_t 13), .inl (cI, 120, .inl f_t_ports)), ((a_t 14), .inl (cI, 120, .inl f_t_bends)), ((a_t 15), .inl (cI, 120, .inl f_t_left)), ((a_t 16), .inl (cI, 60, .inl f_t_way)), ((a_t 18), .inl (cB, 12000, .inl f_t_line))] H := hP.sub (ws' := [(q_t, .inr (7, o_Mo a_t v_t_things v_t_pipes v_t_wide v_t_size v_t_place v_t_number 0 v_t_wish v_t_found)), ((a_t 1), .inl (cI, 40, .inl f_t_kinds)), ((a_t 3), .inl (cL, 40, .inr (.inl f_t_rooms))), ((a_t 4), .inl (cL, 40, .inr (.inl f_t_litres))), ((a_t 5), .inl (cI, 40, .inl f_t_liquids)), ((a_t 6), .inl (cI, 40, .inl f_t_positions)), ((a_t 8), .inl (cI, 160, .inl f_t_ends)), ((a_t 10), .inl (cI, 60, .inl f_t_sizes)), ((a_t 11), .inl (cB, 12000, .inl f_t_contents)), ((a_t 12), .inl (cI, 120, .inl f_t_at)), ((a_t 13), .inl (cI, 120, .inl f_t_ports)), ((a_t 14), .inl (cI, 120, .inl f_t_bends)), ((a_t 15), .inl (cI, 120, .inl f_t_left)), ((a_t 16), .inl (cI, 60, .inl f_t_way)), ((a_t 18), .inl (cB, 12000, .inl f_t_line))]) [13, 14, 0, 1, 2, 3, 4, 5, 6, 7, 8, 9, 10, 11, 12] rfl
    have hD : va_D A [(q_t, .inr (7, o_Mo a_t v_t_things v_t_pipes v_t_wide v_t_size v_t_place v_t_number 0 v_t_wish v_t_found)), ((a_t 1), .inl (cI, 40, .inl f_t_kinds)), ((a_t 3), .inl (cL, 40, .inr (.inl f_t_rooms))), ((a_t 4), .inl (cL, 40, .inr (.inl f_t_litres))), ((a_t 5), .inl (cI, 40, .inl f_t_liquids)), ((a_t 6), .inl (cI, 40, .inl f_t_positions)), ((a_t 8), .inl (cI, 160, .inl f_t_ends)), ((a_t 10), .inl (cI, 60, .inl f_t_sizes)), ((a_t 11), .inl (cB, 12000, .inl f_t_contents)), ((a_t 12), .inl (cI, 120, .inl f_t_at)), ((a_t 13), .inl (cI, 120, .inl f_t_ports)), ((a_t 14), .inl (cI, 120, .inl f_t_bends)), ((a_t 15), .inl (cI, 120, .inl f_t_left)), ((a_t 16), .inl (cI, 60, .inl f_t_way)), ((a_t 18), .inl (cB, 12000, .inl f_t_line))] := hD.sub (ws' := [(q_t, .inr (7, o_Mo a_t v_t_things v_t_pipes v_t_wide v_t_size v_t_place v_t_number 0 v_t_wish v_t_found)), ((a_t 1), .inl (cI, 40, .inl f_t_kinds)), ((a_t 3), .inl (cL, 40, .inr (.inl f_t_rooms))), ((a_t 4), .inl (cL, 40, .inr (.inl f_t_litres))), ((a_t 5), .inl (cI, 40, .inl f_t_liquids)), ((a_t 6), .inl (cI, 40, .inl f_t_positions)), ((a_t 8), .inl (cI, 160, .inl f_t_ends)), ((a_t 10), .inl (cI, 60, .inl f_t_sizes)), ((a_t 11), .inl (cB, 12000, .inl f_t_contents)), ((a_t 12), .inl (cI, 120, .inl f_t_at)), ((a_t 13), .inl (cI, 120, .inl f_t_ports)), ((a_t 14), .inl (cI, 120, .inl f_t_bends)), ((a_t 15), .inl (cI, 120, .inl f_t_left)), ((a_t 16), .inl (cI, 60, .inl f_t_way)), ((a_t 18), .inl (cB, 12000, .inl f_t_line))]) [13, 14, 0, 1, 2, 3, 4, 5, 6, 7, 8, 9, 10, 11, 12] (by decide) rfl
    refine lv_if_eq (tgt := 49) hx hb d_Mo_move_18 (by decide) (fun c18 => ?_) (fun c18 => ?_)
    · replace hw := hw.1 c18
      refine lv_ldc2 (v := (-1)) hx hb hown (hts (Cond.constantLong R_Mo 141 (-1)) kw32_485221d) d_Mo_move_49 ?_
      exact W.lret (v := (-1)) hx hb hr (fun t ht hW => ⟨⟨(-1), (v_t_wide, 0, f_t_litres, f_t_liquids, f_t_contents, f_t_left, f_t_way, f_t_line), rfl, hw, by rw [ht]; exact hP, va_K.moved hW.alike hK, hD⟩, hS.F ht⟩) hS.2.2 d_Mo_move_52
    · replace hw := hw.2 c18
      refine lv_iload_n hx hb d_Mo_move_21 rfl (lv_at hl 1 rfl) ?_
      refine lv_iload_n hx hb d_Mo_move_22 rfl (lv_at hl 2 rfl) ?_
      refine lv_icmp_eq (tgt := 49) hx hb d_Mo_move_23 (by decide) (fun c23 => ?_) (fun c23 => ?_)
      · replace hw := hw.1 c23
        refine lv_ldc2 (v := (-1)) hx hb hown (hts (Cond.constantLong R_Mo 141 (-1)) kw32_485221d) d_Mo_move_49 ?_
        exact W.lret (v := (-1)) hx hb hr (fun t ht hW => ⟨⟨(-1), (v_t_wide, 0, f_t_litres, f_t_liquids, f_t_contents, f_t_left, f_t_way, f_t_line), rfl, hw, by rw [ht]; exact hP, va_K.moved hW.alike hK, hD⟩, hS.F ht⟩) hS.2.2 d_Mo_move_52
      · replace hw := hw.2 c23
        refine lv_lload_n hx hb d_Mo_move_26 rfl (lv_at hl 3 rfl) ?_
        refine lv_lconst (v := 1) hx hb d_Mo_move_27 (by decide) ?_
        refine W.lcmp hx hb d_Mo_move_28 ?_
        refine lv_if_lt (tgt := 49) hx hb d_Mo_move_29 (by decide) (fun c29 => ?_) (fun c29 => ?_)
        · replace hw := hw.1 c29
          refine lv_ldc2 (v := (-1)) hx hb hown (hts (Cond.constantLong R_Mo 141 (-1)) kw32_485221d) d_Mo_move_49 ?_
          exact W.lret (v := (-1)) hx hb hr (fun t ht hW => ⟨⟨(-1), (v_t_wide, 0, f_t_litres, f_t_liquids, f_t_contents, f_t_left, f_t_way, f_t_line), rfl, hw, by rw [ht]; exact hP, va_K.moved hW.alike hK, hD⟩, hS.F ht⟩) hS.2.2 d_Mo_move_52
        · replace hw := hw.2 c29
          refine lv_lload_n hx hb d_Mo_move_32 rfl (lv_at hl 3 rfl) ?_
          refine lv_ldc2 (v := 100000) hx hb hown (hts (Cond.constantLong R_Mo 79 100000) kw32_8ce1ef1) d_Mo_move_33 ?_
          refine W.lcmp hx hb d_Mo_move_36 ?_
          refine lv_if_gt (tgt := 49) hx hb d_Mo_move_37 (by decide) (fun c37 => ?_) (fun c37 => ?_)
          · replace hw := hw.1 c37
            refine lv_ldc2 (v := (-1)) hx hb hown (hts (Cond.constantLong R_Mo 141 (-1)) kw32_485221d) d_Mo_move_49 ?_
            exact W.lret (v := (-1)) hx hb hr (fun t ht hW => ⟨⟨(-1), (v_t_wide, 0, f_t_litres, f_t_liquids, f_t_contents, f_t_left, f_t_way, f_t_line), rfl, hw, by rw [ht]; exact hP, va_K.moved hW.alike hK, hD⟩, hS.F ht⟩) hS.2.2 d_Mo_move_52
          · replace hw := hw.2 c37
            refine lv_aload_n hx hb d_Mo_move_40 rfl (lv_at hl 0 rfl) ?_
            refine lv_iload_n hx hb d_Mo_move_41 rfl (lv_at hl 1 rfl) ?_
            refine lv_iload_n hx hb d_Mo_move_42 rfl (lv_at hl 2 rfl) ?_
            have hPc := hP.sub (ws' := [(q_t, .inr (7, o_Mo a_t v_t_things v_t_pipes v_t_wide v_t_size v_t_place v_t_number 0 v_t_wish v_t_found)), ((a_t 1), .inl (cI, 40, .inl f_t_kinds)), ((a_t 6), .inl (cI, 40, .inl f_t_positions)), ((a_t 8), .inl (cI, 160, .inl f_t_ends)), ((a_t 12), .inl (cI, 120, .inl f_t_at)), ((a_t 13), .inl (cI, 120, .inl f_t_ports)), ((a_t 14), .inl (cI, 120, .inl f_t_bends)), ((a_t 15), .inl (cI, 120, .inl f_t_left)), ((a_t 16), .inl (cI, 60, .inl f_t_way))]) [0, 1, 5, 6, 9, 10, 11, 12, 13] rfl
            have hDc := hD.sub (ws' := [(q_t, .inr (7, o_Mo a_t v_t_things v_t_pipes v_t_wide v_t_size v_t_place v_t_number 0 v_t_wish v_t_found)), ((a_t 1), .inl (cI, 40, .inl f_t_kinds)), ((a_t 6), .inl (cI, 40, .inl f_t_positions)), ((a_t 8), .inl (cI, 160, .inl f_t_ends)), ((a_t 12), .inl (cI, 120, .inl f_t_at)), ((a_t 13), .inl (cI, 120, .inl f_t_ports)), ((a_t 14), .inl (cI, 120, .inl f_t_bends)), ((a_t 15), .inl (cI, 120, .inl f_t_left)), ((a_t 16), .inl (cI, 60, .inl f_t_way))]) [0, 1, 5, 6, 9, 10, 11, 12, 13] (by decide) rfl
            have hFc := va_free (wc := [(q_t, .inr (7, o_Mo a_t v_t_things v_t_pipes v_t_wide v_t_size v_t_place v_t_number 0 v_t_wish v_t_found)), ((a_t 1), .inl (cI, 40, .inl f_t_kinds)), ((a_t 6), .inl (cI, 40, .inl f_t_positions)), ((a_t 8), .inl (cI, 160, .inl f_t_ends)), ((a_t 12), .inl (cI, 120, .inl f_t_at)), ((a_t 13), .inl (cI, 120, .inl f_t_ports)), ((a_t 14), .inl (cI, 120, .inl f_t_bends)), ((a_t 15), .inl (cI, 120, .inl f_t_left)), ((a_t 16), .inl (cI, 60, .inl f_t_way))]) hD hS hA [0, 1, 5, 6, 9, 10, 11, 12, 13] rfl
            refine va_calli (va_runV (As := [.int x1, .int x2]) (rest := []) ⟨hx, hb, hml, hown, hts⟩ (c_Mo_find l dC dI cI cL cB q_t a_t H.size v_t_things v_t_pipes v_t_wide v_t_size v_t_place v_t_number 0 v_t_wish v_t_found f_t_kinds f_t_positions f_t_ends f_t_at f_t_ports f_t_bends f_t_left f_t_way x1 x2 _ hw) (my_cwV 2 hts kw32_b63ebdf kw32_53fad68 kw32_250de68 kw32_7a5931c kw32_282a8c8 rfl rfl (by decide +kernel) ⟨Nat.le_of_ble_eq_true rfl, Nat.le_of_ble_eq_true rfl⟩) ⟨fun a U g mk q => by obtain ⟨q0, q1, qP, qK, qD⟩ := q; exact ⟨q0, q1, qP, va_K.moved (u := U) (U := U.calling g mk a) (Vm.Alike.refl U.vm) qK, qD⟩, va_recv hK hP (ci := 7) (q0 := 0) rfl rfl, fun U hU hW => ⟨rfl, by rw [hU], by rw [hU]; exact hPc, va_K.moved hW.alike hK, hDc.weaken (fun _ _ _ _ => trivial)⟩⟩ rfl rfl hl.1 rfl (lv_room (Nat.le_of_ble_eq_true rfl)) d_Mo_move_43 ⟨Nat.zero_le _, Nat.zero_le _⟩) hS (fun q _ h => hFc q h) hFc (fun r43 u t H locs ht hvm hw hB hz1 hk1 hS => ?_)
            obtain ⟨v_t_wide_c43, f_t_left_c43, f_t_way_c43⟩ := u
            obtain ⟨hP1, hK1, hD1⟩ := hB
            rw [ht] at hP1
            obtain ⟨hP, hD⟩ := va_join (wr := [((a_t 3), .inl (cL, 40, .inr (.inl f_t_rooms))), ((a_t 4), .inl (cL, 40, .inr (.inl f_t_litres))), ((a_t 5), .inl (cI, 40, .inl f_t_liquids)), ((a_t 10), .inl (cI, 60, .inl f_t_sizes)), ((a_t 11), .inl (cB, 12000, .inl f_t_contents)), ((a_t 18), .inl (cB, 12000, .inl f_t_line))]) (w1 := [(q_t, .inr (7, o_Mo a_t v_t_things v_t_pipes v_t_wide_c43 v_t_size v_t_place v_t_number 0 v_t_wish v_t_found)), ((a_t 1), .inl (cI, 40, .inl f_t_kinds)), ((a_t 6), .inl (cI, 40, .inl f_t_positions)), ((a_t 8), .inl (cI, 160, .inl f_t_ends)), ((a_t 12), .inl (cI, 120, .inl f_t_at)), ((a_t 13), .inl (cI, 120, .inl f_t_ports)), ((a_t 14), .inl (cI, 120, .inl f_t_bends)), ((a_t 15), .inl (cI, 120, .inl f_t_left_c43)), ((a_t 16), .inl (cI, 60, .inl f_t_way_c43))]) hP hD [0, 1, 5, 6, 9, 10, 11, 12, 13] [2, 3, 4, 7, 8, 14] rfl rfl (by decide) (by decide) hk1 hFc hP1 hD1
            have hP : va_P (dC, dI) classes [(q_t, .inr (7, o_Mo a_t v_t_things v_t_pipes v_t_wide_c43 v_t_size v_t_place v_t_number 0 v_t_wish v_t_found)), ((a_t 1), .inl (cI, 40, .inl f_t_kinds)), ((a_t 3), .inl (cL, 40, .inr (.inl f_t_rooms))), ((a_t 4), .inl (cL, 40, .inr (.inl f_t_litres))), ((a_t 5), .inl (cI, 40, .inl f_t_liquids)), ((a_t 6), .inl (cI, 40, .inl f_t_positions)), ((a_t 8), .inl (cI, 160, .inl f_t_ends)), ((a_t 10), .inl (cI, 60, .inl f_t_sizes)), ((a_t 11), .inl (cB, 12000, .inl f_t_contents)), ((a_t 12), .inl (cI, 120, .inl f_t_at)), ((a_t 13), .inl (cI, 120, .inl f_t_ports)), ((a_t 14), .inl (cI, 120, .inl f_t_bends)), ((a_t 15), .inl (cI, 120, .inl f_t_left_c43)), ((a_t 16), .inl (cI, 60, .inl f_t_way_c43)), ((a_t 18), .inl (cB, 12000, .inl f_t_line))] H := hP.sub (ws' := [(q_t, .inr (7, o_Mo a_t v_t_things v_t_pipes v_t_wide_c43 v_t_size v_t_place v_t_number 0 v_t_wish v_t_found)), ((a_t 1), .inl (cI, 40, .inl f_t_kinds)), ((a_t 3), .inl (cL, 40, .inr (.inl f_t_rooms))), ((a_t 4), .inl (cL, 40, .inr (.inl f_t_litres))), ((a_t 5), .inl (cI, 40, .inl f_t_liquids)), ((a_t 6), .inl (cI, 40, .inl f_t_positions)), ((a_t 8), .inl (cI, 160, .inl f_t_ends)), ((a_t 10), .inl (cI, 60, .inl f_t_sizes)), ((a_t 11), .inl (cB, 12000, .inl f_t_contents)), ((a_t 12), .inl (cI, 120, .inl f_t_at)), ((a_t 13), .inl (cI, 120, .inl f_t_ports)), ((a_t 14), .inl (cI, 120, .inl f_t_bends)), ((a_t 15), .inl (cI, 120, .inl f_t_left_c43)), ((a_t 16), .inl (cI, 60, .inl f_t_way_c43)), ((a_t 18), .inl (cB, 12000, .inl f_t_line))]) [6, 7, 0, 1, 2, 8, 9, 3, 4, 10, 11, 12, 13, 14, 5] rfl
            have hD : va_D A [(q_t, .inr (7, o_Mo a_t v_t_things v_t_pipes v_t_wide_c43 v_t_size v_t_place v_t_number 0 v_t_wish v_t_found)), ((a_t 1), .inl (cI, 40, .inl f_t_kinds)), ((a_t 3), .inl (cL, 40, .inr (.inl f_t_rooms))), ((a_t 4), .inl (cL, 40, .inr (.inl f_t_litres))), ((a_t 5), .inl (cI, 40, .inl f_t_liquids)), ((a_t 6), .inl (cI, 40, .inl f_t_positions)), ((a_t 8), .inl (cI, 160, .inl f_t_ends)), ((a_t 10), .inl (cI, 60, .inl f_t_sizes)), ((a_t 11), .inl (cB, 12000, .inl f_t_contents)), ((a_t 12), .inl (cI, 120, .inl f_t_at)), ((a_t 13), .inl (cI, 120, .inl f_t_ports)), ((a_t 14), .inl (cI, 120, .inl f_t_bends)), ((a_t 15), .inl (cI, 120, .inl f_t_left_c43)), ((a_t 16), .inl (cI, 60, .inl f_t_way_c43)), ((a_t 18), .inl (cB, 12000, .inl f_t_line))] := hD.sub (ws' := [(q_t, .inr (7, o_Mo a_t v_t_things v_t_pipes v_t_wide_c43 v_t_size v_t_place v_t_number 0 v_t_wish v_t_found)), ((a_t 1), .inl (cI, 40, .inl f_t_kinds)), ((a_t 3), .inl (cL, 40, .inr (.inl f_t_rooms))), ((a_t 4), .inl (cL, 40, .inr (.inl f_t_litres))), ((a_t 5), .inl (cI, 40, .inl f_t_liquids)), ((a_t 6), .inl (cI, 40, .inl f_t_positions)), ((a_t 8), .inl (cI, 160, .inl f_t_ends)), ((a_t 10), .inl (cI, 60, .inl f_t_sizes)), ((a_t 11), .inl (cB, 12000, .inl f_t_contents)), ((a_t 12), .inl (cI, 120, .inl f_t_at)), ((a_t 13), .inl (cI, 120, .inl f_t_ports)), ((a_t 14), .inl (cI, 120, .inl f_t_bends)), ((a_t 15), .inl (cI, 120, .inl f_t_left_c43)), ((a_t 16), .inl (cI, 60, .inl f_t_way_c43)), ((a_t 18), .inl (cB, 12000, .inl f_t_line))]) [6, 7, 0, 1, 2, 8, 9, 3, 4, 10, 11, 12, 13, 14, 5] (by decide) rfl
            refine lv_if_ne (tgt := 53) hx hb d_Mo_move_46 (by decide) (fun c46 => ?_) (fun c46 => ?_)
            · replace hw := hw.1 c46
              refine lv_iconst (v := 0) hx hb d_Mo_move_53 (by decide) ?_
              refine lv_istore (lv' := [(5, .int 0), (0, .ref q_t), (1, .int x1), (2, .int x2), (3, .long x3)]) hx hb d_Mo_move_54 hl (by decide) rfl (fun ls hl => ?_)
              refine lv_iconst (v := 0) hx hb d_Mo_move_56 (by decide) ?_
              refine lv_istore (lv' := [(6, .int 0), (5, .int 0), (0, .ref q_t), (1, .int x1), (2, .int x2), (3, .long x3)]) hx hb d_Mo_move_57 hl (by decide) rfl (fun ls hl => ?_)
              obtain ⟨n_59, hw⟩ := hw
              have EX_170 : ∀ (x5_L59 : Int32) (x6_L59 : Int32) (f_t_line_L59 : (Nat → Int32)) (H : Heap) (locs : List Loc) (ls : Array Slot), va_P (dC, dI) classes [(q_t, .inr (7, o_Mo a_t v_t_things v_t_pipes v_t_wide_c43 v_t_size v_t_place v_t_number 0 v_t_wish v_t_found)), ((a_t 1), .inl (cI, 40, .inl f_t_kinds)), ((a_t 3), .inl (cL, 40, .inr (.inl f_t_rooms))), ((a_t 4), .inl (cL, 40, .inr (.inl f_t_litres))), ((a_t 5), .inl (cI, 40, .inl f_t_liquids)), ((a_t 6), .inl (cI, 40, .inl f_t_positions)), ((a_t 8), .inl (cI, 160, .inl f_t_ends)), ((a_t 10), .inl (cI, 60, .inl f_t_sizes)), ((a_t 11), .inl (cB, 12000, .inl f_t_contents)), ((a_t 12), .inl (cI, 120, .inl f_t_at)), ((a_t 13), .inl (cI, 120, .inl f_t_ports)), ((a_t 14), .inl (cI, 120, .inl f_t_bends)), ((a_t 15), .inl (cI, 120, .inl f_t_left_c43)), ((a_t 16), .inl (cI, 60, .inl f_t_way_c43)), ((a_t 18), .inl (cB, 12000, .inl f_t_line_L59))] H → va_D A [(q_t, .inr (7, o_Mo a_t v_t_things v_t_pipes v_t_wide_c43 v_t_size v_t_place v_t_number 0 v_t_wish v_t_found)), ((a_t 1), .inl (cI, 40, .inl f_t_kinds)), ((a_t 3), .inl (cL, 40, .inr (.inl f_t_rooms))), ((a_t 4), .inl (cL, 40, .inr (.inl f_t_litres))), ((a_t 5), .inl (cI, 40, .inl f_t_liquids)), ((a_t 6), .inl (cI, 40, .inl f_t_positions)), ((a_t 8), .inl (cI, 160, .inl f_t_ends)), ((a_t 10), .inl (cI, 60, .inl f_t_sizes)), ((a_t 11), .inl (cB, 12000, .inl f_t_contents)), ((a_t 12), .inl (cI, 120, .inl f_t_at)), ((a_t 13), .inl (cI, 120, .inl f_t_ports)), ((a_t 14), .inl (cI, 120, .inl f_t_bends)), ((a_t 15), .inl (cI, 120, .inl f_t_left_c43)), ((a_t 16), .inl (cI, 60, .inl f_t_way_c43)), ((a_t 18), .inl (cB, 12000, .inl f_t_line_L59))] → va_S A s.heap H locs → lv_has ls 15 [(0, .ref q_t), (1, .int x1), (2, .int x2), (3, .long x3), (5, .int x5_L59), (6, .int x6_L59)] → wk_Mo_move_170_59 x1 x3 x2 f_t_rooms f_t_liquids f_t_sizes v_t_wide_c43 f_t_contents f_t_left_c43 f_t_way_c43 f_t_litres P x5_L59 x6_L59 f_t_line_L59 → W p l e (headSpec w_Mo_move rm_Mo_move).room s m args below meth c H locs 0 0 (MQ below (Q_Mo_move dC dI cI cL cB q_t a_t v_t_things v_t_pipes v_t_wide v_t_size v_t_place v_t_number v_t_thrown v_t_wish v_t_found f_t_kinds f_t_rooms f_t_litres f_t_liquids f_t_positions f_t_ends f_t_sizes f_t_contents f_t_at f_t_ports f_t_bends f_t_left f_t_way f_t_line x1 x2 x3 P A) args s 0 0 A) (F0 m 170 ls []) := by
                intro x5_L59 x6_L59 f_t_line_L59 H locs ls hP hD hS hl hw
                unfold wk_Mo_move_170_59 at hw
                refine lv_aload_n hx hb d_Mo_move_170 rfl (lv_at hl 0 rfl) ?_
                refine va_get (D := (dC, dI)) (ci := 7) (v := .ref (a_t 5)) (C := R_Mo) (T := F_Mo) (N := 29) hx hb hts i_Mo hown hK hP 0 rfl rfl 5 (by decide) (hts (Cond.fieldLink R_Mo 23 "PlantGraphModel" "liquids" "[I") kw32_39da439) (fun _ h9 => h9) rfl d_Mo_move_171 ?_
                refine lv_iload_n hx hb d_Mo_move_174 rfl (lv_at hl 1 rfl) ?_
                refine va_iald hx hb hK hP 4 0 rfl rfl hw.1 d_Mo_move_175 ?_
                replace hw := hw.2
                refine lv_istore (lv' := [(6, .int (f_t_liquids x1.toNatClampNeg)), (0, .ref q_t), (1, .int x1), (2, .int x2), (3, .long x3), (5, .int x5_L59)]) hx hb d_Mo_move_176 hl (by decide) rfl (fun ls hl => ?_)
                refine lv_iconst (v := 0) hx hb d_Mo_move_178 (by decide) ?_
                refine lv_istore (lv' := [(7, .int 0), (6, .int (f_t_liquids x1.toNatClampNeg)), (0, .ref q_t), (1, .int x1), (2, .int x2), (3, .long x3), (5, .int x5_L59)]) hx hb d_Mo_move_179 hl (by decide) rfl (fun ls hl => ?_)
                refine lv_iconst (v := 1) hx hb d_Mo_move_181 (by decide) ?_
                refine lv_istore (lv' := [(8, .int 1), (7, .int 0), (6, .int (f_t_liquids x1.toNatClampNeg)), (0, .ref q_t), (1, .int x1), (2, .int x2), (3, .long x3), (5, .int x5_L59)]) hx hb d_Mo_move_182 hl (by decide) rfl (fun ls hl => ?_)
                obtain ⟨n_184, hw⟩ := hw
                have EX_296 : ∀ (x7_L184 : Int32) (x8_L184 : Int32) (f_t_litres_L184 : (Nat → Int64)) (f_t_liquids_L184 : (Nat → Int32)) (H : Heap) (locs : List Loc) (ls : Array Slot), va_P (dC, dI) classes [(q_t, .inr (7, o_Mo a_t v_t_things v_t_pipes v_t_wide_c43 v_t_size v_t_place v_t_number 0 v_t_wish v_t_found)), ((a_t 1), .inl (cI, 40, .inl f_t_kinds)), ((a_t 3), .inl (cL, 40, .inr (.inl f_t_rooms))), ((a_t 4), .inl (cL, 40, .inr (.inl f_t_litres_L184))), ((a_t 5), .inl (cI, 40, .inl f_t_liquids_L184)), ((a_t 6), .inl (cI, 40, .inl f_t_positions)), ((a_t 8), .inl (cI, 160, .inl f_t_ends)), ((a_t 10), .inl (cI, 60, .inl f_t_sizes)), ((a_t 11), .inl (cB, 12000, .inl f_t_contents)), ((a_t 12), .inl (cI, 120, .inl f_t_at)), ((a_t 13), .inl (cI, 120, .inl f_t_ports)), ((a_t 14), .inl (cI, 120, .inl f_t_bends)), ((a_t 15), .inl (cI, 120, .inl f_t_left_c43)), ((a_t 16), .inl (cI, 60, .inl f_t_way_c43)), ((a_t 18), .inl (cB, 12000, .inl f_t_line_L59))] H → va_D A [(q_t, .inr (7, o_Mo a_t v_t_things v_t_pipes v_t_wide_c43 v_t_size v_t_place v_t_number 0 v_t_wish v_t_found)), ((a_t 1), .inl (cI, 40, .inl f_t_kinds)), ((a_t 3), .inl (cL, 40, .inr (.inl f_t_rooms))), ((a_t 4), .inl (cL, 40, .inr (.inl f_t_litres_L184))), ((a_t 5), .inl (cI, 40, .inl f_t_liquids_L184)), ((a_t 6), .inl (cI, 40, .inl f_t_positions)), ((a_t 8), .inl (cI, 160, .inl f_t_ends)), ((a_t 10), .inl (cI, 60, .inl f_t_sizes)), ((a_t 11), .inl (cB, 12000, .inl f_t_contents)), ((a_t 12), .inl (cI, 120, .inl f_t_at)), ((a_t 13), .inl (cI, 120, .inl f_t_ports)), ((a_t 14), .inl (cI, 120, .inl f_t_bends)), ((a_t 15), .inl (cI, 120, .inl f_t_left_c43)), ((a_t 16), .inl (cI, 60, .inl f_t_way_c43)), ((a_t 18), .inl (cB, 12000, .inl f_t_line_L59))] → va_S A s.heap H locs → lv_has ls 15 [(0, .ref q_t), (1, .int x1), (2, .int x2), (3, .long x3), (5, .int x5_L59), (6, .int (f_t_liquids x1.toNatClampNeg)), (7, .int x7_L184), (8, .int x8_L184)] → wk_Mo_move_296_184 x1 f_t_sizes f_t_liquids v_t_wide_c43 f_t_contents f_t_left_c43 f_t_way_c43 f_t_line_L59 P x7_L184 x8_L184 f_t_litres_L184 f_t_liquids_L184 → W p l e (headSpec w_Mo_move rm_Mo_move).room s m args below meth c H locs 0 0 (MQ below (Q_Mo_move dC dI cI cL cB q_t a_t v_t_things v_t_pipes v_t_wide v_t_size v_t_place v_t_number v_t_thrown v_t_wish v_t_found f_t_kinds f_t_rooms f_t_litres f_t_liquids f_t_positions f_t_ends f_t_sizes f_t_contents f_t_at f_t_ports f_t_bends f_t_left f_t_way f_t_line x1 x2 x3 P A) args s 0 0 A) (F0 m 296 ls []) := by
                  intro x7_L184 x8_L184 f_t_litres_L184 f_t_liquids_L184 H locs ls hP hD hS hl hw
                  unfold wk_Mo_move_296_184 at hw
                  exact J_296 (f_t_liquids x1.toNatClampNeg) x7_L184 v_t_wide_c43 0 f_t_litres_L184 f_t_liquids_L184 f_t_contents f_t_left_c43 f_t_way_c43 f_t_line_L59 H _ _ hP hD hS (lv_sub hl [0, 1, 5, 6] rfl) hw
                have LP_184 : ∀ (k_184 : Nat) (x7_L184 : Int32) (x8_L184 : Int32) (f_t_litres_L184 : (Nat → Int64)) (f_t_liquids_L184 : (Nat → Int32)) (H : Heap) (locs : List Loc) (ls : Array Slot), va_P (dC, dI) classes [(q_t, .inr (7, o_Mo a_t v_t_things v_t_pipes v_t_wide_c43 v_t_size v_t_place v_t_number 0 v_t_wish v_t_found)), ((a_t 1), .inl (cI, 40, .inl f_t_kinds)), ((a_t 3), .inl (cL, 40, .inr (.inl f_t_rooms))), ((a_t 4), .inl (cL, 40, .inr (.inl f_t_litres_L184))), ((a_t 5), .inl (cI, 40, .inl f_t_liquids_L184)), ((a_t 6), .inl (cI, 40, .inl f_t_positions)), ((a_t 8), .inl (cI, 160, .inl f_t_ends)), ((a_t 10), .inl (cI, 60, .inl f_t_sizes)), ((a_t 11), .inl (cB, 12000, .inl f_t_contents)), ((a_t 12), .inl (cI, 120, .inl f_t_at)), ((a_t 13), .inl (cI, 120, .inl f_t_ports)), ((a_t 14), .inl (cI, 120, .inl f_t_bends)), ((a_t 15), .inl (cI, 120, .inl f_t_left_c43)), ((a_t 16), .inl (cI, 60, .inl f_t_way_c43)), ((a_t 18), .inl (cB, 12000, .inl f_t_line_L59))] H → va_D A [(q_t, .inr (7, o_Mo a_t v_t_things v_t_pipes v_t_wide_c43 v_t_size v_t_place v_t_number 0 v_t_wish v_t_found)), ((a_t 1), .inl (cI, 40, .inl f_t_kinds)), ((a_t 3), .inl (cL, 40, .inr (.inl f_t_rooms))), ((a_t 4), .inl (cL, 40, .inr (.inl f_t_litres_L184))), ((a_t 5), .inl (cI, 40, .inl f_t_liquids_L184)), ((a_t 6), .inl (cI, 40, .inl f_t_positions)), ((a_t 8), .inl (cI, 160, .inl f_t_ends)), ((a_t 10), .inl (cI, 60, .inl f_t_sizes)), ((a_t 11), .inl (cB, 12000, .inl f_t_contents)), ((a_t 12), .inl (cI, 120, .inl f_t_at)), ((a_t 13), .inl (cI, 120, .inl f_t_ports)), ((a_t 14), .inl (cI, 120, .inl f_t_bends)), ((a_t 15), .inl (cI, 120, .inl f_t_left_c43)), ((a_t 16), .inl (cI, 60, .inl f_t_way_c43)), ((a_t 18), .inl (cB, 12000, .inl f_t_line_L59))] → va_S A s.heap H locs → lv_has ls 15 [(0, .ref q_t), (1, .int x1), (2, .int x2), (3, .long x3), (5, .int x5_L59), (6, .int (f_t_liquids x1.toNatClampNeg)), (7, .int x7_L184), (8, .int x8_L184)] → wl_Mo_move_184 x3 x5_L59 x1 x2 f_t_rooms f_t_liquids f_t_line_L59 (wk_Mo_move_296_184 x1 f_t_sizes f_t_liquids v_t_wide_c43 f_t_contents f_t_left_c43 f_t_way_c43 f_t_line_L59 P) k_184 x7_L184 x8_L184 f_t_litres_L184 f_t_liquids_L184 → W p l e (headSpec w_Mo_move rm_Mo_move).room s m args below meth c H locs 0 0 (MQ below (Q_Mo_move dC dI cI cL cB q_t a_t v_t_things v_t_pipes v_t_wide v_t_size v_t_place v_t_number v_t_thrown v_t_wish v_t_found f_t_kinds f_t_rooms f_t_litres f_t_liquids f_t_positions f_t_ends f_t_sizes f_t_contents f_t_at f_t_ports f_t_bends f_t_left f_t_way f_t_line x1 x2 x3 P A) args s 0 0 A) (F0 m 184 ls []) := by
                  intro k_184
                  induction k_184 with
                  | zero => intro x7_L184 x8_L184 f_t_litres_L184 f_t_liquids_L184 H locs ls hP hD hS hl hw; unfold wl_Mo_move_184 at hw; exact hw.elim
                  | succ k_184 ih_184 =>
                    intro x7_L184 x8_L184 f_t_litres_L184 f_t_liquids_L184 H locs ls hP hD hS hl hw
                    unfold wl_Mo_move_184 at hw
                    have J_260 : ∀ (x7_J260 : Int32) (x9_J260 : Int32) (f_t_litres_J260 : (Nat → Int64)) (f_t_liquids_J260 : (Nat → Int32)) (s0_J260 : Int32) (H : Heap) (locs : List Loc) (ls : Array Slot), va_P (dC, dI) classes [(q_t, .inr (7, o_Mo a_t v_t_things v_t_pipes v_t_wide_c43 v_t_size v_t_place v_t_number 0 v_t_wish v_t_found)), ((a_t 1), .inl (cI, 40, .inl f_t_kinds)), ((a_t 3), .inl (cL, 40, .inr (.inl f_t_rooms))), ((a_t 4), .inl (cL, 40, .inr (.inl f_t_litres_J260))), ((a_t 5), .inl (cI, 40, .inl f_t_liquids_J260)), ((a_t 6), .inl (cI, 40, .inl f_t_positions)), ((a_t 8), .inl (cI, 160, .inl f_t_ends)), ((a_t 10), .inl (cI, 60, .inl f_t_sizes)), ((a_t 11), .inl (cB, 12000, .inl f_t_contents)), ((a_t 12), .inl (cI, 120, .inl f_t_at)), ((a_t 13), .inl (cI, 120, .inl f_t_ports)), ((a_t 14), .inl (cI, 120, .inl f_t_bends)), ((a_t 15), .inl (cI, 120, .inl f_t_left_c43)), ((a_t 16), .inl (cI, 60, .inl f_t_way_c43)), ((a_t 18), .inl (cB, 12000, .inl f_t_line_L59))] H → va_D A [(q_t, .inr (7, o_Mo a_t v_t_things v_t_pipes v_t_wide_c43 v_t_size v_t_place v_t_number 0 v_t_wish v_t_found)), ((a_t 1), .inl (cI, 40, .inl f_t_kinds)), ((a_t 3), .inl (cL, 40, .inr (.inl f_t_rooms))), ((a_t 4), .inl (cL, 40, .inr (.inl f_t_litres_J260))), ((a_t 5), .inl (cI, 40, .inl f_t_liquids_J260)), ((a_t 6), .inl (cI, 40, .inl f_t_positions)), ((a_t 8), .inl (cI, 160, .inl f_t_ends)), ((a_t 10), .inl (cI, 60, .inl f_t_sizes)), ((a_t 11), .inl (cB, 12000, .inl f_t_contents)), ((a_t 12), .inl (cI, 120, .inl f_t_at)), ((a_t 13), .inl (cI, 120, .inl f_t_ports)), ((a_t 14), .inl (cI, 120, .inl f_t_bends)), ((a_t 15), .inl (cI, 120, .inl f_t_left_c43)), ((a_t 16), .inl (cI, 60, .inl f_t_way_c43)), ((a_t 18), .inl (cB, 12000, .inl f_t_line_L59))] → va_S A s.heap H locs → lv_has ls 15 [(0, .ref q_t), (1, .int x1), (2, .int x2), (3, .long x3), (5, .int x5_L59), (6, .int (f_t_liquids x1.toNatClampNeg)), (7, .int x7_J260), (9, .int x9_J260)] → wj_Mo_move_260 x1 x2 (wl_Mo_move_184 x3 x5_L59 x1 x2 f_t_rooms f_t_liquids f_t_line_L59 (wk_Mo_move_296_184 x1 f_t_sizes f_t_liquids v_t_wide_c43 f_t_contents f_t_left_c43 f_t_way_c43 f_t_line_L59 P) k_184) x7_J260 x9_J260 f_t_litres_J260 f_t_liquids_J260 s0_J260 → W p l e (headSpec w_Mo_move rm_Mo_move).room s m args below meth c H locs 0 0 (MQ below (Q_Mo_move dC dI cI cL cB q_t a_t v_t_things v_t_pipes v_t_wide v_t_size v_t_place v_t_number v_t_thrown v_t_wish v_t_found f_t_kinds f_t_rooms f_t_litres f_t_liquids f_t_positions f_t_ends f_t_sizes f_t_contents f_t_at f_t_ports f_t_bends f_t_left f_t_way f_t_line x1 x2 x3 P A) args s 0 0 A) (F0 m 260 ls [.int s0_J260]) := by
                      intro x7_J260 x9_J260 f_t_litres_J260 f_t_liquids_J260 s0_J260 H locs ls hP hD hS hl hw
                      unfold wj_Mo_move_260 at hw
                      refine lv_istore (lv' := [(8, .int s0_J260), (0, .ref q_t), (1, .int x1), (2, .int x2), (3, .long x3), (5, .int x5_L59), (6, .int (f_t_liquids x1.toNatClampNeg)), (7, .int x7_J260), (9, .int x9_J260)]) hx hb d_Mo_move_260 hl (by decide) rfl (fun ls hl => ?_)
                      refine lv_iload hx hb d_Mo_move_262 (lv_at hl 0 rfl) ?_
                      refine lv_if_eq (tgt := 293) hx hb d_Mo_move_264 (by decide) (fun c264 => ?_) (fun c264 => ?_)
                      · replace hw := hw.1 c264
                        refine lv_goto (tgt := 184) hx hb d_Mo_move_293 (by decide) ?_
                        exact ih_184 x7_J260 s0_J260 f_t_litres_J260 f_t_liquids_J260 H _ _ hP hD hS (lv_sub hl [1, 2, 3, 4, 5, 6, 7, 0] rfl) hw
                      · replace hw := hw.2 c264
                        refine lv_aload_n hx hb d_Mo_move_267 rfl (lv_at hl 1 rfl) ?_
                        refine va_get (D := (dC, dI)) (ci := 7) (v := .ref (a_t 4)) (C := R_Mo) (T := F_Mo) (N := 29) hx hb hts i_Mo hown hK hP 0 rfl rfl 4 (by decide) (hts (Cond.fieldLink R_Mo 20 "PlantGraphModel" "litres" "[J") kw32_ca8a8d8) (fun _ h9 => h9) rfl d_Mo_move_268 ?_
                        refine lv_iload_n hx hb d_Mo_move_271 rfl (lv_at hl 2 rfl) ?_
                        refine lv_dup2_11 hx hb d_Mo_move_272 rfl rfl ?_
                        refine va_lald hx hb hK hP 3 1 rfl rfl hw.1 d_Mo_move_273 ?_
                        replace hw := hw.2
                        refine lv_lconst (v := 1) hx hb d_Mo_move_274 (by decide) ?_
                        refine lv_lsub hx hb d_Mo_move_275 ?_
                        refine va_last hx hb hK hP hD hS 3 1 rfl rfl hw.1 d_Mo_move_276 (fun H locs hP hD hS => ?_)
                        replace hw := hw.2
                        have hP : va_P (dC, dI) classes [(q_t, .inr (7, o_Mo a_t v_t_things v_t_pipes v_t_wide_c43 v_t_size v_t_place v_t_number 0 v_t_wish v_t_found)), ((a_t 1), .inl (cI, 40, .inl f_t_kinds)), ((a_t 3), .inl (cL, 40, .inr (.inl f_t_rooms))), ((a_t 4), .inl (cL, 40, .inr (.inl (vp_updL f_t_litres_J260 x1.toNatClampNeg ((f_t_litres_J260 x1.toNatClampNeg) - 1))))), ((a_t 5), .inl (cI, 40, .inl f_t_liquids_J260)), ((a_t 6), .inl (cI, 40, .inl f_t_positions)), ((a_t 8), .inl (cI, 160, .inl f_t_ends)), ((a_t 10), .inl (cI, 60, .inl f_t_sizes)), ((a_t 11), .inl (cB, 12000, .inl f_t_contents)), ((a_t 12), .inl (cI, 120, .inl f_t_at)), ((a_t 13), .inl (cI, 120, .inl f_t_ports)), ((a_t 14), .inl (cI, 120, .inl f_t_bends)), ((a_t 15), .inl (cI, 120, .inl f_t_left_c43)), ((a_t 16), .inl (cI, 60, .inl f_t_way_c43)), ((a_t 18), .inl (cB, 12000, .inl f_t_line_L59))] H := hP
                        have hD : va_D A [(q_t, .inr (7, o_Mo a_t v_t_things v_t_pipes v_t_wide_c43 v_t_size v_t_place v_t_number 0 v_t_wish v_t_found)), ((a_t 1), .inl (cI, 40, .inl f_t_kinds)), ((a_t 3), .inl (cL, 40, .inr (.inl f_t_rooms))), ((a_t 4), .inl (cL, 40, .inr (.inl (vp_updL f_t_litres_J260 x1.toNatClampNeg ((f_t_litres_J260 x1.toNatClampNeg) - 1))))), ((a_t 5), .inl (cI, 40, .inl f_t_liquids_J260)), ((a_t 6), .inl (cI, 40, .inl f_t_positions)), ((a_t 8), .inl (cI, 160, .inl f_t_ends)), ((a_t 10), .inl (cI, 60, .inl f_t_sizes)), ((a_t 11), .inl (cB, 12000, .inl f_t_contents)), ((a_t 12), .inl (cI, 120, .inl f_t_at)), ((a_t 13), .inl (cI, 120, .inl f_t_ports)), ((a_t 14), .inl (cI, 120, .inl f_t_bends)), ((a_t 15), .inl (cI, 120, .inl f_t_left_c43)), ((a_t 16), .inl (cI, 60, .inl f_t_way_c43)), ((a_t 18), .inl (cB, 12000, .inl f_t_line_L59))] := hD
                        refine lv_iload hx hb d_Mo_move_277 (lv_at hl 8 rfl) ?_
                        refine lv_if_le (tgt := 290) hx hb d_Mo_move_279 (by decide) (fun c279 => ?_) (fun c279 => ?_)
                        · replace hw := hw.1 c279
                          refine lv_iinc (v := (x7_J260 + 1)) (lv' := [(7, .int (x7_J260 + 1)), (8, .int s0_J260), (0, .ref q_t), (1, .int x1), (2, .int x2), (3, .long x3), (5, .int x5_L59), (6, .int (f_t_liquids x1.toNatClampNeg)), (9, .int x9_J260)]) hx hb d_Mo_move_290 hl (k := 7) rfl rfl (by decide) rfl (fun ls hl => ?_)
                          refine lv_goto (tgt := 184) hx hb d_Mo_move_293 (by decide) ?_
                          exact ih_184 (x7_J260 + 1) s0_J260 (vp_updL f_t_litres_J260 x1.toNatClampNeg ((f_t_litres_J260 x1.toNatClampNeg) - 1)) f_t_liquids_J260 H _ _ hP hD hS (lv_sub hl [2, 3, 4, 5, 6, 7, 0, 1] rfl) hw
                        · replace hw := hw.2 c279
                          refine lv_aload_n hx hb d_Mo_move_282 rfl (lv_at hl 1 rfl) ?_
                          refine lv_iload_n hx hb d_Mo_move_283 rfl (lv_at hl 3 rfl) ?_
                          refine lv_iload hx hb d_Mo_move_284 (lv_at hl 8 rfl) ?_
                          refine lv_lconst (v := 1) hx hb d_Mo_move_286 (by decide) ?_
                          have hPc := hP.sub (ws' := [(q_t, .inr (7, o_Mo a_t v_t_things v_t_pipes v_t_wide_c43 v_t_size v_t_place v_t_number 0 v_t_wish v_t_found)), ((a_t 4), .inl (cL, 40, .inr (.inl (vp_updL f_t_litres_J260 x1.toNatClampNeg ((f_t_litres_J260 x1.toNatClampNeg) - 1))))), ((a_t 5), .inl (cI, 40, .inl f_t_liquids_J260))]) [0, 3, 4] rfl
                          have hDc := hD.sub (ws' := [(q_t, .inr (7, o_Mo a_t v_t_things v_t_pipes v_t_wide_c43 v_t_size v_t_place v_t_number 0 v_t_wish v_t_found)), ((a_t 4), .inl (cL, 40, .inr (.inl (vp_updL f_t_litres_J260 x1.toNatClampNeg ((f_t_litres_J260 x1.toNatClampNeg) - 1))))), ((a_t 5), .inl (cI, 40, .inl f_t_liquids_J260))]) [0, 3, 4] (by decide) rfl
                          have hFc := va_free (wc := [(q_t, .inr (7, o_Mo a_t v_t_things v_t_pipes v_t_wide_c43 v_t_size v_t_place v_t_number 0 v_t_wish v_t_found)), ((a_t 4), .inl (cL, 40, .inr (.inl (vp_updL f_t_litres_J260 x1.toNatClampNeg ((f_t_litres_J260 x1.toNatClampNeg) - 1))))), ((a_t 5), .inl (cI, 40, .inl f_t_liquids_J260))]) hD hS hA [0, 3, 4] rfl
                          refine va_callv (va_runV (As := [.int x2, .int x9_J260, .long 1]) (rest := []) ⟨hx, hb, hml, hown, hts⟩ (c_Mo_come l dC dI cI cL cB q_t a_t H.size v_t_things v_t_pipes v_t_wide_c43 v_t_size v_t_place v_t_number 0 v_t_wish v_t_found (vp_updL f_t_litres_J260 x1.toNatClampNeg ((f_t_litres_J260 x1.toNatClampNeg) - 1)) f_t_liquids_J260 x2 x9_J260 1 _ hw) (my_cwV 3 hts kw32_7460624 kw32_bddea6e kw32_659c46d kw32_7a5931c kw32_5eee85d rfl rfl (by decide +kernel) ⟨Nat.le_of_ble_eq_true rfl, Nat.le_of_ble_eq_true rfl⟩) ⟨fun a U g mk q => by obtain ⟨q0, q1, qP, qK, qD⟩ := q; exact ⟨q0, q1, qP, va_K.moved (u := U) (U := U.calling g mk a) (Vm.Alike.refl U.vm) qK, qD⟩, va_recv hK hP (ci := 7) (q0 := 0) rfl rfl, fun U hU hW => ⟨rfl, by rw [hU], by rw [hU]; exact hPc, va_K.moved hW.alike hK, hDc.weaken (fun _ _ _ _ => trivial)⟩⟩ rfl rfl hl.1 rfl (lv_room (Nat.le_of_ble_eq_true rfl)) d_Mo_move_287 ⟨Nat.zero_le _, Nat.zero_le _⟩) hS (fun q _ h => hFc q h) hFc (fun u t H locs ht hvm hw hB hz1 hk1 hS => ?_)
                          obtain ⟨f_t_litres_c287, f_t_liquids_c287⟩ := u
                          obtain ⟨hP1, hK1, hD1⟩ := hB
                          rw [ht] at hP1
                          obtain ⟨hP, hD⟩ := va_join (wr := [((a_t 1), .inl (cI, 40, .inl f_t_kinds)), ((a_t 3), .inl (cL, 40, .inr (.inl f_t_rooms))), ((a_t 6), .inl (cI, 40, .inl f_t_positions)), ((a_t 8), .inl (cI, 160, .inl f_t_ends)), ((a_t 10), .inl (cI, 60, .inl f_t_sizes)), ((a_t 11), .inl (cB, 12000, .inl f_t_contents)), ((a_t 12), .inl (cI, 120, .inl f_t_at)), ((a_t 13), .inl (cI, 120, .inl f_t_ports)), ((a_t 14), .inl (cI, 120, .inl f_t_bends)), ((a_t 15), .inl (cI, 120, .inl f_t_left_c43)), ((a_t 16), .inl (cI, 60, .inl f_t_way_c43)), ((a_t 18), .inl (cB, 12000, .inl f_t_line_L59))]) (w1 := [(q_t, .inr (7, o_Mo a_t v_t_things v_t_pipes v_t_wide_c43 v_t_size v_t_place v_t_number 0 v_t_wish v_t_found)), ((a_t 4), .inl (cL, 40, .inr (.inl f_t_litres_c287))), ((a_t 5), .inl (cI, 40, .inl f_t_liquids_c287))]) hP hD [0, 3, 4] [1, 2, 5, 6, 7, 8, 9, 10, 11, 12, 13, 14] rfl rfl (by decide) (by decide) hk1 hFc hP1 hD1
                          have hP : va_P (dC, dI) classes [(q_t, .inr (7, o_Mo a_t v_t_things v_t_pipes v_t_wide_c43 v_t_size v_t_place v_t_number 0 v_t_wish v_t_found)), ((a_t 1), .inl (cI, 40, .inl f_t_kinds)), ((a_t 3), .inl (cL, 40, .inr (.inl f_t_rooms))), ((a_t 4), .inl (cL, 40, .inr (.inl f_t_litres_c287))), ((a_t 5), .inl (cI, 40, .inl f_t_liquids_c287)), ((a_t 6), .inl (cI, 40, .inl f_t_positions)), ((a_t 8), .inl (cI, 160, .inl f_t_ends)), ((a_t 10), .inl (cI, 60, .inl f_t_sizes)), ((a_t 11), .inl (cB, 12000, .inl f_t_contents)), ((a_t 12), .inl (cI, 120, .inl f_t_at)), ((a_t 13), .inl (cI, 120, .inl f_t_ports)), ((a_t 14), .inl (cI, 120, .inl f_t_bends)), ((a_t 15), .inl (cI, 120, .inl f_t_left_c43)), ((a_t 16), .inl (cI, 60, .inl f_t_way_c43)), ((a_t 18), .inl (cB, 12000, .inl f_t_line_L59))] H := hP.sub (ws' := [(q_t, .inr (7, o_Mo a_t v_t_things v_t_pipes v_t_wide_c43 v_t_size v_t_place v_t_number 0 v_t_wish v_t_found)), ((a_t 1), .inl (cI, 40, .inl f_t_kinds)), ((a_t 3), .inl (cL, 40, .inr (.inl f_t_rooms))), ((a_t 4), .inl (cL, 40, .inr (.inl f_t_litres_c287))), ((a_t 5), .inl (cI, 40, .inl f_t_liquids_c287)), ((a_t 6), .inl (cI, 40, .inl f_t_positions)), ((a_t 8), .inl (cI, 160, .inl f_t_ends)), ((a_t 10), .inl (cI, 60, .inl f_t_sizes)), ((a_t 11), .inl (cB, 12000, .inl f_t_contents)), ((a_t 12), .inl (cI, 120, .inl f_t_at)), ((a_t 13), .inl (cI, 120, .inl f_t_ports)), ((a_t 14), .inl (cI, 120, .inl f_t_bends)), ((a_t 15), .inl (cI, 120, .inl f_t_left_c43)), ((a_t 16), .inl (cI, 60, .inl f_t_way_c43)), ((a_t 18), .inl (cB, 12000, .inl f_t_line_L59))]) [12, 0, 1, 13, 14, 2, 3, 4, 5, 6, 7, 8, 9, 10, 11] rfl
                          have hD : va_D A [(q_t, .inr (7, o_Mo a_t v_t_things v_t_pipes v_t_wide_c43 v_t_size v_t_place v_t_number 0 v_t_wish v_t_found)), ((a_t 1), .inl (cI, 40, .inl f_t_kinds)), ((a_t 3), .inl (cL, 40, .inr (.inl f_t_rooms))), ((a_t 4), .inl (cL, 40, .inr (.inl f_t_litres_c287))), ((a_t 5), .inl (cI, 40, .inl f_t_liquids_c287)), ((a_t 6), .inl (cI, 40, .inl f_t_positions)), ((a_t 8), .inl (cI, 160, .inl f_t_ends)), ((a_t 10), .inl (cI, 60, .inl f_t_sizes)), ((a_t 11), .inl (cB, 12000, .inl f_t_contents)), ((a_t 12), .inl (cI, 120, .inl f_t_at)), ((a_t 13), .inl (cI, 120, .inl f_t_ports)), ((a_t 14), .inl (cI, 120, .inl f_t_bends)), ((a_t 15), .inl (cI, 120, .inl f_t_left_c43)), ((a_t 16), .inl (cI, 60, .inl f_t_way_c43)), ((a_t 18), .inl (cB, 12000, .inl f_t_line_L59))] := hD.sub (ws' := [(q_t, .inr (7, o_Mo a_t v_t_things v_t_pipes v_t_wide_c43 v_t_size v_t_place v_t_number 0 v_t_wish v_t_found)), ((a_t 1), .inl (cI, 40, .inl f_t_kinds)), ((a_t 3), .inl (cL, 40, .inr (.inl f_t_rooms))), ((a_t 4), .inl (cL, 40, .inr (.inl f_t_litres_c287))), ((a_t 5), .inl (cI, 40, .inl f_t_liquids_c287)), ((a_t 6), .inl (cI, 40, .inl f_t_positions)), ((a_t 8), .inl (cI, 160, .inl f_t_ends)), ((a_t 10), .inl (cI, 60, .inl f_t_sizes)), ((a_t 11), .inl (cB, 12000, .inl f_t_contents)), ((a_t 12), .inl (cI, 120, .inl f_t_at)), ((a_t 13), .inl (cI, 120, .inl f_t_ports)), ((a_t 14), .inl (cI, 120, .inl f_t_bends)), ((a_t 15), .inl (cI, 120, .inl f_t_left_c43)), ((a_t 16), .inl (cI, 60, .inl f_t_way_c43)), ((a_t 18), .inl (cB, 12000, .inl f_t_line_L59))]) [12, 0, 1, 13, 14, 2, 3, 4, 5, 6, 7, 8, 9, 10, 11] (by decide) rfl
                          refine lv_iinc (v := (x7_J260 + 1)) (lv' := [(7, .int (x7_J260 + 1)), (8, .int s0_J260), (0, .ref q_t), (1, .int x1), (2, .int x2), (3, .long x3), (5, .int x5_L59), (6, .int (f_t_liquids x1.toNatClampNeg)), (9, .int x9_J260)]) hx hb d_Mo_move_290 hl (k := 7) rfl rfl (by decide) rfl (fun ls hl => ?_)
                          refine lv_goto (tgt := 184) hx hb d_Mo_move_293 (by decide) ?_
                          exact ih_184 (x7_J260 + 1) s0_J260 f_t_litres_c287 f_t_liquids_c287 H _ _ hP hD hS (lv_sub hl [2, 3, 4, 5, 6, 7, 0, 1] rfl) hw
                    have J_259 : ∀ (x7_J259 : Int32) (x9_J259 : Int32) (f_t_litres_J259 : (Nat → Int64)) (f_t_liquids_J259 : (Nat → Int32)) (H : Heap) (locs : List Loc) (ls : Array Slot), va_P (dC, dI) classes [(q_t, .inr (7, o_Mo a_t v_t_things v_t_pipes v_t_wide_c43 v_t_size v_t_place v_t_number 0 v_t_wish v_t_found)), ((a_t 1), .inl (cI, 40, .inl f_t_kinds)), ((a_t 3), .inl (cL, 40, .inr (.inl f_t_rooms))), ((a_t 4), .inl (cL, 40, .inr (.inl f_t_litres_J259))), ((a_t 5), .inl (cI, 40, .inl f_t_liquids_J259)), ((a_t 6), .inl (cI, 40, .inl f_t_positions)), ((a_t 8), .inl (cI, 160, .inl f_t_ends)), ((a_t 10), .inl (cI, 60, .inl f_t_sizes)), ((a_t 11), .inl (cB, 12000, .inl f_t_contents)), ((a_t 12), .inl (cI, 120, .inl f_t_at)), ((a_t 13), .inl (cI, 120, .inl f_t_ports)), ((a_t 14), .inl (cI, 120, .inl f_t_bends)), ((a_t 15), .inl (cI, 120, .inl f_t_left_c43)), ((a_t 16), .inl (cI, 60, .inl f_t_way_c43)), ((a_t 18), .inl (cB, 12000, .inl f_t_line_L59))] H → va_D A [(q_t, .inr (7, o_Mo a_t v_t_things v_t_pipes v_t_wide_c43 v_t_size v_t_place v_t_number 0 v_t_wish v_t_found)), ((a_t 1), .inl (cI, 40, .inl f_t_kinds)), ((a_t 3), .inl (cL, 40, .inr (.inl f_t_rooms))), ((a_t 4), .inl (cL, 40, .inr (.inl f_t_litres_J259))), ((a_t 5), .inl (cI, 40, .inl f_t_liquids_J259)), ((a_t 6), .inl (cI, 40, .inl f_t_positions)), ((a_t 8), .inl (cI, 160, .inl f_t_ends)), ((a_t 10), .inl (cI, 60, .inl f_t_sizes)), ((a_t 11), .inl (cB, 12000, .inl f_t_contents)), ((a_t 12), .inl (cI, 120, .inl f_t_at)), ((a_t 13), .inl (cI, 120, .inl f_t_ports)), ((a_t 14), .inl (cI, 120, .inl f_t_bends)), ((a_t 15), .inl (cI, 120, .inl f_t_left_c43)), ((a_t 16), .inl (cI, 60, .inl f_t_way_c43)), ((a_t 18), .inl (cB, 12000, .inl f_t_line_L59))] → va_S A s.heap H locs → lv_has ls 15 [(0, .ref q_t), (1, .int x1), (2, .int x2), (3, .long x3), (5, .int x5_L59), (6, .int (f_t_liquids x1.toNatClampNeg)), (7, .int x7_J259), (9, .int x9_J259)] → wj_Mo_move_259 x1 x2 (wl_Mo_move_184 x3 x5_L59 x1 x2 f_t_rooms f_t_liquids f_t_line_L59 (wk_Mo_move_296_184 x1 f_t_sizes f_t_liquids v_t_wide_c43 f_t_contents f_t_left_c43 f_t_way_c43 f_t_line_L59 P) k_184) x7_J259 x9_J259 f_t_litres_J259 f_t_liquids_J259 → W p l e (headSpec w_Mo_move rm_Mo_move).room s m args below meth c H locs 0 0 (MQ below (Q_Mo_move dC dI cI cL cB q_t a_t v_t_things v_t_pipes v_t_wide v_t_size v_t_place v_t_number v_t_thrown v_t_wish v_t_found f_t_kinds f_t_rooms f_t_litres f_t_liquids f_t_positions f_t_ends f_t_sizes f_t_contents f_t_at f_t_ports f_t_bends f_t_left f_t_way f_t_line x1 x2 x3 P A) args s 0 0 A) (F0 m 259 ls []) := by
                      intro x7_J259 x9_J259 f_t_litres_J259 f_t_liquids_J259 H locs ls hP hD hS hl hw
                      unfold wj_Mo_move_259 at hw
                      refine lv_iconst (v := 0) hx hb d_Mo_move_259 (by decide) ?_
                      exact J_260 x7_J259 x9_J259 f_t_litres_J259 f_t_liquids_J259 0 H _ _ hP hD hS (lv_sub hl [0, 1, 2, 3, 4, 5, 6, 7] rfl) hw
                    have J_255 : ∀ (x7_J255 : Int32) (x9_J255 : Int32) (f_t_litres_J255 : (Nat → Int64)) (f_t_liquids_J255 : (Nat → Int32)) (H : Heap) (locs : List Loc) (ls : Array Slot), va_P (dC, dI) classes [(q_t, .inr (7, o_Mo a_t v_t_things v_t_pipes v_t_wide_c43 v_t_size v_t_place v_t_number 0 v_t_wish v_t_found)), ((a_t 1), .inl (cI, 40, .inl f_t_kinds)), ((a_t 3), .inl (cL, 40, .inr (.inl f_t_rooms))), ((a_t 4), .inl (cL, 40, .inr (.inl f_t_litres_J255))), ((a_t 5), .inl (cI, 40, .inl f_t_liquids_J255)), ((a_t 6), .inl (cI, 40, .inl f_t_positions)), ((a_t 8), .inl (cI, 160, .inl f_t_ends)), ((a_t 10), .inl (cI, 60, .inl f_t_sizes)), ((a_t 11), .inl (cB, 12000, .inl f_t_contents)), ((a_t 12), .inl (cI, 120, .inl f_t_at)), ((a_t 13), .inl (cI, 120, .inl f_t_ports)), ((a_t 14), .inl (cI, 120, .inl f_t_bends)), ((a_t 15), .inl (cI, 120, .inl f_t_left_c43)), ((a_t 16), .inl (cI, 60, .inl f_t_way_c43)), ((a_t 18), .inl (cB, 12000, .inl f_t_line_L59))] H → va_D A [(q_t, .inr (7, o_Mo a_t v_t_things v_t_pipes v_t_wide_c43 v_t_size v_t_place v_t_number 0 v_t_wish v_t_found)), ((a_t 1), .inl (cI, 40, .inl f_t_kinds)), ((a_t 3), .inl (cL, 40, .inr (.inl f_t_rooms))), ((a_t 4), .inl (cL, 40, .inr (.inl f_t_litres_J255))), ((a_t 5), .inl (cI, 40, .inl f_t_liquids_J255)), ((a_t 6), .inl (cI, 40, .inl f_t_positions)), ((a_t 8), .inl (cI, 160, .inl f_t_ends)), ((a_t 10), .inl (cI, 60, .inl f_t_sizes)), ((a_t 11), .inl (cB, 12000, .inl f_t_contents)), ((a_t 12), .inl (cI, 120, .inl f_t_at)), ((a_t 13), .inl (cI, 120, .inl f_t_ports)), ((a_t 14), .inl (cI, 120, .inl f_t_bends)), ((a_t 15), .inl (cI, 120, .inl f_t_left_c43)), ((a_t 16), .inl (cI, 60, .inl f_t_way_c43)), ((a_t 18), .inl (cB, 12000, .inl f_t_line_L59))] → va_S A s.heap H locs → lv_has ls 15 [(0, .ref q_t), (1, .int x1), (2, .int x2), (3, .long x3), (5, .int x5_L59), (6, .int (f_t_liquids x1.toNatClampNeg)), (7, .int x7_J255), (9, .int x9_J255)] → wj_Mo_move_255 x1 x2 (wl_Mo_move_184 x3 x5_L59 x1 x2 f_t_rooms f_t_liquids f_t_line_L59 (wk_Mo_move_296_184 x1 f_t_sizes f_t_liquids v_t_wide_c43 f_t_contents f_t_left_c43 f_t_way_c43 f_t_line_L59 P) k_184) x7_J255 x9_J255 f_t_litres_J255 f_t_liquids_J255 → W p l e (headSpec w_Mo_move rm_Mo_move).room s m args below meth c H locs 0 0 (MQ below (Q_Mo_move dC dI cI cL cB q_t a_t v_t_things v_t_pipes v_t_wide v_t_size v_t_place v_t_number v_t_thrown v_t_wish v_t_found f_t_kinds f_t_rooms f_t_litres f_t_liquids f_t_positions f_t_ends f_t_sizes f_t_contents f_t_at f_t_ports f_t_bends f_t_left f_t_way f_t_line x1 x2 x3 P A) args s 0 0 A) (F0 m 255 ls []) := by
                      intro x7_J255 x9_J255 f_t_litres_J255 f_t_liquids_J255 H locs ls hP hD hS hl hw
                      unfold wj_Mo_move_255 at hw
                      refine lv_iconst (v := 1) hx hb d_Mo_move_255 (by decide) ?_
                      refine lv_goto (tgt := 260) hx hb d_Mo_move_256 (by decide) ?_
                      exact J_260 x7_J255 x9_J255 f_t_litres_J255 f_t_liquids_J255 1 H _ _ hP hD hS (lv_sub hl [0, 1, 2, 3, 4, 5, 6, 7] rfl) hw
                    have J_221 : ∀ (x7_J221 : Int32) (f_t_litres_J221 : (Nat → Int64)) (f_t_liquids_J221 : (Nat → Int32)) (s0_J221 : Int32) (H : Heap) (locs : List Loc) (ls : Array Slot), va_P (dC, dI) classes [(q_t, .inr (7, o_Mo a_t v_t_things v_t_pipes v_t_wide_c43 v_t_size v_t_place v_t_number 0 v_t_wish v_t_found)), ((a_t 1), .inl (cI, 40, .inl f_t_kinds)), ((a_t 3), .inl (cL, 40, .inr (.inl f_t_rooms))), ((a_t 4), .inl (cL, 40, .inr (.inl f_t_litres_J221))), ((a_t 5), .inl (cI, 40, .inl f_t_liquids_J221)), ((a_t 6), .inl (cI, 40, .inl f_t_positions)), ((a_t 8), .inl (cI, 160, .inl f_t_ends)), ((a_t 10), .inl (cI, 60, .inl f_t_sizes)), ((a_t 11), .inl (cB, 12000, .inl f_t_contents)), ((a_t 12), .inl (cI, 120, .inl f_t_at)), ((a_t 13), .inl (cI, 120, .inl f_t_ports)), ((a_t 14), .inl (cI, 120, .inl f_t_bends)), ((a_t 15), .inl (cI, 120, .inl f_t_left_c43)), ((a_t 16), .inl (cI, 60, .inl f_t_way_c43)), ((a_t 18), .inl (cB, 12000, .inl f_t_line_L59))] H → va_D A [(q_t, .inr (7, o_Mo a_t v_t_things v_t_pipes v_t_wide_c43 v_t_size v_t_place v_t_number 0 v_t_wish v_t_found)), ((a_t 1), .inl (cI, 40, .inl f_t_kinds)), ((a_t 3), .inl (cL, 40, .inr (.inl f_t_rooms))), ((a_t 4), .inl (cL, 40, .inr (.inl f_t_litres_J221))), ((a_t 5), .inl (cI, 40, .inl f_t_liquids_J221)), ((a_t 6), .inl (cI, 40, .inl f_t_positions)), ((a_t 8), .inl (cI, 160, .inl f_t_ends)), ((a_t 10), .inl (cI, 60, .inl f_t_sizes)), ((a_t 11), .inl (cB, 12000, .inl f_t_contents)), ((a_t 12), .inl (cI, 120, .inl f_t_at)), ((a_t 13), .inl (cI, 120, .inl f_t_ports)), ((a_t 14), .inl (cI, 120, .inl f_t_bends)), ((a_t 15), .inl (cI, 120, .inl f_t_left_c43)), ((a_t 16), .inl (cI, 60, .inl f_t_way_c43)), ((a_t 18), .inl (cB, 12000, .inl f_t_line_L59))] → va_S A s.heap H locs → lv_has ls 15 [(0, .ref q_t), (1, .int x1), (2, .int x2), (3, .long x3), (5, .int x5_L59), (6, .int (f_t_liquids x1.toNatClampNeg)), (7, .int x7_J221)] → wj_Mo_move_221 x1 x2 f_t_rooms (wl_Mo_move_184 x3 x5_L59 x1 x2 f_t_rooms f_t_liquids f_t_line_L59 (wk_Mo_move_296_184 x1 f_t_sizes f_t_liquids v_t_wide_c43 f_t_contents f_t_left_c43 f_t_way_c43 f_t_line_L59 P) k_184) x7_J221 f_t_litres_J221 f_t_liquids_J221 s0_J221 → W p l e (headSpec w_Mo_move rm_Mo_move).room s m args below meth c H locs 0 0 (MQ below (Q_Mo_move dC dI cI cL cB q_t a_t v_t_things v_t_pipes v_t_wide v_t_size v_t_place v_t_number v_t_thrown v_t_wish v_t_found f_t_kinds f_t_rooms f_t_litres f_t_liquids f_t_positions f_t_ends f_t_sizes f_t_contents f_t_at f_t_ports f_t_bends f_t_left f_t_way f_t_line x1 x2 x3 P A) args s 0 0 A) (F0 m 221 ls [.int s0_J221]) := by
                      intro x7_J221 f_t_litres_J221 f_t_liquids_J221 s0_J221 H locs ls hP hD hS hl hw
                      unfold wj_Mo_move_221 at hw
                      refine lv_istore (lv' := [(9, .int s0_J221), (0, .ref q_t), (1, .int x1), (2, .int x2), (3, .long x3), (5, .int x5_L59), (6, .int (f_t_liquids x1.toNatClampNeg)), (7, .int x7_J221)]) hx hb d_Mo_move_221 hl (by decide) rfl (fun ls hl => ?_)
                      refine lv_aload_n hx hb d_Mo_move_223 rfl (lv_at hl 1 rfl) ?_
                      refine va_get (D := (dC, dI)) (ci := 7) (v := .ref (a_t 4)) (C := R_Mo) (T := F_Mo) (N := 29) hx hb hts i_Mo hown hK hP 0 rfl rfl 4 (by decide) (hts (Cond.fieldLink R_Mo 20 "PlantGraphModel" "litres" "[J") kw32_ca8a8d8) (fun _ h9 => h9) rfl d_Mo_move_224 ?_
                      refine lv_iload_n hx hb d_Mo_move_227 rfl (lv_at hl 2 rfl) ?_
                      refine va_lald hx hb hK hP 3 1 rfl rfl hw.1 d_Mo_move_228 ?_
                      replace hw := hw.2
                      refine lv_lconst (v := 0) hx hb d_Mo_move_229 (by decide) ?_
                      refine W.lcmp hx hb d_Mo_move_230 ?_
                      refine lv_if_le (tgt := 259) hx hb d_Mo_move_231 (by decide) (fun c231 => ?_) (fun c231 => ?_)
                      · replace hw := hw.1 c231
                        exact J_259 x7_J221 s0_J221 f_t_litres_J221 f_t_liquids_J221 H _ _ hP hD hS (lv_sub hl [1, 2, 3, 4, 5, 6, 7, 0] rfl) hw
                      · replace hw := hw.2 c231
                        refine lv_iload hx hb d_Mo_move_234 (lv_at hl 0 rfl) ?_
                        refine lv_if_eq (tgt := 255) hx hb d_Mo_move_236 (by decide) (fun c236 => ?_) (fun c236 => ?_)
                        · replace hw := hw.1 c236
                          exact J_255 x7_J221 s0_J221 f_t_litres_J221 f_t_liquids_J221 H _ _ hP hD hS (lv_sub hl [1, 2, 3, 4, 5, 6, 7, 0] rfl) hw
                        · replace hw := hw.2 c236
                          refine lv_aload_n hx hb d_Mo_move_239 rfl (lv_at hl 1 rfl) ?_
                          refine va_get (D := (dC, dI)) (ci := 7) (v := .ref (a_t 4)) (C := R_Mo) (T := F_Mo) (N := 29) hx hb hts i_Mo hown hK hP 0 rfl rfl 4 (by decide) (hts (Cond.fieldLink R_Mo 20 "PlantGraphModel" "litres" "[J") kw32_ca8a8d8) (fun _ h9 => h9) rfl d_Mo_move_240 ?_
                          refine lv_iload_n hx hb d_Mo_move_243 rfl (lv_at hl 3 rfl) ?_
                          refine va_lald hx hb hK hP 3 1 rfl rfl hw.1 d_Mo_move_244 ?_
                          replace hw := hw.2
                          refine lv_aload_n hx hb d_Mo_move_245 rfl (lv_at hl 1 rfl) ?_
                          refine va_get (D := (dC, dI)) (ci := 7) (v := .ref (a_t 3)) (C := R_Mo) (T := F_Mo) (N := 29) hx hb hts i_Mo hown hK hP 0 rfl rfl 3 (by decide) (hts (Cond.fieldLink R_Mo 16 "PlantGraphModel" "rooms" "[J") kw32_3652779) (fun _ h9 => h9) rfl d_Mo_move_246 ?_
                          refine lv_iload_n hx hb d_Mo_move_249 rfl (lv_at hl 3 rfl) ?_
                          refine va_lald hx hb hK hP 2 1 rfl rfl hw.1 d_Mo_move_250 ?_
                          replace hw := hw.2
                          refine W.lcmp hx hb d_Mo_move_251 ?_
                          refine lv_if_ge (tgt := 259) hx hb d_Mo_move_252 (by decide) (fun c252 => ?_) (fun c252 => ?_)
                          · replace hw := hw.1 c252
                            exact J_259 x7_J221 s0_J221 f_t_litres_J221 f_t_liquids_J221 H _ _ hP hD hS (lv_sub hl [1, 2, 3, 4, 5, 6, 7, 0] rfl) hw
                          · replace hw := hw.2 c252
                            exact J_255 x7_J221 s0_J221 f_t_litres_J221 f_t_liquids_J221 H _ _ hP hD hS (lv_sub hl [1, 2, 3, 4, 5, 6, 7, 0] rfl) hw
                    refine lv_iload hx hb d_Mo_move_184 (lv_at hl 7 rfl) ?_
                    refine lv_if_eq (tgt := 296) hx hb d_Mo_move_186 (by decide) (fun c186 => ?_) (fun c186 => ?_)
                    · replace hw := hw.1 c186
                      exact EX_296 x7_L184 x8_L184 f_t_litres_L184 f_t_liquids_L184 H _ _ hP hD hS (lv_sub hl [0, 1, 2, 3, 4, 5, 6, 7] rfl) hw
                    · replace hw := hw.2 c186
                      refine lv_iload hx hb d_Mo_move_189 (lv_at hl 6 rfl) ?_
                      refine lv_i2l hx hb d_Mo_move_191 rfl ?_
                      refine lv_lload_n hx hb d_Mo_move_192 rfl (lv_at hl 3 rfl) ?_
                      refine W.lcmp hx hb d_Mo_move_193 ?_
                      refine lv_if_ge (tgt := 296) hx hb d_Mo_move_194 (by decide) (fun c194 => ?_) (fun c194 => ?_)
                      · replace hw := hw.1 c194
                        exact EX_296 x7_L184 x8_L184 f_t_litres_L184 f_t_liquids_L184 H _ _ hP hD hS (lv_sub hl [0, 1, 2, 3, 4, 5, 6, 7] rfl) hw
                      · replace hw := hw.2 c194
                        refine lv_iload hx hb d_Mo_move_197 (lv_at hl 6 rfl) ?_
                        refine lv_iload hx hb d_Mo_move_199 (lv_at hl 4 rfl) ?_
                        refine lv_icmp_ge (tgt := 219) hx hb d_Mo_move_201 (by decide) (fun c201 => ?_) (fun c201 => ?_)
                        · replace hw := hw.1 c201
                          refine lv_iload hx hb d_Mo_move_219 (lv_at hl 5 rfl) ?_
                          exact J_221 x7_L184 f_t_litres_L184 f_t_liquids_L184 (f_t_liquids x1.toNatClampNeg) H _ _ hP hD hS (lv_sub hl [0, 1, 2, 3, 4, 5, 6] rfl) hw
                        · replace hw := hw.2 c201
                          refine lv_aload_n hx hb d_Mo_move_204 rfl (lv_at hl 0 rfl) ?_
                          refine va_get (D := (dC, dI)) (ci := 7) (v := .ref (a_t 18)) (C := R_Mo) (T := F_Mo) (N := 29) hx hb hts i_Mo hown hK hP 0 rfl rfl 18 (by decide) (hts (Cond.fieldLink R_Mo 57 "PlantGraphModel" "line" "[B") kw32_2e8e0ae) (fun _ h9 => h9) rfl d_Mo_move_205 ?_
                          refine lv_iload hx hb d_Mo_move_208 (lv_at hl 4 rfl) ?_
                          refine lv_iconst (v := 1) hx hb d_Mo_move_210 (by decide) ?_
                          refine lv_isub hx hb d_Mo_move_211 ?_
                          refine lv_iload hx hb d_Mo_move_212 (lv_at hl 6 rfl) ?_
                          refine lv_isub hx hb d_Mo_move_214 ?_
                          refine va_bald hx hb hK hP 14 2 rfl rfl hw.1 d_Mo_move_215 ?_
                          replace hw := hw.2
                          refine lv_goto (tgt := 221) hx hb d_Mo_move_216 (by decide) ?_
                          exact J_221 x7_L184 f_t_litres_L184 f_t_liquids_L184 (f_t_line_L59 ((x5_L59 - 1) - x7_L184).toNatClampNeg) H _ _ hP hD hS (lv_sub hl [0, 1, 2, 3, 4, 5, 6] rfl) hw
                exact LP_184 n_184 0 1 f_t_litres f_t_liquids H _ _ hP hD hS (lv_sub hl [3, 4, 5, 6, 7, 2, 1, 0] rfl) hw
              have LP_59 : ∀ (k_59 : Nat) (x5_L59 : Int32) (x6_L59 : Int32) (f_t_line_L59 : (Nat → Int32)) (H : Heap) (locs : List Loc) (ls : Array Slot), va_P (dC, dI) classes [(q_t, .inr (7, o_Mo a_t v_t_things v_t_pipes v_t_wide_c43 v_t_size v_t_place v_t_number 0 v_t_wish v_t_found)), ((a_t 1), .inl (cI, 40, .inl f_t_kinds)), ((a_t 3), .inl (cL, 40, .inr (.inl f_t_rooms))), ((a_t 4), .inl (cL, 40, .inr (.inl f_t_litres))), ((a_t 5), .inl (cI, 40, .inl f_t_liquids)), ((a_t 6), .inl (cI, 40, .inl f_t_positions)), ((a_t 8), .inl (cI, 160, .inl f_t_ends)), ((a_t 10), .inl (cI, 60, .inl f_t_sizes)), ((a_t 11), .inl (cB, 12000, .inl f_t_contents)), ((a_t 12), .inl (cI, 120, .inl f_t_at)), ((a_t 13), .inl (cI, 120, .inl f_t_ports)), ((a_t 14), .inl (cI, 120, .inl f_t_bends)), ((a_t 15), .inl (cI, 120, .inl f_t_left_c43)), ((a_t 16), .inl (cI, 60, .inl f_t_way_c43)), ((a_t 18), .inl (cB, 12000, .inl f_t_line_L59))] H → va_D A [(q_t, .inr (7, o_Mo a_t v_t_things v_t_pipes v_t_wide_c43 v_t_size v_t_place v_t_number 0 v_t_wish v_t_found)), ((a_t 1), .inl (cI, 40, .inl f_t_kinds)), ((a_t 3), .inl (cL, 40, .inr (.inl f_t_rooms))), ((a_t 4), .inl (cL, 40, .inr (.inl f_t_litres))), ((a_t 5), .inl (cI, 40, .inl f_t_liquids)), ((a_t 6), .inl (cI, 40, .inl f_t_positions)), ((a_t 8), .inl (cI, 160, .inl f_t_ends)), ((a_t 10), .inl (cI, 60, .inl f_t_sizes)), ((a_t 11), .inl (cB, 12000, .inl f_t_contents)), ((a_t 12), .inl (cI, 120, .inl f_t_at)), ((a_t 13), .inl (cI, 120, .inl f_t_ports)), ((a_t 14), .inl (cI, 120, .inl f_t_bends)), ((a_t 15), .inl (cI, 120, .inl f_t_left_c43)), ((a_t 16), .inl (cI, 60, .inl f_t_way_c43)), ((a_t 18), .inl (cB, 12000, .inl f_t_line_L59))] → va_S A s.heap H locs → lv_has ls 15 [(0, .ref q_t), (1, .int x1), (2, .int x2), (3, .long x3), (5, .int x5_L59), (6, .int x6_L59)] → wl_Mo_move_59 v_t_wide_c43 f_t_way_c43 f_t_sizes f_t_contents (wk_Mo_move_170_59 x1 x3 x2 f_t_rooms f_t_liquids f_t_sizes v_t_wide_c43 f_t_contents f_t_left_c43 f_t_way_c43 f_t_litres P) k_59 x5_L59 x6_L59 f_t_line_L59 → W p l e (headSpec w_Mo_move rm_Mo_move).room s m args below meth c H locs 0 0 (MQ below (Q_Mo_move dC dI cI cL cB q_t a_t v_t_things v_t_pipes v_t_wide v_t_size v_t_place v_t_number v_t_thrown v_t_wish v_t_found f_t_kinds f_t_rooms f_t_litres f_t_liquids f_t_positions f_t_ends f_t_sizes f_t_contents f_t_at f_t_ports f_t_bends f_t_left f_t_way f_t_line x1 x2 x3 P A) args s 0 0 A) (F0 m 59 ls []) := by
                intro k_59
                induction k_59 with
                | zero => intro x5_L59 x6_L59 f_t_line_L59 H locs ls hP hD hS hl hw; unfold wl_Mo_move_59 at hw; exact hw.elim
                | succ k_59 ih_59 =>
                  intro x5_L59 x6_L59 f_t_line_L59 H locs ls hP hD hS hl hw
                  unfold wl_Mo_move_59 at hw
                  have J_97 : ∀ (x5_J97 : Int32) (x6_J97 : Int32) (x7_J97 : Int32) (f_t_line_J97 : (Nat → Int32)) (s0_J97 : Int32) (H : Heap) (locs : List Loc) (ls : Array Slot), va_P (dC, dI) classes [(q_t, .inr (7, o_Mo a_t v_t_things v_t_pipes v_t_wide_c43 v_t_size v_t_place v_t_number 0 v_t_wish v_t_found)), ((a_t 1), .inl (cI, 40, .inl f_t_kinds)), ((a_t 3), .inl (cL, 40, .inr (.inl f_t_rooms))), ((a_t 4), .inl (cL, 40, .inr (.inl f_t_litres))), ((a_t 5), .inl (cI, 40, .inl f_t_liquids)), ((a_t 6), .inl (cI, 40, .inl f_t_positions)), ((a_t 8), .inl (cI, 160, .inl f_t_ends)), ((a_t 10), .inl (cI, 60, .inl f_t_sizes)), ((a_t 11), .inl (cB, 12000, .inl f_t_contents)), ((a_t 12), .inl (cI, 120, .inl f_t_at)), ((a_t 13), .inl (cI, 120, .inl f_t_ports)), ((a_t 14), .inl (cI, 120, .inl f_t_bends)), ((a_t 15), .inl (cI, 120, .inl f_t_left_c43)), ((a_t 16), .inl (cI, 60, .inl f_t_way_c43)), ((a_t 18), .inl (cB, 12000, .inl f_t_line_J97))] H → va_D A [(q_t, .inr (7, o_Mo a_t v_t_things v_t_pipes v_t_wide_c43 v_t_size v_t_place v_t_number 0 v_t_wish v_t_found)), ((a_t 1), .inl (cI, 40, .inl f_t_kinds)), ((a_t 3), .inl (cL, 40, .inr (.inl f_t_rooms))), ((a_t 4), .inl (cL, 40, .inr (.inl f_t_litres))), ((a_t 5), .inl (cI, 40, .inl f_t_liquids)), ((a_t 6), .inl (cI, 40, .inl f_t_positions)), ((a_t 8), .inl (cI, 160, .inl f_t_ends)), ((a_t 10), .inl (cI, 60, .inl f_t_sizes)), ((a_t 11), .inl (cB, 12000, .inl f_t_contents)), ((a_t 12), .inl (cI, 120, .inl f_t_at)), ((a_t 13), .inl (cI, 120, .inl f_t_ports)), ((a_t 14), .inl (cI, 120, .inl f_t_bends)), ((a_t 15), .inl (cI, 120, .inl f_t_left_c43)), ((a_t 16), .inl (cI, 60, .inl f_t_way_c43)), ((a_t 18), .inl (cB, 12000, .inl f_t_line_J97))] → va_S A s.heap H locs → lv_has ls 15 [(0, .ref q_t), (1, .int x1), (2, .int x2), (3, .long x3), (5, .int x5_J97), (6, .int x6_J97), (7, .int x7_J97)] → wj_Mo_move_97 f_t_sizes f_t_contents (wl_Mo_move_59 v_t_wide_c43 f_t_way_c43 f_t_sizes f_t_contents (wk_Mo_move_170_59 x1 x3 x2 f_t_rooms f_t_liquids f_t_sizes v_t_wide_c43 f_t_contents f_t_left_c43 f_t_way_c43 f_t_litres P) k_59) x5_J97 x6_J97 x7_J97 f_t_line_J97 s0_J97 → W p l e (headSpec w_Mo_move rm_Mo_move).room s m args below meth c H locs 0 0 (MQ below (Q_Mo_move dC dI cI cL cB q_t a_t v_t_things v_t_pipes v_t_wide v_t_size v_t_place v_t_number v_t_thrown v_t_wish v_t_found f_t_kinds f_t_rooms f_t_litres f_t_liquids f_t_positions f_t_ends f_t_sizes f_t_contents f_t_at f_t_ports f_t_bends f_t_left f_t_way f_t_line x1 x2 x3 P A) args s 0 0 A) (F0 m 97 ls [.int s0_J97]) := by
                    intro x5_J97 x6_J97 x7_J97 f_t_line_J97 s0_J97 H locs ls hP hD hS hl hw
                    unfold wj_Mo_move_97 at hw
                    refine lv_istore (lv' := [(8, .int s0_J97), (0, .ref q_t), (1, .int x1), (2, .int x2), (3, .long x3), (5, .int x5_J97), (6, .int x6_J97), (7, .int x7_J97)]) hx hb d_Mo_move_97 hl (by decide) rfl (fun ls hl => ?_)
                    refine lv_iconst (v := 0) hx hb d_Mo_move_99 (by decide) ?_
                    refine lv_istore (lv' := [(9, .int 0), (8, .int s0_J97), (0, .ref q_t), (1, .int x1), (2, .int x2), (3, .long x3), (5, .int x5_J97), (6, .int x6_J97), (7, .int x7_J97)]) hx hb d_Mo_move_100 hl (by decide) rfl (fun ls hl => ?_)
                    obtain ⟨n_102, hw⟩ := hw
                    have EX_164 : ∀ (x5_L102 : Int32) (x9_L102 : Int32) (f_t_line_L102 : (Nat → Int32)) (H : Heap) (locs : List Loc) (ls : Array Slot), va_P (dC, dI) classes [(q_t, .inr (7, o_Mo a_t v_t_things v_t_pipes v_t_wide_c43 v_t_size v_t_place v_t_number 0 v_t_wish v_t_found)), ((a_t 1), .inl (cI, 40, .inl f_t_kinds)), ((a_t 3), .inl (cL, 40, .inr (.inl f_t_rooms))), ((a_t 4), .inl (cL, 40, .inr (.inl f_t_litres))), ((a_t 5), .inl (cI, 40, .inl f_t_liquids)), ((a_t 6), .inl (cI, 40, .inl f_t_positions)), ((a_t 8), .inl (cI, 160, .inl f_t_ends)), ((a_t 10), .inl (cI, 60, .inl f_t_sizes)), ((a_t 11), .inl (cB, 12000, .inl f_t_contents)), ((a_t 12), .inl (cI, 120, .inl f_t_at)), ((a_t 13), .inl (cI, 120, .inl f_t_ports)), ((a_t 14), .inl (cI, 120, .inl f_t_bends)), ((a_t 15), .inl (cI, 120, .inl f_t_left_c43)), ((a_t 16), .inl (cI, 60, .inl f_t_way_c43)), ((a_t 18), .inl (cB, 12000, .inl f_t_line_L102))] H → va_D A [(q_t, .inr (7, o_Mo a_t v_t_things v_t_pipes v_t_wide_c43 v_t_size v_t_place v_t_number 0 v_t_wish v_t_found)), ((a_t 1), .inl (cI, 40, .inl f_t_kinds)), ((a_t 3), .inl (cL, 40, .inr (.inl f_t_rooms))), ((a_t 4), .inl (cL, 40, .inr (.inl f_t_litres))), ((a_t 5), .inl (cI, 40, .inl f_t_liquids)), ((a_t 6), .inl (cI, 40, .inl f_t_positions)), ((a_t 8), .inl (cI, 160, .inl f_t_ends)), ((a_t 10), .inl (cI, 60, .inl f_t_sizes)), ((a_t 11), .inl (cB, 12000, .inl f_t_contents)), ((a_t 12), .inl (cI, 120, .inl f_t_at)), ((a_t 13), .inl (cI, 120, .inl f_t_ports)), ((a_t 14), .inl (cI, 120, .inl f_t_bends)), ((a_t 15), .inl (cI, 120, .inl f_t_left_c43)), ((a_t 16), .inl (cI, 60, .inl f_t_way_c43)), ((a_t 18), .inl (cB, 12000, .inl f_t_line_L102))] → va_S A s.heap H locs → lv_has ls 15 [(0, .ref q_t), (1, .int x1), (2, .int x2), (3, .long x3), (5, .int x5_L102), (6, .int x6_J97), (7, .int x7_J97), (8, .int s0_J97), (9, .int x9_L102)] → wk_Mo_move_164_102 x6_J97 (wl_Mo_move_59 v_t_wide_c43 f_t_way_c43 f_t_sizes f_t_contents (wk_Mo_move_170_59 x1 x3 x2 f_t_rooms f_t_liquids f_t_sizes v_t_wide_c43 f_t_contents f_t_left_c43 f_t_way_c43 f_t_litres P) k_59) x5_L102 x9_L102 f_t_line_L102 → W p l e (headSpec w_Mo_move rm_Mo_move).room s m args below meth c H locs 0 0 (MQ below (Q_Mo_move dC dI cI cL cB q_t a_t v_t_things v_t_pipes v_t_wide v_t_size v_t_place v_t_number v_t_thrown v_t_wish v_t_found f_t_kinds f_t_rooms f_t_litres f_t_liquids f_t_positions f_t_ends f_t_sizes f_t_contents f_t_at f_t_ports f_t_bends f_t_left f_t_way f_t_line x1 x2 x3 P A) args s 0 0 A) (F0 m 164 ls []) := by
                      intro x5_L102 x9_L102 f_t_line_L102 H locs ls hP hD hS hl hw
                      unfold wk_Mo_move_164_102 at hw
                      refine lv_iinc (v := (x6_J97 + 1)) (lv' := [(6, .int (x6_J97 + 1)), (0, .ref q_t), (1, .int x1), (2, .int x2), (3, .long x3), (5, .int x5_L102), (7, .int x7_J97), (8, .int s0_J97), (9, .int x9_L102)]) hx hb d_Mo_move_164 hl (k := 5) rfl rfl (by decide) rfl (fun ls hl => ?_)
                      refine lv_goto (tgt := 59) hx hb d_Mo_move_167 (by decide) ?_
                      exact ih_59 x5_L102 (x6_J97 + 1) f_t_line_L102 H _ _ hP hD hS (lv_sub hl [1, 2, 3, 4, 5, 0] rfl) hw
                    have LP_102 : ∀ (k_102 : Nat) (x5_L102 : Int32) (x9_L102 : Int32) (f_t_line_L102 : (Nat → Int32)) (H : Heap) (locs : List Loc) (ls : Array Slot), va_P (dC, dI) classes [(q_t, .inr (7, o_Mo a_t v_t_things v_t_pipes v_t_wide_c43 v_t_size v_t_place v_t_number 0 v_t_wish v_t_found)), ((a_t 1), .inl (cI, 40, .inl f_t_kinds)), ((a_t 3), .inl (cL, 40, .inr (.inl f_t_rooms))), ((a_t 4), .inl (cL, 40, .inr (.inl f_t_litres))), ((a_t 5), .inl (cI, 40, .inl f_t_liquids)), ((a_t 6), .inl (cI, 40, .inl f_t_positions)), ((a_t 8), .inl (cI, 160, .inl f_t_ends)), ((a_t 10), .inl (cI, 60, .inl f_t_sizes)), ((a_t 11), .inl (cB, 12000, .inl f_t_contents)), ((a_t 12), .inl (cI, 120, .inl f_t_at)), ((a_t 13), .inl (cI, 120, .inl f_t_ports)), ((a_t 14), .inl (cI, 120, .inl f_t_bends)), ((a_t 15), .inl (cI, 120, .inl f_t_left_c43)), ((a_t 16), .inl (cI, 60, .inl f_t_way_c43)), ((a_t 18), .inl (cB, 12000, .inl f_t_line_L102))] H → va_D A [(q_t, .inr (7, o_Mo a_t v_t_things v_t_pipes v_t_wide_c43 v_t_size v_t_place v_t_number 0 v_t_wish v_t_found)), ((a_t 1), .inl (cI, 40, .inl f_t_kinds)), ((a_t 3), .inl (cL, 40, .inr (.inl f_t_rooms))), ((a_t 4), .inl (cL, 40, .inr (.inl f_t_litres))), ((a_t 5), .inl (cI, 40, .inl f_t_liquids)), ((a_t 6), .inl (cI, 40, .inl f_t_positions)), ((a_t 8), .inl (cI, 160, .inl f_t_ends)), ((a_t 10), .inl (cI, 60, .inl f_t_sizes)), ((a_t 11), .inl (cB, 12000, .inl f_t_contents)), ((a_t 12), .inl (cI, 120, .inl f_t_at)), ((a_t 13), .inl (cI, 120, .inl f_t_ports)), ((a_t 14), .inl (cI, 120, .inl f_t_bends)), ((a_t 15), .inl (cI, 120, .inl f_t_left_c43)), ((a_t 16), .inl (cI, 60, .inl f_t_way_c43)), ((a_t 18), .inl (cB, 12000, .inl f_t_line_L102))] → va_S A s.heap H locs → lv_has ls 15 [(0, .ref q_t), (1, .int x1), (2, .int x2), (3, .long x3), (5, .int x5_L102), (6, .int x6_J97), (7, .int x7_J97), (8, .int s0_J97), (9, .int x9_L102)] → wl_Mo_move_102 x7_J97 f_t_sizes s0_J97 f_t_contents (wk_Mo_move_164_102 x6_J97 (wl_Mo_move_59 v_t_wide_c43 f_t_way_c43 f_t_sizes f_t_contents (wk_Mo_move_170_59 x1 x3 x2 f_t_rooms f_t_liquids f_t_sizes v_t_wide_c43 f_t_contents f_t_left_c43 f_t_way_c43 f_t_litres P) k_59)) k_102 x5_L102 x9_L102 f_t_line_L102 → W p l e (headSpec w_Mo_move rm_Mo_move).room s m args below meth c H locs 0 0 (MQ below (Q_Mo_move dC dI cI cL cB q_t a_t v_t_things v_t_pipes v_t_wide v_t_size v_t_place v_t_number v_t_thrown v_t_wish v_t_found f_t_kinds f_t_rooms f_t_litres f_t_liquids f_t_positions f_t_ends f_t_sizes f_t_contents f_t_at f_t_ports f_t_bends f_t_left f_t_way f_t_line x1 x2 x3 P A) args s 0 0 A) (F0 m 102 ls []) := by
                      intro k_102
                      induction k_102 with
                      | zero => intro x5_L102 x9_L102 f_t_line_L102 H locs ls hP hD hS hl hw; unfold wl_Mo_move_102 at hw; exact hw.elim
                      | succ k_102 ih_102 =>
                        intro x5_L102 x9_L102 f_t_line_L102 H locs ls hP hD hS hl hw
                        unfold wl_Mo_move_102 at hw
                        refine lv_iload hx hb d_Mo_move_102 (lv_at hl 8 rfl) ?_
                        refine lv_aload_n hx hb d_Mo_move_104 rfl (lv_at hl 0 rfl) ?_
                        refine va_get (D := (dC, dI)) (ci := 7) (v := .ref (a_t 10)) (C := R_Mo) (T := F_Mo) (N := 29) hx hb hts i_Mo hown hK hP 0 rfl rfl 10 (by decide) (hts (Cond.fieldLink R_Mo 35 "PlantGraphModel" "sizes" "[I") kw32_b664d45) (fun _ h9 => h9) rfl d_Mo_move_105 ?_
                        refine lv_iload hx hb d_Mo_move_108 (lv_at hl 6 rfl) ?_
                        refine va_iald hx hb hK hP 7 0 rfl rfl hw.1 d_Mo_move_110 ?_
                        replace hw := hw.2
                        refine lv_icmp_ge (tgt := 164) hx hb d_Mo_move_111 (by decide) (fun c111 => ?_) (fun c111 => ?_)
                        · replace hw := hw.1 c111
                          exact EX_164 x5_L102 x9_L102 f_t_line_L102 H _ _ hP hD hS (lv_sub hl [0, 1, 2, 3, 4, 5, 6, 7, 8] rfl) hw
                        · replace hw := hw.2 c111
                          refine lv_aload_n hx hb d_Mo_move_114 rfl (lv_at hl 0 rfl) ?_
                          refine va_get (D := (dC, dI)) (ci := 7) (v := .ref (a_t 18)) (C := R_Mo) (T := F_Mo) (N := 29) hx hb hts i_Mo hown hK hP 0 rfl rfl 18 (by decide) (hts (Cond.fieldLink R_Mo 57 "PlantGraphModel" "line" "[B") kw32_2e8e0ae) (fun _ h9 => h9) rfl d_Mo_move_115 ?_
                          refine lv_iload hx hb d_Mo_move_118 (lv_at hl 4 rfl) ?_
                          refine lv_aload_n hx hb d_Mo_move_120 rfl (lv_at hl 0 rfl) ?_
                          refine va_get (D := (dC, dI)) (ci := 7) (v := .ref (a_t 11)) (C := R_Mo) (T := F_Mo) (N := 29) hx hb hts i_Mo hown hK hP 0 rfl rfl 11 (by decide) (hts (Cond.fieldLink R_Mo 38 "PlantGraphModel" "contents" "[B") kw32_fd4a9fd) (fun _ h9 => h9) rfl d_Mo_move_121 ?_
                          refine lv_sipush (v := 200) hx hb d_Mo_move_124 (by decide) ?_
                          refine lv_iload hx hb d_Mo_move_127 (lv_at hl 6 rfl) ?_
                          refine lv_imul hx hb d_Mo_move_129 ?_
                          refine lv_iload hx hb d_Mo_move_130 (lv_at hl 7 rfl) ?_
                          refine lv_if_eq (tgt := 150) hx hb d_Mo_move_132 (by decide) (fun c132 => ?_) (fun c132 => ?_)
                          · replace hw := hw.1 c132
                            refine lv_iload hx hb d_Mo_move_150 (lv_at hl 8 rfl) ?_
                            refine lv_iadd hx hb d_Mo_move_152 ?_
                            refine va_bald hx hb hK hP 8 2 rfl rfl hw.1 d_Mo_move_153 ?_
                            replace hw := hw.2
                            refine va_bast hx hb hK hP hD hS 14 2 rfl rfl hw.1 d_Mo_move_154 (fun H locs hP hD hS => ?_)
                            replace hw := hw.2
                            have hP : va_P (dC, dI) classes [(q_t, .inr (7, o_Mo a_t v_t_things v_t_pipes v_t_wide_c43 v_t_size v_t_place v_t_number 0 v_t_wish v_t_found)), ((a_t 1), .inl (cI, 40, .inl f_t_kinds)), ((a_t 3), .inl (cL, 40, .inr (.inl f_t_rooms))), ((a_t 4), .inl (cL, 40, .inr (.inl f_t_litres))), ((a_t 5), .inl (cI, 40, .inl f_t_liquids)), ((a_t 6), .inl (cI, 40, .inl f_t_positions)), ((a_t 8), .inl (cI, 160, .inl f_t_ends)), ((a_t 10), .inl (cI, 60, .inl f_t_sizes)), ((a_t 11), .inl (cB, 12000, .inl f_t_contents)), ((a_t 12), .inl (cI, 120, .inl f_t_at)), ((a_t 13), .inl (cI, 120, .inl f_t_ports)), ((a_t 14), .inl (cI, 120, .inl f_t_bends)), ((a_t 15), .inl (cI, 120, .inl f_t_left_c43)), ((a_t 16), .inl (cI, 60, .inl f_t_way_c43)), ((a_t 18), .inl (cB, 12000, .inl (upd f_t_line_L102 x5_L102.toNatClampNeg (vp_nar .byte (f_t_contents ((200 * x7_J97) + x9_L102).toNatClampNeg)))))] H := hP
                            have hD : va_D A [(q_t, .inr (7, o_Mo a_t v_t_things v_t_pipes v_t_wide_c43 v_t_size v_t_place v_t_number 0 v_t_wish v_t_found)), ((a_t 1), .inl (cI, 40, .inl f_t_kinds)), ((a_t 3), .inl (cL, 40, .inr (.inl f_t_rooms))), ((a_t 4), .inl (cL, 40, .inr (.inl f_t_litres))), ((a_t 5), .inl (cI, 40, .inl f_t_liquids)), ((a_t 6), .inl (cI, 40, .inl f_t_positions)), ((a_t 8), .inl (cI, 160, .inl f_t_ends)), ((a_t 10), .inl (cI, 60, .inl f_t_sizes)), ((a_t 11), .inl (cB, 12000, .inl f_t_contents)), ((a_t 12), .inl (cI, 120, .inl f_t_at)), ((a_t 13), .inl (cI, 120, .inl f_t_ports)), ((a_t 14), .inl (cI, 120, .inl f_t_bends)), ((a_t 15), .inl (cI, 120, .inl f_t_left_c43)), ((a_t 16), .inl (cI, 60, .inl f_t_way_c43)), ((a_t 18), .inl (cB, 12000, .inl (upd f_t_line_L102 x5_L102.toNatClampNeg (vp_nar .byte (f_t_contents ((200 * x7_J97) + x9_L102).toNatClampNeg)))))] := hD
                            refine lv_iinc (v := (x5_L102 + 1)) (lv' := [(5, .int (x5_L102 + 1)), (0, .ref q_t), (1, .int x1), (2, .int x2), (3, .long x3), (6, .int x6_J97), (7, .int x7_J97), (8, .int s0_J97), (9, .int x9_L102)]) hx hb d_Mo_move_155 hl (k := 4) rfl rfl (by decide) rfl (fun ls hl => ?_)
                            refine lv_iinc (v := (x9_L102 + 1)) (lv' := [(9, .int (x9_L102 + 1)), (5, .int (x5_L102 + 1)), (0, .ref q_t), (1, .int x1), (2, .int x2), (3, .long x3), (6, .int x6_J97), (7, .int x7_J97), (8, .int s0_J97)]) hx hb d_Mo_move_158 hl (k := 8) rfl rfl (by decide) rfl (fun ls hl => ?_)
                            refine lv_goto (tgt := 102) hx hb d_Mo_move_161 (by decide) ?_
                            exact ih_102 (x5_L102 + 1) (x9_L102 + 1) (upd f_t_line_L102 x5_L102.toNatClampNeg (vp_nar .byte (f_t_contents ((200 * x7_J97) + x9_L102).toNatClampNeg))) H _ _ hP hD hS (lv_sub hl [2, 3, 4, 5, 1, 6, 7, 8, 0] rfl) hw
                          · replace hw := hw.2 c132
                            refine lv_aload_n hx hb d_Mo_move_135 rfl (lv_at hl 0 rfl) ?_
                            refine va_get (D := (dC, dI)) (ci := 7) (v := .ref (a_t 10)) (C := R_Mo) (T := F_Mo) (N := 29) hx hb hts i_Mo hown hK hP 0 rfl rfl 10 (by decide) (hts (Cond.fieldLink R_Mo 35 "PlantGraphModel" "sizes" "[I") kw32_b664d45) (fun _ h9 => h9) rfl d_Mo_move_136 ?_
                            refine lv_iload hx hb d_Mo_move_139 (lv_at hl 6 rfl) ?_
                            refine va_iald hx hb hK hP 7 0 rfl rfl hw.1 d_Mo_move_141 ?_
                            replace hw := hw.2
                            refine lv_iconst (v := 1) hx hb d_Mo_move_142 (by decide) ?_
                            refine lv_isub hx hb d_Mo_move_143 ?_
                            refine lv_iload hx hb d_Mo_move_144 (lv_at hl 8 rfl) ?_
                            refine lv_isub hx hb d_Mo_move_146 ?_
                            refine lv_goto (tgt := 152) hx hb d_Mo_move_147 (by decide) ?_
                            refine lv_iadd hx hb d_Mo_move_152 ?_
                            refine va_bald hx hb hK hP 8 2 rfl rfl hw.1 d_Mo_move_153 ?_
                            replace hw := hw.2
                            refine va_bast hx hb hK hP hD hS 14 2 rfl rfl hw.1 d_Mo_move_154 (fun H locs hP hD hS => ?_)
                            replace hw := hw.2
                            have hP : va_P (dC, dI) classes [(q_t, .inr (7, o_Mo a_t v_t_things v_t_pipes v_t_wide_c43 v_t_size v_t_place v_t_number 0 v_t_wish v_t_found)), ((a_t 1), .inl (cI, 40, .inl f_t_kinds)), ((a_t 3), .inl (cL, 40, .inr (.inl f_t_rooms))), ((a_t 4), .inl (cL, 40, .inr (.inl f_t_litres))), ((a_t 5), .inl (cI, 40, .inl f_t_liquids)), ((a_t 6), .inl (cI, 40, .inl f_t_positions)), ((a_t 8), .inl (cI, 160, .inl f_t_ends)), ((a_t 10), .inl (cI, 60, .inl f_t_sizes)), ((a_t 11), .inl (cB, 12000, .inl f_t_contents)), ((a_t 12), .inl (cI, 120, .inl f_t_at)), ((a_t 13), .inl (cI, 120, .inl f_t_ports)), ((a_t 14), .inl (cI, 120, .inl f_t_bends)), ((a_t 15), .inl (cI, 120, .inl f_t_left_c43)), ((a_t 16), .inl (cI, 60, .inl f_t_way_c43)), ((a_t 18), .inl (cB, 12000, .inl (upd f_t_line_L102 x5_L102.toNatClampNeg (vp_nar .byte (f_t_contents ((200 * x7_J97) + (((f_t_sizes x7_J97.toNatClampNeg) - 1) - x9_L102)).toNatClampNeg)))))] H := hP
                            have hD : va_D A [(q_t, .inr (7, o_Mo a_t v_t_things v_t_pipes v_t_wide_c43 v_t_size v_t_place v_t_number 0 v_t_wish v_t_found)), ((a_t 1), .inl (cI, 40, .inl f_t_kinds)), ((a_t 3), .inl (cL, 40, .inr (.inl f_t_rooms))), ((a_t 4), .inl (cL, 40, .inr (.inl f_t_litres))), ((a_t 5), .inl (cI, 40, .inl f_t_liquids)), ((a_t 6), .inl (cI, 40, .inl f_t_positions)), ((a_t 8), .inl (cI, 160, .inl f_t_ends)), ((a_t 10), .inl (cI, 60, .inl f_t_sizes)), ((a_t 11), .inl (cB, 12000, .inl f_t_contents)), ((a_t 12), .inl (cI, 120, .inl f_t_at)), ((a_t 13), .inl (cI, 120, .inl f_t_ports)), ((a_t 14), .inl (cI, 120, .inl f_t_bends)), ((a_t 15), .inl (cI, 120, .inl f_t_left_c43)), ((a_t 16), .inl (cI, 60, .inl f_t_way_c43)), ((a_t 18), .inl (cB, 12000, .inl (upd f_t_line_L102 x5_L102.toNatClampNeg (vp_nar .byte (f_t_contents ((200 * x7_J97) + (((f_t_sizes x7_J97.toNatClampNeg) - 1) - x9_L102)).toNatClampNeg)))))] := hD
                            refine lv_iinc (v := (x5_L102 + 1)) (lv' := [(5, .int (x5_L102 + 1)), (0, .ref q_t), (1, .int x1), (2, .int x2), (3, .long x3), (6, .int x6_J97), (7, .int x7_J97), (8, .int s0_J97), (9, .int x9_L102)]) hx hb d_Mo_move_155 hl (k := 4) rfl rfl (by decide) rfl (fun ls hl => ?_)
                            refine lv_iinc (v := (x9_L102 + 1)) (lv' := [(9, .int (x9_L102 + 1)), (5, .int (x5_L102 + 1)), (0, .ref q_t), (1, .int x1), (2, .int x2), (3, .long x3), (6, .int x6_J97), (7, .int x7_J97), (8, .int s0_J97)]) hx hb d_Mo_move_158 hl (k := 8) rfl rfl (by decide) rfl (fun ls hl => ?_)
                            refine lv_goto (tgt := 102) hx hb d_Mo_move_161 (by decide) ?_
                            exact ih_102 (x5_L102 + 1) (x9_L102 + 1) (upd f_t_line_L102 x5_L102.toNatClampNeg (vp_nar .byte (f_t_contents ((200 * x7_J97) + (((f_t_sizes x7_J97.toNatClampNeg) - 1) - x9_L102)).toNatClampNeg))) H _ _ hP hD hS (lv_sub hl [2, 3, 4, 5, 1, 6, 7, 8, 0] rfl) hw
                    exact LP_102 n_102 x5_J97 0 f_t_line_J97 H _ _ hP hD hS (lv_sub hl [2, 3, 4, 5, 6, 7, 8, 1, 0] rfl) hw
                  refine lv_iload hx hb d_Mo_move_59 (lv_at hl 5 rfl) ?_
                  refine lv_aload_n hx hb d_Mo_move_61 rfl (lv_at hl 0 rfl) ?_
                  refine va_get (D := (dC, dI)) (ci := 7) (v := .int v_t_wide_c43) (C := R_Mo) (T := F_Mo) (N := 29) hx hb hts i_Mo hown hK hP 0 rfl rfl 17 (by decide) (hts (Cond.fieldLink R_Mo 134 "PlantGraphModel" "wide" "I") kw32_aabbf4f) (fun _ h9 => h9) rfl d_Mo_move_62 ?_
                  refine lv_icmp_ge (tgt := 170) hx hb d_Mo_move_65 (by decide) (fun c65 => ?_) (fun c65 => ?_)
                  · replace hw := hw.1 c65
                    exact EX_170 x5_L59 x6_L59 f_t_line_L59 H _ _ hP hD hS (lv_sub hl [0, 1, 2, 3, 4, 5] rfl) hw
                  · replace hw := hw.2 c65
                    refine lv_aload_n hx hb d_Mo_move_68 rfl (lv_at hl 0 rfl) ?_
                    refine va_get (D := (dC, dI)) (ci := 7) (v := .ref (a_t 16)) (C := R_Mo) (T := F_Mo) (N := 29) hx hb hts i_Mo hown hK hP 0 rfl rfl 16 (by decide) (hts (Cond.fieldLink R_Mo 54 "PlantGraphModel" "way" "[I") kw32_34de539) (fun _ h9 => h9) rfl d_Mo_move_69 ?_
                    refine lv_iload hx hb d_Mo_move_72 (lv_at hl 5 rfl) ?_
                    refine va_iald hx hb hK hP 13 0 rfl rfl hw.1 d_Mo_move_74 ?_
                    replace hw := hw.2
                    refine lv_iconst (v := 2) hx hb d_Mo_move_75 (by decide) ?_
                    refine lv_idiv hx hb d_Mo_move_76 (by decide) ?_
                    refine lv_istore (lv' := [(7, .int ((f_t_way_c43 x6_L59.toNatClampNeg) / 2)), (0, .ref q_t), (1, .int x1), (2, .int x2), (3, .long x3), (5, .int x5_L59), (6, .int x6_L59)]) hx hb d_Mo_move_77 hl (by decide) rfl (fun ls hl => ?_)
                    refine lv_aload_n hx hb d_Mo_move_79 rfl (lv_at hl 1 rfl) ?_
                    refine va_get (D := (dC, dI)) (ci := 7) (v := .ref (a_t 16)) (C := R_Mo) (T := F_Mo) (N := 29) hx hb hts i_Mo hown hK hP 0 rfl rfl 16 (by decide) (hts (Cond.fieldLink R_Mo 54 "PlantGraphModel" "way" "[I") kw32_34de539) (fun _ h9 => h9) rfl d_Mo_move_80 ?_
                    refine lv_iload hx hb d_Mo_move_83 (lv_at hl 6 rfl) ?_
                    refine va_iald hx hb hK hP 13 0 rfl rfl hw.1 d_Mo_move_85 ?_
                    replace hw := hw.2
                    refine lv_iconst (v := 2) hx hb d_Mo_move_86 (by decide) ?_
                    refine lv_irem hx hb d_Mo_move_87 (by decide) ?_
                    refine lv_iconst (v := 1) hx hb d_Mo_move_88 (by decide) ?_
                    refine lv_icmp_ne (tgt := 96) hx hb d_Mo_move_89 (by decide) (fun c89 => ?_) (fun c89 => ?_)
                    · replace hw := hw.1 c89
                      refine lv_iconst (v := 0) hx hb d_Mo_move_96 (by decide) ?_
                      exact J_97 x5_L59 x6_L59 ((f_t_way_c43 x6_L59.toNatClampNeg) / 2) f_t_line_L59 0 H _ _ hP hD hS (lv_sub hl [1, 2, 3, 4, 5, 6, 0] rfl) hw
                    · replace hw := hw.2 c89
                      refine lv_iconst (v := 1) hx hb d_Mo_move_92 (by decide) ?_
                      refine lv_goto (tgt := 97) hx hb d_Mo_move_93 (by decide) ?_
                      exact J_97 x5_L59 x6_L59 ((f_t_way_c43 x6_L59.toNatClampNeg) / 2) f_t_line_L59 1 H _ _ hP hD hS (lv_sub hl [1, 2, 3, 4, 5, 6, 0] rfl) hw
              exact LP_59 n_59 0 0 f_t_line H _ _ hP hD hS (lv_sub hl [2, 3, 4, 5, 1, 0] rfl) hw
            · replace hw := hw.2 c46
              refine lv_ldc2 (v := (-1)) hx hb hown (hts (Cond.constantLong R_Mo 141 (-1)) kw32_485221d) d_Mo_move_49 ?_
              exact W.lret (v := (-1)) hx hb hr (fun t ht hW => ⟨⟨(-1), (v_t_wide_c43, 0, f_t_litres, f_t_liquids, f_t_contents, f_t_left_c43, f_t_way_c43, f_t_line), rfl, hw, by rw [ht]; exact hP, va_K.moved hW.alike hK, hD⟩, hS.F ht⟩) hS.2.2 d_Mo_move_52
def wk_Mo_joined_63_20 (P : Int32 → Int32 → Int32 → (Nat → Int32) → (Nat → Int32) → Prop) (x3_L20 : Int32) (x4_L20 : Int32) (v_t_wide_L20 : Int32) (f_t_left_L20 : (Nat → Int32)) (f_t_way_L20 : (Nat → Int32)) : Prop := P x4_L20 v_t_wide_L20 0 f_t_left_L20 f_t_way_L20
def wk_Mo_joined_75_20 (P : Int32 → Int32 → Int32 → (Nat → Int32) → (Nat → Int32) → Prop) (x3_L20 : Int32) (x4_L20 : Int32) (v_t_wide_L20 : Int32) (f_t_left_L20 : (Nat → Int32)) (f_t_way_L20 : (Nat → Int32)) : Prop := P (-1) v_t_wide_L20 0 f_t_left_L20 f_t_way_L20
def wl_Mo_joined_20 (v_t_things : Int32) (x1 : Int32) (f_t_kinds : (Nat → Int32)) (v_t_pipes : Int32) (f_t_positions : (Nat → Int32)) (f_t_ends : (Nat → Int32)) (f_t_at : (Nat → Int32)) (f_t_ports : (Nat → Int32)) (f_t_bends : (Nat → Int32)) (K_63 : Int32 → Int32 → Int32 → (Nat → Int32) → (Nat → Int32) → Prop) (K_75 : Int32 → Int32 → Int32 → (Nat → Int32) → (Nat → Int32) → Prop) : Nat → Int32 → Int32 → Int32 → (Nat → Int32) → (Nat → Int32) → Prop
  | 0, _, _, _, _, _ => False
  | k_20 + 1, x3_L20, x4_L20, v_t_wide_L20, f_t_left_L20, f_t_way_L20 => ((v_t_things ≤ x4_L20 → K_75 x3_L20 x4_L20 v_t_wide_L20 f_t_left_L20 f_t_way_L20) ∧ (¬ v_t_things ≤ x4_L20 → ((x3_L20 < 0 → K_75 x3_L20 x4_L20 v_t_wide_L20 f_t_left_L20 f_t_way_L20) ∧ (¬ x3_L20 < 0 → ((x4_L20 = x1 → wl_Mo_joined_20 v_t_things x1 f_t_kinds v_t_pipes f_t_positions f_t_ends f_t_at f_t_ports f_t_bends K_63 K_75 k_20 x3_L20 (x4_L20 + 1) v_t_wide_L20 f_t_left_L20 f_t_way_L20) ∧ (¬ x4_L20 = x1 → (vp_in x4_L20 40 ∧ ((¬ (f_t_kinds x4_L20.toNatClampNeg) = 0 → wl_Mo_joined_20 v_t_things x1 f_t_kinds v_t_pipes f_t_positions f_t_ends f_t_at f_t_ports f_t_bends K_63 K_75 k_20 x3_L20 (x4_L20 + 1) v_t_wide_L20 f_t_left_L20 f_t_way_L20) ∧ ((f_t_kinds x4_L20.toNatClampNeg) = 0 → wp_Mo_find v_t_pipes v_t_wide_L20 f_t_kinds f_t_positions f_t_ends f_t_at f_t_ports f_t_bends f_t_left_L20 f_t_way_L20 x1 x4_L20 (fun r53 v_t_wide_c53 f_t_left_c53 f_t_way_c53 => ((r53 = 0 → wl_Mo_joined_20 v_t_things x1 f_t_kinds v_t_pipes f_t_positions f_t_ends f_t_at f_t_ports f_t_bends K_63 K_75 k_20 x3_L20 (x4_L20 + 1) v_t_wide_c53 f_t_left_c53 f_t_way_c53) ∧ (¬ r53 = 0 → ((¬ x3_L20 = 0 → wl_Mo_joined_20 v_t_things x1 f_t_kinds v_t_pipes f_t_positions f_t_ends f_t_at f_t_ports f_t_bends K_63 K_75 k_20 (x3_L20 + (-1)) (x4_L20 + 1) v_t_wide_c53 f_t_left_c53 f_t_way_c53) ∧ (x3_L20 = 0 → K_63 x3_L20 x4_L20 v_t_wide_c53 f_t_left_c53 f_t_way_c53))))))))))))))
def wp_Mo_joined (v_t_things : Int32) (v_t_pipes : Int32) (v_t_wide : Int32) (v_t_thrown : Int32) (f_t_kinds : (Nat → Int32)) (f_t_positions : (Nat → Int32)) (f_t_ends : (Nat → Int32)) (f_t_at : (Nat → Int32)) (f_t_ports : (Nat → Int32)) (f_t_bends : (Nat → Int32)) (f_t_left : (Nat → Int32)) (f_t_way : (Nat → Int32)) (x1 : Int32) (x2 : Int32) (P : Int32 → Int32 → Int32 → (Nat → Int32) → (Nat → Int32) → Prop) : Prop := wp_Mo_isTank v_t_things f_t_kinds x1 (fun r7 => ((¬ r7 = 0 → (∃ n_20 : Nat, wl_Mo_joined_20 v_t_things x1 f_t_kinds v_t_pipes f_t_positions f_t_ends f_t_at f_t_ports f_t_bends (wk_Mo_joined_63_20 P) (wk_Mo_joined_75_20 P) n_20 x2 0 v_t_wide f_t_left f_t_way)) ∧ (r7 = 0 → P (-1) v_t_wide 0 f_t_left f_t_way)))
def w_Mo_joined : List Cond := .code y_Mo_joined b_Mo_joined 5 (some .int) :: tb
abbrev rm_Mo_joined : Room := { frames := 4, cells := 0, slots := 0, locals := 102 }
abbrev Q_Mo_joined (dC : Nat → ClassId) (dI : Nat → Nat → Nat) (cI cL cB : ClassId) (q_t : Nat) (a_t : Nat → Nat) (v_t_things : Int32) (v_t_pipes : Int32) (v_t_wide : Int32) (v_t_size : Int32) (v_t_place : Int32) (v_t_number : Int64) (v_t_thrown : Int32) (v_t_wish : Int32) (v_t_found : Int32) (f_t_kinds : (Nat → Int32)) (f_t_positions : (Nat → Int32)) (f_t_ends : (Nat → Int32)) (f_t_at : (Nat → Int32)) (f_t_ports : (Nat → Int32)) (f_t_bends : (Nat → Int32)) (f_t_left : (Nat → Int32)) (f_t_way : (Nat → Int32)) (x1 : Int32) (x2 : Int32) (P : Int32 → Int32 → Int32 → (Nat → Int32) → (Nat → Int32) → Prop) (A : Nat → Prop) : Array Value → State → Outcome → State → Prop := va_Qi (fun (r : Int32) (u : Int32 × Int32 × (Nat → Int32) × (Nat → Int32)) => P r u.1 u.2.1 u.2.2.1 u.2.2.2) (fun u t => va_P (dC, dI) classes [(q_t, .inr (7, o_Mo a_t v_t_things v_t_pipes u.1 v_t_size v_t_place v_t_number u.2.1 v_t_wish v_t_found)), ((a_t 1), .inl (cI, 40, .inl f_t_kinds)), ((a_t 6), .inl (cI, 40, .inl f_t_positions)), ((a_t 8), .inl (cI, 160, .inl f_t_ends)), ((a_t 12), .inl (cI, 120, .inl f_t_at)), ((a_t 13), .inl (cI, 120, .inl f_t_ports)), ((a_t 14), .inl (cI, 120, .inl f_t_bends)), ((a_t 15), .inl (cI, 120, .inl u.2.2.1)), ((a_t 16), .inl (cI, 60, .inl u.2.2.2))] t.heap ∧ va_K (dC, dI) classes [(cI, .int), (cL, .long), (cB, .byte)] t ∧ va_D A [(q_t, .inr (7, o_Mo a_t v_t_things v_t_pipes u.1 v_t_size v_t_place v_t_number u.2.1 v_t_wish v_t_found)), ((a_t 1), .inl (cI, 40, .inl f_t_kinds)), ((a_t 6), .inl (cI, 40, .inl f_t_positions)), ((a_t 8), .inl (cI, 160, .inl f_t_ends)), ((a_t 12), .inl (cI, 120, .inl f_t_at)), ((a_t 13), .inl (cI, 120, .inl f_t_ports)), ((a_t 14), .inl (cI, 120, .inl f_t_bends)), ((a_t 15), .inl (cI, 120, .inl u.2.2.1)), ((a_t 16), .inl (cI, 60, .inl u.2.2.2))]) A
set_option maxHeartbeats 4000000 in
set_option maxRecDepth 100000 in
theorem c_Mo_joined (l : Launch) (dC : Nat → ClassId) (dI : Nat → Nat → Nat) (cI cL cB : ClassId) (q_t : Nat) (a_t : Nat → Nat) (sz : Nat) (v_t_things : Int32) (v_t_pipes : Int32) (v_t_wide : Int32) (v_t_size : Int32) (v_t_place : Int32) (v_t_number : Int64) (v_t_thrown : Int32) (v_t_wish : Int32) (v_t_found : Int32) (f_t_kinds : (Nat → Int32)) (f_t_positions : (Nat → Int32)) (f_t_ends : (Nat → Int32)) (f_t_at : (Nat → Int32)) (f_t_ports : (Nat → Int32)) (f_t_bends : (Nat → Int32)) (f_t_left : (Nat → Int32)) (f_t_way : (Nat → Int32)) (x1 : Int32) (x2 : Int32) (P : Int32 → Int32 → Int32 → (Nat → Int32) → (Nat → Int32) → Prop) (hw : wp_Mo_joined v_t_things v_t_pipes v_t_wide v_t_thrown f_t_kinds f_t_positions f_t_ends f_t_at f_t_ports f_t_bends f_t_left f_t_way x1 x2 P) : Met l y_Mo_joined w_Mo_joined rm_Mo_joined (va_Pc [.ref q_t, .int x1, .int x2] (fun U => U.heap.size = sz ∧ va_P (dC, dI) classes [(q_t, .inr (7, o_Mo a_t v_t_things v_t_pipes v_t_wide v_t_size v_t_place v_t_number v_t_thrown v_t_wish v_t_found)), ((a_t 1), .inl (cI, 40, .inl f_t_kinds)), ((a_t 6), .inl (cI, 40, .inl f_t_positions)), ((a_t 8), .inl (cI, 160, .inl f_t_ends)), ((a_t 12), .inl (cI, 120, .inl f_t_at)), ((a_t 13), .inl (cI, 120, .inl f_t_ports)), ((a_t 14), .inl (cI, 120, .inl f_t_bends)), ((a_t 15), .inl (cI, 120, .inl f_t_left)), ((a_t 16), .inl (cI, 60, .inl f_t_way))] U.heap ∧ va_K (dC, dI) classes [(cI, .int), (cL, .long), (cB, .byte)] U ∧ va_D (fun _ => True) [(q_t, .inr (7, o_Mo a_t v_t_things v_t_pipes v_t_wide v_t_size v_t_place v_t_number v_t_thrown v_t_wish v_t_found)), ((a_t 1), .inl (cI, 40, .inl f_t_kinds)), ((a_t 6), .inl (cI, 40, .inl f_t_positions)), ((a_t 8), .inl (cI, 160, .inl f_t_ends)), ((a_t 12), .inl (cI, 120, .inl f_t_at)), ((a_t 13), .inl (cI, 120, .inl f_t_ports)), ((a_t 14), .inl (cI, 120, .inl f_t_bends)), ((a_t 15), .inl (cI, 120, .inl f_t_left)), ((a_t 16), .inl (cI, 60, .inl f_t_way))])) (Q_Mo_joined dC dI cI cL cB q_t a_t v_t_things v_t_pipes v_t_wide v_t_size v_t_place v_t_number v_t_thrown v_t_wish v_t_found f_t_kinds f_t_positions f_t_ends f_t_at f_t_ports f_t_bends f_t_left f_t_way x1 x2 P (va_A [(q_t, .inr (7, o_Mo a_t v_t_things v_t_pipes v_t_wide v_t_size v_t_place v_t_number v_t_thrown v_t_wish v_t_found)), ((a_t 1), .inl (cI, 40, .inl f_t_kinds)), ((a_t 6), .inl (cI, 40, .inl f_t_positions)), ((a_t 8), .inl (cI, 160, .inl f_t_ends)), ((a_t 12), .inl (cI, 120, .inl f_t_at)), ((a_t 13), .inl (cI, 120, .inl f_t_ports)), ((a_t 14), .inl (cI, 120, .inl f_t_bends)), ((a_t 15), .inl (cI, 120, .inl f_t_left)), ((a_t 16), .inl (cI, 60, .inl f_t_way))] sz)) 0 0 (va_A [(q_t, .inr (7, o_Mo a_t v_t_things v_t_pipes v_t_wide v_t_size v_t_place v_t_number v_t_thrown v_t_wish v_t_found)), ((a_t 1), .inl (cI, 40, .inl f_t_kinds)), ((a_t 6), .inl (cI, 40, .inl f_t_positions)), ((a_t 8), .inl (cI, 160, .inl f_t_ends)), ((a_t 12), .inl (cI, 120, .inl f_t_at)), ((a_t 13), .inl (cI, 120, .inl f_t_ports)), ((a_t 14), .inl (cI, 120, .inl f_t_bends)), ((a_t 15), .inl (cI, 120, .inl f_t_left)), ((a_t 16), .inl (cI, 60, .inl f_t_way))] sz) := by
  refine Met.ofW (cc := b_Mo_joined) (maxL := 5) (ret := (some .int)) (by decide) rfl ?_
  intro p e s m args below meth c s₁ B hml hv
  obtain ⟨ha, hsz, hP, hK, hD0⟩ := hv
  have hx := B.exec
  have hb := B.bytes
  have hr := B.returns
  have hts0 := atoms_spec (ws := w_Mo_joined) B.pre
  have hts : ∀ w ∈ tb, w.before args s = true := fun w h => hts0 w (List.mem_cons_of_mem _ h)
  have hown : s.vm.findClass R_Mo = some m.cls := findClass_of_methodNamed B.named
  have hlocks := B.notSynchronized
  subst hsz
  have hD := hD0.self (sz := s.heap.size)
  generalize hAe : va_A [(q_t, .inr (7, o_Mo a_t v_t_things v_t_pipes v_t_wide v_t_size v_t_place v_t_number v_t_thrown v_t_wish v_t_found)), ((a_t 1), .inl (cI, 40, .inl f_t_kinds)), ((a_t 6), .inl (cI, 40, .inl f_t_positions)), ((a_t 8), .inl (cI, 160, .inl f_t_ends)), ((a_t 12), .inl (cI, 120, .inl f_t_at)), ((a_t 13), .inl (cI, 120, .inl f_t_ports)), ((a_t 14), .inl (cI, 120, .inl f_t_bends)), ((a_t 15), .inl (cI, 120, .inl f_t_left)), ((a_t 16), .inl (cI, 60, .inl f_t_way))] s.heap.size = A at hD ⊢
  have hA : ∀ q : Nat, s.heap.size ≤ q → A q := fun q h => by rw [← hAe]; exact Or.inr h
  have hS : va_S A s.heap s.heap [] := va_S.rf
  have hP : va_P (dC, dI) classes [(q_t, .inr (7, o_Mo a_t v_t_things v_t_pipes v_t_wide v_t_size v_t_place v_t_number v_t_thrown v_t_wish v_t_found)), ((a_t 1), .inl (cI, 40, .inl f_t_kinds)), ((a_t 6), .inl (cI, 40, .inl f_t_positions)), ((a_t 8), .inl (cI, 160, .inl f_t_ends)), ((a_t 12), .inl (cI, 120, .inl f_t_at)), ((a_t 13), .inl (cI, 120, .inl f_t_ports)), ((a_t 14), .inl (cI, 120, .inl f_t_bends)), ((a_t 15), .inl (cI, 120, .inl f_t_left)), ((a_t 16), .inl (cI, 60, .inl f_t_way))] s.heap := hP
  have hl := lv_entry [.ref q_t, .int x1, .int x2] (n := 5) (Nat.le_of_ble_eq_true rfl)
  have he9 : entryFrame m args 5 = F0 m 0 ((lg_sl [.ref q_t, .int x1, .int x2] ++ List.replicate (5 - (lg_sl [.ref q_t, .int x1, .int x2]).length) Slot.unset).toArray) [] := by rw [ha]; exact lg_entry_eq _ _ _
  rw [he9]
  clear he9
  generalize (lg_sl [.ref q_t, .int x1, .int x2] ++ List.replicate (5 - (lg_sl [.ref q_t, .int x1, .int x2]).length) Slot.unset).toArray = ls at hl ⊢
  have hl : lv_has ls 5 [(0, .ref q_t), (1, .int x1), (2, .int x2)] := hl
  unfold wp_Mo_joined at hw
  refine lv_aload_n hx hb d_Mo_joined_0 rfl (lv_at hl 0 rfl) ?_
  refine lv_iconst (v := 0) hx hb d_Mo_joined_1 (by decide) ?_
  refine va_put (D := (dC, dI)) (ci := 7) (v := .int 0) (ty := .int) (C := R_Mo) (T := F_Mo) (N := 29) hx hb hts i_Mo t_Mo t_Mo_ok n_Mo hown hK hP hD hS 0 rfl rfl 26 (by decide) (hts (Cond.fieldLink R_Mo 72 "PlantGraphModel" "thrown" "I") kw32_6501a0b) (fun _ h9 => h9) rfl (by decide +kernel) rfl rfl (Nat.le_of_ble_eq_true rfl) d_Mo_joined_2 (fun H locs hP hD hS => ?_)
  have hP : va_P (dC, dI) classes [(q_t, .inr (7, o_Mo a_t v_t_things v_t_pipes v_t_wide v_t_size v_t_place v_t_number 0 v_t_wish v_t_found)), ((a_t 1), .inl (cI, 40, .inl f_t_kinds)), ((a_t 6), .inl (cI, 40, .inl f_t_positions)), ((a_t 8), .inl (cI, 160, .inl f_t_ends)), ((a_t 12), .inl (cI, 120, .inl f_t_at)), ((a_t 13), .inl (cI, 120, .inl f_t_ports)), ((a_t 14), .inl (cI, 120, .inl f_t_bends)), ((a_t 15), .inl (cI, 120, .inl f_t_left)), ((a_t 16), .inl (cI, 60, .inl f_t_way))] H := hP
  have hD : va_D A [(q_t, .inr (7, o_Mo a_t v_t_things v_t_pipes v_t_wide v_t_size v_t_place v_t_number 0 v_t_wish v_t_found)), ((a_t 1), .inl (cI, 40, .inl f_t_kinds)), ((a_t 6), .inl (cI, 40, .inl f_t_positions)), ((a_t 8), .inl (cI, 160, .inl f_t_ends)), ((a_t 12), .inl (cI, 120, .inl f_t_at)), ((a_t 13), .inl (cI, 120, .inl f_t_ports)), ((a_t 14), .inl (cI, 120, .inl f_t_bends)), ((a_t 15), .inl (cI, 120, .inl f_t_left)), ((a_t 16), .inl (cI, 60, .inl f_t_way))] := hD
  refine lv_aload_n hx hb d_Mo_joined_5 rfl (lv_at hl 0 rfl) ?_
  refine lv_iload_n hx hb d_Mo_joined_6 rfl (lv_at hl 1 rfl) ?_
  have hPc := hP.sub (ws' := [(q_t, .inr (7, o_Mo a_t v_t_things v_t_pipes v_t_wide v_t_size v_t_place v_t_number 0 v_t_wish v_t_found)), ((a_t 1), .inl (cI, 40, .inl f_t_kinds))]) [0, 1] rfl
  have hDc := hD.sub (ws' := [(q_t, .inr (7, o_Mo a_t v_t_things v_t_pipes v_t_wide v_t_size v_t_place v_t_number 0 v_t_wish v_t_found)), ((a_t 1), .inl (cI, 40, .inl f_t_kinds))]) [0, 1] (by decide) rfl
  have hFc := va_free (wc := [(q_t, .inr (7, o_Mo a_t v_t_things v_t_pipes v_t_wide v_t_size v_t_place v_t_number 0 v_t_wish v_t_found)), ((a_t 1), .inl (cI, 40, .inl f_t_kinds))]) hD hS hA [0, 1] rfl
  refine va_calli (va_runV (As := [.int x1]) (rest := []) ⟨hx, hb, hml, hown, hts⟩ (c_Mo_isTank l dC dI cI cL cB q_t a_t H.size v_t_things v_t_pipes v_t_wide v_t_size v_t_place v_t_number 0 v_t_wish v_t_found f_t_kinds x1 _ hw) (my_cwV 1 hts kw32_9096378 kw32_f60b64a kw32_aff81c1 kw32_7a5931c kw32_0b8852f rfl rfl (by decide +kernel) ⟨Nat.le_of_ble_eq_true rfl, Nat.le_of_ble_eq_true rfl⟩) ⟨fun a U g mk q => by obtain ⟨q0, q1, qP, qK, qD⟩ := q; exact ⟨q0, q1, qP, va_K.moved (u := U) (U := U.calling g mk a) (Vm.Alike.refl U.vm) qK, qD⟩, va_recv hK hP (ci := 7) (q0 := 0) rfl rfl, fun U hU hW => ⟨rfl, by rw [hU], by rw [hU]; exact hPc, va_K.moved hW.alike hK, hDc.weaken (fun _ _ _ _ => trivial)⟩⟩ rfl rfl hl.1 rfl (lv_room (Nat.le_of_ble_eq_true rfl)) d_Mo_joined_7 ⟨Nat.zero_le _, Nat.zero_le _⟩) hS (fun q _ h => hFc q h) hFc (fun r7 u t H locs ht hvm hw hB hz1 hk1 hS => ?_)
  obtain ⟨hP1, hK1, hD1⟩ := hB
  rw [ht] at hP1
  obtain ⟨hP, hD⟩ := va_join (wr := [((a_t 6), .inl (cI, 40, .inl f_t_positions)), ((a_t 8), .inl (cI, 160, .inl f_t_ends)), ((a_t 12), .inl (cI, 120, .inl f_t_at)), ((a_t 13), .inl (cI, 120, .inl f_t_ports)), ((a_t 14), .inl (cI, 120, .inl f_t_bends)), ((a_t 15), .inl (cI, 120, .inl f_t_left)), ((a_t 16), .inl (cI, 60, .inl f_t_way))]) (w1 := [(q_t, .inr (7, o_Mo a_t v_t_things v_t_pipes v_t_wide v_t_size v_t_place v_t_number 0 v_t_wish v_t_found)), ((a_t 1), .inl (cI, 40, .inl f_t_kinds))]) hP hD [0, 1] [2, 3, 4, 5, 6, 7, 8] rfl rfl (by decide) (by decide) hk1 hFc hP1 hD1
  have hP : va_P (dC, dI) classes [(q_t, .inr (7, o_Mo a_t v_t_things v_t_pipes v_t_wide v_t_size v_t_place v_t_number 0 v_t_wish v_t_found)), ((a_t 1), .inl (cI, 40, .inl f_t_kinds)), ((a_t 6), .inl (cI, 40, .inl f_t_positions)), ((a_t 8), .inl (cI, 160, .inl f_t_ends)), ((a_t 12), .inl (cI, 120, .inl f_t_at)), ((a_t 13), .inl (cI, 120, .inl f_t_ports)), ((a_t 14), .inl (cI, 120, .inl f_t_bends)), ((a_t 15), .inl (cI, 120, .inl f_t_left)), ((a_t 16), .inl (cI, 60, .inl f_t_way))] H := hP.sub (ws' := [(q_t, .inr (7, o_Mo a_t v_t_things v_t_pipes v_t_wide v_t_size v_t_place v_t_number 0 v_t_wish v_t_found)), ((a_t 1), .inl (cI, 40, .inl f_t_kinds)), ((a_t 6), .inl (cI, 40, .inl f_t_positions)), ((a_t 8), .inl (cI, 160, .inl f_t_ends)), ((a_t 12), .inl (cI, 120, .inl f_t_at)), ((a_t 13), .inl (cI, 120, .inl f_t_ports)), ((a_t 14), .inl (cI, 120, .inl f_t_bends)), ((a_t 15), .inl (cI, 120, .inl f_t_left)), ((a_t 16), .inl (cI, 60, .inl f_t_way))]) [7, 8, 0, 1, 2, 3, 4, 5, 6] rfl
  have hD : va_D A [(q_t, .inr (7, o_Mo a_t v_t_things v_t_pipes v_t_wide v_t_size v_t_place v_t_number 0 v_t_wish v_t_found)), ((a_t 1), .inl (cI, 40, .inl f_t_kinds)), ((a_t 6), .inl (cI, 40, .inl f_t_positions)), ((a_t 8), .inl (cI, 160, .inl f_t_ends)), ((a_t 12), .inl (cI, 120, .inl f_t_at)), ((a_t 13), .inl (cI, 120, .inl f_t_ports)), ((a_t 14), .inl (cI, 120, .inl f_t_bends)), ((a_t 15), .inl (cI, 120, .inl f_t_left)), ((a_t 16), .inl (cI, 60, .inl f_t_way))] := hD.sub (ws' := [(q_t, .inr (7, o_Mo a_t v_t_things v_t_pipes v_t_wide v_t_size v_t_place v_t_number 0 v_t_wish v_t_found)), ((a_t 1), .inl (cI, 40, .inl f_t_kinds)), ((a_t 6), .inl (cI, 40, .inl f_t_positions)), ((a_t 8), .inl (cI, 160, .inl f_t_ends)), ((a_t 12), .inl (cI, 120, .inl f_t_at)), ((a_t 13), .inl (cI, 120, .inl f_t_ports)), ((a_t 14), .inl (cI, 120, .inl f_t_bends)), ((a_t 15), .inl (cI, 120, .inl f_t_left)), ((a_t 16), .inl (cI, 60, .inl f_t_way))]) [7, 8, 0, 1, 2, 3, 4, 5, 6] (by decide) rfl
  refine lv_if_ne (tgt := 15) hx hb d_Mo_joined_10 (by decide) (fun c10 => ?_) (fun c10 => ?_)
  · replace hw := hw.1 c10
    refine lv_iload_n hx hb d_Mo_joined_15 rfl (lv_at hl 2 rfl) ?_
    refine lv_istore_n (lv' := [(3, .int x2), (0, .ref q_t), (1, .int x1), (2, .int x2)]) hx hb d_Mo_joined_16 rfl hl (by decide) rfl (fun ls hl => ?_)
    refine lv_iconst (v := 0) hx hb d_Mo_joined_17 (by decide) ?_
    refine lv_istore (lv' := [(4, .int 0), (3, .int x2), (0, .ref q_t), (1, .int x1), (2, .int x2)]) hx hb d_Mo_joined_18 hl (by decide) rfl (fun ls hl => ?_)
    obtain ⟨n_20, hw⟩ := hw
    have EX_63 : ∀ (x3_L20 : Int32) (x4_L20 : Int32) (v_t_wide_L20 : Int32) (f_t_left_L20 : (Nat → Int32)) (f_t_way_L20 : (Nat → Int32)) (H : Heap) (locs : List Loc) (ls : Array Slot), va_P (dC, dI) classes [(q_t, .inr (7, o_Mo a_t v_t_things v_t_pipes v_t_wide_L20 v_t_size v_t_place v_t_number 0 v_t_wish v_t_found)), ((a_t 1), .inl (cI, 40, .inl f_t_kinds)), ((a_t 6), .inl (cI, 40, .inl f_t_positions)), ((a_t 8), .inl (cI, 160, .inl f_t_ends)), ((a_t 12), .inl (cI, 120, .inl f_t_at)), ((a_t 13), .inl (cI, 120, .inl f_t_ports)), ((a_t 14), .inl (cI, 120, .inl f_t_bends)), ((a_t 15), .inl (cI, 120, .inl f_t_left_L20)), ((a_t 16), .inl (cI, 60, .inl f_t_way_L20))] H → va_D A [(q_t, .inr (7, o_Mo a_t v_t_things v_t_pipes v_t_wide_L20 v_t_size v_t_place v_t_number 0 v_t_wish v_t_found)), ((a_t 1), .inl (cI, 40, .inl f_t_kinds)), ((a_t 6), .inl (cI, 40, .inl f_t_positions)), ((a_t 8), .inl (cI, 160, .inl f_t_ends)), ((a_t 12), .inl (cI, 120, .inl f_t_at)), ((a_t 13), .inl (cI, 120, .inl f_t_ports)), ((a_t 14), .inl (cI, 120, .inl f_t_bends)), ((a_t 15), .inl (cI, 120, .inl f_t_left_L20)), ((a_t 16), .inl (cI, 60, .inl f_t_way_L20))] → va_S A s.heap H locs → lv_has ls 5 [(0, .ref q_t), (1, .int x1), (3, .int x3_L20), (4, .int x4_L20)] → wk_Mo_joined_63_20 P x3_L20 x4_L20 v_t_wide_L20 f_t_left_L20 f_t_way_L20 → W p l e (headSpec w_Mo_joined rm_Mo_joined).room s m args below meth c H locs 0 0 (MQ below (Q_Mo_joined dC dI cI cL cB q_t a_t v_t_things v_t_pipes v_t_wide v_t_size v_t_place v_t_number v_t_thrown v_t_wish v_t_found f_t_kinds f_t_positions f_t_ends f_t_at f_t_ports f_t_bends f_t_left f_t_way x1 x2 P A) args s 0 0 A) (F0 m 63 ls []) := by
      intro x3_L20 x4_L20 v_t_wide_L20 f_t_left_L20 f_t_way_L20 H locs ls hP hD hS hl hw
      unfold wk_Mo_joined_63_20 at hw
      refine lv_iload hx hb d_Mo_joined_63 (lv_at hl 3 rfl) ?_
      exact W.iret (v := x4_L20) hx hb hr (fun t ht hW => ⟨⟨x4_L20, (v_t_wide_L20, 0, f_t_left_L20, f_t_way_L20), rfl, hw, by rw [ht]; exact hP, va_K.moved hW.alike hK, hD⟩, hS.F ht⟩) hS.2.2 d_Mo_joined_65
    have EX_75 : ∀ (x3_L20 : Int32) (x4_L20 : Int32) (v_t_wide_L20 : Int32) (f_t_left_L20 : (Nat → Int32)) (f_t_way_L20 : (Nat → Int32)) (H : Heap) (locs : List Loc) (ls : Array Slot), va_P (dC, dI) classes [(q_t, .inr (7, o_Mo a_t v_t_things v_t_pipes v_t_wide_L20 v_t_size v_t_place v_t_number 0 v_t_wish v_t_found)), ((a_t 1), .inl (cI, 40, .inl f_t_kinds)), ((a_t 6), .inl (cI, 40, .inl f_t_positions)), ((a_t 8), .inl (cI, 160, .inl f_t_ends)), ((a_t 12), .inl (cI, 120, .inl f_t_at)), ((a_t 13), .inl (cI, 120, .inl f_t_ports)), ((a_t 14), .inl (cI, 120, .inl f_t_bends)), ((a_t 15), .inl (cI, 120, .inl f_t_left_L20)), ((a_t 16), .inl (cI, 60, .inl f_t_way_L20))] H → va_D A [(q_t, .inr (7, o_Mo a_t v_t_things v_t_pipes v_t_wide_L20 v_t_size v_t_place v_t_number 0 v_t_wish v_t_found)), ((a_t 1), .inl (cI, 40, .inl f_t_kinds)), ((a_t 6), .inl (cI, 40, .inl f_t_positions)), ((a_t 8), .inl (cI, 160, .inl f_t_ends)), ((a_t 12), .inl (cI, 120, .inl f_t_at)), ((a_t 13), .inl (cI, 120, .inl f_t_ports)), ((a_t 14), .inl (cI, 120, .inl f_t_bends)), ((a_t 15), .inl (cI, 120, .inl f_t_left_L20)), ((a_t 16), .inl (cI, 60, .inl f_t_way_L20))] → va_S A s.heap H locs → lv_has ls 5 [(0, .ref q_t), (1, .int x1), (3, .int x3_L20), (4, .int x4_L20)] → wk_Mo_joined_75_20 P x3_L20 x4_L20 v_t_wide_L20 f_t_left_L20 f_t_way_L20 → W p l e (headSpec w_Mo_joined rm_Mo_joined).room s m args below meth c H locs 0 0 (MQ below (Q_Mo_joined dC dI cI cL cB q_t a_t v_t_things v_t_pipes v_t_wide v_t_size v_t_place v_t_number v_t_thrown v_t_wish v_t_found f_t_kinds f_t_positions f_t_ends f_t_at f_t_ports f_t_bends f_t_left f_t_way x1 x2 P A) args s 0 0 A) (F0 m 75 ls []) := by
      intro x3_L20 x4_L20 v_t_wide_L20 f_t_left_L20 f_t_way_L20 H locs ls hP hD hS hl hw
      unfold wk_Mo_joined_75_20 at hw
      refine lv_iconst (v := (-1)) hx hb d_Mo_joined_75 (by decide) ?_
      exact W.iret (v := (-1)) hx hb hr (fun t ht hW => ⟨⟨(-1), (v_t_wide_L20, 0, f_t_left_L20, f_t_way_L20), rfl, hw, by rw [ht]; exact hP, va_K.moved hW.alike hK, hD⟩, hS.F ht⟩) hS.2.2 d_Mo_joined_76
    have LP_20 : ∀ (k_20 : Nat) (x3_L20 : Int32) (x4_L20 : Int32) (v_t_wide_L20 : Int32) (f_t_left_L20 : (Nat → Int32)) (f_t_way_L20 : (Nat → Int32)) (H : Heap) (locs : List Loc) (ls : Array Slot), va_P (dC, dI) classes [(q_t, .inr (7, o_Mo a_t v_t_things v_t_pipes v_t_wide_L20 v_t_size v_t_place v_t_number 0 v_t_wish v_t_found)), ((a_t 1), .inl (cI, 40, .inl f_t_kinds)), ((a_t 6), .inl (cI, 40, .inl f_t_positions)), ((a_t 8), .inl (cI, 160, .inl f_t_ends)), ((a_t 12), .inl (cI, 120, .inl f_t_at)), ((a_t 13), .inl (cI, 120, .inl f_t_ports)), ((a_t 14), .inl (cI, 120, .inl f_t_bends)), ((a_t 15), .inl (cI, 120, .inl f_t_left_L20)), ((a_t 16), .inl (cI, 60, .inl f_t_way_L20))] H → va_D A [(q_t, .inr (7, o_Mo a_t v_t_things v_t_pipes v_t_wide_L20 v_t_size v_t_place v_t_number 0 v_t_wish v_t_found)), ((a_t 1), .inl (cI, 40, .inl f_t_kinds)), ((a_t 6), .inl (cI, 40, .inl f_t_positions)), ((a_t 8), .inl (cI, 160, .inl f_t_ends)), ((a_t 12), .inl (cI, 120, .inl f_t_at)), ((a_t 13), .inl (cI, 120, .inl f_t_ports)), ((a_t 14), .inl (cI, 120, .inl f_t_bends)), ((a_t 15), .inl (cI, 120, .inl f_t_left_L20)), ((a_t 16), .inl (cI, 60, .inl f_t_way_L20))] → va_S A s.heap H locs → lv_has ls 5 [(0, .ref q_t), (1, .int x1), (3, .int x3_L20), (4, .int x4_L20)] → wl_Mo_joined_20 v_t_things x1 f_t_kinds v_t_pipes f_t_positions f_t_ends f_t_at f_t_ports f_t_bends (wk_Mo_joined_63_20 P) (wk_Mo_joined_75_20 P) k_20 x3_L20 x4_L20 v_t_wide_L20 f_t_left_L20 f_t_way_L20 → W p l e (headSpec w_Mo_joined rm_Mo_joined).room s m args below meth c H locs 0 0 (MQ below (Q_Mo_joined dC dI cI cL cB q_t a_t v_t_things v_t_pipes v_t_wide v_t_size v_t_place v_t_number v_t_thrown v_t_wish v_t_found f_t_kinds f_t_positions f_t_ends f_t_at f_t_ports f_t_bends f_t_left f_t_way x1 x2 P A) args s 0 0 A) (F0 m 20 ls []) := by
      intro k_20
      induction k_20 with
      | zero => intro x3_L20 x4_L20 v_t_wide_L20 f_t_left_L20 f_t_way_L20 H locs ls hP hD hS hl hw; unfold wl_Mo_joined_20 at hw; exact hw.elim
      | succ k_20 ih_20 =>
        intro x3_L20 x4_L20 v_t_wide_L20 f_t_left_L20 f_t_way_L20 H locs ls hP hD hS hl hw
        unfold wl_Mo_joined_20 at hw
        refine lv_iload hx hb d_Mo_joined_20 (lv_at hl 3 rfl) ?_
        refine lv_aload_n hx hb d_Mo_joined_22 rfl (lv_at hl 0 rfl) ?_
        refine va_get (D := (dC, dI)) (ci := 7) (v := .int v_t_things) (C := R_Mo) (T := F_Mo) (N := 29) hx hb hts i_Mo hown hK hP 0 rfl rfl 0 (by decide) (hts (Cond.fieldLink R_Mo 76 "PlantGraphModel" "things" "I") kw32_063c233) (fun _ h9 => h9) rfl d_Mo_joined_23 ?_
        refine lv_icmp_ge (tgt := 75) hx hb d_Mo_joined_26 (by decide) (fun c26 => ?_) (fun c26 => ?_)
        · replace hw := hw.1 c26
          exact EX_75 x3_L20 x4_L20 v_t_wide_L20 f_t_left_L20 f_t_way_L20 H _ _ hP hD hS (lv_sub hl [0, 1, 2, 3] rfl) hw
        · replace hw := hw.2 c26
          refine lv_iload_n hx hb d_Mo_joined_29 rfl (lv_at hl 2 rfl) ?_
          refine lv_if_lt (tgt := 75) hx hb d_Mo_joined_30 (by decide) (fun c30 => ?_) (fun c30 => ?_)
          · replace hw := hw.1 c30
            exact EX_75 x3_L20 x4_L20 v_t_wide_L20 f_t_left_L20 f_t_way_L20 H _ _ hP hD hS (lv_sub hl [0, 1, 2, 3] rfl) hw
          · replace hw := hw.2 c30
            refine lv_iload hx hb d_Mo_joined_33 (lv_at hl 3 rfl) ?_
            refine lv_iload_n hx hb d_Mo_joined_35 rfl (lv_at hl 1 rfl) ?_
            refine lv_icmp_eq (tgt := 69) hx hb d_Mo_joined_36 (by decide) (fun c36 => ?_) (fun c36 => ?_)
            · replace hw := hw.1 c36
              refine lv_iinc (v := (x4_L20 + 1)) (lv' := [(4, .int (x4_L20 + 1)), (0, .ref q_t), (1, .int x1), (3, .int x3_L20)]) hx hb d_Mo_joined_69 hl (k := 3) rfl rfl (by decide) rfl (fun ls hl => ?_)
              refine lv_goto (tgt := 20) hx hb d_Mo_joined_72 (by decide) ?_
              exact ih_20 x3_L20 (x4_L20 + 1) v_t_wide_L20 f_t_left_L20 f_t_way_L20 H _ _ hP hD hS (lv_sub hl [1, 2, 3, 0] rfl) hw
            · replace hw := hw.2 c36
              refine lv_aload_n hx hb d_Mo_joined_39 rfl (lv_at hl 0 rfl) ?_
              refine va_get (D := (dC, dI)) (ci := 7) (v := .ref (a_t 1)) (C := R_Mo) (T := F_Mo) (N := 29) hx hb hts i_Mo hown hK hP 0 rfl rfl 1 (by decide) (hts (Cond.fieldLink R_Mo 9 "PlantGraphModel" "kinds" "[I") kw32_cf02404) (fun _ h9 => h9) rfl d_Mo_joined_40 ?_
              refine lv_iload hx hb d_Mo_joined_43 (lv_at hl 3 rfl) ?_
              refine va_iald hx hb hK hP 1 0 rfl rfl hw.1 d_Mo_joined_45 ?_
              replace hw := hw.2
              refine lv_if_ne (tgt := 69) hx hb d_Mo_joined_46 (by decide) (fun c46 => ?_) (fun c46 => ?_)
              · replace hw := hw.1 c46
                refine lv_iinc (v := (x4_L20 + 1)) (lv' := [(4, .int (x4_L20 + 1)), (0, .ref q_t), (1, .int x1), (3, .int x3_L20)]) hx hb d_Mo_joined_69 hl (k := 3) rfl rfl (by decide) rfl (fun ls hl => ?_)
                refine lv_goto (tgt := 20) hx hb d_Mo_joined_72 (by decide) ?_
                exact ih_20 x3_L20 (x4_L20 + 1) v_t_wide_L20 f_t_left_L20 f_t_way_L20 H _ _ hP hD hS (lv_sub hl [1, 2, 3, 0] rfl) hw
              · replace hw := hw.2 c46
                refine lv_aload_n hx hb d_Mo_joined_49 rfl (lv_at hl 0 rfl) ?_
                refine lv_iload_n hx hb d_Mo_joined_50 rfl (lv_at hl 1 rfl) ?_
                refine lv_iload hx hb d_Mo_joined_51 (lv_at hl 3 rfl) ?_
                have hPc := hP.sub (ws' := [(q_t, .inr (7, o_Mo a_t v_t_things v_t_pipes v_t_wide_L20 v_t_size v_t_place v_t_number 0 v_t_wish v_t_found)), ((a_t 1), .inl (cI, 40, .inl f_t_kinds)), ((a_t 6), .inl (cI, 40, .inl f_t_positions)), ((a_t 8), .inl (cI, 160, .inl f_t_ends)), ((a_t 12), .inl (cI, 120, .inl f_t_at)), ((a_t 13), .inl (cI, 120, .inl f_t_ports)), ((a_t 14), .inl (cI, 120, .inl f_t_bends)), ((a_t 15), .inl (cI, 120, .inl f_t_left_L20)), ((a_t 16), .inl (cI, 60, .inl f_t_way_L20))]) [0, 1, 2, 3, 4, 5, 6, 7, 8] rfl
                have hDc := hD.sub (ws' := [(q_t, .inr (7, o_Mo a_t v_t_things v_t_pipes v_t_wide_L20 v_t_size v_t_place v_t_number 0 v_t_wish v_t_found)), ((a_t 1), .inl (cI, 40, .inl f_t_kinds)), ((a_t 6), .inl (cI, 40, .inl f_t_positions)), ((a_t 8), .inl (cI, 160, .inl f_t_ends)), ((a_t 12), .inl (cI, 120, .inl f_t_at)), ((a_t 13), .inl (cI, 120, .inl f_t_ports)), ((a_t 14), .inl (cI, 120, .inl f_t_bends)), ((a_t 15), .inl (cI, 120, .inl f_t_left_L20)), ((a_t 16), .inl (cI, 60, .inl f_t_way_L20))]) [0, 1, 2, 3, 4, 5, 6, 7, 8] (by decide) rfl
                have hFc := va_free (wc := [(q_t, .inr (7, o_Mo a_t v_t_things v_t_pipes v_t_wide_L20 v_t_size v_t_place v_t_number 0 v_t_wish v_t_found)), ((a_t 1), .inl (cI, 40, .inl f_t_kinds)), ((a_t 6), .inl (cI, 40, .inl f_t_positions)), ((a_t 8), .inl (cI, 160, .inl f_t_ends)), ((a_t 12), .inl (cI, 120, .inl f_t_at)), ((a_t 13), .inl (cI, 120, .inl f_t_ports)), ((a_t 14), .inl (cI, 120, .inl f_t_bends)), ((a_t 15), .inl (cI, 120, .inl f_t_left_L20)), ((a_t 16), .inl (cI, 60, .inl f_t_way_L20))]) hD hS hA [0, 1, 2, 3, 4, 5, 6, 7, 8] rfl
                refine va_calli (va_runV (As := [.int x1, .int x4_L20]) (rest := []) ⟨hx, hb, hml, hown, hts⟩ (c_Mo_find l dC dI cI cL cB q_t a_t H.size v_t_things v_t_pipes v_t_wide_L20 v_t_size v_t_place v_t_number 0 v_t_wish v_t_found f_t_kinds f_t_positions f_t_ends f_t_at f_t_ports f_t_bends f_t_left_L20 f_t_way_L20 x1 x4_L20 _ hw) (my_cwV 2 hts kw32_b63ebdf kw32_53fad68 kw32_250de68 kw32_7a5931c kw32_282a8c8 rfl rfl (by decide +kernel) ⟨Nat.le_of_ble_eq_true rfl, Nat.le_of_ble_eq_true rfl⟩) ⟨fun a U g mk q => by obtain ⟨q0, q1, qP, qK, qD⟩ := q; exact ⟨q0, q1, qP, va_K.moved (u := U) (U := U.calling g mk a) (Vm.Alike.refl U.vm) qK, qD⟩, va_recv hK hP (ci := 7) (q0 := 0) rfl rfl, fun U hU hW => ⟨rfl, by rw [hU], by rw [hU]; exact hPc, va_K.moved hW.alike hK, hDc.weaken (fun _ _ _ _ => trivial)⟩⟩ rfl rfl hl.1 rfl (lv_room (Nat.le_of_ble_eq_true rfl)) d_Mo_joined_53 ⟨Nat.zero_le _, Nat.zero_le _⟩) hS (fun q _ h => hFc q h) hFc (fun r53 u t H locs ht hvm hw hB hz1 hk1 hS => ?_)
                obtain ⟨v_t_wide_c53, f_t_left_c53, f_t_way_c53⟩ := u
                obtain ⟨hP1, hK1, hD1⟩ := hB
                rw [ht] at hP1
                obtain ⟨hP, hD⟩ := va_join (wr := []) (w1 := [(q_t, .inr (7, o_Mo a_t v_t_things v_t_pipes v_t_wide_c53 v_t_size v_t_place v_t_number 0 v_t_wish v_t_found)), ((a_t 1), .inl (cI, 40, .inl f_t_kinds)), ((a_t 6), .inl (cI, 40, .inl f_t_positions)), ((a_t 8), .inl (cI, 160, .inl f_t_ends)), ((a_t 12), .inl (cI, 120, .inl f_t_at)), ((a_t 13), .inl (cI, 120, .inl f_t_ports)), ((a_t 14), .inl (cI, 120, .inl f_t_bends)), ((a_t 15), .inl (cI, 120, .inl f_t_left_c53)), ((a_t 16), .inl (cI, 60, .inl f_t_way_c53))]) hP hD [0, 1, 2, 3, 4, 5, 6, 7, 8] [] rfl rfl (by decide) (by decide) hk1 hFc hP1 hD1
                have hP : va_P (dC, dI) classes [(q_t, .inr (7, o_Mo a_t v_t_things v_t_pipes v_t_wide_c53 v_t_size v_t_place v_t_number 0 v_t_wish v_t_found)), ((a_t 1), .inl (cI, 40, .inl f_t_kinds)), ((a_t 6), .inl (cI, 40, .inl f_t_positions)), ((a_t 8), .inl (cI, 160, .inl f_t_ends)), ((a_t 12), .inl (cI, 120, .inl f_t_at)), ((a_t 13), .inl (cI, 120, .inl f_t_ports)), ((a_t 14), .inl (cI, 120, .inl f_t_bends)), ((a_t 15), .inl (cI, 120, .inl f_t_left_c53)), ((a_t 16), .inl (cI, 60, .inl f_t_way_c53))] H := hP.sub (ws' := [(q_t, .inr (7, o_Mo a_t v_t_things v_t_pipes v_t_wide_c53 v_t_size v_t_place v_t_number 0 v_t_wish v_t_found)), ((a_t 1), .inl (cI, 40, .inl f_t_kinds)), ((a_t 6), .inl (cI, 40, .inl f_t_positions)), ((a_t 8), .inl (cI, 160, .inl f_t_ends)), ((a_t 12), .inl (cI, 120, .inl f_t_at)), ((a_t 13), .inl (cI, 120, .inl f_t_ports)), ((a_t 14), .inl (cI, 120, .inl f_t_bends)), ((a_t 15), .inl (cI, 120, .inl f_t_left_c53)), ((a_t 16), .inl (cI, 60, .inl f_t_way_c53))]) [0, 1, 2, 3, 4, 5, 6, 7, 8] rfl
                have hD : va_D A [(q_t, .inr (7, o_Mo a_t v_t_things v_t_pipes v_t_wide_c53 v_t_size v_t_place v_t_number 0 v_t_wish v_t_found)), ((a_t 1), .inl (cI, 40, .inl f_t_kinds)), ((a_t 6), .inl (cI, 40, .inl f_t_positions)), ((a_t 8), .inl (cI, 160, .inl f_t_ends)), ((a_t 12), .inl (cI, 120, .inl f_t_at)), ((a_t 13), .inl (cI, 120, .inl f_t_ports)), ((a_t 14), .inl (cI, 120, .inl f_t_bends)), ((a_t 15), .inl (cI, 120, .inl f_t_left_c53)), ((a_t 16), .inl (cI, 60, .inl f_t_way_c53))] := hD.sub (ws' := [(q_t, .inr (7, o_Mo a_t v_t_things v_t_pipes v_t_wide_c53 v_t_size v_t_place v_t_number 0 v_t_wish v_t_found)), ((a_t 1), .inl (cI, 40, .inl f_t_kinds)), ((a_t 6), .inl (cI, 40, .inl f_t_positions)), ((a_t 8), .inl (cI, 160, .inl f_t_ends)), ((a_t 12), .inl (cI, 120, .inl f_t_at)), ((a_t 13), .inl (cI, 120, .inl f_t_ports)), ((a_t 14), .inl (cI, 120, .inl f_t_bends)), ((a_t 15), .inl (cI, 120, .inl f_t_left_c53)), ((a_t 16), .inl (cI, 60, .inl f_t_way_c53))]) [0, 1, 2, 3, 4, 5, 6, 7, 8] (by decide) rfl
                refine lv_if_eq (tgt := 69) hx hb d_Mo_joined_56 (by decide) (fun c56 => ?_) (fun c56 => ?_)
                · replace hw := hw.1 c56
                  refine lv_iinc (v := (x4_L20 + 1)) (lv' := [(4, .int (x4_L20 + 1)), (0, .ref q_t), (1, .int x1), (3, .int x3_L20)]) hx hb d_Mo_joined_69 hl (k := 3) rfl rfl (by decide) rfl (fun ls hl => ?_)
                  refine lv_goto (tgt := 20) hx hb d_Mo_joined_72 (by decide) ?_
                  exact ih_20 x3_L20 (x4_L20 + 1) v_t_wide_c53 f_t_left_c53 f_t_way_c53 H _ _ hP hD hS (lv_sub hl [1, 2, 3, 0] rfl) hw
                · replace hw := hw.2 c56
                  refine lv_iload_n hx hb d_Mo_joined_59 rfl (lv_at hl 2 rfl) ?_
                  refine lv_if_ne (tgt := 66) hx hb d_Mo_joined_60 (by decide) (fun c60 => ?_) (fun c60 => ?_)
                  · replace hw := hw.1 c60
                    refine lv_iinc (v := (x3_L20 + (-1))) (lv' := [(3, .int (x3_L20 + (-1))), (0, .ref q_t), (1, .int x1), (4, .int x4_L20)]) hx hb d_Mo_joined_66 hl (k := 2) rfl rfl (by decide) rfl (fun ls hl => ?_)
                    refine lv_iinc (v := (x4_L20 + 1)) (lv' := [(4, .int (x4_L20 + 1)), (3, .int (x3_L20 + (-1))), (0, .ref q_t), (1, .int x1)]) hx hb d_Mo_joined_69 hl (k := 3) rfl rfl (by decide) rfl (fun ls hl => ?_)
                    refine lv_goto (tgt := 20) hx hb d_Mo_joined_72 (by decide) ?_
                    exact ih_20 (x3_L20 + (-1)) (x4_L20 + 1) v_t_wide_c53 f_t_left_c53 f_t_way_c53 H _ _ hP hD hS (lv_sub hl [2, 3, 1, 0] rfl) hw
                  · replace hw := hw.2 c60
                    exact EX_63 x3_L20 x4_L20 v_t_wide_c53 f_t_left_c53 f_t_way_c53 H _ _ hP hD hS (lv_sub hl [0, 1, 2, 3] rfl) hw
    exact LP_20 n_20 x2 0 v_t_wide f_t_left f_t_way H _ _ hP hD hS (lv_sub hl [2, 3, 1, 0] rfl) hw
  · replace hw := hw.2 c10
    refine lv_iconst (v := (-1)) hx hb d_Mo_joined_13 (by decide) ?_
    exact W.iret (v := (-1)) hx hb hr (fun t ht hW => ⟨⟨(-1), (v_t_wide, 0, f_t_left, f_t_way), rfl, hw, by rw [ht]; exact hP, va_K.moved hW.alike hK, hD⟩, hS.F ht⟩) hS.2.2 d_Mo_joined_14
def wp_Mo_unit (v_t_size : Int32) (v_t_thrown : Int32) (f_t_text : (Nat → Int32)) (x1 : Int32) (P : Int32 → Int32 → Int32 → (Nat → Int32) → Prop) : Prop := ((x1 < (1 : Int32) → P 0 v_t_size 0 f_t_text) ∧ (¬ x1 < (1 : Int32) → (((127 : Int32) < x1 → P 0 v_t_size 0 f_t_text) ∧ (¬ (127 : Int32) < x1 → ((¬ v_t_size = (2000 : Int32) → (vp_in v_t_size 2000 ∧ P 1 (v_t_size + 1) 0 (upd f_t_text v_t_size.toNatClampNeg (vp_nar .byte ((x1 : Int32).toInt8.toInt32))))) ∧ (v_t_size = (2000 : Int32) → P 0 v_t_size 0 f_t_text))))))
def w_Mo_unit : List Cond := .code y_Mo_unit b_Mo_unit 2 (some .boolean) :: tb
abbrev rm_Mo_unit : Room := { frames := 0, cells := 0, slots := 0, locals := 0 }
abbrev Q_Mo_unit (dC : Nat → ClassId) (dI : Nat → Nat → Nat) (cI cL cB : ClassId) (q_t : Nat) (a_t : Nat → Nat) (v_t_things : Int32) (v_t_pipes : Int32) (v_t_wide : Int32) (v_t_size : Int32) (v_t_place : Int32) (v_t_number : Int64) (v_t_thrown : Int32) (v_t_wish : Int32) (v_t_found : Int32) (f_t_text : (Nat → Int32)) (x1 : Int32) (P : Int32 → Int32 → Int32 → (Nat → Int32) → Prop) (A : Nat → Prop) : Array Value → State → Outcome → State → Prop := va_Qi (fun (r : Int32) (u : Int32 × Int32 × (Nat → Int32)) => P r u.1 u.2.1 u.2.2) (fun u t => va_P (dC, dI) classes [(q_t, .inr (7, o_Mo a_t v_t_things v_t_pipes v_t_wide u.1 v_t_place v_t_number u.2.1 v_t_wish v_t_found)), ((a_t 19), .inl (cB, 2000, .inl u.2.2))] t.heap ∧ va_K (dC, dI) classes [(cI, .int), (cL, .long), (cB, .byte)] t ∧ va_D A [(q_t, .inr (7, o_Mo a_t v_t_things v_t_pipes v_t_wide u.1 v_t_place v_t_number u.2.1 v_t_wish v_t_found)), ((a_t 19), .inl (cB, 2000, .inl u.2.2))]) A
set_option maxHeartbeats 4000000 in
set_option maxRecDepth 100000 in
theorem c_Mo_unit (l : Launch) (dC : Nat → ClassId) (dI : Nat → Nat → Nat) (cI cL cB : ClassId) (q_t : Nat) (a_t : Nat → Nat) (sz : Nat) (v_t_things : Int32) (v_t_pipes : Int32) (v_t_wide : Int32) (v_t_size : Int32) (v_t_place : Int32) (v_t_number : Int64) (v_t_thrown : Int32) (v_t_wish : Int32) (v_t_found : Int32) (f_t_text : (Nat → Int32)) (x1 : Int32) (P : Int32 → Int32 → Int32 → (Nat → Int32) → Prop) (hw : wp_Mo_unit v_t_size v_t_thrown f_t_text x1 P) : Met l y_Mo_unit w_Mo_unit rm_Mo_unit (va_Pc [.ref q_t, .int x1] (fun U => U.heap.size = sz ∧ va_P (dC, dI) classes [(q_t, .inr (7, o_Mo a_t v_t_things v_t_pipes v_t_wide v_t_size v_t_place v_t_number v_t_thrown v_t_wish v_t_found)), ((a_t 19), .inl (cB, 2000, .inl f_t_text))] U.heap ∧ va_K (dC, dI) classes [(cI, .int), (cL, .long), (cB, .byte)] U ∧ va_D (fun _ => True) [(q_t, .inr (7, o_Mo a_t v_t_things v_t_pipes v_t_wide v_t_size v_t_place v_t_number v_t_thrown v_t_wish v_t_found)), ((a_t 19), .inl (cB, 2000, .inl f_t_text))])) (Q_Mo_unit dC dI cI cL cB q_t a_t v_t_things v_t_pipes v_t_wide v_t_size v_t_place v_t_number v_t_thrown v_t_wish v_t_found f_t_text x1 P (va_A [(q_t, .inr (7, o_Mo a_t v_t_things v_t_pipes v_t_wide v_t_size v_t_place v_t_number v_t_thrown v_t_wish v_t_found)), ((a_t 19), .inl (cB, 2000, .inl f_t_text))] sz)) 0 0 (va_A [(q_t, .inr (7, o_Mo a_t v_t_things v_t_pipes v_t_wide v_t_size v_t_place v_t_number v_t_thrown v_t_wish v_t_found)), ((a_t 19), .inl (cB, 2000, .inl f_t_text))] sz) := by
  refine Met.ofW (cc := b_Mo_unit) (maxL := 2) (ret := (some .boolean)) (by decide) rfl ?_
  intro p e s m args below meth c s₁ B hml hv
  obtain ⟨ha, hsz, hP, hK, hD0⟩ := hv
  have hx := B.exec
  have hb := B.bytes
  have hr := B.returns
  have hts0 := atoms_spec (ws := w_Mo_unit) B.pre
  have hts : ∀ w ∈ tb, w.before args s = true := fun w h => hts0 w (List.mem_cons_of_mem _ h)
  have hown : s.vm.findClass R_Mo = some m.cls := findClass_of_methodNamed B.named
  have hlocks := B.notSynchronized
  subst hsz
  have hD := hD0.self (sz := s.heap.size)
  generalize hAe : va_A [(q_t, .inr (7, o_Mo a_t v_t_things v_t_pipes v_t_wide v_t_size v_t_place v_t_number v_t_thrown v_t_wish v_t_found)), ((a_t 19), .inl (cB, 2000, .inl f_t_text))] s.heap.size = A at hD ⊢
  have hA : ∀ q : Nat, s.heap.size ≤ q → A q := fun q h => by rw [← hAe]; exact Or.inr h
  have hS : va_S A s.heap s.heap [] := va_S.rf
  have hP : va_P (dC, dI) classes [(q_t, .inr (7, o_Mo a_t v_t_things v_t_pipes v_t_wide v_t_size v_t_place v_t_number v_t_thrown v_t_wish v_t_found)), ((a_t 19), .inl (cB, 2000, .inl f_t_text))] s.heap := hP
  have hl := lv_entry [.ref q_t, .int x1] (n := 2) (Nat.le_of_ble_eq_true rfl)
  have he9 : entryFrame m args 2 = F0 m 0 ((lg_sl [.ref q_t, .int x1] ++ List.replicate (2 - (lg_sl [.ref q_t, .int x1]).length) Slot.unset).toArray) [] := by rw [ha]; exact lg_entry_eq _ _ _
  rw [he9]
  clear he9
  generalize (lg_sl [.ref q_t, .int x1] ++ List.replicate (2 - (lg_sl [.ref q_t, .int x1]).length) Slot.unset).toArray = ls at hl ⊢
  have hl : lv_has ls 2 [(0, .ref q_t), (1, .int x1)] := hl
  unfold wp_Mo_unit at hw
  refine lv_aload_n hx hb d_Mo_unit_0 rfl (lv_at hl 0 rfl) ?_
  refine lv_iconst (v := 0) hx hb d_Mo_unit_1 (by decide) ?_
  refine va_put (D := (dC, dI)) (ci := 7) (v := .int 0) (ty := .int) (C := R_Mo) (T := F_Mo) (N := 29) hx hb hts i_Mo t_Mo t_Mo_ok n_Mo hown hK hP hD hS 0 rfl rfl 26 (by decide) (hts (Cond.fieldLink R_Mo 72 "PlantGraphModel" "thrown" "I") kw32_6501a0b) (fun _ h9 => h9) rfl (by decide +kernel) rfl rfl (Nat.le_of_ble_eq_true rfl) d_Mo_unit_2 (fun H locs hP hD hS => ?_)
  have hP : va_P (dC, dI) classes [(q_t, .inr (7, o_Mo a_t v_t_things v_t_pipes v_t_wide v_t_size v_t_place v_t_number 0 v_t_wish v_t_found)), ((a_t 19), .inl (cB, 2000, .inl f_t_text))] H := hP
  have hD : va_D A [(q_t, .inr (7, o_Mo a_t v_t_things v_t_pipes v_t_wide v_t_size v_t_place v_t_number 0 v_t_wish v_t_found)), ((a_t 19), .inl (cB, 2000, .inl f_t_text))] := hD
  refine lv_iload_n hx hb d_Mo_unit_5 rfl (lv_at hl 1 rfl) ?_
  refine lv_iconst (v := 1) hx hb d_Mo_unit_6 (by decide) ?_
  refine lv_icmp_lt (tgt := 26) hx hb d_Mo_unit_7 (by decide) (fun c7 => ?_) (fun c7 => ?_)
  · replace hw := hw.1 c7
    refine lv_iconst (v := 0) hx hb d_Mo_unit_26 (by decide) ?_
    exact W.zret (v := 0) hx hb hr (by decide) (fun t ht hW => ⟨⟨0, (v_t_size, 0, f_t_text), rfl, hw, by rw [ht]; exact hP, va_K.moved hW.alike hK, hD⟩, hS.F ht⟩) hS.2.2 d_Mo_unit_27
  · replace hw := hw.2 c7
    refine lv_iload_n hx hb d_Mo_unit_10 rfl (lv_at hl 1 rfl) ?_
    refine lv_bipush (v := 127) hx hb d_Mo_unit_11 (by decide) ?_
    refine lv_icmp_gt (tgt := 26) hx hb d_Mo_unit_13 (by decide) (fun c13 => ?_) (fun c13 => ?_)
    · replace hw := hw.1 c13
      refine lv_iconst (v := 0) hx hb d_Mo_unit_26 (by decide) ?_
      exact W.zret (v := 0) hx hb hr (by decide) (fun t ht hW => ⟨⟨0, (v_t_size, 0, f_t_text), rfl, hw, by rw [ht]; exact hP, va_K.moved hW.alike hK, hD⟩, hS.F ht⟩) hS.2.2 d_Mo_unit_27
    · replace hw := hw.2 c13
      refine lv_aload_n hx hb d_Mo_unit_16 rfl (lv_at hl 0 rfl) ?_
      refine va_get (D := (dC, dI)) (ci := 7) (v := .int v_t_size) (C := R_Mo) (T := F_Mo) (N := 29) hx hb hts i_Mo hown hK hP 0 rfl rfl 20 (by decide) (hts (Cond.fieldLink R_Mo 143 "PlantGraphModel" "size" "I") kw32_f319621) (fun _ h9 => h9) rfl d_Mo_unit_17 ?_
      refine lv_sipush (v := 2000) hx hb d_Mo_unit_20 (by decide) ?_
      refine lv_icmp_ne (tgt := 28) hx hb d_Mo_unit_23 (by decide) (fun c23 => ?_) (fun c23 => ?_)
      · replace hw := hw.1 c23
        refine lv_aload_n hx hb d_Mo_unit_28 rfl (lv_at hl 0 rfl) ?_
        refine va_get (D := (dC, dI)) (ci := 7) (v := .ref (a_t 19)) (C := R_Mo) (T := F_Mo) (N := 29) hx hb hts i_Mo hown hK hP 0 rfl rfl 19 (by decide) (hts (Cond.fieldLink R_Mo 60 "PlantGraphModel" "text" "[B") kw32_705ee1c) (fun _ h9 => h9) rfl d_Mo_unit_29 ?_
        refine lv_aload_n hx hb d_Mo_unit_32 rfl (lv_at hl 0 rfl) ?_
        refine va_get (D := (dC, dI)) (ci := 7) (v := .int v_t_size) (C := R_Mo) (T := F_Mo) (N := 29) hx hb hts i_Mo hown hK hP 0 rfl rfl 20 (by decide) (hts (Cond.fieldLink R_Mo 143 "PlantGraphModel" "size" "I") kw32_f319621) (fun _ h9 => h9) rfl d_Mo_unit_33 ?_
        refine lv_iload_n hx hb d_Mo_unit_36 rfl (lv_at hl 1 rfl) ?_
        refine lv_i2b hx hb d_Mo_unit_37 rfl ?_
        refine va_bast hx hb hK hP hD hS 1 2 rfl rfl hw.1 d_Mo_unit_38 (fun H locs hP hD hS => ?_)
        replace hw := hw.2
        have hP : va_P (dC, dI) classes [(q_t, .inr (7, o_Mo a_t v_t_things v_t_pipes v_t_wide v_t_size v_t_place v_t_number 0 v_t_wish v_t_found)), ((a_t 19), .inl (cB, 2000, .inl (upd f_t_text v_t_size.toNatClampNeg (vp_nar .byte ((x1 : Int32).toInt8.toInt32)))))] H := hP
        have hD : va_D A [(q_t, .inr (7, o_Mo a_t v_t_things v_t_pipes v_t_wide v_t_size v_t_place v_t_number 0 v_t_wish v_t_found)), ((a_t 19), .inl (cB, 2000, .inl (upd f_t_text v_t_size.toNatClampNeg (vp_nar .byte ((x1 : Int32).toInt8.toInt32)))))] := hD
        refine lv_aload_n hx hb d_Mo_unit_39 rfl (lv_at hl 0 rfl) ?_
        refine lv_dup hx hb d_Mo_unit_40 rfl ?_
        refine va_get (D := (dC, dI)) (ci := 7) (v := .int v_t_size) (C := R_Mo) (T := F_Mo) (N := 29) hx hb hts i_Mo hown hK hP 0 rfl rfl 20 (by decide) (hts (Cond.fieldLink R_Mo 143 "PlantGraphModel" "size" "I") kw32_f319621) (fun _ h9 => h9) rfl d_Mo_unit_41 ?_
        refine lv_iconst (v := 1) hx hb d_Mo_unit_44 (by decide) ?_
        refine lv_iadd hx hb d_Mo_unit_45 ?_
        refine va_put (D := (dC, dI)) (ci := 7) (v := .int (v_t_size + 1)) (ty := .int) (C := R_Mo) (T := F_Mo) (N := 29) hx hb hts i_Mo t_Mo t_Mo_ok n_Mo hown hK hP hD hS 0 rfl rfl 20 (by decide) (hts (Cond.fieldLink R_Mo 143 "PlantGraphModel" "size" "I") kw32_f319621) (fun _ h9 => h9) rfl (by decide +kernel) rfl rfl (Nat.le_of_ble_eq_true rfl) d_Mo_unit_46 (fun H locs hP hD hS => ?_)
        have hP : va_P (dC, dI) classes [(q_t, .inr (7, o_Mo a_t v_t_things v_t_pipes v_t_wide (v_t_size + 1) v_t_place v_t_number 0 v_t_wish v_t_found)), ((a_t 19), .inl (cB, 2000, .inl (upd f_t_text v_t_size.toNatClampNeg (vp_nar .byte ((x1 : Int32).toInt8.toInt32)))))] H := hP
        have hD : va_D A [(q_t, .inr (7, o_Mo a_t v_t_things v_t_pipes v_t_wide (v_t_size + 1) v_t_place v_t_number 0 v_t_wish v_t_found)), ((a_t 19), .inl (cB, 2000, .inl (upd f_t_text v_t_size.toNatClampNeg (vp_nar .byte ((x1 : Int32).toInt8.toInt32)))))] := hD
        refine lv_iconst (v := 1) hx hb d_Mo_unit_49 (by decide) ?_
        exact W.zret (v := 1) hx hb hr (by decide) (fun t ht hW => ⟨⟨1, ((v_t_size + 1), 0, (upd f_t_text v_t_size.toNatClampNeg (vp_nar .byte ((x1 : Int32).toInt8.toInt32)))), rfl, hw, by rw [ht]; exact hP, va_K.moved hW.alike hK, hD⟩, hS.F ht⟩) hS.2.2 d_Mo_unit_50
      · replace hw := hw.2 c23
        refine lv_iconst (v := 0) hx hb d_Mo_unit_26 (by decide) ?_
        exact W.zret (v := 0) hx hb hr (by decide) (fun t ht hW => ⟨⟨0, (v_t_size, 0, f_t_text), rfl, hw, by rw [ht]; exact hP, va_K.moved hW.alike hK, hD⟩, hS.F ht⟩) hS.2.2 d_Mo_unit_27
def wp_Mo_here (v_t_size : Int32) (v_t_place : Int32) (f_t_text : (Nat → Int32)) (P : Int32 → Prop) : Prop := ((v_t_size ≤ v_t_place → P 0) ∧ (¬ v_t_size ≤ v_t_place → (vp_in v_t_place 2000 ∧ P (f_t_text v_t_place.toNatClampNeg))))
def w_Mo_here : List Cond := .code y_Mo_here b_Mo_here 1 (some .int) :: tb
abbrev rm_Mo_here : Room := { frames := 0, cells := 0, slots := 0, locals := 0 }
abbrev Q_Mo_here (dC : Nat → ClassId) (dI : Nat → Nat → Nat) (cI cL cB : ClassId) (q_t : Nat) (a_t : Nat → Nat) (v_t_things : Int32) (v_t_pipes : Int32) (v_t_wide : Int32) (v_t_size : Int32) (v_t_place : Int32) (v_t_number : Int64) (v_t_thrown : Int32) (v_t_wish : Int32) (v_t_found : Int32) (f_t_text : (Nat → Int32)) (P : Int32 → Prop) (A : Nat → Prop) : Array Value → State → Outcome → State → Prop := va_Qi (fun (r : Int32) (u : Unit) => P r) (fun u t => va_P (dC, dI) classes [(q_t, .inr (7, o_Mo a_t v_t_things v_t_pipes v_t_wide v_t_size v_t_place v_t_number v_t_thrown v_t_wish v_t_found)), ((a_t 19), .inl (cB, 2000, .inl f_t_text))] t.heap ∧ va_K (dC, dI) classes [(cI, .int), (cL, .long), (cB, .byte)] t ∧ va_D A [(q_t, .inr (7, o_Mo a_t v_t_things v_t_pipes v_t_wide v_t_size v_t_place v_t_number v_t_thrown v_t_wish v_t_found)), ((a_t 19), .inl (cB, 2000, .inl f_t_text))]) A
set_option maxHeartbeats 4000000 in
set_option maxRecDepth 100000 in
theorem c_Mo_here (l : Launch) (dC : Nat → ClassId) (dI : Nat → Nat → Nat) (cI cL cB : ClassId) (q_t : Nat) (a_t : Nat → Nat) (sz : Nat) (v_t_things : Int32) (v_t_pipes : Int32) (v_t_wide : Int32) (v_t_size : Int32) (v_t_place : Int32) (v_t_number : Int64) (v_t_thrown : Int32) (v_t_wish : Int32) (v_t_found : Int32) (f_t_text : (Nat → Int32)) (P : Int32 → Prop) (hw : wp_Mo_here v_t_size v_t_place f_t_text P) : Met l y_Mo_here w_Mo_here rm_Mo_here (va_Pc [.ref q_t] (fun U => U.heap.size = sz ∧ va_P (dC, dI) classes [(q_t, .inr (7, o_Mo a_t v_t_things v_t_pipes v_t_wide v_t_size v_t_place v_t_number v_t_thrown v_t_wish v_t_found)), ((a_t 19), .inl (cB, 2000, .inl f_t_text))] U.heap ∧ va_K (dC, dI) classes [(cI, .int), (cL, .long), (cB, .byte)] U ∧ va_D (fun _ => True) [(q_t, .inr (7, o_Mo a_t v_t_things v_t_pipes v_t_wide v_t_size v_t_place v_t_number v_t_thrown v_t_wish v_t_found)), ((a_t 19), .inl (cB, 2000, .inl f_t_text))])) (Q_Mo_here dC dI cI cL cB q_t a_t v_t_things v_t_pipes v_t_wide v_t_size v_t_place v_t_number v_t_thrown v_t_wish v_t_found f_t_text P (va_A [(q_t, .inr (7, o_Mo a_t v_t_things v_t_pipes v_t_wide v_t_size v_t_place v_t_number v_t_thrown v_t_wish v_t_found)), ((a_t 19), .inl (cB, 2000, .inl f_t_text))] sz)) 0 0 (va_A [(q_t, .inr (7, o_Mo a_t v_t_things v_t_pipes v_t_wide v_t_size v_t_place v_t_number v_t_thrown v_t_wish v_t_found)), ((a_t 19), .inl (cB, 2000, .inl f_t_text))] sz) := by
  refine Met.ofW (cc := b_Mo_here) (maxL := 1) (ret := (some .int)) (by decide) rfl ?_
  intro p e s m args below meth c s₁ B hml hv
  obtain ⟨ha, hsz, hP, hK, hD0⟩ := hv
  have hx := B.exec
  have hb := B.bytes
  have hr := B.returns
  have hts0 := atoms_spec (ws := w_Mo_here) B.pre
  have hts : ∀ w ∈ tb, w.before args s = true := fun w h => hts0 w (List.mem_cons_of_mem _ h)
  have hown : s.vm.findClass R_Mo = some m.cls := findClass_of_methodNamed B.named
  have hlocks := B.notSynchronized
  subst hsz
  have hD := hD0.self (sz := s.heap.size)
  generalize hAe : va_A [(q_t, .inr (7, o_Mo a_t v_t_things v_t_pipes v_t_wide v_t_size v_t_place v_t_number v_t_thrown v_t_wish v_t_found)), ((a_t 19), .inl (cB, 2000, .inl f_t_text))] s.heap.size = A at hD ⊢
  have hA : ∀ q : Nat, s.heap.size ≤ q → A q := fun q h => by rw [← hAe]; exact Or.inr h
  have hS : va_S A s.heap s.heap [] := va_S.rf
  have hP : va_P (dC, dI) classes [(q_t, .inr (7, o_Mo a_t v_t_things v_t_pipes v_t_wide v_t_size v_t_place v_t_number v_t_thrown v_t_wish v_t_found)), ((a_t 19), .inl (cB, 2000, .inl f_t_text))] s.heap := hP
  have hl := lv_entry [.ref q_t] (n := 1) (Nat.le_of_ble_eq_true rfl)
  have he9 : entryFrame m args 1 = F0 m 0 ((lg_sl [.ref q_t] ++ List.replicate (1 - (lg_sl [.ref q_t]).length) Slot.unset).toArray) [] := by rw [ha]; exact lg_entry_eq _ _ _
  rw [he9]
  clear he9
  generalize (lg_sl [.ref q_t] ++ List.replicate (1 - (lg_sl [.ref q_t]).length) Slot.unset).toArray = ls at hl ⊢
  have hl : lv_has ls 1 [(0, .ref q_t)] := hl
  unfold wp_Mo_here at hw
  refine lv_aload_n hx hb d_Mo_here_0 rfl (lv_at hl 0 rfl) ?_
  refine va_get (D := (dC, dI)) (ci := 7) (v := .int v_t_place) (C := R_Mo) (T := F_Mo) (N := 29) hx hb hts i_Mo hown hK hP 0 rfl rfl 21 (by decide) (hts (Cond.fieldLink R_Mo 146 "PlantGraphModel" "place" "I") kw32_72ee9a0) (fun _ h9 => h9) rfl d_Mo_here_1 ?_
  refine lv_aload_n hx hb d_Mo_here_4 rfl (lv_at hl 0 rfl) ?_
  refine va_get (D := (dC, dI)) (ci := 7) (v := .int v_t_size) (C := R_Mo) (T := F_Mo) (N := 29) hx hb hts i_Mo hown hK hP 0 rfl rfl 20 (by decide) (hts (Cond.fieldLink R_Mo 143 "PlantGraphModel" "size" "I") kw32_f319621) (fun _ h9 => h9) rfl d_Mo_here_5 ?_
  refine lv_icmp_ge (tgt := 23) hx hb d_Mo_here_8 (by decide) (fun c8 => ?_) (fun c8 => ?_)
  · replace hw := hw.1 c8
    refine lv_iconst (v := 0) hx hb d_Mo_here_23 (by decide) ?_
    exact W.iret (v := 0) hx hb hr (fun t ht hW => ⟨⟨0, (), rfl, hw, by rw [ht]; exact hP, va_K.moved hW.alike hK, hD⟩, hS.F ht⟩) hS.2.2 d_Mo_here_24
  · replace hw := hw.2 c8
    refine lv_aload_n hx hb d_Mo_here_11 rfl (lv_at hl 0 rfl) ?_
    refine va_get (D := (dC, dI)) (ci := 7) (v := .ref (a_t 19)) (C := R_Mo) (T := F_Mo) (N := 29) hx hb hts i_Mo hown hK hP 0 rfl rfl 19 (by decide) (hts (Cond.fieldLink R_Mo 60 "PlantGraphModel" "text" "[B") kw32_705ee1c) (fun _ h9 => h9) rfl d_Mo_here_12 ?_
    refine lv_aload_n hx hb d_Mo_here_15 rfl (lv_at hl 0 rfl) ?_
    refine va_get (D := (dC, dI)) (ci := 7) (v := .int v_t_place) (C := R_Mo) (T := F_Mo) (N := 29) hx hb hts i_Mo hown hK hP 0 rfl rfl 21 (by decide) (hts (Cond.fieldLink R_Mo 146 "PlantGraphModel" "place" "I") kw32_72ee9a0) (fun _ h9 => h9) rfl d_Mo_here_16 ?_
    refine va_bald hx hb hK hP 1 2 rfl rfl hw.1 d_Mo_here_19 ?_
    replace hw := hw.2
    refine lv_goto (tgt := 24) hx hb d_Mo_here_20 (by decide) ?_
    exact W.iret (v := (f_t_text v_t_place.toNatClampNeg)) hx hb hr (fun t ht hW => ⟨⟨(f_t_text v_t_place.toNatClampNeg), (), rfl, hw, by rw [ht]; exact hP, va_K.moved hW.alike hK, hD⟩, hS.F ht⟩) hS.2.2 d_Mo_here_24
def wk_Mo_over_21_2 (P : Int32 → Int32 → Prop) (x3_L2 : Int64) (v_t_place_L2 : Int32) : Prop := P 0 v_t_place_L2
def wk_Mo_over_41_2 (P : Int32 → Int32 → Prop) (x3_L2 : Int64) (v_t_place_L2 : Int32) : Prop := P 1 v_t_place_L2
def wl_Mo_over_2 (v_t_size : Int32) (f_t_text : (Nat → Int32)) (K_21 : Int64 → Int32 → Prop) (K_41 : Int64 → Int32 → Prop) : Nat → Int64 → Int32 → Prop
  | 0, _, _ => False
  | k_2 + 1, x3_L2, v_t_place_L2 => (((lg_cmp x3_L2 0) = 0 → K_41 x3_L2 v_t_place_L2) ∧ (¬ (lg_cmp x3_L2 0) = 0 → wp_Mo_here v_t_size v_t_place_L2 f_t_text (fun r9 => ((r9 = ((x3_L2 &&& 255) : Int64).toInt32 → wl_Mo_over_2 v_t_size f_t_text K_21 K_41 k_2 (((x3_L2 : Int64).toUInt64 >>> ((8 : Int32).toInt64.toUInt64 &&& Int64.toUInt64 63)).toInt64) (v_t_place_L2 + 1)) ∧ (¬ r9 = ((x3_L2 &&& 255) : Int64).toInt32 → K_21 x3_L2 v_t_place_L2)))))
def wp_Mo_over (v_t_size : Int32) (v_t_place : Int32) (f_t_text : (Nat → Int32)) (x1 : Int64) (P : Int32 → Int32 → Prop) : Prop := (∃ n_2 : Nat, wl_Mo_over_2 v_t_size f_t_text (wk_Mo_over_21_2 P) (wk_Mo_over_41_2 P) n_2 x1 v_t_place)
def w_Mo_over : List Cond := .code y_Mo_over b_Mo_over 5 (some .boolean) :: tb
abbrev rm_Mo_over : Room := { frames := 1, cells := 0, slots := 0, locals := 20 }
abbrev Q_Mo_over (dC : Nat → ClassId) (dI : Nat → Nat → Nat) (cI cL cB : ClassId) (q_t : Nat) (a_t : Nat → Nat) (v_t_things : Int32) (v_t_pipes : Int32) (v_t_wide : Int32) (v_t_size : Int32) (v_t_place : Int32) (v_t_number : Int64) (v_t_thrown : Int32) (v_t_wish : Int32) (v_t_found : Int32) (f_t_text : (Nat → Int32)) (x1 : Int64) (P : Int32 → Int32 → Prop) (A : Nat → Prop) : Array Value → State → Outcome → State → Prop := va_Qi (fun (r : Int32) (u : Int32) => P r u) (fun u t => va_P (dC, dI) classes [(q_t, .inr (7, o_Mo a_t v_t_things v_t_pipes v_t_wide v_t_size u v_t_number v_t_thrown v_t_wish v_t_found)), ((a_t 19), .inl (cB, 2000, .inl f_t_text))] t.heap ∧ va_K (dC, dI) classes [(cI, .int), (cL, .long), (cB, .byte)] t ∧ va_D A [(q_t, .inr (7, o_Mo a_t v_t_things v_t_pipes v_t_wide v_t_size u v_t_number v_t_thrown v_t_wish v_t_found)), ((a_t 19), .inl (cB, 2000, .inl f_t_text))]) A
set_option maxHeartbeats 4000000 in
set_option maxRecDepth 100000 in
theorem c_Mo_over (l : Launch) (dC : Nat → ClassId) (dI : Nat → Nat → Nat) (cI cL cB : ClassId) (q_t : Nat) (a_t : Nat → Nat) (sz : Nat) (v_t_things : Int32) (v_t_pipes : Int32) (v_t_wide : Int32) (v_t_size : Int32) (v_t_place : Int32) (v_t_number : Int64) (v_t_thrown : Int32) (v_t_wish : Int32) (v_t_found : Int32) (f_t_text : (Nat → Int32)) (x1 : Int64) (P : Int32 → Int32 → Prop) (hw : wp_Mo_over v_t_size v_t_place f_t_text x1 P) : Met l y_Mo_over w_Mo_over rm_Mo_over (va_Pc [.ref q_t, .long x1] (fun U => U.heap.size = sz ∧ va_P (dC, dI) classes [(q_t, .inr (7, o_Mo a_t v_t_things v_t_pipes v_t_wide v_t_size v_t_place v_t_number v_t_thrown v_t_wish v_t_found)), ((a_t 19), .inl (cB, 2000, .inl f_t_text))] U.heap ∧ va_K (dC, dI) classes [(cI, .int), (cL, .long), (cB, .byte)] U ∧ va_D (fun _ => True) [(q_t, .inr (7, o_Mo a_t v_t_things v_t_pipes v_t_wide v_t_size v_t_place v_t_number v_t_thrown v_t_wish v_t_found)), ((a_t 19), .inl (cB, 2000, .inl f_t_text))])) (Q_Mo_over dC dI cI cL cB q_t a_t v_t_things v_t_pipes v_t_wide v_t_size v_t_place v_t_number v_t_thrown v_t_wish v_t_found f_t_text x1 P (va_A [(q_t, .inr (7, o_Mo a_t v_t_things v_t_pipes v_t_wide v_t_size v_t_place v_t_number v_t_thrown v_t_wish v_t_found)), ((a_t 19), .inl (cB, 2000, .inl f_t_text))] sz)) 0 0 (va_A [(q_t, .inr (7, o_Mo a_t v_t_things v_t_pipes v_t_wide v_t_size v_t_place v_t_number v_t_thrown v_t_wish v_t_found)), ((a_t 19), .inl (cB, 2000, .inl f_t_text))] sz) := by
  refine Met.ofW (cc := b_Mo_over) (maxL := 5) (ret := (some .boolean)) (by decide) rfl ?_
  intro p e s m args below meth c s₁ B hml hv
  obtain ⟨ha, hsz, hP, hK, hD0⟩ := hv
  have hx := B.exec
  have hb := B.bytes
  have hr := B.returns
  have hts0 := atoms_spec (ws := w_Mo_over) B.pre
  have hts : ∀ w ∈ tb, w.before args s = true := fun w h => hts0 w (List.mem_cons_of_mem _ h)
  have hown : s.vm.findClass R_Mo = some m.cls := findClass_of_methodNamed B.named
  have hlocks := B.notSynchronized
  subst hsz
  have hD := hD0.self (sz := s.heap.size)
  generalize hAe : va_A [(q_t, .inr (7, o_Mo a_t v_t_things v_t_pipes v_t_wide v_t_size v_t_place v_t_number v_t_thrown v_t_wish v_t_found)), ((a_t 19), .inl (cB, 2000, .inl f_t_text))] s.heap.size = A at hD ⊢
  have hA : ∀ q : Nat, s.heap.size ≤ q → A q := fun q h => by rw [← hAe]; exact Or.inr h
  have hS : va_S A s.heap s.heap [] := va_S.rf
  have hP : va_P (dC, dI) classes [(q_t, .inr (7, o_Mo a_t v_t_things v_t_pipes v_t_wide v_t_size v_t_place v_t_number v_t_thrown v_t_wish v_t_found)), ((a_t 19), .inl (cB, 2000, .inl f_t_text))] s.heap := hP
  have hl := lv_entry [.ref q_t, .long x1] (n := 5) (Nat.le_of_ble_eq_true rfl)
  have he9 : entryFrame m args 5 = F0 m 0 ((lg_sl [.ref q_t, .long x1] ++ List.replicate (5 - (lg_sl [.ref q_t, .long x1]).length) Slot.unset).toArray) [] := by rw [ha]; exact lg_entry_eq _ _ _
  rw [he9]
  clear he9
  generalize (lg_sl [.ref q_t, .long x1] ++ List.replicate (5 - (lg_sl [.ref q_t, .long x1]).length) Slot.unset).toArray = ls at hl ⊢
  have hl : lv_has ls 5 [(0, .ref q_t), (1, .long x1)] := hl
  unfold wp_Mo_over at hw
  refine lv_lload_n hx hb d_Mo_over_0 rfl (lv_at hl 1 rfl) ?_
  refine lv_lstore_n (lv' := [(3, .long x1), (0, .ref q_t), (1, .long x1)]) hx hb d_Mo_over_1 rfl hl (by decide) rfl (fun ls hl => ?_)
  obtain ⟨n_2, hw⟩ := hw
  have EX_21 : ∀ (x3_L2 : Int64) (v_t_place_L2 : Int32) (H : Heap) (locs : List Loc) (ls : Array Slot), va_P (dC, dI) classes [(q_t, .inr (7, o_Mo a_t v_t_things v_t_pipes v_t_wide v_t_size v_t_place_L2 v_t_number v_t_thrown v_t_wish v_t_found)), ((a_t 19), .inl (cB, 2000, .inl f_t_text))] H → va_D A [(q_t, .inr (7, o_Mo a_t v_t_things v_t_pipes v_t_wide v_t_size v_t_place_L2 v_t_number v_t_thrown v_t_wish v_t_found)), ((a_t 19), .inl (cB, 2000, .inl f_t_text))] → va_S A s.heap H locs → lv_has ls 5 [(0, .ref q_t), (3, .long x3_L2)] → wk_Mo_over_21_2 P x3_L2 v_t_place_L2 → W p l e (headSpec w_Mo_over rm_Mo_over).room s m args below meth c H locs 0 0 (MQ below (Q_Mo_over dC dI cI cL cB q_t a_t v_t_things v_t_pipes v_t_wide v_t_size v_t_place v_t_number v_t_thrown v_t_wish v_t_found f_t_text x1 P A) args s 0 0 A) (F0 m 21 ls []) := by
    intro x3_L2 v_t_place_L2 H locs ls hP hD hS hl hw
    unfold wk_Mo_over_21_2 at hw
    refine lv_iconst (v := 0) hx hb d_Mo_over_21 (by decide) ?_
    exact W.zret (v := 0) hx hb hr (by decide) (fun t ht hW => ⟨⟨0, v_t_place_L2, rfl, hw, by rw [ht]; exact hP, va_K.moved hW.alike hK, hD⟩, hS.F ht⟩) hS.2.2 d_Mo_over_22
  have EX_41 : ∀ (x3_L2 : Int64) (v_t_place_L2 : Int32) (H : Heap) (locs : List Loc) (ls : Array Slot), va_P (dC, dI) classes [(q_t, .inr (7, o_Mo a_t v_t_things v_t_pipes v_t_wide v_t_size v_t_place_L2 v_t_number v_t_thrown v_t_wish v_t_found)), ((a_t 19), .inl (cB, 2000, .inl f_t_text))] H → va_D A [(q_t, .inr (7, o_Mo a_t v_t_things v_t_pipes v_t_wide v_t_size v_t_place_L2 v_t_number v_t_thrown v_t_wish v_t_found)), ((a_t 19), .inl (cB, 2000, .inl f_t_text))] → va_S A s.heap H locs → lv_has ls 5 [(0, .ref q_t), (3, .long x3_L2)] → wk_Mo_over_41_2 P x3_L2 v_t_place_L2 → W p l e (headSpec w_Mo_over rm_Mo_over).room s m args below meth c H locs 0 0 (MQ below (Q_Mo_over dC dI cI cL cB q_t a_t v_t_things v_t_pipes v_t_wide v_t_size v_t_place v_t_number v_t_thrown v_t_wish v_t_found f_t_text x1 P A) args s 0 0 A) (F0 m 41 ls []) := by
    intro x3_L2 v_t_place_L2 H locs ls hP hD hS hl hw
    unfold wk_Mo_over_41_2 at hw
    refine lv_iconst (v := 1) hx hb d_Mo_over_41 (by decide) ?_
    exact W.zret (v := 1) hx hb hr (by decide) (fun t ht hW => ⟨⟨1, v_t_place_L2, rfl, hw, by rw [ht]; exact hP, va_K.moved hW.alike hK, hD⟩, hS.F ht⟩) hS.2.2 d_Mo_over_42
  have LP_2 : ∀ (k_2 : Nat) (x3_L2 : Int64) (v_t_place_L2 : Int32) (H : Heap) (locs : List Loc) (ls : Array Slot), va_P (dC, dI) classes [(q_t, .inr (7, o_Mo a_t v_t_things v_t_pipes v_t_wide v_t_size v_t_place_L2 v_t_number v_t_thrown v_t_wish v_t_found)), ((a_t 19), .inl (cB, 2000, .inl f_t_text))] H → va_D A [(q_t, .inr (7, o_Mo a_t v_t_things v_t_pipes v_t_wide v_t_size v_t_place_L2 v_t_number v_t_thrown v_t_wish v_t_found)), ((a_t 19), .inl (cB, 2000, .inl f_t_text))] → va_S A s.heap H locs → lv_has ls 5 [(0, .ref q_t), (3, .long x3_L2)] → wl_Mo_over_2 v_t_size f_t_text (wk_Mo_over_21_2 P) (wk_Mo_over_41_2 P) k_2 x3_L2 v_t_place_L2 → W p l e (headSpec w_Mo_over rm_Mo_over).room s m args below meth c H locs 0 0 (MQ below (Q_Mo_over dC dI cI cL cB q_t a_t v_t_things v_t_pipes v_t_wide v_t_size v_t_place v_t_number v_t_thrown v_t_wish v_t_found f_t_text x1 P A) args s 0 0 A) (F0 m 2 ls []) := by
    intro k_2
    induction k_2 with
    | zero => intro x3_L2 v_t_place_L2 H locs ls hP hD hS hl hw; unfold wl_Mo_over_2 at hw; exact hw.elim
    | succ k_2 ih_2 =>
      intro x3_L2 v_t_place_L2 H locs ls hP hD hS hl hw
      unfold wl_Mo_over_2 at hw
      refine lv_lload_n hx hb d_Mo_over_2 rfl (lv_at hl 1 rfl) ?_
      refine lv_lconst (v := 0) hx hb d_Mo_over_3 (by decide) ?_
      refine W.lcmp hx hb d_Mo_over_4 ?_
      refine lv_if_eq (tgt := 41) hx hb d_Mo_over_5 (by decide) (fun c5 => ?_) (fun c5 => ?_)
      · replace hw := hw.1 c5
        exact EX_41 x3_L2 v_t_place_L2 H _ _ hP hD hS (lv_sub hl [0, 1] rfl) hw
      · replace hw := hw.2 c5
        refine lv_aload_n hx hb d_Mo_over_8 rfl (lv_at hl 0 rfl) ?_
        have hPc := hP.sub (ws' := [(q_t, .inr (7, o_Mo a_t v_t_things v_t_pipes v_t_wide v_t_size v_t_place_L2 v_t_number v_t_thrown v_t_wish v_t_found)), ((a_t 19), .inl (cB, 2000, .inl f_t_text))]) [0, 1] rfl
        have hDc := hD.sub (ws' := [(q_t, .inr (7, o_Mo a_t v_t_things v_t_pipes v_t_wide v_t_size v_t_place_L2 v_t_number v_t_thrown v_t_wish v_t_found)), ((a_t 19), .inl (cB, 2000, .inl f_t_text))]) [0, 1] (by decide) rfl
        have hFc := va_free (wc := [(q_t, .inr (7, o_Mo a_t v_t_things v_t_pipes v_t_wide v_t_size v_t_place_L2 v_t_number v_t_thrown v_t_wish v_t_found)), ((a_t 19), .inl (cB, 2000, .inl f_t_text))]) hD hS hA [0, 1] rfl
        refine va_calli (va_runV (As := []) (rest := []) ⟨hx, hb, hml, hown, hts⟩ (c_Mo_here l dC dI cI cL cB q_t a_t H.size v_t_things v_t_pipes v_t_wide v_t_size v_t_place_L2 v_t_number v_t_thrown v_t_wish v_t_found f_t_text  _ hw) (my_cwV 0 hts kw32_5ffaa2f kw32_4ddafd5 kw32_d996e64 kw32_7a5931c kw32_a4d8f3a rfl rfl (by decide +kernel) ⟨Nat.le_of_ble_eq_true rfl, Nat.le_of_ble_eq_true rfl⟩) ⟨fun a U g mk q => by obtain ⟨q0, q1, qP, qK, qD⟩ := q; exact ⟨q0, q1, qP, va_K.moved (u := U) (U := U.calling g mk a) (Vm.Alike.refl U.vm) qK, qD⟩, va_recv hK hP (ci := 7) (q0 := 0) rfl rfl, fun U hU hW => ⟨rfl, by rw [hU], by rw [hU]; exact hPc, va_K.moved hW.alike hK, hDc.weaken (fun _ _ _ _ => trivial)⟩⟩ rfl rfl hl.1 rfl (lv_room (Nat.le_of_ble_eq_true rfl)) d_Mo_over_9 ⟨Nat.zero_le _, Nat.zero_le _⟩) hS (fun q _ h => hFc q h) hFc (fun r9 u t H locs ht hvm hw hB hz1 hk1 hS => ?_)
        obtain ⟨hP1, hK1, hD1⟩ := hB
        rw [ht] at hP1
        obtain ⟨hP, hD⟩ := va_join (wr := []) (w1 := [(q_t, .inr (7, o_Mo a_t v_t_things v_t_pipes v_t_wide v_t_size v_t_place_L2 v_t_number v_t_thrown v_t_wish v_t_found)), ((a_t 19), .inl (cB, 2000, .inl f_t_text))]) hP hD [0, 1] [] rfl rfl (by decide) (by decide) hk1 hFc hP1 hD1
        have hP : va_P (dC, dI) classes [(q_t, .inr (7, o_Mo a_t v_t_things v_t_pipes v_t_wide v_t_size v_t_place_L2 v_t_number v_t_thrown v_t_wish v_t_found)), ((a_t 19), .inl (cB, 2000, .inl f_t_text))] H := hP.sub (ws' := [(q_t, .inr (7, o_Mo a_t v_t_things v_t_pipes v_t_wide v_t_size v_t_place_L2 v_t_number v_t_thrown v_t_wish v_t_found)), ((a_t 19), .inl (cB, 2000, .inl f_t_text))]) [0, 1] rfl
        have hD : va_D A [(q_t, .inr (7, o_Mo a_t v_t_things v_t_pipes v_t_wide v_t_size v_t_place_L2 v_t_number v_t_thrown v_t_wish v_t_found)), ((a_t 19), .inl (cB, 2000, .inl f_t_text))] := hD.sub (ws' := [(q_t, .inr (7, o_Mo a_t v_t_things v_t_pipes v_t_wide v_t_size v_t_place_L2 v_t_number v_t_thrown v_t_wish v_t_found)), ((a_t 19), .inl (cB, 2000, .inl f_t_text))]) [0, 1] (by decide) rfl
        refine lv_lload_n hx hb d_Mo_over_12 rfl (lv_at hl 1 rfl) ?_
        refine lv_ldc2 (v := 255) hx hb hown (hts (Cond.constantLong R_Mo 153 255) kw32_6c6cb25) d_Mo_over_13 ?_
        refine lv_land hx hb d_Mo_over_16 ?_
        refine lv_l2i hx hb d_Mo_over_17 rfl ?_
        refine lv_icmp_eq (tgt := 23) hx hb d_Mo_over_18 (by decide) (fun c18 => ?_) (fun c18 => ?_)
        · replace hw := hw.1 c18
          refine lv_aload_n hx hb d_Mo_over_23 rfl (lv_at hl 0 rfl) ?_
          refine lv_dup hx hb d_Mo_over_24 rfl ?_
          refine va_get (D := (dC, dI)) (ci := 7) (v := .int v_t_place_L2) (C := R_Mo) (T := F_Mo) (N := 29) hx hb hts i_Mo hown hK hP 0 rfl rfl 21 (by decide) (hts (Cond.fieldLink R_Mo 146 "PlantGraphModel" "place" "I") kw32_72ee9a0) (fun _ h9 => h9) rfl d_Mo_over_25 ?_
          refine lv_iconst (v := 1) hx hb d_Mo_over_28 (by decide) ?_
          refine lv_iadd hx hb d_Mo_over_29 ?_
          refine va_put (D := (dC, dI)) (ci := 7) (v := .int (v_t_place_L2 + 1)) (ty := .int) (C := R_Mo) (T := F_Mo) (N := 29) hx hb hts i_Mo t_Mo t_Mo_ok n_Mo hown hK hP hD hS 0 rfl rfl 21 (by decide) (hts (Cond.fieldLink R_Mo 146 "PlantGraphModel" "place" "I") kw32_72ee9a0) (fun _ h9 => h9) rfl (by decide +kernel) rfl rfl (Nat.le_of_ble_eq_true rfl) d_Mo_over_30 (fun H locs hP hD hS => ?_)
          have hP : va_P (dC, dI) classes [(q_t, .inr (7, o_Mo a_t v_t_things v_t_pipes v_t_wide v_t_size (v_t_place_L2 + 1) v_t_number v_t_thrown v_t_wish v_t_found)), ((a_t 19), .inl (cB, 2000, .inl f_t_text))] H := hP
          have hD : va_D A [(q_t, .inr (7, o_Mo a_t v_t_things v_t_pipes v_t_wide v_t_size (v_t_place_L2 + 1) v_t_number v_t_thrown v_t_wish v_t_found)), ((a_t 19), .inl (cB, 2000, .inl f_t_text))] := hD
          refine lv_lload_n hx hb d_Mo_over_33 rfl (lv_at hl 1 rfl) ?_
          refine lv_bipush (v := 8) hx hb d_Mo_over_34 (by decide) ?_
          refine lv_lushr hx hb d_Mo_over_36 rfl ?_
          refine lv_lstore_n (lv' := [(3, .long ((x3_L2 : Int64).toUInt64 >>> ((8 : Int32).toInt64.toUInt64 &&& Int64.toUInt64 63)).toInt64), (0, .ref q_t)]) hx hb d_Mo_over_37 rfl hl (by decide) rfl (fun ls hl => ?_)
          refine lv_goto (tgt := 2) hx hb d_Mo_over_38 (by decide) ?_
          exact ih_2 (((x3_L2 : Int64).toUInt64 >>> ((8 : Int32).toInt64.toUInt64 &&& Int64.toUInt64 63)).toInt64) (v_t_place_L2 + 1) H _ _ hP hD hS (lv_sub hl [1, 0] rfl) hw
        · replace hw := hw.2 c18
          exact EX_21 x3_L2 v_t_place_L2 H _ _ hP hD hS (lv_sub hl [0, 1] rfl) hw
  exact LP_2 n_2 x1 v_t_place s.heap _ _ hP hD hS (lv_sub hl [1, 0] rfl) hw
def wj_Mo_value_102 (v_t_size : Int32) (f_t_text : (Nat → Int32)) (B_54 : Int32 → Int64 → Prop) (v_t_place_J102 : Int32) (v_t_number_J102 : Int64) : Prop := wp_Mo_here v_t_size v_t_place_J102 f_t_text (fun r112 => B_54 (v_t_place_J102 + 1) (((10 * v_t_number_J102) + (r112 : Int32).toInt64) - 48))
def wk_Mo_value_137_54 (v_t_place_J44 : Int32) (P : Int32 → Int32 → Int64 → Prop) (v_t_place_L54 : Int32) (v_t_number_L54 : Int64) : Prop := ((v_t_place_L54 ≤ v_t_place_J44 → P 0 v_t_place_L54 v_t_number_L54) ∧ (¬ v_t_place_L54 ≤ v_t_place_J44 → P 1 v_t_place_L54 v_t_number_L54))
def wl_Mo_value_54 (v_t_size : Int32) (f_t_text : (Nat → Int32)) (v_t_place_J44 : Int32) (K_137 : Int32 → Int64 → Prop) : Nat → Int32 → Int64 → Prop
  | 0, _, _ => False
  | k_54 + 1, v_t_place_L54, v_t_number_L54 => wp_Mo_here v_t_size v_t_place_L54 f_t_text (fun r55 => ((r55 < (48 : Int32) → K_137 v_t_place_L54 v_t_number_L54) ∧ (¬ r55 < (48 : Int32) → wp_Mo_here v_t_size v_t_place_L54 f_t_text (fun r64 => (((57 : Int32) < r64 → K_137 v_t_place_L54 v_t_number_L54) ∧ (¬ (57 : Int32) < r64 → (((v_t_place_J44 + 7) ≤ v_t_place_L54 → K_137 v_t_place_L54 v_t_number_L54) ∧ (¬ (v_t_place_J44 + 7) ≤ v_t_place_L54 → ((¬ v_t_place_L54 = (v_t_place_J44 + 1) → wj_Mo_value_102 v_t_size f_t_text (wl_Mo_value_54 v_t_size f_t_text v_t_place_J44 K_137 k_54) v_t_place_L54 v_t_number_L54) ∧ (v_t_place_L54 = (v_t_place_J44 + 1) → (((lg_cmp v_t_number_L54 0) = 0 → K_137 v_t_place_L54 v_t_number_L54) ∧ (¬ (lg_cmp v_t_number_L54 0) = 0 → wj_Mo_value_102 v_t_size f_t_text (wl_Mo_value_54 v_t_size f_t_text v_t_place_J44 K_137 k_54) v_t_place_L54 v_t_number_L54))))))))))))
def wj_Mo_value_44 (v_t_size : Int32) (f_t_text : (Nat → Int32)) (P : Int32 → Int32 → Int64 → Prop) (v_t_place_J44 : Int32) (v_t_number_J44 : Int64) : Prop := (∃ n_54 : Nat, wl_Mo_value_54 v_t_size f_t_text v_t_place_J44 (wk_Mo_value_137_54 v_t_place_J44 P) n_54 v_t_place_J44 0)
def wp_Mo_value (v_t_size : Int32) (v_t_place : Int32) (v_t_number : Int64) (f_t_text : (Nat → Int32)) (x1 : Int32) (P : Int32 → Int32 → Int64 → Prop) : Prop := wp_Mo_over v_t_size v_t_place f_t_text 32 (fun r4 v_t_place_c4 => ((¬ r4 = 0 → ((x1 = 0 → wj_Mo_value_44 v_t_size f_t_text P v_t_place_c4 (-1)) ∧ (¬ x1 = 0 → wp_Mo_here v_t_size v_t_place_c4 f_t_text (fun r24 => ((¬ r24 = (45 : Int32) → wj_Mo_value_44 v_t_size f_t_text P v_t_place_c4 (-1)) ∧ (r24 = (45 : Int32) → P 1 (v_t_place_c4 + 1) (-1))))))) ∧ (r4 = 0 → P 0 v_t_place_c4 v_t_number)))
def w_Mo_value : List Cond := .code y_Mo_value b_Mo_value 3 (some .boolean) :: tb
abbrev rm_Mo_value : Room := { frames := 2, cells := 0, slots := 0, locals := 44 }
abbrev Q_Mo_value (dC : Nat → ClassId) (dI : Nat → Nat → Nat) (cI cL cB : ClassId) (q_t : Nat) (a_t : Nat → Nat) (v_t_things : Int32) (v_t_pipes : Int32) (v_t_wide : Int32) (v_t_size : Int32) (v_t_place : Int32) (v_t_number : Int64) (v_t_thrown : Int32) (v_t_wish : Int32) (v_t_found : Int32) (f_t_text : (Nat → Int32)) (x1 : Int32) (P : Int32 → Int32 → Int64 → Prop) (A : Nat → Prop) : Array Value → State → Outcome → State → Prop := va_Qi (fun (r : Int32) (u : Int32 × Int64) => P r u.1 u.2) (fun u t => va_P (dC, dI) classes [(q_t, .inr (7, o_Mo a_t v_t_things v_t_pipes v_t_wide v_t_size u.1 u.2 v_t_thrown v_t_wish v_t_found)), ((a_t 19), .inl (cB, 2000, .inl f_t_text))] t.heap ∧ va_K (dC, dI) classes [(cI, .int), (cL, .long), (cB, .byte)] t ∧ va_D A [(q_t, .inr (7, o_Mo a_t v_t_things v_t_pipes v_t_wide v_t_size u.1 u.2 v_t_thrown v_t_wish v_t_found)), ((a_t 19), .inl (cB, 2000, .inl f_t_text))]) A
set_option maxHeartbeats 4000000 in
set_option maxRecDepth 100000 in
theorem c_Mo_value (l : Launch) (dC : Nat → ClassId) (dI : Nat → Nat → Nat) (cI cL cB : ClassId) (q_t : Nat) (a_t : Nat → Nat) (sz : Nat) (v_t_things : Int32) (v_t_pipes : Int32) (v_t_wide : Int32) (v_t_size : Int32) (v_t_place : Int32) (v_t_number : Int64) (v_t_thrown : Int32) (v_t_wish : Int32) (v_t_found : Int32) (f_t_text : (Nat → Int32)) (x1 : Int32) (P : Int32 → Int32 → Int64 → Prop) (hw : wp_Mo_value v_t_size v_t_place v_t_number f_t_text x1 P) : Met l y_Mo_value w_Mo_value rm_Mo_value (va_Pc [.ref q_t, .int x1] (fun U => U.heap.size = sz ∧ va_P (dC, dI) classes [(q_t, .inr (7, o_Mo a_t v_t_things v_t_pipes v_t_wide v_t_size v_t_place v_t_number v_t_thrown v_t_wish v_t_found)), ((a_t 19), .inl (cB, 2000, .inl f_t_text))] U.heap ∧ va_K (dC, dI) classes [(cI, .int), (cL, .long), (cB, .byte)] U ∧ va_D (fun _ => True) [(q_t, .inr (7, o_Mo a_t v_t_things v_t_pipes v_t_wide v_t_size v_t_place v_t_number v_t_thrown v_t_wish v_t_found)), ((a_t 19), .inl (cB, 2000, .inl f_t_text))])) (Q_Mo_value dC dI cI cL cB q_t a_t v_t_things v_t_pipes v_t_wide v_t_size v_t_place v_t_number v_t_thrown v_t_wish v_t_found f_t_text x1 P (va_A [(q_t, .inr (7, o_Mo a_t v_t_things v_t_pipes v_t_wide v_t_size v_t_place v_t_number v_t_thrown v_t_wish v_t_found)), ((a_t 19), .inl (cB, 2000, .inl f_t_text))] sz)) 0 0 (va_A [(q_t, .inr (7, o_Mo a_t v_t_things v_t_pipes v_t_wide v_t_size v_t_place v_t_number v_t_thrown v_t_wish v_t_found)), ((a_t 19), .inl (cB, 2000, .inl f_t_text))] sz) := by
  refine Met.ofW (cc := b_Mo_value) (maxL := 3) (ret := (some .boolean)) (by decide) rfl ?_
  intro p e s m args below meth c s₁ B hml hv
  obtain ⟨ha, hsz, hP, hK, hD0⟩ := hv
  have hx := B.exec
  have hb := B.bytes
  have hr := B.returns
  have hts0 := atoms_spec (ws := w_Mo_value) B.pre
  have hts : ∀ w ∈ tb, w.before args s = true := fun w h => hts0 w (List.mem_cons_of_mem _ h)
  have hown : s.vm.findClass R_Mo = some m.cls := findClass_of_methodNamed B.named
  have hlocks := B.notSynchronized
  subst hsz
  have hD := hD0.self (sz := s.heap.size)
  generalize hAe : va_A [(q_t, .inr (7, o_Mo a_t v_t_things v_t_pipes v_t_wide v_t_size v_t_place v_t_number v_t_thrown v_t_wish v_t_found)), ((a_t 19), .inl (cB, 2000, .inl f_t_text))] s.heap.size = A at hD ⊢
  have hA : ∀ q : Nat, s.heap.size ≤ q → A q := fun q h => by rw [← hAe]; exact Or.inr h
  have hS : va_S A s.heap s.heap [] := va_S.rf
  have hP : va_P (dC, dI) classes [(q_t, .inr (7, o_Mo a_t v_t_things v_t_pipes v_t_wide v_t_size v_t_place v_t_number v_t_thrown v_t_wish v_t_found)), ((a_t 19), .inl (cB, 2000, .inl f_t_text))] s.heap := hP
  have hl := lv_entry [.ref q_t, .int x1] (n := 3) (Nat.le_of_ble_eq_true rfl)
  have he9 : entryFrame m args 3 = F0 m 0 ((lg_sl [.ref q_t, .int x1] ++ List.replicate (3 - (lg_sl [.ref q_t, .int x1]).length) Slot.unset).toArray) [] := by rw [ha]; exact lg_entry_eq _ _ _
  rw [he9]
  clear he9
  generalize (lg_sl [.ref q_t, .int x1] ++ List.replicate (3 - (lg_sl [.ref q_t, .int x1]).length) Slot.unset).toArray = ls at hl ⊢
  have hl : lv_has ls 3 [(0, .ref q_t), (1, .int x1)] := hl
  unfold wp_Mo_value at hw
  have J_44 : ∀ (v_t_place_J44 : Int32) (v_t_number_J44 : Int64) (H : Heap) (locs : List Loc) (ls : Array Slot), va_P (dC, dI) classes [(q_t, .inr (7, o_Mo a_t v_t_things v_t_pipes v_t_wide v_t_size v_t_place_J44 v_t_number_J44 v_t_thrown v_t_wish v_t_found)), ((a_t 19), .inl (cB, 2000, .inl f_t_text))] H → va_D A [(q_t, .inr (7, o_Mo a_t v_t_things v_t_pipes v_t_wide v_t_size v_t_place_J44 v_t_number_J44 v_t_thrown v_t_wish v_t_found)), ((a_t 19), .inl (cB, 2000, .inl f_t_text))] → va_S A s.heap H locs → lv_has ls 3 [(0, .ref q_t)] → wj_Mo_value_44 v_t_size f_t_text P v_t_place_J44 v_t_number_J44 → W p l e (headSpec w_Mo_value rm_Mo_value).room s m args below meth c H locs 0 0 (MQ below (Q_Mo_value dC dI cI cL cB q_t a_t v_t_things v_t_pipes v_t_wide v_t_size v_t_place v_t_number v_t_thrown v_t_wish v_t_found f_t_text x1 P A) args s 0 0 A) (F0 m 44 ls []) := by
    intro v_t_place_J44 v_t_number_J44 H locs ls hP hD hS hl hw
    unfold wj_Mo_value_44 at hw
    refine lv_aload_n hx hb d_Mo_value_44 rfl (lv_at hl 0 rfl) ?_
    refine va_get (D := (dC, dI)) (ci := 7) (v := .int v_t_place_J44) (C := R_Mo) (T := F_Mo) (N := 29) hx hb hts i_Mo hown hK hP 0 rfl rfl 21 (by decide) (hts (Cond.fieldLink R_Mo 146 "PlantGraphModel" "place" "I") kw32_72ee9a0) (fun _ h9 => h9) rfl d_Mo_value_45 ?_
    refine lv_istore_n (lv' := [(2, .int v_t_place_J44), (0, .ref q_t)]) hx hb d_Mo_value_48 rfl hl (by decide) rfl (fun ls hl => ?_)
    refine lv_aload_n hx hb d_Mo_value_49 rfl (lv_at hl 1 rfl) ?_
    refine lv_lconst (v := 0) hx hb d_Mo_value_50 (by decide) ?_
    refine va_put (D := (dC, dI)) (ci := 7) (v := .long 0) (ty := .long) (C := R_Mo) (T := F_Mo) (N := 29) hx hb hts i_Mo t_Mo t_Mo_ok n_Mo hown hK hP hD hS 0 rfl rfl 22 (by decide) (hts (Cond.fieldLink R_Mo 161 "PlantGraphModel" "number" "J") kw32_95e4c86) (fun _ h9 => h9) rfl (by decide +kernel) rfl rfl (Nat.le_of_ble_eq_true rfl) d_Mo_value_51 (fun H locs hP hD hS => ?_)
    have hP : va_P (dC, dI) classes [(q_t, .inr (7, o_Mo a_t v_t_things v_t_pipes v_t_wide v_t_size v_t_place_J44 0 v_t_thrown v_t_wish v_t_found)), ((a_t 19), .inl (cB, 2000, .inl f_t_text))] H := hP
    have hD : va_D A [(q_t, .inr (7, o_Mo a_t v_t_things v_t_pipes v_t_wide v_t_size v_t_place_J44 0 v_t_thrown v_t_wish v_t_found)), ((a_t 19), .inl (cB, 2000, .inl f_t_text))] := hD
    obtain ⟨n_54, hw⟩ := hw
    have EX_137 : ∀ (v_t_place_L54 : Int32) (v_t_number_L54 : Int64) (H : Heap) (locs : List Loc) (ls : Array Slot), va_P (dC, dI) classes [(q_t, .inr (7, o_Mo a_t v_t_things v_t_pipes v_t_wide v_t_size v_t_place_L54 v_t_number_L54 v_t_thrown v_t_wish v_t_found)), ((a_t 19), .inl (cB, 2000, .inl f_t_text))] H → va_D A [(q_t, .inr (7, o_Mo a_t v_t_things v_t_pipes v_t_wide v_t_size v_t_place_L54 v_t_number_L54 v_t_thrown v_t_wish v_t_found)), ((a_t 19), .inl (cB, 2000, .inl f_t_text))] → va_S A s.heap H locs → lv_has ls 3 [(0, .ref q_t), (2, .int v_t_place_J44)] → wk_Mo_value_137_54 v_t_place_J44 P v_t_place_L54 v_t_number_L54 → W p l e (headSpec w_Mo_value rm_Mo_value).room s m args below meth c H locs 0 0 (MQ below (Q_Mo_value dC dI cI cL cB q_t a_t v_t_things v_t_pipes v_t_wide v_t_size v_t_place v_t_number v_t_thrown v_t_wish v_t_found f_t_text x1 P A) args s 0 0 A) (F0 m 137 ls []) := by
      intro v_t_place_L54 v_t_number_L54 H locs ls hP hD hS hl hw
      unfold wk_Mo_value_137_54 at hw
      refine lv_aload_n hx hb d_Mo_value_137 rfl (lv_at hl 0 rfl) ?_
      refine va_get (D := (dC, dI)) (ci := 7) (v := .int v_t_place_L54) (C := R_Mo) (T := F_Mo) (N := 29) hx hb hts i_Mo hown hK hP 0 rfl rfl 21 (by decide) (hts (Cond.fieldLink R_Mo 146 "PlantGraphModel" "place" "I") kw32_72ee9a0) (fun _ h9 => h9) rfl d_Mo_value_138 ?_
      refine lv_iload_n hx hb d_Mo_value_141 rfl (lv_at hl 1 rfl) ?_
      refine lv_icmp_le (tgt := 149) hx hb d_Mo_value_142 (by decide) (fun c142 => ?_) (fun c142 => ?_)
      · replace hw := hw.1 c142
        refine lv_iconst (v := 0) hx hb d_Mo_value_149 (by decide) ?_
        exact W.zret (v := 0) hx hb hr (by decide) (fun t ht hW => ⟨⟨0, (v_t_place_L54, v_t_number_L54), rfl, hw, by rw [ht]; exact hP, va_K.moved hW.alike hK, hD⟩, hS.F ht⟩) hS.2.2 d_Mo_value_150
      · replace hw := hw.2 c142
        refine lv_iconst (v := 1) hx hb d_Mo_value_145 (by decide) ?_
        refine lv_goto (tgt := 150) hx hb d_Mo_value_146 (by decide) ?_
        exact W.zret (v := 1) hx hb hr (by decide) (fun t ht hW => ⟨⟨1, (v_t_place_L54, v_t_number_L54), rfl, hw, by rw [ht]; exact hP, va_K.moved hW.alike hK, hD⟩, hS.F ht⟩) hS.2.2 d_Mo_value_150
    have LP_54 : ∀ (k_54 : Nat) (v_t_place_L54 : Int32) (v_t_number_L54 : Int64) (H : Heap) (locs : List Loc) (ls : Array Slot), va_P (dC, dI) classes [(q_t, .inr (7, o_Mo a_t v_t_things v_t_pipes v_t_wide v_t_size v_t_place_L54 v_t_number_L54 v_t_thrown v_t_wish v_t_found)), ((a_t 19), .inl (cB, 2000, .inl f_t_text))] H → va_D A [(q_t, .inr (7, o_Mo a_t v_t_things v_t_pipes v_t_wide v_t_size v_t_place_L54 v_t_number_L54 v_t_thrown v_t_wish v_t_found)), ((a_t 19), .inl (cB, 2000, .inl f_t_text))] → va_S A s.heap H locs → lv_has ls 3 [(0, .ref q_t), (2, .int v_t_place_J44)] → wl_Mo_value_54 v_t_size f_t_text v_t_place_J44 (wk_Mo_value_137_54 v_t_place_J44 P) k_54 v_t_place_L54 v_t_number_L54 → W p l e (headSpec w_Mo_value rm_Mo_value).room s m args below meth c H locs 0 0 (MQ below (Q_Mo_value dC dI cI cL cB q_t a_t v_t_things v_t_pipes v_t_wide v_t_size v_t_place v_t_number v_t_thrown v_t_wish v_t_found f_t_text x1 P A) args s 0 0 A) (F0 m 54 ls []) := by
      intro k_54
      induction k_54 with
      | zero => intro v_t_place_L54 v_t_number_L54 H locs ls hP hD hS hl hw; unfold wl_Mo_value_54 at hw; exact hw.elim
      | succ k_54 ih_54 =>
        intro v_t_place_L54 v_t_number_L54 H locs ls hP hD hS hl hw
        unfold wl_Mo_value_54 at hw
        have J_102 : ∀ (v_t_place_J102 : Int32) (v_t_number_J102 : Int64) (H : Heap) (locs : List Loc) (ls : Array Slot), va_P (dC, dI) classes [(q_t, .inr (7, o_Mo a_t v_t_things v_t_pipes v_t_wide v_t_size v_t_place_J102 v_t_number_J102 v_t_thrown v_t_wish v_t_found)), ((a_t 19), .inl (cB, 2000, .inl f_t_text))] H → va_D A [(q_t, .inr (7, o_Mo a_t v_t_things v_t_pipes v_t_wide v_t_size v_t_place_J102 v_t_number_J102 v_t_thrown v_t_wish v_t_found)), ((a_t 19), .inl (cB, 2000, .inl f_t_text))] → va_S A s.heap H locs → lv_has ls 3 [(0, .ref q_t), (2, .int v_t_place_J44)] → wj_Mo_value_102 v_t_size f_t_text (wl_Mo_value_54 v_t_size f_t_text v_t_place_J44 (wk_Mo_value_137_54 v_t_place_J44 P) k_54) v_t_place_J102 v_t_number_J102 → W p l e (headSpec w_Mo_value rm_Mo_value).room s m args below meth c H locs 0 0 (MQ below (Q_Mo_value dC dI cI cL cB q_t a_t v_t_things v_t_pipes v_t_wide v_t_size v_t_place v_t_number v_t_thrown v_t_wish v_t_found f_t_text x1 P A) args s 0 0 A) (F0 m 102 ls []) := by
          intro v_t_place_J102 v_t_number_J102 H locs ls hP hD hS hl hw
          unfold wj_Mo_value_102 at hw
          refine lv_aload_n hx hb d_Mo_value_102 rfl (lv_at hl 0 rfl) ?_
          refine lv_ldc2 (v := 10) hx hb hown (hts (Cond.constantLong R_Mo 165 10) kw32_63be58a) d_Mo_value_103 ?_
          refine lv_aload_n hx hb d_Mo_value_106 rfl (lv_at hl 0 rfl) ?_
          refine va_get (D := (dC, dI)) (ci := 7) (v := .long v_t_number_J102) (C := R_Mo) (T := F_Mo) (N := 29) hx hb hts i_Mo hown hK hP 0 rfl rfl 22 (by decide) (hts (Cond.fieldLink R_Mo 161 "PlantGraphModel" "number" "J") kw32_95e4c86) (fun _ h9 => h9) rfl d_Mo_value_107 ?_
          refine lv_lmul hx hb d_Mo_value_110 ?_
          refine lv_aload_n hx hb d_Mo_value_111 rfl (lv_at hl 0 rfl) ?_
          have hPc := hP.sub (ws' := [(q_t, .inr (7, o_Mo a_t v_t_things v_t_pipes v_t_wide v_t_size v_t_place_J102 v_t_number_J102 v_t_thrown v_t_wish v_t_found)), ((a_t 19), .inl (cB, 2000, .inl f_t_text))]) [0, 1] rfl
          have hDc := hD.sub (ws' := [(q_t, .inr (7, o_Mo a_t v_t_things v_t_pipes v_t_wide v_t_size v_t_place_J102 v_t_number_J102 v_t_thrown v_t_wish v_t_found)), ((a_t 19), .inl (cB, 2000, .inl f_t_text))]) [0, 1] (by decide) rfl
          have hFc := va_free (wc := [(q_t, .inr (7, o_Mo a_t v_t_things v_t_pipes v_t_wide v_t_size v_t_place_J102 v_t_number_J102 v_t_thrown v_t_wish v_t_found)), ((a_t 19), .inl (cB, 2000, .inl f_t_text))]) hD hS hA [0, 1] rfl
          refine va_calli (va_runV (As := []) (rest := [.long (10 * v_t_number_J102), .ref q_t]) ⟨hx, hb, hml, hown, hts⟩ (c_Mo_here l dC dI cI cL cB q_t a_t H.size v_t_things v_t_pipes v_t_wide v_t_size v_t_place_J102 v_t_number_J102 v_t_thrown v_t_wish v_t_found f_t_text  _ hw) (my_cwV 0 hts kw32_5ffaa2f kw32_4ddafd5 kw32_d996e64 kw32_7a5931c kw32_a4d8f3a rfl rfl (by decide +kernel) ⟨Nat.le_of_ble_eq_true rfl, Nat.le_of_ble_eq_true rfl⟩) ⟨fun a U g mk q => by obtain ⟨q0, q1, qP, qK, qD⟩ := q; exact ⟨q0, q1, qP, va_K.moved (u := U) (U := U.calling g mk a) (Vm.Alike.refl U.vm) qK, qD⟩, va_recv hK hP (ci := 7) (q0 := 0) rfl rfl, fun U hU hW => ⟨rfl, by rw [hU], by rw [hU]; exact hPc, va_K.moved hW.alike hK, hDc.weaken (fun _ _ _ _ => trivial)⟩⟩ rfl rfl hl.1 rfl (lv_room (Nat.le_of_ble_eq_true rfl)) d_Mo_value_112 ⟨Nat.zero_le _, Nat.zero_le _⟩) hS (fun q _ h => hFc q h) hFc (fun r112 u t H locs ht hvm hw hB hz1 hk1 hS => ?_)
          obtain ⟨hP1, hK1, hD1⟩ := hB
          rw [ht] at hP1
          obtain ⟨hP, hD⟩ := va_join (wr := []) (w1 := [(q_t, .inr (7, o_Mo a_t v_t_things v_t_pipes v_t_wide v_t_size v_t_place_J102 v_t_number_J102 v_t_thrown v_t_wish v_t_found)), ((a_t 19), .inl (cB, 2000, .inl f_t_text))]) hP hD [0, 1] [] rfl rfl (by decide) (by decide) hk1 hFc hP1 hD1
          have hP : va_P (dC, dI) classes [(q_t, .inr (7, o_Mo a_t v_t_things v_t_pipes v_t_wide v_t_size v_t_place_J102 v_t_number_J102 v_t_thrown v_t_wish v_t_found)), ((a_t 19), .inl (cB, 2000, .inl f_t_text))] H := hP.sub (ws' := [(q_t, .inr (7, o_Mo a_t v_t_things v_t_pipes v_t_wide v_t_size v_t_place_J102 v_t_number_J102 v_t_thrown v_t_wish v_t_found)), ((a_t 19), .inl (cB, 2000, .inl f_t_text))]) [0, 1] rfl
          have hD : va_D A [(q_t, .inr (7, o_Mo a_t v_t_things v_t_pipes v_t_wide v_t_size v_t_place_J102 v_t_number_J102 v_t_thrown v_t_wish v_t_found)), ((a_t 19), .inl (cB, 2000, .inl f_t_text))] := hD.sub (ws' := [(q_t, .inr (7, o_Mo a_t v_t_things v_t_pipes v_t_wide v_t_size v_t_place_J102 v_t_number_J102 v_t_thrown v_t_wish v_t_found)), ((a_t 19), .inl (cB, 2000, .inl f_t_text))]) [0, 1] (by decide) rfl
          refine lv_i2l hx hb d_Mo_value_115 rfl ?_
          refine lv_ladd hx hb d_Mo_value_116 ?_
          refine lv_ldc2 (v := 48) hx hb hown (hts (Cond.constantLong R_Mo 167 48) kw32_64a98e1) d_Mo_value_117 ?_
          refine lv_lsub hx hb d_Mo_value_120 ?_
          refine va_put (D := (dC, dI)) (ci := 7) (v := .long (((10 * v_t_number_J102) + (r112 : Int32).toInt64) - 48)) (ty := .long) (C := R_Mo) (T := F_Mo) (N := 29) hx hb hts i_Mo t_Mo t_Mo_ok n_Mo hown hK hP hD hS 0 rfl rfl 22 (by decide) (hts (Cond.fieldLink R_Mo 161 "PlantGraphModel" "number" "J") kw32_95e4c86) (fun _ h9 => h9) rfl (by decide +kernel) rfl rfl (Nat.le_of_ble_eq_true rfl) d_Mo_value_121 (fun H locs hP hD hS => ?_)
          have hP : va_P (dC, dI) classes [(q_t, .inr (7, o_Mo a_t v_t_things v_t_pipes v_t_wide v_t_size v_t_place_J102 (((10 * v_t_number_J102) + (r112 : Int32).toInt64) - 48) v_t_thrown v_t_wish v_t_found)), ((a_t 19), .inl (cB, 2000, .inl f_t_text))] H := hP
          have hD : va_D A [(q_t, .inr (7, o_Mo a_t v_t_things v_t_pipes v_t_wide v_t_size v_t_place_J102 (((10 * v_t_number_J102) + (r112 : Int32).toInt64) - 48) v_t_thrown v_t_wish v_t_found)), ((a_t 19), .inl (cB, 2000, .inl f_t_text))] := hD
          refine lv_aload_n hx hb d_Mo_value_124 rfl (lv_at hl 0 rfl) ?_
          refine lv_dup hx hb d_Mo_value_125 rfl ?_
          refine va_get (D := (dC, dI)) (ci := 7) (v := .int v_t_place_J102) (C := R_Mo) (T := F_Mo) (N := 29) hx hb hts i_Mo hown hK hP 0 rfl rfl 21 (by decide) (hts (Cond.fieldLink R_Mo 146 "PlantGraphModel" "place" "I") kw32_72ee9a0) (fun _ h9 => h9) rfl d_Mo_value_126 ?_
          refine lv_iconst (v := 1) hx hb d_Mo_value_129 (by decide) ?_
          refine lv_iadd hx hb d_Mo_value_130 ?_
          refine va_put (D := (dC, dI)) (ci := 7) (v := .int (v_t_place_J102 + 1)) (ty := .int) (C := R_Mo) (T := F_Mo) (N := 29) hx hb hts i_Mo t_Mo t_Mo_ok n_Mo hown hK hP hD hS 0 rfl rfl 21 (by decide) (hts (Cond.fieldLink R_Mo 146 "PlantGraphModel" "place" "I") kw32_72ee9a0) (fun _ h9 => h9) rfl (by decide +kernel) rfl rfl (Nat.le_of_ble_eq_true rfl) d_Mo_value_131 (fun H locs hP hD hS => ?_)
          have hP : va_P (dC, dI) classes [(q_t, .inr (7, o_Mo a_t v_t_things v_t_pipes v_t_wide v_t_size (v_t_place_J102 + 1) (((10 * v_t_number_J102) + (r112 : Int32).toInt64) - 48) v_t_thrown v_t_wish v_t_found)), ((a_t 19), .inl (cB, 2000, .inl f_t_text))] H := hP
          have hD : va_D A [(q_t, .inr (7, o_Mo a_t v_t_things v_t_pipes v_t_wide v_t_size (v_t_place_J102 + 1) (((10 * v_t_number_J102) + (r112 : Int32).toInt64) - 48) v_t_thrown v_t_wish v_t_found)), ((a_t 19), .inl (cB, 2000, .inl f_t_text))] := hD
          refine lv_goto (tgt := 54) hx hb d_Mo_value_134 (by decide) ?_
          exact ih_54 (v_t_place_J102 + 1) (((10 * v_t_number_J102) + (r112 : Int32).toInt64) - 48) H _ _ hP hD hS (lv_sub hl [0, 1] rfl) hw
        refine lv_aload_n hx hb d_Mo_value_54 rfl (lv_at hl 0 rfl) ?_
        have hPc := hP.sub (ws' := [(q_t, .inr (7, o_Mo a_t v_t_things v_t_pipes v_t_wide v_t_size v_t_place_L54 v_t_number_L54 v_t_thrown v_t_wish v_t_found)), ((a_t 19), .inl (cB, 2000, .inl f_t_text))]) [0, 1] rfl
        have hDc := hD.sub (ws' := [(q_t, .inr (7, o_Mo a_t v_t_things v_t_pipes v_t_wide v_t_size v_t_place_L54 v_t_number_L54 v_t_thrown v_t_wish v_t_found)), ((a_t 19), .inl (cB, 2000, .inl f_t_text))]) [0, 1] (by decide) rfl
        have hFc := va_free (wc := [(q_t, .inr (7, o_Mo a_t v_t_things v_t_pipes v_t_wide v_t_size v_t_place_L54 v_t_number_L54 v_t_thrown v_t_wish v_t_found)), ((a_t 19), .inl (cB, 2000, .inl f_t_text))]) hD hS hA [0, 1] rfl
        refine va_calli (va_runV (As := []) (rest := []) ⟨hx, hb, hml, hown, hts⟩ (c_Mo_here l dC dI cI cL cB q_t a_t H.size v_t_things v_t_pipes v_t_wide v_t_size v_t_place_L54 v_t_number_L54 v_t_thrown v_t_wish v_t_found f_t_text  _ hw) (my_cwV 0 hts kw32_5ffaa2f kw32_4ddafd5 kw32_d996e64 kw32_7a5931c kw32_a4d8f3a rfl rfl (by decide +kernel) ⟨Nat.le_of_ble_eq_true rfl, Nat.le_of_ble_eq_true rfl⟩) ⟨fun a U g mk q => by obtain ⟨q0, q1, qP, qK, qD⟩ := q; exact ⟨q0, q1, qP, va_K.moved (u := U) (U := U.calling g mk a) (Vm.Alike.refl U.vm) qK, qD⟩, va_recv hK hP (ci := 7) (q0 := 0) rfl rfl, fun U hU hW => ⟨rfl, by rw [hU], by rw [hU]; exact hPc, va_K.moved hW.alike hK, hDc.weaken (fun _ _ _ _ => trivial)⟩⟩ rfl rfl hl.1 rfl (lv_room (Nat.le_of_ble_eq_true rfl)) d_Mo_value_55 ⟨Nat.zero_le _, Nat.zero_le _⟩) hS (fun q _ h => hFc q h) hFc (fun r55 u t H locs ht hvm hw hB hz1 hk1 hS => ?_)
        obtain ⟨hP1, hK1, hD1⟩ := hB
        rw [ht] at hP1
        obtain ⟨hP, hD⟩ := va_join (wr := []) (w1 := [(q_t, .inr (7, o_Mo a_t v_t_things v_t_pipes v_t_wide v_t_size v_t_place_L54 v_t_number_L54 v_t_thrown v_t_wish v_t_found)), ((a_t 19), .inl (cB, 2000, .inl f_t_text))]) hP hD [0, 1] [] rfl rfl (by decide) (by decide) hk1 hFc hP1 hD1
        have hP : va_P (dC, dI) classes [(q_t, .inr (7, o_Mo a_t v_t_things v_t_pipes v_t_wide v_t_size v_t_place_L54 v_t_number_L54 v_t_thrown v_t_wish v_t_found)), ((a_t 19), .inl (cB, 2000, .inl f_t_text))] H := hP.sub (ws' := [(q_t, .inr (7, o_Mo a_t v_t_things v_t_pipes v_t_wide v_t_size v_t_place_L54 v_t_number_L54 v_t_thrown v_t_wish v_t_found)), ((a_t 19), .inl (cB, 2000, .inl f_t_text))]) [0, 1] rfl
        have hD : va_D A [(q_t, .inr (7, o_Mo a_t v_t_things v_t_pipes v_t_wide v_t_size v_t_place_L54 v_t_number_L54 v_t_thrown v_t_wish v_t_found)), ((a_t 19), .inl (cB, 2000, .inl f_t_text))] := hD.sub (ws' := [(q_t, .inr (7, o_Mo a_t v_t_things v_t_pipes v_t_wide v_t_size v_t_place_L54 v_t_number_L54 v_t_thrown v_t_wish v_t_found)), ((a_t 19), .inl (cB, 2000, .inl f_t_text))]) [0, 1] (by decide) rfl
        refine lv_bipush (v := 48) hx hb d_Mo_value_58 (by decide) ?_
        refine lv_icmp_lt (tgt := 137) hx hb d_Mo_value_60 (by decide) (fun c60 => ?_) (fun c60 => ?_)
        · replace hw := hw.1 c60
          exact EX_137 v_t_place_L54 v_t_number_L54 H _ _ hP hD hS (lv_sub hl [0, 1] rfl) hw
        · replace hw := hw.2 c60
          refine lv_aload_n hx hb d_Mo_value_63 rfl (lv_at hl 0 rfl) ?_
          have hPc := hP.sub (ws' := [(q_t, .inr (7, o_Mo a_t v_t_things v_t_pipes v_t_wide v_t_size v_t_place_L54 v_t_number_L54 v_t_thrown v_t_wish v_t_found)), ((a_t 19), .inl (cB, 2000, .inl f_t_text))]) [0, 1] rfl
          have hDc := hD.sub (ws' := [(q_t, .inr (7, o_Mo a_t v_t_things v_t_pipes v_t_wide v_t_size v_t_place_L54 v_t_number_L54 v_t_thrown v_t_wish v_t_found)), ((a_t 19), .inl (cB, 2000, .inl f_t_text))]) [0, 1] (by decide) rfl
          have hFc := va_free (wc := [(q_t, .inr (7, o_Mo a_t v_t_things v_t_pipes v_t_wide v_t_size v_t_place_L54 v_t_number_L54 v_t_thrown v_t_wish v_t_found)), ((a_t 19), .inl (cB, 2000, .inl f_t_text))]) hD hS hA [0, 1] rfl
          refine va_calli (va_runV (As := []) (rest := []) ⟨hx, hb, hml, hown, hts⟩ (c_Mo_here l dC dI cI cL cB q_t a_t H.size v_t_things v_t_pipes v_t_wide v_t_size v_t_place_L54 v_t_number_L54 v_t_thrown v_t_wish v_t_found f_t_text  _ hw) (my_cwV 0 hts kw32_5ffaa2f kw32_4ddafd5 kw32_d996e64 kw32_7a5931c kw32_a4d8f3a rfl rfl (by decide +kernel) ⟨Nat.le_of_ble_eq_true rfl, Nat.le_of_ble_eq_true rfl⟩) ⟨fun a U g mk q => by obtain ⟨q0, q1, qP, qK, qD⟩ := q; exact ⟨q0, q1, qP, va_K.moved (u := U) (U := U.calling g mk a) (Vm.Alike.refl U.vm) qK, qD⟩, va_recv hK hP (ci := 7) (q0 := 0) rfl rfl, fun U hU hW => ⟨rfl, by rw [hU], by rw [hU]; exact hPc, va_K.moved hW.alike hK, hDc.weaken (fun _ _ _ _ => trivial)⟩⟩ rfl rfl hl.1 rfl (lv_room (Nat.le_of_ble_eq_true rfl)) d_Mo_value_64 ⟨Nat.zero_le _, Nat.zero_le _⟩) hS (fun q _ h => hFc q h) hFc (fun r64 u t H locs ht hvm hw hB hz1 hk1 hS => ?_)
          obtain ⟨hP1, hK1, hD1⟩ := hB
          rw [ht] at hP1
          obtain ⟨hP, hD⟩ := va_join (wr := []) (w1 := [(q_t, .inr (7, o_Mo a_t v_t_things v_t_pipes v_t_wide v_t_size v_t_place_L54 v_t_number_L54 v_t_thrown v_t_wish v_t_found)), ((a_t 19), .inl (cB, 2000, .inl f_t_text))]) hP hD [0, 1] [] rfl rfl (by decide) (by decide) hk1 hFc hP1 hD1
          have hP : va_P (dC, dI) classes [(q_t, .inr (7, o_Mo a_t v_t_things v_t_pipes v_t_wide v_t_size v_t_place_L54 v_t_number_L54 v_t_thrown v_t_wish v_t_found)), ((a_t 19), .inl (cB, 2000, .inl f_t_text))] H := hP.sub (ws' := [(q_t, .inr (7, o_Mo a_t v_t_things v_t_pipes v_t_wide v_t_size v_t_place_L54 v_t_number_L54 v_t_thrown v_t_wish v_t_found)), ((a_t 19), .inl (cB, 2000, .inl f_t_text))]) [0, 1] rfl
          have hD : va_D A [(q_t, .inr (7, o_Mo a_t v_t_things v_t_pipes v_t_wide v_t_size v_t_place_L54 v_t_number_L54 v_t_thrown v_t_wish v_t_found)), ((a_t 19), .inl (cB, 2000, .inl f_t_text))] := hD.sub (ws' := [(q_t, .inr (7, o_Mo a_t v_t_things v_t_pipes v_t_wide v_t_size v_t_place_L54 v_t_number_L54 v_t_thrown v_t_wish v_t_found)), ((a_t 19), .inl (cB, 2000, .inl f_t_text))]) [0, 1] (by decide) rfl
          refine lv_bipush (v := 57) hx hb d_Mo_value_67 (by decide) ?_
          refine lv_icmp_gt (tgt := 137) hx hb d_Mo_value_69 (by decide) (fun c69 => ?_) (fun c69 => ?_)
          · replace hw := hw.1 c69
            exact EX_137 v_t_place_L54 v_t_number_L54 H _ _ hP hD hS (lv_sub hl [0, 1] rfl) hw
          · replace hw := hw.2 c69
            refine lv_aload_n hx hb d_Mo_value_72 rfl (lv_at hl 0 rfl) ?_
            refine va_get (D := (dC, dI)) (ci := 7) (v := .int v_t_place_L54) (C := R_Mo) (T := F_Mo) (N := 29) hx hb hts i_Mo hown hK hP 0 rfl rfl 21 (by decide) (hts (Cond.fieldLink R_Mo 146 "PlantGraphModel" "place" "I") kw32_72ee9a0) (fun _ h9 => h9) rfl d_Mo_value_73 ?_
            refine lv_iload_n hx hb d_Mo_value_76 rfl (lv_at hl 1 rfl) ?_
            refine lv_bipush (v := 7) hx hb d_Mo_value_77 (by decide) ?_
            refine lv_iadd hx hb d_Mo_value_79 ?_
            refine lv_icmp_ge (tgt := 137) hx hb d_Mo_value_80 (by decide) (fun c80 => ?_) (fun c80 => ?_)
            · replace hw := hw.1 c80
              exact EX_137 v_t_place_L54 v_t_number_L54 H _ _ hP hD hS (lv_sub hl [0, 1] rfl) hw
            · replace hw := hw.2 c80
              refine lv_aload_n hx hb d_Mo_value_83 rfl (lv_at hl 0 rfl) ?_
              refine va_get (D := (dC, dI)) (ci := 7) (v := .int v_t_place_L54) (C := R_Mo) (T := F_Mo) (N := 29) hx hb hts i_Mo hown hK hP 0 rfl rfl 21 (by decide) (hts (Cond.fieldLink R_Mo 146 "PlantGraphModel" "place" "I") kw32_72ee9a0) (fun _ h9 => h9) rfl d_Mo_value_84 ?_
              refine lv_iload_n hx hb d_Mo_value_87 rfl (lv_at hl 1 rfl) ?_
              refine lv_iconst (v := 1) hx hb d_Mo_value_88 (by decide) ?_
              refine lv_iadd hx hb d_Mo_value_89 ?_
              refine lv_icmp_ne (tgt := 102) hx hb d_Mo_value_90 (by decide) (fun c90 => ?_) (fun c90 => ?_)
              · replace hw := hw.1 c90
                exact J_102 v_t_place_L54 v_t_number_L54 H _ _ hP hD hS (lv_sub hl [0, 1] rfl) hw
              · replace hw := hw.2 c90
                refine lv_aload_n hx hb d_Mo_value_93 rfl (lv_at hl 0 rfl) ?_
                refine va_get (D := (dC, dI)) (ci := 7) (v := .long v_t_number_L54) (C := R_Mo) (T := F_Mo) (N := 29) hx hb hts i_Mo hown hK hP 0 rfl rfl 22 (by decide) (hts (Cond.fieldLink R_Mo 161 "PlantGraphModel" "number" "J") kw32_95e4c86) (fun _ h9 => h9) rfl d_Mo_value_94 ?_
                refine lv_lconst (v := 0) hx hb d_Mo_value_97 (by decide) ?_
                refine W.lcmp hx hb d_Mo_value_98 ?_
                refine lv_if_eq (tgt := 137) hx hb d_Mo_value_99 (by decide) (fun c99 => ?_) (fun c99 => ?_)
                · replace hw := hw.1 c99
                  exact EX_137 v_t_place_L54 v_t_number_L54 H _ _ hP hD hS (lv_sub hl [0, 1] rfl) hw
                · replace hw := hw.2 c99
                  exact J_102 v_t_place_L54 v_t_number_L54 H _ _ hP hD hS (lv_sub hl [0, 1] rfl) hw
    exact LP_54 n_54 v_t_place_J44 0 H _ _ hP hD hS (lv_sub hl [1, 0] rfl) hw
  refine lv_aload_n hx hb d_Mo_value_0 rfl (lv_at hl 0 rfl) ?_
  refine lv_ldc2 (v := 32) hx hb hown (hts (Cond.constantLong R_Mo 155 32) kw32_3ffcd02) d_Mo_value_1 ?_
  have hPc := hP.sub (ws' := [(q_t, .inr (7, o_Mo a_t v_t_things v_t_pipes v_t_wide v_t_size v_t_place v_t_number v_t_thrown v_t_wish v_t_found)), ((a_t 19), .inl (cB, 2000, .inl f_t_text))]) [0, 1] rfl
  have hDc := hD.sub (ws' := [(q_t, .inr (7, o_Mo a_t v_t_things v_t_pipes v_t_wide v_t_size v_t_place v_t_number v_t_thrown v_t_wish v_t_found)), ((a_t 19), .inl (cB, 2000, .inl f_t_text))]) [0, 1] (by decide) rfl
  have hFc := va_free (wc := [(q_t, .inr (7, o_Mo a_t v_t_things v_t_pipes v_t_wide v_t_size v_t_place v_t_number v_t_thrown v_t_wish v_t_found)), ((a_t 19), .inl (cB, 2000, .inl f_t_text))]) hD hS hA [0, 1] rfl
  refine va_calli (va_runV (As := [.long 32]) (rest := []) ⟨hx, hb, hml, hown, hts⟩ (c_Mo_over l dC dI cI cL cB q_t a_t s.heap.size v_t_things v_t_pipes v_t_wide v_t_size v_t_place v_t_number v_t_thrown v_t_wish v_t_found f_t_text 32 _ hw) (my_cwV 1 hts kw32_4914bae kw32_0f34b7b kw32_76cdcc2 kw32_7a5931c kw32_b51ddd1 rfl rfl (by decide +kernel) ⟨Nat.le_of_ble_eq_true rfl, Nat.le_of_ble_eq_true rfl⟩) ⟨fun a U g mk q => by obtain ⟨q0, q1, qP, qK, qD⟩ := q; exact ⟨q0, q1, qP, va_K.moved (u := U) (U := U.calling g mk a) (Vm.Alike.refl U.vm) qK, qD⟩, va_recv hK hP (ci := 7) (q0 := 0) rfl rfl, fun U hU hW => ⟨rfl, by rw [hU], by rw [hU]; exact hPc, va_K.moved hW.alike hK, hDc.weaken (fun _ _ _ _ => trivial)⟩⟩ rfl rfl hl.1 rfl (lv_room (Nat.le_of_ble_eq_true rfl)) d_Mo_value_4 ⟨Nat.zero_le _, Nat.zero_le _⟩) hS (fun q _ h => hFc q h) hFc (fun r4 v_t_place_c4 t H locs ht hvm hw hB hz1 hk1 hS => ?_)
  obtain ⟨hP1, hK1, hD1⟩ := hB
  rw [ht] at hP1
  obtain ⟨hP, hD⟩ := va_join (wr := []) (w1 := [(q_t, .inr (7, o_Mo a_t v_t_things v_t_pipes v_t_wide v_t_size v_t_place_c4 v_t_number v_t_thrown v_t_wish v_t_found)), ((a_t 19), .inl (cB, 2000, .inl f_t_text))]) hP hD [0, 1] [] rfl rfl (by decide) (by decide) hk1 hFc hP1 hD1
  have hP : va_P (dC, dI) classes [(q_t, .inr (7, o_Mo a_t v_t_things v_t_pipes v_t_wide v_t_size v_t_place_c4 v_t_number v_t_thrown v_t_wish v_t_found)), ((a_t 19), .inl (cB, 2000, .inl f_t_text))] H := hP.sub (ws' := [(q_t, .inr (7, o_Mo a_t v_t_things v_t_pipes v_t_wide v_t_size v_t_place_c4 v_t_number v_t_thrown v_t_wish v_t_found)), ((a_t 19), .inl (cB, 2000, .inl f_t_text))]) [0, 1] rfl
  have hD : va_D A [(q_t, .inr (7, o_Mo a_t v_t_things v_t_pipes v_t_wide v_t_size v_t_place_c4 v_t_number v_t_thrown v_t_wish v_t_found)), ((a_t 19), .inl (cB, 2000, .inl f_t_text))] := hD.sub (ws' := [(q_t, .inr (7, o_Mo a_t v_t_things v_t_pipes v_t_wide v_t_size v_t_place_c4 v_t_number v_t_thrown v_t_wish v_t_found)), ((a_t 19), .inl (cB, 2000, .inl f_t_text))]) [0, 1] (by decide) rfl
  refine lv_if_ne (tgt := 12) hx hb d_Mo_value_7 (by decide) (fun c7 => ?_) (fun c7 => ?_)
  · replace hw := hw.1 c7
    refine lv_aload_n hx hb d_Mo_value_12 rfl (lv_at hl 0 rfl) ?_
    refine lv_ldc2 (v := (-1)) hx hb hown (hts (Cond.constantLong R_Mo 141 (-1)) kw32_485221d) d_Mo_value_13 ?_
    refine va_put (D := (dC, dI)) (ci := 7) (v := .long (-1)) (ty := .long) (C := R_Mo) (T := F_Mo) (N := 29) hx hb hts i_Mo t_Mo t_Mo_ok n_Mo hown hK hP hD hS 0 rfl rfl 22 (by decide) (hts (Cond.fieldLink R_Mo 161 "PlantGraphModel" "number" "J") kw32_95e4c86) (fun _ h9 => h9) rfl (by decide +kernel) rfl rfl (Nat.le_of_ble_eq_true rfl) d_Mo_value_16 (fun H locs hP hD hS => ?_)
    have hP : va_P (dC, dI) classes [(q_t, .inr (7, o_Mo a_t v_t_things v_t_pipes v_t_wide v_t_size v_t_place_c4 (-1) v_t_thrown v_t_wish v_t_found)), ((a_t 19), .inl (cB, 2000, .inl f_t_text))] H := hP
    have hD : va_D A [(q_t, .inr (7, o_Mo a_t v_t_things v_t_pipes v_t_wide v_t_size v_t_place_c4 (-1) v_t_thrown v_t_wish v_t_found)), ((a_t 19), .inl (cB, 2000, .inl f_t_text))] := hD
    refine lv_iload_n hx hb d_Mo_value_19 rfl (lv_at hl 1 rfl) ?_
    refine lv_if_eq (tgt := 44) hx hb d_Mo_value_20 (by decide) (fun c20 => ?_) (fun c20 => ?_)
    · replace hw := hw.1 c20
      exact J_44 v_t_place_c4 (-1) H _ _ hP hD hS (lv_sub hl [0] rfl) hw
    · replace hw := hw.2 c20
      refine lv_aload_n hx hb d_Mo_value_23 rfl (lv_at hl 0 rfl) ?_
      have hPc := hP.sub (ws' := [(q_t, .inr (7, o_Mo a_t v_t_things v_t_pipes v_t_wide v_t_size v_t_place_c4 (-1) v_t_thrown v_t_wish v_t_found)), ((a_t 19), .inl (cB, 2000, .inl f_t_text))]) [0, 1] rfl
      have hDc := hD.sub (ws' := [(q_t, .inr (7, o_Mo a_t v_t_things v_t_pipes v_t_wide v_t_size v_t_place_c4 (-1) v_t_thrown v_t_wish v_t_found)), ((a_t 19), .inl (cB, 2000, .inl f_t_text))]) [0, 1] (by decide) rfl
      have hFc := va_free (wc := [(q_t, .inr (7, o_Mo a_t v_t_things v_t_pipes v_t_wide v_t_size v_t_place_c4 (-1) v_t_thrown v_t_wish v_t_found)), ((a_t 19), .inl (cB, 2000, .inl f_t_text))]) hD hS hA [0, 1] rfl
      refine va_calli (va_runV (As := []) (rest := []) ⟨hx, hb, hml, hown, hts⟩ (c_Mo_here l dC dI cI cL cB q_t a_t H.size v_t_things v_t_pipes v_t_wide v_t_size v_t_place_c4 (-1) v_t_thrown v_t_wish v_t_found f_t_text  _ hw) (my_cwV 0 hts kw32_5ffaa2f kw32_4ddafd5 kw32_d996e64 kw32_7a5931c kw32_a4d8f3a rfl rfl (by decide +kernel) ⟨Nat.le_of_ble_eq_true rfl, Nat.le_of_ble_eq_true rfl⟩) ⟨fun a U g mk q => by obtain ⟨q0, q1, qP, qK, qD⟩ := q; exact ⟨q0, q1, qP, va_K.moved (u := U) (U := U.calling g mk a) (Vm.Alike.refl U.vm) qK, qD⟩, va_recv hK hP (ci := 7) (q0 := 0) rfl rfl, fun U hU hW => ⟨rfl, by rw [hU], by rw [hU]; exact hPc, va_K.moved hW.alike hK, hDc.weaken (fun _ _ _ _ => trivial)⟩⟩ rfl rfl hl.1 rfl (lv_room (Nat.le_of_ble_eq_true rfl)) d_Mo_value_24 ⟨Nat.zero_le _, Nat.zero_le _⟩) hS (fun q _ h => hFc q h) hFc (fun r24 u t H locs ht hvm hw hB hz1 hk1 hS => ?_)
      obtain ⟨hP1, hK1, hD1⟩ := hB
      rw [ht] at hP1
      obtain ⟨hP, hD⟩ := va_join (wr := []) (w1 := [(q_t, .inr (7, o_Mo a_t v_t_things v_t_pipes v_t_wide v_t_size v_t_place_c4 (-1) v_t_thrown v_t_wish v_t_found)), ((a_t 19), .inl (cB, 2000, .inl f_t_text))]) hP hD [0, 1] [] rfl rfl (by decide) (by decide) hk1 hFc hP1 hD1
      have hP : va_P (dC, dI) classes [(q_t, .inr (7, o_Mo a_t v_t_things v_t_pipes v_t_wide v_t_size v_t_place_c4 (-1) v_t_thrown v_t_wish v_t_found)), ((a_t 19), .inl (cB, 2000, .inl f_t_text))] H := hP.sub (ws' := [(q_t, .inr (7, o_Mo a_t v_t_things v_t_pipes v_t_wide v_t_size v_t_place_c4 (-1) v_t_thrown v_t_wish v_t_found)), ((a_t 19), .inl (cB, 2000, .inl f_t_text))]) [0, 1] rfl
      have hD : va_D A [(q_t, .inr (7, o_Mo a_t v_t_things v_t_pipes v_t_wide v_t_size v_t_place_c4 (-1) v_t_thrown v_t_wish v_t_found)), ((a_t 19), .inl (cB, 2000, .inl f_t_text))] := hD.sub (ws' := [(q_t, .inr (7, o_Mo a_t v_t_things v_t_pipes v_t_wide v_t_size v_t_place_c4 (-1) v_t_thrown v_t_wish v_t_found)), ((a_t 19), .inl (cB, 2000, .inl f_t_text))]) [0, 1] (by decide) rfl
      refine lv_bipush (v := 45) hx hb d_Mo_value_27 (by decide) ?_
      refine lv_icmp_ne (tgt := 44) hx hb d_Mo_value_29 (by decide) (fun c29 => ?_) (fun c29 => ?_)
      · replace hw := hw.1 c29
        exact J_44 v_t_place_c4 (-1) H _ _ hP hD hS (lv_sub hl [0] rfl) hw
      · replace hw := hw.2 c29
        refine lv_aload_n hx hb d_Mo_value_32 rfl (lv_at hl 0 rfl) ?_
        refine lv_dup hx hb d_Mo_value_33 rfl ?_
        refine va_get (D := (dC, dI)) (ci := 7) (v := .int v_t_place_c4) (C := R_Mo) (T := F_Mo) (N := 29) hx hb hts i_Mo hown hK hP 0 rfl rfl 21 (by decide) (hts (Cond.fieldLink R_Mo 146 "PlantGraphModel" "place" "I") kw32_72ee9a0) (fun _ h9 => h9) rfl d_Mo_value_34 ?_
        refine lv_iconst (v := 1) hx hb d_Mo_value_37 (by decide) ?_
        refine lv_iadd hx hb d_Mo_value_38 ?_
        refine va_put (D := (dC, dI)) (ci := 7) (v := .int (v_t_place_c4 + 1)) (ty := .int) (C := R_Mo) (T := F_Mo) (N := 29) hx hb hts i_Mo t_Mo t_Mo_ok n_Mo hown hK hP hD hS 0 rfl rfl 21 (by decide) (hts (Cond.fieldLink R_Mo 146 "PlantGraphModel" "place" "I") kw32_72ee9a0) (fun _ h9 => h9) rfl (by decide +kernel) rfl rfl (Nat.le_of_ble_eq_true rfl) d_Mo_value_39 (fun H locs hP hD hS => ?_)
        have hP : va_P (dC, dI) classes [(q_t, .inr (7, o_Mo a_t v_t_things v_t_pipes v_t_wide v_t_size (v_t_place_c4 + 1) (-1) v_t_thrown v_t_wish v_t_found)), ((a_t 19), .inl (cB, 2000, .inl f_t_text))] H := hP
        have hD : va_D A [(q_t, .inr (7, o_Mo a_t v_t_things v_t_pipes v_t_wide v_t_size (v_t_place_c4 + 1) (-1) v_t_thrown v_t_wish v_t_found)), ((a_t 19), .inl (cB, 2000, .inl f_t_text))] := hD
        refine lv_iconst (v := 1) hx hb d_Mo_value_42 (by decide) ?_
        exact W.zret (v := 1) hx hb hr (by decide) (fun t ht hW => ⟨⟨1, ((v_t_place_c4 + 1), (-1)), rfl, hw, by rw [ht]; exact hP, va_K.moved hW.alike hK, hD⟩, hS.F ht⟩) hS.2.2 d_Mo_value_43
  · replace hw := hw.2 c7
    refine lv_iconst (v := 0) hx hb d_Mo_value_10 (by decide) ?_
    exact W.zret (v := 0) hx hb hr (by decide) (fun t ht hW => ⟨⟨0, (v_t_place_c4, v_t_number), rfl, hw, by rw [ht]; exact hP, va_K.moved hW.alike hK, hD⟩, hS.F ht⟩) hS.2.2 d_Mo_value_11
def wj_Mo_line_150 (v_t_size : Int32) (f_t_text : (Nat → Int32)) (B_129 : Int32 → Int32 → Int64 → (Nat → Int32) → Prop) (K_156 : Int32 → Int32 → Int64 → (Nat → Int32) → Prop) (x3_J150 : Int32) (v_t_place_J150 : Int32) (v_t_number_J150 : Int64) (f_t_words_J150 : (Nat → Int32)) (s0_J150 : Int32) : Prop := wp_Mo_value v_t_size v_t_place_J150 v_t_number_J150 f_t_text s0_J150 (fun r150 v_t_place_c150 v_t_number_c150 => ((¬ r150 = 0 → (vp_in x3_J150 3 ∧ B_129 (x3_J150 + 1) v_t_place_c150 v_t_number_c150 (upd f_t_words_J150 x3_J150.toNatClampNeg ((v_t_number_c150 : Int64).toInt32)))) ∧ (r150 = 0 → K_156 x3_J150 v_t_place_c150 v_t_number_c150 f_t_words_J150)))
def wk_Mo_line_156_129 (P : Int32 → Int32 → Int64 → (Nat → Int32) → Prop) (x3_L129 : Int32) (v_t_place_L129 : Int32) (v_t_number_L129 : Int64) (f_t_words_L129 : (Nat → Int32)) : Prop := P (-1) v_t_place_L129 v_t_number_L129 f_t_words_L129
def wk_Mo_line_175_129 (v_t_size : Int32) (f_t_text : (Nat → Int32)) (x1_J120 : Int32) (P : Int32 → Int32 → Int64 → (Nat → Int32) → Prop) (x3_L129 : Int32) (v_t_place_L129 : Int32) (v_t_number_L129 : Int64) (f_t_words_L129 : (Nat → Int32)) : Prop := wp_Mo_here v_t_size v_t_place_L129 f_t_text (fun r176 => ((¬ r176 = (10 : Int32) → P (-1) v_t_place_L129 v_t_number_L129 f_t_words_L129) ∧ (r176 = (10 : Int32) → P x1_J120 v_t_place_L129 v_t_number_L129 f_t_words_L129)))
def wj_Mo_line_149 (v_t_size : Int32) (f_t_text : (Nat → Int32)) (B_129 : Int32 → Int32 → Int64 → (Nat → Int32) → Prop) (K_156 : Int32 → Int32 → Int64 → (Nat → Int32) → Prop) (x3_J149 : Int32) (v_t_place_J149 : Int32) (v_t_number_J149 : Int64) (f_t_words_J149 : (Nat → Int32)) : Prop := wj_Mo_line_150 v_t_size f_t_text (B_129) K_156 x3_J149 v_t_place_J149 v_t_number_J149 f_t_words_J149 0
def wl_Mo_line_129 (x2_J120 : Int32) (x1_J120 : Int32) (v_t_size : Int32) (f_t_text : (Nat → Int32)) (K_156 : Int32 → Int32 → Int64 → (Nat → Int32) → Prop) (K_175 : Int32 → Int32 → Int64 → (Nat → Int32) → Prop) : Nat → Int32 → Int32 → Int64 → (Nat → Int32) → Prop
  | 0, _, _, _, _ => False
  | k_129 + 1, x3_L129, v_t_place_L129, v_t_number_L129, f_t_words_L129 => ((x2_J120 ≤ x3_L129 → K_175 x3_L129 v_t_place_L129 v_t_number_L129 f_t_words_L129) ∧ (¬ x2_J120 ≤ x3_L129 → ((¬ x1_J120 = (3 : Int32) → wj_Mo_line_149 v_t_size f_t_text (wl_Mo_line_129 x2_J120 x1_J120 v_t_size f_t_text K_156 K_175 k_129) K_156 x3_L129 v_t_place_L129 v_t_number_L129 f_t_words_L129) ∧ (x1_J120 = (3 : Int32) → (((2 : Int32) ≤ x3_L129 → wj_Mo_line_149 v_t_size f_t_text (wl_Mo_line_129 x2_J120 x1_J120 v_t_size f_t_text K_156 K_175 k_129) K_156 x3_L129 v_t_place_L129 v_t_number_L129 f_t_words_L129) ∧ (¬ (2 : Int32) ≤ x3_L129 → wj_Mo_line_150 v_t_size f_t_text (wl_Mo_line_129 x2_J120 x1_J120 v_t_size f_t_text K_156 K_175 k_129) K_156 x3_L129 v_t_place_L129 v_t_number_L129 f_t_words_L129 1))))))
def wj_Mo_line_120 (v_t_size : Int32) (f_t_text : (Nat → Int32)) (P : Int32 → Int32 → Int64 → (Nat → Int32) → Prop) (x1_J120 : Int32) (x2_J120 : Int32) (v_t_place_J120 : Int32) (v_t_number_J120 : Int64) (f_t_words_J120 : (Nat → Int32)) : Prop := ((¬ x1_J120 = ((-1) : Int32) → (∃ n_129 : Nat, wl_Mo_line_129 x2_J120 x1_J120 v_t_size f_t_text (wk_Mo_line_156_129 P) (wk_Mo_line_175_129 v_t_size f_t_text x1_J120 P) n_129 0 v_t_place_J120 v_t_number_J120 f_t_words_J120)) ∧ (x1_J120 = ((-1) : Int32) → P (-1) v_t_place_J120 v_t_number_J120 f_t_words_J120))
def wj_Mo_line_117 (v_t_size : Int32) (f_t_text : (Nat → Int32)) (P : Int32 → Int32 → Int64 → (Nat → Int32) → Prop) (v_t_place_J117 : Int32) (v_t_number_J117 : Int64) (f_t_words_J117 : (Nat → Int32)) (s0_J117 : Int32) : Prop := wj_Mo_line_120 v_t_size f_t_text P s0_J117 3 v_t_place_J117 v_t_number_J117 f_t_words_J117
def wj_Mo_line_98 (v_t_size : Int32) (f_t_text : (Nat → Int32)) (P : Int32 → Int32 → Int64 → (Nat → Int32) → Prop) (x2_J98 : Int32) (v_t_place_J98 : Int32) (v_t_number_J98 : Int64) (f_t_words_J98 : (Nat → Int32)) (s0_J98 : Int32) : Prop := wj_Mo_line_120 v_t_size f_t_text P s0_J98 x2_J98 v_t_place_J98 v_t_number_J98 f_t_words_J98
def wj_Mo_line_58 (v_t_size : Int32) (f_t_text : (Nat → Int32)) (P : Int32 → Int32 → Int64 → (Nat → Int32) → Prop) (v_t_place_J58 : Int32) (v_t_number_J58 : Int64) (f_t_words_J58 : (Nat → Int32)) (s0_J58 : Int32) : Prop := wj_Mo_line_120 v_t_size f_t_text P s0_J58 1 v_t_place_J58 v_t_number_J58 f_t_words_J58
def wj_Mo_line_28 (v_t_size : Int32) (f_t_text : (Nat → Int32)) (P : Int32 → Int32 → Int64 → (Nat → Int32) → Prop) (v_t_place_J28 : Int32) (v_t_number_J28 : Int64) (f_t_words_J28 : (Nat → Int32)) (s0_J28 : Int32) : Prop := wj_Mo_line_120 v_t_size f_t_text P s0_J28 1 v_t_place_J28 v_t_number_J28 f_t_words_J28
def wp_Mo_line (v_t_size : Int32) (v_t_place : Int32) (v_t_number : Int64) (f_t_text : (Nat → Int32)) (f_t_words : (Nat → Int32)) (P : Int32 → Int32 → Int64 → (Nat → Int32) → Prop) : Prop := wp_Mo_here v_t_size v_t_place f_t_text (fun r5 => ((¬ r5 = (116 : Int32) → wp_Mo_here v_t_size v_t_place f_t_text (fun r35 => ((¬ r35 = (118 : Int32) → wp_Mo_over v_t_size v_t_place f_t_text 112 (fun r68 v_t_place_c68 => ((r68 = 0 → wj_Mo_line_120 v_t_size f_t_text P (-1) 0 v_t_place_c68 v_t_number f_t_words) ∧ (¬ r68 = 0 → wp_Mo_here v_t_size v_t_place_c68 f_t_text (fun r75 => ((¬ r75 = (117 : Int32) → wp_Mo_over v_t_size v_t_place_c68 f_t_text 6647913 (fun r106 v_t_place_c106 => ((r106 = 0 → wj_Mo_line_117 v_t_size f_t_text P v_t_place_c106 v_t_number f_t_words (-1)) ∧ (¬ r106 = 0 → wj_Mo_line_117 v_t_size f_t_text P v_t_place_c106 v_t_number f_t_words 3)))) ∧ (r75 = (117 : Int32) → wp_Mo_over v_t_size v_t_place_c68 f_t_text 7368053 (fun r87 v_t_place_c87 => ((r87 = 0 → wj_Mo_line_98 v_t_size f_t_text P 0 v_t_place_c87 v_t_number f_t_words (-1)) ∧ (¬ r87 = 0 → wj_Mo_line_98 v_t_size f_t_text P 0 v_t_place_c87 v_t_number f_t_words 1)))))))))) ∧ (r35 = (118 : Int32) → wp_Mo_over v_t_size v_t_place f_t_text 435778511222 (fun r47 v_t_place_c47 => ((r47 = 0 → wj_Mo_line_58 v_t_size f_t_text P v_t_place_c47 v_t_number f_t_words (-1)) ∧ (¬ r47 = 0 → wj_Mo_line_58 v_t_size f_t_text P v_t_place_c47 v_t_number f_t_words 2))))))) ∧ (r5 = (116 : Int32) → wp_Mo_over v_t_size v_t_place f_t_text 1802396020 (fun r17 v_t_place_c17 => ((r17 = 0 → wj_Mo_line_28 v_t_size f_t_text P v_t_place_c17 v_t_number f_t_words (-1)) ∧ (¬ r17 = 0 → wj_Mo_line_28 v_t_size f_t_text P v_t_place_c17 v_t_number f_t_words 0))))))
def w_Mo_line : List Cond := .code y_Mo_line b_Mo_line 4 (some .int) :: tb
abbrev rm_Mo_line : Room := { frames := 3, cells := 0, slots := 0, locals := 66 }
abbrev Q_Mo_line (dC : Nat → ClassId) (dI : Nat → Nat → Nat) (cI cL cB : ClassId) (q_t : Nat) (a_t : Nat → Nat) (v_t_things : Int32) (v_t_pipes : Int32) (v_t_wide : Int32) (v_t_size : Int32) (v_t_place : Int32) (v_t_number : Int64) (v_t_thrown : Int32) (v_t_wish : Int32) (v_t_found : Int32) (f_t_text : (Nat → Int32)) (f_t_words : (Nat → Int32)) (P : Int32 → Int32 → Int64 → (Nat → Int32) → Prop) (A : Nat → Prop) : Array Value → State → Outcome → State → Prop := va_Qi (fun (r : Int32) (u : Int32 × Int64 × (Nat → Int32)) => P r u.1 u.2.1 u.2.2) (fun u t => va_P (dC, dI) classes [(q_t, .inr (7, o_Mo a_t v_t_things v_t_pipes v_t_wide v_t_size u.1 u.2.1 v_t_thrown v_t_wish v_t_found)), ((a_t 19), .inl (cB, 2000, .inl f_t_text)), ((a_t 25), .inl (cI, 3, .inl u.2.2))] t.heap ∧ va_K (dC, dI) classes [(cI, .int), (cL, .long), (cB, .byte)] t ∧ va_D A [(q_t, .inr (7, o_Mo a_t v_t_things v_t_pipes v_t_wide v_t_size u.1 u.2.1 v_t_thrown v_t_wish v_t_found)), ((a_t 19), .inl (cB, 2000, .inl f_t_text)), ((a_t 25), .inl (cI, 3, .inl u.2.2))]) A
set_option maxHeartbeats 4000000 in
set_option maxRecDepth 100000 in
theorem c_Mo_line (l : Launch) (dC : Nat → ClassId) (dI : Nat → Nat → Nat) (cI cL cB : ClassId) (q_t : Nat) (a_t : Nat → Nat) (sz : Nat) (v_t_things : Int32) (v_t_pipes : Int32) (v_t_wide : Int32) (v_t_size : Int32) (v_t_place : Int32) (v_t_number : Int64) (v_t_thrown : Int32) (v_t_wish : Int32) (v_t_found : Int32) (f_t_text : (Nat → Int32)) (f_t_words : (Nat → Int32)) (P : Int32 → Int32 → Int64 → (Nat → Int32) → Prop) (hw : wp_Mo_line v_t_size v_t_place v_t_number f_t_text f_t_words P) : Met l y_Mo_line w_Mo_line rm_Mo_line (va_Pc [.ref q_t] (fun U => U.heap.size = sz ∧ va_P (dC, dI) classes [(q_t, .inr (7, o_Mo a_t v_t_things v_t_pipes v_t_wide v_t_size v_t_place v_t_number v_t_thrown v_t_wish v_t_found)), ((a_t 19), .inl (cB, 2000, .inl f_t_text)), ((a_t 25), .inl (cI, 3, .inl f_t_words))] U.heap ∧ va_K (dC, dI) classes [(cI, .int), (cL, .long), (cB, .byte)] U ∧ va_D (fun _ => True) [(q_t, .inr (7, o_Mo a_t v_t_things v_t_pipes v_t_wide v_t_size v_t_place v_t_number v_t_thrown v_t_wish v_t_found)), ((a_t 19), .inl (cB, 2000, .inl f_t_text)), ((a_t 25), .inl (cI, 3, .inl f_t_words))])) (Q_Mo_line dC dI cI cL cB q_t a_t v_t_things v_t_pipes v_t_wide v_t_size v_t_place v_t_number v_t_thrown v_t_wish v_t_found f_t_text f_t_words P (va_A [(q_t, .inr (7, o_Mo a_t v_t_things v_t_pipes v_t_wide v_t_size v_t_place v_t_number v_t_thrown v_t_wish v_t_found)), ((a_t 19), .inl (cB, 2000, .inl f_t_text)), ((a_t 25), .inl (cI, 3, .inl f_t_words))] sz)) 0 0 (va_A [(q_t, .inr (7, o_Mo a_t v_t_things v_t_pipes v_t_wide v_t_size v_t_place v_t_number v_t_thrown v_t_wish v_t_found)), ((a_t 19), .inl (cB, 2000, .inl f_t_text)), ((a_t 25), .inl (cI, 3, .inl f_t_words))] sz) := by
  refine Met.ofW (cc := b_Mo_line) (maxL := 4) (ret := (some .int)) (by decide) rfl ?_
  intro p e s m args below meth c s₁ B hml hv
  obtain ⟨ha, hsz, hP, hK, hD0⟩ := hv
  have hx := B.exec
  have hb := B.bytes
  have hr := B.returns
  have hts0 := atoms_spec (ws := w_Mo_line) B.pre
  have hts : ∀ w ∈ tb, w.before args s = true := fun w h => hts0 w (List.mem_cons_of_mem _ h)
  have hown : s.vm.findClass R_Mo = some m.cls := findClass_of_methodNamed B.named
  have hlocks := B.notSynchronized
  subst hsz
  have hD := hD0.self (sz := s.heap.size)
  generalize hAe : va_A [(q_t, .inr (7, o_Mo a_t v_t_things v_t_pipes v_t_wide v_t_size v_t_place v_t_number v_t_thrown v_t_wish v_t_found)), ((a_t 19), .inl (cB, 2000, .inl f_t_text)), ((a_t 25), .inl (cI, 3, .inl f_t_words))] s.heap.size = A at hD ⊢
  have hA : ∀ q : Nat, s.heap.size ≤ q → A q := fun q h => by rw [← hAe]; exact Or.inr h
  have hS : va_S A s.heap s.heap [] := va_S.rf
  have hP : va_P (dC, dI) classes [(q_t, .inr (7, o_Mo a_t v_t_things v_t_pipes v_t_wide v_t_size v_t_place v_t_number v_t_thrown v_t_wish v_t_found)), ((a_t 19), .inl (cB, 2000, .inl f_t_text)), ((a_t 25), .inl (cI, 3, .inl f_t_words))] s.heap := hP
  have hl := lv_entry [.ref q_t] (n := 4) (Nat.le_of_ble_eq_true rfl)
  have he9 : entryFrame m args 4 = F0 m 0 ((lg_sl [.ref q_t] ++ List.replicate (4 - (lg_sl [.ref q_t]).length) Slot.unset).toArray) [] := by rw [ha]; exact lg_entry_eq _ _ _
  rw [he9]
  clear he9
  generalize (lg_sl [.ref q_t] ++ List.replicate (4 - (lg_sl [.ref q_t]).length) Slot.unset).toArray = ls at hl ⊢
  have hl : lv_has ls 4 [(0, .ref q_t)] := hl
  unfold wp_Mo_line at hw
  have J_120 : ∀ (x1_J120 : Int32) (x2_J120 : Int32) (v_t_place_J120 : Int32) (v_t_number_J120 : Int64) (f_t_words_J120 : (Nat → Int32)) (H : Heap) (locs : List Loc) (ls : Array Slot), va_P (dC, dI) classes [(q_t, .inr (7, o_Mo a_t v_t_things v_t_pipes v_t_wide v_t_size v_t_place_J120 v_t_number_J120 v_t_thrown v_t_wish v_t_found)), ((a_t 19), .inl (cB, 2000, .inl f_t_text)), ((a_t 25), .inl (cI, 3, .inl f_t_words_J120))] H → va_D A [(q_t, .inr (7, o_Mo a_t v_t_things v_t_pipes v_t_wide v_t_size v_t_place_J120 v_t_number_J120 v_t_thrown v_t_wish v_t_found)), ((a_t 19), .inl (cB, 2000, .inl f_t_text)), ((a_t 25), .inl (cI, 3, .inl f_t_words_J120))] → va_S A s.heap H locs → lv_has ls 4 [(0, .ref q_t), (1, .int x1_J120), (2, .int x2_J120)] → wj_Mo_line_120 v_t_size f_t_text P x1_J120 x2_J120 v_t_place_J120 v_t_number_J120 f_t_words_J120 → W p l e (headSpec w_Mo_line rm_Mo_line).room s m args below meth c H locs 0 0 (MQ below (Q_Mo_line dC dI cI cL cB q_t a_t v_t_things v_t_pipes v_t_wide v_t_size v_t_place v_t_number v_t_thrown v_t_wish v_t_found f_t_text f_t_words P A) args s 0 0 A) (F0 m 120 ls []) := by
    intro x1_J120 x2_J120 v_t_place_J120 v_t_number_J120 f_t_words_J120 H locs ls hP hD hS hl hw
    unfold wj_Mo_line_120 at hw
    refine lv_iload_n hx hb d_Mo_line_120 rfl (lv_at hl 1 rfl) ?_
    refine lv_iconst (v := (-1)) hx hb d_Mo_line_121 (by decide) ?_
    refine lv_icmp_ne (tgt := 127) hx hb d_Mo_line_122 (by decide) (fun c122 => ?_) (fun c122 => ?_)
    · replace hw := hw.1 c122
      refine lv_iconst (v := 0) hx hb d_Mo_line_127 (by decide) ?_
      refine lv_istore_n (lv' := [(3, .int 0), (0, .ref q_t), (1, .int x1_J120), (2, .int x2_J120)]) hx hb d_Mo_line_128 rfl hl (by decide) rfl (fun ls hl => ?_)
      obtain ⟨n_129, hw⟩ := hw
      have EX_156 : ∀ (x3_L129 : Int32) (v_t_place_L129 : Int32) (v_t_number_L129 : Int64) (f_t_words_L129 : (Nat → Int32)) (H : Heap) (locs : List Loc) (ls : Array Slot), va_P (dC, dI) classes [(q_t, .inr (7, o_Mo a_t v_t_things v_t_pipes v_t_wide v_t_size v_t_place_L129 v_t_number_L129 v_t_thrown v_t_wish v_t_found)), ((a_t 19), .inl (cB, 2000, .inl f_t_text)), ((a_t 25), .inl (cI, 3, .inl f_t_words_L129))] H → va_D A [(q_t, .inr (7, o_Mo a_t v_t_things v_t_pipes v_t_wide v_t_size v_t_place_L129 v_t_number_L129 v_t_thrown v_t_wish v_t_found)), ((a_t 19), .inl (cB, 2000, .inl f_t_text)), ((a_t 25), .inl (cI, 3, .inl f_t_words_L129))] → va_S A s.heap H locs → lv_has ls 4 [(0, .ref q_t), (1, .int x1_J120), (2, .int x2_J120), (3, .int x3_L129)] → wk_Mo_line_156_129 P x3_L129 v_t_place_L129 v_t_number_L129 f_t_words_L129 → W p l e (headSpec w_Mo_line rm_Mo_line).room s m args below meth c H locs 0 0 (MQ below (Q_Mo_line dC dI cI cL cB q_t a_t v_t_things v_t_pipes v_t_wide v_t_size v_t_place v_t_number v_t_thrown v_t_wish v_t_found f_t_text f_t_words P A) args s 0 0 A) (F0 m 156 ls []) := by
        intro x3_L129 v_t_place_L129 v_t_number_L129 f_t_words_L129 H locs ls hP hD hS hl hw
        unfold wk_Mo_line_156_129 at hw
        refine lv_iconst (v := (-1)) hx hb d_Mo_line_156 (by decide) ?_
        exact W.iret (v := (-1)) hx hb hr (fun t ht hW => ⟨⟨(-1), (v_t_place_L129, v_t_number_L129, f_t_words_L129), rfl, hw, by rw [ht]; exact hP, va_K.moved hW.alike hK, hD⟩, hS.F ht⟩) hS.2.2 d_Mo_line_157
      have EX_175 : ∀ (x3_L129 : Int32) (v_t_place_L129 : Int32) (v_t_number_L129 : Int64) (f_t_words_L129 : (Nat → Int32)) (H : Heap) (locs : List Loc) (ls : Array Slot), va_P (dC, dI) classes [(q_t, .inr (7, o_Mo a_t v_t_things v_t_pipes v_t_wide v_t_size v_t_place_L129 v_t_number_L129 v_t_thrown v_t_wish v_t_found)), ((a_t 19), .inl (cB, 2000, .inl f_t_text)), ((a_t 25), .inl (cI, 3, .inl f_t_words_L129))] H → va_D A [(q_t, .inr (7, o_Mo a_t v_t_things v_t_pipes v_t_wide v_t_size v_t_place_L129 v_t_number_L129 v_t_thrown v_t_wish v_t_found)), ((a_t 19), .inl (cB, 2000, .inl f_t_text)), ((a_t 25), .inl (cI, 3, .inl f_t_words_L129))] → va_S A s.heap H locs → lv_has ls 4 [(0, .ref q_t), (1, .int x1_J120), (2, .int x2_J120), (3, .int x3_L129)] → wk_Mo_line_175_129 v_t_size f_t_text x1_J120 P x3_L129 v_t_place_L129 v_t_number_L129 f_t_words_L129 → W p l e (headSpec w_Mo_line rm_Mo_line).room s m args below meth c H locs 0 0 (MQ below (Q_Mo_line dC dI cI cL cB q_t a_t v_t_things v_t_pipes v_t_wide v_t_size v_t_place v_t_number v_t_thrown v_t_wish v_t_found f_t_text f_t_words P A) args s 0 0 A) (F0 m 175 ls []) := by
        intro x3_L129 v_t_place_L129 v_t_number_L129 f_t_words_L129 H locs ls hP hD hS hl hw
        unfold wk_Mo_line_175_129 at hw
        refine lv_aload_n hx hb d_Mo_line_175 rfl (lv_at hl 0 rfl) ?_
        have hPc := hP.sub (ws' := [(q_t, .inr (7, o_Mo a_t v_t_things v_t_pipes v_t_wide v_t_size v_t_place_L129 v_t_number_L129 v_t_thrown v_t_wish v_t_found)), ((a_t 19), .inl (cB, 2000, .inl f_t_text))]) [0, 1] rfl
        have hDc := hD.sub (ws' := [(q_t, .inr (7, o_Mo a_t v_t_things v_t_pipes v_t_wide v_t_size v_t_place_L129 v_t_number_L129 v_t_thrown v_t_wish v_t_found)), ((a_t 19), .inl (cB, 2000, .inl f_t_text))]) [0, 1] (by decide) rfl
        have hFc := va_free (wc := [(q_t, .inr (7, o_Mo a_t v_t_things v_t_pipes v_t_wide v_t_size v_t_place_L129 v_t_number_L129 v_t_thrown v_t_wish v_t_found)), ((a_t 19), .inl (cB, 2000, .inl f_t_text))]) hD hS hA [0, 1] rfl
        refine va_calli (va_runV (As := []) (rest := []) ⟨hx, hb, hml, hown, hts⟩ (c_Mo_here l dC dI cI cL cB q_t a_t H.size v_t_things v_t_pipes v_t_wide v_t_size v_t_place_L129 v_t_number_L129 v_t_thrown v_t_wish v_t_found f_t_text  _ hw) (my_cwV 0 hts kw32_5ffaa2f kw32_4ddafd5 kw32_d996e64 kw32_7a5931c kw32_a4d8f3a rfl rfl (by decide +kernel) ⟨Nat.le_of_ble_eq_true rfl, Nat.le_of_ble_eq_true rfl⟩) ⟨fun a U g mk q => by obtain ⟨q0, q1, qP, qK, qD⟩ := q; exact ⟨q0, q1, qP, va_K.moved (u := U) (U := U.calling g mk a) (Vm.Alike.refl U.vm) qK, qD⟩, va_recv hK hP (ci := 7) (q0 := 0) rfl rfl, fun U hU hW => ⟨rfl, by rw [hU], by rw [hU]; exact hPc, va_K.moved hW.alike hK, hDc.weaken (fun _ _ _ _ => trivial)⟩⟩ rfl rfl hl.1 rfl (lv_room (Nat.le_of_ble_eq_true rfl)) d_Mo_line_176 ⟨Nat.zero_le _, Nat.zero_le _⟩) hS (fun q _ h => hFc q h) hFc (fun r176 u t H locs ht hvm hw hB hz1 hk1 hS => ?_)
        obtain ⟨hP1, hK1, hD1⟩ := hB
        rw [ht] at hP1
        obtain ⟨hP, hD⟩ := va_join (wr := [((a_t 25), .inl (cI, 3, .inl f_t_words_L129))]) (w1 := [(q_t, .inr (7, o_Mo a_t v_t_things v_t_pipes v_t_wide v_t_size v_t_place_L129 v_t_number_L129 v_t_thrown v_t_wish v_t_found)), ((a_t 19), .inl (cB, 2000, .inl f_t_text))]) hP hD [0, 1] [2] rfl rfl (by decide) (by decide) hk1 hFc hP1 hD1
        have hP : va_P (dC, dI) classes [(q_t, .inr (7, o_Mo a_t v_t_things v_t_pipes v_t_wide v_t_size v_t_place_L129 v_t_number_L129 v_t_thrown v_t_wish v_t_found)), ((a_t 19), .inl (cB, 2000, .inl f_t_text)), ((a_t 25), .inl (cI, 3, .inl f_t_words_L129))] H := hP.sub (ws' := [(q_t, .inr (7, o_Mo a_t v_t_things v_t_pipes v_t_wide v_t_size v_t_place_L129 v_t_number_L129 v_t_thrown v_t_wish v_t_found)), ((a_t 19), .inl (cB, 2000, .inl f_t_text)), ((a_t 25), .inl (cI, 3, .inl f_t_words_L129))]) [1, 2, 0] rfl
        have hD : va_D A [(q_t, .inr (7, o_Mo a_t v_t_things v_t_pipes v_t_wide v_t_size v_t_place_L129 v_t_number_L129 v_t_thrown v_t_wish v_t_found)), ((a_t 19), .inl (cB, 2000, .inl f_t_text)), ((a_t 25), .inl (cI, 3, .inl f_t_words_L129))] := hD.sub (ws' := [(q_t, .inr (7, o_Mo a_t v_t_things v_t_pipes v_t_wide v_t_size v_t_place_L129 v_t_number_L129 v_t_thrown v_t_wish v_t_found)), ((a_t 19), .inl (cB, 2000, .inl f_t_text)), ((a_t 25), .inl (cI, 3, .inl f_t_words_L129))]) [1, 2, 0] (by decide) rfl
        refine lv_bipush (v := 10) hx hb d_Mo_line_179 (by decide) ?_
        refine lv_icmp_ne (tgt := 188) hx hb d_Mo_line_181 (by decide) (fun c181 => ?_) (fun c181 => ?_)
        · replace hw := hw.1 c181
          refine lv_iconst (v := (-1)) hx hb d_Mo_line_188 (by decide) ?_
          exact W.iret (v := (-1)) hx hb hr (fun t ht hW => ⟨⟨(-1), (v_t_place_L129, v_t_number_L129, f_t_words_L129), rfl, hw, by rw [ht]; exact hP, va_K.moved hW.alike hK, hD⟩, hS.F ht⟩) hS.2.2 d_Mo_line_189
        · replace hw := hw.2 c181
          refine lv_iload_n hx hb d_Mo_line_184 rfl (lv_at hl 1 rfl) ?_
          refine lv_goto (tgt := 189) hx hb d_Mo_line_185 (by decide) ?_
          exact W.iret (v := x1_J120) hx hb hr (fun t ht hW => ⟨⟨x1_J120, (v_t_place_L129, v_t_number_L129, f_t_words_L129), rfl, hw, by rw [ht]; exact hP, va_K.moved hW.alike hK, hD⟩, hS.F ht⟩) hS.2.2 d_Mo_line_189
      have LP_129 : ∀ (k_129 : Nat) (x3_L129 : Int32) (v_t_place_L129 : Int32) (v_t_number_L129 : Int64) (f_t_words_L129 : (Nat → Int32)) (H : Heap) (locs : List Loc) (ls : Array Slot), va_P (dC, dI) classes [(q_t, .inr (7, o_Mo a_t v_t_things v_t_pipes v_t_wide v_t_size v_t_place_L129 v_t_number_L129 v_t_thrown v_t_wish v_t_found)), ((a_t 19), .inl (cB, 2000, .inl f_t_text)), ((a_t 25), .inl (cI, 3, .inl f_t_words_L129))] H → va_D A [(q_t, .inr (7, o_Mo a_t v_t_things v_t_pipes v_t_wide v_t_size v_t_place_L129 v_t_number_L129 v_t_thrown v_t_wish v_t_found)), ((a_t 19), .inl (cB, 2000, .inl f_t_text)), ((a_t 25), .inl (cI, 3, .inl f_t_words_L129))] → va_S A s.heap H locs → lv_has ls 4 [(0, .ref q_t), (1, .int x1_J120), (2, .int x2_J120), (3, .int x3_L129)] → wl_Mo_line_129 x2_J120 x1_J120 v_t_size f_t_text (wk_Mo_line_156_129 P) (wk_Mo_line_175_129 v_t_size f_t_text x1_J120 P) k_129 x3_L129 v_t_place_L129 v_t_number_L129 f_t_words_L129 → W p l e (headSpec w_Mo_line rm_Mo_line).room s m args below meth c H locs 0 0 (MQ below (Q_Mo_line dC dI cI cL cB q_t a_t v_t_things v_t_pipes v_t_wide v_t_size v_t_place v_t_number v_t_thrown v_t_wish v_t_found f_t_text f_t_words P A) args s 0 0 A) (F0 m 129 ls []) := by
        intro k_129
        induction k_129 with
        | zero => intro x3_L129 v_t_place_L129 v_t_number_L129 f_t_words_L129 H locs ls hP hD hS hl hw; unfold wl_Mo_line_129 at hw; exact hw.elim
        | succ k_129 ih_129 =>
          intro x3_L129 v_t_place_L129 v_t_number_L129 f_t_words_L129 H locs ls hP hD hS hl hw
          unfold wl_Mo_line_129 at hw
          have J_150 : ∀ (x3_J150 : Int32) (v_t_place_J150 : Int32) (v_t_number_J150 : Int64) (f_t_words_J150 : (Nat → Int32)) (s0_J150 : Int32) (H : Heap) (locs : List Loc) (ls : Array Slot), va_P (dC, dI) classes [(q_t, .inr (7, o_Mo a_t v_t_things v_t_pipes v_t_wide v_t_size v_t_place_J150 v_t_number_J150 v_t_thrown v_t_wish v_t_found)), ((a_t 19), .inl (cB, 2000, .inl f_t_text)), ((a_t 25), .inl (cI, 3, .inl f_t_words_J150))] H → va_D A [(q_t, .inr (7, o_Mo a_t v_t_things v_t_pipes v_t_wide v_t_size v_t_place_J150 v_t_number_J150 v_t_thrown v_t_wish v_t_found)), ((a_t 19), .inl (cB, 2000, .inl f_t_text)), ((a_t 25), .inl (cI, 3, .inl f_t_words_J150))] → va_S A s.heap H locs → lv_has ls 4 [(0, .ref q_t), (1, .int x1_J120), (2, .int x2_J120), (3, .int x3_J150)] → wj_Mo_line_150 v_t_size f_t_text (wl_Mo_line_129 x2_J120 x1_J120 v_t_size f_t_text (wk_Mo_line_156_129 P) (wk_Mo_line_175_129 v_t_size f_t_text x1_J120 P) k_129) (wk_Mo_line_156_129 P) x3_J150 v_t_place_J150 v_t_number_J150 f_t_words_J150 s0_J150 → W p l e (headSpec w_Mo_line rm_Mo_line).room s m args below meth c H locs 0 0 (MQ below (Q_Mo_line dC dI cI cL cB q_t a_t v_t_things v_t_pipes v_t_wide v_t_size v_t_place v_t_number v_t_thrown v_t_wish v_t_found f_t_text f_t_words P A) args s 0 0 A) (F0 m 150 ls [.int s0_J150, .ref q_t]) := by
            intro x3_J150 v_t_place_J150 v_t_number_J150 f_t_words_J150 s0_J150 H locs ls hP hD hS hl hw
            unfold wj_Mo_line_150 at hw
            have hPc := hP.sub (ws' := [(q_t, .inr (7, o_Mo a_t v_t_things v_t_pipes v_t_wide v_t_size v_t_place_J150 v_t_number_J150 v_t_thrown v_t_wish v_t_found)), ((a_t 19), .inl (cB, 2000, .inl f_t_text))]) [0, 1] rfl
            have hDc := hD.sub (ws' := [(q_t, .inr (7, o_Mo a_t v_t_things v_t_pipes v_t_wide v_t_size v_t_place_J150 v_t_number_J150 v_t_thrown v_t_wish v_t_found)), ((a_t 19), .inl (cB, 2000, .inl f_t_text))]) [0, 1] (by decide) rfl
            have hFc := va_free (wc := [(q_t, .inr (7, o_Mo a_t v_t_things v_t_pipes v_t_wide v_t_size v_t_place_J150 v_t_number_J150 v_t_thrown v_t_wish v_t_found)), ((a_t 19), .inl (cB, 2000, .inl f_t_text))]) hD hS hA [0, 1] rfl
            refine va_calli (va_runV (As := [.int s0_J150]) (rest := []) ⟨hx, hb, hml, hown, hts⟩ (c_Mo_value l dC dI cI cL cB q_t a_t H.size v_t_things v_t_pipes v_t_wide v_t_size v_t_place_J150 v_t_number_J150 v_t_thrown v_t_wish v_t_found f_t_text s0_J150 _ hw) (my_cwV 1 hts kw32_d148dfa kw32_f940ced kw32_6a7a569 kw32_7a5931c kw32_0ed84a1 rfl rfl (by decide +kernel) ⟨Nat.le_of_ble_eq_true rfl, Nat.le_of_ble_eq_true rfl⟩) ⟨fun a U g mk q => by obtain ⟨q0, q1, qP, qK, qD⟩ := q; exact ⟨q0, q1, qP, va_K.moved (u := U) (U := U.calling g mk a) (Vm.Alike.refl U.vm) qK, qD⟩, va_recv hK hP (ci := 7) (q0 := 0) rfl rfl, fun U hU hW => ⟨rfl, by rw [hU], by rw [hU]; exact hPc, va_K.moved hW.alike hK, hDc.weaken (fun _ _ _ _ => trivial)⟩⟩ rfl rfl hl.1 rfl (lv_room (Nat.le_of_ble_eq_true rfl)) d_Mo_line_150 ⟨Nat.zero_le _, Nat.zero_le _⟩) hS (fun q _ h => hFc q h) hFc (fun r150 u t H locs ht hvm hw hB hz1 hk1 hS => ?_)
            obtain ⟨v_t_place_c150, v_t_number_c150⟩ := u
            obtain ⟨hP1, hK1, hD1⟩ := hB
            rw [ht] at hP1
            obtain ⟨hP, hD⟩ := va_join (wr := [((a_t 25), .inl (cI, 3, .inl f_t_words_J150))]) (w1 := [(q_t, .inr (7, o_Mo a_t v_t_things v_t_pipes v_t_wide v_t_size v_t_place_c150 v_t_number_c150 v_t_thrown v_t_wish v_t_found)), ((a_t 19), .inl (cB, 2000, .inl f_t_text))]) hP hD [0, 1] [2] rfl rfl (by decide) (by decide) hk1 hFc hP1 hD1
            have hP : va_P (dC, dI) classes [(q_t, .inr (7, o_Mo a_t v_t_things v_t_pipes v_t_wide v_t_size v_t_place_c150 v_t_number_c150 v_t_thrown v_t_wish v_t_found)), ((a_t 19), .inl (cB, 2000, .inl f_t_text)), ((a_t 25), .inl (cI, 3, .inl f_t_words_J150))] H := hP.sub (ws' := [(q_t, .inr (7, o_Mo a_t v_t_things v_t_pipes v_t_wide v_t_size v_t_place_c150 v_t_number_c150 v_t_thrown v_t_wish v_t_found)), ((a_t 19), .inl (cB, 2000, .inl f_t_text)), ((a_t 25), .inl (cI, 3, .inl f_t_words_J150))]) [1, 2, 0] rfl
            have hD : va_D A [(q_t, .inr (7, o_Mo a_t v_t_things v_t_pipes v_t_wide v_t_size v_t_place_c150 v_t_number_c150 v_t_thrown v_t_wish v_t_found)), ((a_t 19), .inl (cB, 2000, .inl f_t_text)), ((a_t 25), .inl (cI, 3, .inl f_t_words_J150))] := hD.sub (ws' := [(q_t, .inr (7, o_Mo a_t v_t_things v_t_pipes v_t_wide v_t_size v_t_place_c150 v_t_number_c150 v_t_thrown v_t_wish v_t_found)), ((a_t 19), .inl (cB, 2000, .inl f_t_text)), ((a_t 25), .inl (cI, 3, .inl f_t_words_J150))]) [1, 2, 0] (by decide) rfl
            refine lv_if_ne (tgt := 158) hx hb d_Mo_line_153 (by decide) (fun c153 => ?_) (fun c153 => ?_)
            · replace hw := hw.1 c153
              refine lv_aload_n hx hb d_Mo_line_158 rfl (lv_at hl 0 rfl) ?_
              refine va_get (D := (dC, dI)) (ci := 7) (v := .ref (a_t 25)) (C := R_Mo) (T := F_Mo) (N := 29) hx hb hts i_Mo hown hK hP 0 rfl rfl 25 (by decide) (hts (Cond.fieldLink R_Mo 69 "PlantGraphModel" "words" "[I") kw32_6657e9c) (fun _ h9 => h9) rfl d_Mo_line_159 ?_
              refine lv_iload_n hx hb d_Mo_line_162 rfl (lv_at hl 3 rfl) ?_
              refine lv_aload_n hx hb d_Mo_line_163 rfl (lv_at hl 0 rfl) ?_
              refine va_get (D := (dC, dI)) (ci := 7) (v := .long v_t_number_c150) (C := R_Mo) (T := F_Mo) (N := 29) hx hb hts i_Mo hown hK hP 0 rfl rfl 22 (by decide) (hts (Cond.fieldLink R_Mo 161 "PlantGraphModel" "number" "J") kw32_95e4c86) (fun _ h9 => h9) rfl d_Mo_line_164 ?_
              refine lv_l2i hx hb d_Mo_line_167 rfl ?_
              refine va_iast hx hb hK hP hD hS 2 0 rfl rfl hw.1 d_Mo_line_168 (fun H locs hP hD hS => ?_)
              replace hw := hw.2
              have hP : va_P (dC, dI) classes [(q_t, .inr (7, o_Mo a_t v_t_things v_t_pipes v_t_wide v_t_size v_t_place_c150 v_t_number_c150 v_t_thrown v_t_wish v_t_found)), ((a_t 19), .inl (cB, 2000, .inl f_t_text)), ((a_t 25), .inl (cI, 3, .inl (upd f_t_words_J150 x3_J150.toNatClampNeg ((v_t_number_c150 : Int64).toInt32))))] H := hP
              have hD : va_D A [(q_t, .inr (7, o_Mo a_t v_t_things v_t_pipes v_t_wide v_t_size v_t_place_c150 v_t_number_c150 v_t_thrown v_t_wish v_t_found)), ((a_t 19), .inl (cB, 2000, .inl f_t_text)), ((a_t 25), .inl (cI, 3, .inl (upd f_t_words_J150 x3_J150.toNatClampNeg ((v_t_number_c150 : Int64).toInt32))))] := hD
              refine lv_iinc (v := (x3_J150 + 1)) (lv' := [(3, .int (x3_J150 + 1)), (0, .ref q_t), (1, .int x1_J120), (2, .int x2_J120)]) hx hb d_Mo_line_169 hl (k := 3) rfl rfl (by decide) rfl (fun ls hl => ?_)
              refine lv_goto (tgt := 129) hx hb d_Mo_line_172 (by decide) ?_
              exact ih_129 (x3_J150 + 1) v_t_place_c150 v_t_number_c150 (upd f_t_words_J150 x3_J150.toNatClampNeg ((v_t_number_c150 : Int64).toInt32)) H _ _ hP hD hS (lv_sub hl [1, 2, 3, 0] rfl) hw
            · replace hw := hw.2 c153
              exact EX_156 x3_J150 v_t_place_c150 v_t_number_c150 f_t_words_J150 H _ _ hP hD hS (lv_sub hl [0, 1, 2, 3] rfl) hw
          have J_149 : ∀ (x3_J149 : Int32) (v_t_place_J149 : Int32) (v_t_number_J149 : Int64) (f_t_words_J149 : (Nat → Int32)) (H : Heap) (locs : List Loc) (ls : Array Slot), va_P (dC, dI) classes [(q_t, .inr (7, o_Mo a_t v_t_things v_t_pipes v_t_wide v_t_size v_t_place_J149 v_t_number_J149 v_t_thrown v_t_wish v_t_found)), ((a_t 19), .inl (cB, 2000, .inl f_t_text)), ((a_t 25), .inl (cI, 3, .inl f_t_words_J149))] H → va_D A [(q_t, .inr (7, o_Mo a_t v_t_things v_t_pipes v_t_wide v_t_size v_t_place_J149 v_t_number_J149 v_t_thrown v_t_wish v_t_found)), ((a_t 19), .inl (cB, 2000, .inl f_t_text)), ((a_t 25), .inl (cI, 3, .inl f_t_words_J149))] → va_S A s.heap H locs → lv_has ls 4 [(0, .ref q_t), (1, .int x1_J120), (2, .int x2_J120), (3, .int x3_J149)] → wj_Mo_line_149 v_t_size f_t_text (wl_Mo_line_129 x2_J120 x1_J120 v_t_size f_t_text (wk_Mo_line_156_129 P) (wk_Mo_line_175_129 v_t_size f_t_text x1_J120 P) k_129) (wk_Mo_line_156_129 P) x3_J149 v_t_place_J149 v_t_number_J149 f_t_words_J149 → W p l e (headSpec w_Mo_line rm_Mo_line).room s m args below meth c H locs 0 0 (MQ below (Q_Mo_line dC dI cI cL cB q_t a_t v_t_things v_t_pipes v_t_wide v_t_size v_t_place v_t_number v_t_thrown v_t_wish v_t_found f_t_text f_t_words P A) args s 0 0 A) (F0 m 149 ls [.ref q_t]) := by
            intro x3_J149 v_t_place_J149 v_t_number_J149 f_t_words_J149 H locs ls hP hD hS hl hw
            unfold wj_Mo_line_149 at hw
            refine lv_iconst (v := 0) hx hb d_Mo_line_149 (by decide) ?_
            exact J_150 x3_J149 v_t_place_J149 v_t_number_J149 f_t_words_J149 0 H _ _ hP hD hS (lv_sub hl [0, 1, 2, 3] rfl) hw
          refine lv_iload_n hx hb d_Mo_line_129 rfl (lv_at hl 3 rfl) ?_
          refine lv_iload_n hx hb d_Mo_line_130 rfl (lv_at hl 2 rfl) ?_
          refine lv_icmp_ge (tgt := 175) hx hb d_Mo_line_131 (by decide) (fun c131 => ?_) (fun c131 => ?_)
          · replace hw := hw.1 c131
            exact EX_175 x3_L129 v_t_place_L129 v_t_number_L129 f_t_words_L129 H _ _ hP hD hS (lv_sub hl [0, 1, 2, 3] rfl) hw
          · replace hw := hw.2 c131
            refine lv_aload_n hx hb d_Mo_line_134 rfl (lv_at hl 0 rfl) ?_
            refine lv_iload_n hx hb d_Mo_line_135 rfl (lv_at hl 1 rfl) ?_
            refine lv_iconst (v := 3) hx hb d_Mo_line_136 (by decide) ?_
            refine lv_icmp_ne (tgt := 149) hx hb d_Mo_line_137 (by decide) (fun c137 => ?_) (fun c137 => ?_)
            · replace hw := hw.1 c137
              exact J_149 x3_L129 v_t_place_L129 v_t_number_L129 f_t_words_L129 H _ _ hP hD hS (lv_sub hl [0, 1, 2, 3] rfl) hw
            · replace hw := hw.2 c137
              refine lv_iload_n hx hb d_Mo_line_140 rfl (lv_at hl 3 rfl) ?_
              refine lv_iconst (v := 2) hx hb d_Mo_line_141 (by decide) ?_
              refine lv_icmp_ge (tgt := 149) hx hb d_Mo_line_142 (by decide) (fun c142 => ?_) (fun c142 => ?_)
              · replace hw := hw.1 c142
                exact J_149 x3_L129 v_t_place_L129 v_t_number_L129 f_t_words_L129 H _ _ hP hD hS (lv_sub hl [0, 1, 2, 3] rfl) hw
              · replace hw := hw.2 c142
                refine lv_iconst (v := 1) hx hb d_Mo_line_145 (by decide) ?_
                refine lv_goto (tgt := 150) hx hb d_Mo_line_146 (by decide) ?_
                exact J_150 x3_L129 v_t_place_L129 v_t_number_L129 f_t_words_L129 1 H _ _ hP hD hS (lv_sub hl [0, 1, 2, 3] rfl) hw
      exact LP_129 n_129 0 v_t_place_J120 v_t_number_J120 f_t_words_J120 H _ _ hP hD hS (lv_sub hl [1, 2, 3, 0] rfl) hw
    · replace hw := hw.2 c122
      refine lv_iconst (v := (-1)) hx hb d_Mo_line_125 (by decide) ?_
      exact W.iret (v := (-1)) hx hb hr (fun t ht hW => ⟨⟨(-1), (v_t_place_J120, v_t_number_J120, f_t_words_J120), rfl, hw, by rw [ht]; exact hP, va_K.moved hW.alike hK, hD⟩, hS.F ht⟩) hS.2.2 d_Mo_line_126
  have J_117 : ∀ (v_t_place_J117 : Int32) (v_t_number_J117 : Int64) (f_t_words_J117 : (Nat → Int32)) (s0_J117 : Int32) (H : Heap) (locs : List Loc) (ls : Array Slot), va_P (dC, dI) classes [(q_t, .inr (7, o_Mo a_t v_t_things v_t_pipes v_t_wide v_t_size v_t_place_J117 v_t_number_J117 v_t_thrown v_t_wish v_t_found)), ((a_t 19), .inl (cB, 2000, .inl f_t_text)), ((a_t 25), .inl (cI, 3, .inl f_t_words_J117))] H → va_D A [(q_t, .inr (7, o_Mo a_t v_t_things v_t_pipes v_t_wide v_t_size v_t_place_J117 v_t_number_J117 v_t_thrown v_t_wish v_t_found)), ((a_t 19), .inl (cB, 2000, .inl f_t_text)), ((a_t 25), .inl (cI, 3, .inl f_t_words_J117))] → va_S A s.heap H locs → lv_has ls 4 [(0, .ref q_t)] → wj_Mo_line_117 v_t_size f_t_text P v_t_place_J117 v_t_number_J117 f_t_words_J117 s0_J117 → W p l e (headSpec w_Mo_line rm_Mo_line).room s m args below meth c H locs 0 0 (MQ below (Q_Mo_line dC dI cI cL cB q_t a_t v_t_things v_t_pipes v_t_wide v_t_size v_t_place v_t_number v_t_thrown v_t_wish v_t_found f_t_text f_t_words P A) args s 0 0 A) (F0 m 117 ls [.int s0_J117]) := by
    intro v_t_place_J117 v_t_number_J117 f_t_words_J117 s0_J117 H locs ls hP hD hS hl hw
    unfold wj_Mo_line_117 at hw
    refine lv_istore_n (lv' := [(1, .int s0_J117), (0, .ref q_t)]) hx hb d_Mo_line_117 rfl hl (by decide) rfl (fun ls hl => ?_)
    refine lv_iconst (v := 3) hx hb d_Mo_line_118 (by decide) ?_
    refine lv_istore_n (lv' := [(2, .int 3), (1, .int s0_J117), (0, .ref q_t)]) hx hb d_Mo_line_119 rfl hl (by decide) rfl (fun ls hl => ?_)
    exact J_120 s0_J117 3 v_t_place_J117 v_t_number_J117 f_t_words_J117 H _ _ hP hD hS (lv_sub hl [2, 1, 0] rfl) hw
  have J_98 : ∀ (x2_J98 : Int32) (v_t_place_J98 : Int32) (v_t_number_J98 : Int64) (f_t_words_J98 : (Nat → Int32)) (s0_J98 : Int32) (H : Heap) (locs : List Loc) (ls : Array Slot), va_P (dC, dI) classes [(q_t, .inr (7, o_Mo a_t v_t_things v_t_pipes v_t_wide v_t_size v_t_place_J98 v_t_number_J98 v_t_thrown v_t_wish v_t_found)), ((a_t 19), .inl (cB, 2000, .inl f_t_text)), ((a_t 25), .inl (cI, 3, .inl f_t_words_J98))] H → va_D A [(q_t, .inr (7, o_Mo a_t v_t_things v_t_pipes v_t_wide v_t_size v_t_place_J98 v_t_number_J98 v_t_thrown v_t_wish v_t_found)), ((a_t 19), .inl (cB, 2000, .inl f_t_text)), ((a_t 25), .inl (cI, 3, .inl f_t_words_J98))] → va_S A s.heap H locs → lv_has ls 4 [(0, .ref q_t), (2, .int x2_J98)] → wj_Mo_line_98 v_t_size f_t_text P x2_J98 v_t_place_J98 v_t_number_J98 f_t_words_J98 s0_J98 → W p l e (headSpec w_Mo_line rm_Mo_line).room s m args below meth c H locs 0 0 (MQ below (Q_Mo_line dC dI cI cL cB q_t a_t v_t_things v_t_pipes v_t_wide v_t_size v_t_place v_t_number v_t_thrown v_t_wish v_t_found f_t_text f_t_words P A) args s 0 0 A) (F0 m 98 ls [.int s0_J98]) := by
    intro x2_J98 v_t_place_J98 v_t_number_J98 f_t_words_J98 s0_J98 H locs ls hP hD hS hl hw
    unfold wj_Mo_line_98 at hw
    refine lv_istore_n (lv' := [(1, .int s0_J98), (0, .ref q_t), (2, .int x2_J98)]) hx hb d_Mo_line_98 rfl hl (by decide) rfl (fun ls hl => ?_)
    refine lv_goto (tgt := 120) hx hb d_Mo_line_99 (by decide) ?_
    exact J_120 s0_J98 x2_J98 v_t_place_J98 v_t_number_J98 f_t_words_J98 H _ _ hP hD hS (lv_sub hl [1, 0, 2] rfl) hw
  have J_58 : ∀ (v_t_place_J58 : Int32) (v_t_number_J58 : Int64) (f_t_words_J58 : (Nat → Int32)) (s0_J58 : Int32) (H : Heap) (locs : List Loc) (ls : Array Slot), va_P (dC, dI) classes [(q_t, .inr (7, o_Mo a_t v_t_things v_t_pipes v_t_wide v_t_size v_t_place_J58 v_t_number_J58 v_t_thrown v_t_wish v_t_found)), ((a_t 19), .inl (cB, 2000, .inl f_t_text)), ((a_t 25), .inl (cI, 3, .inl f_t_words_J58))] H → va_D A [(q_t, .inr (7, o_Mo a_t v_t_things v_t_pipes v_t_wide v_t_size v_t_place_J58 v_t_number_J58 v_t_thrown v_t_wish v_t_found)), ((a_t 19), .inl (cB, 2000, .inl f_t_text)), ((a_t 25), .inl (cI, 3, .inl f_t_words_J58))] → va_S A s.heap H locs → lv_has ls 4 [(0, .ref q_t)] → wj_Mo_line_58 v_t_size f_t_text P v_t_place_J58 v_t_number_J58 f_t_words_J58 s0_J58 → W p l e (headSpec w_Mo_line rm_Mo_line).room s m args below meth c H locs 0 0 (MQ below (Q_Mo_line dC dI cI cL cB q_t a_t v_t_things v_t_pipes v_t_wide v_t_size v_t_place v_t_number v_t_thrown v_t_wish v_t_found f_t_text f_t_words P A) args s 0 0 A) (F0 m 58 ls [.int s0_J58]) := by
    intro v_t_place_J58 v_t_number_J58 f_t_words_J58 s0_J58 H locs ls hP hD hS hl hw
    unfold wj_Mo_line_58 at hw
    refine lv_istore_n (lv' := [(1, .int s0_J58), (0, .ref q_t)]) hx hb d_Mo_line_58 rfl hl (by decide) rfl (fun ls hl => ?_)
    refine lv_iconst (v := 1) hx hb d_Mo_line_59 (by decide) ?_
    refine lv_istore_n (lv' := [(2, .int 1), (1, .int s0_J58), (0, .ref q_t)]) hx hb d_Mo_line_60 rfl hl (by decide) rfl (fun ls hl => ?_)
    refine lv_goto (tgt := 120) hx hb d_Mo_line_61 (by decide) ?_
    exact J_120 s0_J58 1 v_t_place_J58 v_t_number_J58 f_t_words_J58 H _ _ hP hD hS (lv_sub hl [2, 1, 0] rfl) hw
  have J_28 : ∀ (v_t_place_J28 : Int32) (v_t_number_J28 : Int64) (f_t_words_J28 : (Nat → Int32)) (s0_J28 : Int32) (H : Heap) (locs : List Loc) (ls : Array Slot), va_P (dC, dI) classes [(q_t, .inr (7, o_Mo a_t v_t_things v_t_pipes v_t_wide v_t_size v_t_place_J28 v_t_number_J28 v_t_thrown v_t_wish v_t_found)), ((a_t 19), .inl (cB, 2000, .inl f_t_text)), ((a_t 25), .inl (cI, 3, .inl f_t_words_J28))] H → va_D A [(q_t, .inr (7, o_Mo a_t v_t_things v_t_pipes v_t_wide v_t_size v_t_place_J28 v_t_number_J28 v_t_thrown v_t_wish v_t_found)), ((a_t 19), .inl (cB, 2000, .inl f_t_text)), ((a_t 25), .inl (cI, 3, .inl f_t_words_J28))] → va_S A s.heap H locs → lv_has ls 4 [(0, .ref q_t)] → wj_Mo_line_28 v_t_size f_t_text P v_t_place_J28 v_t_number_J28 f_t_words_J28 s0_J28 → W p l e (headSpec w_Mo_line rm_Mo_line).room s m args below meth c H locs 0 0 (MQ below (Q_Mo_line dC dI cI cL cB q_t a_t v_t_things v_t_pipes v_t_wide v_t_size v_t_place v_t_number v_t_thrown v_t_wish v_t_found f_t_text f_t_words P A) args s 0 0 A) (F0 m 28 ls [.int s0_J28]) := by
    intro v_t_place_J28 v_t_number_J28 f_t_words_J28 s0_J28 H locs ls hP hD hS hl hw
    unfold wj_Mo_line_28 at hw
    refine lv_istore_n (lv' := [(1, .int s0_J28), (0, .ref q_t)]) hx hb d_Mo_line_28 rfl hl (by decide) rfl (fun ls hl => ?_)
    refine lv_iconst (v := 1) hx hb d_Mo_line_29 (by decide) ?_
    refine lv_istore_n (lv' := [(2, .int 1), (1, .int s0_J28), (0, .ref q_t)]) hx hb d_Mo_line_30 rfl hl (by decide) rfl (fun ls hl => ?_)
    refine lv_goto (tgt := 120) hx hb d_Mo_line_31 (by decide) ?_
    exact J_120 s0_J28 1 v_t_place_J28 v_t_number_J28 f_t_words_J28 H _ _ hP hD hS (lv_sub hl [2, 1, 0] rfl) hw
  refine lv_iconst (v := (-1)) hx hb d_Mo_line_0 (by decide) ?_
  refine lv_istore_n (lv' := [(1, .int (-1)), (0, .ref q_t)]) hx hb d_Mo_line_1 rfl hl (by decide) rfl (fun ls hl => ?_)
  refine lv_iconst (v := 0) hx hb d_Mo_line_2 (by decide) ?_
  refine lv_istore_n (lv' := [(2, .int 0), (1, .int (-1)), (0, .ref q_t)]) hx hb d_Mo_line_3 rfl hl (by decide) rfl (fun ls hl => ?_)
  refine lv_aload_n hx hb d_Mo_line_4 rfl (lv_at hl 2 rfl) ?_
  have hPc := hP.sub (ws' := [(q_t, .inr (7, o_Mo a_t v_t_things v_t_pipes v_t_wide v_t_size v_t_place v_t_number v_t_thrown v_t_wish v_t_found)), ((a_t 19), .inl (cB, 2000, .inl f_t_text))]) [0, 1] rfl
  have hDc := hD.sub (ws' := [(q_t, .inr (7, o_Mo a_t v_t_things v_t_pipes v_t_wide v_t_size v_t_place v_t_number v_t_thrown v_t_wish v_t_found)), ((a_t 19), .inl (cB, 2000, .inl f_t_text))]) [0, 1] (by decide) rfl
  have hFc := va_free (wc := [(q_t, .inr (7, o_Mo a_t v_t_things v_t_pipes v_t_wide v_t_size v_t_place v_t_number v_t_thrown v_t_wish v_t_found)), ((a_t 19), .inl (cB, 2000, .inl f_t_text))]) hD hS hA [0, 1] rfl
  refine va_calli (va_runV (As := []) (rest := []) ⟨hx, hb, hml, hown, hts⟩ (c_Mo_here l dC dI cI cL cB q_t a_t s.heap.size v_t_things v_t_pipes v_t_wide v_t_size v_t_place v_t_number v_t_thrown v_t_wish v_t_found f_t_text  _ hw) (my_cwV 0 hts kw32_5ffaa2f kw32_4ddafd5 kw32_d996e64 kw32_7a5931c kw32_a4d8f3a rfl rfl (by decide +kernel) ⟨Nat.le_of_ble_eq_true rfl, Nat.le_of_ble_eq_true rfl⟩) ⟨fun a U g mk q => by obtain ⟨q0, q1, qP, qK, qD⟩ := q; exact ⟨q0, q1, qP, va_K.moved (u := U) (U := U.calling g mk a) (Vm.Alike.refl U.vm) qK, qD⟩, va_recv hK hP (ci := 7) (q0 := 0) rfl rfl, fun U hU hW => ⟨rfl, by rw [hU], by rw [hU]; exact hPc, va_K.moved hW.alike hK, hDc.weaken (fun _ _ _ _ => trivial)⟩⟩ rfl rfl hl.1 rfl (lv_room (Nat.le_of_ble_eq_true rfl)) d_Mo_line_5 ⟨Nat.zero_le _, Nat.zero_le _⟩) hS (fun q _ h => hFc q h) hFc (fun r5 u t H locs ht hvm hw hB hz1 hk1 hS => ?_)
  obtain ⟨hP1, hK1, hD1⟩ := hB
  rw [ht] at hP1
  obtain ⟨hP, hD⟩ := va_join (wr := [((a_t 25), .inl (cI, 3, .inl f_t_words))]) (w1 := [(q_t, .inr (7, o_Mo a_t v_t_things v_t_pipes v_t_wide v_t_size v_t_place v_t_number v_t_thrown v_t_wish v_t_found)), ((a_t 19), .inl (cB, 2000, .inl f_t_text))]) hP hD [0, 1] [2] rfl rfl (by decide) (by decide) hk1 hFc hP1 hD1
  have hP : va_P (dC, dI) classes [(q_t, .inr (7, o_Mo a_t v_t_things v_t_pipes v_t_wide v_t_size v_t_place v_t_number v_t_thrown v_t_wish v_t_found)), ((a_t 19), .inl (cB, 2000, .inl f_t_text)), ((a_t 25), .inl (cI, 3, .inl f_t_words))] H := hP.sub (ws' := [(q_t, .inr (7, o_Mo a_t v_t_things v_t_pipes v_t_wide v_t_size v_t_place v_t_number v_t_thrown v_t_wish v_t_found)), ((a_t 19), .inl (cB, 2000, .inl f_t_text)), ((a_t 25), .inl (cI, 3, .inl f_t_words))]) [1, 2, 0] rfl
  have hD : va_D A [(q_t, .inr (7, o_Mo a_t v_t_things v_t_pipes v_t_wide v_t_size v_t_place v_t_number v_t_thrown v_t_wish v_t_found)), ((a_t 19), .inl (cB, 2000, .inl f_t_text)), ((a_t 25), .inl (cI, 3, .inl f_t_words))] := hD.sub (ws' := [(q_t, .inr (7, o_Mo a_t v_t_things v_t_pipes v_t_wide v_t_size v_t_place v_t_number v_t_thrown v_t_wish v_t_found)), ((a_t 19), .inl (cB, 2000, .inl f_t_text)), ((a_t 25), .inl (cI, 3, .inl f_t_words))]) [1, 2, 0] (by decide) rfl
  refine lv_bipush (v := 116) hx hb d_Mo_line_8 (by decide) ?_
  refine lv_icmp_ne (tgt := 34) hx hb d_Mo_line_10 (by decide) (fun c10 => ?_) (fun c10 => ?_)
  · replace hw := hw.1 c10
    refine lv_aload_n hx hb d_Mo_line_34 rfl (lv_at hl 2 rfl) ?_
    have hPc := hP.sub (ws' := [(q_t, .inr (7, o_Mo a_t v_t_things v_t_pipes v_t_wide v_t_size v_t_place v_t_number v_t_thrown v_t_wish v_t_found)), ((a_t 19), .inl (cB, 2000, .inl f_t_text))]) [0, 1] rfl
    have hDc := hD.sub (ws' := [(q_t, .inr (7, o_Mo a_t v_t_things v_t_pipes v_t_wide v_t_size v_t_place v_t_number v_t_thrown v_t_wish v_t_found)), ((a_t 19), .inl (cB, 2000, .inl f_t_text))]) [0, 1] (by decide) rfl
    have hFc := va_free (wc := [(q_t, .inr (7, o_Mo a_t v_t_things v_t_pipes v_t_wide v_t_size v_t_place v_t_number v_t_thrown v_t_wish v_t_found)), ((a_t 19), .inl (cB, 2000, .inl f_t_text))]) hD hS hA [0, 1] rfl
    refine va_calli (va_runV (As := []) (rest := []) ⟨hx, hb, hml, hown, hts⟩ (c_Mo_here l dC dI cI cL cB q_t a_t H.size v_t_things v_t_pipes v_t_wide v_t_size v_t_place v_t_number v_t_thrown v_t_wish v_t_found f_t_text  _ hw) (my_cwV 0 hts kw32_5ffaa2f kw32_4ddafd5 kw32_d996e64 kw32_7a5931c kw32_a4d8f3a rfl rfl (by decide +kernel) ⟨Nat.le_of_ble_eq_true rfl, Nat.le_of_ble_eq_true rfl⟩) ⟨fun a U g mk q => by obtain ⟨q0, q1, qP, qK, qD⟩ := q; exact ⟨q0, q1, qP, va_K.moved (u := U) (U := U.calling g mk a) (Vm.Alike.refl U.vm) qK, qD⟩, va_recv hK hP (ci := 7) (q0 := 0) rfl rfl, fun U hU hW => ⟨rfl, by rw [hU], by rw [hU]; exact hPc, va_K.moved hW.alike hK, hDc.weaken (fun _ _ _ _ => trivial)⟩⟩ rfl rfl hl.1 rfl (lv_room (Nat.le_of_ble_eq_true rfl)) d_Mo_line_35 ⟨Nat.zero_le _, Nat.zero_le _⟩) hS (fun q _ h => hFc q h) hFc (fun r35 u t H locs ht hvm hw hB hz1 hk1 hS => ?_)
    obtain ⟨hP1, hK1, hD1⟩ := hB
    rw [ht] at hP1
    obtain ⟨hP, hD⟩ := va_join (wr := [((a_t 25), .inl (cI, 3, .inl f_t_words))]) (w1 := [(q_t, .inr (7, o_Mo a_t v_t_things v_t_pipes v_t_wide v_t_size v_t_place v_t_number v_t_thrown v_t_wish v_t_found)), ((a_t 19), .inl (cB, 2000, .inl f_t_text))]) hP hD [0, 1] [2] rfl rfl (by decide) (by decide) hk1 hFc hP1 hD1
    have hP : va_P (dC, dI) classes [(q_t, .inr (7, o_Mo a_t v_t_things v_t_pipes v_t_wide v_t_size v_t_place v_t_number v_t_thrown v_t_wish v_t_found)), ((a_t 19), .inl (cB, 2000, .inl f_t_text)), ((a_t 25), .inl (cI, 3, .inl f_t_words))] H := hP.sub (ws' := [(q_t, .inr (7, o_Mo a_t v_t_things v_t_pipes v_t_wide v_t_size v_t_place v_t_number v_t_thrown v_t_wish v_t_found)), ((a_t 19), .inl (cB, 2000, .inl f_t_text)), ((a_t 25), .inl (cI, 3, .inl f_t_words))]) [1, 2, 0] rfl
    have hD : va_D A [(q_t, .inr (7, o_Mo a_t v_t_things v_t_pipes v_t_wide v_t_size v_t_place v_t_number v_t_thrown v_t_wish v_t_found)), ((a_t 19), .inl (cB, 2000, .inl f_t_text)), ((a_t 25), .inl (cI, 3, .inl f_t_words))] := hD.sub (ws' := [(q_t, .inr (7, o_Mo a_t v_t_things v_t_pipes v_t_wide v_t_size v_t_place v_t_number v_t_thrown v_t_wish v_t_found)), ((a_t 19), .inl (cB, 2000, .inl f_t_text)), ((a_t 25), .inl (cI, 3, .inl f_t_words))]) [1, 2, 0] (by decide) rfl
    refine lv_bipush (v := 118) hx hb d_Mo_line_38 (by decide) ?_
    refine lv_icmp_ne (tgt := 64) hx hb d_Mo_line_40 (by decide) (fun c40 => ?_) (fun c40 => ?_)
    · replace hw := hw.1 c40
      refine lv_aload_n hx hb d_Mo_line_64 rfl (lv_at hl 2 rfl) ?_
      refine lv_ldc2 (v := 112) hx hb hown (hts (Cond.constantLong R_Mo 173 112) kw32_23b526c) d_Mo_line_65 ?_
      have hPc := hP.sub (ws' := [(q_t, .inr (7, o_Mo a_t v_t_things v_t_pipes v_t_wide v_t_size v_t_place v_t_number v_t_thrown v_t_wish v_t_found)), ((a_t 19), .inl (cB, 2000, .inl f_t_text))]) [0, 1] rfl
      have hDc := hD.sub (ws' := [(q_t, .inr (7, o_Mo a_t v_t_things v_t_pipes v_t_wide v_t_size v_t_place v_t_number v_t_thrown v_t_wish v_t_found)), ((a_t 19), .inl (cB, 2000, .inl f_t_text))]) [0, 1] (by decide) rfl
      have hFc := va_free (wc := [(q_t, .inr (7, o_Mo a_t v_t_things v_t_pipes v_t_wide v_t_size v_t_place v_t_number v_t_thrown v_t_wish v_t_found)), ((a_t 19), .inl (cB, 2000, .inl f_t_text))]) hD hS hA [0, 1] rfl
      refine va_calli (va_runV (As := [.long 112]) (rest := []) ⟨hx, hb, hml, hown, hts⟩ (c_Mo_over l dC dI cI cL cB q_t a_t H.size v_t_things v_t_pipes v_t_wide v_t_size v_t_place v_t_number v_t_thrown v_t_wish v_t_found f_t_text 112 _ hw) (my_cwV 1 hts kw32_4914bae kw32_0f34b7b kw32_76cdcc2 kw32_7a5931c kw32_b51ddd1 rfl rfl (by decide +kernel) ⟨Nat.le_of_ble_eq_true rfl, Nat.le_of_ble_eq_true rfl⟩) ⟨fun a U g mk q => by obtain ⟨q0, q1, qP, qK, qD⟩ := q; exact ⟨q0, q1, qP, va_K.moved (u := U) (U := U.calling g mk a) (Vm.Alike.refl U.vm) qK, qD⟩, va_recv hK hP (ci := 7) (q0 := 0) rfl rfl, fun U hU hW => ⟨rfl, by rw [hU], by rw [hU]; exact hPc, va_K.moved hW.alike hK, hDc.weaken (fun _ _ _ _ => trivial)⟩⟩ rfl rfl hl.1 rfl (lv_room (Nat.le_of_ble_eq_true rfl)) d_Mo_line_68 ⟨Nat.zero_le _, Nat.zero_le _⟩) hS (fun q _ h => hFc q h) hFc (fun r68 v_t_place_c68 t H locs ht hvm hw hB hz1 hk1 hS => ?_)
      obtain ⟨hP1, hK1, hD1⟩ := hB
      rw [ht] at hP1
      obtain ⟨hP, hD⟩ := va_join (wr := [((a_t 25), .inl (cI, 3, .inl f_t_words))]) (w1 := [(q_t, .inr (7, o_Mo a_t v_t_things v_t_pipes v_t_wide v_t_size v_t_place_c68 v_t_number v_t_thrown v_t_wish v_t_found)), ((a_t 19), .inl (cB, 2000, .inl f_t_text))]) hP hD [0, 1] [2] rfl rfl (by decide) (by decide) hk1 hFc hP1 hD1
      have hP : va_P (dC, dI) classes [(q_t, .inr (7, o_Mo a_t v_t_things v_t_pipes v_t_wide v_t_size v_t_place_c68 v_t_number v_t_thrown v_t_wish v_t_found)), ((a_t 19), .inl (cB, 2000, .inl f_t_text)), ((a_t 25), .inl (cI, 3, .inl f_t_words))] H := hP.sub (ws' := [(q_t, .inr (7, o_Mo a_t v_t_things v_t_pipes v_t_wide v_t_size v_t_place_c68 v_t_number v_t_thrown v_t_wish v_t_found)), ((a_t 19), .inl (cB, 2000, .inl f_t_text)), ((a_t 25), .inl (cI, 3, .inl f_t_words))]) [1, 2, 0] rfl
      have hD : va_D A [(q_t, .inr (7, o_Mo a_t v_t_things v_t_pipes v_t_wide v_t_size v_t_place_c68 v_t_number v_t_thrown v_t_wish v_t_found)), ((a_t 19), .inl (cB, 2000, .inl f_t_text)), ((a_t 25), .inl (cI, 3, .inl f_t_words))] := hD.sub (ws' := [(q_t, .inr (7, o_Mo a_t v_t_things v_t_pipes v_t_wide v_t_size v_t_place_c68 v_t_number v_t_thrown v_t_wish v_t_found)), ((a_t 19), .inl (cB, 2000, .inl f_t_text)), ((a_t 25), .inl (cI, 3, .inl f_t_words))]) [1, 2, 0] (by decide) rfl
      refine lv_if_eq (tgt := 120) hx hb d_Mo_line_71 (by decide) (fun c71 => ?_) (fun c71 => ?_)
      · replace hw := hw.1 c71
        exact J_120 (-1) 0 v_t_place_c68 v_t_number f_t_words H _ _ hP hD hS (lv_sub hl [2, 1, 0] rfl) hw
      · replace hw := hw.2 c71
        refine lv_aload_n hx hb d_Mo_line_74 rfl (lv_at hl 2 rfl) ?_
        have hPc := hP.sub (ws' := [(q_t, .inr (7, o_Mo a_t v_t_things v_t_pipes v_t_wide v_t_size v_t_place_c68 v_t_number v_t_thrown v_t_wish v_t_found)), ((a_t 19), .inl (cB, 2000, .inl f_t_text))]) [0, 1] rfl
        have hDc := hD.sub (ws' := [(q_t, .inr (7, o_Mo a_t v_t_things v_t_pipes v_t_wide v_t_size v_t_place_c68 v_t_number v_t_thrown v_t_wish v_t_found)), ((a_t 19), .inl (cB, 2000, .inl f_t_text))]) [0, 1] (by decide) rfl
        have hFc := va_free (wc := [(q_t, .inr (7, o_Mo a_t v_t_things v_t_pipes v_t_wide v_t_size v_t_place_c68 v_t_number v_t_thrown v_t_wish v_t_found)), ((a_t 19), .inl (cB, 2000, .inl f_t_text))]) hD hS hA [0, 1] rfl
        refine va_calli (va_runV (As := []) (rest := []) ⟨hx, hb, hml, hown, hts⟩ (c_Mo_here l dC dI cI cL cB q_t a_t H.size v_t_things v_t_pipes v_t_wide v_t_size v_t_place_c68 v_t_number v_t_thrown v_t_wish v_t_found f_t_text  _ hw) (my_cwV 0 hts kw32_5ffaa2f kw32_4ddafd5 kw32_d996e64 kw32_7a5931c kw32_a4d8f3a rfl rfl (by decide +kernel) ⟨Nat.le_of_ble_eq_true rfl, Nat.le_of_ble_eq_true rfl⟩) ⟨fun a U g mk q => by obtain ⟨q0, q1, qP, qK, qD⟩ := q; exact ⟨q0, q1, qP, va_K.moved (u := U) (U := U.calling g mk a) (Vm.Alike.refl U.vm) qK, qD⟩, va_recv hK hP (ci := 7) (q0 := 0) rfl rfl, fun U hU hW => ⟨rfl, by rw [hU], by rw [hU]; exact hPc, va_K.moved hW.alike hK, hDc.weaken (fun _ _ _ _ => trivial)⟩⟩ rfl rfl hl.1 rfl (lv_room (Nat.le_of_ble_eq_true rfl)) d_Mo_line_75 ⟨Nat.zero_le _, Nat.zero_le _⟩) hS (fun q _ h => hFc q h) hFc (fun r75 u t H locs ht hvm hw hB hz1 hk1 hS => ?_)
        obtain ⟨hP1, hK1, hD1⟩ := hB
        rw [ht] at hP1
        obtain ⟨hP, hD⟩ := va_join (wr := [((a_t 25), .inl (cI, 3, .inl f_t_words))]) (w1 := [(q_t, .inr (7, o_Mo a_t v_t_things v_t_pipes v_t_wide v_t_size v_t_place_c68 v_t_number v_t_thrown v_t_wish v_t_found)), ((a_t 19), .inl (cB, 2000, .inl f_t_text))]) hP hD [0, 1] [2] rfl rfl (by decide) (by decide) hk1 hFc hP1 hD1
        have hP : va_P (dC, dI) classes [(q_t, .inr (7, o_Mo a_t v_t_things v_t_pipes v_t_wide v_t_size v_t_place_c68 v_t_number v_t_thrown v_t_wish v_t_found)), ((a_t 19), .inl (cB, 2000, .inl f_t_text)), ((a_t 25), .inl (cI, 3, .inl f_t_words))] H := hP.sub (ws' := [(q_t, .inr (7, o_Mo a_t v_t_things v_t_pipes v_t_wide v_t_size v_t_place_c68 v_t_number v_t_thrown v_t_wish v_t_found)), ((a_t 19), .inl (cB, 2000, .inl f_t_text)), ((a_t 25), .inl (cI, 3, .inl f_t_words))]) [1, 2, 0] rfl
        have hD : va_D A [(q_t, .inr (7, o_Mo a_t v_t_things v_t_pipes v_t_wide v_t_size v_t_place_c68 v_t_number v_t_thrown v_t_wish v_t_found)), ((a_t 19), .inl (cB, 2000, .inl f_t_text)), ((a_t 25), .inl (cI, 3, .inl f_t_words))] := hD.sub (ws' := [(q_t, .inr (7, o_Mo a_t v_t_things v_t_pipes v_t_wide v_t_size v_t_place_c68 v_t_number v_t_thrown v_t_wish v_t_found)), ((a_t 19), .inl (cB, 2000, .inl f_t_text)), ((a_t 25), .inl (cI, 3, .inl f_t_words))]) [1, 2, 0] (by decide) rfl
        refine lv_bipush (v := 117) hx hb d_Mo_line_78 (by decide) ?_
        refine lv_icmp_ne (tgt := 102) hx hb d_Mo_line_80 (by decide) (fun c80 => ?_) (fun c80 => ?_)
        · replace hw := hw.1 c80
          refine lv_aload_n hx hb d_Mo_line_102 rfl (lv_at hl 2 rfl) ?_
          refine lv_ldc2 (v := 6647913) hx hb hown (hts (Cond.constantLong R_Mo 177 6647913) kw32_4781994) d_Mo_line_103 ?_
          have hPc := hP.sub (ws' := [(q_t, .inr (7, o_Mo a_t v_t_things v_t_pipes v_t_wide v_t_size v_t_place_c68 v_t_number v_t_thrown v_t_wish v_t_found)), ((a_t 19), .inl (cB, 2000, .inl f_t_text))]) [0, 1] rfl
          have hDc := hD.sub (ws' := [(q_t, .inr (7, o_Mo a_t v_t_things v_t_pipes v_t_wide v_t_size v_t_place_c68 v_t_number v_t_thrown v_t_wish v_t_found)), ((a_t 19), .inl (cB, 2000, .inl f_t_text))]) [0, 1] (by decide) rfl
          have hFc := va_free (wc := [(q_t, .inr (7, o_Mo a_t v_t_things v_t_pipes v_t_wide v_t_size v_t_place_c68 v_t_number v_t_thrown v_t_wish v_t_found)), ((a_t 19), .inl (cB, 2000, .inl f_t_text))]) hD hS hA [0, 1] rfl
          refine va_calli (va_runV (As := [.long 6647913]) (rest := []) ⟨hx, hb, hml, hown, hts⟩ (c_Mo_over l dC dI cI cL cB q_t a_t H.size v_t_things v_t_pipes v_t_wide v_t_size v_t_place_c68 v_t_number v_t_thrown v_t_wish v_t_found f_t_text 6647913 _ hw) (my_cwV 1 hts kw32_4914bae kw32_0f34b7b kw32_76cdcc2 kw32_7a5931c kw32_b51ddd1 rfl rfl (by decide +kernel) ⟨Nat.le_of_ble_eq_true rfl, Nat.le_of_ble_eq_true rfl⟩) ⟨fun a U g mk q => by obtain ⟨q0, q1, qP, qK, qD⟩ := q; exact ⟨q0, q1, qP, va_K.moved (u := U) (U := U.calling g mk a) (Vm.Alike.refl U.vm) qK, qD⟩, va_recv hK hP (ci := 7) (q0 := 0) rfl rfl, fun U hU hW => ⟨rfl, by rw [hU], by rw [hU]; exact hPc, va_K.moved hW.alike hK, hDc.weaken (fun _ _ _ _ => trivial)⟩⟩ rfl rfl hl.1 rfl (lv_room (Nat.le_of_ble_eq_true rfl)) d_Mo_line_106 ⟨Nat.zero_le _, Nat.zero_le _⟩) hS (fun q _ h => hFc q h) hFc (fun r106 v_t_place_c106 t H locs ht hvm hw hB hz1 hk1 hS => ?_)
          obtain ⟨hP1, hK1, hD1⟩ := hB
          rw [ht] at hP1
          obtain ⟨hP, hD⟩ := va_join (wr := [((a_t 25), .inl (cI, 3, .inl f_t_words))]) (w1 := [(q_t, .inr (7, o_Mo a_t v_t_things v_t_pipes v_t_wide v_t_size v_t_place_c106 v_t_number v_t_thrown v_t_wish v_t_found)), ((a_t 19), .inl (cB, 2000, .inl f_t_text))]) hP hD [0, 1] [2] rfl rfl (by decide) (by decide) hk1 hFc hP1 hD1
          have hP : va_P (dC, dI) classes [(q_t, .inr (7, o_Mo a_t v_t_things v_t_pipes v_t_wide v_t_size v_t_place_c106 v_t_number v_t_thrown v_t_wish v_t_found)), ((a_t 19), .inl (cB, 2000, .inl f_t_text)), ((a_t 25), .inl (cI, 3, .inl f_t_words))] H := hP.sub (ws' := [(q_t, .inr (7, o_Mo a_t v_t_things v_t_pipes v_t_wide v_t_size v_t_place_c106 v_t_number v_t_thrown v_t_wish v_t_found)), ((a_t 19), .inl (cB, 2000, .inl f_t_text)), ((a_t 25), .inl (cI, 3, .inl f_t_words))]) [1, 2, 0] rfl
          have hD : va_D A [(q_t, .inr (7, o_Mo a_t v_t_things v_t_pipes v_t_wide v_t_size v_t_place_c106 v_t_number v_t_thrown v_t_wish v_t_found)), ((a_t 19), .inl (cB, 2000, .inl f_t_text)), ((a_t 25), .inl (cI, 3, .inl f_t_words))] := hD.sub (ws' := [(q_t, .inr (7, o_Mo a_t v_t_things v_t_pipes v_t_wide v_t_size v_t_place_c106 v_t_number v_t_thrown v_t_wish v_t_found)), ((a_t 19), .inl (cB, 2000, .inl f_t_text)), ((a_t 25), .inl (cI, 3, .inl f_t_words))]) [1, 2, 0] (by decide) rfl
          refine lv_if_eq (tgt := 116) hx hb d_Mo_line_109 (by decide) (fun c109 => ?_) (fun c109 => ?_)
          · replace hw := hw.1 c109
            refine lv_iconst (v := (-1)) hx hb d_Mo_line_116 (by decide) ?_
            exact J_117 v_t_place_c106 v_t_number f_t_words (-1) H _ _ hP hD hS (lv_sub hl [2] rfl) hw
          · replace hw := hw.2 c109
            refine lv_iconst (v := 3) hx hb d_Mo_line_112 (by decide) ?_
            refine lv_goto (tgt := 117) hx hb d_Mo_line_113 (by decide) ?_
            exact J_117 v_t_place_c106 v_t_number f_t_words 3 H _ _ hP hD hS (lv_sub hl [2] rfl) hw
        · replace hw := hw.2 c80
          refine lv_aload_n hx hb d_Mo_line_83 rfl (lv_at hl 2 rfl) ?_
          refine lv_ldc2 (v := 7368053) hx hb hown (hts (Cond.constantLong R_Mo 175 7368053) kw32_91c0eaa) d_Mo_line_84 ?_
          have hPc := hP.sub (ws' := [(q_t, .inr (7, o_Mo a_t v_t_things v_t_pipes v_t_wide v_t_size v_t_place_c68 v_t_number v_t_thrown v_t_wish v_t_found)), ((a_t 19), .inl (cB, 2000, .inl f_t_text))]) [0, 1] rfl
          have hDc := hD.sub (ws' := [(q_t, .inr (7, o_Mo a_t v_t_things v_t_pipes v_t_wide v_t_size v_t_place_c68 v_t_number v_t_thrown v_t_wish v_t_found)), ((a_t 19), .inl (cB, 2000, .inl f_t_text))]) [0, 1] (by decide) rfl
          have hFc := va_free (wc := [(q_t, .inr (7, o_Mo a_t v_t_things v_t_pipes v_t_wide v_t_size v_t_place_c68 v_t_number v_t_thrown v_t_wish v_t_found)), ((a_t 19), .inl (cB, 2000, .inl f_t_text))]) hD hS hA [0, 1] rfl
          refine va_calli (va_runV (As := [.long 7368053]) (rest := []) ⟨hx, hb, hml, hown, hts⟩ (c_Mo_over l dC dI cI cL cB q_t a_t H.size v_t_things v_t_pipes v_t_wide v_t_size v_t_place_c68 v_t_number v_t_thrown v_t_wish v_t_found f_t_text 7368053 _ hw) (my_cwV 1 hts kw32_4914bae kw32_0f34b7b kw32_76cdcc2 kw32_7a5931c kw32_b51ddd1 rfl rfl (by decide +kernel) ⟨Nat.le_of_ble_eq_true rfl, Nat.le_of_ble_eq_true rfl⟩) ⟨fun a U g mk q => by obtain ⟨q0, q1, qP, qK, qD⟩ := q; exact ⟨q0, q1, qP, va_K.moved (u := U) (U := U.calling g mk a) (Vm.Alike.refl U.vm) qK, qD⟩, va_recv hK hP (ci := 7) (q0 := 0) rfl rfl, fun U hU hW => ⟨rfl, by rw [hU], by rw [hU]; exact hPc, va_K.moved hW.alike hK, hDc.weaken (fun _ _ _ _ => trivial)⟩⟩ rfl rfl hl.1 rfl (lv_room (Nat.le_of_ble_eq_true rfl)) d_Mo_line_87 ⟨Nat.zero_le _, Nat.zero_le _⟩) hS (fun q _ h => hFc q h) hFc (fun r87 v_t_place_c87 t H locs ht hvm hw hB hz1 hk1 hS => ?_)
          obtain ⟨hP1, hK1, hD1⟩ := hB
          rw [ht] at hP1
          obtain ⟨hP, hD⟩ := va_join (wr := [((a_t 25), .inl (cI, 3, .inl f_t_words))]) (w1 := [(q_t, .inr (7, o_Mo a_t v_t_things v_t_pipes v_t_wide v_t_size v_t_place_c87 v_t_number v_t_thrown v_t_wish v_t_found)), ((a_t 19), .inl (cB, 2000, .inl f_t_text))]) hP hD [0, 1] [2] rfl rfl (by decide) (by decide) hk1 hFc hP1 hD1
          have hP : va_P (dC, dI) classes [(q_t, .inr (7, o_Mo a_t v_t_things v_t_pipes v_t_wide v_t_size v_t_place_c87 v_t_number v_t_thrown v_t_wish v_t_found)), ((a_t 19), .inl (cB, 2000, .inl f_t_text)), ((a_t 25), .inl (cI, 3, .inl f_t_words))] H := hP.sub (ws' := [(q_t, .inr (7, o_Mo a_t v_t_things v_t_pipes v_t_wide v_t_size v_t_place_c87 v_t_number v_t_thrown v_t_wish v_t_found)), ((a_t 19), .inl (cB, 2000, .inl f_t_text)), ((a_t 25), .inl (cI, 3, .inl f_t_words))]) [1, 2, 0] rfl
          have hD : va_D A [(q_t, .inr (7, o_Mo a_t v_t_things v_t_pipes v_t_wide v_t_size v_t_place_c87 v_t_number v_t_thrown v_t_wish v_t_found)), ((a_t 19), .inl (cB, 2000, .inl f_t_text)), ((a_t 25), .inl (cI, 3, .inl f_t_words))] := hD.sub (ws' := [(q_t, .inr (7, o_Mo a_t v_t_things v_t_pipes v_t_wide v_t_size v_t_place_c87 v_t_number v_t_thrown v_t_wish v_t_found)), ((a_t 19), .inl (cB, 2000, .inl f_t_text)), ((a_t 25), .inl (cI, 3, .inl f_t_words))]) [1, 2, 0] (by decide) rfl
          refine lv_if_eq (tgt := 97) hx hb d_Mo_line_90 (by decide) (fun c90 => ?_) (fun c90 => ?_)
          · replace hw := hw.1 c90
            refine lv_iconst (v := (-1)) hx hb d_Mo_line_97 (by decide) ?_
            exact J_98 0 v_t_place_c87 v_t_number f_t_words (-1) H _ _ hP hD hS (lv_sub hl [2, 0] rfl) hw
          · replace hw := hw.2 c90
            refine lv_iconst (v := 1) hx hb d_Mo_line_93 (by decide) ?_
            refine lv_goto (tgt := 98) hx hb d_Mo_line_94 (by decide) ?_
            exact J_98 0 v_t_place_c87 v_t_number f_t_words 1 H _ _ hP hD hS (lv_sub hl [2, 0] rfl) hw
    · replace hw := hw.2 c40
      refine lv_aload_n hx hb d_Mo_line_43 rfl (lv_at hl 2 rfl) ?_
      refine lv_ldc2 (v := 435778511222) hx hb hown (hts (Cond.constantLong R_Mo 171 435778511222) kw32_955e88f) d_Mo_line_44 ?_
      have hPc := hP.sub (ws' := [(q_t, .inr (7, o_Mo a_t v_t_things v_t_pipes v_t_wide v_t_size v_t_place v_t_number v_t_thrown v_t_wish v_t_found)), ((a_t 19), .inl (cB, 2000, .inl f_t_text))]) [0, 1] rfl
      have hDc := hD.sub (ws' := [(q_t, .inr (7, o_Mo a_t v_t_things v_t_pipes v_t_wide v_t_size v_t_place v_t_number v_t_thrown v_t_wish v_t_found)), ((a_t 19), .inl (cB, 2000, .inl f_t_text))]) [0, 1] (by decide) rfl
      have hFc := va_free (wc := [(q_t, .inr (7, o_Mo a_t v_t_things v_t_pipes v_t_wide v_t_size v_t_place v_t_number v_t_thrown v_t_wish v_t_found)), ((a_t 19), .inl (cB, 2000, .inl f_t_text))]) hD hS hA [0, 1] rfl
      refine va_calli (va_runV (As := [.long 435778511222]) (rest := []) ⟨hx, hb, hml, hown, hts⟩ (c_Mo_over l dC dI cI cL cB q_t a_t H.size v_t_things v_t_pipes v_t_wide v_t_size v_t_place v_t_number v_t_thrown v_t_wish v_t_found f_t_text 435778511222 _ hw) (my_cwV 1 hts kw32_4914bae kw32_0f34b7b kw32_76cdcc2 kw32_7a5931c kw32_b51ddd1 rfl rfl (by decide +kernel) ⟨Nat.le_of_ble_eq_true rfl, Nat.le_of_ble_eq_true rfl⟩) ⟨fun a U g mk q => by obtain ⟨q0, q1, qP, qK, qD⟩ := q; exact ⟨q0, q1, qP, va_K.moved (u := U) (U := U.calling g mk a) (Vm.Alike.refl U.vm) qK, qD⟩, va_recv hK hP (ci := 7) (q0 := 0) rfl rfl, fun U hU hW => ⟨rfl, by rw [hU], by rw [hU]; exact hPc, va_K.moved hW.alike hK, hDc.weaken (fun _ _ _ _ => trivial)⟩⟩ rfl rfl hl.1 rfl (lv_room (Nat.le_of_ble_eq_true rfl)) d_Mo_line_47 ⟨Nat.zero_le _, Nat.zero_le _⟩) hS (fun q _ h => hFc q h) hFc (fun r47 v_t_place_c47 t H locs ht hvm hw hB hz1 hk1 hS => ?_)
      obtain ⟨hP1, hK1, hD1⟩ := hB
      rw [ht] at hP1
      obtain ⟨hP, hD⟩ := va_join (wr := [((a_t 25), .inl (cI, 3, .inl f_t_words))]) (w1 := [(q_t, .inr (7, o_Mo a_t v_t_things v_t_pipes v_t_wide v_t_size v_t_place_c47 v_t_number v_t_thrown v_t_wish v_t_found)), ((a_t 19), .inl (cB, 2000, .inl f_t_text))]) hP hD [0, 1] [2] rfl rfl (by decide) (by decide) hk1 hFc hP1 hD1
      have hP : va_P (dC, dI) classes [(q_t, .inr (7, o_Mo a_t v_t_things v_t_pipes v_t_wide v_t_size v_t_place_c47 v_t_number v_t_thrown v_t_wish v_t_found)), ((a_t 19), .inl (cB, 2000, .inl f_t_text)), ((a_t 25), .inl (cI, 3, .inl f_t_words))] H := hP.sub (ws' := [(q_t, .inr (7, o_Mo a_t v_t_things v_t_pipes v_t_wide v_t_size v_t_place_c47 v_t_number v_t_thrown v_t_wish v_t_found)), ((a_t 19), .inl (cB, 2000, .inl f_t_text)), ((a_t 25), .inl (cI, 3, .inl f_t_words))]) [1, 2, 0] rfl
      have hD : va_D A [(q_t, .inr (7, o_Mo a_t v_t_things v_t_pipes v_t_wide v_t_size v_t_place_c47 v_t_number v_t_thrown v_t_wish v_t_found)), ((a_t 19), .inl (cB, 2000, .inl f_t_text)), ((a_t 25), .inl (cI, 3, .inl f_t_words))] := hD.sub (ws' := [(q_t, .inr (7, o_Mo a_t v_t_things v_t_pipes v_t_wide v_t_size v_t_place_c47 v_t_number v_t_thrown v_t_wish v_t_found)), ((a_t 19), .inl (cB, 2000, .inl f_t_text)), ((a_t 25), .inl (cI, 3, .inl f_t_words))]) [1, 2, 0] (by decide) rfl
      refine lv_if_eq (tgt := 57) hx hb d_Mo_line_50 (by decide) (fun c50 => ?_) (fun c50 => ?_)
      · replace hw := hw.1 c50
        refine lv_iconst (v := (-1)) hx hb d_Mo_line_57 (by decide) ?_
        exact J_58 v_t_place_c47 v_t_number f_t_words (-1) H _ _ hP hD hS (lv_sub hl [2] rfl) hw
      · replace hw := hw.2 c50
        refine lv_iconst (v := 2) hx hb d_Mo_line_53 (by decide) ?_
        refine lv_goto (tgt := 58) hx hb d_Mo_line_54 (by decide) ?_
        exact J_58 v_t_place_c47 v_t_number f_t_words 2 H _ _ hP hD hS (lv_sub hl [2] rfl) hw
  · replace hw := hw.2 c10
    refine lv_aload_n hx hb d_Mo_line_13 rfl (lv_at hl 2 rfl) ?_
    refine lv_ldc2 (v := 1802396020) hx hb hown (hts (Cond.constantLong R_Mo 169 1802396020) kw32_2d0149c) d_Mo_line_14 ?_
    have hPc := hP.sub (ws' := [(q_t, .inr (7, o_Mo a_t v_t_things v_t_pipes v_t_wide v_t_size v_t_place v_t_number v_t_thrown v_t_wish v_t_found)), ((a_t 19), .inl (cB, 2000, .inl f_t_text))]) [0, 1] rfl
    have hDc := hD.sub (ws' := [(q_t, .inr (7, o_Mo a_t v_t_things v_t_pipes v_t_wide v_t_size v_t_place v_t_number v_t_thrown v_t_wish v_t_found)), ((a_t 19), .inl (cB, 2000, .inl f_t_text))]) [0, 1] (by decide) rfl
    have hFc := va_free (wc := [(q_t, .inr (7, o_Mo a_t v_t_things v_t_pipes v_t_wide v_t_size v_t_place v_t_number v_t_thrown v_t_wish v_t_found)), ((a_t 19), .inl (cB, 2000, .inl f_t_text))]) hD hS hA [0, 1] rfl
    refine va_calli (va_runV (As := [.long 1802396020]) (rest := []) ⟨hx, hb, hml, hown, hts⟩ (c_Mo_over l dC dI cI cL cB q_t a_t H.size v_t_things v_t_pipes v_t_wide v_t_size v_t_place v_t_number v_t_thrown v_t_wish v_t_found f_t_text 1802396020 _ hw) (my_cwV 1 hts kw32_4914bae kw32_0f34b7b kw32_76cdcc2 kw32_7a5931c kw32_b51ddd1 rfl rfl (by decide +kernel) ⟨Nat.le_of_ble_eq_true rfl, Nat.le_of_ble_eq_true rfl⟩) ⟨fun a U g mk q => by obtain ⟨q0, q1, qP, qK, qD⟩ := q; exact ⟨q0, q1, qP, va_K.moved (u := U) (U := U.calling g mk a) (Vm.Alike.refl U.vm) qK, qD⟩, va_recv hK hP (ci := 7) (q0 := 0) rfl rfl, fun U hU hW => ⟨rfl, by rw [hU], by rw [hU]; exact hPc, va_K.moved hW.alike hK, hDc.weaken (fun _ _ _ _ => trivial)⟩⟩ rfl rfl hl.1 rfl (lv_room (Nat.le_of_ble_eq_true rfl)) d_Mo_line_17 ⟨Nat.zero_le _, Nat.zero_le _⟩) hS (fun q _ h => hFc q h) hFc (fun r17 v_t_place_c17 t H locs ht hvm hw hB hz1 hk1 hS => ?_)
    obtain ⟨hP1, hK1, hD1⟩ := hB
    rw [ht] at hP1
    obtain ⟨hP, hD⟩ := va_join (wr := [((a_t 25), .inl (cI, 3, .inl f_t_words))]) (w1 := [(q_t, .inr (7, o_Mo a_t v_t_things v_t_pipes v_t_wide v_t_size v_t_place_c17 v_t_number v_t_thrown v_t_wish v_t_found)), ((a_t 19), .inl (cB, 2000, .inl f_t_text))]) hP hD [0, 1] [2] rfl rfl (by decide) (by decide) hk1 hFc hP1 hD1
    have hP : va_P (dC, dI) classes [(q_t, .inr (7, o_Mo a_t v_t_things v_t_pipes v_t_wide v_t_size v_t_place_c17 v_t_number v_t_thrown v_t_wish v_t_found)), ((a_t 19), .inl (cB, 2000, .inl f_t_text)), ((a_t 25), .inl (cI, 3, .inl f_t_words))] H := hP.sub (ws' := [(q_t, .inr (7, o_Mo a_t v_t_things v_t_pipes v_t_wide v_t_size v_t_place_c17 v_t_number v_t_thrown v_t_wish v_t_found)), ((a_t 19), .inl (cB, 2000, .inl f_t_text)), ((a_t 25), .inl (cI, 3, .inl f_t_words))]) [1, 2, 0] rfl
    have hD : va_D A [(q_t, .inr (7, o_Mo a_t v_t_things v_t_pipes v_t_wide v_t_size v_t_place_c17 v_t_number v_t_thrown v_t_wish v_t_found)), ((a_t 19), .inl (cB, 2000, .inl f_t_text)), ((a_t 25), .inl (cI, 3, .inl f_t_words))] := hD.sub (ws' := [(q_t, .inr (7, o_Mo a_t v_t_things v_t_pipes v_t_wide v_t_size v_t_place_c17 v_t_number v_t_thrown v_t_wish v_t_found)), ((a_t 19), .inl (cB, 2000, .inl f_t_text)), ((a_t 25), .inl (cI, 3, .inl f_t_words))]) [1, 2, 0] (by decide) rfl
    refine lv_if_eq (tgt := 27) hx hb d_Mo_line_20 (by decide) (fun c20 => ?_) (fun c20 => ?_)
    · replace hw := hw.1 c20
      refine lv_iconst (v := (-1)) hx hb d_Mo_line_27 (by decide) ?_
      exact J_28 v_t_place_c17 v_t_number f_t_words (-1) H _ _ hP hD hS (lv_sub hl [2] rfl) hw
    · replace hw := hw.2 c20
      refine lv_iconst (v := 0) hx hb d_Mo_line_23 (by decide) ?_
      refine lv_goto (tgt := 28) hx hb d_Mo_line_24 (by decide) ?_
      exact J_28 v_t_place_c17 v_t_number f_t_words 0 H _ _ hP hD hS (lv_sub hl [2] rfl) hw
