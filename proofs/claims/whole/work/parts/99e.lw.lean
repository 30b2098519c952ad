/-! THE CLAIM OUT OF ONE WALK OF THE LAW'S BODY. Your part is whole_start (and what it stands on); all else here is the same for every law, but numbers. -/
def R_law : String := "PlantGraphLaw"
def lw_P (b : Addr) (xs : List Int32) (args : Array Value) (s : State) : Prop := args = #[.ref b] ∧ s.IntsAt b xs ∧ xs.length ≤ 2560 ∧ (Jvm.Cond.and given_1 narrow_1).before args s = true
def lw_Q (_ : Array Value) (s : State) (o : Outcome) (t : State) : Prop := o = .returned (some (.int 1)) ∧ Framed s o t [] 1089 41667
def lw_Z (below : List Frame) (a : Array Value) (s : State) : State → Prop := fun t => ∃ o, t.status = .running ∧ Ended t below o ∧ lw_Q a s o t
/-- the law's own end, with 1 on the stack, nothing written that was there before, its room as the claim has it -/
theorem lw_ret {p : Program} {l : Launch} {e : Env} {s : State} {m : MethodId} {below : List Frame} {meth : Method} {c : Code} {b : Nat} (hx : p.tables.exec = Jvm.exec) (hb : c.code = code) (hr : meth.sig.returnType = ret) (hlocks : meth.locks = false) {pc : Nat} {H : Heap} {ls : Array Slot} (hdg : decode code pc = .ok (.ireturn, 1)) : W p l e room_1 s m #[Value.ref b] below meth c H [] 1089 41667 (lw_Z below #[Value.ref b] s) (F0 m pc ls [.int 1]) := by
  intro T hT X
  obtain ⟨fs, hret, hrun, hended, hW, hframe⟩ := X.leave (v := some (.int 1)) (hlocks := hlocks) (fun h => by rw [hr] at h; cases h)
  have hmeth' : T.vm.method? m = some meth := X.method'
  refine ⟨T.setFrames fs, ?_, .returned (some (.int 1)), hrun, hended, rfl, ⟨_, rfl⟩, hW, hframe⟩
  jvm_step X.here [X.here.top, hx, hb, hdg, hmeth', hr, ret, narrow_b1]
  (try refine ⟨rfl, ?_⟩); (try refine ⟨rfl, ?_⟩)
  first | (intro acts; rw [hret _ acts rfl rfl rfl]) | rw [hret _ _ rfl rfl rfl]
  exact Steps.refl _
/-- what holds at the law's entry: the machine, the code, the tables' words (any of lw_tbl by 'hts w (by decide +kernel)'), the script of L ints xs at the cell b, what the Statement gives of the start (any of its parts by flat_of_before) -/
def lw_At (p : Program) (s : State) (m : MethodId) (meth : Method) (c : Code) (b L : Nat) (xs : Nat → Int32) : Prop :=
  p.tables.exec = Jvm.exec ∧ c.code = code ∧ meth.sig.returnType = ret ∧ c.maxLocals = 7 ∧ s.vm.findClass R_law = some m.cls ∧ (∀ w ∈ lw_tbl, w.before #[Value.ref b] s = true) ∧ va_X b L xs s s.heap ∧ b < s.heap.size ∧ meth.locks = false ∧ (Jvm.Cond.and given_1 narrow_1).before #[Value.ref b] s = true
theorem d_law_0 : decode code 0 = .ok (.new 8, 3) := by decide +kernel
theorem d_law_3 : decode code 3 = .ok (.dup, 1) := by decide +kernel
theorem d_law_4 : decode code 4 = .ok (.invokespecial 15, 3) := by decide +kernel
theorem d_law_7 : decode code 7 = .ok (.astore_n 1, 1) := by decide +kernel
theorem d_law_8 : decode code 8 = .ok (.new 16, 3) := by decide +kernel
theorem d_law_11 : decode code 11 = .ok (.dup, 1) := by decide +kernel
theorem d_law_12 : decode code 12 = .ok (.invokespecial 18, 3) := by decide +kernel
theorem d_law_15 : decode code 15 = .ok (.astore_n 2, 1) := by decide +kernel
theorem d_law_16 : decode code 16 = .ok (.iconst 1, 1) := by decide +kernel
theorem d_law_17 : decode code 17 = .ok (.newarray .long, 2) := by decide +kernel
theorem d_law_19 : decode code 19 = .ok (.astore_n 3, 1) := by decide +kernel
theorem d_law_20 : decode code 20 = .ok (.iconst 0, 1) := by decide +kernel
theorem d_law_21 : decode code 21 = .ok (.istore 4, 2) := by decide +kernel
theorem d_law_23 : decode code 23 = .ok (.iload 4, 2) := by decide +kernel
theorem d_law_25 : decode code 25 = .ok (.aload_n 0, 1) := by decide +kernel
theorem d_law_26 : decode code 26 = .ok (.arraylength, 1) := by decide +kernel
theorem d_law_27 : decode code 27 = .ok (.iconst 5, 1) := by decide +kernel
theorem d_law_28 : decode code 28 = .ok (.isub, 1) := by decide +kernel
theorem d_law_29 : decode code 29 = .ok (.if_icmp .gt 727, 3) := by decide +kernel
theorem d_law_32 : decode code 32 = .ok (.aload_n 0, 1) := by decide +kernel
theorem d_law_33 : decode code 33 = .ok (.iload 4, 2) := by decide +kernel
theorem d_law_35 : decode code 35 = .ok (.iaload, 1) := by decide +kernel
theorem d_law_36 : decode code 36 = .ok (.bipush 15, 2) := by decide +kernel
theorem d_law_38 : decode code 38 = .ok (.iand, 1) := by decide +kernel
theorem d_law_39 : decode code 39 = .ok (.tableswitch 711 0 14 #[73, 130, 143, 168, 249, 286, 361, 398, 423, 448, 529, 611, 648, 673, 686], 73) := by decide +kernel
theorem d_law_112 : decode code 112 = .ok (.aload_n 1, 1) := by decide +kernel
theorem d_law_113 : decode code 113 = .ok (.aload_n 0, 1) := by decide +kernel
theorem d_law_114 : decode code 114 = .ok (.iload 4, 2) := by decide +kernel
theorem d_law_116 : decode code 116 = .ok (.iconst 1, 1) := by decide +kernel
theorem d_law_117 : decode code 117 = .ok (.iadd, 1) := by decide +kernel
theorem d_law_118 : decode code 118 = .ok (.iaload, 1) := by decide +kernel
theorem d_law_119 : decode code 119 = .ok (.i2l, 1) := by decide +kernel
theorem d_law_120 : decode code 120 = .ok (.bipush 32, 2) := by decide +kernel
theorem d_law_122 : decode code 122 = .ok (.lshl, 1) := by decide +kernel
theorem d_law_123 : decode code 123 = .ok (.aload_n 0, 1) := by decide +kernel
theorem d_law_124 : decode code 124 = .ok (.iload 4, 2) := by decide +kernel
theorem d_law_126 : decode code 126 = .ok (.iconst 2, 1) := by decide +kernel
theorem d_law_127 : decode code 127 = .ok (.iadd, 1) := by decide +kernel
theorem d_law_128 : decode code 128 = .ok (.iaload, 1) := by decide +kernel
theorem d_law_129 : decode code 129 = .ok (.i2l, 1) := by decide +kernel
theorem d_law_130 : decode code 130 = .ok (.ldc2_w 19, 3) := by decide +kernel
theorem d_law_133 : decode code 133 = .ok (.land, 1) := by decide +kernel
theorem d_law_134 : decode code 134 = .ok (.lor, 1) := by decide +kernel
theorem d_law_135 : decode code 135 = .ok (.invokevirtual 21, 3) := by decide +kernel
theorem d_law_138 : decode code 138 = .ok (.aload_n 2, 1) := by decide +kernel
theorem d_law_139 : decode code 139 = .ok (.aload_n 0, 1) := by decide +kernel
theorem d_law_140 : decode code 140 = .ok (.iload 4, 2) := by decide +kernel
theorem d_law_142 : decode code 142 = .ok (.iconst 1, 1) := by decide +kernel
theorem d_law_143 : decode code 143 = .ok (.iadd, 1) := by decide +kernel
theorem d_law_144 : decode code 144 = .ok (.iaload, 1) := by decide +kernel
theorem d_law_145 : decode code 145 = .ok (.i2l, 1) := by decide +kernel
theorem d_law_146 : decode code 146 = .ok (.bipush 32, 2) := by decide +kernel
theorem d_law_148 : decode code 148 = .ok (.lshl, 1) := by decide +kernel
theorem d_law_149 : decode code 149 = .ok (.aload_n 0, 1) := by decide +kernel
theorem d_law_150 : decode code 150 = .ok (.iload 4, 2) := by decide +kernel
theorem d_law_152 : decode code 152 = .ok (.iconst 2, 1) := by decide +kernel
theorem d_law_153 : decode code 153 = .ok (.iadd, 1) := by decide +kernel
theorem d_law_154 : decode code 154 = .ok (.iaload, 1) := by decide +kernel
theorem d_law_155 : decode code 155 = .ok (.i2l, 1) := by decide +kernel
theorem d_law_156 : decode code 156 = .ok (.ldc2_w 19, 3) := by decide +kernel
theorem d_law_159 : decode code 159 = .ok (.land, 1) := by decide +kernel
theorem d_law_160 : decode code 160 = .ok (.lor, 1) := by decide +kernel
theorem d_law_161 : decode code 161 = .ok (.invokevirtual 25, 3) := by decide +kernel
theorem d_law_164 : decode code 164 = .ok (.if_icmp .eq 586, 3) := by decide +kernel
theorem d_law_167 : decode code 167 = .ok (.iconst 0, 1) := by decide +kernel
theorem d_law_168 : decode code 168 = .ok (.ireturn, 1) := by decide +kernel
theorem d_law_169 : decode code 169 = .ok (.aload_n 1, 1) := by decide +kernel
theorem d_law_170 : decode code 170 = .ok (.invokevirtual 26, 3) := by decide +kernel
theorem d_law_173 : decode code 173 = .ok (.aload_n 2, 1) := by decide +kernel
theorem d_law_174 : decode code 174 = .ok (.invokevirtual 30, 3) := by decide +kernel
theorem d_law_177 : decode code 177 = .ok (.if_icmp .eq 573, 3) := by decide +kernel
theorem d_law_180 : decode code 180 = .ok (.iconst 0, 1) := by decide +kernel
theorem d_law_181 : decode code 181 = .ok (.ireturn, 1) := by decide +kernel
theorem d_law_182 : decode code 182 = .ok (.aload_n 1, 1) := by decide +kernel
theorem d_law_183 : decode code 183 = .ok (.aload_n 0, 1) := by decide +kernel
theorem d_law_184 : decode code 184 = .ok (.iload 4, 2) := by decide +kernel
theorem d_law_186 : decode code 186 = .ok (.iconst 1, 1) := by decide +kernel
theorem d_law_187 : decode code 187 = .ok (.iadd, 1) := by decide +kernel
theorem d_law_188 : decode code 188 = .ok (.iaload, 1) := by decide +kernel
theorem d_law_189 : decode code 189 = .ok (.invokevirtual 31, 3) := by decide +kernel
theorem d_law_192 : decode code 192 = .ok (.aload_n 2, 1) := by decide +kernel
theorem d_law_193 : decode code 193 = .ok (.aload_n 0, 1) := by decide +kernel
theorem d_law_194 : decode code 194 = .ok (.iload 4, 2) := by decide +kernel
theorem d_law_196 : decode code 196 = .ok (.iconst 1, 1) := by decide +kernel
theorem d_law_197 : decode code 197 = .ok (.iadd, 1) := by decide +kernel
theorem d_law_198 : decode code 198 = .ok (.iaload, 1) := by decide +kernel
theorem d_law_199 : decode code 199 = .ok (.invokevirtual 35, 3) := by decide +kernel
theorem d_law_202 : decode code 202 = .ok (.if_icmp .eq 548, 3) := by decide +kernel
theorem d_law_205 : decode code 205 = .ok (.iconst 0, 1) := by decide +kernel
theorem d_law_206 : decode code 206 = .ok (.ireturn, 1) := by decide +kernel
theorem d_law_207 : decode code 207 = .ok (.aload_n 1, 1) := by decide +kernel
theorem d_law_208 : decode code 208 = .ok (.aload_n 0, 1) := by decide +kernel
theorem d_law_209 : decode code 209 = .ok (.iload 4, 2) := by decide +kernel
theorem d_law_211 : decode code 211 = .ok (.iconst 1, 1) := by decide +kernel
theorem d_law_212 : decode code 212 = .ok (.iadd, 1) := by decide +kernel
theorem d_law_213 : decode code 213 = .ok (.iaload, 1) := by decide +kernel
theorem d_law_214 : decode code 214 = .ok (.aload_n 0, 1) := by decide +kernel
theorem d_law_215 : decode code 215 = .ok (.iload 4, 2) := by decide +kernel
theorem d_law_217 : decode code 217 = .ok (.iconst 2, 1) := by decide +kernel
theorem d_law_218 : decode code 218 = .ok (.iadd, 1) := by decide +kernel
theorem d_law_219 : decode code 219 = .ok (.iaload, 1) := by decide +kernel
theorem d_law_220 : decode code 220 = .ok (.aload_n 0, 1) := by decide +kernel
theorem d_law_221 : decode code 221 = .ok (.iload 4, 2) := by decide +kernel
theorem d_law_223 : decode code 223 = .ok (.iconst 3, 1) := by decide +kernel
theorem d_law_224 : decode code 224 = .ok (.iadd, 1) := by decide +kernel
theorem d_law_225 : decode code 225 = .ok (.iaload, 1) := by decide +kernel
theorem d_law_226 : decode code 226 = .ok (.i2l, 1) := by decide +kernel
theorem d_law_227 : decode code 227 = .ok (.bipush 32, 2) := by decide +kernel
theorem d_law_229 : decode code 229 = .ok (.lshl, 1) := by decide +kernel
theorem d_law_230 : decode code 230 = .ok (.aload_n 0, 1) := by decide +kernel
theorem d_law_231 : decode code 231 = .ok (.iload 4, 2) := by decide +kernel
theorem d_law_233 : decode code 233 = .ok (.iconst 4, 1) := by decide +kernel
theorem d_law_234 : decode code 234 = .ok (.iadd, 1) := by decide +kernel
theorem d_law_235 : decode code 235 = .ok (.iaload, 1) := by decide +kernel
theorem d_law_236 : decode code 236 = .ok (.i2l, 1) := by decide +kernel
theorem d_law_237 : decode code 237 = .ok (.ldc2_w 19, 3) := by decide +kernel
theorem d_law_240 : decode code 240 = .ok (.land, 1) := by decide +kernel
theorem d_law_241 : decode code 241 = .ok (.lor, 1) := by decide +kernel
theorem d_law_242 : decode code 242 = .ok (.invokevirtual 36, 3) := by decide +kernel
theorem d_law_245 : decode code 245 = .ok (.aload_n 2, 1) := by decide +kernel
theorem d_law_246 : decode code 246 = .ok (.aload_n 0, 1) := by decide +kernel
theorem d_law_247 : decode code 247 = .ok (.iload 4, 2) := by decide +kernel
theorem d_law_249 : decode code 249 = .ok (.iconst 1, 1) := by decide +kernel
theorem d_law_250 : decode code 250 = .ok (.iadd, 1) := by decide +kernel
theorem d_law_251 : decode code 251 = .ok (.iaload, 1) := by decide +kernel
theorem d_law_252 : decode code 252 = .ok (.aload_n 0, 1) := by decide +kernel
theorem d_law_253 : decode code 253 = .ok (.iload 4, 2) := by decide +kernel
theorem d_law_255 : decode code 255 = .ok (.iconst 2, 1) := by decide +kernel
theorem d_law_256 : decode code 256 = .ok (.iadd, 1) := by decide +kernel
theorem d_law_257 : decode code 257 = .ok (.iaload, 1) := by decide +kernel
theorem d_law_258 : decode code 258 = .ok (.aload_n 0, 1) := by decide +kernel
theorem d_law_259 : decode code 259 = .ok (.iload 4, 2) := by decide +kernel
theorem d_law_261 : decode code 261 = .ok (.iconst 3, 1) := by decide +kernel
theorem d_law_262 : decode code 262 = .ok (.iadd, 1) := by decide +kernel
theorem d_law_263 : decode code 263 = .ok (.iaload, 1) := by decide +kernel
theorem d_law_264 : decode code 264 = .ok (.i2l, 1) := by decide +kernel
theorem d_law_265 : decode code 265 = .ok (.bipush 32, 2) := by decide +kernel
theorem d_law_267 : decode code 267 = .ok (.lshl, 1) := by decide +kernel
theorem d_law_268 : decode code 268 = .ok (.aload_n 0, 1) := by decide +kernel
theorem d_law_269 : decode code 269 = .ok (.iload 4, 2) := by decide +kernel
theorem d_law_271 : decode code 271 = .ok (.iconst 4, 1) := by decide +kernel
theorem d_law_272 : decode code 272 = .ok (.iadd, 1) := by decide +kernel
theorem d_law_273 : decode code 273 = .ok (.iaload, 1) := by decide +kernel
theorem d_law_274 : decode code 274 = .ok (.i2l, 1) := by decide +kernel
theorem d_law_275 : decode code 275 = .ok (.ldc2_w 19, 3) := by decide +kernel
theorem d_law_278 : decode code 278 = .ok (.land, 1) := by decide +kernel
theorem d_law_279 : decode code 279 = .ok (.lor, 1) := by decide +kernel
theorem d_law_280 : decode code 280 = .ok (.invokevirtual 40, 3) := by decide +kernel
theorem d_law_283 : decode code 283 = .ok (.if_icmp .eq 467, 3) := by decide +kernel
theorem d_law_286 : decode code 286 = .ok (.iconst 0, 1) := by decide +kernel
theorem d_law_287 : decode code 287 = .ok (.ireturn, 1) := by decide +kernel
theorem d_law_288 : decode code 288 = .ok (.aload_n 1, 1) := by decide +kernel
theorem d_law_289 : decode code 289 = .ok (.aload_n 0, 1) := by decide +kernel
theorem d_law_290 : decode code 290 = .ok (.iload 4, 2) := by decide +kernel
theorem d_law_292 : decode code 292 = .ok (.iconst 1, 1) := by decide +kernel
theorem d_law_293 : decode code 293 = .ok (.iadd, 1) := by decide +kernel
theorem d_law_294 : decode code 294 = .ok (.iaload, 1) := by decide +kernel
theorem d_law_295 : decode code 295 = .ok (.aload_n 0, 1) := by decide +kernel
theorem d_law_296 : decode code 296 = .ok (.iload 4, 2) := by decide +kernel
theorem d_law_298 : decode code 298 = .ok (.iconst 2, 1) := by decide +kernel
theorem d_law_299 : decode code 299 = .ok (.iadd, 1) := by decide +kernel
theorem d_law_300 : decode code 300 = .ok (.iaload, 1) := by decide +kernel
theorem d_law_301 : decode code 301 = .ok (.invokevirtual 41, 3) := by decide +kernel
theorem d_law_304 : decode code 304 = .ok (.aload_n 2, 1) := by decide +kernel
theorem d_law_305 : decode code 305 = .ok (.aload_n 0, 1) := by decide +kernel
theorem d_law_306 : decode code 306 = .ok (.iload 4, 2) := by decide +kernel
theorem d_law_308 : decode code 308 = .ok (.iconst 1, 1) := by decide +kernel
theorem d_law_309 : decode code 309 = .ok (.iadd, 1) := by decide +kernel
theorem d_law_310 : decode code 310 = .ok (.iaload, 1) := by decide +kernel
theorem d_law_311 : decode code 311 = .ok (.aload_n 0, 1) := by decide +kernel
theorem d_law_312 : decode code 312 = .ok (.iload 4, 2) := by decide +kernel
theorem d_law_314 : decode code 314 = .ok (.iconst 2, 1) := by decide +kernel
theorem d_law_315 : decode code 315 = .ok (.iadd, 1) := by decide +kernel
theorem d_law_316 : decode code 316 = .ok (.iaload, 1) := by decide +kernel
theorem d_law_317 : decode code 317 = .ok (.invokevirtual 45, 3) := by decide +kernel
theorem d_law_320 : decode code 320 = .ok (.if_icmp .eq 430, 3) := by decide +kernel
theorem d_law_323 : decode code 323 = .ok (.iconst 0, 1) := by decide +kernel
theorem d_law_324 : decode code 324 = .ok (.ireturn, 1) := by decide +kernel
theorem d_law_325 : decode code 325 = .ok (.aload_n 1, 1) := by decide +kernel
theorem d_law_326 : decode code 326 = .ok (.aload_n 0, 1) := by decide +kernel
theorem d_law_327 : decode code 327 = .ok (.iload 4, 2) := by decide +kernel
theorem d_law_329 : decode code 329 = .ok (.iconst 1, 1) := by decide +kernel
theorem d_law_330 : decode code 330 = .ok (.iadd, 1) := by decide +kernel
theorem d_law_331 : decode code 331 = .ok (.iaload, 1) := by decide +kernel
theorem d_law_332 : decode code 332 = .ok (.aload_n 0, 1) := by decide +kernel
theorem d_law_333 : decode code 333 = .ok (.iload 4, 2) := by decide +kernel
theorem d_law_335 : decode code 335 = .ok (.iconst 2, 1) := by decide +kernel
theorem d_law_336 : decode code 336 = .ok (.iadd, 1) := by decide +kernel
theorem d_law_337 : decode code 337 = .ok (.iaload, 1) := by decide +kernel
theorem d_law_338 : decode code 338 = .ok (.aload_n 3, 1) := by decide +kernel
theorem d_law_339 : decode code 339 = .ok (.invokestatic 46, 3) := by decide +kernel
theorem d_law_342 : decode code 342 = .ok (.istore 5, 2) := by decide +kernel
theorem d_law_344 : decode code 344 = .ok (.aload_n 2, 1) := by decide +kernel
theorem d_law_345 : decode code 345 = .ok (.aload_n 0, 1) := by decide +kernel
theorem d_law_346 : decode code 346 = .ok (.iload 4, 2) := by decide +kernel
theorem d_law_348 : decode code 348 = .ok (.iconst 1, 1) := by decide +kernel
theorem d_law_349 : decode code 349 = .ok (.iadd, 1) := by decide +kernel
theorem d_law_350 : decode code 350 = .ok (.iaload, 1) := by decide +kernel
theorem d_law_351 : decode code 351 = .ok (.aload_n 0, 1) := by decide +kernel
theorem d_law_352 : decode code 352 = .ok (.iload 4, 2) := by decide +kernel
theorem d_law_354 : decode code 354 = .ok (.iconst 2, 1) := by decide +kernel
theorem d_law_355 : decode code 355 = .ok (.iadd, 1) := by decide +kernel
theorem d_law_356 : decode code 356 = .ok (.iaload, 1) := by decide +kernel
theorem d_law_357 : decode code 357 = .ok (.invokevirtual 51, 3) := by decide +kernel
theorem d_law_360 : decode code 360 = .ok (.istore 6, 2) := by decide +kernel
theorem d_law_362 : decode code 362 = .ok (.aload_n 2, 1) := by decide +kernel
theorem d_law_363 : decode code 363 = .ok (.invokevirtual 52, 3) := by decide +kernel
theorem d_law_366 : decode code 366 = .ok (.iload 5, 2) := by decide +kernel
theorem d_law_368 : decode code 368 = .ok (.if_icmp .eq 5, 3) := by decide +kernel
theorem d_law_371 : decode code 371 = .ok (.iconst 0, 1) := by decide +kernel
theorem d_law_372 : decode code 372 = .ok (.ireturn, 1) := by decide +kernel
theorem d_law_373 : decode code 373 = .ok (.iload 5, 2) := by decide +kernel
theorem d_law_375 : decode code 375 = .ok (.ifCond .ne 22, 3) := by decide +kernel
theorem d_law_378 : decode code 378 = .ok (.aload_n 3, 1) := by decide +kernel
theorem d_law_379 : decode code 379 = .ok (.iconst 0, 1) := by decide +kernel
theorem d_law_380 : decode code 380 = .ok (.laload, 1) := by decide +kernel
theorem d_law_381 : decode code 381 = .ok (.iload 6, 2) := by decide +kernel
theorem d_law_383 : decode code 383 = .ok (.ifCond .eq 7, 3) := by decide +kernel
theorem d_law_386 : decode code 386 = .ok (.lconst 1, 1) := by decide +kernel
theorem d_law_387 : decode code 387 = .ok (.goto 4, 3) := by decide +kernel
theorem d_law_390 : decode code 390 = .ok (.lconst 0, 1) := by decide +kernel
theorem d_law_391 : decode code 391 = .ok (.lcmp, 1) := by decide +kernel
theorem d_law_392 : decode code 392 = .ok (.ifCond .eq 5, 3) := by decide +kernel
theorem d_law_395 : decode code 395 = .ok (.iconst 0, 1) := by decide +kernel
theorem d_law_396 : decode code 396 = .ok (.ireturn, 1) := by decide +kernel
theorem d_law_397 : decode code 397 = .ok (.goto 353, 3) := by decide +kernel
theorem d_law_400 : decode code 400 = .ok (.aload_n 1, 1) := by decide +kernel
theorem d_law_401 : decode code 401 = .ok (.aload_n 0, 1) := by decide +kernel
theorem d_law_402 : decode code 402 = .ok (.iload 4, 2) := by decide +kernel
theorem d_law_404 : decode code 404 = .ok (.iconst 1, 1) := by decide +kernel
theorem d_law_405 : decode code 405 = .ok (.iadd, 1) := by decide +kernel
theorem d_law_406 : decode code 406 = .ok (.iaload, 1) := by decide +kernel
theorem d_law_407 : decode code 407 = .ok (.aload_n 0, 1) := by decide +kernel
theorem d_law_408 : decode code 408 = .ok (.iload 4, 2) := by decide +kernel
theorem d_law_410 : decode code 410 = .ok (.iconst 2, 1) := by decide +kernel
theorem d_law_411 : decode code 411 = .ok (.iadd, 1) := by decide +kernel
theorem d_law_412 : decode code 412 = .ok (.iaload, 1) := by decide +kernel
theorem d_law_413 : decode code 413 = .ok (.invokevirtual 55, 3) := by decide +kernel
theorem d_law_416 : decode code 416 = .ok (.aload_n 2, 1) := by decide +kernel
theorem d_law_417 : decode code 417 = .ok (.aload_n 0, 1) := by decide +kernel
theorem d_law_418 : decode code 418 = .ok (.iload 4, 2) := by decide +kernel
theorem d_law_420 : decode code 420 = .ok (.iconst 1, 1) := by decide +kernel
theorem d_law_421 : decode code 421 = .ok (.iadd, 1) := by decide +kernel
theorem d_law_422 : decode code 422 = .ok (.iaload, 1) := by decide +kernel
theorem d_law_423 : decode code 423 = .ok (.aload_n 0, 1) := by decide +kernel
theorem d_law_424 : decode code 424 = .ok (.iload 4, 2) := by decide +kernel
theorem d_law_426 : decode code 426 = .ok (.iconst 2, 1) := by decide +kernel
theorem d_law_427 : decode code 427 = .ok (.iadd, 1) := by decide +kernel
theorem d_law_428 : decode code 428 = .ok (.iaload, 1) := by decide +kernel
theorem d_law_429 : decode code 429 = .ok (.invokevirtual 58, 3) := by decide +kernel
theorem d_law_432 : decode code 432 = .ok (.if_icmp .eq 318, 3) := by decide +kernel
theorem d_law_435 : decode code 435 = .ok (.iconst 0, 1) := by decide +kernel
theorem d_law_436 : decode code 436 = .ok (.ireturn, 1) := by decide +kernel
theorem d_law_437 : decode code 437 = .ok (.aload_n 1, 1) := by decide +kernel
theorem d_law_438 : decode code 438 = .ok (.aload_n 0, 1) := by decide +kernel
theorem d_law_439 : decode code 439 = .ok (.iload 4, 2) := by decide +kernel
theorem d_law_441 : decode code 441 = .ok (.iconst 1, 1) := by decide +kernel
theorem d_law_442 : decode code 442 = .ok (.iadd, 1) := by decide +kernel
theorem d_law_443 : decode code 443 = .ok (.iaload, 1) := by decide +kernel
theorem d_law_444 : decode code 444 = .ok (.invokevirtual 59, 3) := by decide +kernel
theorem d_law_447 : decode code 447 = .ok (.aload_n 2, 1) := by decide +kernel
theorem d_law_448 : decode code 448 = .ok (.aload_n 0, 1) := by decide +kernel
theorem d_law_449 : decode code 449 = .ok (.iload 4, 2) := by decide +kernel
theorem d_law_451 : decode code 451 = .ok (.iconst 1, 1) := by decide +kernel
theorem d_law_452 : decode code 452 = .ok (.iadd, 1) := by decide +kernel
theorem d_law_453 : decode code 453 = .ok (.iaload, 1) := by decide +kernel
theorem d_law_454 : decode code 454 = .ok (.invokevirtual 63, 3) := by decide +kernel
theorem d_law_457 : decode code 457 = .ok (.if_icmp .eq 293, 3) := by decide +kernel
theorem d_law_460 : decode code 460 = .ok (.iconst 0, 1) := by decide +kernel
theorem d_law_461 : decode code 461 = .ok (.ireturn, 1) := by decide +kernel
theorem d_law_462 : decode code 462 = .ok (.aload_n 1, 1) := by decide +kernel
theorem d_law_463 : decode code 463 = .ok (.aload_n 0, 1) := by decide +kernel
theorem d_law_464 : decode code 464 = .ok (.iload 4, 2) := by decide +kernel
theorem d_law_466 : decode code 466 = .ok (.iconst 1, 1) := by decide +kernel
theorem d_law_467 : decode code 467 = .ok (.iadd, 1) := by decide +kernel
theorem d_law_468 : decode code 468 = .ok (.iaload, 1) := by decide +kernel
theorem d_law_469 : decode code 469 = .ok (.invokevirtual 64, 3) := by decide +kernel
theorem d_law_472 : decode code 472 = .ok (.aload_n 2, 1) := by decide +kernel
theorem d_law_473 : decode code 473 = .ok (.aload_n 0, 1) := by decide +kernel
theorem d_law_474 : decode code 474 = .ok (.iload 4, 2) := by decide +kernel
theorem d_law_476 : decode code 476 = .ok (.iconst 1, 1) := by decide +kernel
theorem d_law_477 : decode code 477 = .ok (.iadd, 1) := by decide +kernel
theorem d_law_478 : decode code 478 = .ok (.iaload, 1) := by decide +kernel
theorem d_law_479 : decode code 479 = .ok (.invokevirtual 67, 3) := by decide +kernel
theorem d_law_482 : decode code 482 = .ok (.if_icmp .eq 268, 3) := by decide +kernel
theorem d_law_485 : decode code 485 = .ok (.iconst 0, 1) := by decide +kernel
theorem d_law_486 : decode code 486 = .ok (.ireturn, 1) := by decide +kernel
theorem d_law_487 : decode code 487 = .ok (.aload_n 1, 1) := by decide +kernel
theorem d_law_488 : decode code 488 = .ok (.aload_n 0, 1) := by decide +kernel
theorem d_law_489 : decode code 489 = .ok (.iload 4, 2) := by decide +kernel
theorem d_law_491 : decode code 491 = .ok (.iconst 1, 1) := by decide +kernel
theorem d_law_492 : decode code 492 = .ok (.iadd, 1) := by decide +kernel
theorem d_law_493 : decode code 493 = .ok (.iaload, 1) := by decide +kernel
theorem d_law_494 : decode code 494 = .ok (.aload_n 0, 1) := by decide +kernel
theorem d_law_495 : decode code 495 = .ok (.iload 4, 2) := by decide +kernel
theorem d_law_497 : decode code 497 = .ok (.iconst 2, 1) := by decide +kernel
theorem d_law_498 : decode code 498 = .ok (.iadd, 1) := by decide +kernel
theorem d_law_499 : decode code 499 = .ok (.iaload, 1) := by decide +kernel
theorem d_law_500 : decode code 500 = .ok (.aload_n 0, 1) := by decide +kernel
theorem d_law_501 : decode code 501 = .ok (.iload 4, 2) := by decide +kernel
theorem d_law_503 : decode code 503 = .ok (.iconst 3, 1) := by decide +kernel
theorem d_law_504 : decode code 504 = .ok (.iadd, 1) := by decide +kernel
theorem d_law_505 : decode code 505 = .ok (.iaload, 1) := by decide +kernel
theorem d_law_506 : decode code 506 = .ok (.i2l, 1) := by decide +kernel
theorem d_law_507 : decode code 507 = .ok (.bipush 32, 2) := by decide +kernel
theorem d_law_509 : decode code 509 = .ok (.lshl, 1) := by decide +kernel
theorem d_law_510 : decode code 510 = .ok (.aload_n 0, 1) := by decide +kernel
theorem d_law_511 : decode code 511 = .ok (.iload 4, 2) := by decide +kernel
theorem d_law_513 : decode code 513 = .ok (.iconst 4, 1) := by decide +kernel
theorem d_law_514 : decode code 514 = .ok (.iadd, 1) := by decide +kernel
theorem d_law_515 : decode code 515 = .ok (.iaload, 1) := by decide +kernel
theorem d_law_516 : decode code 516 = .ok (.i2l, 1) := by decide +kernel
theorem d_law_517 : decode code 517 = .ok (.ldc2_w 19, 3) := by decide +kernel
theorem d_law_520 : decode code 520 = .ok (.land, 1) := by decide +kernel
theorem d_law_521 : decode code 521 = .ok (.lor, 1) := by decide +kernel
theorem d_law_522 : decode code 522 = .ok (.invokevirtual 68, 3) := by decide +kernel
theorem d_law_525 : decode code 525 = .ok (.aload_n 2, 1) := by decide +kernel
theorem d_law_526 : decode code 526 = .ok (.aload_n 0, 1) := by decide +kernel
theorem d_law_527 : decode code 527 = .ok (.iload 4, 2) := by decide +kernel
theorem d_law_529 : decode code 529 = .ok (.iconst 1, 1) := by decide +kernel
theorem d_law_530 : decode code 530 = .ok (.iadd, 1) := by decide +kernel
theorem d_law_531 : decode code 531 = .ok (.iaload, 1) := by decide +kernel
theorem d_law_532 : decode code 532 = .ok (.aload_n 0, 1) := by decide +kernel
theorem d_law_533 : decode code 533 = .ok (.iload 4, 2) := by decide +kernel
theorem d_law_535 : decode code 535 = .ok (.iconst 2, 1) := by decide +kernel
theorem d_law_536 : decode code 536 = .ok (.iadd, 1) := by decide +kernel
theorem d_law_537 : decode code 537 = .ok (.iaload, 1) := by decide +kernel
theorem d_law_538 : decode code 538 = .ok (.aload_n 0, 1) := by decide +kernel
theorem d_law_539 : decode code 539 = .ok (.iload 4, 2) := by decide +kernel
theorem d_law_541 : decode code 541 = .ok (.iconst 3, 1) := by decide +kernel
theorem d_law_542 : decode code 542 = .ok (.iadd, 1) := by decide +kernel
theorem d_law_543 : decode code 543 = .ok (.iaload, 1) := by decide +kernel
theorem d_law_544 : decode code 544 = .ok (.i2l, 1) := by decide +kernel
theorem d_law_545 : decode code 545 = .ok (.bipush 32, 2) := by decide +kernel
theorem d_law_547 : decode code 547 = .ok (.lshl, 1) := by decide +kernel
theorem d_law_548 : decode code 548 = .ok (.aload_n 0, 1) := by decide +kernel
theorem d_law_549 : decode code 549 = .ok (.iload 4, 2) := by decide +kernel
theorem d_law_551 : decode code 551 = .ok (.iconst 4, 1) := by decide +kernel
theorem d_law_552 : decode code 552 = .ok (.iadd, 1) := by decide +kernel
theorem d_law_553 : decode code 553 = .ok (.iaload, 1) := by decide +kernel
theorem d_law_554 : decode code 554 = .ok (.i2l, 1) := by decide +kernel
theorem d_law_555 : decode code 555 = .ok (.ldc2_w 19, 3) := by decide +kernel
theorem d_law_558 : decode code 558 = .ok (.land, 1) := by decide +kernel
theorem d_law_559 : decode code 559 = .ok (.lor, 1) := by decide +kernel
theorem d_law_560 : decode code 560 = .ok (.invokevirtual 72, 3) := by decide +kernel
theorem d_law_563 : decode code 563 = .ok (.if_icmp .eq 187, 3) := by decide +kernel
theorem d_law_566 : decode code 566 = .ok (.iconst 0, 1) := by decide +kernel
theorem d_law_567 : decode code 567 = .ok (.ireturn, 1) := by decide +kernel
theorem d_law_568 : decode code 568 = .ok (.aload_n 1, 1) := by decide +kernel
theorem d_law_569 : decode code 569 = .ok (.aload_n 0, 1) := by decide +kernel
theorem d_law_570 : decode code 570 = .ok (.iload 4, 2) := by decide +kernel
theorem d_law_572 : decode code 572 = .ok (.iconst 1, 1) := by decide +kernel
theorem d_law_573 : decode code 573 = .ok (.iadd, 1) := by decide +kernel
theorem d_law_574 : decode code 574 = .ok (.iaload, 1) := by decide +kernel
theorem d_law_575 : decode code 575 = .ok (.aload_n 0, 1) := by decide +kernel
theorem d_law_576 : decode code 576 = .ok (.iload 4, 2) := by decide +kernel
theorem d_law_578 : decode code 578 = .ok (.iconst 2, 1) := by decide +kernel
theorem d_law_579 : decode code 579 = .ok (.iadd, 1) := by decide +kernel
theorem d_law_580 : decode code 580 = .ok (.iaload, 1) := by decide +kernel
theorem d_law_581 : decode code 581 = .ok (.aload_n 0, 1) := by decide +kernel
theorem d_law_582 : decode code 582 = .ok (.iload 4, 2) := by decide +kernel
theorem d_law_584 : decode code 584 = .ok (.iconst 3, 1) := by decide +kernel
theorem d_law_585 : decode code 585 = .ok (.iadd, 1) := by decide +kernel
theorem d_law_586 : decode code 586 = .ok (.iaload, 1) := by decide +kernel
theorem d_law_587 : decode code 587 = .ok (.i2l, 1) := by decide +kernel
theorem d_law_588 : decode code 588 = .ok (.bipush 32, 2) := by decide +kernel
theorem d_law_590 : decode code 590 = .ok (.lshl, 1) := by decide +kernel
theorem d_law_591 : decode code 591 = .ok (.aload_n 0, 1) := by decide +kernel
theorem d_law_592 : decode code 592 = .ok (.iload 4, 2) := by decide +kernel
theorem d_law_594 : decode code 594 = .ok (.iconst 4, 1) := by decide +kernel
theorem d_law_595 : decode code 595 = .ok (.iadd, 1) := by decide +kernel
theorem d_law_596 : decode code 596 = .ok (.iaload, 1) := by decide +kernel
theorem d_law_597 : decode code 597 = .ok (.i2l, 1) := by decide +kernel
theorem d_law_598 : decode code 598 = .ok (.ldc2_w 19, 3) := by decide +kernel
theorem d_law_601 : decode code 601 = .ok (.land, 1) := by decide +kernel
theorem d_law_602 : decode code 602 = .ok (.lor, 1) := by decide +kernel
theorem d_law_603 : decode code 603 = .ok (.invokevirtual 73, 3) := by decide +kernel
theorem d_law_606 : decode code 606 = .ok (.aload_n 2, 1) := by decide +kernel
theorem d_law_607 : decode code 607 = .ok (.aload_n 0, 1) := by decide +kernel
theorem d_law_608 : decode code 608 = .ok (.iload 4, 2) := by decide +kernel
theorem d_law_610 : decode code 610 = .ok (.iconst 1, 1) := by decide +kernel
theorem d_law_611 : decode code 611 = .ok (.iadd, 1) := by decide +kernel
theorem d_law_612 : decode code 612 = .ok (.iaload, 1) := by decide +kernel
theorem d_law_613 : decode code 613 = .ok (.aload_n 0, 1) := by decide +kernel
theorem d_law_614 : decode code 614 = .ok (.iload 4, 2) := by decide +kernel
theorem d_law_616 : decode code 616 = .ok (.iconst 2, 1) := by decide +kernel
theorem d_law_617 : decode code 617 = .ok (.iadd, 1) := by decide +kernel
theorem d_law_618 : decode code 618 = .ok (.iaload, 1) := by decide +kernel
theorem d_law_619 : decode code 619 = .ok (.aload_n 0, 1) := by decide +kernel
theorem d_law_620 : decode code 620 = .ok (.iload 4, 2) := by decide +kernel
theorem d_law_622 : decode code 622 = .ok (.iconst 3, 1) := by decide +kernel
theorem d_law_623 : decode code 623 = .ok (.iadd, 1) := by decide +kernel
theorem d_law_624 : decode code 624 = .ok (.iaload, 1) := by decide +kernel
theorem d_law_625 : decode code 625 = .ok (.i2l, 1) := by decide +kernel
theorem d_law_626 : decode code 626 = .ok (.bipush 32, 2) := by decide +kernel
theorem d_law_628 : decode code 628 = .ok (.lshl, 1) := by decide +kernel
theorem d_law_629 : decode code 629 = .ok (.aload_n 0, 1) := by decide +kernel
theorem d_law_630 : decode code 630 = .ok (.iload 4, 2) := by decide +kernel
theorem d_law_632 : decode code 632 = .ok (.iconst 4, 1) := by decide +kernel
theorem d_law_633 : decode code 633 = .ok (.iadd, 1) := by decide +kernel
theorem d_law_634 : decode code 634 = .ok (.iaload, 1) := by decide +kernel
theorem d_law_635 : decode code 635 = .ok (.i2l, 1) := by decide +kernel
theorem d_law_636 : decode code 636 = .ok (.ldc2_w 19, 3) := by decide +kernel
theorem d_law_639 : decode code 639 = .ok (.land, 1) := by decide +kernel
theorem d_law_640 : decode code 640 = .ok (.lor, 1) := by decide +kernel
theorem d_law_641 : decode code 641 = .ok (.invokevirtual 77, 3) := by decide +kernel
theorem d_law_644 : decode code 644 = .ok (.lcmp, 1) := by decide +kernel
theorem d_law_645 : decode code 645 = .ok (.ifCond .eq 105, 3) := by decide +kernel
theorem d_law_648 : decode code 648 = .ok (.iconst 0, 1) := by decide +kernel
theorem d_law_649 : decode code 649 = .ok (.ireturn, 1) := by decide +kernel
theorem d_law_650 : decode code 650 = .ok (.aload_n 1, 1) := by decide +kernel
theorem d_law_651 : decode code 651 = .ok (.aload_n 0, 1) := by decide +kernel
theorem d_law_652 : decode code 652 = .ok (.iload 4, 2) := by decide +kernel
theorem d_law_654 : decode code 654 = .ok (.iconst 1, 1) := by decide +kernel
theorem d_law_655 : decode code 655 = .ok (.iadd, 1) := by decide +kernel
theorem d_law_656 : decode code 656 = .ok (.iaload, 1) := by decide +kernel
theorem d_law_657 : decode code 657 = .ok (.aload_n 0, 1) := by decide +kernel
theorem d_law_658 : decode code 658 = .ok (.iload 4, 2) := by decide +kernel
theorem d_law_660 : decode code 660 = .ok (.iconst 2, 1) := by decide +kernel
theorem d_law_661 : decode code 661 = .ok (.iadd, 1) := by decide +kernel
theorem d_law_662 : decode code 662 = .ok (.iaload, 1) := by decide +kernel
theorem d_law_663 : decode code 663 = .ok (.invokevirtual 78, 3) := by decide +kernel
theorem d_law_666 : decode code 666 = .ok (.aload_n 2, 1) := by decide +kernel
theorem d_law_667 : decode code 667 = .ok (.aload_n 0, 1) := by decide +kernel
theorem d_law_668 : decode code 668 = .ok (.iload 4, 2) := by decide +kernel
theorem d_law_670 : decode code 670 = .ok (.iconst 1, 1) := by decide +kernel
theorem d_law_671 : decode code 671 = .ok (.iadd, 1) := by decide +kernel
theorem d_law_672 : decode code 672 = .ok (.iaload, 1) := by decide +kernel
theorem d_law_673 : decode code 673 = .ok (.aload_n 0, 1) := by decide +kernel
theorem d_law_674 : decode code 674 = .ok (.iload 4, 2) := by decide +kernel
theorem d_law_676 : decode code 676 = .ok (.iconst 2, 1) := by decide +kernel
theorem d_law_677 : decode code 677 = .ok (.iadd, 1) := by decide +kernel
theorem d_law_678 : decode code 678 = .ok (.iaload, 1) := by decide +kernel
theorem d_law_679 : decode code 679 = .ok (.invokevirtual 81, 3) := by decide +kernel
theorem d_law_682 : decode code 682 = .ok (.if_icmp .eq 68, 3) := by decide +kernel
theorem d_law_685 : decode code 685 = .ok (.iconst 0, 1) := by decide +kernel
theorem d_law_686 : decode code 686 = .ok (.ireturn, 1) := by decide +kernel
theorem d_law_687 : decode code 687 = .ok (.aload_n 1, 1) := by decide +kernel
theorem d_law_688 : decode code 688 = .ok (.aload_n 0, 1) := by decide +kernel
theorem d_law_689 : decode code 689 = .ok (.iload 4, 2) := by decide +kernel
theorem d_law_691 : decode code 691 = .ok (.iconst 1, 1) := by decide +kernel
theorem d_law_692 : decode code 692 = .ok (.iadd, 1) := by decide +kernel
theorem d_law_693 : decode code 693 = .ok (.iaload, 1) := by decide +kernel
theorem d_law_694 : decode code 694 = .ok (.invokevirtual 82, 3) := by decide +kernel
theorem d_law_697 : decode code 697 = .ok (.aload_n 2, 1) := by decide +kernel
theorem d_law_698 : decode code 698 = .ok (.aload_n 0, 1) := by decide +kernel
theorem d_law_699 : decode code 699 = .ok (.iload 4, 2) := by decide +kernel
theorem d_law_701 : decode code 701 = .ok (.iconst 1, 1) := by decide +kernel
theorem d_law_702 : decode code 702 = .ok (.iadd, 1) := by decide +kernel
theorem d_law_703 : decode code 703 = .ok (.iaload, 1) := by decide +kernel
theorem d_law_704 : decode code 704 = .ok (.invokevirtual 85, 3) := by decide +kernel
theorem d_law_707 : decode code 707 = .ok (.if_icmp .eq 43, 3) := by decide +kernel
theorem d_law_710 : decode code 710 = .ok (.iconst 0, 1) := by decide +kernel
theorem d_law_711 : decode code 711 = .ok (.ireturn, 1) := by decide +kernel
theorem d_law_712 : decode code 712 = .ok (.aload_n 1, 1) := by decide +kernel
theorem d_law_713 : decode code 713 = .ok (.invokevirtual 86, 3) := by decide +kernel
theorem d_law_716 : decode code 716 = .ok (.aload_n 2, 1) := by decide +kernel
theorem d_law_717 : decode code 717 = .ok (.invokevirtual 89, 3) := by decide +kernel
theorem d_law_720 : decode code 720 = .ok (.if_icmp .eq 30, 3) := by decide +kernel
theorem d_law_723 : decode code 723 = .ok (.iconst 0, 1) := by decide +kernel
theorem d_law_724 : decode code 724 = .ok (.ireturn, 1) := by decide +kernel
theorem d_law_725 : decode code 725 = .ok (.aload_n 1, 1) := by decide +kernel
theorem d_law_726 : decode code 726 = .ok (.aload_n 0, 1) := by decide +kernel
theorem d_law_727 : decode code 727 = .ok (.iload 4, 2) := by decide +kernel
theorem d_law_729 : decode code 729 = .ok (.iconst 1, 1) := by decide +kernel
theorem d_law_730 : decode code 730 = .ok (.iadd, 1) := by decide +kernel
theorem d_law_731 : decode code 731 = .ok (.iaload, 1) := by decide +kernel
theorem d_law_732 : decode code 732 = .ok (.invokevirtual 90, 3) := by decide +kernel
theorem d_law_735 : decode code 735 = .ok (.aload_n 2, 1) := by decide +kernel
theorem d_law_736 : decode code 736 = .ok (.aload_n 0, 1) := by decide +kernel
theorem d_law_737 : decode code 737 = .ok (.iload 4, 2) := by decide +kernel
theorem d_law_739 : decode code 739 = .ok (.iconst 1, 1) := by decide +kernel
theorem d_law_740 : decode code 740 = .ok (.iadd, 1) := by decide +kernel
theorem d_law_741 : decode code 741 = .ok (.iaload, 1) := by decide +kernel
theorem d_law_742 : decode code 742 = .ok (.invokevirtual 93, 3) := by decide +kernel
theorem d_law_745 : decode code 745 = .ok (.if_icmp .eq 5, 3) := by decide +kernel
theorem d_law_748 : decode code 748 = .ok (.iconst 0, 1) := by decide +kernel
theorem d_law_749 : decode code 749 = .ok (.ireturn, 1) := by decide +kernel
theorem d_law_750 : decode code 750 = .ok (.iinc 4 5, 3) := by decide +kernel
theorem d_law_753 : decode code 753 = .ok (.goto (-730), 3) := by decide +kernel
theorem d_law_756 : decode code 756 = .ok (.iconst 1, 1) := by decide +kernel
theorem d_law_757 : decode code 757 = .ok (.ireturn, 1) := by decide +kernel
theorem d_law_dummy : True := trivial
/-- from every heap that holds a plant and its reference side by side, the law comes to its end -/
def LN (p : Program) (l : Launch) (e : Env) (s : State) (m : MethodId) (below : List Frame) (meth : Method) (c : Code) (b : Nat) (dC : Nat → ClassId) (dI : Nat → Nat → Nat) (cI cL cB : ClassId) (A : Nat → Prop) (cells slots i q_x q_m q_o pc : Nat) : Prop := ∀ (H : Heap) (locs : List Loc) (ls : Array Slot) (P Q R M : Nat → Nat) (p_things : Int32) (p_pipes : Int32) (p_kind : (Nat → Int32)) (p_position : (Nat → Int32)) (p_told : (Nat → Int32)) (p_capacity : (Nat → Int32)) (p_amount : (Nat → Int32)) (p_liquid : (Nat → Int32)) (p_portsTaken : (Nat → Int32)) (p_endAtPort : (Nat → Int32)) (p_pipeLitres : (Nat → Int32)) (p_thingAtEnd : (Nat → Int32)) (p_portAtEnd : (Nat → Int32)) (p_bendAtEnd : (Nat → Int32)) (p_words : (Nat → Int64)) (s_things : Int32) (s_pipes : Int32) (s_kind : (Nat → Int32)) (s_position : (Nat → Int32)) (s_told : (Nat → Int32)) (s_capacity : (Nat → Int32)) (s_amount : (Nat → Int32)) (s_liquid : (Nat → Int32)) (s_portsTaken : (Nat → Int32)) (s_endAtPort : (Nat → Int32)) (s_pipeLitres : (Nat → Int32)) (s_thingAtEnd : (Nat → Int32)) (s_portAtEnd : (Nat → Int32)) (s_bendAtEnd : (Nat → Int32)) (s_words : (Nat → Int64)) (w_foundCount : Int32) (w_found : (Nat → Int32)) (w_previous : (Nat → Int32)) (w_lastE : (Nat → Int32)) (f_size : Int32) (f_words : (Nat → Int64)) (t_length : Int32) (t_place : Int32) (t_number : Int32) (t_bytes : (Nat → Int32)) (l_length : Int32) (l_bytes : (Nat → Int32)) (m_things : Int32) (m_pipes : Int32) (m_wide : Int32) (m_size : Int32) (m_place : Int32) (m_number : Int64) (m_thrown : Int32) (m_wish : Int32) (m_found : Int32) (m_kinds : (Nat → Int32)) (m_taken : (Nat → Int32)) (m_rooms : (Nat → Int64)) (m_litres : (Nat → Int64)) (m_liquids : (Nat → Int32)) (m_positions : (Nat → Int32)) (m_sensors : (Nat → Int32)) (m_ends : (Nat → Int32)) (m_sizes : (Nat → Int32)) (m_contents : (Nat → Int32)) (m_at : (Nat → Int32)) (m_ports : (Nat → Int32)) (m_bends : (Nat → Int32)) (m_left : (Nat → Int32)) (m_way : (Nat → Int32)) (m_line : (Nat → Int32)) (m_text : (Nat → Int32)) (m_newKinds : (Nat → Int32)) (m_newTaken : (Nat → Int32)) (m_words : (Nat → Int32)) (o_out : (Nat → Int64)) (S : AbS) (n : Nat) (tx : Nat → Nat), lv_has ls 7 [(0, .ref b), (1, .ref q_x), (2, .ref q_m), (3, .ref q_o), (4, .int (nI i))] → va_P (dC, dI) classes [(q_x, .inr (0, [.ref (P 0), .ref (Q 0), .ref (R 0), .ref (R 4), .ref (R 7), .ref (R 9)])), ((P 0), .inr (1, [.int p_things, .ref (P 1), .ref (P 2), .ref (P 3), .ref (P 4), .ref (P 5), .ref (P 6), .ref (P 7), .ref (P 8), .int p_pipes, .ref (P 10), .ref (P 11), .ref (P 12), .ref (P 13), .ref (P 14)])), ((P 1), .inl (cI, 40, .inl p_kind)), ((P 2), .inl (cI, 40, .inl p_position)), ((P 3), .inl (cI, 40, .inl p_told)), ((P 4), .inl (cI, 40, .inl p_capacity)), ((P 5), .inl (cI, 40, .inl p_amount)), ((P 6), .inl (cI, 40, .inl p_liquid)), ((P 7), .inl (cI, 40, .inl p_portsTaken)), ((P 8), .inl (cI, 160, .inl p_endAtPort)), ((P 10), .inl (cI, 60, .inl p_pipeLitres)), ((P 11), .inl (cI, 120, .inl p_thingAtEnd)), ((P 12), .inl (cI, 120, .inl p_portAtEnd)), ((P 13), .inl (cI, 120, .inl p_bendAtEnd)), ((P 14), .inr (2, [.ref (P 15)])), ((P 15), .inl (cL, 750, .inr (.inl p_words))), ((Q 0), .inr (1, [.int s_things, .ref (Q 1), .ref (Q 2), .ref (Q 3), .ref (Q 4), .ref (Q 5), .ref (Q 6), .ref (Q 7), .ref (Q 8), .int s_pipes, .ref (Q 10), .ref (Q 11), .ref (Q 12), .ref (Q 13), .ref (Q 14)])), ((Q 1), .inl (cI, 40, .inl s_kind)), ((Q 2), .inl (cI, 40, .inl s_position)), ((Q 3), .inl (cI, 40, .inl s_told)), ((Q 4), .inl (cI, 40, .inl s_capacity)), ((Q 5), .inl (cI, 40, .inl s_amount)), ((Q 6), .inl (cI, 40, .inl s_liquid)), ((Q 7), .inl (cI, 40, .inl s_portsTaken)), ((Q 8), .inl (cI, 160, .inl s_endAtPort)), ((Q 10), .inl (cI, 60, .inl s_pipeLitres)), ((Q 11), .inl (cI, 120, .inl s_thingAtEnd)), ((Q 12), .inl (cI, 120, .inl s_portAtEnd)), ((Q 13), .inl (cI, 120, .inl s_bendAtEnd)), ((Q 14), .inr (2, [.ref (Q 15)])), ((Q 15), .inl (cL, 750, .inr (.inl s_words))), ((R 0), .inr (3, [.ref (R 1), .int w_foundCount, .ref (R 2), .ref (R 3)])), ((R 1), .inl (cI, 120, .inl w_found)), ((R 2), .inl (cI, 120, .inl w_previous)), ((R 3), .inl (cI, 40, .inl w_lastE)), ((R 4), .inr (4, [.ref (R 5), .int f_size])), ((R 5), .inr (2, [.ref (R 6)])), ((R 6), .inl (cL, 750, .inr (.inl f_words))), ((R 7), .inr (5, [.ref (R 8), .int t_length, .int t_place, .int t_number])), ((R 8), .inl (cB, 2000, .inl t_bytes)), ((R 9), .inr (6, [.ref (R 10), .int l_length])), ((R 10), .inl (cB, 15, .inl l_bytes)), (q_m, .inr (7, o_Mo M m_things m_pipes m_wide m_size m_place m_number m_thrown m_wish m_found)), ((M 1), .inl (cI, 40, .inl m_kinds)), ((M 2), .inl (cI, 40, .inl m_taken)), ((M 3), .inl (cL, 40, .inr (.inl m_rooms))), ((M 4), .inl (cL, 40, .inr (.inl m_litres))), ((M 5), .inl (cI, 40, .inl m_liquids)), ((M 6), .inl (cI, 40, .inl m_positions)), ((M 7), .inl (cI, 40, .inl m_sensors)), ((M 8), .inl (cI, 160, .inl m_ends)), ((M 10), .inl (cI, 60, .inl m_sizes)), ((M 11), .inl (cB, 12000, .inl m_contents)), ((M 12), .inl (cI, 120, .inl m_at)), ((M 13), .inl (cI, 120, .inl m_ports)), ((M 14), .inl (cI, 120, .inl m_bends)), ((M 15), .inl (cI, 120, .inl m_left)), ((M 16), .inl (cI, 60, .inl m_way)), ((M 18), .inl (cB, 12000, .inl m_line)), ((M 19), .inl (cB, 2000, .inl m_text)), ((M 23), .inl (cI, 40, .inl m_newKinds)), ((M 24), .inl (cI, 40, .inl m_newTaken)), ((M 25), .inl (cI, 3, .inl m_words)), (q_o, .inl (cL, 1, .inr (.inl o_out)))] H → va_D A [(q_x, .inr (0, [.ref (P 0), .ref (Q 0), .ref (R 0), .ref (R 4), .ref (R 7), .ref (R 9)])), ((P 0), .inr (1, [.int p_things, .ref (P 1), .ref (P 2), .ref (P 3), .ref (P 4), .ref (P 5), .ref (P 6), .ref (P 7), .ref (P 8), .int p_pipes, .ref (P 10), .ref (P 11), .ref (P 12), .ref (P 13), .ref (P 14)])), ((P 1), .inl (cI, 40, .inl p_kind)), ((P 2), .inl (cI, 40, .inl p_position)), ((P 3), .inl (cI, 40, .inl p_told)), ((P 4), .inl (cI, 40, .inl p_capacity)), ((P 5), .inl (cI, 40, .inl p_amount)), ((P 6), .inl (cI, 40, .inl p_liquid)), ((P 7), .inl (cI, 40, .inl p_portsTaken)), ((P 8), .inl (cI, 160, .inl p_endAtPort)), ((P 10), .inl (cI, 60, .inl p_pipeLitres)), ((P 11), .inl (cI, 120, .inl p_thingAtEnd)), ((P 12), .inl (cI, 120, .inl p_portAtEnd)), ((P 13), .inl (cI, 120, .inl p_bendAtEnd)), ((P 14), .inr (2, [.ref (P 15)])), ((P 15), .inl (cL, 750, .inr (.inl p_words))), ((Q 0), .inr (1, [.int s_things, .ref (Q 1), .ref (Q 2), .ref (Q 3), .ref (Q 4), .ref (Q 5), .ref (Q 6), .ref (Q 7), .ref (Q 8), .int s_pipes, .ref (Q 10), .ref (Q 11), .ref (Q 12), .ref (Q 13), .ref (Q 14)])), ((Q 1), .inl (cI, 40, .inl s_kind)), ((Q 2), .inl (cI, 40, .inl s_position)), ((Q 3), .inl (cI, 40, .inl s_told)), ((Q 4), .inl (cI, 40, .inl s_capacity)), ((Q 5), .inl (cI, 40, .inl s_amount)), ((Q 6), .inl (cI, 40, .inl s_liquid)), ((Q 7), .inl (cI, 40, .inl s_portsTaken)), ((Q 8), .inl (cI, 160, .inl s_endAtPort)), ((Q 10), .inl (cI, 60, .inl s_pipeLitres)), ((Q 11), .inl (cI, 120, .inl s_thingAtEnd)), ((Q 12), .inl (cI, 120, .inl s_portAtEnd)), ((Q 13), .inl (cI, 120, .inl s_bendAtEnd)), ((Q 14), .inr (2, [.ref (Q 15)])), ((Q 15), .inl (cL, 750, .inr (.inl s_words))), ((R 0), .inr (3, [.ref (R 1), .int w_foundCount, .ref (R 2), .ref (R 3)])), ((R 1), .inl (cI, 120, .inl w_found)), ((R 2), .inl (cI, 120, .inl w_previous)), ((R 3), .inl (cI, 40, .inl w_lastE)), ((R 4), .inr (4, [.ref (R 5), .int f_size])), ((R 5), .inr (2, [.ref (R 6)])), ((R 6), .inl (cL, 750, .inr (.inl f_words))), ((R 7), .inr (5, [.ref (R 8), .int t_length, .int t_place, .int t_number])), ((R 8), .inl (cB, 2000, .inl t_bytes)), ((R 9), .inr (6, [.ref (R 10), .int l_length])), ((R 10), .inl (cB, 15, .inl l_bytes)), (q_m, .inr (7, o_Mo M m_things m_pipes m_wide m_size m_place m_number m_thrown m_wish m_found)), ((M 1), .inl (cI, 40, .inl m_kinds)), ((M 2), .inl (cI, 40, .inl m_taken)), ((M 3), .inl (cL, 40, .inr (.inl m_rooms))), ((M 4), .inl (cL, 40, .inr (.inl m_litres))), ((M 5), .inl (cI, 40, .inl m_liquids)), ((M 6), .inl (cI, 40, .inl m_positions)), ((M 7), .inl (cI, 40, .inl m_sensors)), ((M 8), .inl (cI, 160, .inl m_ends)), ((M 10), .inl (cI, 60, .inl m_sizes)), ((M 11), .inl (cB, 12000, .inl m_contents)), ((M 12), .inl (cI, 120, .inl m_at)), ((M 13), .inl (cI, 120, .inl m_ports)), ((M 14), .inl (cI, 120, .inl m_bends)), ((M 15), .inl (cI, 120, .inl m_left)), ((M 16), .inl (cI, 60, .inl m_way)), ((M 18), .inl (cB, 12000, .inl m_line)), ((M 19), .inl (cB, 2000, .inl m_text)), ((M 23), .inl (cI, 40, .inl m_newKinds)), ((M 24), .inl (cI, 40, .inl m_newTaken)), ((M 25), .inl (cI, 3, .inl m_words)), (q_o, .inl (cL, 1, .inr (.inl o_out)))] → (p_things = nI S.T) → (p_pipes = nI S.p) → (m_things = nI S.T) → (m_pipes = nI S.p) → (t_length = nI n) → (m_size = nI n) → VS S → CS S p_kind p_position p_told p_capacity p_amount p_liquid p_portsTaken p_endAtPort p_pipeLitres p_thingAtEnd p_portAtEnd p_bendAtEnd p_words → MS S m_kinds m_taken m_rooms m_litres m_liquids m_positions m_sensors m_ends m_sizes m_contents m_at m_ports m_bends → tG n tx t_bytes → tG n tx m_text → va_S A s.heap H locs → W p l e room_1 s m #[Value.ref b] below meth c H locs cells slots (lw_Z below #[Value.ref b] s) (F0 m pc ls [])
/-- what stays over the law's walk -/
def LC (p : Program) (l : Launch) (s : State) (m : MethodId) (meth : Method) (c : Code) (b L : Nat) (xs : Nat → Int32) (dC : Nat → ClassId) (dI : Nat → Nat → Nat) (cI cL cB : ClassId) (tP tR : Nat) (adK adV : Nat → Nat) (A : Nat → Prop) : Prop := p.tables.exec = Jvm.exec ∧ c.code = code ∧ c.maxLocals = 7 ∧ s.vm.findClass R_law = some m.cls ∧ (∀ w ∈ tb, w.before #[Value.ref b] s = true) ∧ va_X b L xs s s.heap ∧ b < s.heap.size ∧ va_K (dC, dI) classes [(cI, .int), (cL, .long), (cB, .byte)] s ∧ gx tP tR adK adV A s s.heap ∧ tX A s s.heap ∧ l.flags = flags0 ∧ meth.locks = false ∧ (∀ q : Nat, s.heap.size ≤ q → A q) ∧ ¬ A b
