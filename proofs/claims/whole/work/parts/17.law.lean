/-! THE CLAIM OUT OF ONE WALK OF THE LAW'S BODY. Your part is whole_start (and what it stands on); all else here is the same for every law, but numbers. -/
def R_law : String := "EggScalesLaw"
def lw_P (b : Addr) (xs : List Int32) (args : Array Value) (s : State) : Prop := args = #[.ref b] ∧ s.IntsAt b xs ∧ xs.length ≤ 256 ∧ (Jvm.Cond.and given_1 narrow_1).before args s = true
def lw_Q (_ : Array Value) (s : State) (o : Outcome) (t : State) : Prop := o = .returned (some (.int 1)) ∧ Framed s o t [] 600000 7302250
def lw_Z (below : List Frame) (a : Array Value) (s : State) : State → Prop := fun t => ∃ o, t.status = .running ∧ Ended t below o ∧ lw_Q a s o t
/-- the law's own end, with 1 on the stack, nothing written that was there before, its room as the claim has it -/
theorem lw_ret {p : Program} {l : Launch} {e : Env} {s : State} {m : MethodId} {below : List Frame} {meth : Method} {c : Code} {b : Nat} (hx : p.tables.exec = Jvm.exec) (hb : c.code = code) (hr : meth.sig.returnType = ret) (hlocks : meth.locks = false) {pc : Nat} {H : Heap} {ls : Array Slot} (hdg : decode code pc = .ok (.ireturn, 1)) : W p l e room_1 s m #[Value.ref b] below meth c H [] 600000 7302250 (lw_Z below #[Value.ref b] s) (F0 m pc ls [.int 1]) := by
  intro T hT X
  obtain ⟨fs, hret, hrun, hended, hW, hframe⟩ := X.leave (v := some (.int 1)) (hlocks := hlocks) (fun h => by rw [hr] at h; cases h)
  have hmeth' : T.vm.method? m = some meth := X.method'
  refine ⟨T.setFrames fs, ?_, .returned (some (.int 1)), hrun, hended, rfl, ⟨_, rfl⟩, hW, hframe⟩
  jvm_step X.here [X.here.top, hx, hb, hdg, hmeth', hr, ret, narrow_b1]
  (try refine ⟨rfl, ?_⟩); (try refine ⟨rfl, ?_⟩)
  first | (intro acts; rw [hret _ acts rfl rfl rfl]) | rw [hret _ _ rfl rfl rfl]
  exact Steps.refl _
/-- what holds at the law's entry: the machine, the code, the tables' words (any of lw_tbl by 'hts w (by decide +kernel)'), the script of L ints xs at the cell b, what the Statement gives of the start (any of its parts by flat_of_before) -/
def lw_At (p : Program) (s : State) (m : MethodId) (meth : Method) (c : Code) (b L : Nat) (xs : Nat → Int32) : Prop :=
  p.tables.exec = Jvm.exec ∧ c.code = code ∧ meth.sig.returnType = ret ∧ c.maxLocals = 4 ∧ s.vm.findClass R_law = some m.cls ∧ (∀ w ∈ lw_tbl, w.before #[Value.ref b] s = true) ∧ va_X b L xs s s.heap ∧ b < s.heap.size ∧ meth.locks = false ∧ (Jvm.Cond.and given_1 narrow_1).before #[Value.ref b] s = true
theorem dL_law_0 : decode cL_law 0 = .ok (.new 7, 3) := by decide +kernel
theorem dL_law_3 : decode cL_law 3 = .ok (.dup, 1) := by decide +kernel
theorem dL_law_4 : decode cL_law 4 = .ok (.invokespecial 9, 3) := by decide +kernel
theorem dL_law_7 : decode cL_law 7 = .ok (.astore_n 1, 1) := by decide +kernel
theorem dL_law_8 : decode cL_law 8 = .ok (.new 10, 3) := by decide +kernel
theorem dL_law_11 : decode cL_law 11 = .ok (.dup, 1) := by decide +kernel
theorem dL_law_12 : decode cL_law 12 = .ok (.invokespecial 12, 3) := by decide +kernel
theorem dL_law_15 : decode cL_law 15 = .ok (.astore_n 2, 1) := by decide +kernel
theorem dL_law_16 : decode cL_law 16 = .ok (.iconst 0, 1) := by decide +kernel
theorem dL_law_17 : decode cL_law 17 = .ok (.istore_n 3, 1) := by decide +kernel
theorem dL_law_18 : decode cL_law 18 = .ok (.iload_n 3, 1) := by decide +kernel
theorem dL_law_19 : decode cL_law 19 = .ok (.aload_n 0, 1) := by decide +kernel
theorem dL_law_20 : decode cL_law 20 = .ok (.arraylength, 1) := by decide +kernel
theorem dL_law_21 : decode cL_law 21 = .ok (.iconst 4, 1) := by decide +kernel
theorem dL_law_22 : decode cL_law 22 = .ok (.isub, 1) := by decide +kernel
theorem dL_law_23 : decode cL_law 23 = .ok (.if_icmp .gt 865, 3) := by decide +kernel
theorem dL_law_26 : decode cL_law 26 = .ok (.aload_n 0, 1) := by decide +kernel
theorem dL_law_27 : decode cL_law 27 = .ok (.iload_n 3, 1) := by decide +kernel
theorem dL_law_28 : decode cL_law 28 = .ok (.iaload, 1) := by decide +kernel
theorem dL_law_29 : decode cL_law 29 = .ok (.bipush 31, 2) := by decide +kernel
theorem dL_law_31 : decode cL_law 31 = .ok (.iand, 1) := by decide +kernel
theorem dL_law_32 : decode cL_law 32 = .ok (.tableswitch 850 0 28 #[132, 155, 168, 181, 214, 247, 270, 293, 316, 339, 372, 395, 418, 431, 454, 477, 500, 533, 576, 619, 652, 685, 698, 721, 734, 767, 790, 813, 836], 132) := by decide +kernel
theorem dL_law_164 : decode cL_law 164 = .ok (.aload_n 1, 1) := by decide +kernel
theorem dL_law_165 : decode cL_law 165 = .ok (.aload_n 0, 1) := by decide +kernel
theorem dL_law_166 : decode cL_law 166 = .ok (.iload_n 3, 1) := by decide +kernel
theorem dL_law_167 : decode cL_law 167 = .ok (.iconst 1, 1) := by decide +kernel
theorem dL_law_168 : decode cL_law 168 = .ok (.iadd, 1) := by decide +kernel
theorem dL_law_169 : decode cL_law 169 = .ok (.iaload, 1) := by decide +kernel
theorem dL_law_170 : decode cL_law 170 = .ok (.invokevirtual 13, 3) := by decide +kernel
theorem dL_law_173 : decode cL_law 173 = .ok (.aload_n 2, 1) := by decide +kernel
theorem dL_law_174 : decode cL_law 174 = .ok (.aload_n 0, 1) := by decide +kernel
theorem dL_law_175 : decode cL_law 175 = .ok (.iload_n 3, 1) := by decide +kernel
theorem dL_law_176 : decode cL_law 176 = .ok (.iconst 1, 1) := by decide +kernel
theorem dL_law_177 : decode cL_law 177 = .ok (.iadd, 1) := by decide +kernel
theorem dL_law_178 : decode cL_law 178 = .ok (.iaload, 1) := by decide +kernel
theorem dL_law_179 : decode cL_law 179 = .ok (.invokevirtual 17, 3) := by decide +kernel
theorem dL_law_182 : decode cL_law 182 = .ok (.if_icmp .eq 700, 3) := by decide +kernel
theorem dL_law_185 : decode cL_law 185 = .ok (.iconst 0, 1) := by decide +kernel
theorem dL_law_186 : decode cL_law 186 = .ok (.ireturn, 1) := by decide +kernel
theorem dL_law_187 : decode cL_law 187 = .ok (.aload_n 1, 1) := by decide +kernel
theorem dL_law_188 : decode cL_law 188 = .ok (.invokevirtual 18, 3) := by decide +kernel
theorem dL_law_191 : decode cL_law 191 = .ok (.aload_n 2, 1) := by decide +kernel
theorem dL_law_192 : decode cL_law 192 = .ok (.invokevirtual 22, 3) := by decide +kernel
theorem dL_law_195 : decode cL_law 195 = .ok (.if_icmp .eq 687, 3) := by decide +kernel
theorem dL_law_198 : decode cL_law 198 = .ok (.iconst 0, 1) := by decide +kernel
theorem dL_law_199 : decode cL_law 199 = .ok (.ireturn, 1) := by decide +kernel
theorem dL_law_200 : decode cL_law 200 = .ok (.aload_n 1, 1) := by decide +kernel
theorem dL_law_201 : decode cL_law 201 = .ok (.invokevirtual 23, 3) := by decide +kernel
theorem dL_law_204 : decode cL_law 204 = .ok (.aload_n 2, 1) := by decide +kernel
theorem dL_law_205 : decode cL_law 205 = .ok (.invokevirtual 26, 3) := by decide +kernel
theorem dL_law_208 : decode cL_law 208 = .ok (.if_icmp .eq 674, 3) := by decide +kernel
theorem dL_law_211 : decode cL_law 211 = .ok (.iconst 0, 1) := by decide +kernel
theorem dL_law_212 : decode cL_law 212 = .ok (.ireturn, 1) := by decide +kernel
theorem dL_law_213 : decode cL_law 213 = .ok (.aload_n 1, 1) := by decide +kernel
theorem dL_law_214 : decode cL_law 214 = .ok (.aload_n 0, 1) := by decide +kernel
theorem dL_law_215 : decode cL_law 215 = .ok (.iload_n 3, 1) := by decide +kernel
theorem dL_law_216 : decode cL_law 216 = .ok (.iconst 1, 1) := by decide +kernel
theorem dL_law_217 : decode cL_law 217 = .ok (.iadd, 1) := by decide +kernel
theorem dL_law_218 : decode cL_law 218 = .ok (.iaload, 1) := by decide +kernel
theorem dL_law_219 : decode cL_law 219 = .ok (.aload_n 0, 1) := by decide +kernel
theorem dL_law_220 : decode cL_law 220 = .ok (.iload_n 3, 1) := by decide +kernel
theorem dL_law_221 : decode cL_law 221 = .ok (.iconst 2, 1) := by decide +kernel
theorem dL_law_222 : decode cL_law 222 = .ok (.iadd, 1) := by decide +kernel
theorem dL_law_223 : decode cL_law 223 = .ok (.iaload, 1) := by decide +kernel
theorem dL_law_224 : decode cL_law 224 = .ok (.invokevirtual 27, 3) := by decide +kernel
theorem dL_law_227 : decode cL_law 227 = .ok (.aload_n 2, 1) := by decide +kernel
theorem dL_law_228 : decode cL_law 228 = .ok (.aload_n 0, 1) := by decide +kernel
theorem dL_law_229 : decode cL_law 229 = .ok (.iload_n 3, 1) := by decide +kernel
theorem dL_law_230 : decode cL_law 230 = .ok (.iconst 1, 1) := by decide +kernel
theorem dL_law_231 : decode cL_law 231 = .ok (.iadd, 1) := by decide +kernel
theorem dL_law_232 : decode cL_law 232 = .ok (.iaload, 1) := by decide +kernel
theorem dL_law_233 : decode cL_law 233 = .ok (.aload_n 0, 1) := by decide +kernel
theorem dL_law_234 : decode cL_law 234 = .ok (.iload_n 3, 1) := by decide +kernel
theorem dL_law_235 : decode cL_law 235 = .ok (.iconst 2, 1) := by decide +kernel
theorem dL_law_236 : decode cL_law 236 = .ok (.iadd, 1) := by decide +kernel
theorem dL_law_237 : decode cL_law 237 = .ok (.iaload, 1) := by decide +kernel
theorem dL_law_238 : decode cL_law 238 = .ok (.invokevirtual 31, 3) := by decide +kernel
theorem dL_law_241 : decode cL_law 241 = .ok (.if_icmp .eq 641, 3) := by decide +kernel
theorem dL_law_244 : decode cL_law 244 = .ok (.iconst 0, 1) := by decide +kernel
theorem dL_law_245 : decode cL_law 245 = .ok (.ireturn, 1) := by decide +kernel
theorem dL_law_246 : decode cL_law 246 = .ok (.aload_n 1, 1) := by decide +kernel
theorem dL_law_247 : decode cL_law 247 = .ok (.aload_n 0, 1) := by decide +kernel
theorem dL_law_248 : decode cL_law 248 = .ok (.iload_n 3, 1) := by decide +kernel
theorem dL_law_249 : decode cL_law 249 = .ok (.iconst 1, 1) := by decide +kernel
theorem dL_law_250 : decode cL_law 250 = .ok (.iadd, 1) := by decide +kernel
theorem dL_law_251 : decode cL_law 251 = .ok (.iaload, 1) := by decide +kernel
theorem dL_law_252 : decode cL_law 252 = .ok (.aload_n 0, 1) := by decide +kernel
theorem dL_law_253 : decode cL_law 253 = .ok (.iload_n 3, 1) := by decide +kernel
theorem dL_law_254 : decode cL_law 254 = .ok (.iconst 2, 1) := by decide +kernel
theorem dL_law_255 : decode cL_law 255 = .ok (.iadd, 1) := by decide +kernel
theorem dL_law_256 : decode cL_law 256 = .ok (.iaload, 1) := by decide +kernel
theorem dL_law_257 : decode cL_law 257 = .ok (.invokevirtual 32, 3) := by decide +kernel
theorem dL_law_260 : decode cL_law 260 = .ok (.aload_n 2, 1) := by decide +kernel
theorem dL_law_261 : decode cL_law 261 = .ok (.aload_n 0, 1) := by decide +kernel
theorem dL_law_262 : decode cL_law 262 = .ok (.iload_n 3, 1) := by decide +kernel
theorem dL_law_263 : decode cL_law 263 = .ok (.iconst 1, 1) := by decide +kernel
theorem dL_law_264 : decode cL_law 264 = .ok (.iadd, 1) := by decide +kernel
theorem dL_law_265 : decode cL_law 265 = .ok (.iaload, 1) := by decide +kernel
theorem dL_law_266 : decode cL_law 266 = .ok (.aload_n 0, 1) := by decide +kernel
theorem dL_law_267 : decode cL_law 267 = .ok (.iload_n 3, 1) := by decide +kernel
theorem dL_law_268 : decode cL_law 268 = .ok (.iconst 2, 1) := by decide +kernel
theorem dL_law_269 : decode cL_law 269 = .ok (.iadd, 1) := by decide +kernel
theorem dL_law_270 : decode cL_law 270 = .ok (.iaload, 1) := by decide +kernel
theorem dL_law_271 : decode cL_law 271 = .ok (.invokevirtual 35, 3) := by decide +kernel
theorem dL_law_274 : decode cL_law 274 = .ok (.if_icmp .eq 608, 3) := by decide +kernel
theorem dL_law_277 : decode cL_law 277 = .ok (.iconst 0, 1) := by decide +kernel
theorem dL_law_278 : decode cL_law 278 = .ok (.ireturn, 1) := by decide +kernel
theorem dL_law_279 : decode cL_law 279 = .ok (.aload_n 1, 1) := by decide +kernel
theorem dL_law_280 : decode cL_law 280 = .ok (.aload_n 0, 1) := by decide +kernel
theorem dL_law_281 : decode cL_law 281 = .ok (.iload_n 3, 1) := by decide +kernel
theorem dL_law_282 : decode cL_law 282 = .ok (.iconst 1, 1) := by decide +kernel
theorem dL_law_283 : decode cL_law 283 = .ok (.iadd, 1) := by decide +kernel
theorem dL_law_284 : decode cL_law 284 = .ok (.iaload, 1) := by decide +kernel
theorem dL_law_285 : decode cL_law 285 = .ok (.invokevirtual 36, 3) := by decide +kernel
theorem dL_law_288 : decode cL_law 288 = .ok (.aload_n 2, 1) := by decide +kernel
theorem dL_law_289 : decode cL_law 289 = .ok (.aload_n 0, 1) := by decide +kernel
theorem dL_law_290 : decode cL_law 290 = .ok (.iload_n 3, 1) := by decide +kernel
theorem dL_law_291 : decode cL_law 291 = .ok (.iconst 1, 1) := by decide +kernel
theorem dL_law_292 : decode cL_law 292 = .ok (.iadd, 1) := by decide +kernel
theorem dL_law_293 : decode cL_law 293 = .ok (.iaload, 1) := by decide +kernel
theorem dL_law_294 : decode cL_law 294 = .ok (.invokevirtual 39, 3) := by decide +kernel
theorem dL_law_297 : decode cL_law 297 = .ok (.if_icmp .eq 585, 3) := by decide +kernel
theorem dL_law_300 : decode cL_law 300 = .ok (.iconst 0, 1) := by decide +kernel
theorem dL_law_301 : decode cL_law 301 = .ok (.ireturn, 1) := by decide +kernel
theorem dL_law_302 : decode cL_law 302 = .ok (.aload_n 1, 1) := by decide +kernel
theorem dL_law_303 : decode cL_law 303 = .ok (.aload_n 0, 1) := by decide +kernel
theorem dL_law_304 : decode cL_law 304 = .ok (.iload_n 3, 1) := by decide +kernel
theorem dL_law_305 : decode cL_law 305 = .ok (.iconst 1, 1) := by decide +kernel
theorem dL_law_306 : decode cL_law 306 = .ok (.iadd, 1) := by decide +kernel
theorem dL_law_307 : decode cL_law 307 = .ok (.iaload, 1) := by decide +kernel
theorem dL_law_308 : decode cL_law 308 = .ok (.invokevirtual 40, 3) := by decide +kernel
theorem dL_law_311 : decode cL_law 311 = .ok (.aload_n 2, 1) := by decide +kernel
theorem dL_law_312 : decode cL_law 312 = .ok (.aload_n 0, 1) := by decide +kernel
theorem dL_law_313 : decode cL_law 313 = .ok (.iload_n 3, 1) := by decide +kernel
theorem dL_law_314 : decode cL_law 314 = .ok (.iconst 1, 1) := by decide +kernel
theorem dL_law_315 : decode cL_law 315 = .ok (.iadd, 1) := by decide +kernel
theorem dL_law_316 : decode cL_law 316 = .ok (.iaload, 1) := by decide +kernel
theorem dL_law_317 : decode cL_law 317 = .ok (.invokevirtual 43, 3) := by decide +kernel
theorem dL_law_320 : decode cL_law 320 = .ok (.if_icmp .eq 562, 3) := by decide +kernel
theorem dL_law_323 : decode cL_law 323 = .ok (.iconst 0, 1) := by decide +kernel
theorem dL_law_324 : decode cL_law 324 = .ok (.ireturn, 1) := by decide +kernel
theorem dL_law_325 : decode cL_law 325 = .ok (.aload_n 1, 1) := by decide +kernel
theorem dL_law_326 : decode cL_law 326 = .ok (.aload_n 0, 1) := by decide +kernel
theorem dL_law_327 : decode cL_law 327 = .ok (.iload_n 3, 1) := by decide +kernel
theorem dL_law_328 : decode cL_law 328 = .ok (.iconst 1, 1) := by decide +kernel
theorem dL_law_329 : decode cL_law 329 = .ok (.iadd, 1) := by decide +kernel
theorem dL_law_330 : decode cL_law 330 = .ok (.iaload, 1) := by decide +kernel
theorem dL_law_331 : decode cL_law 331 = .ok (.invokevirtual 44, 3) := by decide +kernel
theorem dL_law_334 : decode cL_law 334 = .ok (.aload_n 2, 1) := by decide +kernel
theorem dL_law_335 : decode cL_law 335 = .ok (.aload_n 0, 1) := by decide +kernel
theorem dL_law_336 : decode cL_law 336 = .ok (.iload_n 3, 1) := by decide +kernel
theorem dL_law_337 : decode cL_law 337 = .ok (.iconst 1, 1) := by decide +kernel
theorem dL_law_338 : decode cL_law 338 = .ok (.iadd, 1) := by decide +kernel
theorem dL_law_339 : decode cL_law 339 = .ok (.iaload, 1) := by decide +kernel
theorem dL_law_340 : decode cL_law 340 = .ok (.invokevirtual 47, 3) := by decide +kernel
theorem dL_law_343 : decode cL_law 343 = .ok (.if_icmp .eq 539, 3) := by decide +kernel
theorem dL_law_346 : decode cL_law 346 = .ok (.iconst 0, 1) := by decide +kernel
theorem dL_law_347 : decode cL_law 347 = .ok (.ireturn, 1) := by decide +kernel
theorem dL_law_348 : decode cL_law 348 = .ok (.aload_n 1, 1) := by decide +kernel
theorem dL_law_349 : decode cL_law 349 = .ok (.aload_n 0, 1) := by decide +kernel
theorem dL_law_350 : decode cL_law 350 = .ok (.iload_n 3, 1) := by decide +kernel
theorem dL_law_351 : decode cL_law 351 = .ok (.iconst 1, 1) := by decide +kernel
theorem dL_law_352 : decode cL_law 352 = .ok (.iadd, 1) := by decide +kernel
theorem dL_law_353 : decode cL_law 353 = .ok (.iaload, 1) := by decide +kernel
theorem dL_law_354 : decode cL_law 354 = .ok (.invokevirtual 48, 3) := by decide +kernel
theorem dL_law_357 : decode cL_law 357 = .ok (.aload_n 2, 1) := by decide +kernel
theorem dL_law_358 : decode cL_law 358 = .ok (.aload_n 0, 1) := by decide +kernel
theorem dL_law_359 : decode cL_law 359 = .ok (.iload_n 3, 1) := by decide +kernel
theorem dL_law_360 : decode cL_law 360 = .ok (.iconst 1, 1) := by decide +kernel
theorem dL_law_361 : decode cL_law 361 = .ok (.iadd, 1) := by decide +kernel
theorem dL_law_362 : decode cL_law 362 = .ok (.iaload, 1) := by decide +kernel
theorem dL_law_363 : decode cL_law 363 = .ok (.invokevirtual 51, 3) := by decide +kernel
theorem dL_law_366 : decode cL_law 366 = .ok (.if_icmp .eq 516, 3) := by decide +kernel
theorem dL_law_369 : decode cL_law 369 = .ok (.iconst 0, 1) := by decide +kernel
theorem dL_law_370 : decode cL_law 370 = .ok (.ireturn, 1) := by decide +kernel
theorem dL_law_371 : decode cL_law 371 = .ok (.aload_n 1, 1) := by decide +kernel
theorem dL_law_372 : decode cL_law 372 = .ok (.aload_n 0, 1) := by decide +kernel
theorem dL_law_373 : decode cL_law 373 = .ok (.iload_n 3, 1) := by decide +kernel
theorem dL_law_374 : decode cL_law 374 = .ok (.iconst 1, 1) := by decide +kernel
theorem dL_law_375 : decode cL_law 375 = .ok (.iadd, 1) := by decide +kernel
theorem dL_law_376 : decode cL_law 376 = .ok (.iaload, 1) := by decide +kernel
theorem dL_law_377 : decode cL_law 377 = .ok (.aload_n 0, 1) := by decide +kernel
theorem dL_law_378 : decode cL_law 378 = .ok (.iload_n 3, 1) := by decide +kernel
theorem dL_law_379 : decode cL_law 379 = .ok (.iconst 2, 1) := by decide +kernel
theorem dL_law_380 : decode cL_law 380 = .ok (.iadd, 1) := by decide +kernel
theorem dL_law_381 : decode cL_law 381 = .ok (.iaload, 1) := by decide +kernel
theorem dL_law_382 : decode cL_law 382 = .ok (.invokevirtual 52, 3) := by decide +kernel
theorem dL_law_385 : decode cL_law 385 = .ok (.aload_n 2, 1) := by decide +kernel
theorem dL_law_386 : decode cL_law 386 = .ok (.aload_n 0, 1) := by decide +kernel
theorem dL_law_387 : decode cL_law 387 = .ok (.iload_n 3, 1) := by decide +kernel
theorem dL_law_388 : decode cL_law 388 = .ok (.iconst 1, 1) := by decide +kernel
theorem dL_law_389 : decode cL_law 389 = .ok (.iadd, 1) := by decide +kernel
theorem dL_law_390 : decode cL_law 390 = .ok (.iaload, 1) := by decide +kernel
theorem dL_law_391 : decode cL_law 391 = .ok (.aload_n 0, 1) := by decide +kernel
theorem dL_law_392 : decode cL_law 392 = .ok (.iload_n 3, 1) := by decide +kernel
theorem dL_law_393 : decode cL_law 393 = .ok (.iconst 2, 1) := by decide +kernel
theorem dL_law_394 : decode cL_law 394 = .ok (.iadd, 1) := by decide +kernel
theorem dL_law_395 : decode cL_law 395 = .ok (.iaload, 1) := by decide +kernel
theorem dL_law_396 : decode cL_law 396 = .ok (.invokevirtual 55, 3) := by decide +kernel
theorem dL_law_399 : decode cL_law 399 = .ok (.if_icmp .eq 483, 3) := by decide +kernel
theorem dL_law_402 : decode cL_law 402 = .ok (.iconst 0, 1) := by decide +kernel
theorem dL_law_403 : decode cL_law 403 = .ok (.ireturn, 1) := by decide +kernel
theorem dL_law_404 : decode cL_law 404 = .ok (.aload_n 1, 1) := by decide +kernel
theorem dL_law_405 : decode cL_law 405 = .ok (.aload_n 0, 1) := by decide +kernel
theorem dL_law_406 : decode cL_law 406 = .ok (.iload_n 3, 1) := by decide +kernel
theorem dL_law_407 : decode cL_law 407 = .ok (.iconst 1, 1) := by decide +kernel
theorem dL_law_408 : decode cL_law 408 = .ok (.iadd, 1) := by decide +kernel
theorem dL_law_409 : decode cL_law 409 = .ok (.iaload, 1) := by decide +kernel
theorem dL_law_410 : decode cL_law 410 = .ok (.invokevirtual 56, 3) := by decide +kernel
theorem dL_law_413 : decode cL_law 413 = .ok (.aload_n 2, 1) := by decide +kernel
theorem dL_law_414 : decode cL_law 414 = .ok (.aload_n 0, 1) := by decide +kernel
theorem dL_law_415 : decode cL_law 415 = .ok (.iload_n 3, 1) := by decide +kernel
theorem dL_law_416 : decode cL_law 416 = .ok (.iconst 1, 1) := by decide +kernel
theorem dL_law_417 : decode cL_law 417 = .ok (.iadd, 1) := by decide +kernel
theorem dL_law_418 : decode cL_law 418 = .ok (.iaload, 1) := by decide +kernel
theorem dL_law_419 : decode cL_law 419 = .ok (.invokevirtual 59, 3) := by decide +kernel
theorem dL_law_422 : decode cL_law 422 = .ok (.if_icmp .eq 460, 3) := by decide +kernel
theorem dL_law_425 : decode cL_law 425 = .ok (.iconst 0, 1) := by decide +kernel
theorem dL_law_426 : decode cL_law 426 = .ok (.ireturn, 1) := by decide +kernel
theorem dL_law_427 : decode cL_law 427 = .ok (.aload_n 1, 1) := by decide +kernel
theorem dL_law_428 : decode cL_law 428 = .ok (.aload_n 0, 1) := by decide +kernel
theorem dL_law_429 : decode cL_law 429 = .ok (.iload_n 3, 1) := by decide +kernel
theorem dL_law_430 : decode cL_law 430 = .ok (.iconst 1, 1) := by decide +kernel
theorem dL_law_431 : decode cL_law 431 = .ok (.iadd, 1) := by decide +kernel
theorem dL_law_432 : decode cL_law 432 = .ok (.iaload, 1) := by decide +kernel
theorem dL_law_433 : decode cL_law 433 = .ok (.invokevirtual 60, 3) := by decide +kernel
theorem dL_law_436 : decode cL_law 436 = .ok (.aload_n 2, 1) := by decide +kernel
theorem dL_law_437 : decode cL_law 437 = .ok (.aload_n 0, 1) := by decide +kernel
theorem dL_law_438 : decode cL_law 438 = .ok (.iload_n 3, 1) := by decide +kernel
theorem dL_law_439 : decode cL_law 439 = .ok (.iconst 1, 1) := by decide +kernel
theorem dL_law_440 : decode cL_law 440 = .ok (.iadd, 1) := by decide +kernel
theorem dL_law_441 : decode cL_law 441 = .ok (.iaload, 1) := by decide +kernel
theorem dL_law_442 : decode cL_law 442 = .ok (.invokevirtual 63, 3) := by decide +kernel
theorem dL_law_445 : decode cL_law 445 = .ok (.if_icmp .eq 437, 3) := by decide +kernel
theorem dL_law_448 : decode cL_law 448 = .ok (.iconst 0, 1) := by decide +kernel
theorem dL_law_449 : decode cL_law 449 = .ok (.ireturn, 1) := by decide +kernel
theorem dL_law_450 : decode cL_law 450 = .ok (.aload_n 1, 1) := by decide +kernel
theorem dL_law_451 : decode cL_law 451 = .ok (.invokevirtual 64, 3) := by decide +kernel
theorem dL_law_454 : decode cL_law 454 = .ok (.aload_n 2, 1) := by decide +kernel
theorem dL_law_455 : decode cL_law 455 = .ok (.invokevirtual 67, 3) := by decide +kernel
theorem dL_law_458 : decode cL_law 458 = .ok (.if_icmp .eq 424, 3) := by decide +kernel
theorem dL_law_461 : decode cL_law 461 = .ok (.iconst 0, 1) := by decide +kernel
theorem dL_law_462 : decode cL_law 462 = .ok (.ireturn, 1) := by decide +kernel
theorem dL_law_463 : decode cL_law 463 = .ok (.aload_n 1, 1) := by decide +kernel
theorem dL_law_464 : decode cL_law 464 = .ok (.aload_n 0, 1) := by decide +kernel
theorem dL_law_465 : decode cL_law 465 = .ok (.iload_n 3, 1) := by decide +kernel
theorem dL_law_466 : decode cL_law 466 = .ok (.iconst 1, 1) := by decide +kernel
theorem dL_law_467 : decode cL_law 467 = .ok (.iadd, 1) := by decide +kernel
theorem dL_law_468 : decode cL_law 468 = .ok (.iaload, 1) := by decide +kernel
theorem dL_law_469 : decode cL_law 469 = .ok (.invokevirtual 68, 3) := by decide +kernel
theorem dL_law_472 : decode cL_law 472 = .ok (.aload_n 2, 1) := by decide +kernel
theorem dL_law_473 : decode cL_law 473 = .ok (.aload_n 0, 1) := by decide +kernel
theorem dL_law_474 : decode cL_law 474 = .ok (.iload_n 3, 1) := by decide +kernel
theorem dL_law_475 : decode cL_law 475 = .ok (.iconst 1, 1) := by decide +kernel
theorem dL_law_476 : decode cL_law 476 = .ok (.iadd, 1) := by decide +kernel
theorem dL_law_477 : decode cL_law 477 = .ok (.iaload, 1) := by decide +kernel
theorem dL_law_478 : decode cL_law 478 = .ok (.invokevirtual 71, 3) := by decide +kernel
theorem dL_law_481 : decode cL_law 481 = .ok (.if_icmp .eq 401, 3) := by decide +kernel
theorem dL_law_484 : decode cL_law 484 = .ok (.iconst 0, 1) := by decide +kernel
theorem dL_law_485 : decode cL_law 485 = .ok (.ireturn, 1) := by decide +kernel
theorem dL_law_486 : decode cL_law 486 = .ok (.aload_n 1, 1) := by decide +kernel
theorem dL_law_487 : decode cL_law 487 = .ok (.aload_n 0, 1) := by decide +kernel
theorem dL_law_488 : decode cL_law 488 = .ok (.iload_n 3, 1) := by decide +kernel
theorem dL_law_489 : decode cL_law 489 = .ok (.iconst 1, 1) := by decide +kernel
theorem dL_law_490 : decode cL_law 490 = .ok (.iadd, 1) := by decide +kernel
theorem dL_law_491 : decode cL_law 491 = .ok (.iaload, 1) := by decide +kernel
theorem dL_law_492 : decode cL_law 492 = .ok (.invokevirtual 72, 3) := by decide +kernel
theorem dL_law_495 : decode cL_law 495 = .ok (.aload_n 2, 1) := by decide +kernel
theorem dL_law_496 : decode cL_law 496 = .ok (.aload_n 0, 1) := by decide +kernel
theorem dL_law_497 : decode cL_law 497 = .ok (.iload_n 3, 1) := by decide +kernel
theorem dL_law_498 : decode cL_law 498 = .ok (.iconst 1, 1) := by decide +kernel
theorem dL_law_499 : decode cL_law 499 = .ok (.iadd, 1) := by decide +kernel
theorem dL_law_500 : decode cL_law 500 = .ok (.iaload, 1) := by decide +kernel
theorem dL_law_501 : decode cL_law 501 = .ok (.invokevirtual 75, 3) := by decide +kernel
theorem dL_law_504 : decode cL_law 504 = .ok (.if_icmp .eq 378, 3) := by decide +kernel
theorem dL_law_507 : decode cL_law 507 = .ok (.iconst 0, 1) := by decide +kernel
theorem dL_law_508 : decode cL_law 508 = .ok (.ireturn, 1) := by decide +kernel
theorem dL_law_509 : decode cL_law 509 = .ok (.aload_n 1, 1) := by decide +kernel
theorem dL_law_510 : decode cL_law 510 = .ok (.aload_n 0, 1) := by decide +kernel
theorem dL_law_511 : decode cL_law 511 = .ok (.iload_n 3, 1) := by decide +kernel
theorem dL_law_512 : decode cL_law 512 = .ok (.iconst 1, 1) := by decide +kernel
theorem dL_law_513 : decode cL_law 513 = .ok (.iadd, 1) := by decide +kernel
theorem dL_law_514 : decode cL_law 514 = .ok (.iaload, 1) := by decide +kernel
theorem dL_law_515 : decode cL_law 515 = .ok (.invokevirtual 76, 3) := by decide +kernel
theorem dL_law_518 : decode cL_law 518 = .ok (.aload_n 2, 1) := by decide +kernel
theorem dL_law_519 : decode cL_law 519 = .ok (.aload_n 0, 1) := by decide +kernel
theorem dL_law_520 : decode cL_law 520 = .ok (.iload_n 3, 1) := by decide +kernel
theorem dL_law_521 : decode cL_law 521 = .ok (.iconst 1, 1) := by decide +kernel
theorem dL_law_522 : decode cL_law 522 = .ok (.iadd, 1) := by decide +kernel
theorem dL_law_523 : decode cL_law 523 = .ok (.iaload, 1) := by decide +kernel
theorem dL_law_524 : decode cL_law 524 = .ok (.invokevirtual 79, 3) := by decide +kernel
theorem dL_law_527 : decode cL_law 527 = .ok (.if_icmp .eq 355, 3) := by decide +kernel
theorem dL_law_530 : decode cL_law 530 = .ok (.iconst 0, 1) := by decide +kernel
theorem dL_law_531 : decode cL_law 531 = .ok (.ireturn, 1) := by decide +kernel
theorem dL_law_532 : decode cL_law 532 = .ok (.aload_n 1, 1) := by decide +kernel
theorem dL_law_533 : decode cL_law 533 = .ok (.aload_n 0, 1) := by decide +kernel
theorem dL_law_534 : decode cL_law 534 = .ok (.iload_n 3, 1) := by decide +kernel
theorem dL_law_535 : decode cL_law 535 = .ok (.iconst 1, 1) := by decide +kernel
theorem dL_law_536 : decode cL_law 536 = .ok (.iadd, 1) := by decide +kernel
theorem dL_law_537 : decode cL_law 537 = .ok (.iaload, 1) := by decide +kernel
theorem dL_law_538 : decode cL_law 538 = .ok (.aload_n 0, 1) := by decide +kernel
theorem dL_law_539 : decode cL_law 539 = .ok (.iload_n 3, 1) := by decide +kernel
theorem dL_law_540 : decode cL_law 540 = .ok (.iconst 2, 1) := by decide +kernel
theorem dL_law_541 : decode cL_law 541 = .ok (.iadd, 1) := by decide +kernel
theorem dL_law_542 : decode cL_law 542 = .ok (.iaload, 1) := by decide +kernel
theorem dL_law_543 : decode cL_law 543 = .ok (.invokevirtual 80, 3) := by decide +kernel
theorem dL_law_546 : decode cL_law 546 = .ok (.aload_n 2, 1) := by decide +kernel
theorem dL_law_547 : decode cL_law 547 = .ok (.aload_n 0, 1) := by decide +kernel
theorem dL_law_548 : decode cL_law 548 = .ok (.iload_n 3, 1) := by decide +kernel
theorem dL_law_549 : decode cL_law 549 = .ok (.iconst 1, 1) := by decide +kernel
theorem dL_law_550 : decode cL_law 550 = .ok (.iadd, 1) := by decide +kernel
theorem dL_law_551 : decode cL_law 551 = .ok (.iaload, 1) := by decide +kernel
theorem dL_law_552 : decode cL_law 552 = .ok (.aload_n 0, 1) := by decide +kernel
theorem dL_law_553 : decode cL_law 553 = .ok (.iload_n 3, 1) := by decide +kernel
theorem dL_law_554 : decode cL_law 554 = .ok (.iconst 2, 1) := by decide +kernel
theorem dL_law_555 : decode cL_law 555 = .ok (.iadd, 1) := by decide +kernel
theorem dL_law_556 : decode cL_law 556 = .ok (.iaload, 1) := by decide +kernel
theorem dL_law_557 : decode cL_law 557 = .ok (.invokevirtual 83, 3) := by decide +kernel
theorem dL_law_560 : decode cL_law 560 = .ok (.if_icmp .eq 322, 3) := by decide +kernel
theorem dL_law_563 : decode cL_law 563 = .ok (.iconst 0, 1) := by decide +kernel
theorem dL_law_564 : decode cL_law 564 = .ok (.ireturn, 1) := by decide +kernel
theorem dL_law_565 : decode cL_law 565 = .ok (.aload_n 1, 1) := by decide +kernel
theorem dL_law_566 : decode cL_law 566 = .ok (.aload_n 0, 1) := by decide +kernel
theorem dL_law_567 : decode cL_law 567 = .ok (.iload_n 3, 1) := by decide +kernel
theorem dL_law_568 : decode cL_law 568 = .ok (.iconst 1, 1) := by decide +kernel
theorem dL_law_569 : decode cL_law 569 = .ok (.iadd, 1) := by decide +kernel
theorem dL_law_570 : decode cL_law 570 = .ok (.iaload, 1) := by decide +kernel
theorem dL_law_571 : decode cL_law 571 = .ok (.aload_n 0, 1) := by decide +kernel
theorem dL_law_572 : decode cL_law 572 = .ok (.iload_n 3, 1) := by decide +kernel
theorem dL_law_573 : decode cL_law 573 = .ok (.iconst 2, 1) := by decide +kernel
theorem dL_law_574 : decode cL_law 574 = .ok (.iadd, 1) := by decide +kernel
theorem dL_law_575 : decode cL_law 575 = .ok (.iaload, 1) := by decide +kernel
theorem dL_law_576 : decode cL_law 576 = .ok (.aload_n 0, 1) := by decide +kernel
theorem dL_law_577 : decode cL_law 577 = .ok (.iload_n 3, 1) := by decide +kernel
theorem dL_law_578 : decode cL_law 578 = .ok (.iconst 3, 1) := by decide +kernel
theorem dL_law_579 : decode cL_law 579 = .ok (.iadd, 1) := by decide +kernel
theorem dL_law_580 : decode cL_law 580 = .ok (.iaload, 1) := by decide +kernel
theorem dL_law_581 : decode cL_law 581 = .ok (.invokevirtual 84, 3) := by decide +kernel
theorem dL_law_584 : decode cL_law 584 = .ok (.aload_n 2, 1) := by decide +kernel
theorem dL_law_585 : decode cL_law 585 = .ok (.aload_n 0, 1) := by decide +kernel
theorem dL_law_586 : decode cL_law 586 = .ok (.iload_n 3, 1) := by decide +kernel
theorem dL_law_587 : decode cL_law 587 = .ok (.iconst 1, 1) := by decide +kernel
theorem dL_law_588 : decode cL_law 588 = .ok (.iadd, 1) := by decide +kernel
theorem dL_law_589 : decode cL_law 589 = .ok (.iaload, 1) := by decide +kernel
theorem dL_law_590 : decode cL_law 590 = .ok (.aload_n 0, 1) := by decide +kernel
theorem dL_law_591 : decode cL_law 591 = .ok (.iload_n 3, 1) := by decide +kernel
theorem dL_law_592 : decode cL_law 592 = .ok (.iconst 2, 1) := by decide +kernel
theorem dL_law_593 : decode cL_law 593 = .ok (.iadd, 1) := by decide +kernel
theorem dL_law_594 : decode cL_law 594 = .ok (.iaload, 1) := by decide +kernel
theorem dL_law_595 : decode cL_law 595 = .ok (.aload_n 0, 1) := by decide +kernel
theorem dL_law_596 : decode cL_law 596 = .ok (.iload_n 3, 1) := by decide +kernel
theorem dL_law_597 : decode cL_law 597 = .ok (.iconst 3, 1) := by decide +kernel
theorem dL_law_598 : decode cL_law 598 = .ok (.iadd, 1) := by decide +kernel
theorem dL_law_599 : decode cL_law 599 = .ok (.iaload, 1) := by decide +kernel
theorem dL_law_600 : decode cL_law 600 = .ok (.invokevirtual 88, 3) := by decide +kernel
theorem dL_law_603 : decode cL_law 603 = .ok (.if_icmp .eq 279, 3) := by decide +kernel
theorem dL_law_606 : decode cL_law 606 = .ok (.iconst 0, 1) := by decide +kernel
theorem dL_law_607 : decode cL_law 607 = .ok (.ireturn, 1) := by decide +kernel
theorem dL_law_608 : decode cL_law 608 = .ok (.aload_n 1, 1) := by decide +kernel
theorem dL_law_609 : decode cL_law 609 = .ok (.aload_n 0, 1) := by decide +kernel
theorem dL_law_610 : decode cL_law 610 = .ok (.iload_n 3, 1) := by decide +kernel
theorem dL_law_611 : decode cL_law 611 = .ok (.iconst 1, 1) := by decide +kernel
theorem dL_law_612 : decode cL_law 612 = .ok (.iadd, 1) := by decide +kernel
theorem dL_law_613 : decode cL_law 613 = .ok (.iaload, 1) := by decide +kernel
theorem dL_law_614 : decode cL_law 614 = .ok (.aload_n 0, 1) := by decide +kernel
theorem dL_law_615 : decode cL_law 615 = .ok (.iload_n 3, 1) := by decide +kernel
theorem dL_law_616 : decode cL_law 616 = .ok (.iconst 2, 1) := by decide +kernel
theorem dL_law_617 : decode cL_law 617 = .ok (.iadd, 1) := by decide +kernel
theorem dL_law_618 : decode cL_law 618 = .ok (.iaload, 1) := by decide +kernel
theorem dL_law_619 : decode cL_law 619 = .ok (.aload_n 0, 1) := by decide +kernel
theorem dL_law_620 : decode cL_law 620 = .ok (.iload_n 3, 1) := by decide +kernel
theorem dL_law_621 : decode cL_law 621 = .ok (.iconst 3, 1) := by decide +kernel
theorem dL_law_622 : decode cL_law 622 = .ok (.iadd, 1) := by decide +kernel
theorem dL_law_623 : decode cL_law 623 = .ok (.iaload, 1) := by decide +kernel
theorem dL_law_624 : decode cL_law 624 = .ok (.invokevirtual 89, 3) := by decide +kernel
theorem dL_law_627 : decode cL_law 627 = .ok (.aload_n 2, 1) := by decide +kernel
theorem dL_law_628 : decode cL_law 628 = .ok (.aload_n 0, 1) := by decide +kernel
theorem dL_law_629 : decode cL_law 629 = .ok (.iload_n 3, 1) := by decide +kernel
theorem dL_law_630 : decode cL_law 630 = .ok (.iconst 1, 1) := by decide +kernel
theorem dL_law_631 : decode cL_law 631 = .ok (.iadd, 1) := by decide +kernel
theorem dL_law_632 : decode cL_law 632 = .ok (.iaload, 1) := by decide +kernel
theorem dL_law_633 : decode cL_law 633 = .ok (.aload_n 0, 1) := by decide +kernel
theorem dL_law_634 : decode cL_law 634 = .ok (.iload_n 3, 1) := by decide +kernel
theorem dL_law_635 : decode cL_law 635 = .ok (.iconst 2, 1) := by decide +kernel
theorem dL_law_636 : decode cL_law 636 = .ok (.iadd, 1) := by decide +kernel
theorem dL_law_637 : decode cL_law 637 = .ok (.iaload, 1) := by decide +kernel
theorem dL_law_638 : decode cL_law 638 = .ok (.aload_n 0, 1) := by decide +kernel
theorem dL_law_639 : decode cL_law 639 = .ok (.iload_n 3, 1) := by decide +kernel
theorem dL_law_640 : decode cL_law 640 = .ok (.iconst 3, 1) := by decide +kernel
theorem dL_law_641 : decode cL_law 641 = .ok (.iadd, 1) := by decide +kernel
theorem dL_law_642 : decode cL_law 642 = .ok (.iaload, 1) := by decide +kernel
theorem dL_law_643 : decode cL_law 643 = .ok (.invokevirtual 92, 3) := by decide +kernel
theorem dL_law_646 : decode cL_law 646 = .ok (.if_icmp .eq 236, 3) := by decide +kernel
theorem dL_law_649 : decode cL_law 649 = .ok (.iconst 0, 1) := by decide +kernel
theorem dL_law_650 : decode cL_law 650 = .ok (.ireturn, 1) := by decide +kernel
theorem dL_law_651 : decode cL_law 651 = .ok (.aload_n 1, 1) := by decide +kernel
theorem dL_law_652 : decode cL_law 652 = .ok (.aload_n 0, 1) := by decide +kernel
theorem dL_law_653 : decode cL_law 653 = .ok (.iload_n 3, 1) := by decide +kernel
theorem dL_law_654 : decode cL_law 654 = .ok (.iconst 1, 1) := by decide +kernel
theorem dL_law_655 : decode cL_law 655 = .ok (.iadd, 1) := by decide +kernel
theorem dL_law_656 : decode cL_law 656 = .ok (.iaload, 1) := by decide +kernel
theorem dL_law_657 : decode cL_law 657 = .ok (.aload_n 0, 1) := by decide +kernel
theorem dL_law_658 : decode cL_law 658 = .ok (.iload_n 3, 1) := by decide +kernel
theorem dL_law_659 : decode cL_law 659 = .ok (.iconst 2, 1) := by decide +kernel
theorem dL_law_660 : decode cL_law 660 = .ok (.iadd, 1) := by decide +kernel
theorem dL_law_661 : decode cL_law 661 = .ok (.iaload, 1) := by decide +kernel
theorem dL_law_662 : decode cL_law 662 = .ok (.invokevirtual 93, 3) := by decide +kernel
theorem dL_law_665 : decode cL_law 665 = .ok (.aload_n 2, 1) := by decide +kernel
theorem dL_law_666 : decode cL_law 666 = .ok (.aload_n 0, 1) := by decide +kernel
theorem dL_law_667 : decode cL_law 667 = .ok (.iload_n 3, 1) := by decide +kernel
theorem dL_law_668 : decode cL_law 668 = .ok (.iconst 1, 1) := by decide +kernel
theorem dL_law_669 : decode cL_law 669 = .ok (.iadd, 1) := by decide +kernel
theorem dL_law_670 : decode cL_law 670 = .ok (.iaload, 1) := by decide +kernel
theorem dL_law_671 : decode cL_law 671 = .ok (.aload_n 0, 1) := by decide +kernel
theorem dL_law_672 : decode cL_law 672 = .ok (.iload_n 3, 1) := by decide +kernel
theorem dL_law_673 : decode cL_law 673 = .ok (.iconst 2, 1) := by decide +kernel
theorem dL_law_674 : decode cL_law 674 = .ok (.iadd, 1) := by decide +kernel
theorem dL_law_675 : decode cL_law 675 = .ok (.iaload, 1) := by decide +kernel
theorem dL_law_676 : decode cL_law 676 = .ok (.invokevirtual 96, 3) := by decide +kernel
theorem dL_law_679 : decode cL_law 679 = .ok (.if_icmp .eq 203, 3) := by decide +kernel
theorem dL_law_682 : decode cL_law 682 = .ok (.iconst 0, 1) := by decide +kernel
theorem dL_law_683 : decode cL_law 683 = .ok (.ireturn, 1) := by decide +kernel
theorem dL_law_684 : decode cL_law 684 = .ok (.aload_n 1, 1) := by decide +kernel
theorem dL_law_685 : decode cL_law 685 = .ok (.aload_n 0, 1) := by decide +kernel
theorem dL_law_686 : decode cL_law 686 = .ok (.iload_n 3, 1) := by decide +kernel
theorem dL_law_687 : decode cL_law 687 = .ok (.iconst 1, 1) := by decide +kernel
theorem dL_law_688 : decode cL_law 688 = .ok (.iadd, 1) := by decide +kernel
theorem dL_law_689 : decode cL_law 689 = .ok (.iaload, 1) := by decide +kernel
theorem dL_law_690 : decode cL_law 690 = .ok (.aload_n 0, 1) := by decide +kernel
theorem dL_law_691 : decode cL_law 691 = .ok (.iload_n 3, 1) := by decide +kernel
theorem dL_law_692 : decode cL_law 692 = .ok (.iconst 2, 1) := by decide +kernel
theorem dL_law_693 : decode cL_law 693 = .ok (.iadd, 1) := by decide +kernel
theorem dL_law_694 : decode cL_law 694 = .ok (.iaload, 1) := by decide +kernel
theorem dL_law_695 : decode cL_law 695 = .ok (.invokevirtual 97, 3) := by decide +kernel
theorem dL_law_698 : decode cL_law 698 = .ok (.aload_n 2, 1) := by decide +kernel
theorem dL_law_699 : decode cL_law 699 = .ok (.aload_n 0, 1) := by decide +kernel
theorem dL_law_700 : decode cL_law 700 = .ok (.iload_n 3, 1) := by decide +kernel
theorem dL_law_701 : decode cL_law 701 = .ok (.iconst 1, 1) := by decide +kernel
theorem dL_law_702 : decode cL_law 702 = .ok (.iadd, 1) := by decide +kernel
theorem dL_law_703 : decode cL_law 703 = .ok (.iaload, 1) := by decide +kernel
theorem dL_law_704 : decode cL_law 704 = .ok (.aload_n 0, 1) := by decide +kernel
theorem dL_law_705 : decode cL_law 705 = .ok (.iload_n 3, 1) := by decide +kernel
theorem dL_law_706 : decode cL_law 706 = .ok (.iconst 2, 1) := by decide +kernel
theorem dL_law_707 : decode cL_law 707 = .ok (.iadd, 1) := by decide +kernel
theorem dL_law_708 : decode cL_law 708 = .ok (.iaload, 1) := by decide +kernel
theorem dL_law_709 : decode cL_law 709 = .ok (.invokevirtual 100, 3) := by decide +kernel
theorem dL_law_712 : decode cL_law 712 = .ok (.if_icmp .eq 170, 3) := by decide +kernel
theorem dL_law_715 : decode cL_law 715 = .ok (.iconst 0, 1) := by decide +kernel
theorem dL_law_716 : decode cL_law 716 = .ok (.ireturn, 1) := by decide +kernel
theorem dL_law_717 : decode cL_law 717 = .ok (.aload_n 1, 1) := by decide +kernel
theorem dL_law_718 : decode cL_law 718 = .ok (.invokevirtual 101, 3) := by decide +kernel
theorem dL_law_721 : decode cL_law 721 = .ok (.aload_n 2, 1) := by decide +kernel
theorem dL_law_722 : decode cL_law 722 = .ok (.invokevirtual 104, 3) := by decide +kernel
theorem dL_law_725 : decode cL_law 725 = .ok (.if_icmp .eq 157, 3) := by decide +kernel
theorem dL_law_728 : decode cL_law 728 = .ok (.iconst 0, 1) := by decide +kernel
theorem dL_law_729 : decode cL_law 729 = .ok (.ireturn, 1) := by decide +kernel
theorem dL_law_730 : decode cL_law 730 = .ok (.aload_n 1, 1) := by decide +kernel
theorem dL_law_731 : decode cL_law 731 = .ok (.aload_n 0, 1) := by decide +kernel
theorem dL_law_732 : decode cL_law 732 = .ok (.iload_n 3, 1) := by decide +kernel
theorem dL_law_733 : decode cL_law 733 = .ok (.iconst 1, 1) := by decide +kernel
theorem dL_law_734 : decode cL_law 734 = .ok (.iadd, 1) := by decide +kernel
theorem dL_law_735 : decode cL_law 735 = .ok (.iaload, 1) := by decide +kernel
theorem dL_law_736 : decode cL_law 736 = .ok (.invokevirtual 105, 3) := by decide +kernel
theorem dL_law_739 : decode cL_law 739 = .ok (.aload_n 2, 1) := by decide +kernel
theorem dL_law_740 : decode cL_law 740 = .ok (.aload_n 0, 1) := by decide +kernel
theorem dL_law_741 : decode cL_law 741 = .ok (.iload_n 3, 1) := by decide +kernel
theorem dL_law_742 : decode cL_law 742 = .ok (.iconst 1, 1) := by decide +kernel
theorem dL_law_743 : decode cL_law 743 = .ok (.iadd, 1) := by decide +kernel
theorem dL_law_744 : decode cL_law 744 = .ok (.iaload, 1) := by decide +kernel
theorem dL_law_745 : decode cL_law 745 = .ok (.invokevirtual 108, 3) := by decide +kernel
theorem dL_law_748 : decode cL_law 748 = .ok (.if_icmp .eq 134, 3) := by decide +kernel
theorem dL_law_751 : decode cL_law 751 = .ok (.iconst 0, 1) := by decide +kernel
theorem dL_law_752 : decode cL_law 752 = .ok (.ireturn, 1) := by decide +kernel
theorem dL_law_753 : decode cL_law 753 = .ok (.aload_n 1, 1) := by decide +kernel
theorem dL_law_754 : decode cL_law 754 = .ok (.invokevirtual 109, 3) := by decide +kernel
theorem dL_law_757 : decode cL_law 757 = .ok (.aload_n 2, 1) := by decide +kernel
theorem dL_law_758 : decode cL_law 758 = .ok (.invokevirtual 112, 3) := by decide +kernel
theorem dL_law_761 : decode cL_law 761 = .ok (.if_icmp .eq 121, 3) := by decide +kernel
theorem dL_law_764 : decode cL_law 764 = .ok (.iconst 0, 1) := by decide +kernel
theorem dL_law_765 : decode cL_law 765 = .ok (.ireturn, 1) := by decide +kernel
theorem dL_law_766 : decode cL_law 766 = .ok (.aload_n 1, 1) := by decide +kernel
theorem dL_law_767 : decode cL_law 767 = .ok (.aload_n 0, 1) := by decide +kernel
theorem dL_law_768 : decode cL_law 768 = .ok (.iload_n 3, 1) := by decide +kernel
theorem dL_law_769 : decode cL_law 769 = .ok (.iconst 1, 1) := by decide +kernel
theorem dL_law_770 : decode cL_law 770 = .ok (.iadd, 1) := by decide +kernel
theorem dL_law_771 : decode cL_law 771 = .ok (.iaload, 1) := by decide +kernel
theorem dL_law_772 : decode cL_law 772 = .ok (.aload_n 0, 1) := by decide +kernel
theorem dL_law_773 : decode cL_law 773 = .ok (.iload_n 3, 1) := by decide +kernel
theorem dL_law_774 : decode cL_law 774 = .ok (.iconst 2, 1) := by decide +kernel
theorem dL_law_775 : decode cL_law 775 = .ok (.iadd, 1) := by decide +kernel
theorem dL_law_776 : decode cL_law 776 = .ok (.iaload, 1) := by decide +kernel
theorem dL_law_777 : decode cL_law 777 = .ok (.invokevirtual 113, 3) := by decide +kernel
theorem dL_law_780 : decode cL_law 780 = .ok (.aload_n 2, 1) := by decide +kernel
theorem dL_law_781 : decode cL_law 781 = .ok (.aload_n 0, 1) := by decide +kernel
theorem dL_law_782 : decode cL_law 782 = .ok (.iload_n 3, 1) := by decide +kernel
theorem dL_law_783 : decode cL_law 783 = .ok (.iconst 1, 1) := by decide +kernel
theorem dL_law_784 : decode cL_law 784 = .ok (.iadd, 1) := by decide +kernel
theorem dL_law_785 : decode cL_law 785 = .ok (.iaload, 1) := by decide +kernel
theorem dL_law_786 : decode cL_law 786 = .ok (.aload_n 0, 1) := by decide +kernel
theorem dL_law_787 : decode cL_law 787 = .ok (.iload_n 3, 1) := by decide +kernel
theorem dL_law_788 : decode cL_law 788 = .ok (.iconst 2, 1) := by decide +kernel
theorem dL_law_789 : decode cL_law 789 = .ok (.iadd, 1) := by decide +kernel
theorem dL_law_790 : decode cL_law 790 = .ok (.iaload, 1) := by decide +kernel
theorem dL_law_791 : decode cL_law 791 = .ok (.invokevirtual 116, 3) := by decide +kernel
theorem dL_law_794 : decode cL_law 794 = .ok (.if_icmp .eq 88, 3) := by decide +kernel
theorem dL_law_797 : decode cL_law 797 = .ok (.iconst 0, 1) := by decide +kernel
theorem dL_law_798 : decode cL_law 798 = .ok (.ireturn, 1) := by decide +kernel
theorem dL_law_799 : decode cL_law 799 = .ok (.aload_n 1, 1) := by decide +kernel
theorem dL_law_800 : decode cL_law 800 = .ok (.aload_n 0, 1) := by decide +kernel
theorem dL_law_801 : decode cL_law 801 = .ok (.iload_n 3, 1) := by decide +kernel
theorem dL_law_802 : decode cL_law 802 = .ok (.iconst 1, 1) := by decide +kernel
theorem dL_law_803 : decode cL_law 803 = .ok (.iadd, 1) := by decide +kernel
theorem dL_law_804 : decode cL_law 804 = .ok (.iaload, 1) := by decide +kernel
theorem dL_law_805 : decode cL_law 805 = .ok (.invokevirtual 117, 3) := by decide +kernel
theorem dL_law_808 : decode cL_law 808 = .ok (.aload_n 2, 1) := by decide +kernel
theorem dL_law_809 : decode cL_law 809 = .ok (.aload_n 0, 1) := by decide +kernel
theorem dL_law_810 : decode cL_law 810 = .ok (.iload_n 3, 1) := by decide +kernel
theorem dL_law_811 : decode cL_law 811 = .ok (.iconst 1, 1) := by decide +kernel
theorem dL_law_812 : decode cL_law 812 = .ok (.iadd, 1) := by decide +kernel
theorem dL_law_813 : decode cL_law 813 = .ok (.iaload, 1) := by decide +kernel
theorem dL_law_814 : decode cL_law 814 = .ok (.invokevirtual 120, 3) := by decide +kernel
theorem dL_law_817 : decode cL_law 817 = .ok (.if_icmp .eq 65, 3) := by decide +kernel
theorem dL_law_820 : decode cL_law 820 = .ok (.iconst 0, 1) := by decide +kernel
theorem dL_law_821 : decode cL_law 821 = .ok (.ireturn, 1) := by decide +kernel
theorem dL_law_822 : decode cL_law 822 = .ok (.aload_n 1, 1) := by decide +kernel
theorem dL_law_823 : decode cL_law 823 = .ok (.aload_n 0, 1) := by decide +kernel
theorem dL_law_824 : decode cL_law 824 = .ok (.iload_n 3, 1) := by decide +kernel
theorem dL_law_825 : decode cL_law 825 = .ok (.iconst 1, 1) := by decide +kernel
theorem dL_law_826 : decode cL_law 826 = .ok (.iadd, 1) := by decide +kernel
theorem dL_law_827 : decode cL_law 827 = .ok (.iaload, 1) := by decide +kernel
theorem dL_law_828 : decode cL_law 828 = .ok (.invokevirtual 121, 3) := by decide +kernel
theorem dL_law_831 : decode cL_law 831 = .ok (.aload_n 2, 1) := by decide +kernel
theorem dL_law_832 : decode cL_law 832 = .ok (.aload_n 0, 1) := by decide +kernel
theorem dL_law_833 : decode cL_law 833 = .ok (.iload_n 3, 1) := by decide +kernel
theorem dL_law_834 : decode cL_law 834 = .ok (.iconst 1, 1) := by decide +kernel
theorem dL_law_835 : decode cL_law 835 = .ok (.iadd, 1) := by decide +kernel
theorem dL_law_836 : decode cL_law 836 = .ok (.iaload, 1) := by decide +kernel
theorem dL_law_837 : decode cL_law 837 = .ok (.invokevirtual 124, 3) := by decide +kernel
theorem dL_law_840 : decode cL_law 840 = .ok (.if_icmp .eq 42, 3) := by decide +kernel
theorem dL_law_843 : decode cL_law 843 = .ok (.iconst 0, 1) := by decide +kernel
theorem dL_law_844 : decode cL_law 844 = .ok (.ireturn, 1) := by decide +kernel
theorem dL_law_845 : decode cL_law 845 = .ok (.aload_n 1, 1) := by decide +kernel
theorem dL_law_846 : decode cL_law 846 = .ok (.aload_n 0, 1) := by decide +kernel
theorem dL_law_847 : decode cL_law 847 = .ok (.iload_n 3, 1) := by decide +kernel
theorem dL_law_848 : decode cL_law 848 = .ok (.iconst 1, 1) := by decide +kernel
theorem dL_law_849 : decode cL_law 849 = .ok (.iadd, 1) := by decide +kernel
theorem dL_law_850 : decode cL_law 850 = .ok (.iaload, 1) := by decide +kernel
theorem dL_law_851 : decode cL_law 851 = .ok (.invokevirtual 125, 3) := by decide +kernel
theorem dL_law_854 : decode cL_law 854 = .ok (.aload_n 2, 1) := by decide +kernel
theorem dL_law_855 : decode cL_law 855 = .ok (.aload_n 0, 1) := by decide +kernel
theorem dL_law_856 : decode cL_law 856 = .ok (.iload_n 3, 1) := by decide +kernel
theorem dL_law_857 : decode cL_law 857 = .ok (.iconst 1, 1) := by decide +kernel
theorem dL_law_858 : decode cL_law 858 = .ok (.iadd, 1) := by decide +kernel
theorem dL_law_859 : decode cL_law 859 = .ok (.iaload, 1) := by decide +kernel
theorem dL_law_860 : decode cL_law 860 = .ok (.invokevirtual 128, 3) := by decide +kernel
theorem dL_law_863 : decode cL_law 863 = .ok (.if_icmp .eq 19, 3) := by decide +kernel
theorem dL_law_866 : decode cL_law 866 = .ok (.iconst 0, 1) := by decide +kernel
theorem dL_law_867 : decode cL_law 867 = .ok (.ireturn, 1) := by decide +kernel
theorem dL_law_868 : decode cL_law 868 = .ok (.aload_n 1, 1) := by decide +kernel
theorem dL_law_869 : decode cL_law 869 = .ok (.invokevirtual 129, 3) := by decide +kernel
theorem dL_law_872 : decode cL_law 872 = .ok (.aload_n 2, 1) := by decide +kernel
theorem dL_law_873 : decode cL_law 873 = .ok (.invokevirtual 133, 3) := by decide +kernel
theorem dL_law_876 : decode cL_law 876 = .ok (.lcmp, 1) := by decide +kernel
theorem dL_law_877 : decode cL_law 877 = .ok (.ifCond .eq 5, 3) := by decide +kernel
theorem dL_law_880 : decode cL_law 880 = .ok (.iconst 0, 1) := by decide +kernel
theorem dL_law_881 : decode cL_law 881 = .ok (.ireturn, 1) := by decide +kernel
theorem dL_law_882 : decode cL_law 882 = .ok (.iinc 3 4, 3) := by decide +kernel
theorem dL_law_885 : decode cL_law 885 = .ok (.goto (-867), 3) := by decide +kernel
theorem dL_law_888 : decode cL_law 888 = .ok (.iconst 1, 1) := by decide +kernel
theorem dL_law_889 : decode cL_law 889 = .ok (.ireturn, 1) := by decide +kernel
theorem z_cmp (r : Int64) : lg_cmp r r = 0 := by simp [lg_cmp]
section ZL
variable {p : Program} {l : Launch} {e : Env} {R : Room} {s : State} {m : MethodId} {args : Array Value} {below : List Frame} {meth : Method} {c : Code} {H : Heap} {locs : List Loc} {Q : State → Prop} {cells slots : Nat}
variable {cc : ByteArray} {nL : Nat} {own : String} {G : xG} {M M1 : xMem} {L L1 : xLL} {pc : Nat} {ls : Array Slot} {rest st0 As : List Value} {h1 : Nat}
variable {y : MethodName} {bytes : ByteArray} {maxL n index : Nat} {rt' : Option FieldType}
theorem z_tsIn (hexec : p.tables.exec = Jvm.exec) (hb : c.code = cc) {dflt lo hi : Int} {offs : Array Int} {len : Nat} {x v : Int32} {off : Int} {tgt : Nat} (hx : x = v) (hdg : decode cc pc = .ok (.tableswitch dflt lo hi offs, len)) (h1 : ¬ v.toInt < lo) (h2 : ¬ hi < v.toInt) (ho : offs[(v.toInt - lo).toNat]? = some off) (ht : (pc : Int) + off = (tgt : Int))
    (k : W p l e R s m args below meth c H locs cells slots Q (F0 m tgt ls rest)) : W p l e R s m args below meth c H locs cells slots Q (F0 m pc ls (.int x :: rest)) := by
  subst hx
  exact lv_tableIn hexec hb hdg h1 h2 ho ht k
theorem z_tsOut (hexec : p.tables.exec = Jvm.exec) (hb : c.code = cc) {dflt lo hi : Int} {offs : Array Int} {len : Nat} {x : Int32} {tgt : Nat} (hdg : decode cc pc = .ok (.tableswitch dflt lo hi offs, len)) (hx : ∀ k : Nat, k < (hi - lo + 1).toNat → ¬ x = Int32.ofInt (lo + k)) (ht : (pc : Int) + dflt = (tgt : Int))
    (k : W p l e R s m args below meth c H locs cells slots Q (F0 m tgt ls rest)) : W p l e R s m args below meth c H locs cells slots Q (F0 m pc ls (.int x :: rest)) := by
  refine lv_tableOut hexec hb hdg ?_ ht k
  by_cases h1 : x.toInt < lo
  · exact Or.inl h1
  · by_cases h2 : hi < x.toInt
    · exact Or.inr h2
    · exact absurd (by rw [show lo + ((x.toInt - lo).toNat : Int) = x.toInt by omega]; exact (Int32.ofInt_toInt x).symm) (hx (x.toInt - lo).toNat (by omega))
/-- the law's setting -/
def zE (p : Program) (s : State) (m : MethodId) (args : Array Value) (c : Code) (cc : ByteArray) (nL : Nat) (own : String) (G : xG) : Prop :=
  p.tables.exec = Jvm.exec ∧ c.code = cc ∧ c.maxLocals = nL ∧ s.vm.findClass own = some m.cls ∧ (∀ w ∈ xTB, w.before args s = true) ∧ xK G s
theorem z_cwV (E : zE p s m args c cc nL own G) (hY : xYV y bytes maxL rt' n) (hL : Cond.methodLink own index y ∈ xTB) (hR : (xR h1).frames + 1 ≤ R.frames ∧ 8 + (maxL + 11) + (xR h1).locals ≤ R.locals) : CallW R s args own y.cls index y bytes maxL rt' (Cond.code y bytes maxL rt' :: xTB) (xR h1) 0 0 n := by
  refine cwV (Ts := xTB) n E.2.2.2.2.1 ?_ rfl rfl rfl ⟨rfl, hY.2.2.2.2⟩ hR
  intro w hw
  rcases List.mem_append.mp hw with hw | hw
  · have hi : w ∈ xTB := by
      simp only [List.mem_cons, List.not_mem_nil, or_false] at hw
      rcases hw with e | e | e | e
      · rw [e]; exact hL
      · rw [e]; exact hY.1
      · rw [e]; exact hY.2.1
      · rw [e]; exact hY.2.2.1
    exact ⟨hi, good_of_word (List.mem_filter.mp hi).2⟩
  · exact tb_good' hY.2.2.2.1 w hw
theorem z_pre (E : zE p s m args c cc nL own G) (hI : xI G M L s.heap H locs) (av : List Value) (U : State) (hU : U.heap = H) (hW : s.WarmedH U.vm) : xP G M L H.size av av.toArray U :=
  ⟨rfl, by rw [hU], by rw [hU]; exact hI.1, va_K.moved hW.alike E.2.2.2.2.2.1, E.2.2.2.2.2.2.1, va_Nw.warmM hW E.2.2.2.2.2.2.2⟩
theorem z_recv (E : zE p s m args c cc nL own G) (hI : xI G M L s.heap H locs) {o ci : Nat} {fs : List Value} (hm : (o, 0) ∈ ixs) (he : xo G o (M o 0) (L o) = .inr (ci, fs)) {q : vw_C} (hc : vwCl[ci]? = some q) : ∃ cell : Cell, H[xq G o 0]? = some cell ∧ cell.vm.isStatics = false ∧ s.vm.findClass q.1 = some cell.cls := by
  obtain ⟨k, g1, g2⟩ := xw_get G M L hm
  have g3 : (xw G M L)[k]? = some (xq G o 0, .inr (ci, fs)) := by rw [g2, ← he]; rfl
  exact va_recv E.2.2.2.2.2.1 hI.1 hc g3
theorem z_calli {r1 : Int32} (E : zE p s m args c cc nL own G) (hI : xI G M L s.heap H locs) {o ci : Nat} {fs : List Value} (hm : (o, 0) ∈ ixs) (he : xo G o (M o 0) (L o) = .inr (ci, fs)) {q : vw_C} (hc : vwCl[ci]? = some q) (hq : q.1 = y.cls)
    (hM : Met l y (Cond.code y bytes maxL rt' :: xTB) (xR h1) (xP G M L H.size (.ref (xq G o 0) :: As)) (xQi G r1 M1 L1 H.size) 0 0 (xZ G H.size)) (hY : xYV y bytes maxL rt' n) (hL : Cond.methodLink own index y ∈ xTB) (hR : (xR h1).frames + 1 ≤ R.frames ∧ 8 + (maxL + 11) + (xR h1).locals ≤ R.locals)
    (hst : st0 = As.reverse ++ .ref (xq G o 0) :: rest) (hn : As.length = n) (hsz : ls.size = nL) (hro : (rest.map fun v => v.category).sum ≤ 8) (hdg : decode cc pc = .ok (.invokevirtual index, 3)) (hf : cells + 0 ≤ R.cells ∧ slots + 0 ≤ R.slots)
    (kk : ∀ (H : Heap) (locs : List Loc), xI G M1 L1 s.heap H locs → W p l e R s m args below meth c H locs cells slots Q (F0 m (pc + 3) ls (.int r1 :: rest))) : W p l e R s m args below meth c H locs cells slots Q (F0 m pc ls st0) := by
  subst hst
  refine va_calli (va_runV (C := y.cls) (As := As) (rest := rest) ⟨E.1, E.2.1, E.2.2.1, E.2.2.2.1, E.2.2.2.2.1⟩ hM (z_cwV E hY hL hR) ⟨xP_blind _ _ _ _ _, by rw [← hq]; exact z_recv E hI hm he hc, z_pre E hI _⟩ rfl hn hsz rfl (lv_room hro) hdg hf) hI.2 (fun q _ h => xZ_up hI.2.1 q h) (xZ_up hI.2.1) (fun r u t H1 locs1 ht hvm hw hB hz hk hS => ?_)
  subst hw
  exact kk H1 locs1 ⟨by rw [← ht]; exact hB.1, hS⟩
theorem z_calll {r1 : Int64} (E : zE p s m args c cc nL own G) (hI : xI G M L s.heap H locs) {o ci : Nat} {fs : List Value} (hm : (o, 0) ∈ ixs) (he : xo G o (M o 0) (L o) = .inr (ci, fs)) {q : vw_C} (hc : vwCl[ci]? = some q) (hq : q.1 = y.cls)
    (hM : Met l y (Cond.code y bytes maxL rt' :: xTB) (xR h1) (xP G M L H.size (.ref (xq G o 0) :: As)) (xQl G r1 M1 L1 H.size) 0 0 (xZ G H.size)) (hY : xYV y bytes maxL rt' n) (hL : Cond.methodLink own index y ∈ xTB) (hR : (xR h1).frames + 1 ≤ R.frames ∧ 8 + (maxL + 11) + (xR h1).locals ≤ R.locals)
    (hst : st0 = As.reverse ++ .ref (xq G o 0) :: rest) (hn : As.length = n) (hsz : ls.size = nL) (hro : (rest.map fun v => v.category).sum ≤ 8) (hdg : decode cc pc = .ok (.invokevirtual index, 3)) (hf : cells + 0 ≤ R.cells ∧ slots + 0 ≤ R.slots)
    (kk : ∀ (H : Heap) (locs : List Loc), xI G M1 L1 s.heap H locs → W p l e R s m args below meth c H locs cells slots Q (F0 m (pc + 3) ls (.long r1 :: rest))) : W p l e R s m args below meth c H locs cells slots Q (F0 m pc ls st0) := by
  subst hst
  refine va_calll (va_runV (C := y.cls) (As := As) (rest := rest) ⟨E.1, E.2.1, E.2.2.1, E.2.2.2.1, E.2.2.2.2.1⟩ hM (z_cwV E hY hL hR) ⟨xP_blind _ _ _ _ _, by rw [← hq]; exact z_recv E hI hm he hc, z_pre E hI _⟩ rfl hn hsz rfl (lv_room hro) hdg hf) hI.2 (fun q _ h => xZ_up hI.2.1 q h) (xZ_up hI.2.1) (fun r u t H1 locs1 ht hvm hw hB hz hk hS => ?_)
  subst hw
  exact kk H1 locs1 ⟨by rw [← ht]; exact hB.1, hS⟩
end ZL
/-- type: class and reference answer alike, and what holds of both goes on -/
def S_type (Rel : xMem → xLL → Prop) : Prop := ∀ (a1 : Int32) (M : xMem) (L : xLL), Rel M L → ∃ (r : Int32) (M1 : xMem) (M2 : xMem), f_X7_type a1 M = some (r, M1) ∧ f_X8_type a1 M1 = some (r, M2) ∧ Rel M2 L
/-- clear: class and reference answer alike, and what holds of both goes on -/
def S_clear (Rel : xMem → xLL → Prop) : Prop := ∀ (M : xMem) (L : xLL), Rel M L → ∃ (r : Int32) (M1 : xMem) (M2 : xMem), f_X7_clear M = some (r, M1) ∧ f_X8_clear M1 = some (r, M2) ∧ Rel M2 L
/-- barn: class and reference answer alike, and what holds of both goes on -/
def S_barn (Rel : xMem → xLL → Prop) : Prop := ∀ (M : xMem) (L : xLL), Rel M L → ∃ (r : Int32) (M1 : xMem) (M2 : xMem), f_X7_barn M = some (r, M1) ∧ f_X8_barn M1 = some (r, M2) ∧ Rel M2 L
/-- scale: class and reference answer alike, and what holds of both goes on -/
def S_scale (Rel : xMem → xLL → Prop) : Prop := ∀ (a1 a2 : Int32) (M : xMem) (L : xLL), Rel M L → ∃ (r : Int32) (M2 : xMem), f_X7_scale a1 a2 M = some r ∧ f_X8_scale a1 a2 M = some (r, M2) ∧ Rel M2 L
/-- egg: class and reference answer alike, and what holds of both goes on -/
def S_egg (Rel : xMem → xLL → Prop) : Prop := ∀ (a1 a2 : Int32) (M : xMem) (L : xLL), Rel M L → ∃ (r : Int32) (M2 : xMem), f_X7_egg a1 a2 M = some r ∧ f_X8_egg a1 a2 M = some (r, M2) ∧ Rel M2 L
/-- now: class and reference answer alike, and what holds of both goes on -/
def S_now (Rel : xMem → xLL → Prop) : Prop := ∀ (a1 : Int32) (M : xMem) (L : xLL), Rel M L → ∃ (r : Int32) (M2 : xMem), f_X7_now a1 M = some r ∧ f_X8_now a1 M = some (r, M2) ∧ Rel M2 L
/-- rolls: class and reference answer alike, and what holds of both goes on -/
def S_rolls (Rel : xMem → xLL → Prop) : Prop := ∀ (a1 : Int32) (M : xMem) (L : xLL), Rel M L → ∃ (r : Int32) (M1 : xMem) (M2 : xMem), f_X7_rolls a1 M = some (r, M1) ∧ f_X8_rolls a1 M1 = some (r, M2) ∧ Rel M2 L
/-- takes: class and reference answer alike, and what holds of both goes on -/
def S_takes (Rel : xMem → xLL → Prop) : Prop := ∀ (a1 : Int32) (M : xMem) (L : xLL), Rel M L → ∃ (r : Int32) (M1 : xMem) (M2 : xMem), f_X7_takes a1 M = some (r, M1) ∧ f_X8_takes a1 M1 = some (r, M2) ∧ Rel M2 L
/-- wipes: class and reference answer alike, and what holds of both goes on -/
def S_wipes (Rel : xMem → xLL → Prop) : Prop := ∀ (a1 : Int32) (M : xMem) (L : xLL), Rel M L → ∃ (r : Int32) (M1 : xMem) (M2 : xMem), f_X7_wipes a1 M = some (r, M1) ∧ f_X8_wipes a1 M1 = some (r, M2) ∧ Rel M2 L
/-- sets: class and reference answer alike, and what holds of both goes on -/
def S_sets (Rel : xMem → xLL → Prop) : Prop := ∀ (a1 a2 : Int32) (M : xMem) (L : xLL), Rel M L → ∃ (r : Int32) (M1 : xMem) (M2 : xMem), f_X7_sets a1 a2 M = some (r, M1) ∧ f_X8_sets a1 a2 M1 = some (r, M2) ∧ Rel M2 L
/-- shifts: class and reference answer alike, and what holds of both goes on -/
def S_shifts (Rel : xMem → xLL → Prop) : Prop := ∀ (a1 : Int32) (M : xMem) (L : xLL), Rel M L → ∃ (r : Int32) (M1 : xMem) (M2 : xMem), f_X7_shifts a1 M = some (r, M1) ∧ f_X8_shifts a1 M1 = some (r, M2) ∧ Rel M2 L
/-- drops: class and reference answer alike, and what holds of both goes on -/
def S_drops (Rel : xMem → xLL → Prop) : Prop := ∀ (a1 : Int32) (M : xMem) (L : xLL), Rel M L → ∃ (r : Int32) (M1 : xMem) (M2 : xMem), f_X7_drops a1 M = some (r, M1) ∧ f_X8_drops a1 M1 = some (r, M2) ∧ Rel M2 L
/-- undo: class and reference answer alike, and what holds of both goes on -/
def S_undo (Rel : xMem → xLL → Prop) : Prop := ∀ (M : xMem) (L : xLL), Rel M L → ∃ (r : Int32) (M1 : xMem) (M2 : xMem), f_X7_undo M = some (r, M1) ∧ f_X8_undo M1 = some (r, M2) ∧ Rel M2 L
/-- goes: class and reference answer alike, and what holds of both goes on -/
def S_goes (Rel : xMem → xLL → Prop) : Prop := ∀ (a1 : Int32) (M : xMem) (L : xLL), Rel M L → ∃ (r : Int32) (M1 : xMem) (M2 : xMem), f_X7_goes a1 M = some (r, M1) ∧ f_X8_goes a1 M1 = some (r, M2) ∧ Rel M2 L
/-- order: class and reference answer alike, and what holds of both goes on -/
def S_order (Rel : xMem → xLL → Prop) : Prop := ∀ (a1 : Int32) (M : xMem) (L : xLL), Rel M L → ∃ (r : Int32) (M1 : xMem) (M2 : xMem), f_X7_order a1 M = some (r, M1) ∧ f_X8_order a1 M1 = some (r, M2) ∧ Rel M2 L
/-- row: class and reference answer alike, and what holds of both goes on -/
def S_row (Rel : xMem → xLL → Prop) : Prop := ∀ (a1 : Int32) (M : xMem) (L : xLL), Rel M L → ∃ (r : Int32) (M1 : xMem) (M2 : xMem), f_X7_row a1 M = some (r, M1) ∧ f_X8_row a1 M1 = some (r, M2) ∧ Rel M2 L
/-- reset: class and reference answer alike, and what holds of both goes on -/
def S_reset (Rel : xMem → xLL → Prop) : Prop := ∀ (a1 a2 : Int32) (M : xMem) (L : xLL), Rel M L → ∃ (r : Int32) (M2 : xMem), f_X7_reset a1 a2 M = some r ∧ f_X8_reset a1 a2 M = some (r, M2) ∧ Rel M2 L
/-- cracks: class and reference answer alike, and what holds of both goes on -/
def S_cracks (Rel : xMem → xLL → Prop) : Prop := ∀ (a1 a2 a3 : Int32) (M : xMem) (L : xLL), Rel M L → ∃ (r : Int32), f_X7_cracks a1 a2 a3 M = some r ∧ f_X8_cracks a1 a2 a3 M = some r ∧ Rel M L
/-- box: class and reference answer alike, and what holds of both goes on -/
def S_box (Rel : xMem → xLL → Prop) : Prop := ∀ (a1 a2 a3 : Int32) (M : xMem) (L : xLL), Rel M L → ∃ (r : Int32), f_X7_box a1 a2 a3 M = some r ∧ f_X8_box a1 a2 a3 M = some r ∧ Rel M L
/-- boxes: class and reference answer alike, and what holds of both goes on -/
def S_boxes (Rel : xMem → xLL → Prop) : Prop := ∀ (a1 a2 : Int32) (M : xMem) (L : xLL), Rel M L → ∃ (r : Int32) (M1 : xMem) (M2 : xMem), f_X7_boxes a1 a2 M = some (r, M1) ∧ f_X8_boxes a1 a2 M1 = some (r, M2) ∧ Rel M2 L
/-- tested: class and reference answer alike, and what holds of both goes on -/
def S_tested (Rel : xMem → xLL → Prop) : Prop := ∀ (a1 a2 : Int32) (M : xMem) (L : xLL), Rel M L → ∃ (r : Int32) (M1 : xMem) (M2 : xMem), f_X7_tested a1 a2 M = some (r, M1) ∧ f_X8_tested a1 a2 M1 = some (r, M2) ∧ Rel M2 L
/-- forget: class and reference answer alike, and what holds of both goes on -/
def S_forget (Rel : xMem → xLL → Prop) : Prop := ∀ (M : xMem) (L : xLL), Rel M L → ∃ (r : Int32) (M1 : xMem) (M2 : xMem), f_X7_forget M = some (r, M1) ∧ f_X8_forget M1 = some (r, M2) ∧ Rel M2 L
/-- can: class and reference answer alike, and what holds of both goes on -/
def S_can (Rel : xMem → xLL → Prop) : Prop := ∀ (a1 : Int32) (M : xMem) (L : xLL), Rel M L → ∃ (r : Int32) (M1 : xMem), f_X7_can a1 M = some (r, M1) ∧ f_X8_can a1 M1 = some r ∧ Rel M1 L
/-- next: class and reference answer alike, and what holds of both goes on -/
def S_next (Rel : xMem → xLL → Prop) : Prop := ∀ (M : xMem) (L : xLL), Rel M L → ∃ (r : Int32) (M1 : xMem) (M2 : xMem), f_X7_next M = some (r, M1) ∧ f_X8_next M1 = some (r, M2) ∧ Rel M2 L
/-- rate: class and reference answer alike, and what holds of both goes on -/
def S_rate (Rel : xMem → xLL → Prop) : Prop := ∀ (a1 a2 : Int32) (M : xMem) (L : xLL), Rel M L → ∃ (r : Int32) (L1 : xLL) (M2 : xMem) (L2 : xLL), f_X7_rate a1 a2 M L = some (r, L1) ∧ f_X8_rate a1 a2 M L1 = some (r, M2, L2) ∧ Rel M2 L2
/-- keep: class and reference answer alike, and what holds of both goes on -/
def S_keep (Rel : xMem → xLL → Prop) : Prop := ∀ (a1 : Int32) (M : xMem) (L : xLL), Rel M L → ∃ (r : Int32) (M1 : xMem) (M2 : xMem), f_X7_keep a1 M = some (r, M1) ∧ f_X8_keep a1 M1 = some (r, M2) ∧ Rel M2 L
/-- back: class and reference answer alike, and what holds of both goes on -/
def S_back (Rel : xMem → xLL → Prop) : Prop := ∀ (a1 : Int32) (M : xMem) (L : xLL), Rel M L → ∃ (r : Int32) (M1 : xMem) (M2 : xMem), f_X7_back a1 M = some (r, M1) ∧ f_X8_back a1 M1 = some (r, M2) ∧ Rel M2 L
/-- count: class and reference answer alike, and what holds of both goes on -/
def S_count (Rel : xMem → xLL → Prop) : Prop := ∀ (a1 : Int32) (M : xMem) (L : xLL), Rel M L → ∃ (r : Int32), f_X7_count a1 M = some r ∧ f_X8_count a1 M = some r ∧ Rel M L
/-- trace: class and reference answer alike, and what holds of both goes on -/
def S_trace (Rel : xMem → xLL → Prop) : Prop := ∀ (M : xMem) (L : xLL), Rel M L → ∃ (r : Int64), f_X7_trace M L = some r ∧ f_X8_trace M L = some r ∧ Rel M L
def lawSim (Rel : xMem → xLL → Prop) : Prop := S_type Rel ∧ S_clear Rel ∧ S_barn Rel ∧ S_scale Rel ∧ S_egg Rel ∧ S_now Rel ∧ S_rolls Rel ∧ S_takes Rel ∧ S_wipes Rel ∧ S_sets Rel ∧ S_shifts Rel ∧ S_drops Rel ∧ S_undo Rel ∧ S_goes Rel ∧ S_order Rel ∧ S_row Rel ∧ S_reset Rel ∧ S_cracks Rel ∧ S_box Rel ∧ S_boxes Rel ∧ S_tested Rel ∧ S_forget Rel ∧ S_can Rel ∧ S_next Rel ∧ S_rate Rel ∧ S_keep Rel ∧ S_back Rel ∧ S_count Rel ∧ S_trace Rel
set_option maxHeartbeats 4000000 in
set_option maxRecDepth 100000 in
theorem law_loop {Rel : xMem → xLL → Prop} (hSim : lawSim Rel) {p : Program} {l : Launch} {e : Env} {s : State} {m : MethodId} {below : List Frame} {meth : Method} {c : Code} {G : xG} {b L : Nat} {xs : Nat → Int32} (hL : L ≤ 256) (C0 : lw_At p s m meth c b L xs) (hK : xK G s) (hge : ∀ q ∈ ixs, s.heap.size ≤ xq G q.1 q.2) :
    ∀ (n i : Nat), i ≤ L → L + 1 ≤ i + n → ∀ (M : xMem) (LL : xLL), Rel M LL → ∀ (H : Heap) (locs : List Loc), xI G M LL s.heap H locs → ∀ (ls : Array Slot), lv_has ls 4 [(0, .ref b), (1, .ref (xq G 0 0)), (2, .ref (xq G 8 0)), (3, .int (nI i))] → W p l e room_1 s m #[Value.ref b] below meth c H locs 600000 7302250 (lw_Z below #[Value.ref b] s) (F0 m 18 ls []) := by
  obtain ⟨h_type, h_clear, h_barn, h_scale, h_egg, h_now, h_rolls, h_takes, h_wipes, h_sets, h_shifts, h_drops, h_undo, h_goes, h_order, h_row, h_reset, h_cracks, h_box, h_boxes, h_tested, h_forget, h_can, h_next, h_rate, h_keep, h_back, h_count, h_trace⟩ := hSim
  obtain ⟨hx, hb, hr, hml, hown, hts0, hX, hbl, hlocks, hgv⟩ := C0
  have hts : ∀ w ∈ xTB, w.before #[Value.ref b] s = true := fun w hw => hts0 w (List.mem_filter.mp hw).1
  have E : zE p s m #[Value.ref b] c code 4 RL G := ⟨hx, hb, hml, hown, hts, hK⟩
  have hbA : ¬ xZ G s.heap.size b := by
    intro h
    rcases h with ⟨q, hq, h⟩ | h
    · have := hge q hq
      omega
    · omega
  intro n
  induction n with
  | zero =>
    intro i h1 h2
    exact absurd h2 (by omega)
  | succ n ih =>
    intro i hi hin M LL hRel H locs hI ls hl
    refine lv_iload_n hx hb dL_law_18 rfl (lv_at hl 3 rfl) ?_
    refine lv_aload_n hx hb dL_law_19 rfl (lv_at hl 0 rfl) ?_
    refine va_slen hx hb hX hbl hbA hI.2 dL_law_20 ?_
    refine lv_iconst (v := 4) hx hb dL_law_21 (by decide) ?_
    refine lv_isub hx hb dL_law_22 ?_
    refine lv_icmp_gt (tgt := 888) hx hb dL_law_23 (by decide) (fun c23 => ?_) (fun c23 => ?_)
    · refine lv_iconst (v := 1) hx hb dL_law_888 (by decide) ?_
      refine va_forget (fun q hq => by
        rcases hI.2.2.2 q hq with ⟨z, hz, h⟩ | h
        · rw [h]; exact hge z hz
        · exact h) ?_
      exact lw_ret hx hb hr hlocks dL_law_889
    · have hi4 : i + 4 ≤ L := by
        rcases Nat.lt_or_ge L (i + 4) with q | q
        · refine absurd ?_ c23
          rw [Int32.lt_iff_toInt_lt, show Int32.ofNat L - 4 = nI L - nI 4 from rfl, pk_sub_toInt (by omega) (by omega), nI_toInt (by omega)]
          omega
        · exact q
      have hs0 : vp_in (nI i) L := vp_in_nI (by omega) (by omega)
      have hs1 : vp_in (nI i + 1) L := by rw [show nI i + 1 = nI (i + 1) from (nI_succ i).symm]; exact vp_in_nI (by omega) (by omega)
      have hs2 : vp_in (nI i + 2) L := by rw [show nI i + 2 = nI (i + 2) from nI_add i 2]; exact vp_in_nI (by omega) (by omega)
      have hs3 : vp_in (nI i + 3) L := by rw [show nI i + 3 = nI (i + 3) from nI_add i 3]; exact vp_in_nI (by omega) (by omega)
      have hnext : ∀ (M : xMem) (LL : xLL), Rel M LL → ∀ (H : Heap) (locs : List Loc), xI G M LL s.heap H locs → ∀ (ls : Array Slot), lv_has ls 4 [(0, .ref b), (1, .ref (xq G 0 0)), (2, .ref (xq G 8 0)), (3, .int (nI i))] → W p l e room_1 s m #[Value.ref b] below meth c H locs 600000 7302250 (lw_Z below #[Value.ref b] s) (F0 m 882 ls []) := by
        intro M LL hRel H locs hI ls hl
        refine lv_iinc (v := nI (i + 4)) (lv' := [(3, .int (nI (i + 4))), (0, .ref b), (1, .ref (xq G 0 0)), (2, .ref (xq G 8 0))]) hx hb dL_law_882 hl (k := 3) rfl (nI_add i 4) (by decide) rfl (fun ls hl => ?_)
        refine lv_goto (tgt := 18) hx hb dL_law_885 (by decide) ?_
        exact ih (i + 4) (by omega) (by omega) M LL hRel H locs hI ls (lv_sub hl [1, 2, 3, 0] rfl)
      refine lv_aload_n hx hb dL_law_26 rfl (lv_at hl 0 rfl) ?_
      refine lv_iload_n hx hb dL_law_27 rfl (lv_at hl 3 rfl) ?_
      refine va_sld hx hb hX hbl hbA hI.2 hs0 dL_law_28 ?_
      refine lv_bipush (v := 31) hx hb dL_law_29 (by decide) ?_
      refine lv_iand hx hb dL_law_31 ?_
      generalize xs (nI i).toNatClampNeg &&& 31 = op
      by_cases o0 : op = 0
      · refine z_tsIn (off := 132) (tgt := 164) hx hb o0 dL_law_32 (by decide) (by decide) (by decide) (by decide) ?_
        obtain ⟨r, M1, M2, g1, g2, hR⟩ := h_type (xs (nI i + 1).toNatClampNeg) M LL hRel
        refine lv_aload_n hx hb dL_law_164 rfl (lv_at hl 1 rfl) ?_
        refine lv_aload_n hx hb dL_law_165 rfl (lv_at hl 0 rfl) ?_
        refine lv_iload_n hx hb dL_law_166 rfl (lv_at hl 3 rfl) ?_
        refine lv_iconst (v := 1) hx hb dL_law_167 (by decide) ?_
        refine lv_iadd hx hb dL_law_168 ?_
        refine va_sld hx hb hX hbl hbA hI.2 hs1 dL_law_169 ?_
        refine z_calli (As := [.int (xs (nI i + 1).toNatClampNeg)]) (rest := []) E hI mx_0_0 rfl rfl rfl (c_X7_type l G _ (M := M) (L := LL) (a1 := (xs (nI i + 1).toNatClampNeg)) g1) yv_X7_type ml_L_13 ⟨Nat.le_of_ble_eq_true rfl, Nat.le_of_ble_eq_true rfl⟩ rfl rfl hl.1 (Nat.le_of_ble_eq_true rfl) dL_law_170 ⟨Nat.le_of_ble_eq_true rfl, Nat.le_of_ble_eq_true rfl⟩ (fun H locs hI => ?_)
        refine lv_aload_n hx hb dL_law_173 rfl (lv_at hl 2 rfl) ?_
        refine lv_aload_n hx hb dL_law_174 rfl (lv_at hl 0 rfl) ?_
        refine lv_iload_n hx hb dL_law_175 rfl (lv_at hl 3 rfl) ?_
        refine lv_iconst (v := 1) hx hb dL_law_176 (by decide) ?_
        refine lv_iadd hx hb dL_law_177 ?_
        refine va_sld hx hb hX hbl hbA hI.2 hs1 dL_law_178 ?_
        refine z_calli (As := [.int (xs (nI i + 1).toNatClampNeg)]) (rest := [.int r]) E hI mx_8_0 rfl rfl rfl (c_X8_type l G _ (M := M1) (L := LL) (a1 := (xs (nI i + 1).toNatClampNeg)) g2) yv_X8_type ml_L_17 ⟨Nat.le_of_ble_eq_true rfl, Nat.le_of_ble_eq_true rfl⟩ rfl rfl hl.1 (Nat.le_of_ble_eq_true rfl) dL_law_179 ⟨Nat.le_of_ble_eq_true rfl, Nat.le_of_ble_eq_true rfl⟩ (fun H locs hI => ?_)
        refine lv_icmp_eq (tgt := 882) hx hb dL_law_182 (by decide) (fun _ => ?_) (fun cc => absurd rfl cc)
        exact hnext M2 LL hR H locs hI ls hl
      by_cases o1 : op = 1
      · refine z_tsIn (off := 155) (tgt := 187) hx hb o1 dL_law_32 (by decide) (by decide) (by decide) (by decide) ?_
        obtain ⟨r, M1, M2, g1, g2, hR⟩ := h_clear  M LL hRel
        refine lv_aload_n hx hb dL_law_187 rfl (lv_at hl 1 rfl) ?_
        refine z_calli (As := []) (rest := []) E hI mx_0_0 rfl rfl rfl (c_X7_clear l G _ (M := M) (L := LL)  g1) yv_X7_clear ml_L_18 ⟨Nat.le_of_ble_eq_true rfl, Nat.le_of_ble_eq_true rfl⟩ rfl rfl hl.1 (Nat.le_of_ble_eq_true rfl) dL_law_188 ⟨Nat.le_of_ble_eq_true rfl, Nat.le_of_ble_eq_true rfl⟩ (fun H locs hI => ?_)
        refine lv_aload_n hx hb dL_law_191 rfl (lv_at hl 2 rfl) ?_
        refine z_calli (As := []) (rest := [.int r]) E hI mx_8_0 rfl rfl rfl (c_X8_clear l G _ (M := M1) (L := LL)  g2) yv_X8_clear ml_L_22 ⟨Nat.le_of_ble_eq_true rfl, Nat.le_of_ble_eq_true rfl⟩ rfl rfl hl.1 (Nat.le_of_ble_eq_true rfl) dL_law_192 ⟨Nat.le_of_ble_eq_true rfl, Nat.le_of_ble_eq_true rfl⟩ (fun H locs hI => ?_)
        refine lv_icmp_eq (tgt := 882) hx hb dL_law_195 (by decide) (fun _ => ?_) (fun cc => absurd rfl cc)
        exact hnext M2 LL hR H locs hI ls hl
      by_cases o2 : op = 2
      · refine z_tsIn (off := 168) (tgt := 200) hx hb o2 dL_law_32 (by decide) (by decide) (by decide) (by decide) ?_
        obtain ⟨r, M1, M2, g1, g2, hR⟩ := h_barn  M LL hRel
        refine lv_aload_n hx hb dL_law_200 rfl (lv_at hl 1 rfl) ?_
        refine z_calli (As := []) (rest := []) E hI mx_0_0 rfl rfl rfl (c_X7_barn l G _ (M := M) (L := LL)  g1) yv_X7_barn ml_L_23 ⟨Nat.le_of_ble_eq_true rfl, Nat.le_of_ble_eq_true rfl⟩ rfl rfl hl.1 (Nat.le_of_ble_eq_true rfl) dL_law_201 ⟨Nat.le_of_ble_eq_true rfl, Nat.le_of_ble_eq_true rfl⟩ (fun H locs hI => ?_)
        refine lv_aload_n hx hb dL_law_204 rfl (lv_at hl 2 rfl) ?_
        refine z_calli (As := []) (rest := [.int r]) E hI mx_8_0 rfl rfl rfl (c_X8_barn l G _ (M := M1) (L := LL)  g2) yv_X8_barn ml_L_26 ⟨Nat.le_of_ble_eq_true rfl, Nat.le_of_ble_eq_true rfl⟩ rfl rfl hl.1 (Nat.le_of_ble_eq_true rfl) dL_law_205 ⟨Nat.le_of_ble_eq_true rfl, Nat.le_of_ble_eq_true rfl⟩ (fun H locs hI => ?_)
        refine lv_icmp_eq (tgt := 882) hx hb dL_law_208 (by decide) (fun _ => ?_) (fun cc => absurd rfl cc)
        exact hnext M2 LL hR H locs hI ls hl
      by_cases o3 : op = 3
      · refine z_tsIn (off := 181) (tgt := 213) hx hb o3 dL_law_32 (by decide) (by decide) (by decide) (by decide) ?_
        obtain ⟨r, M2, g1, g2, hR⟩ := h_scale (xs (nI i + 1).toNatClampNeg) (xs (nI i + 2).toNatClampNeg) M LL hRel
        refine lv_aload_n hx hb dL_law_213 rfl (lv_at hl 1 rfl) ?_
        refine lv_aload_n hx hb dL_law_214 rfl (lv_at hl 0 rfl) ?_
        refine lv_iload_n hx hb dL_law_215 rfl (lv_at hl 3 rfl) ?_
        refine lv_iconst (v := 1) hx hb dL_law_216 (by decide) ?_
        refine lv_iadd hx hb dL_law_217 ?_
        refine va_sld hx hb hX hbl hbA hI.2 hs1 dL_law_218 ?_
        refine lv_aload_n hx hb dL_law_219 rfl (lv_at hl 0 rfl) ?_
        refine lv_iload_n hx hb dL_law_220 rfl (lv_at hl 3 rfl) ?_
        refine lv_iconst (v := 2) hx hb dL_law_221 (by decide) ?_
        refine lv_iadd hx hb dL_law_222 ?_
        refine va_sld hx hb hX hbl hbA hI.2 hs2 dL_law_223 ?_
        refine z_calli (As := [.int (xs (nI i + 1).toNatClampNeg), .int (xs (nI i + 2).toNatClampNeg)]) (rest := []) E hI mx_0_0 rfl rfl rfl (c_X7_scale l G _ (M := M) (L := LL) (a1 := (xs (nI i + 1).toNatClampNeg)) (a2 := (xs (nI i + 2).toNatClampNeg)) g1) yv_X7_scale ml_L_27 ⟨Nat.le_of_ble_eq_true rfl, Nat.le_of_ble_eq_true rfl⟩ rfl rfl hl.1 (Nat.le_of_ble_eq_true rfl) dL_law_224 ⟨Nat.le_of_ble_eq_true rfl, Nat.le_of_ble_eq_true rfl⟩ (fun H locs hI => ?_)
        refine lv_aload_n hx hb dL_law_227 rfl (lv_at hl 2 rfl) ?_
        refine lv_aload_n hx hb dL_law_228 rfl (lv_at hl 0 rfl) ?_
        refine lv_iload_n hx hb dL_law_229 rfl (lv_at hl 3 rfl) ?_
        refine lv_iconst (v := 1) hx hb dL_law_230 (by decide) ?_
        refine lv_iadd hx hb dL_law_231 ?_
        refine va_sld hx hb hX hbl hbA hI.2 hs1 dL_law_232 ?_
        refine lv_aload_n hx hb dL_law_233 rfl (lv_at hl 0 rfl) ?_
        refine lv_iload_n hx hb dL_law_234 rfl (lv_at hl 3 rfl) ?_
        refine lv_iconst (v := 2) hx hb dL_law_235 (by decide) ?_
        refine lv_iadd hx hb dL_law_236 ?_
        refine va_sld hx hb hX hbl hbA hI.2 hs2 dL_law_237 ?_
        refine z_calli (As := [.int (xs (nI i + 1).toNatClampNeg), .int (xs (nI i + 2).toNatClampNeg)]) (rest := [.int r]) E hI mx_8_0 rfl rfl rfl (c_X8_scale l G _ (M := M) (L := LL) (a1 := (xs (nI i + 1).toNatClampNeg)) (a2 := (xs (nI i + 2).toNatClampNeg)) g2) yv_X8_scale ml_L_31 ⟨Nat.le_of_ble_eq_true rfl, Nat.le_of_ble_eq_true rfl⟩ rfl rfl hl.1 (Nat.le_of_ble_eq_true rfl) dL_law_238 ⟨Nat.le_of_ble_eq_true rfl, Nat.le_of_ble_eq_true rfl⟩ (fun H locs hI => ?_)
        refine lv_icmp_eq (tgt := 882) hx hb dL_law_241 (by decide) (fun _ => ?_) (fun cc => absurd rfl cc)
        exact hnext M2 LL hR H locs hI ls hl
      by_cases o4 : op = 4
      · refine z_tsIn (off := 214) (tgt := 246) hx hb o4 dL_law_32 (by decide) (by decide) (by decide) (by decide) ?_
        obtain ⟨r, M2, g1, g2, hR⟩ := h_egg (xs (nI i + 1).toNatClampNeg) (xs (nI i + 2).toNatClampNeg) M LL hRel
        refine lv_aload_n hx hb dL_law_246 rfl (lv_at hl 1 rfl) ?_
        refine lv_aload_n hx hb dL_law_247 rfl (lv_at hl 0 rfl) ?_
        refine lv_iload_n hx hb dL_law_248 rfl (lv_at hl 3 rfl) ?_
        refine lv_iconst (v := 1) hx hb dL_law_249 (by decide) ?_
        refine lv_iadd hx hb dL_law_250 ?_
        refine va_sld hx hb hX hbl hbA hI.2 hs1 dL_law_251 ?_
        refine lv_aload_n hx hb dL_law_252 rfl (lv_at hl 0 rfl) ?_
        refine lv_iload_n hx hb dL_law_253 rfl (lv_at hl 3 rfl) ?_
        refine lv_iconst (v := 2) hx hb dL_law_254 (by decide) ?_
        refine lv_iadd hx hb dL_law_255 ?_
        refine va_sld hx hb hX hbl hbA hI.2 hs2 dL_law_256 ?_
        refine z_calli (As := [.int (xs (nI i + 1).toNatClampNeg), .int (xs (nI i + 2).toNatClampNeg)]) (rest := []) E hI mx_0_0 rfl rfl rfl (c_X7_egg l G _ (M := M) (L := LL) (a1 := (xs (nI i + 1).toNatClampNeg)) (a2 := (xs (nI i + 2).toNatClampNeg)) g1) yv_X7_egg ml_L_32 ⟨Nat.le_of_ble_eq_true rfl, Nat.le_of_ble_eq_true rfl⟩ rfl rfl hl.1 (Nat.le_of_ble_eq_true rfl) dL_law_257 ⟨Nat.le_of_ble_eq_true rfl, Nat.le_of_ble_eq_true rfl⟩ (fun H locs hI => ?_)
        refine lv_aload_n hx hb dL_law_260 rfl (lv_at hl 2 rfl) ?_
        refine lv_aload_n hx hb dL_law_261 rfl (lv_at hl 0 rfl) ?_
        refine lv_iload_n hx hb dL_law_262 rfl (lv_at hl 3 rfl) ?_
        refine lv_iconst (v := 1) hx hb dL_law_263 (by decide) ?_
        refine lv_iadd hx hb dL_law_264 ?_
        refine va_sld hx hb hX hbl hbA hI.2 hs1 dL_law_265 ?_
        refine lv_aload_n hx hb dL_law_266 rfl (lv_at hl 0 rfl) ?_
        refine lv_iload_n hx hb dL_law_267 rfl (lv_at hl 3 rfl) ?_
        refine lv_iconst (v := 2) hx hb dL_law_268 (by decide) ?_
        refine lv_iadd hx hb dL_law_269 ?_
        refine va_sld hx hb hX hbl hbA hI.2 hs2 dL_law_270 ?_
        refine z_calli (As := [.int (xs (nI i + 1).toNatClampNeg), .int (xs (nI i + 2).toNatClampNeg)]) (rest := [.int r]) E hI mx_8_0 rfl rfl rfl (c_X8_egg l G _ (M := M) (L := LL) (a1 := (xs (nI i + 1).toNatClampNeg)) (a2 := (xs (nI i + 2).toNatClampNeg)) g2) yv_X8_egg ml_L_35 ⟨Nat.le_of_ble_eq_true rfl, Nat.le_of_ble_eq_true rfl⟩ rfl rfl hl.1 (Nat.le_of_ble_eq_true rfl) dL_law_271 ⟨Nat.le_of_ble_eq_true rfl, Nat.le_of_ble_eq_true rfl⟩ (fun H locs hI => ?_)
        refine lv_icmp_eq (tgt := 882) hx hb dL_law_274 (by decide) (fun _ => ?_) (fun cc => absurd rfl cc)
        exact hnext M2 LL hR H locs hI ls hl
      by_cases o5 : op = 5
      · refine z_tsIn (off := 247) (tgt := 279) hx hb o5 dL_law_32 (by decide) (by decide) (by decide) (by decide) ?_
        obtain ⟨r, M2, g1, g2, hR⟩ := h_now (xs (nI i + 1).toNatClampNeg) M LL hRel
        refine lv_aload_n hx hb dL_law_279 rfl (lv_at hl 1 rfl) ?_
        refine lv_aload_n hx hb dL_law_280 rfl (lv_at hl 0 rfl) ?_
        refine lv_iload_n hx hb dL_law_281 rfl (lv_at hl 3 rfl) ?_
        refine lv_iconst (v := 1) hx hb dL_law_282 (by decide) ?_
        refine lv_iadd hx hb dL_law_283 ?_
        refine va_sld hx hb hX hbl hbA hI.2 hs1 dL_law_284 ?_
        refine z_calli (As := [.int (xs (nI i + 1).toNatClampNeg)]) (rest := []) E hI mx_0_0 rfl rfl rfl (c_X7_now l G _ (M := M) (L := LL) (a1 := (xs (nI i + 1).toNatClampNeg)) g1) yv_X7_now ml_L_36 ⟨Nat.le_of_ble_eq_true rfl, Nat.le_of_ble_eq_true rfl⟩ rfl rfl hl.1 (Nat.le_of_ble_eq_true rfl) dL_law_285 ⟨Nat.le_of_ble_eq_true rfl, Nat.le_of_ble_eq_true rfl⟩ (fun H locs hI => ?_)
        refine lv_aload_n hx hb dL_law_288 rfl (lv_at hl 2 rfl) ?_
        refine lv_aload_n hx hb dL_law_289 rfl (lv_at hl 0 rfl) ?_
        refine lv_iload_n hx hb dL_law_290 rfl (lv_at hl 3 rfl) ?_
        refine lv_iconst (v := 1) hx hb dL_law_291 (by decide) ?_
        refine lv_iadd hx hb dL_law_292 ?_
        refine va_sld hx hb hX hbl hbA hI.2 hs1 dL_law_293 ?_
        refine z_calli (As := [.int (xs (nI i + 1).toNatClampNeg)]) (rest := [.int r]) E hI mx_8_0 rfl rfl rfl (c_X8_now l G _ (M := M) (L := LL) (a1 := (xs (nI i + 1).toNatClampNeg)) g2) yv_X8_now ml_L_39 ⟨Nat.le_of_ble_eq_true rfl, Nat.le_of_ble_eq_true rfl⟩ rfl rfl hl.1 (Nat.le_of_ble_eq_true rfl) dL_law_294 ⟨Nat.le_of_ble_eq_true rfl, Nat.le_of_ble_eq_true rfl⟩ (fun H locs hI => ?_)
        refine lv_icmp_eq (tgt := 882) hx hb dL_law_297 (by decide) (fun _ => ?_) (fun cc => absurd rfl cc)
        exact hnext M2 LL hR H locs hI ls hl
      by_cases o6 : op = 6
      · refine z_tsIn (off := 270) (tgt := 302) hx hb o6 dL_law_32 (by decide) (by decide) (by decide) (by decide) ?_
        obtain ⟨r, M1, M2, g1, g2, hR⟩ := h_rolls (xs (nI i + 1).toNatClampNeg) M LL hRel
        refine lv_aload_n hx hb dL_law_302 rfl (lv_at hl 1 rfl) ?_
        refine lv_aload_n hx hb dL_law_303 rfl (lv_at hl 0 rfl) ?_
        refine lv_iload_n hx hb dL_law_304 rfl (lv_at hl 3 rfl) ?_
        refine lv_iconst (v := 1) hx hb dL_law_305 (by decide) ?_
        refine lv_iadd hx hb dL_law_306 ?_
        refine va_sld hx hb hX hbl hbA hI.2 hs1 dL_law_307 ?_
        refine z_calli (As := [.int (xs (nI i + 1).toNatClampNeg)]) (rest := []) E hI mx_0_0 rfl rfl rfl (c_X7_rolls l G _ (M := M) (L := LL) (a1 := (xs (nI i + 1).toNatClampNeg)) g1) yv_X7_rolls ml_L_40 ⟨Nat.le_of_ble_eq_true rfl, Nat.le_of_ble_eq_true rfl⟩ rfl rfl hl.1 (Nat.le_of_ble_eq_true rfl) dL_law_308 ⟨Nat.le_of_ble_eq_true rfl, Nat.le_of_ble_eq_true rfl⟩ (fun H locs hI => ?_)
        refine lv_aload_n hx hb dL_law_311 rfl (lv_at hl 2 rfl) ?_
        refine lv_aload_n hx hb dL_law_312 rfl (lv_at hl 0 rfl) ?_
        refine lv_iload_n hx hb dL_law_313 rfl (lv_at hl 3 rfl) ?_
        refine lv_iconst (v := 1) hx hb dL_law_314 (by decide) ?_
        refine lv_iadd hx hb dL_law_315 ?_
        refine va_sld hx hb hX hbl hbA hI.2 hs1 dL_law_316 ?_
        refine z_calli (As := [.int (xs (nI i + 1).toNatClampNeg)]) (rest := [.int r]) E hI mx_8_0 rfl rfl rfl (c_X8_rolls l G _ (M := M1) (L := LL) (a1 := (xs (nI i + 1).toNatClampNeg)) g2) yv_X8_rolls ml_L_43 ⟨Nat.le_of_ble_eq_true rfl, Nat.le_of_ble_eq_true rfl⟩ rfl rfl hl.1 (Nat.le_of_ble_eq_true rfl) dL_law_317 ⟨Nat.le_of_ble_eq_true rfl, Nat.le_of_ble_eq_true rfl⟩ (fun H locs hI => ?_)
        refine lv_icmp_eq (tgt := 882) hx hb dL_law_320 (by decide) (fun _ => ?_) (fun cc => absurd rfl cc)
        exact hnext M2 LL hR H locs hI ls hl
      by_cases o7 : op = 7
      · refine z_tsIn (off := 293) (tgt := 325) hx hb o7 dL_law_32 (by decide) (by decide) (by decide) (by decide) ?_
        obtain ⟨r, M1, M2, g1, g2, hR⟩ := h_takes (xs (nI i + 1).toNatClampNeg) M LL hRel
        refine lv_aload_n hx hb dL_law_325 rfl (lv_at hl 1 rfl) ?_
        refine lv_aload_n hx hb dL_law_326 rfl (lv_at hl 0 rfl) ?_
        refine lv_iload_n hx hb dL_law_327 rfl (lv_at hl 3 rfl) ?_
        refine lv_iconst (v := 1) hx hb dL_law_328 (by decide) ?_
        refine lv_iadd hx hb dL_law_329 ?_
        refine va_sld hx hb hX hbl hbA hI.2 hs1 dL_law_330 ?_
        refine z_calli (As := [.int (xs (nI i + 1).toNatClampNeg)]) (rest := []) E hI mx_0_0 rfl rfl rfl (c_X7_takes l G _ (M := M) (L := LL) (a1 := (xs (nI i + 1).toNatClampNeg)) g1) yv_X7_takes ml_L_44 ⟨Nat.le_of_ble_eq_true rfl, Nat.le_of_ble_eq_true rfl⟩ rfl rfl hl.1 (Nat.le_of_ble_eq_true rfl) dL_law_331 ⟨Nat.le_of_ble_eq_true rfl, Nat.le_of_ble_eq_true rfl⟩ (fun H locs hI => ?_)
        refine lv_aload_n hx hb dL_law_334 rfl (lv_at hl 2 rfl) ?_
        refine lv_aload_n hx hb dL_law_335 rfl (lv_at hl 0 rfl) ?_
        refine lv_iload_n hx hb dL_law_336 rfl (lv_at hl 3 rfl) ?_
        refine lv_iconst (v := 1) hx hb dL_law_337 (by decide) ?_
        refine lv_iadd hx hb dL_law_338 ?_
        refine va_sld hx hb hX hbl hbA hI.2 hs1 dL_law_339 ?_
        refine z_calli (As := [.int (xs (nI i + 1).toNatClampNeg)]) (rest := [.int r]) E hI mx_8_0 rfl rfl rfl (c_X8_takes l G _ (M := M1) (L := LL) (a1 := (xs (nI i + 1).toNatClampNeg)) g2) yv_X8_takes ml_L_47 ⟨Nat.le_of_ble_eq_true rfl, Nat.le_of_ble_eq_true rfl⟩ rfl rfl hl.1 (Nat.le_of_ble_eq_true rfl) dL_law_340 ⟨Nat.le_of_ble_eq_true rfl, Nat.le_of_ble_eq_true rfl⟩ (fun H locs hI => ?_)
        refine lv_icmp_eq (tgt := 882) hx hb dL_law_343 (by decide) (fun _ => ?_) (fun cc => absurd rfl cc)
        exact hnext M2 LL hR H locs hI ls hl
      by_cases o8 : op = 8
      · refine z_tsIn (off := 316) (tgt := 348) hx hb o8 dL_law_32 (by decide) (by decide) (by decide) (by decide) ?_
        obtain ⟨r, M1, M2, g1, g2, hR⟩ := h_wipes (xs (nI i + 1).toNatClampNeg) M LL hRel
        refine lv_aload_n hx hb dL_law_348 rfl (lv_at hl 1 rfl) ?_
        refine lv_aload_n hx hb dL_law_349 rfl (lv_at hl 0 rfl) ?_
        refine lv_iload_n hx hb dL_law_350 rfl (lv_at hl 3 rfl) ?_
        refine lv_iconst (v := 1) hx hb dL_law_351 (by decide) ?_
        refine lv_iadd hx hb dL_law_352 ?_
        refine va_sld hx hb hX hbl hbA hI.2 hs1 dL_law_353 ?_
        refine z_calli (As := [.int (xs (nI i + 1).toNatClampNeg)]) (rest := []) E hI mx_0_0 rfl rfl rfl (c_X7_wipes l G _ (M := M) (L := LL) (a1 := (xs (nI i + 1).toNatClampNeg)) g1) yv_X7_wipes ml_L_48 ⟨Nat.le_of_ble_eq_true rfl, Nat.le_of_ble_eq_true rfl⟩ rfl rfl hl.1 (Nat.le_of_ble_eq_true rfl) dL_law_354 ⟨Nat.le_of_ble_eq_true rfl, Nat.le_of_ble_eq_true rfl⟩ (fun H locs hI => ?_)
        refine lv_aload_n hx hb dL_law_357 rfl (lv_at hl 2 rfl) ?_
        refine lv_aload_n hx hb dL_law_358 rfl (lv_at hl 0 rfl) ?_
        refine lv_iload_n hx hb dL_law_359 rfl (lv_at hl 3 rfl) ?_
        refine lv_iconst (v := 1) hx hb dL_law_360 (by decide) ?_
        refine lv_iadd hx hb dL_law_361 ?_
        refine va_sld hx hb hX hbl hbA hI.2 hs1 dL_law_362 ?_
        refine z_calli (As := [.int (xs (nI i + 1).toNatClampNeg)]) (rest := [.int r]) E hI mx_8_0 rfl rfl rfl (c_X8_wipes l G _ (M := M1) (L := LL) (a1 := (xs (nI i + 1).toNatClampNeg)) g2) yv_X8_wipes ml_L_51 ⟨Nat.le_of_ble_eq_true rfl, Nat.le_of_ble_eq_true rfl⟩ rfl rfl hl.1 (Nat.le_of_ble_eq_true rfl) dL_law_363 ⟨Nat.le_of_ble_eq_true rfl, Nat.le_of_ble_eq_true rfl⟩ (fun H locs hI => ?_)
        refine lv_icmp_eq (tgt := 882) hx hb dL_law_366 (by decide) (fun _ => ?_) (fun cc => absurd rfl cc)
        exact hnext M2 LL hR H locs hI ls hl
      by_cases o9 : op = 9
      · refine z_tsIn (off := 339) (tgt := 371) hx hb o9 dL_law_32 (by decide) (by decide) (by decide) (by decide) ?_
        obtain ⟨r, M1, M2, g1, g2, hR⟩ := h_sets (xs (nI i + 1).toNatClampNeg) (xs (nI i + 2).toNatClampNeg) M LL hRel
        refine lv_aload_n hx hb dL_law_371 rfl (lv_at hl 1 rfl) ?_
        refine lv_aload_n hx hb dL_law_372 rfl (lv_at hl 0 rfl) ?_
        refine lv_iload_n hx hb dL_law_373 rfl (lv_at hl 3 rfl) ?_
        refine lv_iconst (v := 1) hx hb dL_law_374 (by decide) ?_
        refine lv_iadd hx hb dL_law_375 ?_
        refine va_sld hx hb hX hbl hbA hI.2 hs1 dL_law_376 ?_
        refine lv_aload_n hx hb dL_law_377 rfl (lv_at hl 0 rfl) ?_
        refine lv_iload_n hx hb dL_law_378 rfl (lv_at hl 3 rfl) ?_
        refine lv_iconst (v := 2) hx hb dL_law_379 (by decide) ?_
        refine lv_iadd hx hb dL_law_380 ?_
        refine va_sld hx hb hX hbl hbA hI.2 hs2 dL_law_381 ?_
        refine z_calli (As := [.int (xs (nI i + 1).toNatClampNeg), .int (xs (nI i + 2).toNatClampNeg)]) (rest := []) E hI mx_0_0 rfl rfl rfl (c_X7_sets l G _ (M := M) (L := LL) (a1 := (xs (nI i + 1).toNatClampNeg)) (a2 := (xs (nI i + 2).toNatClampNeg)) g1) yv_X7_sets ml_L_52 ⟨Nat.le_of_ble_eq_true rfl, Nat.le_of_ble_eq_true rfl⟩ rfl rfl hl.1 (Nat.le_of_ble_eq_true rfl) dL_law_382 ⟨Nat.le_of_ble_eq_true rfl, Nat.le_of_ble_eq_true rfl⟩ (fun H locs hI => ?_)
        refine lv_aload_n hx hb dL_law_385 rfl (lv_at hl 2 rfl) ?_
        refine lv_aload_n hx hb dL_law_386 rfl (lv_at hl 0 rfl) ?_
        refine lv_iload_n hx hb dL_law_387 rfl (lv_at hl 3 rfl) ?_
        refine lv_iconst (v := 1) hx hb dL_law_388 (by decide) ?_
        refine lv_iadd hx hb dL_law_389 ?_
        refine va_sld hx hb hX hbl hbA hI.2 hs1 dL_law_390 ?_
        refine lv_aload_n hx hb dL_law_391 rfl (lv_at hl 0 rfl) ?_
        refine lv_iload_n hx hb dL_law_392 rfl (lv_at hl 3 rfl) ?_
        refine lv_iconst (v := 2) hx hb dL_law_393 (by decide) ?_
        refine lv_iadd hx hb dL_law_394 ?_
        refine va_sld hx hb hX hbl hbA hI.2 hs2 dL_law_395 ?_
        refine z_calli (As := [.int (xs (nI i + 1).toNatClampNeg), .int (xs (nI i + 2).toNatClampNeg)]) (rest := [.int r]) E hI mx_8_0 rfl rfl rfl (c_X8_sets l G _ (M := M1) (L := LL) (a1 := (xs (nI i + 1).toNatClampNeg)) (a2 := (xs (nI i + 2).toNatClampNeg)) g2) yv_X8_sets ml_L_55 ⟨Nat.le_of_ble_eq_true rfl, Nat.le_of_ble_eq_true rfl⟩ rfl rfl hl.1 (Nat.le_of_ble_eq_true rfl) dL_law_396 ⟨Nat.le_of_ble_eq_true rfl, Nat.le_of_ble_eq_true rfl⟩ (fun H locs hI => ?_)
        refine lv_icmp_eq (tgt := 882) hx hb dL_law_399 (by decide) (fun _ => ?_) (fun cc => absurd rfl cc)
        exact hnext M2 LL hR H locs hI ls hl
      by_cases o10 : op = 10
      · refine z_tsIn (off := 372) (tgt := 404) hx hb o10 dL_law_32 (by decide) (by decide) (by decide) (by decide) ?_
        obtain ⟨r, M1, M2, g1, g2, hR⟩ := h_shifts (xs (nI i + 1).toNatClampNeg) M LL hRel
        refine lv_aload_n hx hb dL_law_404 rfl (lv_at hl 1 rfl) ?_
        refine lv_aload_n hx hb dL_law_405 rfl (lv_at hl 0 rfl) ?_
        refine lv_iload_n hx hb dL_law_406 rfl (lv_at hl 3 rfl) ?_
        refine lv_iconst (v := 1) hx hb dL_law_407 (by decide) ?_
        refine lv_iadd hx hb dL_law_408 ?_
        refine va_sld hx hb hX hbl hbA hI.2 hs1 dL_law_409 ?_
        refine z_calli (As := [.int (xs (nI i + 1).toNatClampNeg)]) (rest := []) E hI mx_0_0 rfl rfl rfl (c_X7_shifts l G _ (M := M) (L := LL) (a1 := (xs (nI i + 1).toNatClampNeg)) g1) yv_X7_shifts ml_L_56 ⟨Nat.le_of_ble_eq_true rfl, Nat.le_of_ble_eq_true rfl⟩ rfl rfl hl.1 (Nat.le_of_ble_eq_true rfl) dL_law_410 ⟨Nat.le_of_ble_eq_true rfl, Nat.le_of_ble_eq_true rfl⟩ (fun H locs hI => ?_)
        refine lv_aload_n hx hb dL_law_413 rfl (lv_at hl 2 rfl) ?_
        refine lv_aload_n hx hb dL_law_414 rfl (lv_at hl 0 rfl) ?_
        refine lv_iload_n hx hb dL_law_415 rfl (lv_at hl 3 rfl) ?_
        refine lv_iconst (v := 1) hx hb dL_law_416 (by decide) ?_
        refine lv_iadd hx hb dL_law_417 ?_
        refine va_sld hx hb hX hbl hbA hI.2 hs1 dL_law_418 ?_
        refine z_calli (As := [.int (xs (nI i + 1).toNatClampNeg)]) (rest := [.int r]) E hI mx_8_0 rfl rfl rfl (c_X8_shifts l G _ (M := M1) (L := LL) (a1 := (xs (nI i + 1).toNatClampNeg)) g2) yv_X8_shifts ml_L_59 ⟨Nat.le_of_ble_eq_true rfl, Nat.le_of_ble_eq_true rfl⟩ rfl rfl hl.1 (Nat.le_of_ble_eq_true rfl) dL_law_419 ⟨Nat.le_of_ble_eq_true rfl, Nat.le_of_ble_eq_true rfl⟩ (fun H locs hI => ?_)
        refine lv_icmp_eq (tgt := 882) hx hb dL_law_422 (by decide) (fun _ => ?_) (fun cc => absurd rfl cc)
        exact hnext M2 LL hR H locs hI ls hl
      by_cases o11 : op = 11
      · refine z_tsIn (off := 395) (tgt := 427) hx hb o11 dL_law_32 (by decide) (by decide) (by decide) (by decide) ?_
        obtain ⟨r, M1, M2, g1, g2, hR⟩ := h_drops (xs (nI i + 1).toNatClampNeg) M LL hRel
        refine lv_aload_n hx hb dL_law_427 rfl (lv_at hl 1 rfl) ?_
        refine lv_aload_n hx hb dL_law_428 rfl (lv_at hl 0 rfl) ?_
        refine lv_iload_n hx hb dL_law_429 rfl (lv_at hl 3 rfl) ?_
        refine lv_iconst (v := 1) hx hb dL_law_430 (by decide) ?_
        refine lv_iadd hx hb dL_law_431 ?_
        refine va_sld hx hb hX hbl hbA hI.2 hs1 dL_law_432 ?_
        refine z_calli (As := [.int (xs (nI i + 1).toNatClampNeg)]) (rest := []) E hI mx_0_0 rfl rfl rfl (c_X7_drops l G _ (M := M) (L := LL) (a1 := (xs (nI i + 1).toNatClampNeg)) g1) yv_X7_drops ml_L_60 ⟨Nat.le_of_ble_eq_true rfl, Nat.le_of_ble_eq_true rfl⟩ rfl rfl hl.1 (Nat.le_of_ble_eq_true rfl) dL_law_433 ⟨Nat.le_of_ble_eq_true rfl, Nat.le_of_ble_eq_true rfl⟩ (fun H locs hI => ?_)
        refine lv_aload_n hx hb dL_law_436 rfl (lv_at hl 2 rfl) ?_
        refine lv_aload_n hx hb dL_law_437 rfl (lv_at hl 0 rfl) ?_
        refine lv_iload_n hx hb dL_law_438 rfl (lv_at hl 3 rfl) ?_
        refine lv_iconst (v := 1) hx hb dL_law_439 (by decide) ?_
        refine lv_iadd hx hb dL_law_440 ?_
        refine va_sld hx hb hX hbl hbA hI.2 hs1 dL_law_441 ?_
        refine z_calli (As := [.int (xs (nI i + 1).toNatClampNeg)]) (rest := [.int r]) E hI mx_8_0 rfl rfl rfl (c_X8_drops l G _ (M := M1) (L := LL) (a1 := (xs (nI i + 1).toNatClampNeg)) g2) yv_X8_drops ml_L_63 ⟨Nat.le_of_ble_eq_true rfl, Nat.le_of_ble_eq_true rfl⟩ rfl rfl hl.1 (Nat.le_of_ble_eq_true rfl) dL_law_442 ⟨Nat.le_of_ble_eq_true rfl, Nat.le_of_ble_eq_true rfl⟩ (fun H locs hI => ?_)
        refine lv_icmp_eq (tgt := 882) hx hb dL_law_445 (by decide) (fun _ => ?_) (fun cc => absurd rfl cc)
        exact hnext M2 LL hR H locs hI ls hl
      by_cases o12 : op = 12
      · refine z_tsIn (off := 418) (tgt := 450) hx hb o12 dL_law_32 (by decide) (by decide) (by decide) (by decide) ?_
        obtain ⟨r, M1, M2, g1, g2, hR⟩ := h_undo  M LL hRel
        refine lv_aload_n hx hb dL_law_450 rfl (lv_at hl 1 rfl) ?_
        refine z_calli (As := []) (rest := []) E hI mx_0_0 rfl rfl rfl (c_X7_undo l G _ (M := M) (L := LL)  g1) yv_X7_undo ml_L_64 ⟨Nat.le_of_ble_eq_true rfl, Nat.le_of_ble_eq_true rfl⟩ rfl rfl hl.1 (Nat.le_of_ble_eq_true rfl) dL_law_451 ⟨Nat.le_of_ble_eq_true rfl, Nat.le_of_ble_eq_true rfl⟩ (fun H locs hI => ?_)
        refine lv_aload_n hx hb dL_law_454 rfl (lv_at hl 2 rfl) ?_
        refine z_calli (As := []) (rest := [.int r]) E hI mx_8_0 rfl rfl rfl (c_X8_undo l G _ (M := M1) (L := LL)  g2) yv_X8_undo ml_L_67 ⟨Nat.le_of_ble_eq_true rfl, Nat.le_of_ble_eq_true rfl⟩ rfl rfl hl.1 (Nat.le_of_ble_eq_true rfl) dL_law_455 ⟨Nat.le_of_ble_eq_true rfl, Nat.le_of_ble_eq_true rfl⟩ (fun H locs hI => ?_)
        refine lv_icmp_eq (tgt := 882) hx hb dL_law_458 (by decide) (fun _ => ?_) (fun cc => absurd rfl cc)
        exact hnext M2 LL hR H locs hI ls hl
      by_cases o13 : op = 13
      · refine z_tsIn (off := 431) (tgt := 463) hx hb o13 dL_law_32 (by decide) (by decide) (by decide) (by decide) ?_
        obtain ⟨r, M1, M2, g1, g2, hR⟩ := h_goes (xs (nI i + 1).toNatClampNeg) M LL hRel
        refine lv_aload_n hx hb dL_law_463 rfl (lv_at hl 1 rfl) ?_
        refine lv_aload_n hx hb dL_law_464 rfl (lv_at hl 0 rfl) ?_
        refine lv_iload_n hx hb dL_law_465 rfl (lv_at hl 3 rfl) ?_
        refine lv_iconst (v := 1) hx hb dL_law_466 (by decide) ?_
        refine lv_iadd hx hb dL_law_467 ?_
        refine va_sld hx hb hX hbl hbA hI.2 hs1 dL_law_468 ?_
        refine z_calli (As := [.int (xs (nI i + 1).toNatClampNeg)]) (rest := []) E hI mx_0_0 rfl rfl rfl (c_X7_goes l G _ (M := M) (L := LL) (a1 := (xs (nI i + 1).toNatClampNeg)) g1) yv_X7_goes ml_L_68 ⟨Nat.le_of_ble_eq_true rfl, Nat.le_of_ble_eq_true rfl⟩ rfl rfl hl.1 (Nat.le_of_ble_eq_true rfl) dL_law_469 ⟨Nat.le_of_ble_eq_true rfl, Nat.le_of_ble_eq_true rfl⟩ (fun H locs hI => ?_)
        refine lv_aload_n hx hb dL_law_472 rfl (lv_at hl 2 rfl) ?_
        refine lv_aload_n hx hb dL_law_473 rfl (lv_at hl 0 rfl) ?_
        refine lv_iload_n hx hb dL_law_474 rfl (lv_at hl 3 rfl) ?_
        refine lv_iconst (v := 1) hx hb dL_law_475 (by decide) ?_
        refine lv_iadd hx hb dL_law_476 ?_
        refine va_sld hx hb hX hbl hbA hI.2 hs1 dL_law_477 ?_
        refine z_calli (As := [.int (xs (nI i + 1).toNatClampNeg)]) (rest := [.int r]) E hI mx_8_0 rfl rfl rfl (c_X8_goes l G _ (M := M1) (L := LL) (a1 := (xs (nI i + 1).toNatClampNeg)) g2) yv_X8_goes ml_L_71 ⟨Nat.le_of_ble_eq_true rfl, Nat.le_of_ble_eq_true rfl⟩ rfl rfl hl.1 (Nat.le_of_ble_eq_true rfl) dL_law_478 ⟨Nat.le_of_ble_eq_true rfl, Nat.le_of_ble_eq_true rfl⟩ (fun H locs hI => ?_)
        refine lv_icmp_eq (tgt := 882) hx hb dL_law_481 (by decide) (fun _ => ?_) (fun cc => absurd rfl cc)
        exact hnext M2 LL hR H locs hI ls hl
      by_cases o14 : op = 14
      · refine z_tsIn (off := 454) (tgt := 486) hx hb o14 dL_law_32 (by decide) (by decide) (by decide) (by decide) ?_
        obtain ⟨r, M1, M2, g1, g2, hR⟩ := h_order (xs (nI i + 1).toNatClampNeg) M LL hRel
        refine lv_aload_n hx hb dL_law_486 rfl (lv_at hl 1 rfl) ?_
        refine lv_aload_n hx hb dL_law_487 rfl (lv_at hl 0 rfl) ?_
        refine lv_iload_n hx hb dL_law_488 rfl (lv_at hl 3 rfl) ?_
        refine lv_iconst (v := 1) hx hb dL_law_489 (by decide) ?_
        refine lv_iadd hx hb dL_law_490 ?_
        refine va_sld hx hb hX hbl hbA hI.2 hs1 dL_law_491 ?_
        refine z_calli (As := [.int (xs (nI i + 1).toNatClampNeg)]) (rest := []) E hI mx_0_0 rfl rfl rfl (c_X7_order l G _ (M := M) (L := LL) (a1 := (xs (nI i + 1).toNatClampNeg)) g1) yv_X7_order ml_L_72 ⟨Nat.le_of_ble_eq_true rfl, Nat.le_of_ble_eq_true rfl⟩ rfl rfl hl.1 (Nat.le_of_ble_eq_true rfl) dL_law_492 ⟨Nat.le_of_ble_eq_true rfl, Nat.le_of_ble_eq_true rfl⟩ (fun H locs hI => ?_)
        refine lv_aload_n hx hb dL_law_495 rfl (lv_at hl 2 rfl) ?_
        refine lv_aload_n hx hb dL_law_496 rfl (lv_at hl 0 rfl) ?_
        refine lv_iload_n hx hb dL_law_497 rfl (lv_at hl 3 rfl) ?_
        refine lv_iconst (v := 1) hx hb dL_law_498 (by decide) ?_
        refine lv_iadd hx hb dL_law_499 ?_
        refine va_sld hx hb hX hbl hbA hI.2 hs1 dL_law_500 ?_
        refine z_calli (As := [.int (xs (nI i + 1).toNatClampNeg)]) (rest := [.int r]) E hI mx_8_0 rfl rfl rfl (c_X8_order l G _ (M := M1) (L := LL) (a1 := (xs (nI i + 1).toNatClampNeg)) g2) yv_X8_order ml_L_75 ⟨Nat.le_of_ble_eq_true rfl, Nat.le_of_ble_eq_true rfl⟩ rfl rfl hl.1 (Nat.le_of_ble_eq_true rfl) dL_law_501 ⟨Nat.le_of_ble_eq_true rfl, Nat.le_of_ble_eq_true rfl⟩ (fun H locs hI => ?_)
        refine lv_icmp_eq (tgt := 882) hx hb dL_law_504 (by decide) (fun _ => ?_) (fun cc => absurd rfl cc)
        exact hnext M2 LL hR H locs hI ls hl
      by_cases o15 : op = 15
      · refine z_tsIn (off := 477) (tgt := 509) hx hb o15 dL_law_32 (by decide) (by decide) (by decide) (by decide) ?_
        obtain ⟨r, M1, M2, g1, g2, hR⟩ := h_row (xs (nI i + 1).toNatClampNeg) M LL hRel
        refine lv_aload_n hx hb dL_law_509 rfl (lv_at hl 1 rfl) ?_
        refine lv_aload_n hx hb dL_law_510 rfl (lv_at hl 0 rfl) ?_
        refine lv_iload_n hx hb dL_law_511 rfl (lv_at hl 3 rfl) ?_
        refine lv_iconst (v := 1) hx hb dL_law_512 (by decide) ?_
        refine lv_iadd hx hb dL_law_513 ?_
        refine va_sld hx hb hX hbl hbA hI.2 hs1 dL_law_514 ?_
        refine z_calli (As := [.int (xs (nI i + 1).toNatClampNeg)]) (rest := []) E hI mx_0_0 rfl rfl rfl (c_X7_row l G _ (M := M) (L := LL) (a1 := (xs (nI i + 1).toNatClampNeg)) g1) yv_X7_row ml_L_76 ⟨Nat.le_of_ble_eq_true rfl, Nat.le_of_ble_eq_true rfl⟩ rfl rfl hl.1 (Nat.le_of_ble_eq_true rfl) dL_law_515 ⟨Nat.le_of_ble_eq_true rfl, Nat.le_of_ble_eq_true rfl⟩ (fun H locs hI => ?_)
        refine lv_aload_n hx hb dL_law_518 rfl (lv_at hl 2 rfl) ?_
        refine lv_aload_n hx hb dL_law_519 rfl (lv_at hl 0 rfl) ?_
        refine lv_iload_n hx hb dL_law_520 rfl (lv_at hl 3 rfl) ?_
        refine lv_iconst (v := 1) hx hb dL_law_521 (by decide) ?_
        refine lv_iadd hx hb dL_law_522 ?_
        refine va_sld hx hb hX hbl hbA hI.2 hs1 dL_law_523 ?_
        refine z_calli (As := [.int (xs (nI i + 1).toNatClampNeg)]) (rest := [.int r]) E hI mx_8_0 rfl rfl rfl (c_X8_row l G _ (M := M1) (L := LL) (a1 := (xs (nI i + 1).toNatClampNeg)) g2) yv_X8_row ml_L_79 ⟨Nat.le_of_ble_eq_true rfl, Nat.le_of_ble_eq_true rfl⟩ rfl rfl hl.1 (Nat.le_of_ble_eq_true rfl) dL_law_524 ⟨Nat.le_of_ble_eq_true rfl, Nat.le_of_ble_eq_true rfl⟩ (fun H locs hI => ?_)
        refine lv_icmp_eq (tgt := 882) hx hb dL_law_527 (by decide) (fun _ => ?_) (fun cc => absurd rfl cc)
        exact hnext M2 LL hR H locs hI ls hl
      by_cases o16 : op = 16
      · refine z_tsIn (off := 500) (tgt := 532) hx hb o16 dL_law_32 (by decide) (by decide) (by decide) (by decide) ?_
        obtain ⟨r, M2, g1, g2, hR⟩ := h_reset (xs (nI i + 1).toNatClampNeg) (xs (nI i + 2).toNatClampNeg) M LL hRel
        refine lv_aload_n hx hb dL_law_532 rfl (lv_at hl 1 rfl) ?_
        refine lv_aload_n hx hb dL_law_533 rfl (lv_at hl 0 rfl) ?_
        refine lv_iload_n hx hb dL_law_534 rfl (lv_at hl 3 rfl) ?_
        refine lv_iconst (v := 1) hx hb dL_law_535 (by decide) ?_
        refine lv_iadd hx hb dL_law_536 ?_
        refine va_sld hx hb hX hbl hbA hI.2 hs1 dL_law_537 ?_
        refine lv_aload_n hx hb dL_law_538 rfl (lv_at hl 0 rfl) ?_
        refine lv_iload_n hx hb dL_law_539 rfl (lv_at hl 3 rfl) ?_
        refine lv_iconst (v := 2) hx hb dL_law_540 (by decide) ?_
        refine lv_iadd hx hb dL_law_541 ?_
        refine va_sld hx hb hX hbl hbA hI.2 hs2 dL_law_542 ?_
        refine z_calli (As := [.int (xs (nI i + 1).toNatClampNeg), .int (xs (nI i + 2).toNatClampNeg)]) (rest := []) E hI mx_0_0 rfl rfl rfl (c_X7_reset l G _ (M := M) (L := LL) (a1 := (xs (nI i + 1).toNatClampNeg)) (a2 := (xs (nI i + 2).toNatClampNeg)) g1) yv_X7_reset ml_L_80 ⟨Nat.le_of_ble_eq_true rfl, Nat.le_of_ble_eq_true rfl⟩ rfl rfl hl.1 (Nat.le_of_ble_eq_true rfl) dL_law_543 ⟨Nat.le_of_ble_eq_true rfl, Nat.le_of_ble_eq_true rfl⟩ (fun H locs hI => ?_)
        refine lv_aload_n hx hb dL_law_546 rfl (lv_at hl 2 rfl) ?_
        refine lv_aload_n hx hb dL_law_547 rfl (lv_at hl 0 rfl) ?_
        refine lv_iload_n hx hb dL_law_548 rfl (lv_at hl 3 rfl) ?_
        refine lv_iconst (v := 1) hx hb dL_law_549 (by decide) ?_
        refine lv_iadd hx hb dL_law_550 ?_
        refine va_sld hx hb hX hbl hbA hI.2 hs1 dL_law_551 ?_
        refine lv_aload_n hx hb dL_law_552 rfl (lv_at hl 0 rfl) ?_
        refine lv_iload_n hx hb dL_law_553 rfl (lv_at hl 3 rfl) ?_
        refine lv_iconst (v := 2) hx hb dL_law_554 (by decide) ?_
        refine lv_iadd hx hb dL_law_555 ?_
        refine va_sld hx hb hX hbl hbA hI.2 hs2 dL_law_556 ?_
        refine z_calli (As := [.int (xs (nI i + 1).toNatClampNeg), .int (xs (nI i + 2).toNatClampNeg)]) (rest := [.int r]) E hI mx_8_0 rfl rfl rfl (c_X8_reset l G _ (M := M) (L := LL) (a1 := (xs (nI i + 1).toNatClampNeg)) (a2 := (xs (nI i + 2).toNatClampNeg)) g2) yv_X8_reset ml_L_83 ⟨Nat.le_of_ble_eq_true rfl, Nat.le_of_ble_eq_true rfl⟩ rfl rfl hl.1 (Nat.le_of_ble_eq_true rfl) dL_law_557 ⟨Nat.le_of_ble_eq_true rfl, Nat.le_of_ble_eq_true rfl⟩ (fun H locs hI => ?_)
        refine lv_icmp_eq (tgt := 882) hx hb dL_law_560 (by decide) (fun _ => ?_) (fun cc => absurd rfl cc)
        exact hnext M2 LL hR H locs hI ls hl
      by_cases o17 : op = 17
      · refine z_tsIn (off := 533) (tgt := 565) hx hb o17 dL_law_32 (by decide) (by decide) (by decide) (by decide) ?_
        obtain ⟨r, g1, g2, hR⟩ := h_cracks (xs (nI i + 1).toNatClampNeg) (xs (nI i + 2).toNatClampNeg) (xs (nI i + 3).toNatClampNeg) M LL hRel
        refine lv_aload_n hx hb dL_law_565 rfl (lv_at hl 1 rfl) ?_
        refine lv_aload_n hx hb dL_law_566 rfl (lv_at hl 0 rfl) ?_
        refine lv_iload_n hx hb dL_law_567 rfl (lv_at hl 3 rfl) ?_
        refine lv_iconst (v := 1) hx hb dL_law_568 (by decide) ?_
        refine lv_iadd hx hb dL_law_569 ?_
        refine va_sld hx hb hX hbl hbA hI.2 hs1 dL_law_570 ?_
        refine lv_aload_n hx hb dL_law_571 rfl (lv_at hl 0 rfl) ?_
        refine lv_iload_n hx hb dL_law_572 rfl (lv_at hl 3 rfl) ?_
        refine lv_iconst (v := 2) hx hb dL_law_573 (by decide) ?_
        refine lv_iadd hx hb dL_law_574 ?_
        refine va_sld hx hb hX hbl hbA hI.2 hs2 dL_law_575 ?_
        refine lv_aload_n hx hb dL_law_576 rfl (lv_at hl 0 rfl) ?_
        refine lv_iload_n hx hb dL_law_577 rfl (lv_at hl 3 rfl) ?_
        refine lv_iconst (v := 3) hx hb dL_law_578 (by decide) ?_
        refine lv_iadd hx hb dL_law_579 ?_
        refine va_sld hx hb hX hbl hbA hI.2 hs3 dL_law_580 ?_
        refine z_calli (As := [.int (xs (nI i + 1).toNatClampNeg), .int (xs (nI i + 2).toNatClampNeg), .int (xs (nI i + 3).toNatClampNeg)]) (rest := []) E hI mx_0_0 rfl rfl rfl (c_X7_cracks l G _ (M := M) (L := LL) (a1 := (xs (nI i + 1).toNatClampNeg)) (a2 := (xs (nI i + 2).toNatClampNeg)) (a3 := (xs (nI i + 3).toNatClampNeg)) g1) yv_X7_cracks ml_L_84 ⟨Nat.le_of_ble_eq_true rfl, Nat.le_of_ble_eq_true rfl⟩ rfl rfl hl.1 (Nat.le_of_ble_eq_true rfl) dL_law_581 ⟨Nat.le_of_ble_eq_true rfl, Nat.le_of_ble_eq_true rfl⟩ (fun H locs hI => ?_)
        refine lv_aload_n hx hb dL_law_584 rfl (lv_at hl 2 rfl) ?_
        refine lv_aload_n hx hb dL_law_585 rfl (lv_at hl 0 rfl) ?_
        refine lv_iload_n hx hb dL_law_586 rfl (lv_at hl 3 rfl) ?_
        refine lv_iconst (v := 1) hx hb dL_law_587 (by decide) ?_
        refine lv_iadd hx hb dL_law_588 ?_
        refine va_sld hx hb hX hbl hbA hI.2 hs1 dL_law_589 ?_
        refine lv_aload_n hx hb dL_law_590 rfl (lv_at hl 0 rfl) ?_
        refine lv_iload_n hx hb dL_law_591 rfl (lv_at hl 3 rfl) ?_
        refine lv_iconst (v := 2) hx hb dL_law_592 (by decide) ?_
        refine lv_iadd hx hb dL_law_593 ?_
        refine va_sld hx hb hX hbl hbA hI.2 hs2 dL_law_594 ?_
        refine lv_aload_n hx hb dL_law_595 rfl (lv_at hl 0 rfl) ?_
        refine lv_iload_n hx hb dL_law_596 rfl (lv_at hl 3 rfl) ?_
        refine lv_iconst (v := 3) hx hb dL_law_597 (by decide) ?_
        refine lv_iadd hx hb dL_law_598 ?_
        refine va_sld hx hb hX hbl hbA hI.2 hs3 dL_law_599 ?_
        refine z_calli (As := [.int (xs (nI i + 1).toNatClampNeg), .int (xs (nI i + 2).toNatClampNeg), .int (xs (nI i + 3).toNatClampNeg)]) (rest := [.int r]) E hI mx_8_0 rfl rfl rfl (c_X8_cracks l G _ (M := M) (L := LL) (a1 := (xs (nI i + 1).toNatClampNeg)) (a2 := (xs (nI i + 2).toNatClampNeg)) (a3 := (xs (nI i + 3).toNatClampNeg)) g2) yv_X8_cracks ml_L_88 ⟨Nat.le_of_ble_eq_true rfl, Nat.le_of_ble_eq_true rfl⟩ rfl rfl hl.1 (Nat.le_of_ble_eq_true rfl) dL_law_600 ⟨Nat.le_of_ble_eq_true rfl, Nat.le_of_ble_eq_true rfl⟩ (fun H locs hI => ?_)
        refine lv_icmp_eq (tgt := 882) hx hb dL_law_603 (by decide) (fun _ => ?_) (fun cc => absurd rfl cc)
        exact hnext M LL hR H locs hI ls hl
      by_cases o18 : op = 18
      · refine z_tsIn (off := 576) (tgt := 608) hx hb o18 dL_law_32 (by decide) (by decide) (by decide) (by decide) ?_
        obtain ⟨r, g1, g2, hR⟩ := h_box (xs (nI i + 1).toNatClampNeg) (xs (nI i + 2).toNatClampNeg) (xs (nI i + 3).toNatClampNeg) M LL hRel
        refine lv_aload_n hx hb dL_law_608 rfl (lv_at hl 1 rfl) ?_
        refine lv_aload_n hx hb dL_law_609 rfl (lv_at hl 0 rfl) ?_
        refine lv_iload_n hx hb dL_law_610 rfl (lv_at hl 3 rfl) ?_
        refine lv_iconst (v := 1) hx hb dL_law_611 (by decide) ?_
        refine lv_iadd hx hb dL_law_612 ?_
        refine va_sld hx hb hX hbl hbA hI.2 hs1 dL_law_613 ?_
        refine lv_aload_n hx hb dL_law_614 rfl (lv_at hl 0 rfl) ?_
        refine lv_iload_n hx hb dL_law_615 rfl (lv_at hl 3 rfl) ?_
        refine lv_iconst (v := 2) hx hb dL_law_616 (by decide) ?_
        refine lv_iadd hx hb dL_law_617 ?_
        refine va_sld hx hb hX hbl hbA hI.2 hs2 dL_law_618 ?_
        refine lv_aload_n hx hb dL_law_619 rfl (lv_at hl 0 rfl) ?_
        refine lv_iload_n hx hb dL_law_620 rfl (lv_at hl 3 rfl) ?_
        refine lv_iconst (v := 3) hx hb dL_law_621 (by decide) ?_
        refine lv_iadd hx hb dL_law_622 ?_
        refine va_sld hx hb hX hbl hbA hI.2 hs3 dL_law_623 ?_
        refine z_calli (As := [.int (xs (nI i + 1).toNatClampNeg), .int (xs (nI i + 2).toNatClampNeg), .int (xs (nI i + 3).toNatClampNeg)]) (rest := []) E hI mx_0_0 rfl rfl rfl (c_X7_box l G _ (M := M) (L := LL) (a1 := (xs (nI i + 1).toNatClampNeg)) (a2 := (xs (nI i + 2).toNatClampNeg)) (a3 := (xs (nI i + 3).toNatClampNeg)) g1) yv_X7_box ml_L_89 ⟨Nat.le_of_ble_eq_true rfl, Nat.le_of_ble_eq_true rfl⟩ rfl rfl hl.1 (Nat.le_of_ble_eq_true rfl) dL_law_624 ⟨Nat.le_of_ble_eq_true rfl, Nat.le_of_ble_eq_true rfl⟩ (fun H locs hI => ?_)
        refine lv_aload_n hx hb dL_law_627 rfl (lv_at hl 2 rfl) ?_
        refine lv_aload_n hx hb dL_law_628 rfl (lv_at hl 0 rfl) ?_
        refine lv_iload_n hx hb dL_law_629 rfl (lv_at hl 3 rfl) ?_
        refine lv_iconst (v := 1) hx hb dL_law_630 (by decide) ?_
        refine lv_iadd hx hb dL_law_631 ?_
        refine va_sld hx hb hX hbl hbA hI.2 hs1 dL_law_632 ?_
        refine lv_aload_n hx hb dL_law_633 rfl (lv_at hl 0 rfl) ?_
        refine lv_iload_n hx hb dL_law_634 rfl (lv_at hl 3 rfl) ?_
        refine lv_iconst (v := 2) hx hb dL_law_635 (by decide) ?_
        refine lv_iadd hx hb dL_law_636 ?_
        refine va_sld hx hb hX hbl hbA hI.2 hs2 dL_law_637 ?_
        refine lv_aload_n hx hb dL_law_638 rfl (lv_at hl 0 rfl) ?_
        refine lv_iload_n hx hb dL_law_639 rfl (lv_at hl 3 rfl) ?_
        refine lv_iconst (v := 3) hx hb dL_law_640 (by decide) ?_
        refine lv_iadd hx hb dL_law_641 ?_
        refine va_sld hx hb hX hbl hbA hI.2 hs3 dL_law_642 ?_
        refine z_calli (As := [.int (xs (nI i + 1).toNatClampNeg), .int (xs (nI i + 2).toNatClampNeg), .int (xs (nI i + 3).toNatClampNeg)]) (rest := [.int r]) E hI mx_8_0 rfl rfl rfl (c_X8_box l G _ (M := M) (L := LL) (a1 := (xs (nI i + 1).toNatClampNeg)) (a2 := (xs (nI i + 2).toNatClampNeg)) (a3 := (xs (nI i + 3).toNatClampNeg)) g2) yv_X8_box ml_L_92 ⟨Nat.le_of_ble_eq_true rfl, Nat.le_of_ble_eq_true rfl⟩ rfl rfl hl.1 (Nat.le_of_ble_eq_true rfl) dL_law_643 ⟨Nat.le_of_ble_eq_true rfl, Nat.le_of_ble_eq_true rfl⟩ (fun H locs hI => ?_)
        refine lv_icmp_eq (tgt := 882) hx hb dL_law_646 (by decide) (fun _ => ?_) (fun cc => absurd rfl cc)
        exact hnext M LL hR H locs hI ls hl
      by_cases o19 : op = 19
      · refine z_tsIn (off := 619) (tgt := 651) hx hb o19 dL_law_32 (by decide) (by decide) (by decide) (by decide) ?_
        obtain ⟨r, M1, M2, g1, g2, hR⟩ := h_boxes (xs (nI i + 1).toNatClampNeg) (xs (nI i + 2).toNatClampNeg) M LL hRel
        refine lv_aload_n hx hb dL_law_651 rfl (lv_at hl 1 rfl) ?_
        refine lv_aload_n hx hb dL_law_652 rfl (lv_at hl 0 rfl) ?_
        refine lv_iload_n hx hb dL_law_653 rfl (lv_at hl 3 rfl) ?_
        refine lv_iconst (v := 1) hx hb dL_law_654 (by decide) ?_
        refine lv_iadd hx hb dL_law_655 ?_
        refine va_sld hx hb hX hbl hbA hI.2 hs1 dL_law_656 ?_
        refine lv_aload_n hx hb dL_law_657 rfl (lv_at hl 0 rfl) ?_
        refine lv_iload_n hx hb dL_law_658 rfl (lv_at hl 3 rfl) ?_
        refine lv_iconst (v := 2) hx hb dL_law_659 (by decide) ?_
        refine lv_iadd hx hb dL_law_660 ?_
        refine va_sld hx hb hX hbl hbA hI.2 hs2 dL_law_661 ?_
        refine z_calli (As := [.int (xs (nI i + 1).toNatClampNeg), .int (xs (nI i + 2).toNatClampNeg)]) (rest := []) E hI mx_0_0 rfl rfl rfl (c_X7_boxes l G _ (M := M) (L := LL) (a1 := (xs (nI i + 1).toNatClampNeg)) (a2 := (xs (nI i + 2).toNatClampNeg)) g1) yv_X7_boxes ml_L_93 ⟨Nat.le_of_ble_eq_true rfl, Nat.le_of_ble_eq_true rfl⟩ rfl rfl hl.1 (Nat.le_of_ble_eq_true rfl) dL_law_662 ⟨Nat.le_of_ble_eq_true rfl, Nat.le_of_ble_eq_true rfl⟩ (fun H locs hI => ?_)
        refine lv_aload_n hx hb dL_law_665 rfl (lv_at hl 2 rfl) ?_
        refine lv_aload_n hx hb dL_law_666 rfl (lv_at hl 0 rfl) ?_
        refine lv_iload_n hx hb dL_law_667 rfl (lv_at hl 3 rfl) ?_
        refine lv_iconst (v := 1) hx hb dL_law_668 (by decide) ?_
        refine lv_iadd hx hb dL_law_669 ?_
        refine va_sld hx hb hX hbl hbA hI.2 hs1 dL_law_670 ?_
        refine lv_aload_n hx hb dL_law_671 rfl (lv_at hl 0 rfl) ?_
        refine lv_iload_n hx hb dL_law_672 rfl (lv_at hl 3 rfl) ?_
        refine lv_iconst (v := 2) hx hb dL_law_673 (by decide) ?_
        refine lv_iadd hx hb dL_law_674 ?_
        refine va_sld hx hb hX hbl hbA hI.2 hs2 dL_law_675 ?_
        refine z_calli (As := [.int (xs (nI i + 1).toNatClampNeg), .int (xs (nI i + 2).toNatClampNeg)]) (rest := [.int r]) E hI mx_8_0 rfl rfl rfl (c_X8_boxes l G _ (M := M1) (L := LL) (a1 := (xs (nI i + 1).toNatClampNeg)) (a2 := (xs (nI i + 2).toNatClampNeg)) g2) yv_X8_boxes ml_L_96 ⟨Nat.le_of_ble_eq_true rfl, Nat.le_of_ble_eq_true rfl⟩ rfl rfl hl.1 (Nat.le_of_ble_eq_true rfl) dL_law_676 ⟨Nat.le_of_ble_eq_true rfl, Nat.le_of_ble_eq_true rfl⟩ (fun H locs hI => ?_)
        refine lv_icmp_eq (tgt := 882) hx hb dL_law_679 (by decide) (fun _ => ?_) (fun cc => absurd rfl cc)
        exact hnext M2 LL hR H locs hI ls hl
      by_cases o20 : op = 20
      · refine z_tsIn (off := 652) (tgt := 684) hx hb o20 dL_law_32 (by decide) (by decide) (by decide) (by decide) ?_
        obtain ⟨r, M1, M2, g1, g2, hR⟩ := h_tested (xs (nI i + 1).toNatClampNeg) (xs (nI i + 2).toNatClampNeg) M LL hRel
        refine lv_aload_n hx hb dL_law_684 rfl (lv_at hl 1 rfl) ?_
        refine lv_aload_n hx hb dL_law_685 rfl (lv_at hl 0 rfl) ?_
        refine lv_iload_n hx hb dL_law_686 rfl (lv_at hl 3 rfl) ?_
        refine lv_iconst (v := 1) hx hb dL_law_687 (by decide) ?_
        refine lv_iadd hx hb dL_law_688 ?_
        refine va_sld hx hb hX hbl hbA hI.2 hs1 dL_law_689 ?_
        refine lv_aload_n hx hb dL_law_690 rfl (lv_at hl 0 rfl) ?_
        refine lv_iload_n hx hb dL_law_691 rfl (lv_at hl 3 rfl) ?_
        refine lv_iconst (v := 2) hx hb dL_law_692 (by decide) ?_
        refine lv_iadd hx hb dL_law_693 ?_
        refine va_sld hx hb hX hbl hbA hI.2 hs2 dL_law_694 ?_
        refine z_calli (As := [.int (xs (nI i + 1).toNatClampNeg), .int (xs (nI i + 2).toNatClampNeg)]) (rest := []) E hI mx_0_0 rfl rfl rfl (c_X7_tested l G _ (M := M) (L := LL) (a1 := (xs (nI i + 1).toNatClampNeg)) (a2 := (xs (nI i + 2).toNatClampNeg)) g1) yv_X7_tested ml_L_97 ⟨Nat.le_of_ble_eq_true rfl, Nat.le_of_ble_eq_true rfl⟩ rfl rfl hl.1 (Nat.le_of_ble_eq_true rfl) dL_law_695 ⟨Nat.le_of_ble_eq_true rfl, Nat.le_of_ble_eq_true rfl⟩ (fun H locs hI => ?_)
        refine lv_aload_n hx hb dL_law_698 rfl (lv_at hl 2 rfl) ?_
        refine lv_aload_n hx hb dL_law_699 rfl (lv_at hl 0 rfl) ?_
        refine lv_iload_n hx hb dL_law_700 rfl (lv_at hl 3 rfl) ?_
        refine lv_iconst (v := 1) hx hb dL_law_701 (by decide) ?_
        refine lv_iadd hx hb dL_law_702 ?_
        refine va_sld hx hb hX hbl hbA hI.2 hs1 dL_law_703 ?_
        refine lv_aload_n hx hb dL_law_704 rfl (lv_at hl 0 rfl) ?_
        refine lv_iload_n hx hb dL_law_705 rfl (lv_at hl 3 rfl) ?_
        refine lv_iconst (v := 2) hx hb dL_law_706 (by decide) ?_
        refine lv_iadd hx hb dL_law_707 ?_
        refine va_sld hx hb hX hbl hbA hI.2 hs2 dL_law_708 ?_
        refine z_calli (As := [.int (xs (nI i + 1).toNatClampNeg), .int (xs (nI i + 2).toNatClampNeg)]) (rest := [.int r]) E hI mx_8_0 rfl rfl rfl (c_X8_tested l G _ (M := M1) (L := LL) (a1 := (xs (nI i + 1).toNatClampNeg)) (a2 := (xs (nI i + 2).toNatClampNeg)) g2) yv_X8_tested ml_L_100 ⟨Nat.le_of_ble_eq_true rfl, Nat.le_of_ble_eq_true rfl⟩ rfl rfl hl.1 (Nat.le_of_ble_eq_true rfl) dL_law_709 ⟨Nat.le_of_ble_eq_true rfl, Nat.le_of_ble_eq_true rfl⟩ (fun H locs hI => ?_)
        refine lv_icmp_eq (tgt := 882) hx hb dL_law_712 (by decide) (fun _ => ?_) (fun cc => absurd rfl cc)
        exact hnext M2 LL hR H locs hI ls hl
      by_cases o21 : op = 21
      · refine z_tsIn (off := 685) (tgt := 717) hx hb o21 dL_law_32 (by decide) (by decide) (by decide) (by decide) ?_
        obtain ⟨r, M1, M2, g1, g2, hR⟩ := h_forget  M LL hRel
        refine lv_aload_n hx hb dL_law_717 rfl (lv_at hl 1 rfl) ?_
        refine z_calli (As := []) (rest := []) E hI mx_0_0 rfl rfl rfl (c_X7_forget l G _ (M := M) (L := LL)  g1) yv_X7_forget ml_L_101 ⟨Nat.le_of_ble_eq_true rfl, Nat.le_of_ble_eq_true rfl⟩ rfl rfl hl.1 (Nat.le_of_ble_eq_true rfl) dL_law_718 ⟨Nat.le_of_ble_eq_true rfl, Nat.le_of_ble_eq_true rfl⟩ (fun H locs hI => ?_)
        refine lv_aload_n hx hb dL_law_721 rfl (lv_at hl 2 rfl) ?_
        refine z_calli (As := []) (rest := [.int r]) E hI mx_8_0 rfl rfl rfl (c_X8_forget l G _ (M := M1) (L := LL)  g2) yv_X8_forget ml_L_104 ⟨Nat.le_of_ble_eq_true rfl, Nat.le_of_ble_eq_true rfl⟩ rfl rfl hl.1 (Nat.le_of_ble_eq_true rfl) dL_law_722 ⟨Nat.le_of_ble_eq_true rfl, Nat.le_of_ble_eq_true rfl⟩ (fun H locs hI => ?_)
        refine lv_icmp_eq (tgt := 882) hx hb dL_law_725 (by decide) (fun _ => ?_) (fun cc => absurd rfl cc)
        exact hnext M2 LL hR H locs hI ls hl
      by_cases o22 : op = 22
      · refine z_tsIn (off := 698) (tgt := 730) hx hb o22 dL_law_32 (by decide) (by decide) (by decide) (by decide) ?_
        obtain ⟨r, M1, g1, g2, hR⟩ := h_can (xs (nI i + 1).toNatClampNeg) M LL hRel
        refine lv_aload_n hx hb dL_law_730 rfl (lv_at hl 1 rfl) ?_
        refine lv_aload_n hx hb dL_law_731 rfl (lv_at hl 0 rfl) ?_
        refine lv_iload_n hx hb dL_law_732 rfl (lv_at hl 3 rfl) ?_
        refine lv_iconst (v := 1) hx hb dL_law_733 (by decide) ?_
        refine lv_iadd hx hb dL_law_734 ?_
        refine va_sld hx hb hX hbl hbA hI.2 hs1 dL_law_735 ?_
        refine z_calli (As := [.int (xs (nI i + 1).toNatClampNeg)]) (rest := []) E hI mx_0_0 rfl rfl rfl (c_X7_can l G _ (M := M) (L := LL) (a1 := (xs (nI i + 1).toNatClampNeg)) g1) yv_X7_can ml_L_105 ⟨Nat.le_of_ble_eq_true rfl, Nat.le_of_ble_eq_true rfl⟩ rfl rfl hl.1 (Nat.le_of_ble_eq_true rfl) dL_law_736 ⟨Nat.le_of_ble_eq_true rfl, Nat.le_of_ble_eq_true rfl⟩ (fun H locs hI => ?_)
        refine lv_aload_n hx hb dL_law_739 rfl (lv_at hl 2 rfl) ?_
        refine lv_aload_n hx hb dL_law_740 rfl (lv_at hl 0 rfl) ?_
        refine lv_iload_n hx hb dL_law_741 rfl (lv_at hl 3 rfl) ?_
        refine lv_iconst (v := 1) hx hb dL_law_742 (by decide) ?_
        refine lv_iadd hx hb dL_law_743 ?_
        refine va_sld hx hb hX hbl hbA hI.2 hs1 dL_law_744 ?_
        refine z_calli (As := [.int (xs (nI i + 1).toNatClampNeg)]) (rest := [.int r]) E hI mx_8_0 rfl rfl rfl (c_X8_can l G _ (M := M1) (L := LL) (a1 := (xs (nI i + 1).toNatClampNeg)) g2) yv_X8_can ml_L_108 ⟨Nat.le_of_ble_eq_true rfl, Nat.le_of_ble_eq_true rfl⟩ rfl rfl hl.1 (Nat.le_of_ble_eq_true rfl) dL_law_745 ⟨Nat.le_of_ble_eq_true rfl, Nat.le_of_ble_eq_true rfl⟩ (fun H locs hI => ?_)
        refine lv_icmp_eq (tgt := 882) hx hb dL_law_748 (by decide) (fun _ => ?_) (fun cc => absurd rfl cc)
        exact hnext M1 LL hR H locs hI ls hl
      by_cases o23 : op = 23
      · refine z_tsIn (off := 721) (tgt := 753) hx hb o23 dL_law_32 (by decide) (by decide) (by decide) (by decide) ?_
        obtain ⟨r, M1, M2, g1, g2, hR⟩ := h_next  M LL hRel
        refine lv_aload_n hx hb dL_law_753 rfl (lv_at hl 1 rfl) ?_
        refine z_calli (As := []) (rest := []) E hI mx_0_0 rfl rfl rfl (c_X7_next l G _ (M := M) (L := LL)  g1) yv_X7_next ml_L_109 ⟨Nat.le_of_ble_eq_true rfl, Nat.le_of_ble_eq_true rfl⟩ rfl rfl hl.1 (Nat.le_of_ble_eq_true rfl) dL_law_754 ⟨Nat.le_of_ble_eq_true rfl, Nat.le_of_ble_eq_true rfl⟩ (fun H locs hI => ?_)
        refine lv_aload_n hx hb dL_law_757 rfl (lv_at hl 2 rfl) ?_
        refine z_calli (As := []) (rest := [.int r]) E hI mx_8_0 rfl rfl rfl (c_X8_next l G _ (M := M1) (L := LL)  g2) yv_X8_next ml_L_112 ⟨Nat.le_of_ble_eq_true rfl, Nat.le_of_ble_eq_true rfl⟩ rfl rfl hl.1 (Nat.le_of_ble_eq_true rfl) dL_law_758 ⟨Nat.le_of_ble_eq_true rfl, Nat.le_of_ble_eq_true rfl⟩ (fun H locs hI => ?_)
        refine lv_icmp_eq (tgt := 882) hx hb dL_law_761 (by decide) (fun _ => ?_) (fun cc => absurd rfl cc)
        exact hnext M2 LL hR H locs hI ls hl
      by_cases o24 : op = 24
      · refine z_tsIn (off := 734) (tgt := 766) hx hb o24 dL_law_32 (by decide) (by decide) (by decide) (by decide) ?_
        obtain ⟨r, L1, M2, L2, g1, g2, hR⟩ := h_rate (xs (nI i + 1).toNatClampNeg) (xs (nI i + 2).toNatClampNeg) M LL hRel
        refine lv_aload_n hx hb dL_law_766 rfl (lv_at hl 1 rfl) ?_
        refine lv_aload_n hx hb dL_law_767 rfl (lv_at hl 0 rfl) ?_
        refine lv_iload_n hx hb dL_law_768 rfl (lv_at hl 3 rfl) ?_
        refine lv_iconst (v := 1) hx hb dL_law_769 (by decide) ?_
        refine lv_iadd hx hb dL_law_770 ?_
        refine va_sld hx hb hX hbl hbA hI.2 hs1 dL_law_771 ?_
        refine lv_aload_n hx hb dL_law_772 rfl (lv_at hl 0 rfl) ?_
        refine lv_iload_n hx hb dL_law_773 rfl (lv_at hl 3 rfl) ?_
        refine lv_iconst (v := 2) hx hb dL_law_774 (by decide) ?_
        refine lv_iadd hx hb dL_law_775 ?_
        refine va_sld hx hb hX hbl hbA hI.2 hs2 dL_law_776 ?_
        refine z_calli (As := [.int (xs (nI i + 1).toNatClampNeg), .int (xs (nI i + 2).toNatClampNeg)]) (rest := []) E hI mx_0_0 rfl rfl rfl (c_X7_rate l G _ (M := M) (L := LL) (a1 := (xs (nI i + 1).toNatClampNeg)) (a2 := (xs (nI i + 2).toNatClampNeg)) g1) yv_X7_rate ml_L_113 ⟨Nat.le_of_ble_eq_true rfl, Nat.le_of_ble_eq_true rfl⟩ rfl rfl hl.1 (Nat.le_of_ble_eq_true rfl) dL_law_777 ⟨Nat.le_of_ble_eq_true rfl, Nat.le_of_ble_eq_true rfl⟩ (fun H locs hI => ?_)
        refine lv_aload_n hx hb dL_law_780 rfl (lv_at hl 2 rfl) ?_
        refine lv_aload_n hx hb dL_law_781 rfl (lv_at hl 0 rfl) ?_
        refine lv_iload_n hx hb dL_law_782 rfl (lv_at hl 3 rfl) ?_
        refine lv_iconst (v := 1) hx hb dL_law_783 (by decide) ?_
        refine lv_iadd hx hb dL_law_784 ?_
        refine va_sld hx hb hX hbl hbA hI.2 hs1 dL_law_785 ?_
        refine lv_aload_n hx hb dL_law_786 rfl (lv_at hl 0 rfl) ?_
        refine lv_iload_n hx hb dL_law_787 rfl (lv_at hl 3 rfl) ?_
        refine lv_iconst (v := 2) hx hb dL_law_788 (by decide) ?_
        refine lv_iadd hx hb dL_law_789 ?_
        refine va_sld hx hb hX hbl hbA hI.2 hs2 dL_law_790 ?_
        refine z_calli (As := [.int (xs (nI i + 1).toNatClampNeg), .int (xs (nI i + 2).toNatClampNeg)]) (rest := [.int r]) E hI mx_8_0 rfl rfl rfl (c_X8_rate l G _ (M := M) (L := L1) (a1 := (xs (nI i + 1).toNatClampNeg)) (a2 := (xs (nI i + 2).toNatClampNeg)) g2) yv_X8_rate ml_L_116 ⟨Nat.le_of_ble_eq_true rfl, Nat.le_of_ble_eq_true rfl⟩ rfl rfl hl.1 (Nat.le_of_ble_eq_true rfl) dL_law_791 ⟨Nat.le_of_ble_eq_true rfl, Nat.le_of_ble_eq_true rfl⟩ (fun H locs hI => ?_)
        refine lv_icmp_eq (tgt := 882) hx hb dL_law_794 (by decide) (fun _ => ?_) (fun cc => absurd rfl cc)
        exact hnext M2 L2 hR H locs hI ls hl
      by_cases o25 : op = 25
      · refine z_tsIn (off := 767) (tgt := 799) hx hb o25 dL_law_32 (by decide) (by decide) (by decide) (by decide) ?_
        obtain ⟨r, M1, M2, g1, g2, hR⟩ := h_keep (xs (nI i + 1).toNatClampNeg) M LL hRel
        refine lv_aload_n hx hb dL_law_799 rfl (lv_at hl 1 rfl) ?_
        refine lv_aload_n hx hb dL_law_800 rfl (lv_at hl 0 rfl) ?_
        refine lv_iload_n hx hb dL_law_801 rfl (lv_at hl 3 rfl) ?_
        refine lv_iconst (v := 1) hx hb dL_law_802 (by decide) ?_
        refine lv_iadd hx hb dL_law_803 ?_
        refine va_sld hx hb hX hbl hbA hI.2 hs1 dL_law_804 ?_
        refine z_calli (As := [.int (xs (nI i + 1).toNatClampNeg)]) (rest := []) E hI mx_0_0 rfl rfl rfl (c_X7_keep l G _ (M := M) (L := LL) (a1 := (xs (nI i + 1).toNatClampNeg)) g1) yv_X7_keep ml_L_117 ⟨Nat.le_of_ble_eq_true rfl, Nat.le_of_ble_eq_true rfl⟩ rfl rfl hl.1 (Nat.le_of_ble_eq_true rfl) dL_law_805 ⟨Nat.le_of_ble_eq_true rfl, Nat.le_of_ble_eq_true rfl⟩ (fun H locs hI => ?_)
        refine lv_aload_n hx hb dL_law_808 rfl (lv_at hl 2 rfl) ?_
        refine lv_aload_n hx hb dL_law_809 rfl (lv_at hl 0 rfl) ?_
        refine lv_iload_n hx hb dL_law_810 rfl (lv_at hl 3 rfl) ?_
        refine lv_iconst (v := 1) hx hb dL_law_811 (by decide) ?_
        refine lv_iadd hx hb dL_law_812 ?_
        refine va_sld hx hb hX hbl hbA hI.2 hs1 dL_law_813 ?_
        refine z_calli (As := [.int (xs (nI i + 1).toNatClampNeg)]) (rest := [.int r]) E hI mx_8_0 rfl rfl rfl (c_X8_keep l G _ (M := M1) (L := LL) (a1 := (xs (nI i + 1).toNatClampNeg)) g2) yv_X8_keep ml_L_120 ⟨Nat.le_of_ble_eq_true rfl, Nat.le_of_ble_eq_true rfl⟩ rfl rfl hl.1 (Nat.le_of_ble_eq_true rfl) dL_law_814 ⟨Nat.le_of_ble_eq_true rfl, Nat.le_of_ble_eq_true rfl⟩ (fun H locs hI => ?_)
        refine lv_icmp_eq (tgt := 882) hx hb dL_law_817 (by decide) (fun _ => ?_) (fun cc => absurd rfl cc)
        exact hnext M2 LL hR H locs hI ls hl
      by_cases o26 : op = 26
      · refine z_tsIn (off := 790) (tgt := 822) hx hb o26 dL_law_32 (by decide) (by decide) (by decide) (by decide) ?_
        obtain ⟨r, M1, M2, g1, g2, hR⟩ := h_back (xs (nI i + 1).toNatClampNeg) M LL hRel
        refine lv_aload_n hx hb dL_law_822 rfl (lv_at hl 1 rfl) ?_
        refine lv_aload_n hx hb dL_law_823 rfl (lv_at hl 0 rfl) ?_
        refine lv_iload_n hx hb dL_law_824 rfl (lv_at hl 3 rfl) ?_
        refine lv_iconst (v := 1) hx hb dL_law_825 (by decide) ?_
        refine lv_iadd hx hb dL_law_826 ?_
        refine va_sld hx hb hX hbl hbA hI.2 hs1 dL_law_827 ?_
        refine z_calli (As := [.int (xs (nI i + 1).toNatClampNeg)]) (rest := []) E hI mx_0_0 rfl rfl rfl (c_X7_back l G _ (M := M) (L := LL) (a1 := (xs (nI i + 1).toNatClampNeg)) g1) yv_X7_back ml_L_121 ⟨Nat.le_of_ble_eq_true rfl, Nat.le_of_ble_eq_true rfl⟩ rfl rfl hl.1 (Nat.le_of_ble_eq_true rfl) dL_law_828 ⟨Nat.le_of_ble_eq_true rfl, Nat.le_of_ble_eq_true rfl⟩ (fun H locs hI => ?_)
        refine lv_aload_n hx hb dL_law_831 rfl (lv_at hl 2 rfl) ?_
        refine lv_aload_n hx hb dL_law_832 rfl (lv_at hl 0 rfl) ?_
        refine lv_iload_n hx hb dL_law_833 rfl (lv_at hl 3 rfl) ?_
        refine lv_iconst (v := 1) hx hb dL_law_834 (by decide) ?_
        refine lv_iadd hx hb dL_law_835 ?_
        refine va_sld hx hb hX hbl hbA hI.2 hs1 dL_law_836 ?_
        refine z_calli (As := [.int (xs (nI i + 1).toNatClampNeg)]) (rest := [.int r]) E hI mx_8_0 rfl rfl rfl (c_X8_back l G _ (M := M1) (L := LL) (a1 := (xs (nI i + 1).toNatClampNeg)) g2) yv_X8_back ml_L_124 ⟨Nat.le_of_ble_eq_true rfl, Nat.le_of_ble_eq_true rfl⟩ rfl rfl hl.1 (Nat.le_of_ble_eq_true rfl) dL_law_837 ⟨Nat.le_of_ble_eq_true rfl, Nat.le_of_ble_eq_true rfl⟩ (fun H locs hI => ?_)
        refine lv_icmp_eq (tgt := 882) hx hb dL_law_840 (by decide) (fun _ => ?_) (fun cc => absurd rfl cc)
        exact hnext M2 LL hR H locs hI ls hl
      by_cases o27 : op = 27
      · refine z_tsIn (off := 813) (tgt := 845) hx hb o27 dL_law_32 (by decide) (by decide) (by decide) (by decide) ?_
        obtain ⟨r, g1, g2, hR⟩ := h_count (xs (nI i + 1).toNatClampNeg) M LL hRel
        refine lv_aload_n hx hb dL_law_845 rfl (lv_at hl 1 rfl) ?_
        refine lv_aload_n hx hb dL_law_846 rfl (lv_at hl 0 rfl) ?_
        refine lv_iload_n hx hb dL_law_847 rfl (lv_at hl 3 rfl) ?_
        refine lv_iconst (v := 1) hx hb dL_law_848 (by decide) ?_
        refine lv_iadd hx hb dL_law_849 ?_
        refine va_sld hx hb hX hbl hbA hI.2 hs1 dL_law_850 ?_
        refine z_calli (As := [.int (xs (nI i + 1).toNatClampNeg)]) (rest := []) E hI mx_0_0 rfl rfl rfl (c_X7_count l G _ (M := M) (L := LL) (a1 := (xs (nI i + 1).toNatClampNeg)) g1) yv_X7_count ml_L_125 ⟨Nat.le_of_ble_eq_true rfl, Nat.le_of_ble_eq_true rfl⟩ rfl rfl hl.1 (Nat.le_of_ble_eq_true rfl) dL_law_851 ⟨Nat.le_of_ble_eq_true rfl, Nat.le_of_ble_eq_true rfl⟩ (fun H locs hI => ?_)
        refine lv_aload_n hx hb dL_law_854 rfl (lv_at hl 2 rfl) ?_
        refine lv_aload_n hx hb dL_law_855 rfl (lv_at hl 0 rfl) ?_
        refine lv_iload_n hx hb dL_law_856 rfl (lv_at hl 3 rfl) ?_
        refine lv_iconst (v := 1) hx hb dL_law_857 (by decide) ?_
        refine lv_iadd hx hb dL_law_858 ?_
        refine va_sld hx hb hX hbl hbA hI.2 hs1 dL_law_859 ?_
        refine z_calli (As := [.int (xs (nI i + 1).toNatClampNeg)]) (rest := [.int r]) E hI mx_8_0 rfl rfl rfl (c_X8_count l G _ (M := M) (L := LL) (a1 := (xs (nI i + 1).toNatClampNeg)) g2) yv_X8_count ml_L_128 ⟨Nat.le_of_ble_eq_true rfl, Nat.le_of_ble_eq_true rfl⟩ rfl rfl hl.1 (Nat.le_of_ble_eq_true rfl) dL_law_860 ⟨Nat.le_of_ble_eq_true rfl, Nat.le_of_ble_eq_true rfl⟩ (fun H locs hI => ?_)
        refine lv_icmp_eq (tgt := 882) hx hb dL_law_863 (by decide) (fun _ => ?_) (fun cc => absurd rfl cc)
        exact hnext M LL hR H locs hI ls hl
      by_cases o28 : op = 28
      · refine z_tsIn (off := 836) (tgt := 868) hx hb o28 dL_law_32 (by decide) (by decide) (by decide) (by decide) ?_
        obtain ⟨r, g1, g2, hR⟩ := h_trace  M LL hRel
        refine lv_aload_n hx hb dL_law_868 rfl (lv_at hl 1 rfl) ?_
        refine z_calll (As := []) (rest := []) E hI mx_0_0 rfl rfl rfl (c_X7_trace l G _ (M := M) (L := LL)  g1) yv_X7_trace ml_L_129 ⟨Nat.le_of_ble_eq_true rfl, Nat.le_of_ble_eq_true rfl⟩ rfl rfl hl.1 (Nat.le_of_ble_eq_true rfl) dL_law_869 ⟨Nat.le_of_ble_eq_true rfl, Nat.le_of_ble_eq_true rfl⟩ (fun H locs hI => ?_)
        refine lv_aload_n hx hb dL_law_872 rfl (lv_at hl 2 rfl) ?_
        refine z_calll (As := []) (rest := [.long r]) E hI mx_8_0 rfl rfl rfl (c_X8_trace l G _ (M := M) (L := LL)  g2) yv_X8_trace ml_L_133 ⟨Nat.le_of_ble_eq_true rfl, Nat.le_of_ble_eq_true rfl⟩ rfl rfl hl.1 (Nat.le_of_ble_eq_true rfl) dL_law_873 ⟨Nat.le_of_ble_eq_true rfl, Nat.le_of_ble_eq_true rfl⟩ (fun H locs hI => ?_)
        refine W.lcmp hx hb dL_law_876 ?_
        refine lv_if_eq (tgt := 882) hx hb dL_law_877 (by decide) (fun _ => ?_) (fun cc => absurd (z_cmp r) cc)
        exact hnext M LL hR H locs hI ls hl
      refine z_tsOut hx hb dL_law_32 (fun k hk => by
        have hk3 : k < 29 := hk
        have hk2 : k = 0 ∨ k = 1 ∨ k = 2 ∨ k = 3 ∨ k = 4 ∨ k = 5 ∨ k = 6 ∨ k = 7 ∨ k = 8 ∨ k = 9 ∨ k = 10 ∨ k = 11 ∨ k = 12 ∨ k = 13 ∨ k = 14 ∨ k = 15 ∨ k = 16 ∨ k = 17 ∨ k = 18 ∨ k = 19 ∨ k = 20 ∨ k = 21 ∨ k = 22 ∨ k = 23 ∨ k = 24 ∨ k = 25 ∨ k = 26 ∨ k = 27 ∨ k = 28 := by omega
        rcases hk2 with rfl | rfl | rfl | rfl | rfl | rfl | rfl | rfl | rfl | rfl | rfl | rfl | rfl | rfl | rfl | rfl | rfl | rfl | rfl | rfl | rfl | rfl | rfl | rfl | rfl | rfl | rfl | rfl | rfl
        · exact o0
        · exact o1
        · exact o2
        · exact o3
        · exact o4
        · exact o5
        · exact o6
        · exact o7
        · exact o8
        · exact o9
        · exact o10
        · exact o11
        · exact o12
        · exact o13
        · exact o14
        · exact o15
        · exact o16
        · exact o17
        · exact o18
        · exact o19
        · exact o20
        · exact o21
        · exact o22
        · exact o23
        · exact o24
        · exact o25
        · exact o26
        · exact o27
        · exact o28) (tgt := 882) (by decide) ?_
      exact hnext M LL hRel H locs hI ls hl
