/-! THE CLAIM OUT OF ONE WALK OF THE LAW'S BODY. Your part is whole_start (and what it stands on); all else here is the same for every law, but numbers. -/
def R_law : String := "FrostDebtsLaw"
def lw_P (b : Addr) (xs : List Int32) (args : Array Value) (s : State) : Prop := args = #[.ref b] ∧ s.IntsAt b xs ∧ xs.length ≤ 384 ∧ (Jvm.Cond.and given_1 narrow_1).before args s = true
def lw_Q (_ : Array Value) (s : State) (o : Outcome) (t : State) : Prop := o = .returned (some (.int 1)) ∧ Framed s o t [] 600000 7302250
def lw_Z (below : List Frame) (a : Array Value) (s : State) : State → Prop := fun t => ∃ o, t.status = .running ∧ Ended t below o ∧ lw_Q a s o t
/-- the law's own end, with 1 on the stack, nothing written that was there before, its room as the claim has it -/
theorem lw_ret {p : Program} {l : Launch} {e : Env} {s : State} {m : MethodId} {below : List Frame} {meth : Method} {c : Code} {b : Nat} (hx : p.tables.exec = Jvm.exec) (hb : c.code = code) (hr : meth.sig.returnType = ret) (hlocks : meth.locks = false) {pc : Nat} {H : Heap} {ls : Array Slot} (hdg : decode code pc = .ok (.ireturn, 1)) : W p l e room_1 s m #[Value.ref b] below meth c H [] 600000 7302250 (lw_Z below #[Value.ref b] s) (F0 m pc ls [.int 1]) := by
  intro T hT X
  obtain ⟨fs, hret, hrun, hended, hW, hframe⟩ := X.leave (v := some (.int 1)) (hlocks := hlocks) (fun h => by rw [hr] at h; cases h)
  have hmeth' : T.vm.method? m = some meth := X.method'
  refine ⟨T.setFrames fs, ?_, .returned (some (.int 1)), hrun, hended, rfl, ⟨_, rfl⟩, hW, hframe⟩
  jvm_step X.here [X.here.top, hx, hb, hdg, hmeth', hr, ret, narrow_b1]
  (try refine ⟨rfl, ?_⟩); (try refine ⟨rfl, ?_⟩)
  first | (intro acts; rw [hret _ acts rfl rfl rfl]) | rw [hret _ _ rfl rfl rfl]
  exact Steps.refl _
/-- what holds at the law's entry: the machine, the code, the tables' words (any of lw_tbl by 'hts w (by decide +kernel)'), the script of L ints xs at the cell b, what the Statement gives of the start (any of its parts by flat_of_before) -/
def lw_At (p : Program) (s : State) (m : MethodId) (meth : Method) (c : Code) (b L : Nat) (xs : Nat → Int32) : Prop :=
  p.tables.exec = Jvm.exec ∧ c.code = code ∧ meth.sig.returnType = ret ∧ c.maxLocals = 4 ∧ s.vm.findClass R_law = some m.cls ∧ (∀ w ∈ lw_tbl, w.before #[Value.ref b] s = true) ∧ va_X b L xs s s.heap ∧ b < s.heap.size ∧ meth.locks = false ∧ (Jvm.Cond.and given_1 narrow_1).before #[Value.ref b] s = true
theorem dL_law_0 : decode cL_law 0 = .ok (.new 7, 3) := by decide +kernel
theorem dL_law_3 : decode cL_law 3 = .ok (.dup, 1) := by decide +kernel
theorem dL_law_4 : decode cL_law 4 = .ok (.invokespecial 9, 3) := by decide +kernel
theorem dL_law_7 : decode cL_law 7 = .ok (.astore_n 1, 1) := by decide +kernel
theorem dL_law_8 : decode cL_law 8 = .ok (.new 10, 3) := by decide +kernel
theorem dL_law_11 : decode cL_law 11 = .ok (.dup, 1) := by decide +kernel
theorem dL_law_12 : decode cL_law 12 = .ok (.invokespecial 12, 3) := by decide +kernel
theorem dL_law_15 : decode cL_law 15 = .ok (.astore_n 2, 1) := by decide +kernel
theorem dL_law_16 : decode cL_law 16 = .ok (.iconst 0, 1) := by decide +kernel
theorem dL_law_17 : decode cL_law 17 = .ok (.istore_n 3, 1) := by decide +kernel
theorem dL_law_18 : decode cL_law 18 = .ok (.iload_n 3, 1) := by decide +kernel
theorem dL_law_19 : decode cL_law 19 = .ok (.aload_n 0, 1) := by decide +kernel
theorem dL_law_20 : decode cL_law 20 = .ok (.arraylength, 1) := by decide +kernel
theorem dL_law_21 : decode cL_law 21 = .ok (.bipush 6, 2) := by decide +kernel
theorem dL_law_23 : decode cL_law 23 = .ok (.isub, 1) := by decide +kernel
theorem dL_law_24 : decode cL_law 24 = .ok (.if_icmp .gt 1459, 3) := by decide +kernel
theorem dL_law_27 : decode cL_law 27 = .ok (.aload_n 0, 1) := by decide +kernel
theorem dL_law_28 : decode cL_law 28 = .ok (.iload_n 3, 1) := by decide +kernel
theorem dL_law_29 : decode cL_law 29 = .ok (.iaload, 1) := by decide +kernel
theorem dL_law_30 : decode cL_law 30 = .ok (.bipush 63, 2) := by decide +kernel
theorem dL_law_32 : decode cL_law 32 = .ok (.iand, 1) := by decide +kernel
theorem dL_law_33 : decode cL_law 33 = .ok (.tableswitch 1444 0 40 #[179, 212, 235, 258, 281, 314, 337, 370, 393, 416, 449, 482, 505, 538, 571, 594, 617, 650, 683, 696, 739, 762, 795, 838, 881, 924, 967, 980, 1003, 1026, 1039, 1062, 1116, 1149, 1192, 1215, 1268, 1311, 1374, 1407, 1430], 179) := by decide +kernel
theorem dL_law_212 : decode cL_law 212 = .ok (.aload_n 1, 1) := by decide +kernel
theorem dL_law_213 : decode cL_law 213 = .ok (.aload_n 0, 1) := by decide +kernel
theorem dL_law_214 : decode cL_law 214 = .ok (.iload_n 3, 1) := by decide +kernel
theorem dL_law_215 : decode cL_law 215 = .ok (.iconst 1, 1) := by decide +kernel
theorem dL_law_216 : decode cL_law 216 = .ok (.iadd, 1) := by decide +kernel
theorem dL_law_217 : decode cL_law 217 = .ok (.iaload, 1) := by decide +kernel
theorem dL_law_218 : decode cL_law 218 = .ok (.aload_n 0, 1) := by decide +kernel
theorem dL_law_219 : decode cL_law 219 = .ok (.iload_n 3, 1) := by decide +kernel
theorem dL_law_220 : decode cL_law 220 = .ok (.iconst 2, 1) := by decide +kernel
theorem dL_law_221 : decode cL_law 221 = .ok (.iadd, 1) := by decide +kernel
theorem dL_law_222 : decode cL_law 222 = .ok (.iaload, 1) := by decide +kernel
theorem dL_law_223 : decode cL_law 223 = .ok (.invokevirtual 13, 3) := by decide +kernel
theorem dL_law_226 : decode cL_law 226 = .ok (.aload_n 2, 1) := by decide +kernel
theorem dL_law_227 : decode cL_law 227 = .ok (.aload_n 0, 1) := by decide +kernel
theorem dL_law_228 : decode cL_law 228 = .ok (.iload_n 3, 1) := by decide +kernel
theorem dL_law_229 : decode cL_law 229 = .ok (.iconst 1, 1) := by decide +kernel
theorem dL_law_230 : decode cL_law 230 = .ok (.iadd, 1) := by decide +kernel
theorem dL_law_231 : decode cL_law 231 = .ok (.iaload, 1) := by decide +kernel
theorem dL_law_232 : decode cL_law 232 = .ok (.aload_n 0, 1) := by decide +kernel
theorem dL_law_233 : decode cL_law 233 = .ok (.iload_n 3, 1) := by decide +kernel
theorem dL_law_234 : decode cL_law 234 = .ok (.iconst 2, 1) := by decide +kernel
theorem dL_law_235 : decode cL_law 235 = .ok (.iadd, 1) := by decide +kernel
theorem dL_law_236 : decode cL_law 236 = .ok (.iaload, 1) := by decide +kernel
theorem dL_law_237 : decode cL_law 237 = .ok (.invokevirtual 17, 3) := by decide +kernel
theorem dL_law_240 : decode cL_law 240 = .ok (.if_icmp .eq 1237, 3) := by decide +kernel
theorem dL_law_245 : decode cL_law 245 = .ok (.aload_n 1, 1) := by decide +kernel
theorem dL_law_246 : decode cL_law 246 = .ok (.aload_n 0, 1) := by decide +kernel
theorem dL_law_247 : decode cL_law 247 = .ok (.iload_n 3, 1) := by decide +kernel
theorem dL_law_248 : decode cL_law 248 = .ok (.iconst 1, 1) := by decide +kernel
theorem dL_law_249 : decode cL_law 249 = .ok (.iadd, 1) := by decide +kernel
theorem dL_law_250 : decode cL_law 250 = .ok (.iaload, 1) := by decide +kernel
theorem dL_law_251 : decode cL_law 251 = .ok (.invokevirtual 18, 3) := by decide +kernel
theorem dL_law_254 : decode cL_law 254 = .ok (.aload_n 2, 1) := by decide +kernel
theorem dL_law_255 : decode cL_law 255 = .ok (.aload_n 0, 1) := by decide +kernel
theorem dL_law_256 : decode cL_law 256 = .ok (.iload_n 3, 1) := by decide +kernel
theorem dL_law_257 : decode cL_law 257 = .ok (.iconst 1, 1) := by decide +kernel
theorem dL_law_258 : decode cL_law 258 = .ok (.iadd, 1) := by decide +kernel
theorem dL_law_259 : decode cL_law 259 = .ok (.iaload, 1) := by decide +kernel
theorem dL_law_260 : decode cL_law 260 = .ok (.invokevirtual 22, 3) := by decide +kernel
theorem dL_law_263 : decode cL_law 263 = .ok (.if_icmp .eq 1214, 3) := by decide +kernel
theorem dL_law_268 : decode cL_law 268 = .ok (.aload_n 1, 1) := by decide +kernel
theorem dL_law_269 : decode cL_law 269 = .ok (.aload_n 0, 1) := by decide +kernel
theorem dL_law_270 : decode cL_law 270 = .ok (.iload_n 3, 1) := by decide +kernel
theorem dL_law_271 : decode cL_law 271 = .ok (.iconst 1, 1) := by decide +kernel
theorem dL_law_272 : decode cL_law 272 = .ok (.iadd, 1) := by decide +kernel
theorem dL_law_273 : decode cL_law 273 = .ok (.iaload, 1) := by decide +kernel
theorem dL_law_274 : decode cL_law 274 = .ok (.invokevirtual 23, 3) := by decide +kernel
theorem dL_law_277 : decode cL_law 277 = .ok (.aload_n 2, 1) := by decide +kernel
theorem dL_law_278 : decode cL_law 278 = .ok (.aload_n 0, 1) := by decide +kernel
theorem dL_law_279 : decode cL_law 279 = .ok (.iload_n 3, 1) := by decide +kernel
theorem dL_law_280 : decode cL_law 280 = .ok (.iconst 1, 1) := by decide +kernel
theorem dL_law_281 : decode cL_law 281 = .ok (.iadd, 1) := by decide +kernel
theorem dL_law_282 : decode cL_law 282 = .ok (.iaload, 1) := by decide +kernel
theorem dL_law_283 : decode cL_law 283 = .ok (.invokevirtual 26, 3) := by decide +kernel
theorem dL_law_286 : decode cL_law 286 = .ok (.if_icmp .eq 1191, 3) := by decide +kernel
theorem dL_law_291 : decode cL_law 291 = .ok (.aload_n 1, 1) := by decide +kernel
theorem dL_law_292 : decode cL_law 292 = .ok (.aload_n 0, 1) := by decide +kernel
theorem dL_law_293 : decode cL_law 293 = .ok (.iload_n 3, 1) := by decide +kernel
theorem dL_law_294 : decode cL_law 294 = .ok (.iconst 1, 1) := by decide +kernel
theorem dL_law_295 : decode cL_law 295 = .ok (.iadd, 1) := by decide +kernel
theorem dL_law_296 : decode cL_law 296 = .ok (.iaload, 1) := by decide +kernel
theorem dL_law_297 : decode cL_law 297 = .ok (.invokevirtual 27, 3) := by decide +kernel
theorem dL_law_300 : decode cL_law 300 = .ok (.aload_n 2, 1) := by decide +kernel
theorem dL_law_301 : decode cL_law 301 = .ok (.aload_n 0, 1) := by decide +kernel
theorem dL_law_302 : decode cL_law 302 = .ok (.iload_n 3, 1) := by decide +kernel
theorem dL_law_303 : decode cL_law 303 = .ok (.iconst 1, 1) := by decide +kernel
theorem dL_law_304 : decode cL_law 304 = .ok (.iadd, 1) := by decide +kernel
theorem dL_law_305 : decode cL_law 305 = .ok (.iaload, 1) := by decide +kernel
theorem dL_law_306 : decode cL_law 306 = .ok (.invokevirtual 30, 3) := by decide +kernel
theorem dL_law_309 : decode cL_law 309 = .ok (.if_icmp .eq 1168, 3) := by decide +kernel
theorem dL_law_314 : decode cL_law 314 = .ok (.aload_n 1, 1) := by decide +kernel
theorem dL_law_315 : decode cL_law 315 = .ok (.aload_n 0, 1) := by decide +kernel
theorem dL_law_316 : decode cL_law 316 = .ok (.iload_n 3, 1) := by decide +kernel
theorem dL_law_317 : decode cL_law 317 = .ok (.iconst 1, 1) := by decide +kernel
theorem dL_law_318 : decode cL_law 318 = .ok (.iadd, 1) := by decide +kernel
theorem dL_law_319 : decode cL_law 319 = .ok (.iaload, 1) := by decide +kernel
theorem dL_law_320 : decode cL_law 320 = .ok (.aload_n 0, 1) := by decide +kernel
theorem dL_law_321 : decode cL_law 321 = .ok (.iload_n 3, 1) := by decide +kernel
theorem dL_law_322 : decode cL_law 322 = .ok (.iconst 2, 1) := by decide +kernel
theorem dL_law_323 : decode cL_law 323 = .ok (.iadd, 1) := by decide +kernel
theorem dL_law_324 : decode cL_law 324 = .ok (.iaload, 1) := by decide +kernel
theorem dL_law_325 : decode cL_law 325 = .ok (.invokevirtual 31, 3) := by decide +kernel
theorem dL_law_328 : decode cL_law 328 = .ok (.aload_n 2, 1) := by decide +kernel
theorem dL_law_329 : decode cL_law 329 = .ok (.aload_n 0, 1) := by decide +kernel
theorem dL_law_330 : decode cL_law 330 = .ok (.iload_n 3, 1) := by decide +kernel
theorem dL_law_331 : decode cL_law 331 = .ok (.iconst 1, 1) := by decide +kernel
theorem dL_law_332 : decode cL_law 332 = .ok (.iadd, 1) := by decide +kernel
theorem dL_law_333 : decode cL_law 333 = .ok (.iaload, 1) := by decide +kernel
theorem dL_law_334 : decode cL_law 334 = .ok (.aload_n 0, 1) := by decide +kernel
theorem dL_law_335 : decode cL_law 335 = .ok (.iload_n 3, 1) := by decide +kernel
theorem dL_law_336 : decode cL_law 336 = .ok (.iconst 2, 1) := by decide +kernel
theorem dL_law_337 : decode cL_law 337 = .ok (.iadd, 1) := by decide +kernel
theorem dL_law_338 : decode cL_law 338 = .ok (.iaload, 1) := by decide +kernel
theorem dL_law_339 : decode cL_law 339 = .ok (.invokevirtual 34, 3) := by decide +kernel
theorem dL_law_342 : decode cL_law 342 = .ok (.if_icmp .eq 1135, 3) := by decide +kernel
theorem dL_law_347 : decode cL_law 347 = .ok (.aload_n 1, 1) := by decide +kernel
theorem dL_law_348 : decode cL_law 348 = .ok (.aload_n 0, 1) := by decide +kernel
theorem dL_law_349 : decode cL_law 349 = .ok (.iload_n 3, 1) := by decide +kernel
theorem dL_law_350 : decode cL_law 350 = .ok (.iconst 1, 1) := by decide +kernel
theorem dL_law_351 : decode cL_law 351 = .ok (.iadd, 1) := by decide +kernel
theorem dL_law_352 : decode cL_law 352 = .ok (.iaload, 1) := by decide +kernel
theorem dL_law_353 : decode cL_law 353 = .ok (.invokevirtual 35, 3) := by decide +kernel
theorem dL_law_356 : decode cL_law 356 = .ok (.aload_n 2, 1) := by decide +kernel
theorem dL_law_357 : decode cL_law 357 = .ok (.aload_n 0, 1) := by decide +kernel
theorem dL_law_358 : decode cL_law 358 = .ok (.iload_n 3, 1) := by decide +kernel
theorem dL_law_359 : decode cL_law 359 = .ok (.iconst 1, 1) := by decide +kernel
theorem dL_law_360 : decode cL_law 360 = .ok (.iadd, 1) := by decide +kernel
theorem dL_law_361 : decode cL_law 361 = .ok (.iaload, 1) := by decide +kernel
theorem dL_law_362 : decode cL_law 362 = .ok (.invokevirtual 38, 3) := by decide +kernel
theorem dL_law_365 : decode cL_law 365 = .ok (.if_icmp .eq 1112, 3) := by decide +kernel
theorem dL_law_370 : decode cL_law 370 = .ok (.aload_n 1, 1) := by decide +kernel
theorem dL_law_371 : decode cL_law 371 = .ok (.aload_n 0, 1) := by decide +kernel
theorem dL_law_372 : decode cL_law 372 = .ok (.iload_n 3, 1) := by decide +kernel
theorem dL_law_373 : decode cL_law 373 = .ok (.iconst 1, 1) := by decide +kernel
theorem dL_law_374 : decode cL_law 374 = .ok (.iadd, 1) := by decide +kernel
theorem dL_law_375 : decode cL_law 375 = .ok (.iaload, 1) := by decide +kernel
theorem dL_law_376 : decode cL_law 376 = .ok (.aload_n 0, 1) := by decide +kernel
theorem dL_law_377 : decode cL_law 377 = .ok (.iload_n 3, 1) := by decide +kernel
theorem dL_law_378 : decode cL_law 378 = .ok (.iconst 2, 1) := by decide +kernel
theorem dL_law_379 : decode cL_law 379 = .ok (.iadd, 1) := by decide +kernel
theorem dL_law_380 : decode cL_law 380 = .ok (.iaload, 1) := by decide +kernel
theorem dL_law_381 : decode cL_law 381 = .ok (.invokevirtual 39, 3) := by decide +kernel
theorem dL_law_384 : decode cL_law 384 = .ok (.aload_n 2, 1) := by decide +kernel
theorem dL_law_385 : decode cL_law 385 = .ok (.aload_n 0, 1) := by decide +kernel
theorem dL_law_386 : decode cL_law 386 = .ok (.iload_n 3, 1) := by decide +kernel
theorem dL_law_387 : decode cL_law 387 = .ok (.iconst 1, 1) := by decide +kernel
theorem dL_law_388 : decode cL_law 388 = .ok (.iadd, 1) := by decide +kernel
theorem dL_law_389 : decode cL_law 389 = .ok (.iaload, 1) := by decide +kernel
theorem dL_law_390 : decode cL_law 390 = .ok (.aload_n 0, 1) := by decide +kernel
theorem dL_law_391 : decode cL_law 391 = .ok (.iload_n 3, 1) := by decide +kernel
theorem dL_law_392 : decode cL_law 392 = .ok (.iconst 2, 1) := by decide +kernel
theorem dL_law_393 : decode cL_law 393 = .ok (.iadd, 1) := by decide +kernel
theorem dL_law_394 : decode cL_law 394 = .ok (.iaload, 1) := by decide +kernel
theorem dL_law_395 : decode cL_law 395 = .ok (.invokevirtual 42, 3) := by decide +kernel
theorem dL_law_398 : decode cL_law 398 = .ok (.if_icmp .eq 1079, 3) := by decide +kernel
theorem dL_law_403 : decode cL_law 403 = .ok (.aload_n 1, 1) := by decide +kernel
theorem dL_law_404 : decode cL_law 404 = .ok (.aload_n 0, 1) := by decide +kernel
theorem dL_law_405 : decode cL_law 405 = .ok (.iload_n 3, 1) := by decide +kernel
theorem dL_law_406 : decode cL_law 406 = .ok (.iconst 1, 1) := by decide +kernel
theorem dL_law_407 : decode cL_law 407 = .ok (.iadd, 1) := by decide +kernel
theorem dL_law_408 : decode cL_law 408 = .ok (.iaload, 1) := by decide +kernel
theorem dL_law_409 : decode cL_law 409 = .ok (.invokevirtual 43, 3) := by decide +kernel
theorem dL_law_412 : decode cL_law 412 = .ok (.aload_n 2, 1) := by decide +kernel
theorem dL_law_413 : decode cL_law 413 = .ok (.aload_n 0, 1) := by decide +kernel
theorem dL_law_414 : decode cL_law 414 = .ok (.iload_n 3, 1) := by decide +kernel
theorem dL_law_415 : decode cL_law 415 = .ok (.iconst 1, 1) := by decide +kernel
theorem dL_law_416 : decode cL_law 416 = .ok (.iadd, 1) := by decide +kernel
theorem dL_law_417 : decode cL_law 417 = .ok (.iaload, 1) := by decide +kernel
theorem dL_law_418 : decode cL_law 418 = .ok (.invokevirtual 46, 3) := by decide +kernel
theorem dL_law_421 : decode cL_law 421 = .ok (.if_icmp .eq 1056, 3) := by decide +kernel
theorem dL_law_426 : decode cL_law 426 = .ok (.aload_n 1, 1) := by decide +kernel
theorem dL_law_427 : decode cL_law 427 = .ok (.aload_n 0, 1) := by decide +kernel
theorem dL_law_428 : decode cL_law 428 = .ok (.iload_n 3, 1) := by decide +kernel
theorem dL_law_429 : decode cL_law 429 = .ok (.iconst 1, 1) := by decide +kernel
theorem dL_law_430 : decode cL_law 430 = .ok (.iadd, 1) := by decide +kernel
theorem dL_law_431 : decode cL_law 431 = .ok (.iaload, 1) := by decide +kernel
theorem dL_law_432 : decode cL_law 432 = .ok (.invokevirtual 47, 3) := by decide +kernel
theorem dL_law_435 : decode cL_law 435 = .ok (.aload_n 2, 1) := by decide +kernel
theorem dL_law_436 : decode cL_law 436 = .ok (.aload_n 0, 1) := by decide +kernel
theorem dL_law_437 : decode cL_law 437 = .ok (.iload_n 3, 1) := by decide +kernel
theorem dL_law_438 : decode cL_law 438 = .ok (.iconst 1, 1) := by decide +kernel
theorem dL_law_439 : decode cL_law 439 = .ok (.iadd, 1) := by decide +kernel
theorem dL_law_440 : decode cL_law 440 = .ok (.iaload, 1) := by decide +kernel
theorem dL_law_441 : decode cL_law 441 = .ok (.invokevirtual 50, 3) := by decide +kernel
theorem dL_law_444 : decode cL_law 444 = .ok (.if_icmp .eq 1033, 3) := by decide +kernel
theorem dL_law_449 : decode cL_law 449 = .ok (.aload_n 1, 1) := by decide +kernel
theorem dL_law_450 : decode cL_law 450 = .ok (.aload_n 0, 1) := by decide +kernel
theorem dL_law_451 : decode cL_law 451 = .ok (.iload_n 3, 1) := by decide +kernel
theorem dL_law_452 : decode cL_law 452 = .ok (.iconst 1, 1) := by decide +kernel
theorem dL_law_453 : decode cL_law 453 = .ok (.iadd, 1) := by decide +kernel
theorem dL_law_454 : decode cL_law 454 = .ok (.iaload, 1) := by decide +kernel
theorem dL_law_455 : decode cL_law 455 = .ok (.aload_n 0, 1) := by decide +kernel
theorem dL_law_456 : decode cL_law 456 = .ok (.iload_n 3, 1) := by decide +kernel
theorem dL_law_457 : decode cL_law 457 = .ok (.iconst 2, 1) := by decide +kernel
theorem dL_law_458 : decode cL_law 458 = .ok (.iadd, 1) := by decide +kernel
theorem dL_law_459 : decode cL_law 459 = .ok (.iaload, 1) := by decide +kernel
theorem dL_law_460 : decode cL_law 460 = .ok (.invokevirtual 51, 3) := by decide +kernel
theorem dL_law_463 : decode cL_law 463 = .ok (.aload_n 2, 1) := by decide +kernel
theorem dL_law_464 : decode cL_law 464 = .ok (.aload_n 0, 1) := by decide +kernel
theorem dL_law_465 : decode cL_law 465 = .ok (.iload_n 3, 1) := by decide +kernel
theorem dL_law_466 : decode cL_law 466 = .ok (.iconst 1, 1) := by decide +kernel
theorem dL_law_467 : decode cL_law 467 = .ok (.iadd, 1) := by decide +kernel
theorem dL_law_468 : decode cL_law 468 = .ok (.iaload, 1) := by decide +kernel
theorem dL_law_469 : decode cL_law 469 = .ok (.aload_n 0, 1) := by decide +kernel
theorem dL_law_470 : decode cL_law 470 = .ok (.iload_n 3, 1) := by decide +kernel
theorem dL_law_471 : decode cL_law 471 = .ok (.iconst 2, 1) := by decide +kernel
theorem dL_law_472 : decode cL_law 472 = .ok (.iadd, 1) := by decide +kernel
theorem dL_law_473 : decode cL_law 473 = .ok (.iaload, 1) := by decide +kernel
theorem dL_law_474 : decode cL_law 474 = .ok (.invokevirtual 54, 3) := by decide +kernel
theorem dL_law_477 : decode cL_law 477 = .ok (.if_icmp .eq 1000, 3) := by decide +kernel
theorem dL_law_482 : decode cL_law 482 = .ok (.aload_n 1, 1) := by decide +kernel
theorem dL_law_483 : decode cL_law 483 = .ok (.aload_n 0, 1) := by decide +kernel
theorem dL_law_484 : decode cL_law 484 = .ok (.iload_n 3, 1) := by decide +kernel
theorem dL_law_485 : decode cL_law 485 = .ok (.iconst 1, 1) := by decide +kernel
theorem dL_law_486 : decode cL_law 486 = .ok (.iadd, 1) := by decide +kernel
theorem dL_law_487 : decode cL_law 487 = .ok (.iaload, 1) := by decide +kernel
theorem dL_law_488 : decode cL_law 488 = .ok (.aload_n 0, 1) := by decide +kernel
theorem dL_law_489 : decode cL_law 489 = .ok (.iload_n 3, 1) := by decide +kernel
theorem dL_law_490 : decode cL_law 490 = .ok (.iconst 2, 1) := by decide +kernel
theorem dL_law_491 : decode cL_law 491 = .ok (.iadd, 1) := by decide +kernel
theorem dL_law_492 : decode cL_law 492 = .ok (.iaload, 1) := by decide +kernel
theorem dL_law_493 : decode cL_law 493 = .ok (.invokevirtual 55, 3) := by decide +kernel
theorem dL_law_496 : decode cL_law 496 = .ok (.aload_n 2, 1) := by decide +kernel
theorem dL_law_497 : decode cL_law 497 = .ok (.aload_n 0, 1) := by decide +kernel
theorem dL_law_498 : decode cL_law 498 = .ok (.iload_n 3, 1) := by decide +kernel
theorem dL_law_499 : decode cL_law 499 = .ok (.iconst 1, 1) := by decide +kernel
theorem dL_law_500 : decode cL_law 500 = .ok (.iadd, 1) := by decide +kernel
theorem dL_law_501 : decode cL_law 501 = .ok (.iaload, 1) := by decide +kernel
theorem dL_law_502 : decode cL_law 502 = .ok (.aload_n 0, 1) := by decide +kernel
theorem dL_law_503 : decode cL_law 503 = .ok (.iload_n 3, 1) := by decide +kernel
theorem dL_law_504 : decode cL_law 504 = .ok (.iconst 2, 1) := by decide +kernel
theorem dL_law_505 : decode cL_law 505 = .ok (.iadd, 1) := by decide +kernel
theorem dL_law_506 : decode cL_law 506 = .ok (.iaload, 1) := by decide +kernel
theorem dL_law_507 : decode cL_law 507 = .ok (.invokevirtual 58, 3) := by decide +kernel
theorem dL_law_510 : decode cL_law 510 = .ok (.if_icmp .eq 967, 3) := by decide +kernel
theorem dL_law_515 : decode cL_law 515 = .ok (.aload_n 1, 1) := by decide +kernel
theorem dL_law_516 : decode cL_law 516 = .ok (.aload_n 0, 1) := by decide +kernel
theorem dL_law_517 : decode cL_law 517 = .ok (.iload_n 3, 1) := by decide +kernel
theorem dL_law_518 : decode cL_law 518 = .ok (.iconst 1, 1) := by decide +kernel
theorem dL_law_519 : decode cL_law 519 = .ok (.iadd, 1) := by decide +kernel
theorem dL_law_520 : decode cL_law 520 = .ok (.iaload, 1) := by decide +kernel
theorem dL_law_521 : decode cL_law 521 = .ok (.invokevirtual 59, 3) := by decide +kernel
theorem dL_law_524 : decode cL_law 524 = .ok (.aload_n 2, 1) := by decide +kernel
theorem dL_law_525 : decode cL_law 525 = .ok (.aload_n 0, 1) := by decide +kernel
theorem dL_law_526 : decode cL_law 526 = .ok (.iload_n 3, 1) := by decide +kernel
theorem dL_law_527 : decode cL_law 527 = .ok (.iconst 1, 1) := by decide +kernel
theorem dL_law_528 : decode cL_law 528 = .ok (.iadd, 1) := by decide +kernel
theorem dL_law_529 : decode cL_law 529 = .ok (.iaload, 1) := by decide +kernel
theorem dL_law_530 : decode cL_law 530 = .ok (.invokevirtual 62, 3) := by decide +kernel
theorem dL_law_533 : decode cL_law 533 = .ok (.if_icmp .eq 944, 3) := by decide +kernel
theorem dL_law_538 : decode cL_law 538 = .ok (.aload_n 1, 1) := by decide +kernel
theorem dL_law_539 : decode cL_law 539 = .ok (.aload_n 0, 1) := by decide +kernel
theorem dL_law_540 : decode cL_law 540 = .ok (.iload_n 3, 1) := by decide +kernel
theorem dL_law_541 : decode cL_law 541 = .ok (.iconst 1, 1) := by decide +kernel
theorem dL_law_542 : decode cL_law 542 = .ok (.iadd, 1) := by decide +kernel
theorem dL_law_543 : decode cL_law 543 = .ok (.iaload, 1) := by decide +kernel
theorem dL_law_544 : decode cL_law 544 = .ok (.aload_n 0, 1) := by decide +kernel
theorem dL_law_545 : decode cL_law 545 = .ok (.iload_n 3, 1) := by decide +kernel
theorem dL_law_546 : decode cL_law 546 = .ok (.iconst 2, 1) := by decide +kernel
theorem dL_law_547 : decode cL_law 547 = .ok (.iadd, 1) := by decide +kernel
theorem dL_law_548 : decode cL_law 548 = .ok (.iaload, 1) := by decide +kernel
theorem dL_law_549 : decode cL_law 549 = .ok (.invokevirtual 63, 3) := by decide +kernel
theorem dL_law_552 : decode cL_law 552 = .ok (.aload_n 2, 1) := by decide +kernel
theorem dL_law_553 : decode cL_law 553 = .ok (.aload_n 0, 1) := by decide +kernel
theorem dL_law_554 : decode cL_law 554 = .ok (.iload_n 3, 1) := by decide +kernel
theorem dL_law_555 : decode cL_law 555 = .ok (.iconst 1, 1) := by decide +kernel
theorem dL_law_556 : decode cL_law 556 = .ok (.iadd, 1) := by decide +kernel
theorem dL_law_557 : decode cL_law 557 = .ok (.iaload, 1) := by decide +kernel
theorem dL_law_558 : decode cL_law 558 = .ok (.aload_n 0, 1) := by decide +kernel
theorem dL_law_559 : decode cL_law 559 = .ok (.iload_n 3, 1) := by decide +kernel
theorem dL_law_560 : decode cL_law 560 = .ok (.iconst 2, 1) := by decide +kernel
theorem dL_law_561 : decode cL_law 561 = .ok (.iadd, 1) := by decide +kernel
theorem dL_law_562 : decode cL_law 562 = .ok (.iaload, 1) := by decide +kernel
theorem dL_law_563 : decode cL_law 563 = .ok (.invokevirtual 66, 3) := by decide +kernel
theorem dL_law_566 : decode cL_law 566 = .ok (.if_icmp .eq 911, 3) := by decide +kernel
theorem dL_law_571 : decode cL_law 571 = .ok (.aload_n 1, 1) := by decide +kernel
theorem dL_law_572 : decode cL_law 572 = .ok (.aload_n 0, 1) := by decide +kernel
theorem dL_law_573 : decode cL_law 573 = .ok (.iload_n 3, 1) := by decide +kernel
theorem dL_law_574 : decode cL_law 574 = .ok (.iconst 1, 1) := by decide +kernel
theorem dL_law_575 : decode cL_law 575 = .ok (.iadd, 1) := by decide +kernel
theorem dL_law_576 : decode cL_law 576 = .ok (.iaload, 1) := by decide +kernel
theorem dL_law_577 : decode cL_law 577 = .ok (.aload_n 0, 1) := by decide +kernel
theorem dL_law_578 : decode cL_law 578 = .ok (.iload_n 3, 1) := by decide +kernel
theorem dL_law_579 : decode cL_law 579 = .ok (.iconst 2, 1) := by decide +kernel
theorem dL_law_580 : decode cL_law 580 = .ok (.iadd, 1) := by decide +kernel
theorem dL_law_581 : decode cL_law 581 = .ok (.iaload, 1) := by decide +kernel
theorem dL_law_582 : decode cL_law 582 = .ok (.invokevirtual 67, 3) := by decide +kernel
theorem dL_law_585 : decode cL_law 585 = .ok (.aload_n 2, 1) := by decide +kernel
theorem dL_law_586 : decode cL_law 586 = .ok (.aload_n 0, 1) := by decide +kernel
theorem dL_law_587 : decode cL_law 587 = .ok (.iload_n 3, 1) := by decide +kernel
theorem dL_law_588 : decode cL_law 588 = .ok (.iconst 1, 1) := by decide +kernel
theorem dL_law_589 : decode cL_law 589 = .ok (.iadd, 1) := by decide +kernel
theorem dL_law_590 : decode cL_law 590 = .ok (.iaload, 1) := by decide +kernel
theorem dL_law_591 : decode cL_law 591 = .ok (.aload_n 0, 1) := by decide +kernel
theorem dL_law_592 : decode cL_law 592 = .ok (.iload_n 3, 1) := by decide +kernel
theorem dL_law_593 : decode cL_law 593 = .ok (.iconst 2, 1) := by decide +kernel
theorem dL_law_594 : decode cL_law 594 = .ok (.iadd, 1) := by decide +kernel
theorem dL_law_595 : decode cL_law 595 = .ok (.iaload, 1) := by decide +kernel
theorem dL_law_596 : decode cL_law 596 = .ok (.invokevirtual 70, 3) := by decide +kernel
theorem dL_law_599 : decode cL_law 599 = .ok (.if_icmp .eq 878, 3) := by decide +kernel
theorem dL_law_604 : decode cL_law 604 = .ok (.aload_n 1, 1) := by decide +kernel
theorem dL_law_605 : decode cL_law 605 = .ok (.aload_n 0, 1) := by decide +kernel
theorem dL_law_606 : decode cL_law 606 = .ok (.iload_n 3, 1) := by decide +kernel
theorem dL_law_607 : decode cL_law 607 = .ok (.iconst 1, 1) := by decide +kernel
theorem dL_law_608 : decode cL_law 608 = .ok (.iadd, 1) := by decide +kernel
theorem dL_law_609 : decode cL_law 609 = .ok (.iaload, 1) := by decide +kernel
theorem dL_law_610 : decode cL_law 610 = .ok (.invokevirtual 71, 3) := by decide +kernel
theorem dL_law_613 : decode cL_law 613 = .ok (.aload_n 2, 1) := by decide +kernel
theorem dL_law_614 : decode cL_law 614 = .ok (.aload_n 0, 1) := by decide +kernel
theorem dL_law_615 : decode cL_law 615 = .ok (.iload_n 3, 1) := by decide +kernel
theorem dL_law_616 : decode cL_law 616 = .ok (.iconst 1, 1) := by decide +kernel
theorem dL_law_617 : decode cL_law 617 = .ok (.iadd, 1) := by decide +kernel
theorem dL_law_618 : decode cL_law 618 = .ok (.iaload, 1) := by decide +kernel
theorem dL_law_619 : decode cL_law 619 = .ok (.invokevirtual 74, 3) := by decide +kernel
theorem dL_law_622 : decode cL_law 622 = .ok (.if_icmp .eq 855, 3) := by decide +kernel
theorem dL_law_627 : decode cL_law 627 = .ok (.aload_n 1, 1) := by decide +kernel
theorem dL_law_628 : decode cL_law 628 = .ok (.aload_n 0, 1) := by decide +kernel
theorem dL_law_629 : decode cL_law 629 = .ok (.iload_n 3, 1) := by decide +kernel
theorem dL_law_630 : decode cL_law 630 = .ok (.iconst 1, 1) := by decide +kernel
theorem dL_law_631 : decode cL_law 631 = .ok (.iadd, 1) := by decide +kernel
theorem dL_law_632 : decode cL_law 632 = .ok (.iaload, 1) := by decide +kernel
theorem dL_law_633 : decode cL_law 633 = .ok (.invokevirtual 75, 3) := by decide +kernel
theorem dL_law_636 : decode cL_law 636 = .ok (.aload_n 2, 1) := by decide +kernel
theorem dL_law_637 : decode cL_law 637 = .ok (.aload_n 0, 1) := by decide +kernel
theorem dL_law_638 : decode cL_law 638 = .ok (.iload_n 3, 1) := by decide +kernel
theorem dL_law_639 : decode cL_law 639 = .ok (.iconst 1, 1) := by decide +kernel
theorem dL_law_640 : decode cL_law 640 = .ok (.iadd, 1) := by decide +kernel
theorem dL_law_641 : decode cL_law 641 = .ok (.iaload, 1) := by decide +kernel
theorem dL_law_642 : decode cL_law 642 = .ok (.invokevirtual 78, 3) := by decide +kernel
theorem dL_law_645 : decode cL_law 645 = .ok (.if_icmp .eq 832, 3) := by decide +kernel
theorem dL_law_650 : decode cL_law 650 = .ok (.aload_n 1, 1) := by decide +kernel
theorem dL_law_651 : decode cL_law 651 = .ok (.aload_n 0, 1) := by decide +kernel
theorem dL_law_652 : decode cL_law 652 = .ok (.iload_n 3, 1) := by decide +kernel
theorem dL_law_653 : decode cL_law 653 = .ok (.iconst 1, 1) := by decide +kernel
theorem dL_law_654 : decode cL_law 654 = .ok (.iadd, 1) := by decide +kernel
theorem dL_law_655 : decode cL_law 655 = .ok (.iaload, 1) := by decide +kernel
theorem dL_law_656 : decode cL_law 656 = .ok (.aload_n 0, 1) := by decide +kernel
theorem dL_law_657 : decode cL_law 657 = .ok (.iload_n 3, 1) := by decide +kernel
theorem dL_law_658 : decode cL_law 658 = .ok (.iconst 2, 1) := by decide +kernel
theorem dL_law_659 : decode cL_law 659 = .ok (.iadd, 1) := by decide +kernel
theorem dL_law_660 : decode cL_law 660 = .ok (.iaload, 1) := by decide +kernel
theorem dL_law_661 : decode cL_law 661 = .ok (.invokevirtual 79, 3) := by decide +kernel
theorem dL_law_664 : decode cL_law 664 = .ok (.aload_n 2, 1) := by decide +kernel
theorem dL_law_665 : decode cL_law 665 = .ok (.aload_n 0, 1) := by decide +kernel
theorem dL_law_666 : decode cL_law 666 = .ok (.iload_n 3, 1) := by decide +kernel
theorem dL_law_667 : decode cL_law 667 = .ok (.iconst 1, 1) := by decide +kernel
theorem dL_law_668 : decode cL_law 668 = .ok (.iadd, 1) := by decide +kernel
theorem dL_law_669 : decode cL_law 669 = .ok (.iaload, 1) := by decide +kernel
theorem dL_law_670 : decode cL_law 670 = .ok (.aload_n 0, 1) := by decide +kernel
theorem dL_law_671 : decode cL_law 671 = .ok (.iload_n 3, 1) := by decide +kernel
theorem dL_law_672 : decode cL_law 672 = .ok (.iconst 2, 1) := by decide +kernel
theorem dL_law_673 : decode cL_law 673 = .ok (.iadd, 1) := by decide +kernel
theorem dL_law_674 : decode cL_law 674 = .ok (.iaload, 1) := by decide +kernel
theorem dL_law_675 : decode cL_law 675 = .ok (.invokevirtual 82, 3) := by decide +kernel
theorem dL_law_678 : decode cL_law 678 = .ok (.if_icmp .eq 799, 3) := by decide +kernel
theorem dL_law_683 : decode cL_law 683 = .ok (.aload_n 1, 1) := by decide +kernel
theorem dL_law_684 : decode cL_law 684 = .ok (.aload_n 0, 1) := by decide +kernel
theorem dL_law_685 : decode cL_law 685 = .ok (.iload_n 3, 1) := by decide +kernel
theorem dL_law_686 : decode cL_law 686 = .ok (.iconst 1, 1) := by decide +kernel
theorem dL_law_687 : decode cL_law 687 = .ok (.iadd, 1) := by decide +kernel
theorem dL_law_688 : decode cL_law 688 = .ok (.iaload, 1) := by decide +kernel
theorem dL_law_689 : decode cL_law 689 = .ok (.aload_n 0, 1) := by decide +kernel
theorem dL_law_690 : decode cL_law 690 = .ok (.iload_n 3, 1) := by decide +kernel
theorem dL_law_691 : decode cL_law 691 = .ok (.iconst 2, 1) := by decide +kernel
theorem dL_law_692 : decode cL_law 692 = .ok (.iadd, 1) := by decide +kernel
theorem dL_law_693 : decode cL_law 693 = .ok (.iaload, 1) := by decide +kernel
theorem dL_law_694 : decode cL_law 694 = .ok (.invokevirtual 83, 3) := by decide +kernel
theorem dL_law_697 : decode cL_law 697 = .ok (.aload_n 2, 1) := by decide +kernel
theorem dL_law_698 : decode cL_law 698 = .ok (.aload_n 0, 1) := by decide +kernel
theorem dL_law_699 : decode cL_law 699 = .ok (.iload_n 3, 1) := by decide +kernel
theorem dL_law_700 : decode cL_law 700 = .ok (.iconst 1, 1) := by decide +kernel
theorem dL_law_701 : decode cL_law 701 = .ok (.iadd, 1) := by decide +kernel
theorem dL_law_702 : decode cL_law 702 = .ok (.iaload, 1) := by decide +kernel
theorem dL_law_703 : decode cL_law 703 = .ok (.aload_n 0, 1) := by decide +kernel
theorem dL_law_704 : decode cL_law 704 = .ok (.iload_n 3, 1) := by decide +kernel
theorem dL_law_705 : decode cL_law 705 = .ok (.iconst 2, 1) := by decide +kernel
theorem dL_law_706 : decode cL_law 706 = .ok (.iadd, 1) := by decide +kernel
theorem dL_law_707 : decode cL_law 707 = .ok (.iaload, 1) := by decide +kernel
theorem dL_law_708 : decode cL_law 708 = .ok (.invokevirtual 86, 3) := by decide +kernel
theorem dL_law_711 : decode cL_law 711 = .ok (.if_icmp .eq 766, 3) := by decide +kernel
theorem dL_law_716 : decode cL_law 716 = .ok (.aload_n 1, 1) := by decide +kernel
theorem dL_law_717 : decode cL_law 717 = .ok (.invokevirtual 87, 3) := by decide +kernel
theorem dL_law_720 : decode cL_law 720 = .ok (.aload_n 2, 1) := by decide +kernel
theorem dL_law_721 : decode cL_law 721 = .ok (.invokevirtual 91, 3) := by decide +kernel
theorem dL_law_724 : decode cL_law 724 = .ok (.if_icmp .eq 753, 3) := by decide +kernel
theorem dL_law_729 : decode cL_law 729 = .ok (.aload_n 1, 1) := by decide +kernel
theorem dL_law_730 : decode cL_law 730 = .ok (.aload_n 0, 1) := by decide +kernel
theorem dL_law_731 : decode cL_law 731 = .ok (.iload_n 3, 1) := by decide +kernel
theorem dL_law_732 : decode cL_law 732 = .ok (.iconst 1, 1) := by decide +kernel
theorem dL_law_733 : decode cL_law 733 = .ok (.iadd, 1) := by decide +kernel
theorem dL_law_734 : decode cL_law 734 = .ok (.iaload, 1) := by decide +kernel
theorem dL_law_735 : decode cL_law 735 = .ok (.aload_n 0, 1) := by decide +kernel
theorem dL_law_736 : decode cL_law 736 = .ok (.iload_n 3, 1) := by decide +kernel
theorem dL_law_737 : decode cL_law 737 = .ok (.iconst 2, 1) := by decide +kernel
theorem dL_law_738 : decode cL_law 738 = .ok (.iadd, 1) := by decide +kernel
theorem dL_law_739 : decode cL_law 739 = .ok (.iaload, 1) := by decide +kernel
theorem dL_law_740 : decode cL_law 740 = .ok (.aload_n 0, 1) := by decide +kernel
theorem dL_law_741 : decode cL_law 741 = .ok (.iload_n 3, 1) := by decide +kernel
theorem dL_law_742 : decode cL_law 742 = .ok (.iconst 3, 1) := by decide +kernel
theorem dL_law_743 : decode cL_law 743 = .ok (.iadd, 1) := by decide +kernel
theorem dL_law_744 : decode cL_law 744 = .ok (.iaload, 1) := by decide +kernel
theorem dL_law_745 : decode cL_law 745 = .ok (.invokevirtual 92, 3) := by decide +kernel
theorem dL_law_748 : decode cL_law 748 = .ok (.aload_n 2, 1) := by decide +kernel
theorem dL_law_749 : decode cL_law 749 = .ok (.aload_n 0, 1) := by decide +kernel
theorem dL_law_750 : decode cL_law 750 = .ok (.iload_n 3, 1) := by decide +kernel
theorem dL_law_751 : decode cL_law 751 = .ok (.iconst 1, 1) := by decide +kernel
theorem dL_law_752 : decode cL_law 752 = .ok (.iadd, 1) := by decide +kernel
theorem dL_law_753 : decode cL_law 753 = .ok (.iaload, 1) := by decide +kernel
theorem dL_law_754 : decode cL_law 754 = .ok (.aload_n 0, 1) := by decide +kernel
theorem dL_law_755 : decode cL_law 755 = .ok (.iload_n 3, 1) := by decide +kernel
theorem dL_law_756 : decode cL_law 756 = .ok (.iconst 2, 1) := by decide +kernel
theorem dL_law_757 : decode cL_law 757 = .ok (.iadd, 1) := by decide +kernel
theorem dL_law_758 : decode cL_law 758 = .ok (.iaload, 1) := by decide +kernel
theorem dL_law_759 : decode cL_law 759 = .ok (.aload_n 0, 1) := by decide +kernel
theorem dL_law_760 : decode cL_law 760 = .ok (.iload_n 3, 1) := by decide +kernel
theorem dL_law_761 : decode cL_law 761 = .ok (.iconst 3, 1) := by decide +kernel
theorem dL_law_762 : decode cL_law 762 = .ok (.iadd, 1) := by decide +kernel
theorem dL_law_763 : decode cL_law 763 = .ok (.iaload, 1) := by decide +kernel
theorem dL_law_764 : decode cL_law 764 = .ok (.invokevirtual 96, 3) := by decide +kernel
theorem dL_law_767 : decode cL_law 767 = .ok (.if_icmp .eq 710, 3) := by decide +kernel
theorem dL_law_772 : decode cL_law 772 = .ok (.aload_n 1, 1) := by decide +kernel
theorem dL_law_773 : decode cL_law 773 = .ok (.aload_n 0, 1) := by decide +kernel
theorem dL_law_774 : decode cL_law 774 = .ok (.iload_n 3, 1) := by decide +kernel
theorem dL_law_775 : decode cL_law 775 = .ok (.iconst 1, 1) := by decide +kernel
theorem dL_law_776 : decode cL_law 776 = .ok (.iadd, 1) := by decide +kernel
theorem dL_law_777 : decode cL_law 777 = .ok (.iaload, 1) := by decide +kernel
theorem dL_law_778 : decode cL_law 778 = .ok (.invokevirtual 97, 3) := by decide +kernel
theorem dL_law_781 : decode cL_law 781 = .ok (.aload_n 2, 1) := by decide +kernel
theorem dL_law_782 : decode cL_law 782 = .ok (.aload_n 0, 1) := by decide +kernel
theorem dL_law_783 : decode cL_law 783 = .ok (.iload_n 3, 1) := by decide +kernel
theorem dL_law_784 : decode cL_law 784 = .ok (.iconst 1, 1) := by decide +kernel
theorem dL_law_785 : decode cL_law 785 = .ok (.iadd, 1) := by decide +kernel
theorem dL_law_786 : decode cL_law 786 = .ok (.iaload, 1) := by decide +kernel
theorem dL_law_787 : decode cL_law 787 = .ok (.invokevirtual 100, 3) := by decide +kernel
theorem dL_law_790 : decode cL_law 790 = .ok (.if_icmp .eq 687, 3) := by decide +kernel
theorem dL_law_795 : decode cL_law 795 = .ok (.aload_n 1, 1) := by decide +kernel
theorem dL_law_796 : decode cL_law 796 = .ok (.aload_n 0, 1) := by decide +kernel
theorem dL_law_797 : decode cL_law 797 = .ok (.iload_n 3, 1) := by decide +kernel
theorem dL_law_798 : decode cL_law 798 = .ok (.iconst 1, 1) := by decide +kernel
theorem dL_law_799 : decode cL_law 799 = .ok (.iadd, 1) := by decide +kernel
theorem dL_law_800 : decode cL_law 800 = .ok (.iaload, 1) := by decide +kernel
theorem dL_law_801 : decode cL_law 801 = .ok (.aload_n 0, 1) := by decide +kernel
theorem dL_law_802 : decode cL_law 802 = .ok (.iload_n 3, 1) := by decide +kernel
theorem dL_law_803 : decode cL_law 803 = .ok (.iconst 2, 1) := by decide +kernel
theorem dL_law_804 : decode cL_law 804 = .ok (.iadd, 1) := by decide +kernel
theorem dL_law_805 : decode cL_law 805 = .ok (.iaload, 1) := by decide +kernel
theorem dL_law_806 : decode cL_law 806 = .ok (.invokevirtual 101, 3) := by decide +kernel
theorem dL_law_809 : decode cL_law 809 = .ok (.aload_n 2, 1) := by decide +kernel
theorem dL_law_810 : decode cL_law 810 = .ok (.aload_n 0, 1) := by decide +kernel
theorem dL_law_811 : decode cL_law 811 = .ok (.iload_n 3, 1) := by decide +kernel
theorem dL_law_812 : decode cL_law 812 = .ok (.iconst 1, 1) := by decide +kernel
theorem dL_law_813 : decode cL_law 813 = .ok (.iadd, 1) := by decide +kernel
theorem dL_law_814 : decode cL_law 814 = .ok (.iaload, 1) := by decide +kernel
theorem dL_law_815 : decode cL_law 815 = .ok (.aload_n 0, 1) := by decide +kernel
theorem dL_law_816 : decode cL_law 816 = .ok (.iload_n 3, 1) := by decide +kernel
theorem dL_law_817 : decode cL_law 817 = .ok (.iconst 2, 1) := by decide +kernel
theorem dL_law_818 : decode cL_law 818 = .ok (.iadd, 1) := by decide +kernel
theorem dL_law_819 : decode cL_law 819 = .ok (.iaload, 1) := by decide +kernel
theorem dL_law_820 : decode cL_law 820 = .ok (.invokevirtual 104, 3) := by decide +kernel
theorem dL_law_823 : decode cL_law 823 = .ok (.if_icmp .eq 654, 3) := by decide +kernel
theorem dL_law_828 : decode cL_law 828 = .ok (.aload_n 1, 1) := by decide +kernel
theorem dL_law_829 : decode cL_law 829 = .ok (.aload_n 0, 1) := by decide +kernel
theorem dL_law_830 : decode cL_law 830 = .ok (.iload_n 3, 1) := by decide +kernel
theorem dL_law_831 : decode cL_law 831 = .ok (.iconst 1, 1) := by decide +kernel
theorem dL_law_832 : decode cL_law 832 = .ok (.iadd, 1) := by decide +kernel
theorem dL_law_833 : decode cL_law 833 = .ok (.iaload, 1) := by decide +kernel
theorem dL_law_834 : decode cL_law 834 = .ok (.aload_n 0, 1) := by decide +kernel
theorem dL_law_835 : decode cL_law 835 = .ok (.iload_n 3, 1) := by decide +kernel
theorem dL_law_836 : decode cL_law 836 = .ok (.iconst 2, 1) := by decide +kernel
theorem dL_law_837 : decode cL_law 837 = .ok (.iadd, 1) := by decide +kernel
theorem dL_law_838 : decode cL_law 838 = .ok (.iaload, 1) := by decide +kernel
theorem dL_law_839 : decode cL_law 839 = .ok (.aload_n 0, 1) := by decide +kernel
theorem dL_law_840 : decode cL_law 840 = .ok (.iload_n 3, 1) := by decide +kernel
theorem dL_law_841 : decode cL_law 841 = .ok (.iconst 3, 1) := by decide +kernel
theorem dL_law_842 : decode cL_law 842 = .ok (.iadd, 1) := by decide +kernel
theorem dL_law_843 : decode cL_law 843 = .ok (.iaload, 1) := by decide +kernel
theorem dL_law_844 : decode cL_law 844 = .ok (.invokevirtual 105, 3) := by decide +kernel
theorem dL_law_847 : decode cL_law 847 = .ok (.aload_n 2, 1) := by decide +kernel
theorem dL_law_848 : decode cL_law 848 = .ok (.aload_n 0, 1) := by decide +kernel
theorem dL_law_849 : decode cL_law 849 = .ok (.iload_n 3, 1) := by decide +kernel
theorem dL_law_850 : decode cL_law 850 = .ok (.iconst 1, 1) := by decide +kernel
theorem dL_law_851 : decode cL_law 851 = .ok (.iadd, 1) := by decide +kernel
theorem dL_law_852 : decode cL_law 852 = .ok (.iaload, 1) := by decide +kernel
theorem dL_law_853 : decode cL_law 853 = .ok (.aload_n 0, 1) := by decide +kernel
theorem dL_law_854 : decode cL_law 854 = .ok (.iload_n 3, 1) := by decide +kernel
theorem dL_law_855 : decode cL_law 855 = .ok (.iconst 2, 1) := by decide +kernel
theorem dL_law_856 : decode cL_law 856 = .ok (.iadd, 1) := by decide +kernel
theorem dL_law_857 : decode cL_law 857 = .ok (.iaload, 1) := by decide +kernel
theorem dL_law_858 : decode cL_law 858 = .ok (.aload_n 0, 1) := by decide +kernel
theorem dL_law_859 : decode cL_law 859 = .ok (.iload_n 3, 1) := by decide +kernel
theorem dL_law_860 : decode cL_law 860 = .ok (.iconst 3, 1) := by decide +kernel
theorem dL_law_861 : decode cL_law 861 = .ok (.iadd, 1) := by decide +kernel
theorem dL_law_862 : decode cL_law 862 = .ok (.iaload, 1) := by decide +kernel
theorem dL_law_863 : decode cL_law 863 = .ok (.invokevirtual 108, 3) := by decide +kernel
theorem dL_law_866 : decode cL_law 866 = .ok (.if_icmp .eq 611, 3) := by decide +kernel
theorem dL_law_871 : decode cL_law 871 = .ok (.aload_n 1, 1) := by decide +kernel
theorem dL_law_872 : decode cL_law 872 = .ok (.aload_n 0, 1) := by decide +kernel
theorem dL_law_873 : decode cL_law 873 = .ok (.iload_n 3, 1) := by decide +kernel
theorem dL_law_874 : decode cL_law 874 = .ok (.iconst 1, 1) := by decide +kernel
theorem dL_law_875 : decode cL_law 875 = .ok (.iadd, 1) := by decide +kernel
theorem dL_law_876 : decode cL_law 876 = .ok (.iaload, 1) := by decide +kernel
theorem dL_law_877 : decode cL_law 877 = .ok (.aload_n 0, 1) := by decide +kernel
theorem dL_law_878 : decode cL_law 878 = .ok (.iload_n 3, 1) := by decide +kernel
theorem dL_law_879 : decode cL_law 879 = .ok (.iconst 2, 1) := by decide +kernel
theorem dL_law_880 : decode cL_law 880 = .ok (.iadd, 1) := by decide +kernel
theorem dL_law_881 : decode cL_law 881 = .ok (.iaload, 1) := by decide +kernel
theorem dL_law_882 : decode cL_law 882 = .ok (.aload_n 0, 1) := by decide +kernel
theorem dL_law_883 : decode cL_law 883 = .ok (.iload_n 3, 1) := by decide +kernel
theorem dL_law_884 : decode cL_law 884 = .ok (.iconst 3, 1) := by decide +kernel
theorem dL_law_885 : decode cL_law 885 = .ok (.iadd, 1) := by decide +kernel
theorem dL_law_886 : decode cL_law 886 = .ok (.iaload, 1) := by decide +kernel
theorem dL_law_887 : decode cL_law 887 = .ok (.invokevirtual 109, 3) := by decide +kernel
theorem dL_law_890 : decode cL_law 890 = .ok (.aload_n 2, 1) := by decide +kernel
theorem dL_law_891 : decode cL_law 891 = .ok (.aload_n 0, 1) := by decide +kernel
theorem dL_law_892 : decode cL_law 892 = .ok (.iload_n 3, 1) := by decide +kernel
theorem dL_law_893 : decode cL_law 893 = .ok (.iconst 1, 1) := by decide +kernel
theorem dL_law_894 : decode cL_law 894 = .ok (.iadd, 1) := by decide +kernel
theorem dL_law_895 : decode cL_law 895 = .ok (.iaload, 1) := by decide +kernel
theorem dL_law_896 : decode cL_law 896 = .ok (.aload_n 0, 1) := by decide +kernel
theorem dL_law_897 : decode cL_law 897 = .ok (.iload_n 3, 1) := by decide +kernel
theorem dL_law_898 : decode cL_law 898 = .ok (.iconst 2, 1) := by decide +kernel
theorem dL_law_899 : decode cL_law 899 = .ok (.iadd, 1) := by decide +kernel
theorem dL_law_900 : decode cL_law 900 = .ok (.iaload, 1) := by decide +kernel
theorem dL_law_901 : decode cL_law 901 = .ok (.aload_n 0, 1) := by decide +kernel
theorem dL_law_902 : decode cL_law 902 = .ok (.iload_n 3, 1) := by decide +kernel
theorem dL_law_903 : decode cL_law 903 = .ok (.iconst 3, 1) := by decide +kernel
theorem dL_law_904 : decode cL_law 904 = .ok (.iadd, 1) := by decide +kernel
theorem dL_law_905 : decode cL_law 905 = .ok (.iaload, 1) := by decide +kernel
theorem dL_law_906 : decode cL_law 906 = .ok (.invokevirtual 112, 3) := by decide +kernel
theorem dL_law_909 : decode cL_law 909 = .ok (.if_icmp .eq 568, 3) := by decide +kernel
theorem dL_law_914 : decode cL_law 914 = .ok (.aload_n 1, 1) := by decide +kernel
theorem dL_law_915 : decode cL_law 915 = .ok (.aload_n 0, 1) := by decide +kernel
theorem dL_law_916 : decode cL_law 916 = .ok (.iload_n 3, 1) := by decide +kernel
theorem dL_law_917 : decode cL_law 917 = .ok (.iconst 1, 1) := by decide +kernel
theorem dL_law_918 : decode cL_law 918 = .ok (.iadd, 1) := by decide +kernel
theorem dL_law_919 : decode cL_law 919 = .ok (.iaload, 1) := by decide +kernel
theorem dL_law_920 : decode cL_law 920 = .ok (.aload_n 0, 1) := by decide +kernel
theorem dL_law_921 : decode cL_law 921 = .ok (.iload_n 3, 1) := by decide +kernel
theorem dL_law_922 : decode cL_law 922 = .ok (.iconst 2, 1) := by decide +kernel
theorem dL_law_923 : decode cL_law 923 = .ok (.iadd, 1) := by decide +kernel
theorem dL_law_924 : decode cL_law 924 = .ok (.iaload, 1) := by decide +kernel
theorem dL_law_925 : decode cL_law 925 = .ok (.aload_n 0, 1) := by decide +kernel
theorem dL_law_926 : decode cL_law 926 = .ok (.iload_n 3, 1) := by decide +kernel
theorem dL_law_927 : decode cL_law 927 = .ok (.iconst 3, 1) := by decide +kernel
theorem dL_law_928 : decode cL_law 928 = .ok (.iadd, 1) := by decide +kernel
theorem dL_law_929 : decode cL_law 929 = .ok (.iaload, 1) := by decide +kernel
theorem dL_law_930 : decode cL_law 930 = .ok (.invokevirtual 113, 3) := by decide +kernel
theorem dL_law_933 : decode cL_law 933 = .ok (.aload_n 2, 1) := by decide +kernel
theorem dL_law_934 : decode cL_law 934 = .ok (.aload_n 0, 1) := by decide +kernel
theorem dL_law_935 : decode cL_law 935 = .ok (.iload_n 3, 1) := by decide +kernel
theorem dL_law_936 : decode cL_law 936 = .ok (.iconst 1, 1) := by decide +kernel
theorem dL_law_937 : decode cL_law 937 = .ok (.iadd, 1) := by decide +kernel
theorem dL_law_938 : decode cL_law 938 = .ok (.iaload, 1) := by decide +kernel
theorem dL_law_939 : decode cL_law 939 = .ok (.aload_n 0, 1) := by decide +kernel
theorem dL_law_940 : decode cL_law 940 = .ok (.iload_n 3, 1) := by decide +kernel
theorem dL_law_941 : decode cL_law 941 = .ok (.iconst 2, 1) := by decide +kernel
theorem dL_law_942 : decode cL_law 942 = .ok (.iadd, 1) := by decide +kernel
theorem dL_law_943 : decode cL_law 943 = .ok (.iaload, 1) := by decide +kernel
theorem dL_law_944 : decode cL_law 944 = .ok (.aload_n 0, 1) := by decide +kernel
theorem dL_law_945 : decode cL_law 945 = .ok (.iload_n 3, 1) := by decide +kernel
theorem dL_law_946 : decode cL_law 946 = .ok (.iconst 3, 1) := by decide +kernel
theorem dL_law_947 : decode cL_law 947 = .ok (.iadd, 1) := by decide +kernel
theorem dL_law_948 : decode cL_law 948 = .ok (.iaload, 1) := by decide +kernel
theorem dL_law_949 : decode cL_law 949 = .ok (.invokevirtual 116, 3) := by decide +kernel
theorem dL_law_952 : decode cL_law 952 = .ok (.if_icmp .eq 525, 3) := by decide +kernel
theorem dL_law_957 : decode cL_law 957 = .ok (.aload_n 1, 1) := by decide +kernel
theorem dL_law_958 : decode cL_law 958 = .ok (.aload_n 0, 1) := by decide +kernel
theorem dL_law_959 : decode cL_law 959 = .ok (.iload_n 3, 1) := by decide +kernel
theorem dL_law_960 : decode cL_law 960 = .ok (.iconst 1, 1) := by decide +kernel
theorem dL_law_961 : decode cL_law 961 = .ok (.iadd, 1) := by decide +kernel
theorem dL_law_962 : decode cL_law 962 = .ok (.iaload, 1) := by decide +kernel
theorem dL_law_963 : decode cL_law 963 = .ok (.aload_n 0, 1) := by decide +kernel
theorem dL_law_964 : decode cL_law 964 = .ok (.iload_n 3, 1) := by decide +kernel
theorem dL_law_965 : decode cL_law 965 = .ok (.iconst 2, 1) := by decide +kernel
theorem dL_law_966 : decode cL_law 966 = .ok (.iadd, 1) := by decide +kernel
theorem dL_law_967 : decode cL_law 967 = .ok (.iaload, 1) := by decide +kernel
theorem dL_law_968 : decode cL_law 968 = .ok (.aload_n 0, 1) := by decide +kernel
theorem dL_law_969 : decode cL_law 969 = .ok (.iload_n 3, 1) := by decide +kernel
theorem dL_law_970 : decode cL_law 970 = .ok (.iconst 3, 1) := by decide +kernel
theorem dL_law_971 : decode cL_law 971 = .ok (.iadd, 1) := by decide +kernel
theorem dL_law_972 : decode cL_law 972 = .ok (.iaload, 1) := by decide +kernel
theorem dL_law_973 : decode cL_law 973 = .ok (.invokevirtual 117, 3) := by decide +kernel
theorem dL_law_976 : decode cL_law 976 = .ok (.aload_n 2, 1) := by decide +kernel
theorem dL_law_977 : decode cL_law 977 = .ok (.aload_n 0, 1) := by decide +kernel
theorem dL_law_978 : decode cL_law 978 = .ok (.iload_n 3, 1) := by decide +kernel
theorem dL_law_979 : decode cL_law 979 = .ok (.iconst 1, 1) := by decide +kernel
theorem dL_law_980 : decode cL_law 980 = .ok (.iadd, 1) := by decide +kernel
theorem dL_law_981 : decode cL_law 981 = .ok (.iaload, 1) := by decide +kernel
theorem dL_law_982 : decode cL_law 982 = .ok (.aload_n 0, 1) := by decide +kernel
theorem dL_law_983 : decode cL_law 983 = .ok (.iload_n 3, 1) := by decide +kernel
theorem dL_law_984 : decode cL_law 984 = .ok (.iconst 2, 1) := by decide +kernel
theorem dL_law_985 : decode cL_law 985 = .ok (.iadd, 1) := by decide +kernel
theorem dL_law_986 : decode cL_law 986 = .ok (.iaload, 1) := by decide +kernel
theorem dL_law_987 : decode cL_law 987 = .ok (.aload_n 0, 1) := by decide +kernel
theorem dL_law_988 : decode cL_law 988 = .ok (.iload_n 3, 1) := by decide +kernel
theorem dL_law_989 : decode cL_law 989 = .ok (.iconst 3, 1) := by decide +kernel
theorem dL_law_990 : decode cL_law 990 = .ok (.iadd, 1) := by decide +kernel
theorem dL_law_991 : decode cL_law 991 = .ok (.iaload, 1) := by decide +kernel
theorem dL_law_992 : decode cL_law 992 = .ok (.invokevirtual 120, 3) := by decide +kernel
theorem dL_law_995 : decode cL_law 995 = .ok (.if_icmp .eq 482, 3) := by decide +kernel
theorem dL_law_1000 : decode cL_law 1000 = .ok (.aload_n 1, 1) := by decide +kernel
theorem dL_law_1001 : decode cL_law 1001 = .ok (.invokevirtual 121, 3) := by decide +kernel
theorem dL_law_1004 : decode cL_law 1004 = .ok (.aload_n 2, 1) := by decide +kernel
theorem dL_law_1005 : decode cL_law 1005 = .ok (.invokevirtual 124, 3) := by decide +kernel
theorem dL_law_1008 : decode cL_law 1008 = .ok (.if_icmp .eq 469, 3) := by decide +kernel
theorem dL_law_1013 : decode cL_law 1013 = .ok (.aload_n 1, 1) := by decide +kernel
theorem dL_law_1014 : decode cL_law 1014 = .ok (.aload_n 0, 1) := by decide +kernel
theorem dL_law_1015 : decode cL_law 1015 = .ok (.iload_n 3, 1) := by decide +kernel
theorem dL_law_1016 : decode cL_law 1016 = .ok (.iconst 1, 1) := by decide +kernel
theorem dL_law_1017 : decode cL_law 1017 = .ok (.iadd, 1) := by decide +kernel
theorem dL_law_1018 : decode cL_law 1018 = .ok (.iaload, 1) := by decide +kernel
theorem dL_law_1019 : decode cL_law 1019 = .ok (.invokevirtual 125, 3) := by decide +kernel
theorem dL_law_1022 : decode cL_law 1022 = .ok (.aload_n 2, 1) := by decide +kernel
theorem dL_law_1023 : decode cL_law 1023 = .ok (.aload_n 0, 1) := by decide +kernel
theorem dL_law_1024 : decode cL_law 1024 = .ok (.iload_n 3, 1) := by decide +kernel
theorem dL_law_1025 : decode cL_law 1025 = .ok (.iconst 1, 1) := by decide +kernel
theorem dL_law_1026 : decode cL_law 1026 = .ok (.iadd, 1) := by decide +kernel
theorem dL_law_1027 : decode cL_law 1027 = .ok (.iaload, 1) := by decide +kernel
theorem dL_law_1028 : decode cL_law 1028 = .ok (.invokevirtual 128, 3) := by decide +kernel
theorem dL_law_1031 : decode cL_law 1031 = .ok (.if_icmp .eq 446, 3) := by decide +kernel
theorem dL_law_1036 : decode cL_law 1036 = .ok (.aload_n 1, 1) := by decide +kernel
theorem dL_law_1037 : decode cL_law 1037 = .ok (.aload_n 0, 1) := by decide +kernel
theorem dL_law_1038 : decode cL_law 1038 = .ok (.iload_n 3, 1) := by decide +kernel
theorem dL_law_1039 : decode cL_law 1039 = .ok (.iconst 1, 1) := by decide +kernel
theorem dL_law_1040 : decode cL_law 1040 = .ok (.iadd, 1) := by decide +kernel
theorem dL_law_1041 : decode cL_law 1041 = .ok (.iaload, 1) := by decide +kernel
theorem dL_law_1042 : decode cL_law 1042 = .ok (.invokevirtual 129, 3) := by decide +kernel
theorem dL_law_1045 : decode cL_law 1045 = .ok (.aload_n 2, 1) := by decide +kernel
theorem dL_law_1046 : decode cL_law 1046 = .ok (.aload_n 0, 1) := by decide +kernel
theorem dL_law_1047 : decode cL_law 1047 = .ok (.iload_n 3, 1) := by decide +kernel
theorem dL_law_1048 : decode cL_law 1048 = .ok (.iconst 1, 1) := by decide +kernel
theorem dL_law_1049 : decode cL_law 1049 = .ok (.iadd, 1) := by decide +kernel
theorem dL_law_1050 : decode cL_law 1050 = .ok (.iaload, 1) := by decide +kernel
theorem dL_law_1051 : decode cL_law 1051 = .ok (.invokevirtual 132, 3) := by decide +kernel
theorem dL_law_1054 : decode cL_law 1054 = .ok (.if_icmp .eq 423, 3) := by decide +kernel
theorem dL_law_1059 : decode cL_law 1059 = .ok (.aload_n 1, 1) := by decide +kernel
theorem dL_law_1060 : decode cL_law 1060 = .ok (.invokevirtual 133, 3) := by decide +kernel
theorem dL_law_1063 : decode cL_law 1063 = .ok (.aload_n 2, 1) := by decide +kernel
theorem dL_law_1064 : decode cL_law 1064 = .ok (.invokevirtual 136, 3) := by decide +kernel
theorem dL_law_1067 : decode cL_law 1067 = .ok (.if_icmp .eq 410, 3) := by decide +kernel
theorem dL_law_1072 : decode cL_law 1072 = .ok (.aload_n 1, 1) := by decide +kernel
theorem dL_law_1073 : decode cL_law 1073 = .ok (.aload_n 0, 1) := by decide +kernel
theorem dL_law_1074 : decode cL_law 1074 = .ok (.iload_n 3, 1) := by decide +kernel
theorem dL_law_1075 : decode cL_law 1075 = .ok (.iconst 1, 1) := by decide +kernel
theorem dL_law_1076 : decode cL_law 1076 = .ok (.iadd, 1) := by decide +kernel
theorem dL_law_1077 : decode cL_law 1077 = .ok (.iaload, 1) := by decide +kernel
theorem dL_law_1078 : decode cL_law 1078 = .ok (.invokevirtual 137, 3) := by decide +kernel
theorem dL_law_1081 : decode cL_law 1081 = .ok (.aload_n 2, 1) := by decide +kernel
theorem dL_law_1082 : decode cL_law 1082 = .ok (.aload_n 0, 1) := by decide +kernel
theorem dL_law_1083 : decode cL_law 1083 = .ok (.iload_n 3, 1) := by decide +kernel
theorem dL_law_1084 : decode cL_law 1084 = .ok (.iconst 1, 1) := by decide +kernel
theorem dL_law_1085 : decode cL_law 1085 = .ok (.iadd, 1) := by decide +kernel
theorem dL_law_1086 : decode cL_law 1086 = .ok (.iaload, 1) := by decide +kernel
theorem dL_law_1087 : decode cL_law 1087 = .ok (.invokevirtual 140, 3) := by decide +kernel
theorem dL_law_1090 : decode cL_law 1090 = .ok (.if_icmp .eq 387, 3) := by decide +kernel
theorem dL_law_1095 : decode cL_law 1095 = .ok (.aload_n 1, 1) := by decide +kernel
theorem dL_law_1096 : decode cL_law 1096 = .ok (.aload_n 0, 1) := by decide +kernel
theorem dL_law_1097 : decode cL_law 1097 = .ok (.iload_n 3, 1) := by decide +kernel
theorem dL_law_1098 : decode cL_law 1098 = .ok (.iconst 1, 1) := by decide +kernel
theorem dL_law_1099 : decode cL_law 1099 = .ok (.iadd, 1) := by decide +kernel
theorem dL_law_1100 : decode cL_law 1100 = .ok (.iaload, 1) := by decide +kernel
theorem dL_law_1101 : decode cL_law 1101 = .ok (.aload_n 0, 1) := by decide +kernel
theorem dL_law_1102 : decode cL_law 1102 = .ok (.iload_n 3, 1) := by decide +kernel
theorem dL_law_1103 : decode cL_law 1103 = .ok (.iconst 2, 1) := by decide +kernel
theorem dL_law_1104 : decode cL_law 1104 = .ok (.iadd, 1) := by decide +kernel
theorem dL_law_1105 : decode cL_law 1105 = .ok (.iaload, 1) := by decide +kernel
theorem dL_law_1106 : decode cL_law 1106 = .ok (.aload_n 0, 1) := by decide +kernel
theorem dL_law_1107 : decode cL_law 1107 = .ok (.iload_n 3, 1) := by decide +kernel
theorem dL_law_1108 : decode cL_law 1108 = .ok (.iconst 3, 1) := by decide +kernel
theorem dL_law_1109 : decode cL_law 1109 = .ok (.iadd, 1) := by decide +kernel
theorem dL_law_1110 : decode cL_law 1110 = .ok (.iaload, 1) := by decide +kernel
theorem dL_law_1111 : decode cL_law 1111 = .ok (.aload_n 0, 1) := by decide +kernel
theorem dL_law_1112 : decode cL_law 1112 = .ok (.iload_n 3, 1) := by decide +kernel
theorem dL_law_1113 : decode cL_law 1113 = .ok (.iconst 4, 1) := by decide +kernel
theorem dL_law_1114 : decode cL_law 1114 = .ok (.iadd, 1) := by decide +kernel
theorem dL_law_1115 : decode cL_law 1115 = .ok (.iaload, 1) := by decide +kernel
theorem dL_law_1116 : decode cL_law 1116 = .ok (.invokevirtual 141, 3) := by decide +kernel
theorem dL_law_1119 : decode cL_law 1119 = .ok (.aload_n 2, 1) := by decide +kernel
theorem dL_law_1120 : decode cL_law 1120 = .ok (.aload_n 0, 1) := by decide +kernel
theorem dL_law_1121 : decode cL_law 1121 = .ok (.iload_n 3, 1) := by decide +kernel
theorem dL_law_1122 : decode cL_law 1122 = .ok (.iconst 1, 1) := by decide +kernel
theorem dL_law_1123 : decode cL_law 1123 = .ok (.iadd, 1) := by decide +kernel
theorem dL_law_1124 : decode cL_law 1124 = .ok (.iaload, 1) := by decide +kernel
theorem dL_law_1125 : decode cL_law 1125 = .ok (.aload_n 0, 1) := by decide +kernel
theorem dL_law_1126 : decode cL_law 1126 = .ok (.iload_n 3, 1) := by decide +kernel
theorem dL_law_1127 : decode cL_law 1127 = .ok (.iconst 2, 1) := by decide +kernel
theorem dL_law_1128 : decode cL_law 1128 = .ok (.iadd, 1) := by decide +kernel
theorem dL_law_1129 : decode cL_law 1129 = .ok (.iaload, 1) := by decide +kernel
theorem dL_law_1130 : decode cL_law 1130 = .ok (.aload_n 0, 1) := by decide +kernel
theorem dL_law_1131 : decode cL_law 1131 = .ok (.iload_n 3, 1) := by decide +kernel
theorem dL_law_1132 : decode cL_law 1132 = .ok (.iconst 3, 1) := by decide +kernel
theorem dL_law_1133 : decode cL_law 1133 = .ok (.iadd, 1) := by decide +kernel
theorem dL_law_1134 : decode cL_law 1134 = .ok (.iaload, 1) := by decide +kernel
theorem dL_law_1135 : decode cL_law 1135 = .ok (.aload_n 0, 1) := by decide +kernel
theorem dL_law_1136 : decode cL_law 1136 = .ok (.iload_n 3, 1) := by decide +kernel
theorem dL_law_1137 : decode cL_law 1137 = .ok (.iconst 4, 1) := by decide +kernel
theorem dL_law_1138 : decode cL_law 1138 = .ok (.iadd, 1) := by decide +kernel
theorem dL_law_1139 : decode cL_law 1139 = .ok (.iaload, 1) := by decide +kernel
theorem dL_law_1140 : decode cL_law 1140 = .ok (.invokevirtual 145, 3) := by decide +kernel
theorem dL_law_1143 : decode cL_law 1143 = .ok (.lcmp, 1) := by decide +kernel
theorem dL_law_1144 : decode cL_law 1144 = .ok (.ifCond .eq 333, 3) := by decide +kernel
theorem dL_law_1149 : decode cL_law 1149 = .ok (.aload_n 1, 1) := by decide +kernel
theorem dL_law_1150 : decode cL_law 1150 = .ok (.aload_n 0, 1) := by decide +kernel
theorem dL_law_1151 : decode cL_law 1151 = .ok (.iload_n 3, 1) := by decide +kernel
theorem dL_law_1152 : decode cL_law 1152 = .ok (.iconst 1, 1) := by decide +kernel
theorem dL_law_1153 : decode cL_law 1153 = .ok (.iadd, 1) := by decide +kernel
theorem dL_law_1154 : decode cL_law 1154 = .ok (.iaload, 1) := by decide +kernel
theorem dL_law_1155 : decode cL_law 1155 = .ok (.aload_n 0, 1) := by decide +kernel
theorem dL_law_1156 : decode cL_law 1156 = .ok (.iload_n 3, 1) := by decide +kernel
theorem dL_law_1157 : decode cL_law 1157 = .ok (.iconst 2, 1) := by decide +kernel
theorem dL_law_1158 : decode cL_law 1158 = .ok (.iadd, 1) := by decide +kernel
theorem dL_law_1159 : decode cL_law 1159 = .ok (.iaload, 1) := by decide +kernel
theorem dL_law_1160 : decode cL_law 1160 = .ok (.invokevirtual 146, 3) := by decide +kernel
theorem dL_law_1163 : decode cL_law 1163 = .ok (.aload_n 2, 1) := by decide +kernel
theorem dL_law_1164 : decode cL_law 1164 = .ok (.aload_n 0, 1) := by decide +kernel
theorem dL_law_1165 : decode cL_law 1165 = .ok (.iload_n 3, 1) := by decide +kernel
theorem dL_law_1166 : decode cL_law 1166 = .ok (.iconst 1, 1) := by decide +kernel
theorem dL_law_1167 : decode cL_law 1167 = .ok (.iadd, 1) := by decide +kernel
theorem dL_law_1168 : decode cL_law 1168 = .ok (.iaload, 1) := by decide +kernel
theorem dL_law_1169 : decode cL_law 1169 = .ok (.aload_n 0, 1) := by decide +kernel
theorem dL_law_1170 : decode cL_law 1170 = .ok (.iload_n 3, 1) := by decide +kernel
theorem dL_law_1171 : decode cL_law 1171 = .ok (.iconst 2, 1) := by decide +kernel
theorem dL_law_1172 : decode cL_law 1172 = .ok (.iadd, 1) := by decide +kernel
theorem dL_law_1173 : decode cL_law 1173 = .ok (.iaload, 1) := by decide +kernel
theorem dL_law_1174 : decode cL_law 1174 = .ok (.invokevirtual 149, 3) := by decide +kernel
theorem dL_law_1177 : decode cL_law 1177 = .ok (.if_icmp .eq 300, 3) := by decide +kernel
theorem dL_law_1182 : decode cL_law 1182 = .ok (.aload_n 1, 1) := by decide +kernel
theorem dL_law_1183 : decode cL_law 1183 = .ok (.aload_n 0, 1) := by decide +kernel
theorem dL_law_1184 : decode cL_law 1184 = .ok (.iload_n 3, 1) := by decide +kernel
theorem dL_law_1185 : decode cL_law 1185 = .ok (.iconst 1, 1) := by decide +kernel
theorem dL_law_1186 : decode cL_law 1186 = .ok (.iadd, 1) := by decide +kernel
theorem dL_law_1187 : decode cL_law 1187 = .ok (.iaload, 1) := by decide +kernel
theorem dL_law_1188 : decode cL_law 1188 = .ok (.aload_n 0, 1) := by decide +kernel
theorem dL_law_1189 : decode cL_law 1189 = .ok (.iload_n 3, 1) := by decide +kernel
theorem dL_law_1190 : decode cL_law 1190 = .ok (.iconst 2, 1) := by decide +kernel
theorem dL_law_1191 : decode cL_law 1191 = .ok (.iadd, 1) := by decide +kernel
theorem dL_law_1192 : decode cL_law 1192 = .ok (.iaload, 1) := by decide +kernel
theorem dL_law_1193 : decode cL_law 1193 = .ok (.aload_n 0, 1) := by decide +kernel
theorem dL_law_1194 : decode cL_law 1194 = .ok (.iload_n 3, 1) := by decide +kernel
theorem dL_law_1195 : decode cL_law 1195 = .ok (.iconst 3, 1) := by decide +kernel
theorem dL_law_1196 : decode cL_law 1196 = .ok (.iadd, 1) := by decide +kernel
theorem dL_law_1197 : decode cL_law 1197 = .ok (.iaload, 1) := by decide +kernel
theorem dL_law_1198 : decode cL_law 1198 = .ok (.invokevirtual 150, 3) := by decide +kernel
theorem dL_law_1201 : decode cL_law 1201 = .ok (.aload_n 2, 1) := by decide +kernel
theorem dL_law_1202 : decode cL_law 1202 = .ok (.aload_n 0, 1) := by decide +kernel
theorem dL_law_1203 : decode cL_law 1203 = .ok (.iload_n 3, 1) := by decide +kernel
theorem dL_law_1204 : decode cL_law 1204 = .ok (.iconst 1, 1) := by decide +kernel
theorem dL_law_1205 : decode cL_law 1205 = .ok (.iadd, 1) := by decide +kernel
theorem dL_law_1206 : decode cL_law 1206 = .ok (.iaload, 1) := by decide +kernel
theorem dL_law_1207 : decode cL_law 1207 = .ok (.aload_n 0, 1) := by decide +kernel
theorem dL_law_1208 : decode cL_law 1208 = .ok (.iload_n 3, 1) := by decide +kernel
theorem dL_law_1209 : decode cL_law 1209 = .ok (.iconst 2, 1) := by decide +kernel
theorem dL_law_1210 : decode cL_law 1210 = .ok (.iadd, 1) := by decide +kernel
theorem dL_law_1211 : decode cL_law 1211 = .ok (.iaload, 1) := by decide +kernel
theorem dL_law_1212 : decode cL_law 1212 = .ok (.aload_n 0, 1) := by decide +kernel
theorem dL_law_1213 : decode cL_law 1213 = .ok (.iload_n 3, 1) := by decide +kernel
theorem dL_law_1214 : decode cL_law 1214 = .ok (.iconst 3, 1) := by decide +kernel
theorem dL_law_1215 : decode cL_law 1215 = .ok (.iadd, 1) := by decide +kernel
theorem dL_law_1216 : decode cL_law 1216 = .ok (.iaload, 1) := by decide +kernel
theorem dL_law_1217 : decode cL_law 1217 = .ok (.invokevirtual 153, 3) := by decide +kernel
theorem dL_law_1220 : decode cL_law 1220 = .ok (.if_icmp .eq 257, 3) := by decide +kernel
theorem dL_law_1225 : decode cL_law 1225 = .ok (.aload_n 1, 1) := by decide +kernel
theorem dL_law_1226 : decode cL_law 1226 = .ok (.aload_n 0, 1) := by decide +kernel
theorem dL_law_1227 : decode cL_law 1227 = .ok (.iload_n 3, 1) := by decide +kernel
theorem dL_law_1228 : decode cL_law 1228 = .ok (.iconst 1, 1) := by decide +kernel
theorem dL_law_1229 : decode cL_law 1229 = .ok (.iadd, 1) := by decide +kernel
theorem dL_law_1230 : decode cL_law 1230 = .ok (.iaload, 1) := by decide +kernel
theorem dL_law_1231 : decode cL_law 1231 = .ok (.invokevirtual 154, 3) := by decide +kernel
theorem dL_law_1234 : decode cL_law 1234 = .ok (.aload_n 2, 1) := by decide +kernel
theorem dL_law_1235 : decode cL_law 1235 = .ok (.aload_n 0, 1) := by decide +kernel
theorem dL_law_1236 : decode cL_law 1236 = .ok (.iload_n 3, 1) := by decide +kernel
theorem dL_law_1237 : decode cL_law 1237 = .ok (.iconst 1, 1) := by decide +kernel
theorem dL_law_1238 : decode cL_law 1238 = .ok (.iadd, 1) := by decide +kernel
theorem dL_law_1239 : decode cL_law 1239 = .ok (.iaload, 1) := by decide +kernel
theorem dL_law_1240 : decode cL_law 1240 = .ok (.invokevirtual 157, 3) := by decide +kernel
theorem dL_law_1243 : decode cL_law 1243 = .ok (.if_icmp .eq 234, 3) := by decide +kernel
theorem dL_law_1248 : decode cL_law 1248 = .ok (.aload_n 1, 1) := by decide +kernel
theorem dL_law_1249 : decode cL_law 1249 = .ok (.aload_n 0, 1) := by decide +kernel
theorem dL_law_1250 : decode cL_law 1250 = .ok (.iload_n 3, 1) := by decide +kernel
theorem dL_law_1251 : decode cL_law 1251 = .ok (.iconst 1, 1) := by decide +kernel
theorem dL_law_1252 : decode cL_law 1252 = .ok (.iadd, 1) := by decide +kernel
theorem dL_law_1253 : decode cL_law 1253 = .ok (.iaload, 1) := by decide +kernel
theorem dL_law_1254 : decode cL_law 1254 = .ok (.aload_n 0, 1) := by decide +kernel
theorem dL_law_1255 : decode cL_law 1255 = .ok (.iload_n 3, 1) := by decide +kernel
theorem dL_law_1256 : decode cL_law 1256 = .ok (.iconst 2, 1) := by decide +kernel
theorem dL_law_1257 : decode cL_law 1257 = .ok (.iadd, 1) := by decide +kernel
theorem dL_law_1258 : decode cL_law 1258 = .ok (.iaload, 1) := by decide +kernel
theorem dL_law_1259 : decode cL_law 1259 = .ok (.aload_n 0, 1) := by decide +kernel
theorem dL_law_1260 : decode cL_law 1260 = .ok (.iload_n 3, 1) := by decide +kernel
theorem dL_law_1261 : decode cL_law 1261 = .ok (.iconst 3, 1) := by decide +kernel
theorem dL_law_1262 : decode cL_law 1262 = .ok (.iadd, 1) := by decide +kernel
theorem dL_law_1263 : decode cL_law 1263 = .ok (.iaload, 1) := by decide +kernel
theorem dL_law_1264 : decode cL_law 1264 = .ok (.aload_n 0, 1) := by decide +kernel
theorem dL_law_1265 : decode cL_law 1265 = .ok (.iload_n 3, 1) := by decide +kernel
theorem dL_law_1266 : decode cL_law 1266 = .ok (.iconst 4, 1) := by decide +kernel
theorem dL_law_1267 : decode cL_law 1267 = .ok (.iadd, 1) := by decide +kernel
theorem dL_law_1268 : decode cL_law 1268 = .ok (.iaload, 1) := by decide +kernel
theorem dL_law_1269 : decode cL_law 1269 = .ok (.invokevirtual 158, 3) := by decide +kernel
theorem dL_law_1272 : decode cL_law 1272 = .ok (.aload_n 2, 1) := by decide +kernel
theorem dL_law_1273 : decode cL_law 1273 = .ok (.aload_n 0, 1) := by decide +kernel
theorem dL_law_1274 : decode cL_law 1274 = .ok (.iload_n 3, 1) := by decide +kernel
theorem dL_law_1275 : decode cL_law 1275 = .ok (.iconst 1, 1) := by decide +kernel
theorem dL_law_1276 : decode cL_law 1276 = .ok (.iadd, 1) := by decide +kernel
theorem dL_law_1277 : decode cL_law 1277 = .ok (.iaload, 1) := by decide +kernel
theorem dL_law_1278 : decode cL_law 1278 = .ok (.aload_n 0, 1) := by decide +kernel
theorem dL_law_1279 : decode cL_law 1279 = .ok (.iload_n 3, 1) := by decide +kernel
theorem dL_law_1280 : decode cL_law 1280 = .ok (.iconst 2, 1) := by decide +kernel
theorem dL_law_1281 : decode cL_law 1281 = .ok (.iadd, 1) := by decide +kernel
theorem dL_law_1282 : decode cL_law 1282 = .ok (.iaload, 1) := by decide +kernel
theorem dL_law_1283 : decode cL_law 1283 = .ok (.aload_n 0, 1) := by decide +kernel
theorem dL_law_1284 : decode cL_law 1284 = .ok (.iload_n 3, 1) := by decide +kernel
theorem dL_law_1285 : decode cL_law 1285 = .ok (.iconst 3, 1) := by decide +kernel
theorem dL_law_1286 : decode cL_law 1286 = .ok (.iadd, 1) := by decide +kernel
theorem dL_law_1287 : decode cL_law 1287 = .ok (.iaload, 1) := by decide +kernel
theorem dL_law_1288 : decode cL_law 1288 = .ok (.aload_n 0, 1) := by decide +kernel
theorem dL_law_1289 : decode cL_law 1289 = .ok (.iload_n 3, 1) := by decide +kernel
theorem dL_law_1290 : decode cL_law 1290 = .ok (.iconst 4, 1) := by decide +kernel
theorem dL_law_1291 : decode cL_law 1291 = .ok (.iadd, 1) := by decide +kernel
theorem dL_law_1292 : decode cL_law 1292 = .ok (.iaload, 1) := by decide +kernel
theorem dL_law_1293 : decode cL_law 1293 = .ok (.invokevirtual 162, 3) := by decide +kernel
theorem dL_law_1296 : decode cL_law 1296 = .ok (.if_icmp .eq 181, 3) := by decide +kernel
theorem dL_law_1301 : decode cL_law 1301 = .ok (.aload_n 1, 1) := by decide +kernel
theorem dL_law_1302 : decode cL_law 1302 = .ok (.aload_n 0, 1) := by decide +kernel
theorem dL_law_1303 : decode cL_law 1303 = .ok (.iload_n 3, 1) := by decide +kernel
theorem dL_law_1304 : decode cL_law 1304 = .ok (.iconst 1, 1) := by decide +kernel
theorem dL_law_1305 : decode cL_law 1305 = .ok (.iadd, 1) := by decide +kernel
theorem dL_law_1306 : decode cL_law 1306 = .ok (.iaload, 1) := by decide +kernel
theorem dL_law_1307 : decode cL_law 1307 = .ok (.aload_n 0, 1) := by decide +kernel
theorem dL_law_1308 : decode cL_law 1308 = .ok (.iload_n 3, 1) := by decide +kernel
theorem dL_law_1309 : decode cL_law 1309 = .ok (.iconst 2, 1) := by decide +kernel
theorem dL_law_1310 : decode cL_law 1310 = .ok (.iadd, 1) := by decide +kernel
theorem dL_law_1311 : decode cL_law 1311 = .ok (.iaload, 1) := by decide +kernel
theorem dL_law_1312 : decode cL_law 1312 = .ok (.aload_n 0, 1) := by decide +kernel
theorem dL_law_1313 : decode cL_law 1313 = .ok (.iload_n 3, 1) := by decide +kernel
theorem dL_law_1314 : decode cL_law 1314 = .ok (.iconst 3, 1) := by decide +kernel
theorem dL_law_1315 : decode cL_law 1315 = .ok (.iadd, 1) := by decide +kernel
theorem dL_law_1316 : decode cL_law 1316 = .ok (.iaload, 1) := by decide +kernel
theorem dL_law_1317 : decode cL_law 1317 = .ok (.invokevirtual 163, 3) := by decide +kernel
theorem dL_law_1320 : decode cL_law 1320 = .ok (.aload_n 2, 1) := by decide +kernel
theorem dL_law_1321 : decode cL_law 1321 = .ok (.aload_n 0, 1) := by decide +kernel
theorem dL_law_1322 : decode cL_law 1322 = .ok (.iload_n 3, 1) := by decide +kernel
theorem dL_law_1323 : decode cL_law 1323 = .ok (.iconst 1, 1) := by decide +kernel
theorem dL_law_1324 : decode cL_law 1324 = .ok (.iadd, 1) := by decide +kernel
theorem dL_law_1325 : decode cL_law 1325 = .ok (.iaload, 1) := by decide +kernel
theorem dL_law_1326 : decode cL_law 1326 = .ok (.aload_n 0, 1) := by decide +kernel
theorem dL_law_1327 : decode cL_law 1327 = .ok (.iload_n 3, 1) := by decide +kernel
theorem dL_law_1328 : decode cL_law 1328 = .ok (.iconst 2, 1) := by decide +kernel
theorem dL_law_1329 : decode cL_law 1329 = .ok (.iadd, 1) := by decide +kernel
theorem dL_law_1330 : decode cL_law 1330 = .ok (.iaload, 1) := by decide +kernel
theorem dL_law_1331 : decode cL_law 1331 = .ok (.aload_n 0, 1) := by decide +kernel
theorem dL_law_1332 : decode cL_law 1332 = .ok (.iload_n 3, 1) := by decide +kernel
theorem dL_law_1333 : decode cL_law 1333 = .ok (.iconst 3, 1) := by decide +kernel
theorem dL_law_1334 : decode cL_law 1334 = .ok (.iadd, 1) := by decide +kernel
theorem dL_law_1335 : decode cL_law 1335 = .ok (.iaload, 1) := by decide +kernel
theorem dL_law_1336 : decode cL_law 1336 = .ok (.invokevirtual 166, 3) := by decide +kernel
theorem dL_law_1339 : decode cL_law 1339 = .ok (.if_icmp .eq 138, 3) := by decide +kernel
theorem dL_law_1344 : decode cL_law 1344 = .ok (.aload_n 1, 1) := by decide +kernel
theorem dL_law_1345 : decode cL_law 1345 = .ok (.aload_n 0, 1) := by decide +kernel
theorem dL_law_1346 : decode cL_law 1346 = .ok (.iload_n 3, 1) := by decide +kernel
theorem dL_law_1347 : decode cL_law 1347 = .ok (.iconst 1, 1) := by decide +kernel
theorem dL_law_1348 : decode cL_law 1348 = .ok (.iadd, 1) := by decide +kernel
theorem dL_law_1349 : decode cL_law 1349 = .ok (.iaload, 1) := by decide +kernel
theorem dL_law_1350 : decode cL_law 1350 = .ok (.aload_n 0, 1) := by decide +kernel
theorem dL_law_1351 : decode cL_law 1351 = .ok (.iload_n 3, 1) := by decide +kernel
theorem dL_law_1352 : decode cL_law 1352 = .ok (.iconst 2, 1) := by decide +kernel
theorem dL_law_1353 : decode cL_law 1353 = .ok (.iadd, 1) := by decide +kernel
theorem dL_law_1354 : decode cL_law 1354 = .ok (.iaload, 1) := by decide +kernel
theorem dL_law_1355 : decode cL_law 1355 = .ok (.aload_n 0, 1) := by decide +kernel
theorem dL_law_1356 : decode cL_law 1356 = .ok (.iload_n 3, 1) := by decide +kernel
theorem dL_law_1357 : decode cL_law 1357 = .ok (.iconst 3, 1) := by decide +kernel
theorem dL_law_1358 : decode cL_law 1358 = .ok (.iadd, 1) := by decide +kernel
theorem dL_law_1359 : decode cL_law 1359 = .ok (.iaload, 1) := by decide +kernel
theorem dL_law_1360 : decode cL_law 1360 = .ok (.aload_n 0, 1) := by decide +kernel
theorem dL_law_1361 : decode cL_law 1361 = .ok (.iload_n 3, 1) := by decide +kernel
theorem dL_law_1362 : decode cL_law 1362 = .ok (.iconst 4, 1) := by decide +kernel
theorem dL_law_1363 : decode cL_law 1363 = .ok (.iadd, 1) := by decide +kernel
theorem dL_law_1364 : decode cL_law 1364 = .ok (.iaload, 1) := by decide +kernel
theorem dL_law_1365 : decode cL_law 1365 = .ok (.aload_n 0, 1) := by decide +kernel
theorem dL_law_1366 : decode cL_law 1366 = .ok (.iload_n 3, 1) := by decide +kernel
theorem dL_law_1367 : decode cL_law 1367 = .ok (.iconst 5, 1) := by decide +kernel
theorem dL_law_1368 : decode cL_law 1368 = .ok (.iadd, 1) := by decide +kernel
theorem dL_law_1369 : decode cL_law 1369 = .ok (.iaload, 1) := by decide +kernel
theorem dL_law_1370 : decode cL_law 1370 = .ok (.invokevirtual 167, 3) := by decide +kernel
theorem dL_law_1373 : decode cL_law 1373 = .ok (.aload_n 2, 1) := by decide +kernel
theorem dL_law_1374 : decode cL_law 1374 = .ok (.aload_n 0, 1) := by decide +kernel
theorem dL_law_1375 : decode cL_law 1375 = .ok (.iload_n 3, 1) := by decide +kernel
theorem dL_law_1376 : decode cL_law 1376 = .ok (.iconst 1, 1) := by decide +kernel
theorem dL_law_1377 : decode cL_law 1377 = .ok (.iadd, 1) := by decide +kernel
theorem dL_law_1378 : decode cL_law 1378 = .ok (.iaload, 1) := by decide +kernel
theorem dL_law_1379 : decode cL_law 1379 = .ok (.aload_n 0, 1) := by decide +kernel
theorem dL_law_1380 : decode cL_law 1380 = .ok (.iload_n 3, 1) := by decide +kernel
theorem dL_law_1381 : decode cL_law 1381 = .ok (.iconst 2, 1) := by decide +kernel
theorem dL_law_1382 : decode cL_law 1382 = .ok (.iadd, 1) := by decide +kernel
theorem dL_law_1383 : decode cL_law 1383 = .ok (.iaload, 1) := by decide +kernel
theorem dL_law_1384 : decode cL_law 1384 = .ok (.aload_n 0, 1) := by decide +kernel
theorem dL_law_1385 : decode cL_law 1385 = .ok (.iload_n 3, 1) := by decide +kernel
theorem dL_law_1386 : decode cL_law 1386 = .ok (.iconst 3, 1) := by decide +kernel
theorem dL_law_1387 : decode cL_law 1387 = .ok (.iadd, 1) := by decide +kernel
theorem dL_law_1388 : decode cL_law 1388 = .ok (.iaload, 1) := by decide +kernel
theorem dL_law_1389 : decode cL_law 1389 = .ok (.aload_n 0, 1) := by decide +kernel
theorem dL_law_1390 : decode cL_law 1390 = .ok (.iload_n 3, 1) := by decide +kernel
theorem dL_law_1391 : decode cL_law 1391 = .ok (.iconst 4, 1) := by decide +kernel
theorem dL_law_1392 : decode cL_law 1392 = .ok (.iadd, 1) := by decide +kernel
theorem dL_law_1393 : decode cL_law 1393 = .ok (.iaload, 1) := by decide +kernel
theorem dL_law_1394 : decode cL_law 1394 = .ok (.aload_n 0, 1) := by decide +kernel
theorem dL_law_1395 : decode cL_law 1395 = .ok (.iload_n 3, 1) := by decide +kernel
theorem dL_law_1396 : decode cL_law 1396 = .ok (.iconst 5, 1) := by decide +kernel
theorem dL_law_1397 : decode cL_law 1397 = .ok (.iadd, 1) := by decide +kernel
theorem dL_law_1398 : decode cL_law 1398 = .ok (.iaload, 1) := by decide +kernel
theorem dL_law_1399 : decode cL_law 1399 = .ok (.invokevirtual 171, 3) := by decide +kernel
theorem dL_law_1402 : decode cL_law 1402 = .ok (.if_icmp .eq 75, 3) := by decide +kernel
theorem dL_law_1407 : decode cL_law 1407 = .ok (.aload_n 1, 1) := by decide +kernel
theorem dL_law_1408 : decode cL_law 1408 = .ok (.aload_n 0, 1) := by decide +kernel
theorem dL_law_1409 : decode cL_law 1409 = .ok (.iload_n 3, 1) := by decide +kernel
theorem dL_law_1410 : decode cL_law 1410 = .ok (.iconst 1, 1) := by decide +kernel
theorem dL_law_1411 : decode cL_law 1411 = .ok (.iadd, 1) := by decide +kernel
theorem dL_law_1412 : decode cL_law 1412 = .ok (.iaload, 1) := by decide +kernel
theorem dL_law_1413 : decode cL_law 1413 = .ok (.aload_n 0, 1) := by decide +kernel
theorem dL_law_1414 : decode cL_law 1414 = .ok (.iload_n 3, 1) := by decide +kernel
theorem dL_law_1415 : decode cL_law 1415 = .ok (.iconst 2, 1) := by decide +kernel
theorem dL_law_1416 : decode cL_law 1416 = .ok (.iadd, 1) := by decide +kernel
theorem dL_law_1417 : decode cL_law 1417 = .ok (.iaload, 1) := by decide +kernel
theorem dL_law_1418 : decode cL_law 1418 = .ok (.invokevirtual 172, 3) := by decide +kernel
theorem dL_law_1421 : decode cL_law 1421 = .ok (.aload_n 2, 1) := by decide +kernel
theorem dL_law_1422 : decode cL_law 1422 = .ok (.aload_n 0, 1) := by decide +kernel
theorem dL_law_1423 : decode cL_law 1423 = .ok (.iload_n 3, 1) := by decide +kernel
theorem dL_law_1424 : decode cL_law 1424 = .ok (.iconst 1, 1) := by decide +kernel
theorem dL_law_1425 : decode cL_law 1425 = .ok (.iadd, 1) := by decide +kernel
theorem dL_law_1426 : decode cL_law 1426 = .ok (.iaload, 1) := by decide +kernel
theorem dL_law_1427 : decode cL_law 1427 = .ok (.aload_n 0, 1) := by decide +kernel
theorem dL_law_1428 : decode cL_law 1428 = .ok (.iload_n 3, 1) := by decide +kernel
theorem dL_law_1429 : decode cL_law 1429 = .ok (.iconst 2, 1) := by decide +kernel
theorem dL_law_1430 : decode cL_law 1430 = .ok (.iadd, 1) := by decide +kernel
theorem dL_law_1431 : decode cL_law 1431 = .ok (.iaload, 1) := by decide +kernel
theorem dL_law_1432 : decode cL_law 1432 = .ok (.invokevirtual 175, 3) := by decide +kernel
theorem dL_law_1435 : decode cL_law 1435 = .ok (.if_icmp .eq 42, 3) := by decide +kernel
theorem dL_law_1440 : decode cL_law 1440 = .ok (.aload_n 1, 1) := by decide +kernel
theorem dL_law_1441 : decode cL_law 1441 = .ok (.aload_n 0, 1) := by decide +kernel
theorem dL_law_1442 : decode cL_law 1442 = .ok (.iload_n 3, 1) := by decide +kernel
theorem dL_law_1443 : decode cL_law 1443 = .ok (.iconst 1, 1) := by decide +kernel
theorem dL_law_1444 : decode cL_law 1444 = .ok (.iadd, 1) := by decide +kernel
theorem dL_law_1445 : decode cL_law 1445 = .ok (.iaload, 1) := by decide +kernel
theorem dL_law_1446 : decode cL_law 1446 = .ok (.invokevirtual 176, 3) := by decide +kernel
theorem dL_law_1449 : decode cL_law 1449 = .ok (.aload_n 2, 1) := by decide +kernel
theorem dL_law_1450 : decode cL_law 1450 = .ok (.aload_n 0, 1) := by decide +kernel
theorem dL_law_1451 : decode cL_law 1451 = .ok (.iload_n 3, 1) := by decide +kernel
theorem dL_law_1452 : decode cL_law 1452 = .ok (.iconst 1, 1) := by decide +kernel
theorem dL_law_1453 : decode cL_law 1453 = .ok (.iadd, 1) := by decide +kernel
theorem dL_law_1454 : decode cL_law 1454 = .ok (.iaload, 1) := by decide +kernel
theorem dL_law_1455 : decode cL_law 1455 = .ok (.invokevirtual 179, 3) := by decide +kernel
theorem dL_law_1458 : decode cL_law 1458 = .ok (.if_icmp .eq 19, 3) := by decide +kernel
theorem dL_law_1463 : decode cL_law 1463 = .ok (.aload_n 1, 1) := by decide +kernel
theorem dL_law_1464 : decode cL_law 1464 = .ok (.invokevirtual 180, 3) := by decide +kernel
theorem dL_law_1467 : decode cL_law 1467 = .ok (.aload_n 2, 1) := by decide +kernel
theorem dL_law_1468 : decode cL_law 1468 = .ok (.invokevirtual 184, 3) := by decide +kernel
theorem dL_law_1471 : decode cL_law 1471 = .ok (.lcmp, 1) := by decide +kernel
theorem dL_law_1472 : decode cL_law 1472 = .ok (.ifCond .eq 5, 3) := by decide +kernel
theorem dL_law_1477 : decode cL_law 1477 = .ok (.iinc 3 6, 3) := by decide +kernel
theorem dL_law_1480 : decode cL_law 1480 = .ok (.goto (-1462), 3) := by decide +kernel
theorem dL_law_1483 : decode cL_law 1483 = .ok (.iconst 1, 1) := by decide +kernel
theorem dL_law_1484 : decode cL_law 1484 = .ok (.ireturn, 1) := by decide +kernel
/-! ===== the law ===== -/
abbrev mL_law (nm : String) : fd_M := (⟨"FrostDebtsLaw", nm, "([I)Z"⟩, cL_law, 4, ret)
def fd_EL (g : fd_G) (b L : Nat) (xs : Nat → Int32) : Array Value → State → Prop := fun args s => args = #[Value.ref b] ∧ va_X b L xs s s.heap ∧ b < s.heap.size ∧ s.heap.size = g.2.2.2
def fd_QL : Array Value → State → List Frame → State → Prop := fun args s below => lw_Z below args s
section fd_lawrows
variable {g : fd_G} {M : fd_M} {R : Room} {Q : Array Value → State → List Frame → State → Prop} {pc b L : Nat} {xs : Nat → Int32} {lv : List (Nat × Value)} {st : List Value} {X X' : fd_X} {h h' : fd_H} {cells slots : Nat}
theorem fr_sld {i : Int32} (hd : decode M.2.1 pc = .ok (.iaload, 1)) (hin : fd_in i L = true) (kk : fd_A g M (fd_EL g b L xs) R Q (pc + 1) lv (.int (xs i.toNatClampNeg) :: st) X h cells slots) : fd_A g M (fd_EL g b L xs) R Q pc lv (.int i :: .ref b :: st) X h cells slots := by
  intro p e s m args below meth c C H locs ls hP hz hS hl
  obtain ⟨-, hX, hbl, hsz⟩ := C.2.2.2.2.2.2.2.2.2.2
  exact va_sld C.1 C.2.1 hX hbl (fun q => by have q : g.2.2.2 ≤ b := q; omega) hS (fd_in_p hin) hd (kk p e s m args below meth c C H locs ls hP hz hS hl)
theorem fr_slen (hd : decode M.2.1 pc = .ok (.arraylength, 1)) (kk : fd_A g M (fd_EL g b L xs) R Q (pc + 1) lv (.int (Int32.ofNat L) :: st) X h cells slots) : fd_A g M (fd_EL g b L xs) R Q pc lv (.ref b :: st) X h cells slots := by
  intro p e s m args below meth c C H locs ls hP hz hS hl
  obtain ⟨-, hX, hbl, hsz⟩ := C.2.2.2.2.2.2.2.2.2.2
  exact va_slen C.1 C.2.1 hX hbl (fun q => by have q : g.2.2.2 ≤ b := q; omega) hS hd (kk p e s m args below meth c C H locs ls hP hz hS hl)
theorem fr_lawret {nm : String} (hd : decode cL_law pc = .ok (.ireturn, 1)) (h1 : cells ≤ 600000) (h2 : slots ≤ 7302250) : fd_A g (mL_law nm) (fd_EL g b L xs) room_1 fd_QL pc lv [.int 1] X h cells slots := by
  intro p e s m args below meth c C H locs ls hP hz hS hl
  obtain ⟨hx, hb, -, hr, hlk, -, -, -, -, -, rfl, -, -, hsz⟩ := C
  refine va_forget (fun q hq => by rw [hsz]; exact hS.2.2 q hq) ?_
  refine W.widen h1 h2 ?_
  exact lw_ret hx hb hr hlk hd
theorem fr_conv (h1 : X.1 = X'.1) (hc : ∀ (D : va_G) (z : Nat) (cA : Nat → ClassId) (H : Heap) (a : Nat), a < X.1 → va_at D vwCl (z + a, fd_cell z cA h a (X.2 a)) H → va_at D vwCl (z + a, fd_cell z cA h' a (X'.2 a)) H) {E : Array Value → State → Prop} (kk : fd_A g M E R Q pc lv st X' h' cells slots) : fd_A g M E R Q pc lv st X h cells slots := by
  intro p e s m args below meth c C H locs ls hP hz hS hl
  refine kk p e s m args below meth c C H locs ls (fun k q hq => ?_) (by rw [hz, h1]) hS hl
  obtain ⟨hk, rfl⟩ := fd_w_at hq
  have hk' : k < X.1 := by rw [h1]; exact hk
  exact hc _ _ _ _ k hk' (hP k _ (fd_w_get hk'))
end fd_lawrows
set_option maxRecDepth 100000 in
set_option maxHeartbeats 4000000 in
theorem lc_0 {g : fd_G} {nm : String} {b L : Nat} {xs : Nat → Int32} {hx hm : fd_H} {hx' : fd_H} {hm' : fd_H} {v3 : Int32} {r : Int32} (h1 : fd_in (v3 + (1 : Int32)) L = true) (h2 : fd_in (v3 + (2 : Int32)) L = true) (e1 : fX8_type (xs (v3 + (1 : Int32)).toNatClampNeg) (xs (v3 + (2 : Int32)).toNatClampNeg) hx = some (r, hx')) (e2 : fX9_type (xs (v3 + (1 : Int32)).toNatClampNeg) (xs (v3 + (2 : Int32)).toNatClampNeg) hm = some (r, hm')) (kk : fd_A g (mL_law nm) (fd_EL g b L xs) room_1 fd_QL 1477 [(0, .ref b), (1, .ref (g.2.2.2 + 0)), (2, .ref (g.2.2.2 + 73)), (3, .int v3)] [] fd_X0 (fd_mx hx' hm') 98 1398) : fd_A g (mL_law nm) (fd_EL g b L xs) room_1 fd_QL 212 [(0, .ref b), (1, .ref (g.2.2.2 + 0)), (2, .ref (g.2.2.2 + 73)), (3, .int v3)] [] fd_X0 (fd_mx hx hm) 98 1398 := by
  refine fr_aload_n (pc := 212) dL_law_212 1 rfl rfl ?_
  refine fr_aload_n (pc := 213) dL_law_213 0 rfl rfl ?_
  refine fr_iload_n (pc := 214) dL_law_214 3 rfl rfl ?_
  refine fr_iconst (pc := 215) (v := (1 : Int32)) dL_law_215 (by decide) ?_
  refine fr_iadd (pc := 216) dL_law_216 ?_
  refine fr_sld (pc := 217) dL_law_217 h1 ?_
  refine fr_aload_n (pc := 218) dL_law_218 0 rfl rfl ?_
  refine fr_iload_n (pc := 219) dL_law_219 3 rfl rfl ?_
  refine fr_iconst (pc := 220) (v := (2 : Int32)) dL_law_220 (by decide) ?_
  refine fr_iadd (pc := 221) dL_law_221 ?_
  refine fr_sld (pc := 222) dL_law_222 h2 ?_
  refine fr_callVi (pc := 223) (av := [.int (xs (v3 + (1 : Int32)).toNatClampNeg), .int (xs (v3 + (2 : Int32)).toNatClampNeg)]) dL_law_223 yy_X8_type kw_774 (k := 0) (by decide) rfl rfl rfl rfl (Nat.le_of_ble_eq_true rfl) ⟨Nat.le_of_ble_eq_true rfl, Nat.le_of_ble_eq_true rfl, Nat.le_of_ble_eq_true rfl, Nat.le_of_ble_eq_true rfl⟩ (sX8_type e1) ?_
  refine fr_aload_n (pc := 226) dL_law_226 2 rfl rfl ?_
  refine fr_aload_n (pc := 227) dL_law_227 0 rfl rfl ?_
  refine fr_iload_n (pc := 228) dL_law_228 3 rfl rfl ?_
  refine fr_iconst (pc := 229) (v := (1 : Int32)) dL_law_229 (by decide) ?_
  refine fr_iadd (pc := 230) dL_law_230 ?_
  refine fr_sld (pc := 231) dL_law_231 h1 ?_
  refine fr_aload_n (pc := 232) dL_law_232 0 rfl rfl ?_
  refine fr_iload_n (pc := 233) dL_law_233 3 rfl rfl ?_
  refine fr_iconst (pc := 234) (v := (2 : Int32)) dL_law_234 (by decide) ?_
  refine fr_iadd (pc := 235) dL_law_235 ?_
  refine fr_sld (pc := 236) dL_law_236 h2 ?_
  refine fr_callVi (pc := 237) (av := [.int (xs (v3 + (1 : Int32)).toNatClampNeg), .int (xs (v3 + (2 : Int32)).toNatClampNeg)]) dL_law_237 yy_X9_type kw_778 (k := 73) (by decide) rfl rfl rfl rfl (Nat.le_of_ble_eq_true rfl) ⟨Nat.le_of_ble_eq_true rfl, Nat.le_of_ble_eq_true rfl, Nat.le_of_ble_eq_true rfl, Nat.le_of_ble_eq_true rfl⟩ (sX9_type e2) ?_
  exact fr_icmp_eq (pc := 240) 1477 dL_law_240 (by decide) (fun _ => kk) (fun q => absurd rfl q)
set_option maxRecDepth 100000 in
set_option maxHeartbeats 4000000 in
theorem lc_1 {g : fd_G} {nm : String} {b L : Nat} {xs : Nat → Int32} {hx hm : fd_H} {hx' : fd_H} {hm' : fd_H} {v3 : Int32} {r : Int32} (h1 : fd_in (v3 + (1 : Int32)) L = true) (e1 : fX8_wipe (xs (v3 + (1 : Int32)).toNatClampNeg) hx = some (r, hx')) (e2 : fX9_wipe (xs (v3 + (1 : Int32)).toNatClampNeg) hm = some (r, hm')) (kk : fd_A g (mL_law nm) (fd_EL g b L xs) room_1 fd_QL 1477 [(0, .ref b), (1, .ref (g.2.2.2 + 0)), (2, .ref (g.2.2.2 + 73)), (3, .int v3)] [] fd_X0 (fd_mx hx' hm') 98 1398) : fd_A g (mL_law nm) (fd_EL g b L xs) room_1 fd_QL 245 [(0, .ref b), (1, .ref (g.2.2.2 + 0)), (2, .ref (g.2.2.2 + 73)), (3, .int v3)] [] fd_X0 (fd_mx hx hm) 98 1398 := by
  refine fr_aload_n (pc := 245) dL_law_245 1 rfl rfl ?_
  refine fr_aload_n (pc := 246) dL_law_246 0 rfl rfl ?_
  refine fr_iload_n (pc := 247) dL_law_247 3 rfl rfl ?_
  refine fr_iconst (pc := 248) (v := (1 : Int32)) dL_law_248 (by decide) ?_
  refine fr_iadd (pc := 249) dL_law_249 ?_
  refine fr_sld (pc := 250) dL_law_250 h1 ?_
  refine fr_callVi (pc := 251) (av := [.int (xs (v3 + (1 : Int32)).toNatClampNeg)]) dL_law_251 yy_X8_wipe kw_782 (k := 0) (by decide) rfl rfl rfl rfl (Nat.le_of_ble_eq_true rfl) ⟨Nat.le_of_ble_eq_true rfl, Nat.le_of_ble_eq_true rfl, Nat.le_of_ble_eq_true rfl, Nat.le_of_ble_eq_true rfl⟩ (sX8_wipe e1) ?_
  refine fr_aload_n (pc := 254) dL_law_254 2 rfl rfl ?_
  refine fr_aload_n (pc := 255) dL_law_255 0 rfl rfl ?_
  refine fr_iload_n (pc := 256) dL_law_256 3 rfl rfl ?_
  refine fr_iconst (pc := 257) (v := (1 : Int32)) dL_law_257 (by decide) ?_
  refine fr_iadd (pc := 258) dL_law_258 ?_
  refine fr_sld (pc := 259) dL_law_259 h1 ?_
  refine fr_callVi (pc := 260) (av := [.int (xs (v3 + (1 : Int32)).toNatClampNeg)]) dL_law_260 yy_X9_wipe kw_786 (k := 73) (by decide) rfl rfl rfl rfl (Nat.le_of_ble_eq_true rfl) ⟨Nat.le_of_ble_eq_true rfl, Nat.le_of_ble_eq_true rfl, Nat.le_of_ble_eq_true rfl, Nat.le_of_ble_eq_true rfl⟩ (sX9_wipe e2) ?_
  exact fr_icmp_eq (pc := 263) 1477 dL_law_263 (by decide) (fun _ => kk) (fun q => absurd rfl q)
set_option maxRecDepth 100000 in
set_option maxHeartbeats 4000000 in
theorem lc_2 {g : fd_G} {nm : String} {b L : Nat} {xs : Nat → Int32} {hx hm : fd_H} {hx' : fd_H} {hm' : fd_H} {v3 : Int32} {r : Int32} (h1 : fd_in (v3 + (1 : Int32)) L = true) (e1 : fX8_undo (xs (v3 + (1 : Int32)).toNatClampNeg) hx = some (r, hx')) (e2 : fX9_undo (xs (v3 + (1 : Int32)).toNatClampNeg) hm = some (r, hm')) (kk : fd_A g (mL_law nm) (fd_EL g b L xs) room_1 fd_QL 1477 [(0, .ref b), (1, .ref (g.2.2.2 + 0)), (2, .ref (g.2.2.2 + 73)), (3, .int v3)] [] fd_X0 (fd_mx hx' hm') 98 1398) : fd_A g (mL_law nm) (fd_EL g b L xs) room_1 fd_QL 268 [(0, .ref b), (1, .ref (g.2.2.2 + 0)), (2, .ref (g.2.2.2 + 73)), (3, .int v3)] [] fd_X0 (fd_mx hx hm) 98 1398 := by
  refine fr_aload_n (pc := 268) dL_law_268 1 rfl rfl ?_
  refine fr_aload_n (pc := 269) dL_law_269 0 rfl rfl ?_
  refine fr_iload_n (pc := 270) dL_law_270 3 rfl rfl ?_
  refine fr_iconst (pc := 271) (v := (1 : Int32)) dL_law_271 (by decide) ?_
  refine fr_iadd (pc := 272) dL_law_272 ?_
  refine fr_sld (pc := 273) dL_law_273 h1 ?_
  refine fr_callVi (pc := 274) (av := [.int (xs (v3 + (1 : Int32)).toNatClampNeg)]) dL_law_274 yy_X8_undo kw_790 (k := 0) (by decide) rfl rfl rfl rfl (Nat.le_of_ble_eq_true rfl) ⟨Nat.le_of_ble_eq_true rfl, Nat.le_of_ble_eq_true rfl, Nat.le_of_ble_eq_true rfl, Nat.le_of_ble_eq_true rfl⟩ (sX8_undo e1) ?_
  refine fr_aload_n (pc := 277) dL_law_277 2 rfl rfl ?_
  refine fr_aload_n (pc := 278) dL_law_278 0 rfl rfl ?_
  refine fr_iload_n (pc := 279) dL_law_279 3 rfl rfl ?_
  refine fr_iconst (pc := 280) (v := (1 : Int32)) dL_law_280 (by decide) ?_
  refine fr_iadd (pc := 281) dL_law_281 ?_
  refine fr_sld (pc := 282) dL_law_282 h1 ?_
  refine fr_callVi (pc := 283) (av := [.int (xs (v3 + (1 : Int32)).toNatClampNeg)]) dL_law_283 yy_X9_undo kw_794 (k := 73) (by decide) rfl rfl rfl rfl (Nat.le_of_ble_eq_true rfl) ⟨Nat.le_of_ble_eq_true rfl, Nat.le_of_ble_eq_true rfl, Nat.le_of_ble_eq_true rfl, Nat.le_of_ble_eq_true rfl⟩ (sX9_undo e2) ?_
  exact fr_icmp_eq (pc := 286) 1477 dL_law_286 (by decide) (fun _ => kk) (fun q => absurd rfl q)
set_option maxRecDepth 100000 in
set_option maxHeartbeats 4000000 in
theorem lc_3 {g : fd_G} {nm : String} {b L : Nat} {xs : Nat → Int32} {hx hm : fd_H} {hm' : fd_H} {v3 : Int32} {r : Int32} (h1 : fd_in (v3 + (1 : Int32)) L = true) (e1 : fX8_fault (xs (v3 + (1 : Int32)).toNatClampNeg) hx = some r) (e2 : fX9_fault (xs (v3 + (1 : Int32)).toNatClampNeg) hm = some (r, hm')) (kk : fd_A g (mL_law nm) (fd_EL g b L xs) room_1 fd_QL 1477 [(0, .ref b), (1, .ref (g.2.2.2 + 0)), (2, .ref (g.2.2.2 + 73)), (3, .int v3)] [] fd_X0 (fd_mx hx hm') 98 1398) : fd_A g (mL_law nm) (fd_EL g b L xs) room_1 fd_QL 291 [(0, .ref b), (1, .ref (g.2.2.2 + 0)), (2, .ref (g.2.2.2 + 73)), (3, .int v3)] [] fd_X0 (fd_mx hx hm) 98 1398 := by
  refine fr_aload_n (pc := 291) dL_law_291 1 rfl rfl ?_
  refine fr_aload_n (pc := 292) dL_law_292 0 rfl rfl ?_
  refine fr_iload_n (pc := 293) dL_law_293 3 rfl rfl ?_
  refine fr_iconst (pc := 294) (v := (1 : Int32)) dL_law_294 (by decide) ?_
  refine fr_iadd (pc := 295) dL_law_295 ?_
  refine fr_sld (pc := 296) dL_law_296 h1 ?_
  refine fr_callVi (pc := 297) (av := [.int (xs (v3 + (1 : Int32)).toNatClampNeg)]) dL_law_297 yy_X8_fault kw_795 (k := 0) (by decide) rfl rfl rfl rfl (Nat.le_of_ble_eq_true rfl) ⟨Nat.le_of_ble_eq_true rfl, Nat.le_of_ble_eq_true rfl, Nat.le_of_ble_eq_true rfl, Nat.le_of_ble_eq_true rfl⟩ (sX8_fault e1) ?_
  refine fr_aload_n (pc := 300) dL_law_300 2 rfl rfl ?_
  refine fr_aload_n (pc := 301) dL_law_301 0 rfl rfl ?_
  refine fr_iload_n (pc := 302) dL_law_302 3 rfl rfl ?_
  refine fr_iconst (pc := 303) (v := (1 : Int32)) dL_law_303 (by decide) ?_
  refine fr_iadd (pc := 304) dL_law_304 ?_
  refine fr_sld (pc := 305) dL_law_305 h1 ?_
  refine fr_callVi (pc := 306) (av := [.int (xs (v3 + (1 : Int32)).toNatClampNeg)]) dL_law_306 yy_X9_fault kw_799 (k := 73) (by decide) rfl rfl rfl rfl (Nat.le_of_ble_eq_true rfl) ⟨Nat.le_of_ble_eq_true rfl, Nat.le_of_ble_eq_true rfl, Nat.le_of_ble_eq_true rfl, Nat.le_of_ble_eq_true rfl⟩ (sX9_fault e2) ?_
  exact fr_icmp_eq (pc := 309) 1477 dL_law_309 (by decide) (fun _ => kk) (fun q => absurd rfl q)
set_option maxRecDepth 100000 in
set_option maxHeartbeats 4000000 in
theorem lc_4 {g : fd_G} {nm : String} {b L : Nat} {xs : Nat → Int32} {hx hm : fd_H} {hm' : fd_H} {v3 : Int32} {r : Int32} (h1 : fd_in (v3 + (1 : Int32)) L = true) (h2 : fd_in (v3 + (2 : Int32)) L = true) (e1 : fX8_place (xs (v3 + (1 : Int32)).toNatClampNeg) (xs (v3 + (2 : Int32)).toNatClampNeg) hx = some r) (e2 : fX9_place (xs (v3 + (1 : Int32)).toNatClampNeg) (xs (v3 + (2 : Int32)).toNatClampNeg) hm = some (r, hm')) (kk : fd_A g (mL_law nm) (fd_EL g b L xs) room_1 fd_QL 1477 [(0, .ref b), (1, .ref (g.2.2.2 + 0)), (2, .ref (g.2.2.2 + 73)), (3, .int v3)] [] fd_X0 (fd_mx hx hm') 98 1398) : fd_A g (mL_law nm) (fd_EL g b L xs) room_1 fd_QL 314 [(0, .ref b), (1, .ref (g.2.2.2 + 0)), (2, .ref (g.2.2.2 + 73)), (3, .int v3)] [] fd_X0 (fd_mx hx hm) 98 1398 := by
  refine fr_aload_n (pc := 314) dL_law_314 1 rfl rfl ?_
  refine fr_aload_n (pc := 315) dL_law_315 0 rfl rfl ?_
  refine fr_iload_n (pc := 316) dL_law_316 3 rfl rfl ?_
  refine fr_iconst (pc := 317) (v := (1 : Int32)) dL_law_317 (by decide) ?_
  refine fr_iadd (pc := 318) dL_law_318 ?_
  refine fr_sld (pc := 319) dL_law_319 h1 ?_
  refine fr_aload_n (pc := 320) dL_law_320 0 rfl rfl ?_
  refine fr_iload_n (pc := 321) dL_law_321 3 rfl rfl ?_
  refine fr_iconst (pc := 322) (v := (2 : Int32)) dL_law_322 (by decide) ?_
  refine fr_iadd (pc := 323) dL_law_323 ?_
  refine fr_sld (pc := 324) dL_law_324 h2 ?_
  refine fr_callVi (pc := 325) (av := [.int (xs (v3 + (1 : Int32)).toNatClampNeg), .int (xs (v3 + (2 : Int32)).toNatClampNeg)]) dL_law_325 yy_X8_place kw_800 (k := 0) (by decide) rfl rfl rfl rfl (Nat.le_of_ble_eq_true rfl) ⟨Nat.le_of_ble_eq_true rfl, Nat.le_of_ble_eq_true rfl, Nat.le_of_ble_eq_true rfl, Nat.le_of_ble_eq_true rfl⟩ (sX8_place e1) ?_
  refine fr_aload_n (pc := 328) dL_law_328 2 rfl rfl ?_
  refine fr_aload_n (pc := 329) dL_law_329 0 rfl rfl ?_
  refine fr_iload_n (pc := 330) dL_law_330 3 rfl rfl ?_
  refine fr_iconst (pc := 331) (v := (1 : Int32)) dL_law_331 (by decide) ?_
  refine fr_iadd (pc := 332) dL_law_332 ?_
  refine fr_sld (pc := 333) dL_law_333 h1 ?_
  refine fr_aload_n (pc := 334) dL_law_334 0 rfl rfl ?_
  refine fr_iload_n (pc := 335) dL_law_335 3 rfl rfl ?_
  refine fr_iconst (pc := 336) (v := (2 : Int32)) dL_law_336 (by decide) ?_
  refine fr_iadd (pc := 337) dL_law_337 ?_
  refine fr_sld (pc := 338) dL_law_338 h2 ?_
  refine fr_callVi (pc := 339) (av := [.int (xs (v3 + (1 : Int32)).toNatClampNeg), .int (xs (v3 + (2 : Int32)).toNatClampNeg)]) dL_law_339 yy_X9_place kw_804 (k := 73) (by decide) rfl rfl rfl rfl (Nat.le_of_ble_eq_true rfl) ⟨Nat.le_of_ble_eq_true rfl, Nat.le_of_ble_eq_true rfl, Nat.le_of_ble_eq_true rfl, Nat.le_of_ble_eq_true rfl⟩ (sX9_place e2) ?_
  exact fr_icmp_eq (pc := 342) 1477 dL_law_342 (by decide) (fun _ => kk) (fun q => absurd rfl q)
set_option maxRecDepth 100000 in
set_option maxHeartbeats 4000000 in
theorem lc_5 {g : fd_G} {nm : String} {b L : Nat} {xs : Nat → Int32} {hx hm : fd_H} {hm' : fd_H} {v3 : Int32} {r : Int32} (h1 : fd_in (v3 + (1 : Int32)) L = true) (e1 : fX8_warm (xs (v3 + (1 : Int32)).toNatClampNeg) hx = some r) (e2 : fX9_warm (xs (v3 + (1 : Int32)).toNatClampNeg) hm = some (r, hm')) (kk : fd_A g (mL_law nm) (fd_EL g b L xs) room_1 fd_QL 1477 [(0, .ref b), (1, .ref (g.2.2.2 + 0)), (2, .ref (g.2.2.2 + 73)), (3, .int v3)] [] fd_X0 (fd_mx hx hm') 98 1398) : fd_A g (mL_law nm) (fd_EL g b L xs) room_1 fd_QL 347 [(0, .ref b), (1, .ref (g.2.2.2 + 0)), (2, .ref (g.2.2.2 + 73)), (3, .int v3)] [] fd_X0 (fd_mx hx hm) 98 1398 := by
  refine fr_aload_n (pc := 347) dL_law_347 1 rfl rfl ?_
  refine fr_aload_n (pc := 348) dL_law_348 0 rfl rfl ?_
  refine fr_iload_n (pc := 349) dL_law_349 3 rfl rfl ?_
  refine fr_iconst (pc := 350) (v := (1 : Int32)) dL_law_350 (by decide) ?_
  refine fr_iadd (pc := 351) dL_law_351 ?_
  refine fr_sld (pc := 352) dL_law_352 h1 ?_
  refine fr_callVi (pc := 353) (av := [.int (xs (v3 + (1 : Int32)).toNatClampNeg)]) dL_law_353 yy_X8_warm kw_808 (k := 0) (by decide) rfl rfl rfl rfl (Nat.le_of_ble_eq_true rfl) ⟨Nat.le_of_ble_eq_true rfl, Nat.le_of_ble_eq_true rfl, Nat.le_of_ble_eq_true rfl, Nat.le_of_ble_eq_true rfl⟩ (sX8_warm e1) ?_
  refine fr_aload_n (pc := 356) dL_law_356 2 rfl rfl ?_
  refine fr_aload_n (pc := 357) dL_law_357 0 rfl rfl ?_
  refine fr_iload_n (pc := 358) dL_law_358 3 rfl rfl ?_
  refine fr_iconst (pc := 359) (v := (1 : Int32)) dL_law_359 (by decide) ?_
  refine fr_iadd (pc := 360) dL_law_360 ?_
  refine fr_sld (pc := 361) dL_law_361 h1 ?_
  refine fr_callVi (pc := 362) (av := [.int (xs (v3 + (1 : Int32)).toNatClampNeg)]) dL_law_362 yy_X9_warm kw_812 (k := 73) (by decide) rfl rfl rfl rfl (Nat.le_of_ble_eq_true rfl) ⟨Nat.le_of_ble_eq_true rfl, Nat.le_of_ble_eq_true rfl, Nat.le_of_ble_eq_true rfl, Nat.le_of_ble_eq_true rfl⟩ (sX9_warm e2) ?_
  exact fr_icmp_eq (pc := 365) 1477 dL_law_365 (by decide) (fun _ => kk) (fun q => absurd rfl q)
set_option maxRecDepth 100000 in
set_option maxHeartbeats 4000000 in
theorem lc_6 {g : fd_G} {nm : String} {b L : Nat} {xs : Nat → Int32} {hx hm : fd_H} {hm' : fd_H} {v3 : Int32} {r : Int32} (h1 : fd_in (v3 + (1 : Int32)) L = true) (h2 : fd_in (v3 + (2 : Int32)) L = true) (e1 : fX8_debt (xs (v3 + (1 : Int32)).toNatClampNeg) (xs (v3 + (2 : Int32)).toNatClampNeg) hx = some r) (e2 : fX9_debt (xs (v3 + (1 : Int32)).toNatClampNeg) (xs (v3 + (2 : Int32)).toNatClampNeg) hm = some (r, hm')) (kk : fd_A g (mL_law nm) (fd_EL g b L xs) room_1 fd_QL 1477 [(0, .ref b), (1, .ref (g.2.2.2 + 0)), (2, .ref (g.2.2.2 + 73)), (3, .int v3)] [] fd_X0 (fd_mx hx hm') 98 1398) : fd_A g (mL_law nm) (fd_EL g b L xs) room_1 fd_QL 370 [(0, .ref b), (1, .ref (g.2.2.2 + 0)), (2, .ref (g.2.2.2 + 73)), (3, .int v3)] [] fd_X0 (fd_mx hx hm) 98 1398 := by
  refine fr_aload_n (pc := 370) dL_law_370 1 rfl rfl ?_
  refine fr_aload_n (pc := 371) dL_law_371 0 rfl rfl ?_
  refine fr_iload_n (pc := 372) dL_law_372 3 rfl rfl ?_
  refine fr_iconst (pc := 373) (v := (1 : Int32)) dL_law_373 (by decide) ?_
  refine fr_iadd (pc := 374) dL_law_374 ?_
  refine fr_sld (pc := 375) dL_law_375 h1 ?_
  refine fr_aload_n (pc := 376) dL_law_376 0 rfl rfl ?_
  refine fr_iload_n (pc := 377) dL_law_377 3 rfl rfl ?_
  refine fr_iconst (pc := 378) (v := (2 : Int32)) dL_law_378 (by decide) ?_
  refine fr_iadd (pc := 379) dL_law_379 ?_
  refine fr_sld (pc := 380) dL_law_380 h2 ?_
  refine fr_callVi (pc := 381) (av := [.int (xs (v3 + (1 : Int32)).toNatClampNeg), .int (xs (v3 + (2 : Int32)).toNatClampNeg)]) dL_law_381 yy_X8_debt kw_813 (k := 0) (by decide) rfl rfl rfl rfl (Nat.le_of_ble_eq_true rfl) ⟨Nat.le_of_ble_eq_true rfl, Nat.le_of_ble_eq_true rfl, Nat.le_of_ble_eq_true rfl, Nat.le_of_ble_eq_true rfl⟩ (sX8_debt e1) ?_
  refine fr_aload_n (pc := 384) dL_law_384 2 rfl rfl ?_
  refine fr_aload_n (pc := 385) dL_law_385 0 rfl rfl ?_
  refine fr_iload_n (pc := 386) dL_law_386 3 rfl rfl ?_
  refine fr_iconst (pc := 387) (v := (1 : Int32)) dL_law_387 (by decide) ?_
  refine fr_iadd (pc := 388) dL_law_388 ?_
  refine fr_sld (pc := 389) dL_law_389 h1 ?_
  refine fr_aload_n (pc := 390) dL_law_390 0 rfl rfl ?_
  refine fr_iload_n (pc := 391) dL_law_391 3 rfl rfl ?_
  refine fr_iconst (pc := 392) (v := (2 : Int32)) dL_law_392 (by decide) ?_
  refine fr_iadd (pc := 393) dL_law_393 ?_
  refine fr_sld (pc := 394) dL_law_394 h2 ?_
  refine fr_callVi (pc := 395) (av := [.int (xs (v3 + (1 : Int32)).toNatClampNeg), .int (xs (v3 + (2 : Int32)).toNatClampNeg)]) dL_law_395 yy_X9_debt kw_817 (k := 73) (by decide) rfl rfl rfl rfl (Nat.le_of_ble_eq_true rfl) ⟨Nat.le_of_ble_eq_true rfl, Nat.le_of_ble_eq_true rfl, Nat.le_of_ble_eq_true rfl, Nat.le_of_ble_eq_true rfl⟩ (sX9_debt e2) ?_
  exact fr_icmp_eq (pc := 398) 1477 dL_law_398 (by decide) (fun _ => kk) (fun q => absurd rfl q)
set_option maxRecDepth 100000 in
set_option maxHeartbeats 4000000 in
theorem lc_7 {g : fd_G} {nm : String} {b L : Nat} {xs : Nat → Int32} {hx hm : fd_H} {hx' : fd_H} {hm' : fd_H} {v3 : Int32} {r : Int32} (h1 : fd_in (v3 + (1 : Int32)) L = true) (e1 : fX8_zero (xs (v3 + (1 : Int32)).toNatClampNeg) hx = some (r, hx')) (e2 : fX9_zero (xs (v3 + (1 : Int32)).toNatClampNeg) hm = some (r, hm')) (kk : fd_A g (mL_law nm) (fd_EL g b L xs) room_1 fd_QL 1477 [(0, .ref b), (1, .ref (g.2.2.2 + 0)), (2, .ref (g.2.2.2 + 73)), (3, .int v3)] [] fd_X0 (fd_mx hx' hm') 98 1398) : fd_A g (mL_law nm) (fd_EL g b L xs) room_1 fd_QL 403 [(0, .ref b), (1, .ref (g.2.2.2 + 0)), (2, .ref (g.2.2.2 + 73)), (3, .int v3)] [] fd_X0 (fd_mx hx hm) 98 1398 := by
  refine fr_aload_n (pc := 403) dL_law_403 1 rfl rfl ?_
  refine fr_aload_n (pc := 404) dL_law_404 0 rfl rfl ?_
  refine fr_iload_n (pc := 405) dL_law_405 3 rfl rfl ?_
  refine fr_iconst (pc := 406) (v := (1 : Int32)) dL_law_406 (by decide) ?_
  refine fr_iadd (pc := 407) dL_law_407 ?_
  refine fr_sld (pc := 408) dL_law_408 h1 ?_
  refine fr_callVi (pc := 409) (av := [.int (xs (v3 + (1 : Int32)).toNatClampNeg)]) dL_law_409 yy_X8_zero kw_821 (k := 0) (by decide) rfl rfl rfl rfl (Nat.le_of_ble_eq_true rfl) ⟨Nat.le_of_ble_eq_true rfl, Nat.le_of_ble_eq_true rfl, Nat.le_of_ble_eq_true rfl, Nat.le_of_ble_eq_true rfl⟩ (sX8_zero e1) ?_
  refine fr_aload_n (pc := 412) dL_law_412 2 rfl rfl ?_
  refine fr_aload_n (pc := 413) dL_law_413 0 rfl rfl ?_
  refine fr_iload_n (pc := 414) dL_law_414 3 rfl rfl ?_
  refine fr_iconst (pc := 415) (v := (1 : Int32)) dL_law_415 (by decide) ?_
  refine fr_iadd (pc := 416) dL_law_416 ?_
  refine fr_sld (pc := 417) dL_law_417 h1 ?_
  refine fr_callVi (pc := 418) (av := [.int (xs (v3 + (1 : Int32)).toNatClampNeg)]) dL_law_418 yy_X9_zero kw_825 (k := 73) (by decide) rfl rfl rfl rfl (Nat.le_of_ble_eq_true rfl) ⟨Nat.le_of_ble_eq_true rfl, Nat.le_of_ble_eq_true rfl, Nat.le_of_ble_eq_true rfl, Nat.le_of_ble_eq_true rfl⟩ (sX9_zero e2) ?_
  exact fr_icmp_eq (pc := 421) 1477 dL_law_421 (by decide) (fun _ => kk) (fun q => absurd rfl q)
set_option maxRecDepth 100000 in
set_option maxHeartbeats 4000000 in
theorem lc_8 {g : fd_G} {nm : String} {b L : Nat} {xs : Nat → Int32} {hx hm : fd_H} {hx' : fd_H} {hm' : fd_H} {v3 : Int32} {r : Int32} (h1 : fd_in (v3 + (1 : Int32)) L = true) (e1 : fX8_cloud (xs (v3 + (1 : Int32)).toNatClampNeg) hx = some (r, hx')) (e2 : fX9_cloud (xs (v3 + (1 : Int32)).toNatClampNeg) hm = some (r, hm')) (kk : fd_A g (mL_law nm) (fd_EL g b L xs) room_1 fd_QL 1477 [(0, .ref b), (1, .ref (g.2.2.2 + 0)), (2, .ref (g.2.2.2 + 73)), (3, .int v3)] [] fd_X0 (fd_mx hx' hm') 98 1398) : fd_A g (mL_law nm) (fd_EL g b L xs) room_1 fd_QL 426 [(0, .ref b), (1, .ref (g.2.2.2 + 0)), (2, .ref (g.2.2.2 + 73)), (3, .int v3)] [] fd_X0 (fd_mx hx hm) 98 1398 := by
  refine fr_aload_n (pc := 426) dL_law_426 1 rfl rfl ?_
  refine fr_aload_n (pc := 427) dL_law_427 0 rfl rfl ?_
  refine fr_iload_n (pc := 428) dL_law_428 3 rfl rfl ?_
  refine fr_iconst (pc := 429) (v := (1 : Int32)) dL_law_429 (by decide) ?_
  refine fr_iadd (pc := 430) dL_law_430 ?_
  refine fr_sld (pc := 431) dL_law_431 h1 ?_
  refine fr_callVi (pc := 432) (av := [.int (xs (v3 + (1 : Int32)).toNatClampNeg)]) dL_law_432 yy_X8_cloud kw_829 (k := 0) (by decide) rfl rfl rfl rfl (Nat.le_of_ble_eq_true rfl) ⟨Nat.le_of_ble_eq_true rfl, Nat.le_of_ble_eq_true rfl, Nat.le_of_ble_eq_true rfl, Nat.le_of_ble_eq_true rfl⟩ (sX8_cloud e1) ?_
  refine fr_aload_n (pc := 435) dL_law_435 2 rfl rfl ?_
  refine fr_aload_n (pc := 436) dL_law_436 0 rfl rfl ?_
  refine fr_iload_n (pc := 437) dL_law_437 3 rfl rfl ?_
  refine fr_iconst (pc := 438) (v := (1 : Int32)) dL_law_438 (by decide) ?_
  refine fr_iadd (pc := 439) dL_law_439 ?_
  refine fr_sld (pc := 440) dL_law_440 h1 ?_
  refine fr_callVi (pc := 441) (av := [.int (xs (v3 + (1 : Int32)).toNatClampNeg)]) dL_law_441 yy_X9_cloud kw_833 (k := 73) (by decide) rfl rfl rfl rfl (Nat.le_of_ble_eq_true rfl) ⟨Nat.le_of_ble_eq_true rfl, Nat.le_of_ble_eq_true rfl, Nat.le_of_ble_eq_true rfl, Nat.le_of_ble_eq_true rfl⟩ (sX9_cloud e2) ?_
  exact fr_icmp_eq (pc := 444) 1477 dL_law_444 (by decide) (fun _ => kk) (fun q => absurd rfl q)
set_option maxRecDepth 100000 in
set_option maxHeartbeats 4000000 in
theorem lc_9 {g : fd_G} {nm : String} {b L : Nat} {xs : Nat → Int32} {hx hm : fd_H} {hx' : fd_H} {hm' : fd_H} {v3 : Int32} {r : Int32} (h1 : fd_in (v3 + (1 : Int32)) L = true) (h2 : fd_in (v3 + (2 : Int32)) L = true) (e1 : fX8_smoke (xs (v3 + (1 : Int32)).toNatClampNeg) (xs (v3 + (2 : Int32)).toNatClampNeg) hx = some (r, hx')) (e2 : fX9_smoke (xs (v3 + (1 : Int32)).toNatClampNeg) (xs (v3 + (2 : Int32)).toNatClampNeg) hm = some (r, hm')) (kk : fd_A g (mL_law nm) (fd_EL g b L xs) room_1 fd_QL 1477 [(0, .ref b), (1, .ref (g.2.2.2 + 0)), (2, .ref (g.2.2.2 + 73)), (3, .int v3)] [] fd_X0 (fd_mx hx' hm') 98 1398) : fd_A g (mL_law nm) (fd_EL g b L xs) room_1 fd_QL 449 [(0, .ref b), (1, .ref (g.2.2.2 + 0)), (2, .ref (g.2.2.2 + 73)), (3, .int v3)] [] fd_X0 (fd_mx hx hm) 98 1398 := by
  refine fr_aload_n (pc := 449) dL_law_449 1 rfl rfl ?_
  refine fr_aload_n (pc := 450) dL_law_450 0 rfl rfl ?_
  refine fr_iload_n (pc := 451) dL_law_451 3 rfl rfl ?_
  refine fr_iconst (pc := 452) (v := (1 : Int32)) dL_law_452 (by decide) ?_
  refine fr_iadd (pc := 453) dL_law_453 ?_
  refine fr_sld (pc := 454) dL_law_454 h1 ?_
  refine fr_aload_n (pc := 455) dL_law_455 0 rfl rfl ?_
  refine fr_iload_n (pc := 456) dL_law_456 3 rfl rfl ?_
  refine fr_iconst (pc := 457) (v := (2 : Int32)) dL_law_457 (by decide) ?_
  refine fr_iadd (pc := 458) dL_law_458 ?_
  refine fr_sld (pc := 459) dL_law_459 h2 ?_
  refine fr_callVi (pc := 460) (av := [.int (xs (v3 + (1 : Int32)).toNatClampNeg), .int (xs (v3 + (2 : Int32)).toNatClampNeg)]) dL_law_460 yy_X8_smoke kw_837 (k := 0) (by decide) rfl rfl rfl rfl (Nat.le_of_ble_eq_true rfl) ⟨Nat.le_of_ble_eq_true rfl, Nat.le_of_ble_eq_true rfl, Nat.le_of_ble_eq_true rfl, Nat.le_of_ble_eq_true rfl⟩ (sX8_smoke e1) ?_
  refine fr_aload_n (pc := 463) dL_law_463 2 rfl rfl ?_
  refine fr_aload_n (pc := 464) dL_law_464 0 rfl rfl ?_
  refine fr_iload_n (pc := 465) dL_law_465 3 rfl rfl ?_
  refine fr_iconst (pc := 466) (v := (1 : Int32)) dL_law_466 (by decide) ?_
  refine fr_iadd (pc := 467) dL_law_467 ?_
  refine fr_sld (pc := 468) dL_law_468 h1 ?_
  refine fr_aload_n (pc := 469) dL_law_469 0 rfl rfl ?_
  refine fr_iload_n (pc := 470) dL_law_470 3 rfl rfl ?_
  refine fr_iconst (pc := 471) (v := (2 : Int32)) dL_law_471 (by decide) ?_
  refine fr_iadd (pc := 472) dL_law_472 ?_
  refine fr_sld (pc := 473) dL_law_473 h2 ?_
  refine fr_callVi (pc := 474) (av := [.int (xs (v3 + (1 : Int32)).toNatClampNeg), .int (xs (v3 + (2 : Int32)).toNatClampNeg)]) dL_law_474 yy_X9_smoke kw_841 (k := 73) (by decide) rfl rfl rfl rfl (Nat.le_of_ble_eq_true rfl) ⟨Nat.le_of_ble_eq_true rfl, Nat.le_of_ble_eq_true rfl, Nat.le_of_ble_eq_true rfl, Nat.le_of_ble_eq_true rfl⟩ (sX9_smoke e2) ?_
  exact fr_icmp_eq (pc := 477) 1477 dL_law_477 (by decide) (fun _ => kk) (fun q => absurd rfl q)
set_option maxRecDepth 100000 in
set_option maxHeartbeats 4000000 in
theorem lc_10 {g : fd_G} {nm : String} {b L : Nat} {xs : Nat → Int32} {hx hm : fd_H} {hx' : fd_H} {hm' : fd_H} {v3 : Int32} {r : Int32} (h1 : fd_in (v3 + (1 : Int32)) L = true) (h2 : fd_in (v3 + (2 : Int32)) L = true) (e1 : fX8_ice (xs (v3 + (1 : Int32)).toNatClampNeg) (xs (v3 + (2 : Int32)).toNatClampNeg) hx = some (r, hx')) (e2 : fX9_ice (xs (v3 + (1 : Int32)).toNatClampNeg) (xs (v3 + (2 : Int32)).toNatClampNeg) hm = some (r, hm')) (kk : fd_A g (mL_law nm) (fd_EL g b L xs) room_1 fd_QL 1477 [(0, .ref b), (1, .ref (g.2.2.2 + 0)), (2, .ref (g.2.2.2 + 73)), (3, .int v3)] [] fd_X0 (fd_mx hx' hm') 98 1398) : fd_A g (mL_law nm) (fd_EL g b L xs) room_1 fd_QL 482 [(0, .ref b), (1, .ref (g.2.2.2 + 0)), (2, .ref (g.2.2.2 + 73)), (3, .int v3)] [] fd_X0 (fd_mx hx hm) 98 1398 := by
  refine fr_aload_n (pc := 482) dL_law_482 1 rfl rfl ?_
  refine fr_aload_n (pc := 483) dL_law_483 0 rfl rfl ?_
  refine fr_iload_n (pc := 484) dL_law_484 3 rfl rfl ?_
  refine fr_iconst (pc := 485) (v := (1 : Int32)) dL_law_485 (by decide) ?_
  refine fr_iadd (pc := 486) dL_law_486 ?_
  refine fr_sld (pc := 487) dL_law_487 h1 ?_
  refine fr_aload_n (pc := 488) dL_law_488 0 rfl rfl ?_
  refine fr_iload_n (pc := 489) dL_law_489 3 rfl rfl ?_
  refine fr_iconst (pc := 490) (v := (2 : Int32)) dL_law_490 (by decide) ?_
  refine fr_iadd (pc := 491) dL_law_491 ?_
  refine fr_sld (pc := 492) dL_law_492 h2 ?_
  refine fr_callVi (pc := 493) (av := [.int (xs (v3 + (1 : Int32)).toNatClampNeg), .int (xs (v3 + (2 : Int32)).toNatClampNeg)]) dL_law_493 yy_X8_ice kw_845 (k := 0) (by decide) rfl rfl rfl rfl (Nat.le_of_ble_eq_true rfl) ⟨Nat.le_of_ble_eq_true rfl, Nat.le_of_ble_eq_true rfl, Nat.le_of_ble_eq_true rfl, Nat.le_of_ble_eq_true rfl⟩ (sX8_ice e1) ?_
  refine fr_aload_n (pc := 496) dL_law_496 2 rfl rfl ?_
  refine fr_aload_n (pc := 497) dL_law_497 0 rfl rfl ?_
  refine fr_iload_n (pc := 498) dL_law_498 3 rfl rfl ?_
  refine fr_iconst (pc := 499) (v := (1 : Int32)) dL_law_499 (by decide) ?_
  refine fr_iadd (pc := 500) dL_law_500 ?_
  refine fr_sld (pc := 501) dL_law_501 h1 ?_
  refine fr_aload_n (pc := 502) dL_law_502 0 rfl rfl ?_
  refine fr_iload_n (pc := 503) dL_law_503 3 rfl rfl ?_
  refine fr_iconst (pc := 504) (v := (2 : Int32)) dL_law_504 (by decide) ?_
  refine fr_iadd (pc := 505) dL_law_505 ?_
  refine fr_sld (pc := 506) dL_law_506 h2 ?_
  refine fr_callVi (pc := 507) (av := [.int (xs (v3 + (1 : Int32)).toNatClampNeg), .int (xs (v3 + (2 : Int32)).toNatClampNeg)]) dL_law_507 yy_X9_ice kw_849 (k := 73) (by decide) rfl rfl rfl rfl (Nat.le_of_ble_eq_true rfl) ⟨Nat.le_of_ble_eq_true rfl, Nat.le_of_ble_eq_true rfl, Nat.le_of_ble_eq_true rfl, Nat.le_of_ble_eq_true rfl⟩ (sX9_ice e2) ?_
  exact fr_icmp_eq (pc := 510) 1477 dL_law_510 (by decide) (fun _ => kk) (fun q => absurd rfl q)
set_option maxRecDepth 100000 in
set_option maxHeartbeats 4000000 in
theorem lc_11 {g : fd_G} {nm : String} {b L : Nat} {xs : Nat → Int32} {hx hm : fd_H} {hx' : fd_H} {hm' : fd_H} {v3 : Int32} {r : Int32} (h1 : fd_in (v3 + (1 : Int32)) L = true) (e1 : fX8_back (xs (v3 + (1 : Int32)).toNatClampNeg) hx = some (r, hx')) (e2 : fX9_back (xs (v3 + (1 : Int32)).toNatClampNeg) hm = some (r, hm')) (kk : fd_A g (mL_law nm) (fd_EL g b L xs) room_1 fd_QL 1477 [(0, .ref b), (1, .ref (g.2.2.2 + 0)), (2, .ref (g.2.2.2 + 73)), (3, .int v3)] [] fd_X0 (fd_mx hx' hm') 98 1398) : fd_A g (mL_law nm) (fd_EL g b L xs) room_1 fd_QL 515 [(0, .ref b), (1, .ref (g.2.2.2 + 0)), (2, .ref (g.2.2.2 + 73)), (3, .int v3)] [] fd_X0 (fd_mx hx hm) 98 1398 := by
  refine fr_aload_n (pc := 515) dL_law_515 1 rfl rfl ?_
  refine fr_aload_n (pc := 516) dL_law_516 0 rfl rfl ?_
  refine fr_iload_n (pc := 517) dL_law_517 3 rfl rfl ?_
  refine fr_iconst (pc := 518) (v := (1 : Int32)) dL_law_518 (by decide) ?_
  refine fr_iadd (pc := 519) dL_law_519 ?_
  refine fr_sld (pc := 520) dL_law_520 h1 ?_
  refine fr_callVi (pc := 521) (av := [.int (xs (v3 + (1 : Int32)).toNatClampNeg)]) dL_law_521 yy_X8_back kw_853 (k := 0) (by decide) rfl rfl rfl rfl (Nat.le_of_ble_eq_true rfl) ⟨Nat.le_of_ble_eq_true rfl, Nat.le_of_ble_eq_true rfl, Nat.le_of_ble_eq_true rfl, Nat.le_of_ble_eq_true rfl⟩ (sX8_back e1) ?_
  refine fr_aload_n (pc := 524) dL_law_524 2 rfl rfl ?_
  refine fr_aload_n (pc := 525) dL_law_525 0 rfl rfl ?_
  refine fr_iload_n (pc := 526) dL_law_526 3 rfl rfl ?_
  refine fr_iconst (pc := 527) (v := (1 : Int32)) dL_law_527 (by decide) ?_
  refine fr_iadd (pc := 528) dL_law_528 ?_
  refine fr_sld (pc := 529) dL_law_529 h1 ?_
  refine fr_callVi (pc := 530) (av := [.int (xs (v3 + (1 : Int32)).toNatClampNeg)]) dL_law_530 yy_X9_back kw_857 (k := 73) (by decide) rfl rfl rfl rfl (Nat.le_of_ble_eq_true rfl) ⟨Nat.le_of_ble_eq_true rfl, Nat.le_of_ble_eq_true rfl, Nat.le_of_ble_eq_true rfl, Nat.le_of_ble_eq_true rfl⟩ (sX9_back e2) ?_
  exact fr_icmp_eq (pc := 533) 1477 dL_law_533 (by decide) (fun _ => kk) (fun q => absurd rfl q)
set_option maxRecDepth 100000 in
set_option maxHeartbeats 4000000 in
theorem lc_12 {g : fd_G} {nm : String} {b L : Nat} {xs : Nat → Int32} {hx hm : fd_H} {hm' : fd_H} {v3 : Int32} {r : Int32} (h1 : fd_in (v3 + (1 : Int32)) L = true) (h2 : fd_in (v3 + (2 : Int32)) L = true) (e1 : fX8_warmth (xs (v3 + (1 : Int32)).toNatClampNeg) (xs (v3 + (2 : Int32)).toNatClampNeg) hx = some r) (e2 : fX9_warmth (xs (v3 + (1 : Int32)).toNatClampNeg) (xs (v3 + (2 : Int32)).toNatClampNeg) hm = some (r, hm')) (kk : fd_A g (mL_law nm) (fd_EL g b L xs) room_1 fd_QL 1477 [(0, .ref b), (1, .ref (g.2.2.2 + 0)), (2, .ref (g.2.2.2 + 73)), (3, .int v3)] [] fd_X0 (fd_mx hx hm') 98 1398) : fd_A g (mL_law nm) (fd_EL g b L xs) room_1 fd_QL 538 [(0, .ref b), (1, .ref (g.2.2.2 + 0)), (2, .ref (g.2.2.2 + 73)), (3, .int v3)] [] fd_X0 (fd_mx hx hm) 98 1398 := by
  refine fr_aload_n (pc := 538) dL_law_538 1 rfl rfl ?_
  refine fr_aload_n (pc := 539) dL_law_539 0 rfl rfl ?_
  refine fr_iload_n (pc := 540) dL_law_540 3 rfl rfl ?_
  refine fr_iconst (pc := 541) (v := (1 : Int32)) dL_law_541 (by decide) ?_
  refine fr_iadd (pc := 542) dL_law_542 ?_
  refine fr_sld (pc := 543) dL_law_543 h1 ?_
  refine fr_aload_n (pc := 544) dL_law_544 0 rfl rfl ?_
  refine fr_iload_n (pc := 545) dL_law_545 3 rfl rfl ?_
  refine fr_iconst (pc := 546) (v := (2 : Int32)) dL_law_546 (by decide) ?_
  refine fr_iadd (pc := 547) dL_law_547 ?_
  refine fr_sld (pc := 548) dL_law_548 h2 ?_
  refine fr_callVi (pc := 549) (av := [.int (xs (v3 + (1 : Int32)).toNatClampNeg), .int (xs (v3 + (2 : Int32)).toNatClampNeg)]) dL_law_549 yy_X8_warmth kw_858 (k := 0) (by decide) rfl rfl rfl rfl (Nat.le_of_ble_eq_true rfl) ⟨Nat.le_of_ble_eq_true rfl, Nat.le_of_ble_eq_true rfl, Nat.le_of_ble_eq_true rfl, Nat.le_of_ble_eq_true rfl⟩ (sX8_warmth e1) ?_
  refine fr_aload_n (pc := 552) dL_law_552 2 rfl rfl ?_
  refine fr_aload_n (pc := 553) dL_law_553 0 rfl rfl ?_
  refine fr_iload_n (pc := 554) dL_law_554 3 rfl rfl ?_
  refine fr_iconst (pc := 555) (v := (1 : Int32)) dL_law_555 (by decide) ?_
  refine fr_iadd (pc := 556) dL_law_556 ?_
  refine fr_sld (pc := 557) dL_law_557 h1 ?_
  refine fr_aload_n (pc := 558) dL_law_558 0 rfl rfl ?_
  refine fr_iload_n (pc := 559) dL_law_559 3 rfl rfl ?_
  refine fr_iconst (pc := 560) (v := (2 : Int32)) dL_law_560 (by decide) ?_
  refine fr_iadd (pc := 561) dL_law_561 ?_
  refine fr_sld (pc := 562) dL_law_562 h2 ?_
  refine fr_callVi (pc := 563) (av := [.int (xs (v3 + (1 : Int32)).toNatClampNeg), .int (xs (v3 + (2 : Int32)).toNatClampNeg)]) dL_law_563 yy_X9_warmth kw_859 (k := 73) (by decide) rfl rfl rfl rfl (Nat.le_of_ble_eq_true rfl) ⟨Nat.le_of_ble_eq_true rfl, Nat.le_of_ble_eq_true rfl, Nat.le_of_ble_eq_true rfl, Nat.le_of_ble_eq_true rfl⟩ (sX9_warmth e2) ?_
  exact fr_icmp_eq (pc := 566) 1477 dL_law_566 (by decide) (fun _ => kk) (fun q => absurd rfl q)
set_option maxRecDepth 100000 in
set_option maxHeartbeats 4000000 in
theorem lc_13 {g : fd_G} {nm : String} {b L : Nat} {xs : Nat → Int32} {hx hm : fd_H} {hm' : fd_H} {v3 : Int32} {r : Int32} (h1 : fd_in (v3 + (1 : Int32)) L = true) (h2 : fd_in (v3 + (2 : Int32)) L = true) (e1 : fX8_freezes (xs (v3 + (1 : Int32)).toNatClampNeg) (xs (v3 + (2 : Int32)).toNatClampNeg) hx = some r) (e2 : fX9_freezes (xs (v3 + (1 : Int32)).toNatClampNeg) (xs (v3 + (2 : Int32)).toNatClampNeg) hm = some (r, hm')) (kk : fd_A g (mL_law nm) (fd_EL g b L xs) room_1 fd_QL 1477 [(0, .ref b), (1, .ref (g.2.2.2 + 0)), (2, .ref (g.2.2.2 + 73)), (3, .int v3)] [] fd_X0 (fd_mx hx hm') 98 1398) : fd_A g (mL_law nm) (fd_EL g b L xs) room_1 fd_QL 571 [(0, .ref b), (1, .ref (g.2.2.2 + 0)), (2, .ref (g.2.2.2 + 73)), (3, .int v3)] [] fd_X0 (fd_mx hx hm) 98 1398 := by
  refine fr_aload_n (pc := 571) dL_law_571 1 rfl rfl ?_
  refine fr_aload_n (pc := 572) dL_law_572 0 rfl rfl ?_
  refine fr_iload_n (pc := 573) dL_law_573 3 rfl rfl ?_
  refine fr_iconst (pc := 574) (v := (1 : Int32)) dL_law_574 (by decide) ?_
  refine fr_iadd (pc := 575) dL_law_575 ?_
  refine fr_sld (pc := 576) dL_law_576 h1 ?_
  refine fr_aload_n (pc := 577) dL_law_577 0 rfl rfl ?_
  refine fr_iload_n (pc := 578) dL_law_578 3 rfl rfl ?_
  refine fr_iconst (pc := 579) (v := (2 : Int32)) dL_law_579 (by decide) ?_
  refine fr_iadd (pc := 580) dL_law_580 ?_
  refine fr_sld (pc := 581) dL_law_581 h2 ?_
  refine fr_callVi (pc := 582) (av := [.int (xs (v3 + (1 : Int32)).toNatClampNeg), .int (xs (v3 + (2 : Int32)).toNatClampNeg)]) dL_law_582 yy_X8_freezes kw_860 (k := 0) (by decide) rfl rfl rfl rfl (Nat.le_of_ble_eq_true rfl) ⟨Nat.le_of_ble_eq_true rfl, Nat.le_of_ble_eq_true rfl, Nat.le_of_ble_eq_true rfl, Nat.le_of_ble_eq_true rfl⟩ (sX8_freezes e1) ?_
  refine fr_aload_n (pc := 585) dL_law_585 2 rfl rfl ?_
  refine fr_aload_n (pc := 586) dL_law_586 0 rfl rfl ?_
  refine fr_iload_n (pc := 587) dL_law_587 3 rfl rfl ?_
  refine fr_iconst (pc := 588) (v := (1 : Int32)) dL_law_588 (by decide) ?_
  refine fr_iadd (pc := 589) dL_law_589 ?_
  refine fr_sld (pc := 590) dL_law_590 h1 ?_
  refine fr_aload_n (pc := 591) dL_law_591 0 rfl rfl ?_
  refine fr_iload_n (pc := 592) dL_law_592 3 rfl rfl ?_
  refine fr_iconst (pc := 593) (v := (2 : Int32)) dL_law_593 (by decide) ?_
  refine fr_iadd (pc := 594) dL_law_594 ?_
  refine fr_sld (pc := 595) dL_law_595 h2 ?_
  refine fr_callVi (pc := 596) (av := [.int (xs (v3 + (1 : Int32)).toNatClampNeg), .int (xs (v3 + (2 : Int32)).toNatClampNeg)]) dL_law_596 yy_X9_freezes kw_861 (k := 73) (by decide) rfl rfl rfl rfl (Nat.le_of_ble_eq_true rfl) ⟨Nat.le_of_ble_eq_true rfl, Nat.le_of_ble_eq_true rfl, Nat.le_of_ble_eq_true rfl, Nat.le_of_ble_eq_true rfl⟩ (sX9_freezes e2) ?_
  exact fr_icmp_eq (pc := 599) 1477 dL_law_599 (by decide) (fun _ => kk) (fun q => absurd rfl q)
set_option maxRecDepth 100000 in
set_option maxHeartbeats 4000000 in
theorem lc_14 {g : fd_G} {nm : String} {b L : Nat} {xs : Nat → Int32} {hx hm : fd_H} {hm' : fd_H} {v3 : Int32} {r : Int32} (h1 : fd_in (v3 + (1 : Int32)) L = true) (e1 : fX8_first (xs (v3 + (1 : Int32)).toNatClampNeg) hx = some r) (e2 : fX9_first (xs (v3 + (1 : Int32)).toNatClampNeg) hm = some (r, hm')) (kk : fd_A g (mL_law nm) (fd_EL g b L xs) room_1 fd_QL 1477 [(0, .ref b), (1, .ref (g.2.2.2 + 0)), (2, .ref (g.2.2.2 + 73)), (3, .int v3)] [] fd_X0 (fd_mx hx hm') 98 1398) : fd_A g (mL_law nm) (fd_EL g b L xs) room_1 fd_QL 604 [(0, .ref b), (1, .ref (g.2.2.2 + 0)), (2, .ref (g.2.2.2 + 73)), (3, .int v3)] [] fd_X0 (fd_mx hx hm) 98 1398 := by
  refine fr_aload_n (pc := 604) dL_law_604 1 rfl rfl ?_
  refine fr_aload_n (pc := 605) dL_law_605 0 rfl rfl ?_
  refine fr_iload_n (pc := 606) dL_law_606 3 rfl rfl ?_
  refine fr_iconst (pc := 607) (v := (1 : Int32)) dL_law_607 (by decide) ?_
  refine fr_iadd (pc := 608) dL_law_608 ?_
  refine fr_sld (pc := 609) dL_law_609 h1 ?_
  refine fr_callVi (pc := 610) (av := [.int (xs (v3 + (1 : Int32)).toNatClampNeg)]) dL_law_610 yy_X8_first kw_862 (k := 0) (by decide) rfl rfl rfl rfl (Nat.le_of_ble_eq_true rfl) ⟨Nat.le_of_ble_eq_true rfl, Nat.le_of_ble_eq_true rfl, Nat.le_of_ble_eq_true rfl, Nat.le_of_ble_eq_true rfl⟩ (sX8_first e1) ?_
  refine fr_aload_n (pc := 613) dL_law_613 2 rfl rfl ?_
  refine fr_aload_n (pc := 614) dL_law_614 0 rfl rfl ?_
  refine fr_iload_n (pc := 615) dL_law_615 3 rfl rfl ?_
  refine fr_iconst (pc := 616) (v := (1 : Int32)) dL_law_616 (by decide) ?_
  refine fr_iadd (pc := 617) dL_law_617 ?_
  refine fr_sld (pc := 618) dL_law_618 h1 ?_
  refine fr_callVi (pc := 619) (av := [.int (xs (v3 + (1 : Int32)).toNatClampNeg)]) dL_law_619 yy_X9_first kw_866 (k := 73) (by decide) rfl rfl rfl rfl (Nat.le_of_ble_eq_true rfl) ⟨Nat.le_of_ble_eq_true rfl, Nat.le_of_ble_eq_true rfl, Nat.le_of_ble_eq_true rfl, Nat.le_of_ble_eq_true rfl⟩ (sX9_first e2) ?_
  exact fr_icmp_eq (pc := 622) 1477 dL_law_622 (by decide) (fun _ => kk) (fun q => absurd rfl q)
set_option maxRecDepth 100000 in
set_option maxHeartbeats 4000000 in
theorem lc_15 {g : fd_G} {nm : String} {b L : Nat} {xs : Nat → Int32} {hx hm : fd_H} {hm' : fd_H} {v3 : Int32} {r : Int32} (h1 : fd_in (v3 + (1 : Int32)) L = true) (e1 : fX8_had (xs (v3 + (1 : Int32)).toNatClampNeg) hx = some r) (e2 : fX9_had (xs (v3 + (1 : Int32)).toNatClampNeg) hm = some (r, hm')) (kk : fd_A g (mL_law nm) (fd_EL g b L xs) room_1 fd_QL 1477 [(0, .ref b), (1, .ref (g.2.2.2 + 0)), (2, .ref (g.2.2.2 + 73)), (3, .int v3)] [] fd_X0 (fd_mx hx hm') 98 1398) : fd_A g (mL_law nm) (fd_EL g b L xs) room_1 fd_QL 627 [(0, .ref b), (1, .ref (g.2.2.2 + 0)), (2, .ref (g.2.2.2 + 73)), (3, .int v3)] [] fd_X0 (fd_mx hx hm) 98 1398 := by
  refine fr_aload_n (pc := 627) dL_law_627 1 rfl rfl ?_
  refine fr_aload_n (pc := 628) dL_law_628 0 rfl rfl ?_
  refine fr_iload_n (pc := 629) dL_law_629 3 rfl rfl ?_
  refine fr_iconst (pc := 630) (v := (1 : Int32)) dL_law_630 (by decide) ?_
  refine fr_iadd (pc := 631) dL_law_631 ?_
  refine fr_sld (pc := 632) dL_law_632 h1 ?_
  refine fr_callVi (pc := 633) (av := [.int (xs (v3 + (1 : Int32)).toNatClampNeg)]) dL_law_633 yy_X8_had kw_867 (k := 0) (by decide) rfl rfl rfl rfl (Nat.le_of_ble_eq_true rfl) ⟨Nat.le_of_ble_eq_true rfl, Nat.le_of_ble_eq_true rfl, Nat.le_of_ble_eq_true rfl, Nat.le_of_ble_eq_true rfl⟩ (sX8_had e1) ?_
  refine fr_aload_n (pc := 636) dL_law_636 2 rfl rfl ?_
  refine fr_aload_n (pc := 637) dL_law_637 0 rfl rfl ?_
  refine fr_iload_n (pc := 638) dL_law_638 3 rfl rfl ?_
  refine fr_iconst (pc := 639) (v := (1 : Int32)) dL_law_639 (by decide) ?_
  refine fr_iadd (pc := 640) dL_law_640 ?_
  refine fr_sld (pc := 641) dL_law_641 h1 ?_
  refine fr_callVi (pc := 642) (av := [.int (xs (v3 + (1 : Int32)).toNatClampNeg)]) dL_law_642 yy_X9_had kw_871 (k := 73) (by decide) rfl rfl rfl rfl (Nat.le_of_ble_eq_true rfl) ⟨Nat.le_of_ble_eq_true rfl, Nat.le_of_ble_eq_true rfl, Nat.le_of_ble_eq_true rfl, Nat.le_of_ble_eq_true rfl⟩ (sX9_had e2) ?_
  exact fr_icmp_eq (pc := 645) 1477 dL_law_645 (by decide) (fun _ => kk) (fun q => absurd rfl q)
set_option maxRecDepth 100000 in
set_option maxHeartbeats 4000000 in
theorem lc_16 {g : fd_G} {nm : String} {b L : Nat} {xs : Nat → Int32} {hx hm : fd_H} {hm' : fd_H} {v3 : Int32} {r : Int32} (h1 : fd_in (v3 + (1 : Int32)) L = true) (h2 : fd_in (v3 + (2 : Int32)) L = true) (e1 : fX8_stands (xs (v3 + (1 : Int32)).toNatClampNeg) (xs (v3 + (2 : Int32)).toNatClampNeg) hx = some r) (e2 : fX9_stands (xs (v3 + (1 : Int32)).toNatClampNeg) (xs (v3 + (2 : Int32)).toNatClampNeg) hm = some (r, hm')) (kk : fd_A g (mL_law nm) (fd_EL g b L xs) room_1 fd_QL 1477 [(0, .ref b), (1, .ref (g.2.2.2 + 0)), (2, .ref (g.2.2.2 + 73)), (3, .int v3)] [] fd_X0 (fd_mx hx hm') 98 1398) : fd_A g (mL_law nm) (fd_EL g b L xs) room_1 fd_QL 650 [(0, .ref b), (1, .ref (g.2.2.2 + 0)), (2, .ref (g.2.2.2 + 73)), (3, .int v3)] [] fd_X0 (fd_mx hx hm) 98 1398 := by
  refine fr_aload_n (pc := 650) dL_law_650 1 rfl rfl ?_
  refine fr_aload_n (pc := 651) dL_law_651 0 rfl rfl ?_
  refine fr_iload_n (pc := 652) dL_law_652 3 rfl rfl ?_
  refine fr_iconst (pc := 653) (v := (1 : Int32)) dL_law_653 (by decide) ?_
  refine fr_iadd (pc := 654) dL_law_654 ?_
  refine fr_sld (pc := 655) dL_law_655 h1 ?_
  refine fr_aload_n (pc := 656) dL_law_656 0 rfl rfl ?_
  refine fr_iload_n (pc := 657) dL_law_657 3 rfl rfl ?_
  refine fr_iconst (pc := 658) (v := (2 : Int32)) dL_law_658 (by decide) ?_
  refine fr_iadd (pc := 659) dL_law_659 ?_
  refine fr_sld (pc := 660) dL_law_660 h2 ?_
  refine fr_callVi (pc := 661) (av := [.int (xs (v3 + (1 : Int32)).toNatClampNeg), .int (xs (v3 + (2 : Int32)).toNatClampNeg)]) dL_law_661 yy_X8_stands kw_875 (k := 0) (by decide) rfl rfl rfl rfl (Nat.le_of_ble_eq_true rfl) ⟨Nat.le_of_ble_eq_true rfl, Nat.le_of_ble_eq_true rfl, Nat.le_of_ble_eq_true rfl, Nat.le_of_ble_eq_true rfl⟩ (sX8_stands e1) ?_
  refine fr_aload_n (pc := 664) dL_law_664 2 rfl rfl ?_
  refine fr_aload_n (pc := 665) dL_law_665 0 rfl rfl ?_
  refine fr_iload_n (pc := 666) dL_law_666 3 rfl rfl ?_
  refine fr_iconst (pc := 667) (v := (1 : Int32)) dL_law_667 (by decide) ?_
  refine fr_iadd (pc := 668) dL_law_668 ?_
  refine fr_sld (pc := 669) dL_law_669 h1 ?_
  refine fr_aload_n (pc := 670) dL_law_670 0 rfl rfl ?_
  refine fr_iload_n (pc := 671) dL_law_671 3 rfl rfl ?_
  refine fr_iconst (pc := 672) (v := (2 : Int32)) dL_law_672 (by decide) ?_
  refine fr_iadd (pc := 673) dL_law_673 ?_
  refine fr_sld (pc := 674) dL_law_674 h2 ?_
  refine fr_callVi (pc := 675) (av := [.int (xs (v3 + (1 : Int32)).toNatClampNeg), .int (xs (v3 + (2 : Int32)).toNatClampNeg)]) dL_law_675 yy_X9_stands kw_879 (k := 73) (by decide) rfl rfl rfl rfl (Nat.le_of_ble_eq_true rfl) ⟨Nat.le_of_ble_eq_true rfl, Nat.le_of_ble_eq_true rfl, Nat.le_of_ble_eq_true rfl, Nat.le_of_ble_eq_true rfl⟩ (sX9_stands e2) ?_
  exact fr_icmp_eq (pc := 678) 1477 dL_law_678 (by decide) (fun _ => kk) (fun q => absurd rfl q)
set_option maxRecDepth 100000 in
set_option maxHeartbeats 4000000 in
theorem lc_17 {g : fd_G} {nm : String} {b L : Nat} {xs : Nat → Int32} {hx hm : fd_H} {hm' : fd_H} {v3 : Int32} {r : Int32} (h1 : fd_in (v3 + (1 : Int32)) L = true) (h2 : fd_in (v3 + (2 : Int32)) L = true) (e1 : fX8_lasts (xs (v3 + (1 : Int32)).toNatClampNeg) (xs (v3 + (2 : Int32)).toNatClampNeg) hx = some r) (e2 : fX9_lasts (xs (v3 + (1 : Int32)).toNatClampNeg) (xs (v3 + (2 : Int32)).toNatClampNeg) hm = some (r, hm')) (kk : fd_A g (mL_law nm) (fd_EL g b L xs) room_1 fd_QL 1477 [(0, .ref b), (1, .ref (g.2.2.2 + 0)), (2, .ref (g.2.2.2 + 73)), (3, .int v3)] [] fd_X0 (fd_mx hx hm') 98 1398) : fd_A g (mL_law nm) (fd_EL g b L xs) room_1 fd_QL 683 [(0, .ref b), (1, .ref (g.2.2.2 + 0)), (2, .ref (g.2.2.2 + 73)), (3, .int v3)] [] fd_X0 (fd_mx hx hm) 98 1398 := by
  refine fr_aload_n (pc := 683) dL_law_683 1 rfl rfl ?_
  refine fr_aload_n (pc := 684) dL_law_684 0 rfl rfl ?_
  refine fr_iload_n (pc := 685) dL_law_685 3 rfl rfl ?_
  refine fr_iconst (pc := 686) (v := (1 : Int32)) dL_law_686 (by decide) ?_
  refine fr_iadd (pc := 687) dL_law_687 ?_
  refine fr_sld (pc := 688) dL_law_688 h1 ?_
  refine fr_aload_n (pc := 689) dL_law_689 0 rfl rfl ?_
  refine fr_iload_n (pc := 690) dL_law_690 3 rfl rfl ?_
  refine fr_iconst (pc := 691) (v := (2 : Int32)) dL_law_691 (by decide) ?_
  refine fr_iadd (pc := 692) dL_law_692 ?_
  refine fr_sld (pc := 693) dL_law_693 h2 ?_
  refine fr_callVi (pc := 694) (av := [.int (xs (v3 + (1 : Int32)).toNatClampNeg), .int (xs (v3 + (2 : Int32)).toNatClampNeg)]) dL_law_694 yy_X8_lasts kw_880 (k := 0) (by decide) rfl rfl rfl rfl (Nat.le_of_ble_eq_true rfl) ⟨Nat.le_of_ble_eq_true rfl, Nat.le_of_ble_eq_true rfl, Nat.le_of_ble_eq_true rfl, Nat.le_of_ble_eq_true rfl⟩ (sX8_lasts e1) ?_
  refine fr_aload_n (pc := 697) dL_law_697 2 rfl rfl ?_
  refine fr_aload_n (pc := 698) dL_law_698 0 rfl rfl ?_
  refine fr_iload_n (pc := 699) dL_law_699 3 rfl rfl ?_
  refine fr_iconst (pc := 700) (v := (1 : Int32)) dL_law_700 (by decide) ?_
  refine fr_iadd (pc := 701) dL_law_701 ?_
  refine fr_sld (pc := 702) dL_law_702 h1 ?_
  refine fr_aload_n (pc := 703) dL_law_703 0 rfl rfl ?_
  refine fr_iload_n (pc := 704) dL_law_704 3 rfl rfl ?_
  refine fr_iconst (pc := 705) (v := (2 : Int32)) dL_law_705 (by decide) ?_
  refine fr_iadd (pc := 706) dL_law_706 ?_
  refine fr_sld (pc := 707) dL_law_707 h2 ?_
  refine fr_callVi (pc := 708) (av := [.int (xs (v3 + (1 : Int32)).toNatClampNeg), .int (xs (v3 + (2 : Int32)).toNatClampNeg)]) dL_law_708 yy_X9_lasts kw_884 (k := 73) (by decide) rfl rfl rfl rfl (Nat.le_of_ble_eq_true rfl) ⟨Nat.le_of_ble_eq_true rfl, Nat.le_of_ble_eq_true rfl, Nat.le_of_ble_eq_true rfl, Nat.le_of_ble_eq_true rfl⟩ (sX9_lasts e2) ?_
  exact fr_icmp_eq (pc := 711) 1477 dL_law_711 (by decide) (fun _ => kk) (fun q => absurd rfl q)
set_option maxRecDepth 100000 in
set_option maxHeartbeats 4000000 in
theorem lc_18 {g : fd_G} {nm : String} {b L : Nat} {xs : Nat → Int32} {hx hm : fd_H} {hm' : fd_H} {v3 : Int32} {r : Int32} (e1 : fX8_never hx = some r) (e2 : fX9_never hm = some (r, hm')) (kk : fd_A g (mL_law nm) (fd_EL g b L xs) room_1 fd_QL 1477 [(0, .ref b), (1, .ref (g.2.2.2 + 0)), (2, .ref (g.2.2.2 + 73)), (3, .int v3)] [] fd_X0 (fd_mx hx hm') 98 1398) : fd_A g (mL_law nm) (fd_EL g b L xs) room_1 fd_QL 716 [(0, .ref b), (1, .ref (g.2.2.2 + 0)), (2, .ref (g.2.2.2 + 73)), (3, .int v3)] [] fd_X0 (fd_mx hx hm) 98 1398 := by
  refine fr_aload_n (pc := 716) dL_law_716 1 rfl rfl ?_
  refine fr_callVi (pc := 717) (av := []) dL_law_717 yy_X8_never kw_885 (k := 0) (by decide) rfl rfl rfl rfl (Nat.le_of_ble_eq_true rfl) ⟨Nat.le_of_ble_eq_true rfl, Nat.le_of_ble_eq_true rfl, Nat.le_of_ble_eq_true rfl, Nat.le_of_ble_eq_true rfl⟩ (sX8_never e1) ?_
  refine fr_aload_n (pc := 720) dL_law_720 2 rfl rfl ?_
  refine fr_callVi (pc := 721) (av := []) dL_law_721 yy_X9_never kw_889 (k := 73) (by decide) rfl rfl rfl rfl (Nat.le_of_ble_eq_true rfl) ⟨Nat.le_of_ble_eq_true rfl, Nat.le_of_ble_eq_true rfl, Nat.le_of_ble_eq_true rfl, Nat.le_of_ble_eq_true rfl⟩ (sX9_never e2) ?_
  exact fr_icmp_eq (pc := 724) 1477 dL_law_724 (by decide) (fun _ => kk) (fun q => absurd rfl q)
set_option maxRecDepth 100000 in
set_option maxHeartbeats 4000000 in
theorem lc_19 {g : fd_G} {nm : String} {b L : Nat} {xs : Nat → Int32} {hx hm : fd_H} {hm' : fd_H} {v3 : Int32} {r : Int32} (h1 : fd_in (v3 + (1 : Int32)) L = true) (h2 : fd_in (v3 + (2 : Int32)) L = true) (h3 : fd_in (v3 + (3 : Int32)) L = true) (e1 : fX8_owes (xs (v3 + (1 : Int32)).toNatClampNeg) (xs (v3 + (2 : Int32)).toNatClampNeg) (xs (v3 + (3 : Int32)).toNatClampNeg) hx = some r) (e2 : fX9_owes (xs (v3 + (1 : Int32)).toNatClampNeg) (xs (v3 + (2 : Int32)).toNatClampNeg) (xs (v3 + (3 : Int32)).toNatClampNeg) hm = some (r, hm')) (kk : fd_A g (mL_law nm) (fd_EL g b L xs) room_1 fd_QL 1477 [(0, .ref b), (1, .ref (g.2.2.2 + 0)), (2, .ref (g.2.2.2 + 73)), (3, .int v3)] [] fd_X0 (fd_mx hx hm') 98 1398) : fd_A g (mL_law nm) (fd_EL g b L xs) room_1 fd_QL 729 [(0, .ref b), (1, .ref (g.2.2.2 + 0)), (2, .ref (g.2.2.2 + 73)), (3, .int v3)] [] fd_X0 (fd_mx hx hm) 98 1398 := by
  refine fr_aload_n (pc := 729) dL_law_729 1 rfl rfl ?_
  refine fr_aload_n (pc := 730) dL_law_730 0 rfl rfl ?_
  refine fr_iload_n (pc := 731) dL_law_731 3 rfl rfl ?_
  refine fr_iconst (pc := 732) (v := (1 : Int32)) dL_law_732 (by decide) ?_
  refine fr_iadd (pc := 733) dL_law_733 ?_
  refine fr_sld (pc := 734) dL_law_734 h1 ?_
  refine fr_aload_n (pc := 735) dL_law_735 0 rfl rfl ?_
  refine fr_iload_n (pc := 736) dL_law_736 3 rfl rfl ?_
  refine fr_iconst (pc := 737) (v := (2 : Int32)) dL_law_737 (by decide) ?_
  refine fr_iadd (pc := 738) dL_law_738 ?_
  refine fr_sld (pc := 739) dL_law_739 h2 ?_
  refine fr_aload_n (pc := 740) dL_law_740 0 rfl rfl ?_
  refine fr_iload_n (pc := 741) dL_law_741 3 rfl rfl ?_
  refine fr_iconst (pc := 742) (v := (3 : Int32)) dL_law_742 (by decide) ?_
  refine fr_iadd (pc := 743) dL_law_743 ?_
  refine fr_sld (pc := 744) dL_law_744 h3 ?_
  refine fr_callVi (pc := 745) (av := [.int (xs (v3 + (1 : Int32)).toNatClampNeg), .int (xs (v3 + (2 : Int32)).toNatClampNeg), .int (xs (v3 + (3 : Int32)).toNatClampNeg)]) dL_law_745 yy_X8_owes kw_890 (k := 0) (by decide) rfl rfl rfl rfl (Nat.le_of_ble_eq_true rfl) ⟨Nat.le_of_ble_eq_true rfl, Nat.le_of_ble_eq_true rfl, Nat.le_of_ble_eq_true rfl, Nat.le_of_ble_eq_true rfl⟩ (sX8_owes e1) ?_
  refine fr_aload_n (pc := 748) dL_law_748 2 rfl rfl ?_
  refine fr_aload_n (pc := 749) dL_law_749 0 rfl rfl ?_
  refine fr_iload_n (pc := 750) dL_law_750 3 rfl rfl ?_
  refine fr_iconst (pc := 751) (v := (1 : Int32)) dL_law_751 (by decide) ?_
  refine fr_iadd (pc := 752) dL_law_752 ?_
  refine fr_sld (pc := 753) dL_law_753 h1 ?_
  refine fr_aload_n (pc := 754) dL_law_754 0 rfl rfl ?_
  refine fr_iload_n (pc := 755) dL_law_755 3 rfl rfl ?_
  refine fr_iconst (pc := 756) (v := (2 : Int32)) dL_law_756 (by decide) ?_
  refine fr_iadd (pc := 757) dL_law_757 ?_
  refine fr_sld (pc := 758) dL_law_758 h2 ?_
  refine fr_aload_n (pc := 759) dL_law_759 0 rfl rfl ?_
  refine fr_iload_n (pc := 760) dL_law_760 3 rfl rfl ?_
  refine fr_iconst (pc := 761) (v := (3 : Int32)) dL_law_761 (by decide) ?_
  refine fr_iadd (pc := 762) dL_law_762 ?_
  refine fr_sld (pc := 763) dL_law_763 h3 ?_
  refine fr_callVi (pc := 764) (av := [.int (xs (v3 + (1 : Int32)).toNatClampNeg), .int (xs (v3 + (2 : Int32)).toNatClampNeg), .int (xs (v3 + (3 : Int32)).toNatClampNeg)]) dL_law_764 yy_X9_owes kw_894 (k := 73) (by decide) rfl rfl rfl rfl (Nat.le_of_ble_eq_true rfl) ⟨Nat.le_of_ble_eq_true rfl, Nat.le_of_ble_eq_true rfl, Nat.le_of_ble_eq_true rfl, Nat.le_of_ble_eq_true rfl⟩ (sX9_owes e2) ?_
  exact fr_icmp_eq (pc := 767) 1477 dL_law_767 (by decide) (fun _ => kk) (fun q => absurd rfl q)
set_option maxRecDepth 100000 in
set_option maxHeartbeats 4000000 in
theorem lc_20 {g : fd_G} {nm : String} {b L : Nat} {xs : Nat → Int32} {hx hm : fd_H} {hm' : fd_H} {v3 : Int32} {r : Int32} (h1 : fd_in (v3 + (1 : Int32)) L = true) (e1 : fX8_hangs (xs (v3 + (1 : Int32)).toNatClampNeg) hx = some r) (e2 : fX9_hangs (xs (v3 + (1 : Int32)).toNatClampNeg) hm = some (r, hm')) (kk : fd_A g (mL_law nm) (fd_EL g b L xs) room_1 fd_QL 1477 [(0, .ref b), (1, .ref (g.2.2.2 + 0)), (2, .ref (g.2.2.2 + 73)), (3, .int v3)] [] fd_X0 (fd_mx hx hm') 98 1398) : fd_A g (mL_law nm) (fd_EL g b L xs) room_1 fd_QL 772 [(0, .ref b), (1, .ref (g.2.2.2 + 0)), (2, .ref (g.2.2.2 + 73)), (3, .int v3)] [] fd_X0 (fd_mx hx hm) 98 1398 := by
  refine fr_aload_n (pc := 772) dL_law_772 1 rfl rfl ?_
  refine fr_aload_n (pc := 773) dL_law_773 0 rfl rfl ?_
  refine fr_iload_n (pc := 774) dL_law_774 3 rfl rfl ?_
  refine fr_iconst (pc := 775) (v := (1 : Int32)) dL_law_775 (by decide) ?_
  refine fr_iadd (pc := 776) dL_law_776 ?_
  refine fr_sld (pc := 777) dL_law_777 h1 ?_
  refine fr_callVi (pc := 778) (av := [.int (xs (v3 + (1 : Int32)).toNatClampNeg)]) dL_law_778 yy_X8_hangs kw_895 (k := 0) (by decide) rfl rfl rfl rfl (Nat.le_of_ble_eq_true rfl) ⟨Nat.le_of_ble_eq_true rfl, Nat.le_of_ble_eq_true rfl, Nat.le_of_ble_eq_true rfl, Nat.le_of_ble_eq_true rfl⟩ (sX8_hangs e1) ?_
  refine fr_aload_n (pc := 781) dL_law_781 2 rfl rfl ?_
  refine fr_aload_n (pc := 782) dL_law_782 0 rfl rfl ?_
  refine fr_iload_n (pc := 783) dL_law_783 3 rfl rfl ?_
  refine fr_iconst (pc := 784) (v := (1 : Int32)) dL_law_784 (by decide) ?_
  refine fr_iadd (pc := 785) dL_law_785 ?_
  refine fr_sld (pc := 786) dL_law_786 h1 ?_
  refine fr_callVi (pc := 787) (av := [.int (xs (v3 + (1 : Int32)).toNatClampNeg)]) dL_law_787 yy_X9_hangs kw_899 (k := 73) (by decide) rfl rfl rfl rfl (Nat.le_of_ble_eq_true rfl) ⟨Nat.le_of_ble_eq_true rfl, Nat.le_of_ble_eq_true rfl, Nat.le_of_ble_eq_true rfl, Nat.le_of_ble_eq_true rfl⟩ (sX9_hangs e2) ?_
  exact fr_icmp_eq (pc := 790) 1477 dL_law_790 (by decide) (fun _ => kk) (fun q => absurd rfl q)
set_option maxRecDepth 100000 in
set_option maxHeartbeats 4000000 in
theorem lc_21 {g : fd_G} {nm : String} {b L : Nat} {xs : Nat → Int32} {hx hm : fd_H} {hm' : fd_H} {v3 : Int32} {r : Int32} (h1 : fd_in (v3 + (1 : Int32)) L = true) (h2 : fd_in (v3 + (2 : Int32)) L = true) (e1 : fX8_free (xs (v3 + (1 : Int32)).toNatClampNeg) (xs (v3 + (2 : Int32)).toNatClampNeg) hx = some r) (e2 : fX9_free (xs (v3 + (1 : Int32)).toNatClampNeg) (xs (v3 + (2 : Int32)).toNatClampNeg) hm = some (r, hm')) (kk : fd_A g (mL_law nm) (fd_EL g b L xs) room_1 fd_QL 1477 [(0, .ref b), (1, .ref (g.2.2.2 + 0)), (2, .ref (g.2.2.2 + 73)), (3, .int v3)] [] fd_X0 (fd_mx hx hm') 98 1398) : fd_A g (mL_law nm) (fd_EL g b L xs) room_1 fd_QL 795 [(0, .ref b), (1, .ref (g.2.2.2 + 0)), (2, .ref (g.2.2.2 + 73)), (3, .int v3)] [] fd_X0 (fd_mx hx hm) 98 1398 := by
  refine fr_aload_n (pc := 795) dL_law_795 1 rfl rfl ?_
  refine fr_aload_n (pc := 796) dL_law_796 0 rfl rfl ?_
  refine fr_iload_n (pc := 797) dL_law_797 3 rfl rfl ?_
  refine fr_iconst (pc := 798) (v := (1 : Int32)) dL_law_798 (by decide) ?_
  refine fr_iadd (pc := 799) dL_law_799 ?_
  refine fr_sld (pc := 800) dL_law_800 h1 ?_
  refine fr_aload_n (pc := 801) dL_law_801 0 rfl rfl ?_
  refine fr_iload_n (pc := 802) dL_law_802 3 rfl rfl ?_
  refine fr_iconst (pc := 803) (v := (2 : Int32)) dL_law_803 (by decide) ?_
  refine fr_iadd (pc := 804) dL_law_804 ?_
  refine fr_sld (pc := 805) dL_law_805 h2 ?_
  refine fr_callVi (pc := 806) (av := [.int (xs (v3 + (1 : Int32)).toNatClampNeg), .int (xs (v3 + (2 : Int32)).toNatClampNeg)]) dL_law_806 yy_X8_free kw_900 (k := 0) (by decide) rfl rfl rfl rfl (Nat.le_of_ble_eq_true rfl) ⟨Nat.le_of_ble_eq_true rfl, Nat.le_of_ble_eq_true rfl, Nat.le_of_ble_eq_true rfl, Nat.le_of_ble_eq_true rfl⟩ (sX8_free e1) ?_
  refine fr_aload_n (pc := 809) dL_law_809 2 rfl rfl ?_
  refine fr_aload_n (pc := 810) dL_law_810 0 rfl rfl ?_
  refine fr_iload_n (pc := 811) dL_law_811 3 rfl rfl ?_
  refine fr_iconst (pc := 812) (v := (1 : Int32)) dL_law_812 (by decide) ?_
  refine fr_iadd (pc := 813) dL_law_813 ?_
  refine fr_sld (pc := 814) dL_law_814 h1 ?_
  refine fr_aload_n (pc := 815) dL_law_815 0 rfl rfl ?_
  refine fr_iload_n (pc := 816) dL_law_816 3 rfl rfl ?_
  refine fr_iconst (pc := 817) (v := (2 : Int32)) dL_law_817 (by decide) ?_
  refine fr_iadd (pc := 818) dL_law_818 ?_
  refine fr_sld (pc := 819) dL_law_819 h2 ?_
  refine fr_callVi (pc := 820) (av := [.int (xs (v3 + (1 : Int32)).toNatClampNeg), .int (xs (v3 + (2 : Int32)).toNatClampNeg)]) dL_law_820 yy_X9_free kw_904 (k := 73) (by decide) rfl rfl rfl rfl (Nat.le_of_ble_eq_true rfl) ⟨Nat.le_of_ble_eq_true rfl, Nat.le_of_ble_eq_true rfl, Nat.le_of_ble_eq_true rfl, Nat.le_of_ble_eq_true rfl⟩ (sX9_free e2) ?_
  exact fr_icmp_eq (pc := 823) 1477 dL_law_823 (by decide) (fun _ => kk) (fun q => absurd rfl q)
set_option maxRecDepth 100000 in
set_option maxHeartbeats 4000000 in
theorem lc_22 {g : fd_G} {nm : String} {b L : Nat} {xs : Nat → Int32} {hx hm : fd_H} {hm' : fd_H} {v3 : Int32} {r : Int32} (h1 : fd_in (v3 + (1 : Int32)) L = true) (h2 : fd_in (v3 + (2 : Int32)) L = true) (h3 : fd_in (v3 + (3 : Int32)) L = true) (e1 : fX8_where (xs (v3 + (1 : Int32)).toNatClampNeg) (xs (v3 + (2 : Int32)).toNatClampNeg) (xs (v3 + (3 : Int32)).toNatClampNeg) hx = some r) (e2 : fX9_where (xs (v3 + (1 : Int32)).toNatClampNeg) (xs (v3 + (2 : Int32)).toNatClampNeg) (xs (v3 + (3 : Int32)).toNatClampNeg) hm = some (r, hm')) (kk : fd_A g (mL_law nm) (fd_EL g b L xs) room_1 fd_QL 1477 [(0, .ref b), (1, .ref (g.2.2.2 + 0)), (2, .ref (g.2.2.2 + 73)), (3, .int v3)] [] fd_X0 (fd_mx hx hm') 98 1398) : fd_A g (mL_law nm) (fd_EL g b L xs) room_1 fd_QL 828 [(0, .ref b), (1, .ref (g.2.2.2 + 0)), (2, .ref (g.2.2.2 + 73)), (3, .int v3)] [] fd_X0 (fd_mx hx hm) 98 1398 := by
  refine fr_aload_n (pc := 828) dL_law_828 1 rfl rfl ?_
  refine fr_aload_n (pc := 829) dL_law_829 0 rfl rfl ?_
  refine fr_iload_n (pc := 830) dL_law_830 3 rfl rfl ?_
  refine fr_iconst (pc := 831) (v := (1 : Int32)) dL_law_831 (by decide) ?_
  refine fr_iadd (pc := 832) dL_law_832 ?_
  refine fr_sld (pc := 833) dL_law_833 h1 ?_
  refine fr_aload_n (pc := 834) dL_law_834 0 rfl rfl ?_
  refine fr_iload_n (pc := 835) dL_law_835 3 rfl rfl ?_
  refine fr_iconst (pc := 836) (v := (2 : Int32)) dL_law_836 (by decide) ?_
  refine fr_iadd (pc := 837) dL_law_837 ?_
  refine fr_sld (pc := 838) dL_law_838 h2 ?_
  refine fr_aload_n (pc := 839) dL_law_839 0 rfl rfl ?_
  refine fr_iload_n (pc := 840) dL_law_840 3 rfl rfl ?_
  refine fr_iconst (pc := 841) (v := (3 : Int32)) dL_law_841 (by decide) ?_
  refine fr_iadd (pc := 842) dL_law_842 ?_
  refine fr_sld (pc := 843) dL_law_843 h3 ?_
  refine fr_callVi (pc := 844) (av := [.int (xs (v3 + (1 : Int32)).toNatClampNeg), .int (xs (v3 + (2 : Int32)).toNatClampNeg), .int (xs (v3 + (3 : Int32)).toNatClampNeg)]) dL_law_844 yy_X8_where kw_905 (k := 0) (by decide) rfl rfl rfl rfl (Nat.le_of_ble_eq_true rfl) ⟨Nat.le_of_ble_eq_true rfl, Nat.le_of_ble_eq_true rfl, Nat.le_of_ble_eq_true rfl, Nat.le_of_ble_eq_true rfl⟩ (sX8_where e1) ?_
  refine fr_aload_n (pc := 847) dL_law_847 2 rfl rfl ?_
  refine fr_aload_n (pc := 848) dL_law_848 0 rfl rfl ?_
  refine fr_iload_n (pc := 849) dL_law_849 3 rfl rfl ?_
  refine fr_iconst (pc := 850) (v := (1 : Int32)) dL_law_850 (by decide) ?_
  refine fr_iadd (pc := 851) dL_law_851 ?_
  refine fr_sld (pc := 852) dL_law_852 h1 ?_
  refine fr_aload_n (pc := 853) dL_law_853 0 rfl rfl ?_
  refine fr_iload_n (pc := 854) dL_law_854 3 rfl rfl ?_
  refine fr_iconst (pc := 855) (v := (2 : Int32)) dL_law_855 (by decide) ?_
  refine fr_iadd (pc := 856) dL_law_856 ?_
  refine fr_sld (pc := 857) dL_law_857 h2 ?_
  refine fr_aload_n (pc := 858) dL_law_858 0 rfl rfl ?_
  refine fr_iload_n (pc := 859) dL_law_859 3 rfl rfl ?_
  refine fr_iconst (pc := 860) (v := (3 : Int32)) dL_law_860 (by decide) ?_
  refine fr_iadd (pc := 861) dL_law_861 ?_
  refine fr_sld (pc := 862) dL_law_862 h3 ?_
  refine fr_callVi (pc := 863) (av := [.int (xs (v3 + (1 : Int32)).toNatClampNeg), .int (xs (v3 + (2 : Int32)).toNatClampNeg), .int (xs (v3 + (3 : Int32)).toNatClampNeg)]) dL_law_863 yy_X9_where kw_909 (k := 73) (by decide) rfl rfl rfl rfl (Nat.le_of_ble_eq_true rfl) ⟨Nat.le_of_ble_eq_true rfl, Nat.le_of_ble_eq_true rfl, Nat.le_of_ble_eq_true rfl, Nat.le_of_ble_eq_true rfl⟩ (sX9_where e2) ?_
  exact fr_icmp_eq (pc := 866) 1477 dL_law_866 (by decide) (fun _ => kk) (fun q => absurd rfl q)
set_option maxRecDepth 100000 in
set_option maxHeartbeats 4000000 in
theorem lc_23 {g : fd_G} {nm : String} {b L : Nat} {xs : Nat → Int32} {hx hm : fd_H} {hm' : fd_H} {v3 : Int32} {r : Int32} (h1 : fd_in (v3 + (1 : Int32)) L = true) (h2 : fd_in (v3 + (2 : Int32)) L = true) (h3 : fd_in (v3 + (3 : Int32)) L = true) (e1 : fX8_keep (xs (v3 + (1 : Int32)).toNatClampNeg) (xs (v3 + (2 : Int32)).toNatClampNeg) (xs (v3 + (3 : Int32)).toNatClampNeg) hx = some r) (e2 : fX9_keep (xs (v3 + (1 : Int32)).toNatClampNeg) (xs (v3 + (2 : Int32)).toNatClampNeg) (xs (v3 + (3 : Int32)).toNatClampNeg) hm = some (r, hm')) (kk : fd_A g (mL_law nm) (fd_EL g b L xs) room_1 fd_QL 1477 [(0, .ref b), (1, .ref (g.2.2.2 + 0)), (2, .ref (g.2.2.2 + 73)), (3, .int v3)] [] fd_X0 (fd_mx hx hm') 98 1398) : fd_A g (mL_law nm) (fd_EL g b L xs) room_1 fd_QL 871 [(0, .ref b), (1, .ref (g.2.2.2 + 0)), (2, .ref (g.2.2.2 + 73)), (3, .int v3)] [] fd_X0 (fd_mx hx hm) 98 1398 := by
  refine fr_aload_n (pc := 871) dL_law_871 1 rfl rfl ?_
  refine fr_aload_n (pc := 872) dL_law_872 0 rfl rfl ?_
  refine fr_iload_n (pc := 873) dL_law_873 3 rfl rfl ?_
  refine fr_iconst (pc := 874) (v := (1 : Int32)) dL_law_874 (by decide) ?_
  refine fr_iadd (pc := 875) dL_law_875 ?_
  refine fr_sld (pc := 876) dL_law_876 h1 ?_
  refine fr_aload_n (pc := 877) dL_law_877 0 rfl rfl ?_
  refine fr_iload_n (pc := 878) dL_law_878 3 rfl rfl ?_
  refine fr_iconst (pc := 879) (v := (2 : Int32)) dL_law_879 (by decide) ?_
  refine fr_iadd (pc := 880) dL_law_880 ?_
  refine fr_sld (pc := 881) dL_law_881 h2 ?_
  refine fr_aload_n (pc := 882) dL_law_882 0 rfl rfl ?_
  refine fr_iload_n (pc := 883) dL_law_883 3 rfl rfl ?_
  refine fr_iconst (pc := 884) (v := (3 : Int32)) dL_law_884 (by decide) ?_
  refine fr_iadd (pc := 885) dL_law_885 ?_
  refine fr_sld (pc := 886) dL_law_886 h3 ?_
  refine fr_callVi (pc := 887) (av := [.int (xs (v3 + (1 : Int32)).toNatClampNeg), .int (xs (v3 + (2 : Int32)).toNatClampNeg), .int (xs (v3 + (3 : Int32)).toNatClampNeg)]) dL_law_887 yy_X8_keep kw_910 (k := 0) (by decide) rfl rfl rfl rfl (Nat.le_of_ble_eq_true rfl) ⟨Nat.le_of_ble_eq_true rfl, Nat.le_of_ble_eq_true rfl, Nat.le_of_ble_eq_true rfl, Nat.le_of_ble_eq_true rfl⟩ (sX8_keep e1) ?_
  refine fr_aload_n (pc := 890) dL_law_890 2 rfl rfl ?_
  refine fr_aload_n (pc := 891) dL_law_891 0 rfl rfl ?_
  refine fr_iload_n (pc := 892) dL_law_892 3 rfl rfl ?_
  refine fr_iconst (pc := 893) (v := (1 : Int32)) dL_law_893 (by decide) ?_
  refine fr_iadd (pc := 894) dL_law_894 ?_
  refine fr_sld (pc := 895) dL_law_895 h1 ?_
  refine fr_aload_n (pc := 896) dL_law_896 0 rfl rfl ?_
  refine fr_iload_n (pc := 897) dL_law_897 3 rfl rfl ?_
  refine fr_iconst (pc := 898) (v := (2 : Int32)) dL_law_898 (by decide) ?_
  refine fr_iadd (pc := 899) dL_law_899 ?_
  refine fr_sld (pc := 900) dL_law_900 h2 ?_
  refine fr_aload_n (pc := 901) dL_law_901 0 rfl rfl ?_
  refine fr_iload_n (pc := 902) dL_law_902 3 rfl rfl ?_
  refine fr_iconst (pc := 903) (v := (3 : Int32)) dL_law_903 (by decide) ?_
  refine fr_iadd (pc := 904) dL_law_904 ?_
  refine fr_sld (pc := 905) dL_law_905 h3 ?_
  refine fr_callVi (pc := 906) (av := [.int (xs (v3 + (1 : Int32)).toNatClampNeg), .int (xs (v3 + (2 : Int32)).toNatClampNeg), .int (xs (v3 + (3 : Int32)).toNatClampNeg)]) dL_law_906 yy_X9_keep kw_914 (k := 73) (by decide) rfl rfl rfl rfl (Nat.le_of_ble_eq_true rfl) ⟨Nat.le_of_ble_eq_true rfl, Nat.le_of_ble_eq_true rfl, Nat.le_of_ble_eq_true rfl, Nat.le_of_ble_eq_true rfl⟩ (sX9_keep e2) ?_
  exact fr_icmp_eq (pc := 909) 1477 dL_law_909 (by decide) (fun _ => kk) (fun q => absurd rfl q)
set_option maxRecDepth 100000 in
set_option maxHeartbeats 4000000 in
theorem lc_24 {g : fd_G} {nm : String} {b L : Nat} {xs : Nat → Int32} {hx hm : fd_H} {hm' : fd_H} {v3 : Int32} {r : Int32} (h1 : fd_in (v3 + (1 : Int32)) L = true) (h2 : fd_in (v3 + (2 : Int32)) L = true) (h3 : fd_in (v3 + (3 : Int32)) L = true) (e1 : fX8_carry (xs (v3 + (1 : Int32)).toNatClampNeg) (xs (v3 + (2 : Int32)).toNatClampNeg) (xs (v3 + (3 : Int32)).toNatClampNeg) hx = some r) (e2 : fX9_carry (xs (v3 + (1 : Int32)).toNatClampNeg) (xs (v3 + (2 : Int32)).toNatClampNeg) (xs (v3 + (3 : Int32)).toNatClampNeg) hm = some (r, hm')) (kk : fd_A g (mL_law nm) (fd_EL g b L xs) room_1 fd_QL 1477 [(0, .ref b), (1, .ref (g.2.2.2 + 0)), (2, .ref (g.2.2.2 + 73)), (3, .int v3)] [] fd_X0 (fd_mx hx hm') 98 1398) : fd_A g (mL_law nm) (fd_EL g b L xs) room_1 fd_QL 914 [(0, .ref b), (1, .ref (g.2.2.2 + 0)), (2, .ref (g.2.2.2 + 73)), (3, .int v3)] [] fd_X0 (fd_mx hx hm) 98 1398 := by
  refine fr_aload_n (pc := 914) dL_law_914 1 rfl rfl ?_
  refine fr_aload_n (pc := 915) dL_law_915 0 rfl rfl ?_
  refine fr_iload_n (pc := 916) dL_law_916 3 rfl rfl ?_
  refine fr_iconst (pc := 917) (v := (1 : Int32)) dL_law_917 (by decide) ?_
  refine fr_iadd (pc := 918) dL_law_918 ?_
  refine fr_sld (pc := 919) dL_law_919 h1 ?_
  refine fr_aload_n (pc := 920) dL_law_920 0 rfl rfl ?_
  refine fr_iload_n (pc := 921) dL_law_921 3 rfl rfl ?_
  refine fr_iconst (pc := 922) (v := (2 : Int32)) dL_law_922 (by decide) ?_
  refine fr_iadd (pc := 923) dL_law_923 ?_
  refine fr_sld (pc := 924) dL_law_924 h2 ?_
  refine fr_aload_n (pc := 925) dL_law_925 0 rfl rfl ?_
  refine fr_iload_n (pc := 926) dL_law_926 3 rfl rfl ?_
  refine fr_iconst (pc := 927) (v := (3 : Int32)) dL_law_927 (by decide) ?_
  refine fr_iadd (pc := 928) dL_law_928 ?_
  refine fr_sld (pc := 929) dL_law_929 h3 ?_
  refine fr_callVi (pc := 930) (av := [.int (xs (v3 + (1 : Int32)).toNatClampNeg), .int (xs (v3 + (2 : Int32)).toNatClampNeg), .int (xs (v3 + (3 : Int32)).toNatClampNeg)]) dL_law_930 yy_X8_carry kw_915 (k := 0) (by decide) rfl rfl rfl rfl (Nat.le_of_ble_eq_true rfl) ⟨Nat.le_of_ble_eq_true rfl, Nat.le_of_ble_eq_true rfl, Nat.le_of_ble_eq_true rfl, Nat.le_of_ble_eq_true rfl⟩ (sX8_carry e1) ?_
  refine fr_aload_n (pc := 933) dL_law_933 2 rfl rfl ?_
  refine fr_aload_n (pc := 934) dL_law_934 0 rfl rfl ?_
  refine fr_iload_n (pc := 935) dL_law_935 3 rfl rfl ?_
  refine fr_iconst (pc := 936) (v := (1 : Int32)) dL_law_936 (by decide) ?_
  refine fr_iadd (pc := 937) dL_law_937 ?_
  refine fr_sld (pc := 938) dL_law_938 h1 ?_
  refine fr_aload_n (pc := 939) dL_law_939 0 rfl rfl ?_
  refine fr_iload_n (pc := 940) dL_law_940 3 rfl rfl ?_
  refine fr_iconst (pc := 941) (v := (2 : Int32)) dL_law_941 (by decide) ?_
  refine fr_iadd (pc := 942) dL_law_942 ?_
  refine fr_sld (pc := 943) dL_law_943 h2 ?_
  refine fr_aload_n (pc := 944) dL_law_944 0 rfl rfl ?_
  refine fr_iload_n (pc := 945) dL_law_945 3 rfl rfl ?_
  refine fr_iconst (pc := 946) (v := (3 : Int32)) dL_law_946 (by decide) ?_
  refine fr_iadd (pc := 947) dL_law_947 ?_
  refine fr_sld (pc := 948) dL_law_948 h3 ?_
  refine fr_callVi (pc := 949) (av := [.int (xs (v3 + (1 : Int32)).toNatClampNeg), .int (xs (v3 + (2 : Int32)).toNatClampNeg), .int (xs (v3 + (3 : Int32)).toNatClampNeg)]) dL_law_949 yy_X9_carry kw_916 (k := 73) (by decide) rfl rfl rfl rfl (Nat.le_of_ble_eq_true rfl) ⟨Nat.le_of_ble_eq_true rfl, Nat.le_of_ble_eq_true rfl, Nat.le_of_ble_eq_true rfl, Nat.le_of_ble_eq_true rfl⟩ (sX9_carry e2) ?_
  exact fr_icmp_eq (pc := 952) 1477 dL_law_952 (by decide) (fun _ => kk) (fun q => absurd rfl q)
set_option maxRecDepth 100000 in
set_option maxHeartbeats 4000000 in
theorem lc_25 {g : fd_G} {nm : String} {b L : Nat} {xs : Nat → Int32} {hx hm : fd_H} {hx' : fd_H} {hm' : fd_H} {v3 : Int32} {r : Int32} (h1 : fd_in (v3 + (1 : Int32)) L = true) (h2 : fd_in (v3 + (2 : Int32)) L = true) (h3 : fd_in (v3 + (3 : Int32)) L = true) (e1 : fX8_seen (xs (v3 + (1 : Int32)).toNatClampNeg) (xs (v3 + (2 : Int32)).toNatClampNeg) (xs (v3 + (3 : Int32)).toNatClampNeg) hx = some (r, hx')) (e2 : fX9_seen (xs (v3 + (1 : Int32)).toNatClampNeg) (xs (v3 + (2 : Int32)).toNatClampNeg) (xs (v3 + (3 : Int32)).toNatClampNeg) hm = some (r, hm')) (kk : fd_A g (mL_law nm) (fd_EL g b L xs) room_1 fd_QL 1477 [(0, .ref b), (1, .ref (g.2.2.2 + 0)), (2, .ref (g.2.2.2 + 73)), (3, .int v3)] [] fd_X0 (fd_mx hx' hm') 98 1398) : fd_A g (mL_law nm) (fd_EL g b L xs) room_1 fd_QL 957 [(0, .ref b), (1, .ref (g.2.2.2 + 0)), (2, .ref (g.2.2.2 + 73)), (3, .int v3)] [] fd_X0 (fd_mx hx hm) 98 1398 := by
  refine fr_aload_n (pc := 957) dL_law_957 1 rfl rfl ?_
  refine fr_aload_n (pc := 958) dL_law_958 0 rfl rfl ?_
  refine fr_iload_n (pc := 959) dL_law_959 3 rfl rfl ?_
  refine fr_iconst (pc := 960) (v := (1 : Int32)) dL_law_960 (by decide) ?_
  refine fr_iadd (pc := 961) dL_law_961 ?_
  refine fr_sld (pc := 962) dL_law_962 h1 ?_
  refine fr_aload_n (pc := 963) dL_law_963 0 rfl rfl ?_
  refine fr_iload_n (pc := 964) dL_law_964 3 rfl rfl ?_
  refine fr_iconst (pc := 965) (v := (2 : Int32)) dL_law_965 (by decide) ?_
  refine fr_iadd (pc := 966) dL_law_966 ?_
  refine fr_sld (pc := 967) dL_law_967 h2 ?_
  refine fr_aload_n (pc := 968) dL_law_968 0 rfl rfl ?_
  refine fr_iload_n (pc := 969) dL_law_969 3 rfl rfl ?_
  refine fr_iconst (pc := 970) (v := (3 : Int32)) dL_law_970 (by decide) ?_
  refine fr_iadd (pc := 971) dL_law_971 ?_
  refine fr_sld (pc := 972) dL_law_972 h3 ?_
  refine fr_callVi (pc := 973) (av := [.int (xs (v3 + (1 : Int32)).toNatClampNeg), .int (xs (v3 + (2 : Int32)).toNatClampNeg), .int (xs (v3 + (3 : Int32)).toNatClampNeg)]) dL_law_973 yy_X8_seen kw_917 (k := 0) (by decide) rfl rfl rfl rfl (Nat.le_of_ble_eq_true rfl) ⟨Nat.le_of_ble_eq_true rfl, Nat.le_of_ble_eq_true rfl, Nat.le_of_ble_eq_true rfl, Nat.le_of_ble_eq_true rfl⟩ (sX8_seen e1) ?_
  refine fr_aload_n (pc := 976) dL_law_976 2 rfl rfl ?_
  refine fr_aload_n (pc := 977) dL_law_977 0 rfl rfl ?_
  refine fr_iload_n (pc := 978) dL_law_978 3 rfl rfl ?_
  refine fr_iconst (pc := 979) (v := (1 : Int32)) dL_law_979 (by decide) ?_
  refine fr_iadd (pc := 980) dL_law_980 ?_
  refine fr_sld (pc := 981) dL_law_981 h1 ?_
  refine fr_aload_n (pc := 982) dL_law_982 0 rfl rfl ?_
  refine fr_iload_n (pc := 983) dL_law_983 3 rfl rfl ?_
  refine fr_iconst (pc := 984) (v := (2 : Int32)) dL_law_984 (by decide) ?_
  refine fr_iadd (pc := 985) dL_law_985 ?_
  refine fr_sld (pc := 986) dL_law_986 h2 ?_
  refine fr_aload_n (pc := 987) dL_law_987 0 rfl rfl ?_
  refine fr_iload_n (pc := 988) dL_law_988 3 rfl rfl ?_
  refine fr_iconst (pc := 989) (v := (3 : Int32)) dL_law_989 (by decide) ?_
  refine fr_iadd (pc := 990) dL_law_990 ?_
  refine fr_sld (pc := 991) dL_law_991 h3 ?_
  refine fr_callVi (pc := 992) (av := [.int (xs (v3 + (1 : Int32)).toNatClampNeg), .int (xs (v3 + (2 : Int32)).toNatClampNeg), .int (xs (v3 + (3 : Int32)).toNatClampNeg)]) dL_law_992 yy_X9_seen kw_918 (k := 73) (by decide) rfl rfl rfl rfl (Nat.le_of_ble_eq_true rfl) ⟨Nat.le_of_ble_eq_true rfl, Nat.le_of_ble_eq_true rfl, Nat.le_of_ble_eq_true rfl, Nat.le_of_ble_eq_true rfl⟩ (sX9_seen e2) ?_
  exact fr_icmp_eq (pc := 995) 1477 dL_law_995 (by decide) (fun _ => kk) (fun q => absurd rfl q)
set_option maxRecDepth 100000 in
set_option maxHeartbeats 4000000 in
theorem lc_26 {g : fd_G} {nm : String} {b L : Nat} {xs : Nat → Int32} {hx hm : fd_H} {hx' : fd_H} {hm' : fd_H} {v3 : Int32} {r : Int32} (e1 : fX8_forget hx = some (r, hx')) (e2 : fX9_forget hm = some (r, hm')) (kk : fd_A g (mL_law nm) (fd_EL g b L xs) room_1 fd_QL 1477 [(0, .ref b), (1, .ref (g.2.2.2 + 0)), (2, .ref (g.2.2.2 + 73)), (3, .int v3)] [] fd_X0 (fd_mx hx' hm') 98 1398) : fd_A g (mL_law nm) (fd_EL g b L xs) room_1 fd_QL 1000 [(0, .ref b), (1, .ref (g.2.2.2 + 0)), (2, .ref (g.2.2.2 + 73)), (3, .int v3)] [] fd_X0 (fd_mx hx hm) 98 1398 := by
  refine fr_aload_n (pc := 1000) dL_law_1000 1 rfl rfl ?_
  refine fr_callVi (pc := 1001) (av := []) dL_law_1001 yy_X8_forget kw_922 (k := 0) (by decide) rfl rfl rfl rfl (Nat.le_of_ble_eq_true rfl) ⟨Nat.le_of_ble_eq_true rfl, Nat.le_of_ble_eq_true rfl, Nat.le_of_ble_eq_true rfl, Nat.le_of_ble_eq_true rfl⟩ (sX8_forget e1) ?_
  refine fr_aload_n (pc := 1004) dL_law_1004 2 rfl rfl ?_
  refine fr_callVi (pc := 1005) (av := []) dL_law_1005 yy_X9_forget kw_926 (k := 73) (by decide) rfl rfl rfl rfl (Nat.le_of_ble_eq_true rfl) ⟨Nat.le_of_ble_eq_true rfl, Nat.le_of_ble_eq_true rfl, Nat.le_of_ble_eq_true rfl, Nat.le_of_ble_eq_true rfl⟩ (sX9_forget e2) ?_
  exact fr_icmp_eq (pc := 1008) 1477 dL_law_1008 (by decide) (fun _ => kk) (fun q => absurd rfl q)
set_option maxRecDepth 100000 in
set_option maxHeartbeats 4000000 in
theorem lc_27 {g : fd_G} {nm : String} {b L : Nat} {xs : Nat → Int32} {hx hm : fd_H} {hx' : fd_H} {hm' : fd_H} {v3 : Int32} {r : Int32} (h1 : fd_in (v3 + (1 : Int32)) L = true) (e1 : fX8_read (xs (v3 + (1 : Int32)).toNatClampNeg) hx = some (r, hx')) (e2 : fX9_read (xs (v3 + (1 : Int32)).toNatClampNeg) hm = some (r, hm')) (kk : fd_A g (mL_law nm) (fd_EL g b L xs) room_1 fd_QL 1477 [(0, .ref b), (1, .ref (g.2.2.2 + 0)), (2, .ref (g.2.2.2 + 73)), (3, .int v3)] [] fd_X0 (fd_mx hx' hm') 98 1398) : fd_A g (mL_law nm) (fd_EL g b L xs) room_1 fd_QL 1013 [(0, .ref b), (1, .ref (g.2.2.2 + 0)), (2, .ref (g.2.2.2 + 73)), (3, .int v3)] [] fd_X0 (fd_mx hx hm) 98 1398 := by
  refine fr_aload_n (pc := 1013) dL_law_1013 1 rfl rfl ?_
  refine fr_aload_n (pc := 1014) dL_law_1014 0 rfl rfl ?_
  refine fr_iload_n (pc := 1015) dL_law_1015 3 rfl rfl ?_
  refine fr_iconst (pc := 1016) (v := (1 : Int32)) dL_law_1016 (by decide) ?_
  refine fr_iadd (pc := 1017) dL_law_1017 ?_
  refine fr_sld (pc := 1018) dL_law_1018 h1 ?_
  refine fr_callVi (pc := 1019) (av := [.int (xs (v3 + (1 : Int32)).toNatClampNeg)]) dL_law_1019 yy_X8_read kw_930 (k := 0) (by decide) rfl rfl rfl rfl (Nat.le_of_ble_eq_true rfl) ⟨Nat.le_of_ble_eq_true rfl, Nat.le_of_ble_eq_true rfl, Nat.le_of_ble_eq_true rfl, Nat.le_of_ble_eq_true rfl⟩ (sX8_read e1) ?_
  refine fr_aload_n (pc := 1022) dL_law_1022 2 rfl rfl ?_
  refine fr_aload_n (pc := 1023) dL_law_1023 0 rfl rfl ?_
  refine fr_iload_n (pc := 1024) dL_law_1024 3 rfl rfl ?_
  refine fr_iconst (pc := 1025) (v := (1 : Int32)) dL_law_1025 (by decide) ?_
  refine fr_iadd (pc := 1026) dL_law_1026 ?_
  refine fr_sld (pc := 1027) dL_law_1027 h1 ?_
  refine fr_callVi (pc := 1028) (av := [.int (xs (v3 + (1 : Int32)).toNatClampNeg)]) dL_law_1028 yy_X9_read kw_934 (k := 73) (by decide) rfl rfl rfl rfl (Nat.le_of_ble_eq_true rfl) ⟨Nat.le_of_ble_eq_true rfl, Nat.le_of_ble_eq_true rfl, Nat.le_of_ble_eq_true rfl, Nat.le_of_ble_eq_true rfl⟩ (sX9_read e2) ?_
  exact fr_icmp_eq (pc := 1031) 1477 dL_law_1031 (by decide) (fun _ => kk) (fun q => absurd rfl q)
set_option maxRecDepth 100000 in
set_option maxHeartbeats 4000000 in
theorem lc_28 {g : fd_G} {nm : String} {b L : Nat} {xs : Nat → Int32} {hx hm : fd_H} {hx' : fd_H} {hm' : fd_H} {v3 : Int32} {r : Int32} (h1 : fd_in (v3 + (1 : Int32)) L = true) (e1 : fX8_was (xs (v3 + (1 : Int32)).toNatClampNeg) hx = some (r, hx')) (e2 : fX9_was (xs (v3 + (1 : Int32)).toNatClampNeg) hm = some (r, hm')) (kk : fd_A g (mL_law nm) (fd_EL g b L xs) room_1 fd_QL 1477 [(0, .ref b), (1, .ref (g.2.2.2 + 0)), (2, .ref (g.2.2.2 + 73)), (3, .int v3)] [] fd_X0 (fd_mx hx' hm') 98 1398) : fd_A g (mL_law nm) (fd_EL g b L xs) room_1 fd_QL 1036 [(0, .ref b), (1, .ref (g.2.2.2 + 0)), (2, .ref (g.2.2.2 + 73)), (3, .int v3)] [] fd_X0 (fd_mx hx hm) 98 1398 := by
  refine fr_aload_n (pc := 1036) dL_law_1036 1 rfl rfl ?_
  refine fr_aload_n (pc := 1037) dL_law_1037 0 rfl rfl ?_
  refine fr_iload_n (pc := 1038) dL_law_1038 3 rfl rfl ?_
  refine fr_iconst (pc := 1039) (v := (1 : Int32)) dL_law_1039 (by decide) ?_
  refine fr_iadd (pc := 1040) dL_law_1040 ?_
  refine fr_sld (pc := 1041) dL_law_1041 h1 ?_
  refine fr_callVi (pc := 1042) (av := [.int (xs (v3 + (1 : Int32)).toNatClampNeg)]) dL_law_1042 yy_X8_was kw_935 (k := 0) (by decide) rfl rfl rfl rfl (Nat.le_of_ble_eq_true rfl) ⟨Nat.le_of_ble_eq_true rfl, Nat.le_of_ble_eq_true rfl, Nat.le_of_ble_eq_true rfl, Nat.le_of_ble_eq_true rfl⟩ (sX8_was e1) ?_
  refine fr_aload_n (pc := 1045) dL_law_1045 2 rfl rfl ?_
  refine fr_aload_n (pc := 1046) dL_law_1046 0 rfl rfl ?_
  refine fr_iload_n (pc := 1047) dL_law_1047 3 rfl rfl ?_
  refine fr_iconst (pc := 1048) (v := (1 : Int32)) dL_law_1048 (by decide) ?_
  refine fr_iadd (pc := 1049) dL_law_1049 ?_
  refine fr_sld (pc := 1050) dL_law_1050 h1 ?_
  refine fr_callVi (pc := 1051) (av := [.int (xs (v3 + (1 : Int32)).toNatClampNeg)]) dL_law_1051 yy_X9_was kw_936 (k := 73) (by decide) rfl rfl rfl rfl (Nat.le_of_ble_eq_true rfl) ⟨Nat.le_of_ble_eq_true rfl, Nat.le_of_ble_eq_true rfl, Nat.le_of_ble_eq_true rfl, Nat.le_of_ble_eq_true rfl⟩ (sX9_was e2) ?_
  exact fr_icmp_eq (pc := 1054) 1477 dL_law_1054 (by decide) (fun _ => kk) (fun q => absurd rfl q)
set_option maxRecDepth 100000 in
set_option maxHeartbeats 4000000 in
theorem lc_29 {g : fd_G} {nm : String} {b L : Nat} {xs : Nat → Int32} {hx hm : fd_H} {hx' : fd_H} {hm' : fd_H} {v3 : Int32} {r : Int32} (e1 : fX8_carried hx = some (r, hx')) (e2 : fX9_carried hm = some (r, hm')) (kk : fd_A g (mL_law nm) (fd_EL g b L xs) room_1 fd_QL 1477 [(0, .ref b), (1, .ref (g.2.2.2 + 0)), (2, .ref (g.2.2.2 + 73)), (3, .int v3)] [] fd_X0 (fd_mx hx' hm') 98 1398) : fd_A g (mL_law nm) (fd_EL g b L xs) room_1 fd_QL 1059 [(0, .ref b), (1, .ref (g.2.2.2 + 0)), (2, .ref (g.2.2.2 + 73)), (3, .int v3)] [] fd_X0 (fd_mx hx hm) 98 1398 := by
  refine fr_aload_n (pc := 1059) dL_law_1059 1 rfl rfl ?_
  refine fr_callVi (pc := 1060) (av := []) dL_law_1060 yy_X8_carried kw_937 (k := 0) (by decide) rfl rfl rfl rfl (Nat.le_of_ble_eq_true rfl) ⟨Nat.le_of_ble_eq_true rfl, Nat.le_of_ble_eq_true rfl, Nat.le_of_ble_eq_true rfl, Nat.le_of_ble_eq_true rfl⟩ (sX8_carried e1) ?_
  refine fr_aload_n (pc := 1063) dL_law_1063 2 rfl rfl ?_
  refine fr_callVi (pc := 1064) (av := []) dL_law_1064 yy_X9_carried kw_941 (k := 73) (by decide) rfl rfl rfl rfl (Nat.le_of_ble_eq_true rfl) ⟨Nat.le_of_ble_eq_true rfl, Nat.le_of_ble_eq_true rfl, Nat.le_of_ble_eq_true rfl, Nat.le_of_ble_eq_true rfl⟩ (sX9_carried e2) ?_
  exact fr_icmp_eq (pc := 1067) 1477 dL_law_1067 (by decide) (fun _ => kk) (fun q => absurd rfl q)
set_option maxRecDepth 100000 in
set_option maxHeartbeats 4000000 in
theorem lc_30 {g : fd_G} {nm : String} {b L : Nat} {xs : Nat → Int32} {hx hm : fd_H} {hx' : fd_H} {hm' : fd_H} {v3 : Int32} {r : Int32} (h1 : fd_in (v3 + (1 : Int32)) L = true) (e1 : fX8_ask (xs (v3 + (1 : Int32)).toNatClampNeg) hx = some (r, hx')) (e2 : fX9_ask (xs (v3 + (1 : Int32)).toNatClampNeg) hm = some (r, hm')) (kk : fd_A g (mL_law nm) (fd_EL g b L xs) room_1 fd_QL 1477 [(0, .ref b), (1, .ref (g.2.2.2 + 0)), (2, .ref (g.2.2.2 + 73)), (3, .int v3)] [] fd_X0 (fd_mx hx' hm') 98 1398) : fd_A g (mL_law nm) (fd_EL g b L xs) room_1 fd_QL 1072 [(0, .ref b), (1, .ref (g.2.2.2 + 0)), (2, .ref (g.2.2.2 + 73)), (3, .int v3)] [] fd_X0 (fd_mx hx hm) 98 1398 := by
  refine fr_aload_n (pc := 1072) dL_law_1072 1 rfl rfl ?_
  refine fr_aload_n (pc := 1073) dL_law_1073 0 rfl rfl ?_
  refine fr_iload_n (pc := 1074) dL_law_1074 3 rfl rfl ?_
  refine fr_iconst (pc := 1075) (v := (1 : Int32)) dL_law_1075 (by decide) ?_
  refine fr_iadd (pc := 1076) dL_law_1076 ?_
  refine fr_sld (pc := 1077) dL_law_1077 h1 ?_
  refine fr_callVi (pc := 1078) (av := [.int (xs (v3 + (1 : Int32)).toNatClampNeg)]) dL_law_1078 yy_X8_ask kw_942 (k := 0) (by decide) rfl rfl rfl rfl (Nat.le_of_ble_eq_true rfl) ⟨Nat.le_of_ble_eq_true rfl, Nat.le_of_ble_eq_true rfl, Nat.le_of_ble_eq_true rfl, Nat.le_of_ble_eq_true rfl⟩ (sX8_ask e1) ?_
  refine fr_aload_n (pc := 1081) dL_law_1081 2 rfl rfl ?_
  refine fr_aload_n (pc := 1082) dL_law_1082 0 rfl rfl ?_
  refine fr_iload_n (pc := 1083) dL_law_1083 3 rfl rfl ?_
  refine fr_iconst (pc := 1084) (v := (1 : Int32)) dL_law_1084 (by decide) ?_
  refine fr_iadd (pc := 1085) dL_law_1085 ?_
  refine fr_sld (pc := 1086) dL_law_1086 h1 ?_
  refine fr_callVi (pc := 1087) (av := [.int (xs (v3 + (1 : Int32)).toNatClampNeg)]) dL_law_1087 yy_X9_ask kw_943 (k := 73) (by decide) rfl rfl rfl rfl (Nat.le_of_ble_eq_true rfl) ⟨Nat.le_of_ble_eq_true rfl, Nat.le_of_ble_eq_true rfl, Nat.le_of_ble_eq_true rfl, Nat.le_of_ble_eq_true rfl⟩ (sX9_ask e2) ?_
  exact fr_icmp_eq (pc := 1090) 1477 dL_law_1090 (by decide) (fun _ => kk) (fun q => absurd rfl q)
set_option maxRecDepth 100000 in
set_option maxHeartbeats 4000000 in
theorem lc_31 {g : fd_G} {nm : String} {b L : Nat} {xs : Nat → Int32} {hx hm : fd_H} {hm' : fd_H} {v3 : Int32} {r : Int64} (h1 : fd_in (v3 + (1 : Int32)) L = true) (h2 : fd_in (v3 + (2 : Int32)) L = true) (h3 : fd_in (v3 + (3 : Int32)) L = true) (h4 : fd_in (v3 + (4 : Int32)) L = true) (e1 : fX8_chance (xs (v3 + (1 : Int32)).toNatClampNeg) (xs (v3 + (2 : Int32)).toNatClampNeg) (xs (v3 + (3 : Int32)).toNatClampNeg) (xs (v3 + (4 : Int32)).toNatClampNeg) hx = some r) (e2 : fX9_chance (xs (v3 + (1 : Int32)).toNatClampNeg) (xs (v3 + (2 : Int32)).toNatClampNeg) (xs (v3 + (3 : Int32)).toNatClampNeg) (xs (v3 + (4 : Int32)).toNatClampNeg) hm = some (r, hm')) (kk : fd_A g (mL_law nm) (fd_EL g b L xs) room_1 fd_QL 1477 [(0, .ref b), (1, .ref (g.2.2.2 + 0)), (2, .ref (g.2.2.2 + 73)), (3, .int v3)] [] fd_X0 (fd_mx hx hm') 98 1398) : fd_A g (mL_law nm) (fd_EL g b L xs) room_1 fd_QL 1095 [(0, .ref b), (1, .ref (g.2.2.2 + 0)), (2, .ref (g.2.2.2 + 73)), (3, .int v3)] [] fd_X0 (fd_mx hx hm) 98 1398 := by
  refine fr_aload_n (pc := 1095) dL_law_1095 1 rfl rfl ?_
  refine fr_aload_n (pc := 1096) dL_law_1096 0 rfl rfl ?_
  refine fr_iload_n (pc := 1097) dL_law_1097 3 rfl rfl ?_
  refine fr_iconst (pc := 1098) (v := (1 : Int32)) dL_law_1098 (by decide) ?_
  refine fr_iadd (pc := 1099) dL_law_1099 ?_
  refine fr_sld (pc := 1100) dL_law_1100 h1 ?_
  refine fr_aload_n (pc := 1101) dL_law_1101 0 rfl rfl ?_
  refine fr_iload_n (pc := 1102) dL_law_1102 3 rfl rfl ?_
  refine fr_iconst (pc := 1103) (v := (2 : Int32)) dL_law_1103 (by decide) ?_
  refine fr_iadd (pc := 1104) dL_law_1104 ?_
  refine fr_sld (pc := 1105) dL_law_1105 h2 ?_
  refine fr_aload_n (pc := 1106) dL_law_1106 0 rfl rfl ?_
  refine fr_iload_n (pc := 1107) dL_law_1107 3 rfl rfl ?_
  refine fr_iconst (pc := 1108) (v := (3 : Int32)) dL_law_1108 (by decide) ?_
  refine fr_iadd (pc := 1109) dL_law_1109 ?_
  refine fr_sld (pc := 1110) dL_law_1110 h3 ?_
  refine fr_aload_n (pc := 1111) dL_law_1111 0 rfl rfl ?_
  refine fr_iload_n (pc := 1112) dL_law_1112 3 rfl rfl ?_
  refine fr_iconst (pc := 1113) (v := (4 : Int32)) dL_law_1113 (by decide) ?_
  refine fr_iadd (pc := 1114) dL_law_1114 ?_
  refine fr_sld (pc := 1115) dL_law_1115 h4 ?_
  refine fr_callVl (pc := 1116) (av := [.int (xs (v3 + (1 : Int32)).toNatClampNeg), .int (xs (v3 + (2 : Int32)).toNatClampNeg), .int (xs (v3 + (3 : Int32)).toNatClampNeg), .int (xs (v3 + (4 : Int32)).toNatClampNeg)]) dL_law_1116 yy_X8_chance kw_944 (k := 0) (by decide) rfl rfl rfl rfl (Nat.le_of_ble_eq_true rfl) ⟨Nat.le_of_ble_eq_true rfl, Nat.le_of_ble_eq_true rfl, Nat.le_of_ble_eq_true rfl, Nat.le_of_ble_eq_true rfl⟩ (sX8_chance e1) ?_
  refine fr_aload_n (pc := 1119) dL_law_1119 2 rfl rfl ?_
  refine fr_aload_n (pc := 1120) dL_law_1120 0 rfl rfl ?_
  refine fr_iload_n (pc := 1121) dL_law_1121 3 rfl rfl ?_
  refine fr_iconst (pc := 1122) (v := (1 : Int32)) dL_law_1122 (by decide) ?_
  refine fr_iadd (pc := 1123) dL_law_1123 ?_
  refine fr_sld (pc := 1124) dL_law_1124 h1 ?_
  refine fr_aload_n (pc := 1125) dL_law_1125 0 rfl rfl ?_
  refine fr_iload_n (pc := 1126) dL_law_1126 3 rfl rfl ?_
  refine fr_iconst (pc := 1127) (v := (2 : Int32)) dL_law_1127 (by decide) ?_
  refine fr_iadd (pc := 1128) dL_law_1128 ?_
  refine fr_sld (pc := 1129) dL_law_1129 h2 ?_
  refine fr_aload_n (pc := 1130) dL_law_1130 0 rfl rfl ?_
  refine fr_iload_n (pc := 1131) dL_law_1131 3 rfl rfl ?_
  refine fr_iconst (pc := 1132) (v := (3 : Int32)) dL_law_1132 (by decide) ?_
  refine fr_iadd (pc := 1133) dL_law_1133 ?_
  refine fr_sld (pc := 1134) dL_law_1134 h3 ?_
  refine fr_aload_n (pc := 1135) dL_law_1135 0 rfl rfl ?_
  refine fr_iload_n (pc := 1136) dL_law_1136 3 rfl rfl ?_
  refine fr_iconst (pc := 1137) (v := (4 : Int32)) dL_law_1137 (by decide) ?_
  refine fr_iadd (pc := 1138) dL_law_1138 ?_
  refine fr_sld (pc := 1139) dL_law_1139 h4 ?_
  refine fr_callVl (pc := 1140) (av := [.int (xs (v3 + (1 : Int32)).toNatClampNeg), .int (xs (v3 + (2 : Int32)).toNatClampNeg), .int (xs (v3 + (3 : Int32)).toNatClampNeg), .int (xs (v3 + (4 : Int32)).toNatClampNeg)]) dL_law_1140 yy_X9_chance kw_948 (k := 73) (by decide) rfl rfl rfl rfl (Nat.le_of_ble_eq_true rfl) ⟨Nat.le_of_ble_eq_true rfl, Nat.le_of_ble_eq_true rfl, Nat.le_of_ble_eq_true rfl, Nat.le_of_ble_eq_true rfl⟩ (sX9_chance e2) ?_
  refine fr_lcmp (pc := 1143) dL_law_1143 ?_
  exact fr_if_eq (pc := 1144) 1477 dL_law_1144 (by decide) (fun _ => kk) (fun q => absurd ((lg_cmp_eq _ _).mpr rfl) q)
set_option maxRecDepth 100000 in
set_option maxHeartbeats 4000000 in
theorem lc_32 {g : fd_G} {nm : String} {b L : Nat} {xs : Nat → Int32} {hx hm : fd_H} {hx' : fd_H} {hm' : fd_H} {v3 : Int32} {r : Int32} (h1 : fd_in (v3 + (1 : Int32)) L = true) (h2 : fd_in (v3 + (2 : Int32)) L = true) (e1 : fX8_year (xs (v3 + (1 : Int32)).toNatClampNeg) (xs (v3 + (2 : Int32)).toNatClampNeg) hx = some (r, hx')) (e2 : fX9_year (xs (v3 + (1 : Int32)).toNatClampNeg) (xs (v3 + (2 : Int32)).toNatClampNeg) hm = some (r, hm')) (kk : fd_A g (mL_law nm) (fd_EL g b L xs) room_1 fd_QL 1477 [(0, .ref b), (1, .ref (g.2.2.2 + 0)), (2, .ref (g.2.2.2 + 73)), (3, .int v3)] [] fd_X0 (fd_mx hx' hm') 98 1398) : fd_A g (mL_law nm) (fd_EL g b L xs) room_1 fd_QL 1149 [(0, .ref b), (1, .ref (g.2.2.2 + 0)), (2, .ref (g.2.2.2 + 73)), (3, .int v3)] [] fd_X0 (fd_mx hx hm) 98 1398 := by
  refine fr_aload_n (pc := 1149) dL_law_1149 1 rfl rfl ?_
  refine fr_aload_n (pc := 1150) dL_law_1150 0 rfl rfl ?_
  refine fr_iload_n (pc := 1151) dL_law_1151 3 rfl rfl ?_
  refine fr_iconst (pc := 1152) (v := (1 : Int32)) dL_law_1152 (by decide) ?_
  refine fr_iadd (pc := 1153) dL_law_1153 ?_
  refine fr_sld (pc := 1154) dL_law_1154 h1 ?_
  refine fr_aload_n (pc := 1155) dL_law_1155 0 rfl rfl ?_
  refine fr_iload_n (pc := 1156) dL_law_1156 3 rfl rfl ?_
  refine fr_iconst (pc := 1157) (v := (2 : Int32)) dL_law_1157 (by decide) ?_
  refine fr_iadd (pc := 1158) dL_law_1158 ?_
  refine fr_sld (pc := 1159) dL_law_1159 h2 ?_
  refine fr_callVi (pc := 1160) (av := [.int (xs (v3 + (1 : Int32)).toNatClampNeg), .int (xs (v3 + (2 : Int32)).toNatClampNeg)]) dL_law_1160 yy_X8_year kw_949 (k := 0) (by decide) rfl rfl rfl rfl (Nat.le_of_ble_eq_true rfl) ⟨Nat.le_of_ble_eq_true rfl, Nat.le_of_ble_eq_true rfl, Nat.le_of_ble_eq_true rfl, Nat.le_of_ble_eq_true rfl⟩ (sX8_year e1) ?_
  refine fr_aload_n (pc := 1163) dL_law_1163 2 rfl rfl ?_
  refine fr_aload_n (pc := 1164) dL_law_1164 0 rfl rfl ?_
  refine fr_iload_n (pc := 1165) dL_law_1165 3 rfl rfl ?_
  refine fr_iconst (pc := 1166) (v := (1 : Int32)) dL_law_1166 (by decide) ?_
  refine fr_iadd (pc := 1167) dL_law_1167 ?_
  refine fr_sld (pc := 1168) dL_law_1168 h1 ?_
  refine fr_aload_n (pc := 1169) dL_law_1169 0 rfl rfl ?_
  refine fr_iload_n (pc := 1170) dL_law_1170 3 rfl rfl ?_
  refine fr_iconst (pc := 1171) (v := (2 : Int32)) dL_law_1171 (by decide) ?_
  refine fr_iadd (pc := 1172) dL_law_1172 ?_
  refine fr_sld (pc := 1173) dL_law_1173 h2 ?_
  refine fr_callVi (pc := 1174) (av := [.int (xs (v3 + (1 : Int32)).toNatClampNeg), .int (xs (v3 + (2 : Int32)).toNatClampNeg)]) dL_law_1174 yy_X9_year kw_953 (k := 73) (by decide) rfl rfl rfl rfl (Nat.le_of_ble_eq_true rfl) ⟨Nat.le_of_ble_eq_true rfl, Nat.le_of_ble_eq_true rfl, Nat.le_of_ble_eq_true rfl, Nat.le_of_ble_eq_true rfl⟩ (sX9_year e2) ?_
  exact fr_icmp_eq (pc := 1177) 1477 dL_law_1177 (by decide) (fun _ => kk) (fun q => absurd rfl q)
set_option maxRecDepth 100000 in
set_option maxHeartbeats 4000000 in
theorem lc_33 {g : fd_G} {nm : String} {b L : Nat} {xs : Nat → Int32} {hx hm : fd_H} {hx' : fd_H} {hm' : fd_H} {v3 : Int32} {r : Int32} (h1 : fd_in (v3 + (1 : Int32)) L = true) (h2 : fd_in (v3 + (2 : Int32)) L = true) (h3 : fd_in (v3 + (3 : Int32)) L = true) (e1 : fX8_sheet (xs (v3 + (1 : Int32)).toNatClampNeg) (xs (v3 + (2 : Int32)).toNatClampNeg) (xs (v3 + (3 : Int32)).toNatClampNeg) hx = some (r, hx')) (e2 : fX9_sheet (xs (v3 + (1 : Int32)).toNatClampNeg) (xs (v3 + (2 : Int32)).toNatClampNeg) (xs (v3 + (3 : Int32)).toNatClampNeg) hm = some (r, hm')) (kk : fd_A g (mL_law nm) (fd_EL g b L xs) room_1 fd_QL 1477 [(0, .ref b), (1, .ref (g.2.2.2 + 0)), (2, .ref (g.2.2.2 + 73)), (3, .int v3)] [] fd_X0 (fd_mx hx' hm') 98 1398) : fd_A g (mL_law nm) (fd_EL g b L xs) room_1 fd_QL 1182 [(0, .ref b), (1, .ref (g.2.2.2 + 0)), (2, .ref (g.2.2.2 + 73)), (3, .int v3)] [] fd_X0 (fd_mx hx hm) 98 1398 := by
  refine fr_aload_n (pc := 1182) dL_law_1182 1 rfl rfl ?_
  refine fr_aload_n (pc := 1183) dL_law_1183 0 rfl rfl ?_
  refine fr_iload_n (pc := 1184) dL_law_1184 3 rfl rfl ?_
  refine fr_iconst (pc := 1185) (v := (1 : Int32)) dL_law_1185 (by decide) ?_
  refine fr_iadd (pc := 1186) dL_law_1186 ?_
  refine fr_sld (pc := 1187) dL_law_1187 h1 ?_
  refine fr_aload_n (pc := 1188) dL_law_1188 0 rfl rfl ?_
  refine fr_iload_n (pc := 1189) dL_law_1189 3 rfl rfl ?_
  refine fr_iconst (pc := 1190) (v := (2 : Int32)) dL_law_1190 (by decide) ?_
  refine fr_iadd (pc := 1191) dL_law_1191 ?_
  refine fr_sld (pc := 1192) dL_law_1192 h2 ?_
  refine fr_aload_n (pc := 1193) dL_law_1193 0 rfl rfl ?_
  refine fr_iload_n (pc := 1194) dL_law_1194 3 rfl rfl ?_
  refine fr_iconst (pc := 1195) (v := (3 : Int32)) dL_law_1195 (by decide) ?_
  refine fr_iadd (pc := 1196) dL_law_1196 ?_
  refine fr_sld (pc := 1197) dL_law_1197 h3 ?_
  refine fr_callVi (pc := 1198) (av := [.int (xs (v3 + (1 : Int32)).toNatClampNeg), .int (xs (v3 + (2 : Int32)).toNatClampNeg), .int (xs (v3 + (3 : Int32)).toNatClampNeg)]) dL_law_1198 yy_X8_sheet kw_957 (k := 0) (by decide) rfl rfl rfl rfl (Nat.le_of_ble_eq_true rfl) ⟨Nat.le_of_ble_eq_true rfl, Nat.le_of_ble_eq_true rfl, Nat.le_of_ble_eq_true rfl, Nat.le_of_ble_eq_true rfl⟩ (sX8_sheet e1) ?_
  refine fr_aload_n (pc := 1201) dL_law_1201 2 rfl rfl ?_
  refine fr_aload_n (pc := 1202) dL_law_1202 0 rfl rfl ?_
  refine fr_iload_n (pc := 1203) dL_law_1203 3 rfl rfl ?_
  refine fr_iconst (pc := 1204) (v := (1 : Int32)) dL_law_1204 (by decide) ?_
  refine fr_iadd (pc := 1205) dL_law_1205 ?_
  refine fr_sld (pc := 1206) dL_law_1206 h1 ?_
  refine fr_aload_n (pc := 1207) dL_law_1207 0 rfl rfl ?_
  refine fr_iload_n (pc := 1208) dL_law_1208 3 rfl rfl ?_
  refine fr_iconst (pc := 1209) (v := (2 : Int32)) dL_law_1209 (by decide) ?_
  refine fr_iadd (pc := 1210) dL_law_1210 ?_
  refine fr_sld (pc := 1211) dL_law_1211 h2 ?_
  refine fr_aload_n (pc := 1212) dL_law_1212 0 rfl rfl ?_
  refine fr_iload_n (pc := 1213) dL_law_1213 3 rfl rfl ?_
  refine fr_iconst (pc := 1214) (v := (3 : Int32)) dL_law_1214 (by decide) ?_
  refine fr_iadd (pc := 1215) dL_law_1215 ?_
  refine fr_sld (pc := 1216) dL_law_1216 h3 ?_
  refine fr_callVi (pc := 1217) (av := [.int (xs (v3 + (1 : Int32)).toNatClampNeg), .int (xs (v3 + (2 : Int32)).toNatClampNeg), .int (xs (v3 + (3 : Int32)).toNatClampNeg)]) dL_law_1217 yy_X9_sheet kw_961 (k := 73) (by decide) rfl rfl rfl rfl (Nat.le_of_ble_eq_true rfl) ⟨Nat.le_of_ble_eq_true rfl, Nat.le_of_ble_eq_true rfl, Nat.le_of_ble_eq_true rfl, Nat.le_of_ble_eq_true rfl⟩ (sX9_sheet e2) ?_
  exact fr_icmp_eq (pc := 1220) 1477 dL_law_1220 (by decide) (fun _ => kk) (fun q => absurd rfl q)
set_option maxRecDepth 100000 in
set_option maxHeartbeats 4000000 in
theorem lc_34 {g : fd_G} {nm : String} {b L : Nat} {xs : Nat → Int32} {hx hm : fd_H} {hx' : fd_H} {hm' : fd_H} {v3 : Int32} {r : Int32} (h1 : fd_in (v3 + (1 : Int32)) L = true) (e1 : fX8_lose (xs (v3 + (1 : Int32)).toNatClampNeg) hx = some (r, hx')) (e2 : fX9_lose (xs (v3 + (1 : Int32)).toNatClampNeg) hm = some (r, hm')) (kk : fd_A g (mL_law nm) (fd_EL g b L xs) room_1 fd_QL 1477 [(0, .ref b), (1, .ref (g.2.2.2 + 0)), (2, .ref (g.2.2.2 + 73)), (3, .int v3)] [] fd_X0 (fd_mx hx' hm') 98 1398) : fd_A g (mL_law nm) (fd_EL g b L xs) room_1 fd_QL 1225 [(0, .ref b), (1, .ref (g.2.2.2 + 0)), (2, .ref (g.2.2.2 + 73)), (3, .int v3)] [] fd_X0 (fd_mx hx hm) 98 1398 := by
  refine fr_aload_n (pc := 1225) dL_law_1225 1 rfl rfl ?_
  refine fr_aload_n (pc := 1226) dL_law_1226 0 rfl rfl ?_
  refine fr_iload_n (pc := 1227) dL_law_1227 3 rfl rfl ?_
  refine fr_iconst (pc := 1228) (v := (1 : Int32)) dL_law_1228 (by decide) ?_
  refine fr_iadd (pc := 1229) dL_law_1229 ?_
  refine fr_sld (pc := 1230) dL_law_1230 h1 ?_
  refine fr_callVi (pc := 1231) (av := [.int (xs (v3 + (1 : Int32)).toNatClampNeg)]) dL_law_1231 yy_X8_lose kw_965 (k := 0) (by decide) rfl rfl rfl rfl (Nat.le_of_ble_eq_true rfl) ⟨Nat.le_of_ble_eq_true rfl, Nat.le_of_ble_eq_true rfl, Nat.le_of_ble_eq_true rfl, Nat.le_of_ble_eq_true rfl⟩ (sX8_lose e1) ?_
  refine fr_aload_n (pc := 1234) dL_law_1234 2 rfl rfl ?_
  refine fr_aload_n (pc := 1235) dL_law_1235 0 rfl rfl ?_
  refine fr_iload_n (pc := 1236) dL_law_1236 3 rfl rfl ?_
  refine fr_iconst (pc := 1237) (v := (1 : Int32)) dL_law_1237 (by decide) ?_
  refine fr_iadd (pc := 1238) dL_law_1238 ?_
  refine fr_sld (pc := 1239) dL_law_1239 h1 ?_
  refine fr_callVi (pc := 1240) (av := [.int (xs (v3 + (1 : Int32)).toNatClampNeg)]) dL_law_1240 yy_X9_lose kw_969 (k := 73) (by decide) rfl rfl rfl rfl (Nat.le_of_ble_eq_true rfl) ⟨Nat.le_of_ble_eq_true rfl, Nat.le_of_ble_eq_true rfl, Nat.le_of_ble_eq_true rfl, Nat.le_of_ble_eq_true rfl⟩ (sX9_lose e2) ?_
  exact fr_icmp_eq (pc := 1243) 1477 dL_law_1243 (by decide) (fun _ => kk) (fun q => absurd rfl q)
set_option maxRecDepth 100000 in
set_option maxHeartbeats 4000000 in
theorem lc_35 {g : fd_G} {nm : String} {b L : Nat} {xs : Nat → Int32} {hx hm : fd_H} {hx' : fd_H} {hm' : fd_H} {v3 : Int32} {r : Int32} (h1 : fd_in (v3 + (1 : Int32)) L = true) (h2 : fd_in (v3 + (2 : Int32)) L = true) (h3 : fd_in (v3 + (3 : Int32)) L = true) (h4 : fd_in (v3 + (4 : Int32)) L = true) (e1 : fX8_put (xs (v3 + (1 : Int32)).toNatClampNeg) (xs (v3 + (2 : Int32)).toNatClampNeg) (xs (v3 + (3 : Int32)).toNatClampNeg) (xs (v3 + (4 : Int32)).toNatClampNeg) hx = some (r, hx')) (e2 : fX9_put (xs (v3 + (1 : Int32)).toNatClampNeg) (xs (v3 + (2 : Int32)).toNatClampNeg) (xs (v3 + (3 : Int32)).toNatClampNeg) (xs (v3 + (4 : Int32)).toNatClampNeg) hm = some (r, hm')) (kk : fd_A g (mL_law nm) (fd_EL g b L xs) room_1 fd_QL 1477 [(0, .ref b), (1, .ref (g.2.2.2 + 0)), (2, .ref (g.2.2.2 + 73)), (3, .int v3)] [] fd_X0 (fd_mx hx' hm') 98 1398) : fd_A g (mL_law nm) (fd_EL g b L xs) room_1 fd_QL 1248 [(0, .ref b), (1, .ref (g.2.2.2 + 0)), (2, .ref (g.2.2.2 + 73)), (3, .int v3)] [] fd_X0 (fd_mx hx hm) 98 1398 := by
  refine fr_aload_n (pc := 1248) dL_law_1248 1 rfl rfl ?_
  refine fr_aload_n (pc := 1249) dL_law_1249 0 rfl rfl ?_
  refine fr_iload_n (pc := 1250) dL_law_1250 3 rfl rfl ?_
  refine fr_iconst (pc := 1251) (v := (1 : Int32)) dL_law_1251 (by decide) ?_
  refine fr_iadd (pc := 1252) dL_law_1252 ?_
  refine fr_sld (pc := 1253) dL_law_1253 h1 ?_
  refine fr_aload_n (pc := 1254) dL_law_1254 0 rfl rfl ?_
  refine fr_iload_n (pc := 1255) dL_law_1255 3 rfl rfl ?_
  refine fr_iconst (pc := 1256) (v := (2 : Int32)) dL_law_1256 (by decide) ?_
  refine fr_iadd (pc := 1257) dL_law_1257 ?_
  refine fr_sld (pc := 1258) dL_law_1258 h2 ?_
  refine fr_aload_n (pc := 1259) dL_law_1259 0 rfl rfl ?_
  refine fr_iload_n (pc := 1260) dL_law_1260 3 rfl rfl ?_
  refine fr_iconst (pc := 1261) (v := (3 : Int32)) dL_law_1261 (by decide) ?_
  refine fr_iadd (pc := 1262) dL_law_1262 ?_
  refine fr_sld (pc := 1263) dL_law_1263 h3 ?_
  refine fr_aload_n (pc := 1264) dL_law_1264 0 rfl rfl ?_
  refine fr_iload_n (pc := 1265) dL_law_1265 3 rfl rfl ?_
  refine fr_iconst (pc := 1266) (v := (4 : Int32)) dL_law_1266 (by decide) ?_
  refine fr_iadd (pc := 1267) dL_law_1267 ?_
  refine fr_sld (pc := 1268) dL_law_1268 h4 ?_
  refine fr_callVi (pc := 1269) (av := [.int (xs (v3 + (1 : Int32)).toNatClampNeg), .int (xs (v3 + (2 : Int32)).toNatClampNeg), .int (xs (v3 + (3 : Int32)).toNatClampNeg), .int (xs (v3 + (4 : Int32)).toNatClampNeg)]) dL_law_1269 yy_X8_put kw_973 (k := 0) (by decide) rfl rfl rfl rfl (Nat.le_of_ble_eq_true rfl) ⟨Nat.le_of_ble_eq_true rfl, Nat.le_of_ble_eq_true rfl, Nat.le_of_ble_eq_true rfl, Nat.le_of_ble_eq_true rfl⟩ (sX8_put e1) ?_
  refine fr_aload_n (pc := 1272) dL_law_1272 2 rfl rfl ?_
  refine fr_aload_n (pc := 1273) dL_law_1273 0 rfl rfl ?_
  refine fr_iload_n (pc := 1274) dL_law_1274 3 rfl rfl ?_
  refine fr_iconst (pc := 1275) (v := (1 : Int32)) dL_law_1275 (by decide) ?_
  refine fr_iadd (pc := 1276) dL_law_1276 ?_
  refine fr_sld (pc := 1277) dL_law_1277 h1 ?_
  refine fr_aload_n (pc := 1278) dL_law_1278 0 rfl rfl ?_
  refine fr_iload_n (pc := 1279) dL_law_1279 3 rfl rfl ?_
  refine fr_iconst (pc := 1280) (v := (2 : Int32)) dL_law_1280 (by decide) ?_
  refine fr_iadd (pc := 1281) dL_law_1281 ?_
  refine fr_sld (pc := 1282) dL_law_1282 h2 ?_
  refine fr_aload_n (pc := 1283) dL_law_1283 0 rfl rfl ?_
  refine fr_iload_n (pc := 1284) dL_law_1284 3 rfl rfl ?_
  refine fr_iconst (pc := 1285) (v := (3 : Int32)) dL_law_1285 (by decide) ?_
  refine fr_iadd (pc := 1286) dL_law_1286 ?_
  refine fr_sld (pc := 1287) dL_law_1287 h3 ?_
  refine fr_aload_n (pc := 1288) dL_law_1288 0 rfl rfl ?_
  refine fr_iload_n (pc := 1289) dL_law_1289 3 rfl rfl ?_
  refine fr_iconst (pc := 1290) (v := (4 : Int32)) dL_law_1290 (by decide) ?_
  refine fr_iadd (pc := 1291) dL_law_1291 ?_
  refine fr_sld (pc := 1292) dL_law_1292 h4 ?_
  refine fr_callVi (pc := 1293) (av := [.int (xs (v3 + (1 : Int32)).toNatClampNeg), .int (xs (v3 + (2 : Int32)).toNatClampNeg), .int (xs (v3 + (3 : Int32)).toNatClampNeg), .int (xs (v3 + (4 : Int32)).toNatClampNeg)]) dL_law_1293 yy_X9_put kw_977 (k := 73) (by decide) rfl rfl rfl rfl (Nat.le_of_ble_eq_true rfl) ⟨Nat.le_of_ble_eq_true rfl, Nat.le_of_ble_eq_true rfl, Nat.le_of_ble_eq_true rfl, Nat.le_of_ble_eq_true rfl⟩ (sX9_put e2) ?_
  exact fr_icmp_eq (pc := 1296) 1477 dL_law_1296 (by decide) (fun _ => kk) (fun q => absurd rfl q)
set_option maxRecDepth 100000 in
set_option maxHeartbeats 4000000 in
theorem lc_36 {g : fd_G} {nm : String} {b L : Nat} {xs : Nat → Int32} {hx hm : fd_H} {hx' : fd_H} {hm' : fd_H} {v3 : Int32} {r : Int32} (h1 : fd_in (v3 + (1 : Int32)) L = true) (h2 : fd_in (v3 + (2 : Int32)) L = true) (h3 : fd_in (v3 + (3 : Int32)) L = true) (e1 : fX8_get (xs (v3 + (1 : Int32)).toNatClampNeg) (xs (v3 + (2 : Int32)).toNatClampNeg) (xs (v3 + (3 : Int32)).toNatClampNeg) hx = some (r, hx')) (e2 : fX9_get (xs (v3 + (1 : Int32)).toNatClampNeg) (xs (v3 + (2 : Int32)).toNatClampNeg) (xs (v3 + (3 : Int32)).toNatClampNeg) hm = some (r, hm')) (kk : fd_A g (mL_law nm) (fd_EL g b L xs) room_1 fd_QL 1477 [(0, .ref b), (1, .ref (g.2.2.2 + 0)), (2, .ref (g.2.2.2 + 73)), (3, .int v3)] [] fd_X0 (fd_mx hx' hm') 98 1398) : fd_A g (mL_law nm) (fd_EL g b L xs) room_1 fd_QL 1301 [(0, .ref b), (1, .ref (g.2.2.2 + 0)), (2, .ref (g.2.2.2 + 73)), (3, .int v3)] [] fd_X0 (fd_mx hx hm) 98 1398 := by
  refine fr_aload_n (pc := 1301) dL_law_1301 1 rfl rfl ?_
  refine fr_aload_n (pc := 1302) dL_law_1302 0 rfl rfl ?_
  refine fr_iload_n (pc := 1303) dL_law_1303 3 rfl rfl ?_
  refine fr_iconst (pc := 1304) (v := (1 : Int32)) dL_law_1304 (by decide) ?_
  refine fr_iadd (pc := 1305) dL_law_1305 ?_
  refine fr_sld (pc := 1306) dL_law_1306 h1 ?_
  refine fr_aload_n (pc := 1307) dL_law_1307 0 rfl rfl ?_
  refine fr_iload_n (pc := 1308) dL_law_1308 3 rfl rfl ?_
  refine fr_iconst (pc := 1309) (v := (2 : Int32)) dL_law_1309 (by decide) ?_
  refine fr_iadd (pc := 1310) dL_law_1310 ?_
  refine fr_sld (pc := 1311) dL_law_1311 h2 ?_
  refine fr_aload_n (pc := 1312) dL_law_1312 0 rfl rfl ?_
  refine fr_iload_n (pc := 1313) dL_law_1313 3 rfl rfl ?_
  refine fr_iconst (pc := 1314) (v := (3 : Int32)) dL_law_1314 (by decide) ?_
  refine fr_iadd (pc := 1315) dL_law_1315 ?_
  refine fr_sld (pc := 1316) dL_law_1316 h3 ?_
  refine fr_callVi (pc := 1317) (av := [.int (xs (v3 + (1 : Int32)).toNatClampNeg), .int (xs (v3 + (2 : Int32)).toNatClampNeg), .int (xs (v3 + (3 : Int32)).toNatClampNeg)]) dL_law_1317 yy_X8_get kw_981 (k := 0) (by decide) rfl rfl rfl rfl (Nat.le_of_ble_eq_true rfl) ⟨Nat.le_of_ble_eq_true rfl, Nat.le_of_ble_eq_true rfl, Nat.le_of_ble_eq_true rfl, Nat.le_of_ble_eq_true rfl⟩ (sX8_get e1) ?_
  refine fr_aload_n (pc := 1320) dL_law_1320 2 rfl rfl ?_
  refine fr_aload_n (pc := 1321) dL_law_1321 0 rfl rfl ?_
  refine fr_iload_n (pc := 1322) dL_law_1322 3 rfl rfl ?_
  refine fr_iconst (pc := 1323) (v := (1 : Int32)) dL_law_1323 (by decide) ?_
  refine fr_iadd (pc := 1324) dL_law_1324 ?_
  refine fr_sld (pc := 1325) dL_law_1325 h1 ?_
  refine fr_aload_n (pc := 1326) dL_law_1326 0 rfl rfl ?_
  refine fr_iload_n (pc := 1327) dL_law_1327 3 rfl rfl ?_
  refine fr_iconst (pc := 1328) (v := (2 : Int32)) dL_law_1328 (by decide) ?_
  refine fr_iadd (pc := 1329) dL_law_1329 ?_
  refine fr_sld (pc := 1330) dL_law_1330 h2 ?_
  refine fr_aload_n (pc := 1331) dL_law_1331 0 rfl rfl ?_
  refine fr_iload_n (pc := 1332) dL_law_1332 3 rfl rfl ?_
  refine fr_iconst (pc := 1333) (v := (3 : Int32)) dL_law_1333 (by decide) ?_
  refine fr_iadd (pc := 1334) dL_law_1334 ?_
  refine fr_sld (pc := 1335) dL_law_1335 h3 ?_
  refine fr_callVi (pc := 1336) (av := [.int (xs (v3 + (1 : Int32)).toNatClampNeg), .int (xs (v3 + (2 : Int32)).toNatClampNeg), .int (xs (v3 + (3 : Int32)).toNatClampNeg)]) dL_law_1336 yy_X9_get kw_985 (k := 73) (by decide) rfl rfl rfl rfl (Nat.le_of_ble_eq_true rfl) ⟨Nat.le_of_ble_eq_true rfl, Nat.le_of_ble_eq_true rfl, Nat.le_of_ble_eq_true rfl, Nat.le_of_ble_eq_true rfl⟩ (sX9_get e2) ?_
  exact fr_icmp_eq (pc := 1339) 1477 dL_law_1339 (by decide) (fun _ => kk) (fun q => absurd rfl q)
set_option maxRecDepth 100000 in
set_option maxHeartbeats 4000000 in
theorem lc_37 {g : fd_G} {nm : String} {b L : Nat} {xs : Nat → Int32} {hx hm : fd_H} {hx' : fd_H} {hm' : fd_H} {v3 : Int32} {r : Int32} (h1 : fd_in (v3 + (1 : Int32)) L = true) (h2 : fd_in (v3 + (2 : Int32)) L = true) (h3 : fd_in (v3 + (3 : Int32)) L = true) (h4 : fd_in (v3 + (4 : Int32)) L = true) (h5 : fd_in (v3 + (5 : Int32)) L = true) (e1 : fX8_copy (xs (v3 + (1 : Int32)).toNatClampNeg) (xs (v3 + (2 : Int32)).toNatClampNeg) (xs (v3 + (3 : Int32)).toNatClampNeg) (xs (v3 + (4 : Int32)).toNatClampNeg) (xs (v3 + (5 : Int32)).toNatClampNeg) hx = some (r, hx')) (e2 : fX9_copy (xs (v3 + (1 : Int32)).toNatClampNeg) (xs (v3 + (2 : Int32)).toNatClampNeg) (xs (v3 + (3 : Int32)).toNatClampNeg) (xs (v3 + (4 : Int32)).toNatClampNeg) (xs (v3 + (5 : Int32)).toNatClampNeg) hm = some (r, hm')) (kk : fd_A g (mL_law nm) (fd_EL g b L xs) room_1 fd_QL 1477 [(0, .ref b), (1, .ref (g.2.2.2 + 0)), (2, .ref (g.2.2.2 + 73)), (3, .int v3)] [] fd_X0 (fd_mx hx' hm') 98 1398) : fd_A g (mL_law nm) (fd_EL g b L xs) room_1 fd_QL 1344 [(0, .ref b), (1, .ref (g.2.2.2 + 0)), (2, .ref (g.2.2.2 + 73)), (3, .int v3)] [] fd_X0 (fd_mx hx hm) 98 1398 := by
  refine fr_aload_n (pc := 1344) dL_law_1344 1 rfl rfl ?_
  refine fr_aload_n (pc := 1345) dL_law_1345 0 rfl rfl ?_
  refine fr_iload_n (pc := 1346) dL_law_1346 3 rfl rfl ?_
  refine fr_iconst (pc := 1347) (v := (1 : Int32)) dL_law_1347 (by decide) ?_
  refine fr_iadd (pc := 1348) dL_law_1348 ?_
  refine fr_sld (pc := 1349) dL_law_1349 h1 ?_
  refine fr_aload_n (pc := 1350) dL_law_1350 0 rfl rfl ?_
  refine fr_iload_n (pc := 1351) dL_law_1351 3 rfl rfl ?_
  refine fr_iconst (pc := 1352) (v := (2 : Int32)) dL_law_1352 (by decide) ?_
  refine fr_iadd (pc := 1353) dL_law_1353 ?_
  refine fr_sld (pc := 1354) dL_law_1354 h2 ?_
  refine fr_aload_n (pc := 1355) dL_law_1355 0 rfl rfl ?_
  refine fr_iload_n (pc := 1356) dL_law_1356 3 rfl rfl ?_
  refine fr_iconst (pc := 1357) (v := (3 : Int32)) dL_law_1357 (by decide) ?_
  refine fr_iadd (pc := 1358) dL_law_1358 ?_
  refine fr_sld (pc := 1359) dL_law_1359 h3 ?_
  refine fr_aload_n (pc := 1360) dL_law_1360 0 rfl rfl ?_
  refine fr_iload_n (pc := 1361) dL_law_1361 3 rfl rfl ?_
  refine fr_iconst (pc := 1362) (v := (4 : Int32)) dL_law_1362 (by decide) ?_
  refine fr_iadd (pc := 1363) dL_law_1363 ?_
  refine fr_sld (pc := 1364) dL_law_1364 h4 ?_
  refine fr_aload_n (pc := 1365) dL_law_1365 0 rfl rfl ?_
  refine fr_iload_n (pc := 1366) dL_law_1366 3 rfl rfl ?_
  refine fr_iconst (pc := 1367) (v := (5 : Int32)) dL_law_1367 (by decide) ?_
  refine fr_iadd (pc := 1368) dL_law_1368 ?_
  refine fr_sld (pc := 1369) dL_law_1369 h5 ?_
  refine fr_callVi (pc := 1370) (av := [.int (xs (v3 + (1 : Int32)).toNatClampNeg), .int (xs (v3 + (2 : Int32)).toNatClampNeg), .int (xs (v3 + (3 : Int32)).toNatClampNeg), .int (xs (v3 + (4 : Int32)).toNatClampNeg), .int (xs (v3 + (5 : Int32)).toNatClampNeg)]) dL_law_1370 yy_X8_copy kw_989 (k := 0) (by decide) rfl rfl rfl rfl (Nat.le_of_ble_eq_true rfl) ⟨Nat.le_of_ble_eq_true rfl, Nat.le_of_ble_eq_true rfl, Nat.le_of_ble_eq_true rfl, Nat.le_of_ble_eq_true rfl⟩ (sX8_copy e1) ?_
  refine fr_aload_n (pc := 1373) dL_law_1373 2 rfl rfl ?_
  refine fr_aload_n (pc := 1374) dL_law_1374 0 rfl rfl ?_
  refine fr_iload_n (pc := 1375) dL_law_1375 3 rfl rfl ?_
  refine fr_iconst (pc := 1376) (v := (1 : Int32)) dL_law_1376 (by decide) ?_
  refine fr_iadd (pc := 1377) dL_law_1377 ?_
  refine fr_sld (pc := 1378) dL_law_1378 h1 ?_
  refine fr_aload_n (pc := 1379) dL_law_1379 0 rfl rfl ?_
  refine fr_iload_n (pc := 1380) dL_law_1380 3 rfl rfl ?_
  refine fr_iconst (pc := 1381) (v := (2 : Int32)) dL_law_1381 (by decide) ?_
  refine fr_iadd (pc := 1382) dL_law_1382 ?_
  refine fr_sld (pc := 1383) dL_law_1383 h2 ?_
  refine fr_aload_n (pc := 1384) dL_law_1384 0 rfl rfl ?_
  refine fr_iload_n (pc := 1385) dL_law_1385 3 rfl rfl ?_
  refine fr_iconst (pc := 1386) (v := (3 : Int32)) dL_law_1386 (by decide) ?_
  refine fr_iadd (pc := 1387) dL_law_1387 ?_
  refine fr_sld (pc := 1388) dL_law_1388 h3 ?_
  refine fr_aload_n (pc := 1389) dL_law_1389 0 rfl rfl ?_
  refine fr_iload_n (pc := 1390) dL_law_1390 3 rfl rfl ?_
  refine fr_iconst (pc := 1391) (v := (4 : Int32)) dL_law_1391 (by decide) ?_
  refine fr_iadd (pc := 1392) dL_law_1392 ?_
  refine fr_sld (pc := 1393) dL_law_1393 h4 ?_
  refine fr_aload_n (pc := 1394) dL_law_1394 0 rfl rfl ?_
  refine fr_iload_n (pc := 1395) dL_law_1395 3 rfl rfl ?_
  refine fr_iconst (pc := 1396) (v := (5 : Int32)) dL_law_1396 (by decide) ?_
  refine fr_iadd (pc := 1397) dL_law_1397 ?_
  refine fr_sld (pc := 1398) dL_law_1398 h5 ?_
  refine fr_callVi (pc := 1399) (av := [.int (xs (v3 + (1 : Int32)).toNatClampNeg), .int (xs (v3 + (2 : Int32)).toNatClampNeg), .int (xs (v3 + (3 : Int32)).toNatClampNeg), .int (xs (v3 + (4 : Int32)).toNatClampNeg), .int (xs (v3 + (5 : Int32)).toNatClampNeg)]) dL_law_1399 yy_X9_copy kw_993 (k := 73) (by decide) rfl rfl rfl rfl (Nat.le_of_ble_eq_true rfl) ⟨Nat.le_of_ble_eq_true rfl, Nat.le_of_ble_eq_true rfl, Nat.le_of_ble_eq_true rfl, Nat.le_of_ble_eq_true rfl⟩ (sX9_copy e2) ?_
  exact fr_icmp_eq (pc := 1402) 1477 dL_law_1402 (by decide) (fun _ => kk) (fun q => absurd rfl q)
set_option maxRecDepth 100000 in
set_option maxHeartbeats 4000000 in
theorem lc_38 {g : fd_G} {nm : String} {b L : Nat} {xs : Nat → Int32} {hx hm : fd_H} {hx' : fd_H} {hm' : fd_H} {v3 : Int32} {r : Int32} (h1 : fd_in (v3 + (1 : Int32)) L = true) (h2 : fd_in (v3 + (2 : Int32)) L = true) (e1 : fX8_write (xs (v3 + (1 : Int32)).toNatClampNeg) (xs (v3 + (2 : Int32)).toNatClampNeg) hx = some (r, hx')) (e2 : fX9_write (xs (v3 + (1 : Int32)).toNatClampNeg) (xs (v3 + (2 : Int32)).toNatClampNeg) hm = some (r, hm')) (kk : fd_A g (mL_law nm) (fd_EL g b L xs) room_1 fd_QL 1477 [(0, .ref b), (1, .ref (g.2.2.2 + 0)), (2, .ref (g.2.2.2 + 73)), (3, .int v3)] [] fd_X0 (fd_mx hx' hm') 98 1398) : fd_A g (mL_law nm) (fd_EL g b L xs) room_1 fd_QL 1407 [(0, .ref b), (1, .ref (g.2.2.2 + 0)), (2, .ref (g.2.2.2 + 73)), (3, .int v3)] [] fd_X0 (fd_mx hx hm) 98 1398 := by
  refine fr_aload_n (pc := 1407) dL_law_1407 1 rfl rfl ?_
  refine fr_aload_n (pc := 1408) dL_law_1408 0 rfl rfl ?_
  refine fr_iload_n (pc := 1409) dL_law_1409 3 rfl rfl ?_
  refine fr_iconst (pc := 1410) (v := (1 : Int32)) dL_law_1410 (by decide) ?_
  refine fr_iadd (pc := 1411) dL_law_1411 ?_
  refine fr_sld (pc := 1412) dL_law_1412 h1 ?_
  refine fr_aload_n (pc := 1413) dL_law_1413 0 rfl rfl ?_
  refine fr_iload_n (pc := 1414) dL_law_1414 3 rfl rfl ?_
  refine fr_iconst (pc := 1415) (v := (2 : Int32)) dL_law_1415 (by decide) ?_
  refine fr_iadd (pc := 1416) dL_law_1416 ?_
  refine fr_sld (pc := 1417) dL_law_1417 h2 ?_
  refine fr_callVi (pc := 1418) (av := [.int (xs (v3 + (1 : Int32)).toNatClampNeg), .int (xs (v3 + (2 : Int32)).toNatClampNeg)]) dL_law_1418 yy_X8_write kw_997 (k := 0) (by decide) rfl rfl rfl rfl (Nat.le_of_ble_eq_true rfl) ⟨Nat.le_of_ble_eq_true rfl, Nat.le_of_ble_eq_true rfl, Nat.le_of_ble_eq_true rfl, Nat.le_of_ble_eq_true rfl⟩ (sX8_write e1) ?_
  refine fr_aload_n (pc := 1421) dL_law_1421 2 rfl rfl ?_
  refine fr_aload_n (pc := 1422) dL_law_1422 0 rfl rfl ?_
  refine fr_iload_n (pc := 1423) dL_law_1423 3 rfl rfl ?_
  refine fr_iconst (pc := 1424) (v := (1 : Int32)) dL_law_1424 (by decide) ?_
  refine fr_iadd (pc := 1425) dL_law_1425 ?_
  refine fr_sld (pc := 1426) dL_law_1426 h1 ?_
  refine fr_aload_n (pc := 1427) dL_law_1427 0 rfl rfl ?_
  refine fr_iload_n (pc := 1428) dL_law_1428 3 rfl rfl ?_
  refine fr_iconst (pc := 1429) (v := (2 : Int32)) dL_law_1429 (by decide) ?_
  refine fr_iadd (pc := 1430) dL_law_1430 ?_
  refine fr_sld (pc := 1431) dL_law_1431 h2 ?_
  refine fr_callVi (pc := 1432) (av := [.int (xs (v3 + (1 : Int32)).toNatClampNeg), .int (xs (v3 + (2 : Int32)).toNatClampNeg)]) dL_law_1432 yy_X9_write kw_1001 (k := 73) (by decide) rfl rfl rfl rfl (Nat.le_of_ble_eq_true rfl) ⟨Nat.le_of_ble_eq_true rfl, Nat.le_of_ble_eq_true rfl, Nat.le_of_ble_eq_true rfl, Nat.le_of_ble_eq_true rfl⟩ (sX9_write e2) ?_
  exact fr_icmp_eq (pc := 1435) 1477 dL_law_1435 (by decide) (fun _ => kk) (fun q => absurd rfl q)
set_option maxRecDepth 100000 in
set_option maxHeartbeats 4000000 in
theorem lc_39 {g : fd_G} {nm : String} {b L : Nat} {xs : Nat → Int32} {hx hm : fd_H} {hm' : fd_H} {v3 : Int32} {r : Int32} (h1 : fd_in (v3 + (1 : Int32)) L = true) (e1 : fX8_count (xs (v3 + (1 : Int32)).toNatClampNeg) hx = some r) (e2 : fX9_count (xs (v3 + (1 : Int32)).toNatClampNeg) hm = some (r, hm')) (kk : fd_A g (mL_law nm) (fd_EL g b L xs) room_1 fd_QL 1477 [(0, .ref b), (1, .ref (g.2.2.2 + 0)), (2, .ref (g.2.2.2 + 73)), (3, .int v3)] [] fd_X0 (fd_mx hx hm') 98 1398) : fd_A g (mL_law nm) (fd_EL g b L xs) room_1 fd_QL 1440 [(0, .ref b), (1, .ref (g.2.2.2 + 0)), (2, .ref (g.2.2.2 + 73)), (3, .int v3)] [] fd_X0 (fd_mx hx hm) 98 1398 := by
  refine fr_aload_n (pc := 1440) dL_law_1440 1 rfl rfl ?_
  refine fr_aload_n (pc := 1441) dL_law_1441 0 rfl rfl ?_
  refine fr_iload_n (pc := 1442) dL_law_1442 3 rfl rfl ?_
  refine fr_iconst (pc := 1443) (v := (1 : Int32)) dL_law_1443 (by decide) ?_
  refine fr_iadd (pc := 1444) dL_law_1444 ?_
  refine fr_sld (pc := 1445) dL_law_1445 h1 ?_
  refine fr_callVi (pc := 1446) (av := [.int (xs (v3 + (1 : Int32)).toNatClampNeg)]) dL_law_1446 yy_X8_count kw_1002 (k := 0) (by decide) rfl rfl rfl rfl (Nat.le_of_ble_eq_true rfl) ⟨Nat.le_of_ble_eq_true rfl, Nat.le_of_ble_eq_true rfl, Nat.le_of_ble_eq_true rfl, Nat.le_of_ble_eq_true rfl⟩ (sX8_count e1) ?_
  refine fr_aload_n (pc := 1449) dL_law_1449 2 rfl rfl ?_
  refine fr_aload_n (pc := 1450) dL_law_1450 0 rfl rfl ?_
  refine fr_iload_n (pc := 1451) dL_law_1451 3 rfl rfl ?_
  refine fr_iconst (pc := 1452) (v := (1 : Int32)) dL_law_1452 (by decide) ?_
  refine fr_iadd (pc := 1453) dL_law_1453 ?_
  refine fr_sld (pc := 1454) dL_law_1454 h1 ?_
  refine fr_callVi (pc := 1455) (av := [.int (xs (v3 + (1 : Int32)).toNatClampNeg)]) dL_law_1455 yy_X9_count kw_1003 (k := 73) (by decide) rfl rfl rfl rfl (Nat.le_of_ble_eq_true rfl) ⟨Nat.le_of_ble_eq_true rfl, Nat.le_of_ble_eq_true rfl, Nat.le_of_ble_eq_true rfl, Nat.le_of_ble_eq_true rfl⟩ (sX9_count e2) ?_
  exact fr_icmp_eq (pc := 1458) 1477 dL_law_1458 (by decide) (fun _ => kk) (fun q => absurd rfl q)
set_option maxRecDepth 100000 in
set_option maxHeartbeats 4000000 in
theorem lc_40 {g : fd_G} {nm : String} {b L : Nat} {xs : Nat → Int32} {hx hm : fd_H} {hx' : fd_H} {hm' : fd_H} {v3 : Int32} {r : Int64} (e1 : fX8_digest hx = some (r, hx')) (e2 : fX9_digest hm = some (r, hm')) (kk : fd_A g (mL_law nm) (fd_EL g b L xs) room_1 fd_QL 1477 [(0, .ref b), (1, .ref (g.2.2.2 + 0)), (2, .ref (g.2.2.2 + 73)), (3, .int v3)] [] fd_X0 (fd_mx hx' hm') 98 1398) : fd_A g (mL_law nm) (fd_EL g b L xs) room_1 fd_QL 1463 [(0, .ref b), (1, .ref (g.2.2.2 + 0)), (2, .ref (g.2.2.2 + 73)), (3, .int v3)] [] fd_X0 (fd_mx hx hm) 98 1398 := by
  refine fr_aload_n (pc := 1463) dL_law_1463 1 rfl rfl ?_
  refine fr_callVl (pc := 1464) (av := []) dL_law_1464 yy_X8_digest kw_1007 (k := 0) (by decide) rfl rfl rfl rfl (Nat.le_of_ble_eq_true rfl) ⟨Nat.le_of_ble_eq_true rfl, Nat.le_of_ble_eq_true rfl, Nat.le_of_ble_eq_true rfl, Nat.le_of_ble_eq_true rfl⟩ (sX8_digest e1) ?_
  refine fr_aload_n (pc := 1467) dL_law_1467 2 rfl rfl ?_
  refine fr_callVl (pc := 1468) (av := []) dL_law_1468 yy_X9_digest kw_1011 (k := 73) (by decide) rfl rfl rfl rfl (Nat.le_of_ble_eq_true rfl) ⟨Nat.le_of_ble_eq_true rfl, Nat.le_of_ble_eq_true rfl, Nat.le_of_ble_eq_true rfl, Nat.le_of_ble_eq_true rfl⟩ (sX9_digest e2) ?_
  refine fr_lcmp (pc := 1471) dL_law_1471 ?_
  exact fr_if_eq (pc := 1472) 1477 dL_law_1472 (by decide) (fun _ => kk) (fun q => absurd ((lg_cmp_eq _ _).mpr rfl) q)
def pp_type (Rel : fd_H → fd_H → Prop) : Prop := ∀ (hx hm : fd_H) (a0 a1 : Int32), Rel hx hm → ∃ (r : Int32) (hx' : fd_H) (hm' : fd_H), fX8_type a0 a1 hx = some (r, hx') ∧ fX9_type a0 a1 hm = some (r, hm') ∧ Rel hx' hm'
def pp_wipe (Rel : fd_H → fd_H → Prop) : Prop := ∀ (hx hm : fd_H) (a0 : Int32), Rel hx hm → ∃ (r : Int32) (hx' : fd_H) (hm' : fd_H), fX8_wipe a0 hx = some (r, hx') ∧ fX9_wipe a0 hm = some (r, hm') ∧ Rel hx' hm'
def pp_undo (Rel : fd_H → fd_H → Prop) : Prop := ∀ (hx hm : fd_H) (a0 : Int32), Rel hx hm → ∃ (r : Int32) (hx' : fd_H) (hm' : fd_H), fX8_undo a0 hx = some (r, hx') ∧ fX9_undo a0 hm = some (r, hm') ∧ Rel hx' hm'
def pp_fault (Rel : fd_H → fd_H → Prop) : Prop := ∀ (hx hm : fd_H) (a0 : Int32), Rel hx hm → ∃ (r : Int32) (hm' : fd_H), fX8_fault a0 hx = some r ∧ fX9_fault a0 hm = some (r, hm') ∧ Rel hx hm'
def pp_place (Rel : fd_H → fd_H → Prop) : Prop := ∀ (hx hm : fd_H) (a0 a1 : Int32), Rel hx hm → ∃ (r : Int32) (hm' : fd_H), fX8_place a0 a1 hx = some r ∧ fX9_place a0 a1 hm = some (r, hm') ∧ Rel hx hm'
def pp_warm (Rel : fd_H → fd_H → Prop) : Prop := ∀ (hx hm : fd_H) (a0 : Int32), Rel hx hm → ∃ (r : Int32) (hm' : fd_H), fX8_warm a0 hx = some r ∧ fX9_warm a0 hm = some (r, hm') ∧ Rel hx hm'
def pp_debt (Rel : fd_H → fd_H → Prop) : Prop := ∀ (hx hm : fd_H) (a0 a1 : Int32), Rel hx hm → ∃ (r : Int32) (hm' : fd_H), fX8_debt a0 a1 hx = some r ∧ fX9_debt a0 a1 hm = some (r, hm') ∧ Rel hx hm'
def pp_zero (Rel : fd_H → fd_H → Prop) : Prop := ∀ (hx hm : fd_H) (a0 : Int32), Rel hx hm → ∃ (r : Int32) (hx' : fd_H) (hm' : fd_H), fX8_zero a0 hx = some (r, hx') ∧ fX9_zero a0 hm = some (r, hm') ∧ Rel hx' hm'
def pp_cloud (Rel : fd_H → fd_H → Prop) : Prop := ∀ (hx hm : fd_H) (a0 : Int32), Rel hx hm → ∃ (r : Int32) (hx' : fd_H) (hm' : fd_H), fX8_cloud a0 hx = some (r, hx') ∧ fX9_cloud a0 hm = some (r, hm') ∧ Rel hx' hm'
def pp_smoke (Rel : fd_H → fd_H → Prop) : Prop := ∀ (hx hm : fd_H) (a0 a1 : Int32), Rel hx hm → ∃ (r : Int32) (hx' : fd_H) (hm' : fd_H), fX8_smoke a0 a1 hx = some (r, hx') ∧ fX9_smoke a0 a1 hm = some (r, hm') ∧ Rel hx' hm'
def pp_ice (Rel : fd_H → fd_H → Prop) : Prop := ∀ (hx hm : fd_H) (a0 a1 : Int32), Rel hx hm → ∃ (r : Int32) (hx' : fd_H) (hm' : fd_H), fX8_ice a0 a1 hx = some (r, hx') ∧ fX9_ice a0 a1 hm = some (r, hm') ∧ Rel hx' hm'
def pp_back (Rel : fd_H → fd_H → Prop) : Prop := ∀ (hx hm : fd_H) (a0 : Int32), Rel hx hm → ∃ (r : Int32) (hx' : fd_H) (hm' : fd_H), fX8_back a0 hx = some (r, hx') ∧ fX9_back a0 hm = some (r, hm') ∧ Rel hx' hm'
def pp_warmth (Rel : fd_H → fd_H → Prop) : Prop := ∀ (hx hm : fd_H) (a0 a1 : Int32), Rel hx hm → ∃ (r : Int32) (hm' : fd_H), fX8_warmth a0 a1 hx = some r ∧ fX9_warmth a0 a1 hm = some (r, hm') ∧ Rel hx hm'
def pp_freezes (Rel : fd_H → fd_H → Prop) : Prop := ∀ (hx hm : fd_H) (a0 a1 : Int32), Rel hx hm → ∃ (r : Int32) (hm' : fd_H), fX8_freezes a0 a1 hx = some r ∧ fX9_freezes a0 a1 hm = some (r, hm') ∧ Rel hx hm'
def pp_first (Rel : fd_H → fd_H → Prop) : Prop := ∀ (hx hm : fd_H) (a0 : Int32), Rel hx hm → ∃ (r : Int32) (hm' : fd_H), fX8_first a0 hx = some r ∧ fX9_first a0 hm = some (r, hm') ∧ Rel hx hm'
def pp_had (Rel : fd_H → fd_H → Prop) : Prop := ∀ (hx hm : fd_H) (a0 : Int32), Rel hx hm → ∃ (r : Int32) (hm' : fd_H), fX8_had a0 hx = some r ∧ fX9_had a0 hm = some (r, hm') ∧ Rel hx hm'
def pp_stands (Rel : fd_H → fd_H → Prop) : Prop := ∀ (hx hm : fd_H) (a0 a1 : Int32), Rel hx hm → ∃ (r : Int32) (hm' : fd_H), fX8_stands a0 a1 hx = some r ∧ fX9_stands a0 a1 hm = some (r, hm') ∧ Rel hx hm'
def pp_lasts (Rel : fd_H → fd_H → Prop) : Prop := ∀ (hx hm : fd_H) (a0 a1 : Int32), Rel hx hm → ∃ (r : Int32) (hm' : fd_H), fX8_lasts a0 a1 hx = some r ∧ fX9_lasts a0 a1 hm = some (r, hm') ∧ Rel hx hm'
def pp_never (Rel : fd_H → fd_H → Prop) : Prop := ∀ (hx hm : fd_H), Rel hx hm → ∃ (r : Int32) (hm' : fd_H), fX8_never hx = some r ∧ fX9_never hm = some (r, hm') ∧ Rel hx hm'
def pp_owes (Rel : fd_H → fd_H → Prop) : Prop := ∀ (hx hm : fd_H) (a0 a1 a2 : Int32), Rel hx hm → ∃ (r : Int32) (hm' : fd_H), fX8_owes a0 a1 a2 hx = some r ∧ fX9_owes a0 a1 a2 hm = some (r, hm') ∧ Rel hx hm'
def pp_hangs (Rel : fd_H → fd_H → Prop) : Prop := ∀ (hx hm : fd_H) (a0 : Int32), Rel hx hm → ∃ (r : Int32) (hm' : fd_H), fX8_hangs a0 hx = some r ∧ fX9_hangs a0 hm = some (r, hm') ∧ Rel hx hm'
def pp_free (Rel : fd_H → fd_H → Prop) : Prop := ∀ (hx hm : fd_H) (a0 a1 : Int32), Rel hx hm → ∃ (r : Int32) (hm' : fd_H), fX8_free a0 a1 hx = some r ∧ fX9_free a0 a1 hm = some (r, hm') ∧ Rel hx hm'
def pp_where (Rel : fd_H → fd_H → Prop) : Prop := ∀ (hx hm : fd_H) (a0 a1 a2 : Int32), Rel hx hm → ∃ (r : Int32) (hm' : fd_H), fX8_where a0 a1 a2 hx = some r ∧ fX9_where a0 a1 a2 hm = some (r, hm') ∧ Rel hx hm'
def pp_keep (Rel : fd_H → fd_H → Prop) : Prop := ∀ (hx hm : fd_H) (a0 a1 a2 : Int32), Rel hx hm → ∃ (r : Int32) (hm' : fd_H), fX8_keep a0 a1 a2 hx = some r ∧ fX9_keep a0 a1 a2 hm = some (r, hm') ∧ Rel hx hm'
def pp_carry (Rel : fd_H → fd_H → Prop) : Prop := ∀ (hx hm : fd_H) (a0 a1 a2 : Int32), Rel hx hm → ∃ (r : Int32) (hm' : fd_H), fX8_carry a0 a1 a2 hx = some r ∧ fX9_carry a0 a1 a2 hm = some (r, hm') ∧ Rel hx hm'
def pp_seen (Rel : fd_H → fd_H → Prop) : Prop := ∀ (hx hm : fd_H) (a0 a1 a2 : Int32), Rel hx hm → ∃ (r : Int32) (hx' : fd_H) (hm' : fd_H), fX8_seen a0 a1 a2 hx = some (r, hx') ∧ fX9_seen a0 a1 a2 hm = some (r, hm') ∧ Rel hx' hm'
def pp_forget (Rel : fd_H → fd_H → Prop) : Prop := ∀ (hx hm : fd_H), Rel hx hm → ∃ (r : Int32) (hx' : fd_H) (hm' : fd_H), fX8_forget hx = some (r, hx') ∧ fX9_forget hm = some (r, hm') ∧ Rel hx' hm'
def pp_read (Rel : fd_H → fd_H → Prop) : Prop := ∀ (hx hm : fd_H) (a0 : Int32), Rel hx hm → ∃ (r : Int32) (hx' : fd_H) (hm' : fd_H), fX8_read a0 hx = some (r, hx') ∧ fX9_read a0 hm = some (r, hm') ∧ Rel hx' hm'
def pp_was (Rel : fd_H → fd_H → Prop) : Prop := ∀ (hx hm : fd_H) (a0 : Int32), Rel hx hm → ∃ (r : Int32) (hx' : fd_H) (hm' : fd_H), fX8_was a0 hx = some (r, hx') ∧ fX9_was a0 hm = some (r, hm') ∧ Rel hx' hm'
def pp_carried (Rel : fd_H → fd_H → Prop) : Prop := ∀ (hx hm : fd_H), Rel hx hm → ∃ (r : Int32) (hx' : fd_H) (hm' : fd_H), fX8_carried hx = some (r, hx') ∧ fX9_carried hm = some (r, hm') ∧ Rel hx' hm'
def pp_ask (Rel : fd_H → fd_H → Prop) : Prop := ∀ (hx hm : fd_H) (a0 : Int32), Rel hx hm → ∃ (r : Int32) (hx' : fd_H) (hm' : fd_H), fX8_ask a0 hx = some (r, hx') ∧ fX9_ask a0 hm = some (r, hm') ∧ Rel hx' hm'
def pp_chance (Rel : fd_H → fd_H → Prop) : Prop := ∀ (hx hm : fd_H) (a0 a1 a2 a3 : Int32), Rel hx hm → ∃ (r : Int64) (hm' : fd_H), fX8_chance a0 a1 a2 a3 hx = some r ∧ fX9_chance a0 a1 a2 a3 hm = some (r, hm') ∧ Rel hx hm'
def pp_year (Rel : fd_H → fd_H → Prop) : Prop := ∀ (hx hm : fd_H) (a0 a1 : Int32), Rel hx hm → ∃ (r : Int32) (hx' : fd_H) (hm' : fd_H), fX8_year a0 a1 hx = some (r, hx') ∧ fX9_year a0 a1 hm = some (r, hm') ∧ Rel hx' hm'
def pp_sheet (Rel : fd_H → fd_H → Prop) : Prop := ∀ (hx hm : fd_H) (a0 a1 a2 : Int32), Rel hx hm → ∃ (r : Int32) (hx' : fd_H) (hm' : fd_H), fX8_sheet a0 a1 a2 hx = some (r, hx') ∧ fX9_sheet a0 a1 a2 hm = some (r, hm') ∧ Rel hx' hm'
def pp_lose (Rel : fd_H → fd_H → Prop) : Prop := ∀ (hx hm : fd_H) (a0 : Int32), Rel hx hm → ∃ (r : Int32) (hx' : fd_H) (hm' : fd_H), fX8_lose a0 hx = some (r, hx') ∧ fX9_lose a0 hm = some (r, hm') ∧ Rel hx' hm'
def pp_put (Rel : fd_H → fd_H → Prop) : Prop := ∀ (hx hm : fd_H) (a0 a1 a2 a3 : Int32), Rel hx hm → ∃ (r : Int32) (hx' : fd_H) (hm' : fd_H), fX8_put a0 a1 a2 a3 hx = some (r, hx') ∧ fX9_put a0 a1 a2 a3 hm = some (r, hm') ∧ Rel hx' hm'
def pp_get (Rel : fd_H → fd_H → Prop) : Prop := ∀ (hx hm : fd_H) (a0 a1 a2 : Int32), Rel hx hm → ∃ (r : Int32) (hx' : fd_H) (hm' : fd_H), fX8_get a0 a1 a2 hx = some (r, hx') ∧ fX9_get a0 a1 a2 hm = some (r, hm') ∧ Rel hx' hm'
def pp_copy (Rel : fd_H → fd_H → Prop) : Prop := ∀ (hx hm : fd_H) (a0 a1 a2 a3 a4 : Int32), Rel hx hm → ∃ (r : Int32) (hx' : fd_H) (hm' : fd_H), fX8_copy a0 a1 a2 a3 a4 hx = some (r, hx') ∧ fX9_copy a0 a1 a2 a3 a4 hm = some (r, hm') ∧ Rel hx' hm'
def pp_write (Rel : fd_H → fd_H → Prop) : Prop := ∀ (hx hm : fd_H) (a0 a1 : Int32), Rel hx hm → ∃ (r : Int32) (hx' : fd_H) (hm' : fd_H), fX8_write a0 a1 hx = some (r, hx') ∧ fX9_write a0 a1 hm = some (r, hm') ∧ Rel hx' hm'
def pp_count (Rel : fd_H → fd_H → Prop) : Prop := ∀ (hx hm : fd_H) (a0 : Int32), Rel hx hm → ∃ (r : Int32) (hm' : fd_H), fX8_count a0 hx = some r ∧ fX9_count a0 hm = some (r, hm') ∧ Rel hx hm'
def pp_digest (Rel : fd_H → fd_H → Prop) : Prop := ∀ (hx hm : fd_H), Rel hx hm → ∃ (r : Int64) (hx' : fd_H) (hm' : fd_H), fX8_digest hx = some (r, hx') ∧ fX9_digest hm = some (r, hm') ∧ Rel hx' hm'
