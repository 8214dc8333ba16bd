theorem nI_p (i k : Nat) {z : Int32} (h : z = nI k) : nI i + z = nI (i + k) := by rw [h, nI_add]
theorem svV_X9_letter : SV RX9 yX9_letter cX9_letter 2 (some .int) 1 := ⟨kw261, kw262, kw1, kw263, rfl, by decide, by decide, by decide +kernel⟩
theorem svV_X10_letter : SV RX10 yX10_letter cX10_letter 2 (some .int) 1 := ⟨kw1712, kw1713, kw16, kw1714, rfl, by decide, by decide, by decide +kernel⟩
theorem svV_X9_tells : SV RX9 yX9_tells cX9_tells 3 (some .int) 0 := ⟨kw285, kw286, kw1, kw287, rfl, by decide, by decide, by decide +kernel⟩
theorem svV_X10_tells : SV RX10 yX10_tells cX10_tells 2 (some .int) 0 := ⟨kw1716, kw1717, kw16, kw1718, rfl, by decide, by decide, by decide +kernel⟩
theorem svV_X9_paper : SV RX9 yX9_paper cX9_paper 2 (some .int) 1 := ⟨kw476, kw477, kw1, kw478, rfl, by decide, by decide, by decide +kernel⟩
theorem svV_X9_kind : SV RX9 yX9_kind cX9_kind 4 (some .int) 3 := ⟨kw484, kw485, kw1, kw486, rfl, by decide, by decide, by decide +kernel⟩
theorem svV_X9_raw : SV RX9 yX9_raw cX9_raw 3 (some .int) 2 := ⟨kw489, kw490, kw1, kw491, rfl, by decide, by decide, by decide +kernel⟩
theorem svV_X10_raw : SV RX10 yX10_raw cX10_raw 3 (some .int) 2 := ⟨kw1368, kw1369, kw16, kw1370, rfl, by decide, by decide, by decide +kernel⟩
theorem svV_X9_heavy : SV RX9 yX9_heavy cX9_heavy 3 (some .int) 2 := ⟨kw497, kw498, kw1, kw499, rfl, by decide, by decide, by decide +kernel⟩
theorem svV_X9_place : SV RX9 yX9_place cX9_place 3 (some .int) 2 := ⟨kw502, kw503, kw1, kw504, rfl, by decide, by decide, by decide +kernel⟩
theorem svV_X9_rule : SV RX9 yX9_rule cX9_rule 3 (some .int) 2 := ⟨kw507, kw508, kw1, kw509, rfl, by decide, by decide, by decide +kernel⟩
theorem svV_X9_free : SV RX9 yX9_free cX9_free 2 (some .int) 1 := ⟨kw512, kw513, kw1, kw514, rfl, by decide, by decide, by decide +kernel⟩
theorem dL_law_216 : decode cL_law 216 = .ok (.aload_n 1, 1) := by decide +kernel
theorem dL_law_217 : decode cL_law 217 = .ok (.aload_n 0, 1) := by decide +kernel
theorem dL_law_218 : decode cL_law 218 = .ok (.iload_n 3, 1) := by decide +kernel
theorem dL_law_219 : decode cL_law 219 = .ok (.iconst 1, 1) := by decide +kernel
theorem dL_law_220 : decode cL_law 220 = .ok (.iadd, 1) := by decide +kernel
theorem dL_law_221 : decode cL_law 221 = .ok (.iaload, 1) := by decide +kernel
theorem dL_law_222 : decode cL_law 222 = .ok (.invokevirtual 13, 3) := by decide +kernel
theorem dL_law_225 : decode cL_law 225 = .ok (.aload_n 2, 1) := by decide +kernel
theorem dL_law_226 : decode cL_law 226 = .ok (.aload_n 0, 1) := by decide +kernel
theorem dL_law_227 : decode cL_law 227 = .ok (.iload_n 3, 1) := by decide +kernel
theorem dL_law_228 : decode cL_law 228 = .ok (.iconst 1, 1) := by decide +kernel
theorem dL_law_229 : decode cL_law 229 = .ok (.iadd, 1) := by decide +kernel
theorem dL_law_230 : decode cL_law 230 = .ok (.iaload, 1) := by decide +kernel
theorem dL_law_231 : decode cL_law 231 = .ok (.invokevirtual 17, 3) := by decide +kernel
theorem dL_law_234 : decode cL_law 234 = .ok (.if_icmp .eq 1295, 3) := by decide +kernel
theorem dL_law_239 : decode cL_law 239 = .ok (.aload_n 1, 1) := by decide +kernel
theorem dL_law_240 : decode cL_law 240 = .ok (.invokevirtual 18, 3) := by decide +kernel
theorem dL_law_243 : decode cL_law 243 = .ok (.aload_n 2, 1) := by decide +kernel
theorem dL_law_244 : decode cL_law 244 = .ok (.invokevirtual 22, 3) := by decide +kernel
theorem dL_law_247 : decode cL_law 247 = .ok (.if_icmp .eq 1282, 3) := by decide +kernel
theorem dL_law_252 : decode cL_law 252 = .ok (.aload_n 1, 1) := by decide +kernel
theorem dL_law_253 : decode cL_law 253 = .ok (.aload_n 0, 1) := by decide +kernel
theorem dL_law_254 : decode cL_law 254 = .ok (.iload_n 3, 1) := by decide +kernel
theorem dL_law_255 : decode cL_law 255 = .ok (.iconst 1, 1) := by decide +kernel
theorem dL_law_256 : decode cL_law 256 = .ok (.iadd, 1) := by decide +kernel
theorem dL_law_257 : decode cL_law 257 = .ok (.iaload, 1) := by decide +kernel
theorem dL_law_258 : decode cL_law 258 = .ok (.invokevirtual 23, 3) := by decide +kernel
theorem dL_law_261 : decode cL_law 261 = .ok (.aload_n 2, 1) := by decide +kernel
theorem dL_law_262 : decode cL_law 262 = .ok (.aload_n 0, 1) := by decide +kernel
theorem dL_law_263 : decode cL_law 263 = .ok (.iload_n 3, 1) := by decide +kernel
theorem dL_law_264 : decode cL_law 264 = .ok (.iconst 1, 1) := by decide +kernel
theorem dL_law_265 : decode cL_law 265 = .ok (.iadd, 1) := by decide +kernel
theorem dL_law_266 : decode cL_law 266 = .ok (.iaload, 1) := by decide +kernel
theorem dL_law_267 : decode cL_law 267 = .ok (.invokevirtual 26, 3) := by decide +kernel
theorem dL_law_270 : decode cL_law 270 = .ok (.if_icmp .eq 1259, 3) := by decide +kernel
theorem dL_law_275 : decode cL_law 275 = .ok (.aload_n 1, 1) := by decide +kernel
theorem dL_law_276 : decode cL_law 276 = .ok (.aload_n 0, 1) := by decide +kernel
theorem dL_law_277 : decode cL_law 277 = .ok (.iload_n 3, 1) := by decide +kernel
theorem dL_law_278 : decode cL_law 278 = .ok (.iconst 1, 1) := by decide +kernel
theorem dL_law_279 : decode cL_law 279 = .ok (.iadd, 1) := by decide +kernel
theorem dL_law_280 : decode cL_law 280 = .ok (.iaload, 1) := by decide +kernel
theorem dL_law_281 : decode cL_law 281 = .ok (.aload_n 0, 1) := by decide +kernel
theorem dL_law_282 : decode cL_law 282 = .ok (.iload_n 3, 1) := by decide +kernel
theorem dL_law_283 : decode cL_law 283 = .ok (.iconst 2, 1) := by decide +kernel
theorem dL_law_284 : decode cL_law 284 = .ok (.iadd, 1) := by decide +kernel
theorem dL_law_285 : decode cL_law 285 = .ok (.iaload, 1) := by decide +kernel
theorem dL_law_286 : decode cL_law 286 = .ok (.aload_n 0, 1) := by decide +kernel
theorem dL_law_287 : decode cL_law 287 = .ok (.iload_n 3, 1) := by decide +kernel
theorem dL_law_288 : decode cL_law 288 = .ok (.iconst 3, 1) := by decide +kernel
theorem dL_law_289 : decode cL_law 289 = .ok (.iadd, 1) := by decide +kernel
theorem dL_law_290 : decode cL_law 290 = .ok (.iaload, 1) := by decide +kernel
theorem dL_law_291 : decode cL_law 291 = .ok (.invokevirtual 27, 3) := by decide +kernel
theorem dL_law_294 : decode cL_law 294 = .ok (.aload_n 2, 1) := by decide +kernel
theorem dL_law_295 : decode cL_law 295 = .ok (.aload_n 0, 1) := by decide +kernel
theorem dL_law_296 : decode cL_law 296 = .ok (.iload_n 3, 1) := by decide +kernel
theorem dL_law_297 : decode cL_law 297 = .ok (.iconst 1, 1) := by decide +kernel
theorem dL_law_298 : decode cL_law 298 = .ok (.iadd, 1) := by decide +kernel
theorem dL_law_299 : decode cL_law 299 = .ok (.iaload, 1) := by decide +kernel
theorem dL_law_300 : decode cL_law 300 = .ok (.aload_n 0, 1) := by decide +kernel
theorem dL_law_301 : decode cL_law 301 = .ok (.iload_n 3, 1) := by decide +kernel
theorem dL_law_302 : decode cL_law 302 = .ok (.iconst 2, 1) := by decide +kernel
theorem dL_law_303 : decode cL_law 303 = .ok (.iadd, 1) := by decide +kernel
theorem dL_law_304 : decode cL_law 304 = .ok (.iaload, 1) := by decide +kernel
theorem dL_law_305 : decode cL_law 305 = .ok (.aload_n 0, 1) := by decide +kernel
theorem dL_law_306 : decode cL_law 306 = .ok (.iload_n 3, 1) := by decide +kernel
theorem dL_law_307 : decode cL_law 307 = .ok (.iconst 3, 1) := by decide +kernel
theorem dL_law_308 : decode cL_law 308 = .ok (.iadd, 1) := by decide +kernel
theorem dL_law_309 : decode cL_law 309 = .ok (.iaload, 1) := by decide +kernel
theorem dL_law_310 : decode cL_law 310 = .ok (.invokevirtual 31, 3) := by decide +kernel
theorem dL_law_313 : decode cL_law 313 = .ok (.if_icmp .eq 1216, 3) := by decide +kernel
theorem dL_law_318 : decode cL_law 318 = .ok (.aload_n 1, 1) := by decide +kernel
theorem dL_law_319 : decode cL_law 319 = .ok (.aload_n 0, 1) := by decide +kernel
theorem dL_law_320 : decode cL_law 320 = .ok (.iload_n 3, 1) := by decide +kernel
theorem dL_law_321 : decode cL_law 321 = .ok (.iconst 1, 1) := by decide +kernel
theorem dL_law_322 : decode cL_law 322 = .ok (.iadd, 1) := by decide +kernel
theorem dL_law_323 : decode cL_law 323 = .ok (.iaload, 1) := by decide +kernel
theorem dL_law_324 : decode cL_law 324 = .ok (.aload_n 0, 1) := by decide +kernel
theorem dL_law_325 : decode cL_law 325 = .ok (.iload_n 3, 1) := by decide +kernel
theorem dL_law_326 : decode cL_law 326 = .ok (.iconst 2, 1) := by decide +kernel
theorem dL_law_327 : decode cL_law 327 = .ok (.iadd, 1) := by decide +kernel
theorem dL_law_328 : decode cL_law 328 = .ok (.iaload, 1) := by decide +kernel
theorem dL_law_329 : decode cL_law 329 = .ok (.invokevirtual 32, 3) := by decide +kernel
theorem dL_law_332 : decode cL_law 332 = .ok (.aload_n 2, 1) := by decide +kernel
theorem dL_law_333 : decode cL_law 333 = .ok (.aload_n 0, 1) := by decide +kernel
theorem dL_law_334 : decode cL_law 334 = .ok (.iload_n 3, 1) := by decide +kernel
theorem dL_law_335 : decode cL_law 335 = .ok (.iconst 1, 1) := by decide +kernel
theorem dL_law_336 : decode cL_law 336 = .ok (.iadd, 1) := by decide +kernel
theorem dL_law_337 : decode cL_law 337 = .ok (.iaload, 1) := by decide +kernel
theorem dL_law_338 : decode cL_law 338 = .ok (.aload_n 0, 1) := by decide +kernel
theorem dL_law_339 : decode cL_law 339 = .ok (.iload_n 3, 1) := by decide +kernel
theorem dL_law_340 : decode cL_law 340 = .ok (.iconst 2, 1) := by decide +kernel
theorem dL_law_341 : decode cL_law 341 = .ok (.iadd, 1) := by decide +kernel
theorem dL_law_342 : decode cL_law 342 = .ok (.iaload, 1) := by decide +kernel
theorem dL_law_343 : decode cL_law 343 = .ok (.invokevirtual 36, 3) := by decide +kernel
theorem dL_law_346 : decode cL_law 346 = .ok (.if_icmp .eq 1183, 3) := by decide +kernel
theorem dL_law_351 : decode cL_law 351 = .ok (.aload_n 1, 1) := by decide +kernel
theorem dL_law_352 : decode cL_law 352 = .ok (.aload_n 0, 1) := by decide +kernel
theorem dL_law_353 : decode cL_law 353 = .ok (.iload_n 3, 1) := by decide +kernel
theorem dL_law_354 : decode cL_law 354 = .ok (.iconst 1, 1) := by decide +kernel
theorem dL_law_355 : decode cL_law 355 = .ok (.iadd, 1) := by decide +kernel
theorem dL_law_356 : decode cL_law 356 = .ok (.iaload, 1) := by decide +kernel
theorem dL_law_357 : decode cL_law 357 = .ok (.aload_n 0, 1) := by decide +kernel
theorem dL_law_358 : decode cL_law 358 = .ok (.iload_n 3, 1) := by decide +kernel
theorem dL_law_359 : decode cL_law 359 = .ok (.iconst 2, 1) := by decide +kernel
theorem dL_law_360 : decode cL_law 360 = .ok (.iadd, 1) := by decide +kernel
theorem dL_law_361 : decode cL_law 361 = .ok (.iaload, 1) := by decide +kernel
theorem dL_law_362 : decode cL_law 362 = .ok (.invokevirtual 37, 3) := by decide +kernel
theorem dL_law_365 : decode cL_law 365 = .ok (.aload_n 2, 1) := by decide +kernel
theorem dL_law_366 : decode cL_law 366 = .ok (.aload_n 0, 1) := by decide +kernel
theorem dL_law_367 : decode cL_law 367 = .ok (.iload_n 3, 1) := by decide +kernel
theorem dL_law_368 : decode cL_law 368 = .ok (.iconst 1, 1) := by decide +kernel
theorem dL_law_369 : decode cL_law 369 = .ok (.iadd, 1) := by decide +kernel
theorem dL_law_370 : decode cL_law 370 = .ok (.iaload, 1) := by decide +kernel
theorem dL_law_371 : decode cL_law 371 = .ok (.aload_n 0, 1) := by decide +kernel
theorem dL_law_372 : decode cL_law 372 = .ok (.iload_n 3, 1) := by decide +kernel
theorem dL_law_373 : decode cL_law 373 = .ok (.iconst 2, 1) := by decide +kernel
theorem dL_law_374 : decode cL_law 374 = .ok (.iadd, 1) := by decide +kernel
theorem dL_law_375 : decode cL_law 375 = .ok (.iaload, 1) := by decide +kernel
theorem dL_law_376 : decode cL_law 376 = .ok (.invokevirtual 40, 3) := by decide +kernel
theorem dL_law_379 : decode cL_law 379 = .ok (.if_icmp .eq 1150, 3) := by decide +kernel
theorem dL_law_384 : decode cL_law 384 = .ok (.aload_n 1, 1) := by decide +kernel
theorem dL_law_385 : decode cL_law 385 = .ok (.aload_n 0, 1) := by decide +kernel
theorem dL_law_386 : decode cL_law 386 = .ok (.iload_n 3, 1) := by decide +kernel
theorem dL_law_387 : decode cL_law 387 = .ok (.iconst 1, 1) := by decide +kernel
theorem dL_law_388 : decode cL_law 388 = .ok (.iadd, 1) := by decide +kernel
theorem dL_law_389 : decode cL_law 389 = .ok (.iaload, 1) := by decide +kernel
theorem dL_law_390 : decode cL_law 390 = .ok (.aload_n 0, 1) := by decide +kernel
theorem dL_law_391 : decode cL_law 391 = .ok (.iload_n 3, 1) := by decide +kernel
theorem dL_law_392 : decode cL_law 392 = .ok (.iconst 2, 1) := by decide +kernel
theorem dL_law_393 : decode cL_law 393 = .ok (.iadd, 1) := by decide +kernel
theorem dL_law_394 : decode cL_law 394 = .ok (.iaload, 1) := by decide +kernel
theorem dL_law_395 : decode cL_law 395 = .ok (.invokevirtual 41, 3) := by decide +kernel
theorem dL_law_398 : decode cL_law 398 = .ok (.aload_n 2, 1) := by decide +kernel
theorem dL_law_399 : decode cL_law 399 = .ok (.aload_n 0, 1) := by decide +kernel
theorem dL_law_400 : decode cL_law 400 = .ok (.iload_n 3, 1) := by decide +kernel
theorem dL_law_401 : decode cL_law 401 = .ok (.iconst 1, 1) := by decide +kernel
theorem dL_law_402 : decode cL_law 402 = .ok (.iadd, 1) := by decide +kernel
theorem dL_law_403 : decode cL_law 403 = .ok (.iaload, 1) := by decide +kernel
theorem dL_law_404 : decode cL_law 404 = .ok (.aload_n 0, 1) := by decide +kernel
theorem dL_law_405 : decode cL_law 405 = .ok (.iload_n 3, 1) := by decide +kernel
theorem dL_law_406 : decode cL_law 406 = .ok (.iconst 2, 1) := by decide +kernel
theorem dL_law_407 : decode cL_law 407 = .ok (.iadd, 1) := by decide +kernel
theorem dL_law_408 : decode cL_law 408 = .ok (.iaload, 1) := by decide +kernel
theorem dL_law_409 : decode cL_law 409 = .ok (.invokevirtual 44, 3) := by decide +kernel
theorem dL_law_412 : decode cL_law 412 = .ok (.if_icmp .eq 1117, 3) := by decide +kernel
theorem dL_law_417 : decode cL_law 417 = .ok (.aload_n 1, 1) := by decide +kernel
theorem dL_law_418 : decode cL_law 418 = .ok (.aload_n 0, 1) := by decide +kernel
theorem dL_law_419 : decode cL_law 419 = .ok (.iload_n 3, 1) := by decide +kernel
theorem dL_law_420 : decode cL_law 420 = .ok (.iconst 1, 1) := by decide +kernel
theorem dL_law_421 : decode cL_law 421 = .ok (.iadd, 1) := by decide +kernel
theorem dL_law_422 : decode cL_law 422 = .ok (.iaload, 1) := by decide +kernel
theorem dL_law_423 : decode cL_law 423 = .ok (.aload_n 0, 1) := by decide +kernel
theorem dL_law_424 : decode cL_law 424 = .ok (.iload_n 3, 1) := by decide +kernel
theorem dL_law_425 : decode cL_law 425 = .ok (.iconst 2, 1) := by decide +kernel
theorem dL_law_426 : decode cL_law 426 = .ok (.iadd, 1) := by decide +kernel
theorem dL_law_427 : decode cL_law 427 = .ok (.iaload, 1) := by decide +kernel
theorem dL_law_428 : decode cL_law 428 = .ok (.invokevirtual 45, 3) := by decide +kernel
theorem dL_law_431 : decode cL_law 431 = .ok (.aload_n 2, 1) := by decide +kernel
theorem dL_law_432 : decode cL_law 432 = .ok (.aload_n 0, 1) := by decide +kernel
theorem dL_law_433 : decode cL_law 433 = .ok (.iload_n 3, 1) := by decide +kernel
theorem dL_law_434 : decode cL_law 434 = .ok (.iconst 1, 1) := by decide +kernel
theorem dL_law_435 : decode cL_law 435 = .ok (.iadd, 1) := by decide +kernel
theorem dL_law_436 : decode cL_law 436 = .ok (.iaload, 1) := by decide +kernel
theorem dL_law_437 : decode cL_law 437 = .ok (.aload_n 0, 1) := by decide +kernel
theorem dL_law_438 : decode cL_law 438 = .ok (.iload_n 3, 1) := by decide +kernel
theorem dL_law_439 : decode cL_law 439 = .ok (.iconst 2, 1) := by decide +kernel
theorem dL_law_440 : decode cL_law 440 = .ok (.iadd, 1) := by decide +kernel
theorem dL_law_441 : decode cL_law 441 = .ok (.iaload, 1) := by decide +kernel
theorem dL_law_442 : decode cL_law 442 = .ok (.invokevirtual 48, 3) := by decide +kernel
theorem dL_law_445 : decode cL_law 445 = .ok (.if_icmp .eq 1084, 3) := by decide +kernel
theorem dL_law_450 : decode cL_law 450 = .ok (.aload_n 1, 1) := by decide +kernel
theorem dL_law_451 : decode cL_law 451 = .ok (.aload_n 0, 1) := by decide +kernel
theorem dL_law_452 : decode cL_law 452 = .ok (.iload_n 3, 1) := by decide +kernel
theorem dL_law_453 : decode cL_law 453 = .ok (.iconst 1, 1) := by decide +kernel
theorem dL_law_454 : decode cL_law 454 = .ok (.iadd, 1) := by decide +kernel
theorem dL_law_455 : decode cL_law 455 = .ok (.iaload, 1) := by decide +kernel
theorem dL_law_456 : decode cL_law 456 = .ok (.invokevirtual 49, 3) := by decide +kernel
theorem dL_law_459 : decode cL_law 459 = .ok (.aload_n 2, 1) := by decide +kernel
theorem dL_law_460 : decode cL_law 460 = .ok (.aload_n 0, 1) := by decide +kernel
theorem dL_law_461 : decode cL_law 461 = .ok (.iload_n 3, 1) := by decide +kernel
theorem dL_law_462 : decode cL_law 462 = .ok (.iconst 1, 1) := by decide +kernel
theorem dL_law_463 : decode cL_law 463 = .ok (.iadd, 1) := by decide +kernel
theorem dL_law_464 : decode cL_law 464 = .ok (.iaload, 1) := by decide +kernel
theorem dL_law_465 : decode cL_law 465 = .ok (.invokevirtual 52, 3) := by decide +kernel
theorem dL_law_468 : decode cL_law 468 = .ok (.if_icmp .eq 1061, 3) := by decide +kernel
/-- letter -/
abbrev OP_letter (Rel : T9 → T10 → Prop) : Prop := ∀ (s9 : T9) (s10 : T10) (p1 : Int32), Rel s9 s10 → ∃ u v, m_X9_letter s9 p1 = some u ∧ m_X10_letter s10 p1 = some v ∧ u.1 = v.1 ∧ Rel (st_X9_letter s9 u) (st_X10_letter s10 v)
set_option maxHeartbeats 4000000 in
set_option maxRecDepth 100000 in
theorem law_letter {p : Program} {e : Env} {s : State} {m : MethodId} {below : List Frame} {meth : Method} {c : Code} (l : Launch) (g : GG) (Rel : T9 → T10 → Prop) (hop : OP_letter Rel) {b L : Nat} {xs : Nat → Int32} (hL : L ≤ 2560) (hx : p.tables.exec = Jvm.exec) (hb : c.code = code) (hml : c.maxLocals = 4) (hown : s.vm.findClass RL = some m.cls) (hts : ∀ w ∈ G, w.before #[Value.ref b] s = true) (hX : va_X b L xs s s.heap) (hbl : b < s.heap.size) (hK : NK g s) (hE : SK g (fun q : Nat => s.heap.size ≤ q) s s.heap) (a0 a1 : Nat → Nat) (i : Nat) (hi : i + 5 ≤ L) (s9 : T9) (s10 : T10) (hR : Rel s9 s10) {H : Heap} {locs : List Loc} {ls : Array Slot} {cells slots : Nat} (hcl0 : cells + 24 ≤ 600000) (hsl0 : slots + 7200 ≤ 7302250) (hP : va_P g.1 vwCl (w9s a0 g s9 ++ w10s a1 g s10) H) (hD : va_D (fun q : Nat => s.heap.size ≤ q) (w9s a0 g s9 ++ w10s a1 g s10)) (hS : va_S (fun q : Nat => s.heap.size ≤ q) s.heap H locs) (hl : lv_has ls 4 [(3, .int (nI i)), (0, .ref b), (1, .ref (a0 0)), (2, .ref (a1 0))])
    (kk : ∀ (s9 : T9) (s10 : T10) (H : Heap) (locs : List Loc), Rel s9 s10 → va_P g.1 vwCl (w9s a0 g s9 ++ w10s a1 g s10) H → va_D (fun q : Nat => s.heap.size ≤ q) (w9s a0 g s9 ++ w10s a1 g s10) → va_S (fun q : Nat => s.heap.size ≤ q) s.heap H locs → W p l e room_1 s m #[Value.ref b] below meth c H locs (cells + 24) (slots + 7200) (lw_Z below #[Value.ref b] s) (F0 m 1529 ls [])) :
    W p l e room_1 s m #[Value.ref b] below meth c H locs cells slots (lw_Z below #[Value.ref b] s) (F0 m 216 ls []) := by
  have hA : ∀ q : Nat, s.heap.size ≤ q → (fun q : Nat => s.heap.size ≤ q) q := fun _ h => h
  have hbA : ¬ (fun q : Nat => s.heap.size ≤ q) b := Nat.not_le.mpr hbl
  have hcl : cells + 0 ≤ room_1.cells := by show cells + 0 ≤ 600000; omega
  have hsl : slots + 0 ≤ room_1.slots := by show slots + 0 ≤ 7302250; omega
  obtain ⟨u, v, hu, hv, he, hR⟩ := hop s9 s10 (xs (i + 1)) hR
  refine lv_aload_n hx hb dL_law_216 rfl (lv_at hl 2 rfl) ?_
  refine lv_aload_n hx hb dL_law_217 rfl (lv_at hl 1 rfl) ?_
  refine lv_iload_n hx hb dL_law_218 rfl (lv_at hl 0 rfl) ?_
  refine lv_iconst (v := 1) hx hb dL_law_219 (by decide) ?_
  refine lv_iadd hx hb dL_law_220 ?_
  refine nmI (nI_p i 1 (by decide)) ?_
  refine va_sld hx hb hX hbl hbA hS (vp_in_nI (show i + 1 < L by omega) (by omega)) dL_law_221 ?_
  refine nmI (z := xs (i + 1)) (by rw [nI_clamp (by omega)]) ?_
  refine cI hP hD hS hA hE (fun hPc hDc hSc => rV (As := [.int (xs (i + 1))]) (rest := []) hx hb hml hown hts hK (c_X9_letter l g a0 (p6_raws (p9_now s9)) (p6_kinds (p9_now s9)) (p6_figures (p9_now s9)) (p6_heavies (p9_now s9)) (p6_places (p9_now s9)) (p6_papers (p9_now s9)) (p6_lowers (p9_now s9)) (p6_uppers (p9_now s9)) (p6_rules (p9_now s9)) (p6_bounds (p9_now s9)) (p6_boundCount (p9_now s9)) (p6_tieWay (p9_now s9)) (p6_reached (p9_now s9)) (p6_raws (p9_kept s9)) (p6_kinds (p9_kept s9)) (p6_figures (p9_kept s9)) (p6_heavies (p9_kept s9)) (p6_places (p9_kept s9)) (p6_papers (p9_kept s9)) (p6_lowers (p9_kept s9)) (p6_uppers (p9_kept s9)) (p6_rules (p9_kept s9)) (p6_bounds (p9_kept s9)) (p6_boundCount (p9_kept s9)) (p6_tieWay (p9_kept s9)) (p6_reached (p9_kept s9)) (p6_raws (p9_spare s9)) (p6_kinds (p9_spare s9)) (p6_figures (p9_spare s9)) (p6_heavies (p9_spare s9)) (p6_places (p9_spare s9)) (p6_papers (p9_spare s9)) (p6_lowers (p9_spare s9)) (p6_uppers (p9_spare s9)) (p6_rules (p9_spare s9)) (p6_bounds (p9_spare s9)) (p6_boundCount (p9_spare s9)) (p6_tieWay (p9_spare s9)) (p6_reached (p9_spare s9)) (p9_isKept s9) (p3_signs (p9_letters s9)) (p3_numbers (p9_letters s9)) (p3_size (p9_letters s9)) (p3_at (p9_letters s9)) (p3_word (p9_letters s9)) (p9_told s9) (p9_toldCount s9) (p7_cells (p9_shelves s9)) (p7_sizes (p9_shelves s9)) (p7_made (p9_shelves s9)) (p9_refusals s9) (p5_overs (p9_order s9)) (p5_unders (p9_order s9)) (p5_marks (p9_order s9)) (p5_wrongs (p9_order s9)) (p5_papers (p9_order s9)) (p8_marks (p4_values (p9_standing s9))) (p8_weights (p4_values (p9_standing s9))) (p8_places (p4_values (p9_standing s9))) (p8_aboves (p4_values (p9_standing s9))) (p8_belows (p4_values (p9_standing s9))) (p1_above (p8_reduced (p4_values (p9_standing s9)))) (p1_below (p8_reduced (p4_values (p9_standing s9)))) (p8_papers (p4_values (p9_standing s9))) (p4_blocks (p9_standing s9)) (p4_tops (p9_standing s9)) (p4_bottoms (p9_standing s9)) (p4_blocksNow (p9_standing s9)) (p4_mergesDone (p9_standing s9)) (p4_loss (p9_standing s9)) (p8_marks (p0_values (p9_byRules s9))) (p8_weights (p0_values (p9_byRules s9))) (p8_places (p0_values (p9_byRules s9))) (p8_aboves (p0_values (p9_byRules s9))) (p8_belows (p0_values (p9_byRules s9))) (p1_above (p8_reduced (p0_values (p9_byRules s9)))) (p1_below (p8_reduced (p0_values (p9_byRules s9)))) (p8_papers (p0_values (p9_byRules s9))) (p5_overs (p0_order (p9_byRules s9))) (p5_unders (p0_order (p9_byRules s9))) (p5_marks (p0_order (p9_byRules s9))) (p5_wrongs (p0_order (p9_byRules s9))) (p5_papers (p0_order (p9_byRules s9))) (p0_sums (p9_byRules s9)) (p0_weighs (p9_byRules s9)) (p0_downs (p9_byRules s9)) (p1_above (p9_fraction s9)) (p1_below (p9_fraction s9)) (pSB_a (p9_said s9)) (pSB_m (p9_said s9)) (pSB_f (p9_said s9)) (pSB_l (p9_said s9)) (pSB_n (p9_said s9)) (xs (i + 1)) (by rw [hu]; exact Option.some_ne_none _)) svV_X9_letter kw260 rfl rfl hPc hDc hSc rfl rfl hl.1 (Nat.le_of_ble_eq_true rfl) dL_law_222 ⟨Nat.le_of_ble_eq_true rfl, Nat.le_of_ble_eq_true rfl, rfl, rfl, hcl, hsl⟩) [(0, 132)] rfl rfl rfl (fun _ => rfl) (fun w H locs ew nw hP hD hS => ?_)
  obtain rfl := Option.some.inj (hu.symm.trans ew)
  have hP : va_P g.1 vwCl (w9s a0 g (st_X9_letter s9 u) ++ w10s a1 g s10) H := hP
  have hD : va_D (fun q : Nat => s.heap.size ≤ q) (w9s a0 g (st_X9_letter s9 u) ++ w10s a1 g s10) := hD
  refine lv_aload_n hx hb dL_law_225 rfl (lv_at hl 3 rfl) ?_
  refine lv_aload_n hx hb dL_law_226 rfl (lv_at hl 1 rfl) ?_
  refine lv_iload_n hx hb dL_law_227 rfl (lv_at hl 0 rfl) ?_
  refine lv_iconst (v := 1) hx hb dL_law_228 (by decide) ?_
  refine lv_iadd hx hb dL_law_229 ?_
  refine nmI (nI_p i 1 (by decide)) ?_
  refine va_sld hx hb hX hbl hbA hS (vp_in_nI (show i + 1 < L by omega) (by omega)) dL_law_230 ?_
  refine nmI (z := xs (i + 1)) (by rw [nI_clamp (by omega)]) ?_
  refine cI hP hD hS hA hE (fun hPc hDc hSc => rV (As := [.int (xs (i + 1))]) (rest := [.int u.1]) hx hb hml hown hts hK (c_X10_letter l g a1 (p10_papers s10) (p10_raw s10) (p10_kind s10) (p10_figure s10) (p10_heavy s10) (p10_place s10) (p10_rules s10) (p10_lower s10) (p10_upper s10) (p10_limits s10) (p10_limit s10) (p10_ties s10) (p10_letter s10) (p10_letters s10) (p10_told s10) (p10_tolds s10) (p10_places s10) (p10_cell s10) (p10_refusals s10) (p10_imaged s10) (p10_hasImage s10) (p10_before s10) (p10_up s10) (p10_down s10) (p10_beneath s10) (p10_numberUp s10) (p10_numberDown s10) (p10_block s10) (p10_blocks s10) (p10_merged s10) (p10_valueUp s10) (p10_valueDown s10) (p10_said s10) (p10_saids s10) (p10_at s10) (p10_number s10) (xs (i + 1)) (by rw [hv]; exact Option.some_ne_none _)) svV_X10_letter kw1711 rfl rfl hPc hDc hSc rfl rfl hl.1 (Nat.le_of_ble_eq_true rfl) dL_law_231 ⟨Nat.le_of_ble_eq_true rfl, Nat.le_of_ble_eq_true rfl, rfl, rfl, hcl, hsl⟩) [(132, 22)] rfl rfl rfl (fun _ => rfl) (fun w H locs ew nw hP hD hS => ?_)
  obtain rfl := Option.some.inj (hv.symm.trans ew)
  have hP : va_P g.1 vwCl (w9s a0 g (st_X9_letter s9 u) ++ w10s a1 g (st_X10_letter s10 v)) H := hP
  have hD : va_D (fun q : Nat => s.heap.size ≤ q) (w9s a0 g (st_X9_letter s9 u) ++ w10s a1 g (st_X10_letter s10 v)) := hD
  refine lv_icmp_eq (tgt := 1529) hx hb dL_law_234 (by decide) (fun _ => ?_) (fun c => absurd he c)
  refine W.widen (k := cells + 24) (n := slots + 7200) (by omega) (by omega) ?_
  exact kk (st_X9_letter s9 u) (st_X10_letter s10 v) _ _ hR hP hD hS
/-- tells -/
abbrev OP_tells (Rel : T9 → T10 → Prop) : Prop := ∀ (s9 : T9) (s10 : T10), Rel s9 s10 → ∃ u v, m_X9_tells s9 = some u ∧ m_X10_tells s10 = some v ∧ u.1 = v.1 ∧ Rel (st_X9_tells s9 u) (st_X10_tells s10 v)
set_option maxHeartbeats 4000000 in
set_option maxRecDepth 100000 in
theorem law_tells {p : Program} {e : Env} {s : State} {m : MethodId} {below : List Frame} {meth : Method} {c : Code} (l : Launch) (g : GG) (Rel : T9 → T10 → Prop) (hop : OP_tells Rel) {b L : Nat} {xs : Nat → Int32} (hL : L ≤ 2560) (hx : p.tables.exec = Jvm.exec) (hb : c.code = code) (hml : c.maxLocals = 4) (hown : s.vm.findClass RL = some m.cls) (hts : ∀ w ∈ G, w.before #[Value.ref b] s = true) (hX : va_X b L xs s s.heap) (hbl : b < s.heap.size) (hK : NK g s) (hE : SK g (fun q : Nat => s.heap.size ≤ q) s s.heap) (a0 a1 : Nat → Nat) (i : Nat) (hi : i + 5 ≤ L) (s9 : T9) (s10 : T10) (hR : Rel s9 s10) {H : Heap} {locs : List Loc} {ls : Array Slot} {cells slots : Nat} (hcl0 : cells + 24 ≤ 600000) (hsl0 : slots + 7200 ≤ 7302250) (hP : va_P g.1 vwCl (w9s a0 g s9 ++ w10s a1 g s10) H) (hD : va_D (fun q : Nat => s.heap.size ≤ q) (w9s a0 g s9 ++ w10s a1 g s10)) (hS : va_S (fun q : Nat => s.heap.size ≤ q) s.heap H locs) (hl : lv_has ls 4 [(3, .int (nI i)), (0, .ref b), (1, .ref (a0 0)), (2, .ref (a1 0))])
    (kk : ∀ (s9 : T9) (s10 : T10) (H : Heap) (locs : List Loc), Rel s9 s10 → va_P g.1 vwCl (w9s a0 g s9 ++ w10s a1 g s10) H → va_D (fun q : Nat => s.heap.size ≤ q) (w9s a0 g s9 ++ w10s a1 g s10) → va_S (fun q : Nat => s.heap.size ≤ q) s.heap H locs → W p l e room_1 s m #[Value.ref b] below meth c H locs (cells + 24) (slots + 7200) (lw_Z below #[Value.ref b] s) (F0 m 1529 ls [])) :
    W p l e room_1 s m #[Value.ref b] below meth c H locs cells slots (lw_Z below #[Value.ref b] s) (F0 m 239 ls []) := by
  have hA : ∀ q : Nat, s.heap.size ≤ q → (fun q : Nat => s.heap.size ≤ q) q := fun _ h => h
  have hbA : ¬ (fun q : Nat => s.heap.size ≤ q) b := Nat.not_le.mpr hbl
  have hcl : cells + 0 ≤ room_1.cells := by show cells + 0 ≤ 600000; omega
  have hsl : slots + 0 ≤ room_1.slots := by show slots + 0 ≤ 7302250; omega
  obtain ⟨u, v, hu, hv, he, hR⟩ := hop s9 s10 hR
  refine lv_aload_n hx hb dL_law_239 rfl (lv_at hl 2 rfl) ?_
  refine cI hP hD hS hA hE (fun hPc hDc hSc => rV (As := []) (rest := []) hx hb hml hown hts hK (c_X9_tells l g a0 (p6_raws (p9_now s9)) (p6_kinds (p9_now s9)) (p6_figures (p9_now s9)) (p6_heavies (p9_now s9)) (p6_places (p9_now s9)) (p6_papers (p9_now s9)) (p6_lowers (p9_now s9)) (p6_uppers (p9_now s9)) (p6_rules (p9_now s9)) (p6_bounds (p9_now s9)) (p6_boundCount (p9_now s9)) (p6_tieWay (p9_now s9)) (p6_reached (p9_now s9)) (p6_raws (p9_kept s9)) (p6_kinds (p9_kept s9)) (p6_figures (p9_kept s9)) (p6_heavies (p9_kept s9)) (p6_places (p9_kept s9)) (p6_papers (p9_kept s9)) (p6_lowers (p9_kept s9)) (p6_uppers (p9_kept s9)) (p6_rules (p9_kept s9)) (p6_bounds (p9_kept s9)) (p6_boundCount (p9_kept s9)) (p6_tieWay (p9_kept s9)) (p6_reached (p9_kept s9)) (p6_raws (p9_spare s9)) (p6_kinds (p9_spare s9)) (p6_figures (p9_spare s9)) (p6_heavies (p9_spare s9)) (p6_places (p9_spare s9)) (p6_papers (p9_spare s9)) (p6_lowers (p9_spare s9)) (p6_uppers (p9_spare s9)) (p6_rules (p9_spare s9)) (p6_bounds (p9_spare s9)) (p6_boundCount (p9_spare s9)) (p6_tieWay (p9_spare s9)) (p6_reached (p9_spare s9)) (p9_isKept s9) (p3_signs (p9_letters s9)) (p3_numbers (p9_letters s9)) (p3_size (p9_letters s9)) (p3_at (p9_letters s9)) (p3_word (p9_letters s9)) (p9_told s9) (p9_toldCount s9) (p7_cells (p9_shelves s9)) (p7_sizes (p9_shelves s9)) (p7_made (p9_shelves s9)) (p9_refusals s9) (p5_overs (p9_order s9)) (p5_unders (p9_order s9)) (p5_marks (p9_order s9)) (p5_wrongs (p9_order s9)) (p5_papers (p9_order s9)) (p8_marks (p4_values (p9_standing s9))) (p8_weights (p4_values (p9_standing s9))) (p8_places (p4_values (p9_standing s9))) (p8_aboves (p4_values (p9_standing s9))) (p8_belows (p4_values (p9_standing s9))) (p1_above (p8_reduced (p4_values (p9_standing s9)))) (p1_below (p8_reduced (p4_values (p9_standing s9)))) (p8_papers (p4_values (p9_standing s9))) (p4_blocks (p9_standing s9)) (p4_tops (p9_standing s9)) (p4_bottoms (p9_standing s9)) (p4_blocksNow (p9_standing s9)) (p4_mergesDone (p9_standing s9)) (p4_loss (p9_standing s9)) (p8_marks (p0_values (p9_byRules s9))) (p8_weights (p0_values (p9_byRules s9))) (p8_places (p0_values (p9_byRules s9))) (p8_aboves (p0_values (p9_byRules s9))) (p8_belows (p0_values (p9_byRules s9))) (p1_above (p8_reduced (p0_values (p9_byRules s9)))) (p1_below (p8_reduced (p0_values (p9_byRules s9)))) (p8_papers (p0_values (p9_byRules s9))) (p5_overs (p0_order (p9_byRules s9))) (p5_unders (p0_order (p9_byRules s9))) (p5_marks (p0_order (p9_byRules s9))) (p5_wrongs (p0_order (p9_byRules s9))) (p5_papers (p0_order (p9_byRules s9))) (p0_sums (p9_byRules s9)) (p0_weighs (p9_byRules s9)) (p0_downs (p9_byRules s9)) (p1_above (p9_fraction s9)) (p1_below (p9_fraction s9)) (pSB_a (p9_said s9)) (pSB_m (p9_said s9)) (pSB_f (p9_said s9)) (pSB_l (p9_said s9)) (pSB_n (p9_said s9)) (by rw [hu]; exact Option.some_ne_none _)) svV_X9_tells kw284 rfl rfl hPc hDc hSc rfl rfl hl.1 (Nat.le_of_ble_eq_true rfl) dL_law_240 ⟨Nat.le_of_ble_eq_true rfl, Nat.le_of_ble_eq_true rfl, rfl, rfl, hcl, hsl⟩) [(0, 132)] rfl rfl rfl (fun _ => rfl) (fun w H locs ew nw hP hD hS => ?_)
  obtain rfl := Option.some.inj (hu.symm.trans ew)
  have hP : va_P g.1 vwCl (w9s a0 g (st_X9_tells s9 u) ++ w10s a1 g s10) H := hP
  have hD : va_D (fun q : Nat => s.heap.size ≤ q) (w9s a0 g (st_X9_tells s9 u) ++ w10s a1 g s10) := hD
  refine lv_aload_n hx hb dL_law_243 rfl (lv_at hl 3 rfl) ?_
  refine cI hP hD hS hA hE (fun hPc hDc hSc => rV (As := []) (rest := [.int u.1]) hx hb hml hown hts hK (c_X10_tells l g a1 (p10_papers s10) (p10_raw s10) (p10_kind s10) (p10_figure s10) (p10_heavy s10) (p10_place s10) (p10_rules s10) (p10_lower s10) (p10_upper s10) (p10_limits s10) (p10_limit s10) (p10_ties s10) (p10_letter s10) (p10_letters s10) (p10_told s10) (p10_tolds s10) (p10_places s10) (p10_cell s10) (p10_refusals s10) (p10_imaged s10) (p10_hasImage s10) (p10_before s10) (p10_up s10) (p10_down s10) (p10_beneath s10) (p10_numberUp s10) (p10_numberDown s10) (p10_block s10) (p10_blocks s10) (p10_merged s10) (p10_valueUp s10) (p10_valueDown s10) (p10_said s10) (p10_saids s10) (p10_at s10) (p10_number s10) (by rw [hv]; exact Option.some_ne_none _)) svV_X10_tells kw1715 rfl rfl hPc hDc hSc rfl rfl hl.1 (Nat.le_of_ble_eq_true rfl) dL_law_244 ⟨Nat.le_of_ble_eq_true rfl, Nat.le_of_ble_eq_true rfl, rfl, rfl, hcl, hsl⟩) [(132, 22)] rfl rfl rfl (fun _ => rfl) (fun w H locs ew nw hP hD hS => ?_)
  obtain rfl := Option.some.inj (hv.symm.trans ew)
  have hP : va_P g.1 vwCl (w9s a0 g (st_X9_tells s9 u) ++ w10s a1 g (st_X10_tells s10 v)) H := hP
  have hD : va_D (fun q : Nat => s.heap.size ≤ q) (w9s a0 g (st_X9_tells s9 u) ++ w10s a1 g (st_X10_tells s10 v)) := hD
  refine lv_icmp_eq (tgt := 1529) hx hb dL_law_247 (by decide) (fun _ => ?_) (fun c => absurd he c)
  refine W.widen (k := cells + 24) (n := slots + 7200) (by omega) (by omega) ?_
  exact kk (st_X9_tells s9 u) (st_X10_tells s10 v) _ _ hR hP hD hS
/-- paper -/
abbrev OP_paper (Rel : T9 → T10 → Prop) : Prop := ∀ (s9 : T9) (s10 : T10) (p1 : Int32), Rel s9 s10 → ∃ u v, m_X9_paper s9 p1 = some u ∧ m_X10_paper s10 p1 = some v ∧ u.1 = v.1 ∧ Rel (st_X9_paper s9 u) (st_X10_paper s10 v)
set_option maxHeartbeats 4000000 in
set_option maxRecDepth 100000 in
theorem law_paper {p : Program} {e : Env} {s : State} {m : MethodId} {below : List Frame} {meth : Method} {c : Code} (l : Launch) (g : GG) (Rel : T9 → T10 → Prop) (hop : OP_paper Rel) {b L : Nat} {xs : Nat → Int32} (hL : L ≤ 2560) (hx : p.tables.exec = Jvm.exec) (hb : c.code = code) (hml : c.maxLocals = 4) (hown : s.vm.findClass RL = some m.cls) (hts : ∀ w ∈ G, w.before #[Value.ref b] s = true) (hX : va_X b L xs s s.heap) (hbl : b < s.heap.size) (hK : NK g s) (hE : SK g (fun q : Nat => s.heap.size ≤ q) s s.heap) (a0 a1 : Nat → Nat) (i : Nat) (hi : i + 5 ≤ L) (s9 : T9) (s10 : T10) (hR : Rel s9 s10) {H : Heap} {locs : List Loc} {ls : Array Slot} {cells slots : Nat} (hcl0 : cells + 24 ≤ 600000) (hsl0 : slots + 7200 ≤ 7302250) (hP : va_P g.1 vwCl (w9s a0 g s9 ++ w10s a1 g s10) H) (hD : va_D (fun q : Nat => s.heap.size ≤ q) (w9s a0 g s9 ++ w10s a1 g s10)) (hS : va_S (fun q : Nat => s.heap.size ≤ q) s.heap H locs) (hl : lv_has ls 4 [(3, .int (nI i)), (0, .ref b), (1, .ref (a0 0)), (2, .ref (a1 0))])
    (kk : ∀ (s9 : T9) (s10 : T10) (H : Heap) (locs : List Loc), Rel s9 s10 → va_P g.1 vwCl (w9s a0 g s9 ++ w10s a1 g s10) H → va_D (fun q : Nat => s.heap.size ≤ q) (w9s a0 g s9 ++ w10s a1 g s10) → va_S (fun q : Nat => s.heap.size ≤ q) s.heap H locs → W p l e room_1 s m #[Value.ref b] below meth c H locs (cells + 24) (slots + 7200) (lw_Z below #[Value.ref b] s) (F0 m 1529 ls [])) :
    W p l e room_1 s m #[Value.ref b] below meth c H locs cells slots (lw_Z below #[Value.ref b] s) (F0 m 252 ls []) := by
  have hA : ∀ q : Nat, s.heap.size ≤ q → (fun q : Nat => s.heap.size ≤ q) q := fun _ h => h
  have hbA : ¬ (fun q : Nat => s.heap.size ≤ q) b := Nat.not_le.mpr hbl
  have hcl : cells + 0 ≤ room_1.cells := by show cells + 0 ≤ 600000; omega
  have hsl : slots + 0 ≤ room_1.slots := by show slots + 0 ≤ 7302250; omega
  obtain ⟨u, v, hu, hv, he, hR⟩ := hop s9 s10 (xs (i + 1)) hR
  refine lv_aload_n hx hb dL_law_252 rfl (lv_at hl 2 rfl) ?_
  refine lv_aload_n hx hb dL_law_253 rfl (lv_at hl 1 rfl) ?_
  refine lv_iload_n hx hb dL_law_254 rfl (lv_at hl 0 rfl) ?_
  refine lv_iconst (v := 1) hx hb dL_law_255 (by decide) ?_
  refine lv_iadd hx hb dL_law_256 ?_
  refine nmI (nI_p i 1 (by decide)) ?_
  refine va_sld hx hb hX hbl hbA hS (vp_in_nI (show i + 1 < L by omega) (by omega)) dL_law_257 ?_
  refine nmI (z := xs (i + 1)) (by rw [nI_clamp (by omega)]) ?_
  refine cI hP hD hS hA hE (fun hPc hDc hSc => rV (As := [.int (xs (i + 1))]) (rest := []) hx hb hml hown hts hK (c_X9_paper l g a0 (p6_raws (p9_now s9)) (p6_kinds (p9_now s9)) (p6_figures (p9_now s9)) (p6_heavies (p9_now s9)) (p6_places (p9_now s9)) (p6_papers (p9_now s9)) (p6_lowers (p9_now s9)) (p6_uppers (p9_now s9)) (p6_rules (p9_now s9)) (p6_bounds (p9_now s9)) (p6_boundCount (p9_now s9)) (p6_tieWay (p9_now s9)) (p6_reached (p9_now s9)) (p6_raws (p9_kept s9)) (p6_kinds (p9_kept s9)) (p6_figures (p9_kept s9)) (p6_heavies (p9_kept s9)) (p6_places (p9_kept s9)) (p6_papers (p9_kept s9)) (p6_lowers (p9_kept s9)) (p6_uppers (p9_kept s9)) (p6_rules (p9_kept s9)) (p6_bounds (p9_kept s9)) (p6_boundCount (p9_kept s9)) (p6_tieWay (p9_kept s9)) (p6_reached (p9_kept s9)) (p6_raws (p9_spare s9)) (p6_kinds (p9_spare s9)) (p6_figures (p9_spare s9)) (p6_heavies (p9_spare s9)) (p6_places (p9_spare s9)) (p6_papers (p9_spare s9)) (p6_lowers (p9_spare s9)) (p6_uppers (p9_spare s9)) (p6_rules (p9_spare s9)) (p6_bounds (p9_spare s9)) (p6_boundCount (p9_spare s9)) (p6_tieWay (p9_spare s9)) (p6_reached (p9_spare s9)) (p9_isKept s9) (p3_signs (p9_letters s9)) (p3_numbers (p9_letters s9)) (p3_size (p9_letters s9)) (p3_at (p9_letters s9)) (p3_word (p9_letters s9)) (p9_told s9) (p9_toldCount s9) (p7_cells (p9_shelves s9)) (p7_sizes (p9_shelves s9)) (p7_made (p9_shelves s9)) (p9_refusals s9) (p5_overs (p9_order s9)) (p5_unders (p9_order s9)) (p5_marks (p9_order s9)) (p5_wrongs (p9_order s9)) (p5_papers (p9_order s9)) (p8_marks (p4_values (p9_standing s9))) (p8_weights (p4_values (p9_standing s9))) (p8_places (p4_values (p9_standing s9))) (p8_aboves (p4_values (p9_standing s9))) (p8_belows (p4_values (p9_standing s9))) (p1_above (p8_reduced (p4_values (p9_standing s9)))) (p1_below (p8_reduced (p4_values (p9_standing s9)))) (p8_papers (p4_values (p9_standing s9))) (p4_blocks (p9_standing s9)) (p4_tops (p9_standing s9)) (p4_bottoms (p9_standing s9)) (p4_blocksNow (p9_standing s9)) (p4_mergesDone (p9_standing s9)) (p4_loss (p9_standing s9)) (p8_marks (p0_values (p9_byRules s9))) (p8_weights (p0_values (p9_byRules s9))) (p8_places (p0_values (p9_byRules s9))) (p8_aboves (p0_values (p9_byRules s9))) (p8_belows (p0_values (p9_byRules s9))) (p1_above (p8_reduced (p0_values (p9_byRules s9)))) (p1_below (p8_reduced (p0_values (p9_byRules s9)))) (p8_papers (p0_values (p9_byRules s9))) (p5_overs (p0_order (p9_byRules s9))) (p5_unders (p0_order (p9_byRules s9))) (p5_marks (p0_order (p9_byRules s9))) (p5_wrongs (p0_order (p9_byRules s9))) (p5_papers (p0_order (p9_byRules s9))) (p0_sums (p9_byRules s9)) (p0_weighs (p9_byRules s9)) (p0_downs (p9_byRules s9)) (p1_above (p9_fraction s9)) (p1_below (p9_fraction s9)) (pSB_a (p9_said s9)) (pSB_m (p9_said s9)) (pSB_f (p9_said s9)) (pSB_l (p9_said s9)) (pSB_n (p9_said s9)) (xs (i + 1)) (by rw [hu]; exact Option.some_ne_none _)) svV_X9_paper kw475 rfl rfl hPc hDc hSc rfl rfl hl.1 (Nat.le_of_ble_eq_true rfl) dL_law_258 ⟨Nat.le_of_ble_eq_true rfl, Nat.le_of_ble_eq_true rfl, rfl, rfl, hcl, hsl⟩) [(0, 132)] rfl rfl rfl (fun _ => rfl) (fun w H locs ew nw hP hD hS => ?_)
  obtain rfl := Option.some.inj (hu.symm.trans ew)
  have hP : va_P g.1 vwCl (w9s a0 g (st_X9_paper s9 u) ++ w10s a1 g s10) H := hP
  have hD : va_D (fun q : Nat => s.heap.size ≤ q) (w9s a0 g (st_X9_paper s9 u) ++ w10s a1 g s10) := hD
  refine lv_aload_n hx hb dL_law_261 rfl (lv_at hl 3 rfl) ?_
  refine lv_aload_n hx hb dL_law_262 rfl (lv_at hl 1 rfl) ?_
  refine lv_iload_n hx hb dL_law_263 rfl (lv_at hl 0 rfl) ?_
  refine lv_iconst (v := 1) hx hb dL_law_264 (by decide) ?_
  refine lv_iadd hx hb dL_law_265 ?_
  refine nmI (nI_p i 1 (by decide)) ?_
  refine va_sld hx hb hX hbl hbA hS (vp_in_nI (show i + 1 < L by omega) (by omega)) dL_law_266 ?_
  refine nmI (z := xs (i + 1)) (by rw [nI_clamp (by omega)]) ?_
  refine cI hP hD hS hA hE (fun hPc hDc hSc => rV (As := [.int (xs (i + 1))]) (rest := [.int u.1]) hx hb hml hown hts hK (c_X10_paper l g a1 (p10_papers s10) (p10_raw s10) (p10_kind s10) (p10_figure s10) (p10_heavy s10) (p10_place s10) (p10_rules s10) (p10_lower s10) (p10_upper s10) (p10_limits s10) (p10_limit s10) (p10_ties s10) (p10_letter s10) (p10_letters s10) (p10_told s10) (p10_tolds s10) (p10_places s10) (p10_cell s10) (p10_refusals s10) (p10_imaged s10) (p10_hasImage s10) (p10_before s10) (p10_up s10) (p10_down s10) (p10_beneath s10) (p10_numberUp s10) (p10_numberDown s10) (p10_block s10) (p10_blocks s10) (p10_merged s10) (p10_valueUp s10) (p10_valueDown s10) (p10_said s10) (p10_saids s10) (p10_at s10) (p10_number s10) (xs (i + 1)) (by rw [hv]; exact Option.some_ne_none _)) svV_X10_paper kw1350 rfl rfl hPc hDc hSc rfl rfl hl.1 (Nat.le_of_ble_eq_true rfl) dL_law_267 ⟨Nat.le_of_ble_eq_true rfl, Nat.le_of_ble_eq_true rfl, rfl, rfl, hcl, hsl⟩) [(132, 22)] rfl rfl rfl (fun _ => rfl) (fun w H locs ew nw hP hD hS => ?_)
  obtain rfl := Option.some.inj (hv.symm.trans ew)
  have hP : va_P g.1 vwCl (w9s a0 g (st_X9_paper s9 u) ++ w10s a1 g (st_X10_paper s10 v)) H := hP
  have hD : va_D (fun q : Nat => s.heap.size ≤ q) (w9s a0 g (st_X9_paper s9 u) ++ w10s a1 g (st_X10_paper s10 v)) := hD
  refine lv_icmp_eq (tgt := 1529) hx hb dL_law_270 (by decide) (fun _ => ?_) (fun c => absurd he c)
  refine W.widen (k := cells + 24) (n := slots + 7200) (by omega) (by omega) ?_
  exact kk (st_X9_paper s9 u) (st_X10_paper s10 v) _ _ hR hP hD hS
/-- kind -/
abbrev OP_kind (Rel : T9 → T10 → Prop) : Prop := ∀ (s9 : T9) (s10 : T10) (p1 p2 p3 : Int32), Rel s9 s10 → ∃ u v, m_X9_kind s9 p1 p2 p3 = some u ∧ m_X10_kind s10 p1 p2 p3 = some v ∧ u.1 = v.1 ∧ Rel (st_X9_kind s9 u) (st_X10_kind s10 v)
set_option maxHeartbeats 4000000 in
set_option maxRecDepth 100000 in
theorem law_kind {p : Program} {e : Env} {s : State} {m : MethodId} {below : List Frame} {meth : Method} {c : Code} (l : Launch) (g : GG) (Rel : T9 → T10 → Prop) (hop : OP_kind Rel) {b L : Nat} {xs : Nat → Int32} (hL : L ≤ 2560) (hx : p.tables.exec = Jvm.exec) (hb : c.code = code) (hml : c.maxLocals = 4) (hown : s.vm.findClass RL = some m.cls) (hts : ∀ w ∈ G, w.before #[Value.ref b] s = true) (hX : va_X b L xs s s.heap) (hbl : b < s.heap.size) (hK : NK g s) (hE : SK g (fun q : Nat => s.heap.size ≤ q) s s.heap) (a0 a1 : Nat → Nat) (i : Nat) (hi : i + 5 ≤ L) (s9 : T9) (s10 : T10) (hR : Rel s9 s10) {H : Heap} {locs : List Loc} {ls : Array Slot} {cells slots : Nat} (hcl0 : cells + 24 ≤ 600000) (hsl0 : slots + 7200 ≤ 7302250) (hP : va_P g.1 vwCl (w9s a0 g s9 ++ w10s a1 g s10) H) (hD : va_D (fun q : Nat => s.heap.size ≤ q) (w9s a0 g s9 ++ w10s a1 g s10)) (hS : va_S (fun q : Nat => s.heap.size ≤ q) s.heap H locs) (hl : lv_has ls 4 [(3, .int (nI i)), (0, .ref b), (1, .ref (a0 0)), (2, .ref (a1 0))])
    (kk : ∀ (s9 : T9) (s10 : T10) (H : Heap) (locs : List Loc), Rel s9 s10 → va_P g.1 vwCl (w9s a0 g s9 ++ w10s a1 g s10) H → va_D (fun q : Nat => s.heap.size ≤ q) (w9s a0 g s9 ++ w10s a1 g s10) → va_S (fun q : Nat => s.heap.size ≤ q) s.heap H locs → W p l e room_1 s m #[Value.ref b] below meth c H locs (cells + 24) (slots + 7200) (lw_Z below #[Value.ref b] s) (F0 m 1529 ls [])) :
    W p l e room_1 s m #[Value.ref b] below meth c H locs cells slots (lw_Z below #[Value.ref b] s) (F0 m 275 ls []) := by
  have hA : ∀ q : Nat, s.heap.size ≤ q → (fun q : Nat => s.heap.size ≤ q) q := fun _ h => h
  have hbA : ¬ (fun q : Nat => s.heap.size ≤ q) b := Nat.not_le.mpr hbl
  have hcl : cells + 0 ≤ room_1.cells := by show cells + 0 ≤ 600000; omega
  have hsl : slots + 0 ≤ room_1.slots := by show slots + 0 ≤ 7302250; omega
  obtain ⟨u, v, hu, hv, he, hR⟩ := hop s9 s10 (xs (i + 1)) (xs (i + 2)) (xs (i + 3)) hR
  refine lv_aload_n hx hb dL_law_275 rfl (lv_at hl 2 rfl) ?_
  refine lv_aload_n hx hb dL_law_276 rfl (lv_at hl 1 rfl) ?_
  refine lv_iload_n hx hb dL_law_277 rfl (lv_at hl 0 rfl) ?_
  refine lv_iconst (v := 1) hx hb dL_law_278 (by decide) ?_
  refine lv_iadd hx hb dL_law_279 ?_
  refine nmI (nI_p i 1 (by decide)) ?_
  refine va_sld hx hb hX hbl hbA hS (vp_in_nI (show i + 1 < L by omega) (by omega)) dL_law_280 ?_
  refine nmI (z := xs (i + 1)) (by rw [nI_clamp (by omega)]) ?_
  refine lv_aload_n hx hb dL_law_281 rfl (lv_at hl 1 rfl) ?_
  refine lv_iload_n hx hb dL_law_282 rfl (lv_at hl 0 rfl) ?_
  refine lv_iconst (v := 2) hx hb dL_law_283 (by decide) ?_
  refine lv_iadd hx hb dL_law_284 ?_
  refine nmI (nI_p i 2 (by decide)) ?_
  refine va_sld hx hb hX hbl hbA hS (vp_in_nI (show i + 2 < L by omega) (by omega)) dL_law_285 ?_
  refine nmI (z := xs (i + 2)) (by rw [nI_clamp (by omega)]) ?_
  refine lv_aload_n hx hb dL_law_286 rfl (lv_at hl 1 rfl) ?_
  refine lv_iload_n hx hb dL_law_287 rfl (lv_at hl 0 rfl) ?_
  refine lv_iconst (v := 3) hx hb dL_law_288 (by decide) ?_
  refine lv_iadd hx hb dL_law_289 ?_
  refine nmI (nI_p i 3 (by decide)) ?_
  refine va_sld hx hb hX hbl hbA hS (vp_in_nI (show i + 3 < L by omega) (by omega)) dL_law_290 ?_
  refine nmI (z := xs (i + 3)) (by rw [nI_clamp (by omega)]) ?_
  refine cI hP hD hS hA hE (fun hPc hDc hSc => rV (As := [.int (xs (i + 1)), .int (xs (i + 2)), .int (xs (i + 3))]) (rest := []) hx hb hml hown hts hK (c_X9_kind l g a0 (p6_raws (p9_now s9)) (p6_kinds (p9_now s9)) (p6_figures (p9_now s9)) (p6_heavies (p9_now s9)) (p6_places (p9_now s9)) (p6_papers (p9_now s9)) (p6_lowers (p9_now s9)) (p6_uppers (p9_now s9)) (p6_rules (p9_now s9)) (p6_bounds (p9_now s9)) (p6_boundCount (p9_now s9)) (p6_tieWay (p9_now s9)) (p6_reached (p9_now s9)) (p6_raws (p9_kept s9)) (p6_kinds (p9_kept s9)) (p6_figures (p9_kept s9)) (p6_heavies (p9_kept s9)) (p6_places (p9_kept s9)) (p6_papers (p9_kept s9)) (p6_lowers (p9_kept s9)) (p6_uppers (p9_kept s9)) (p6_rules (p9_kept s9)) (p6_bounds (p9_kept s9)) (p6_boundCount (p9_kept s9)) (p6_tieWay (p9_kept s9)) (p6_reached (p9_kept s9)) (p6_raws (p9_spare s9)) (p6_kinds (p9_spare s9)) (p6_figures (p9_spare s9)) (p6_heavies (p9_spare s9)) (p6_places (p9_spare s9)) (p6_papers (p9_spare s9)) (p6_lowers (p9_spare s9)) (p6_uppers (p9_spare s9)) (p6_rules (p9_spare s9)) (p6_bounds (p9_spare s9)) (p6_boundCount (p9_spare s9)) (p6_tieWay (p9_spare s9)) (p6_reached (p9_spare s9)) (p9_isKept s9) (p3_signs (p9_letters s9)) (p3_numbers (p9_letters s9)) (p3_size (p9_letters s9)) (p3_at (p9_letters s9)) (p3_word (p9_letters s9)) (p9_told s9) (p9_toldCount s9) (p7_cells (p9_shelves s9)) (p7_sizes (p9_shelves s9)) (p7_made (p9_shelves s9)) (p9_refusals s9) (p5_overs (p9_order s9)) (p5_unders (p9_order s9)) (p5_marks (p9_order s9)) (p5_wrongs (p9_order s9)) (p5_papers (p9_order s9)) (p8_marks (p4_values (p9_standing s9))) (p8_weights (p4_values (p9_standing s9))) (p8_places (p4_values (p9_standing s9))) (p8_aboves (p4_values (p9_standing s9))) (p8_belows (p4_values (p9_standing s9))) (p1_above (p8_reduced (p4_values (p9_standing s9)))) (p1_below (p8_reduced (p4_values (p9_standing s9)))) (p8_papers (p4_values (p9_standing s9))) (p4_blocks (p9_standing s9)) (p4_tops (p9_standing s9)) (p4_bottoms (p9_standing s9)) (p4_blocksNow (p9_standing s9)) (p4_mergesDone (p9_standing s9)) (p4_loss (p9_standing s9)) (p8_marks (p0_values (p9_byRules s9))) (p8_weights (p0_values (p9_byRules s9))) (p8_places (p0_values (p9_byRules s9))) (p8_aboves (p0_values (p9_byRules s9))) (p8_belows (p0_values (p9_byRules s9))) (p1_above (p8_reduced (p0_values (p9_byRules s9)))) (p1_below (p8_reduced (p0_values (p9_byRules s9)))) (p8_papers (p0_values (p9_byRules s9))) (p5_overs (p0_order (p9_byRules s9))) (p5_unders (p0_order (p9_byRules s9))) (p5_marks (p0_order (p9_byRules s9))) (p5_wrongs (p0_order (p9_byRules s9))) (p5_papers (p0_order (p9_byRules s9))) (p0_sums (p9_byRules s9)) (p0_weighs (p9_byRules s9)) (p0_downs (p9_byRules s9)) (p1_above (p9_fraction s9)) (p1_below (p9_fraction s9)) (pSB_a (p9_said s9)) (pSB_m (p9_said s9)) (pSB_f (p9_said s9)) (pSB_l (p9_said s9)) (pSB_n (p9_said s9)) (xs (i + 1)) (xs (i + 2)) (xs (i + 3)) (by rw [hu]; exact Option.some_ne_none _)) svV_X9_kind kw483 rfl rfl hPc hDc hSc rfl rfl hl.1 (Nat.le_of_ble_eq_true rfl) dL_law_291 ⟨Nat.le_of_ble_eq_true rfl, Nat.le_of_ble_eq_true rfl, rfl, rfl, hcl, hsl⟩) [(0, 132)] rfl rfl rfl (fun _ => rfl) (fun w H locs ew nw hP hD hS => ?_)
  obtain rfl := Option.some.inj (hu.symm.trans ew)
  have hP : va_P g.1 vwCl (w9s a0 g (st_X9_kind s9 u) ++ w10s a1 g s10) H := hP
  have hD : va_D (fun q : Nat => s.heap.size ≤ q) (w9s a0 g (st_X9_kind s9 u) ++ w10s a1 g s10) := hD
  refine lv_aload_n hx hb dL_law_294 rfl (lv_at hl 3 rfl) ?_
  refine lv_aload_n hx hb dL_law_295 rfl (lv_at hl 1 rfl) ?_
  refine lv_iload_n hx hb dL_law_296 rfl (lv_at hl 0 rfl) ?_
  refine lv_iconst (v := 1) hx hb dL_law_297 (by decide) ?_
  refine lv_iadd hx hb dL_law_298 ?_
  refine nmI (nI_p i 1 (by decide)) ?_
  refine va_sld hx hb hX hbl hbA hS (vp_in_nI (show i + 1 < L by omega) (by omega)) dL_law_299 ?_
  refine nmI (z := xs (i + 1)) (by rw [nI_clamp (by omega)]) ?_
  refine lv_aload_n hx hb dL_law_300 rfl (lv_at hl 1 rfl) ?_
  refine lv_iload_n hx hb dL_law_301 rfl (lv_at hl 0 rfl) ?_
  refine lv_iconst (v := 2) hx hb dL_law_302 (by decide) ?_
  refine lv_iadd hx hb dL_law_303 ?_
  refine nmI (nI_p i 2 (by decide)) ?_
  refine va_sld hx hb hX hbl hbA hS (vp_in_nI (show i + 2 < L by omega) (by omega)) dL_law_304 ?_
  refine nmI (z := xs (i + 2)) (by rw [nI_clamp (by omega)]) ?_
  refine lv_aload_n hx hb dL_law_305 rfl (lv_at hl 1 rfl) ?_
  refine lv_iload_n hx hb dL_law_306 rfl (lv_at hl 0 rfl) ?_
  refine lv_iconst (v := 3) hx hb dL_law_307 (by decide) ?_
  refine lv_iadd hx hb dL_law_308 ?_
  refine nmI (nI_p i 3 (by decide)) ?_
  refine va_sld hx hb hX hbl hbA hS (vp_in_nI (show i + 3 < L by omega) (by omega)) dL_law_309 ?_
  refine nmI (z := xs (i + 3)) (by rw [nI_clamp (by omega)]) ?_
  refine cI hP hD hS hA hE (fun hPc hDc hSc => rV (As := [.int (xs (i + 1)), .int (xs (i + 2)), .int (xs (i + 3))]) (rest := [.int u.1]) hx hb hml hown hts hK (c_X10_kind l g a1 (p10_papers s10) (p10_raw s10) (p10_kind s10) (p10_figure s10) (p10_heavy s10) (p10_place s10) (p10_rules s10) (p10_lower s10) (p10_upper s10) (p10_limits s10) (p10_limit s10) (p10_ties s10) (p10_letter s10) (p10_letters s10) (p10_told s10) (p10_tolds s10) (p10_places s10) (p10_cell s10) (p10_refusals s10) (p10_imaged s10) (p10_hasImage s10) (p10_before s10) (p10_up s10) (p10_down s10) (p10_beneath s10) (p10_numberUp s10) (p10_numberDown s10) (p10_block s10) (p10_blocks s10) (p10_merged s10) (p10_valueUp s10) (p10_valueDown s10) (p10_said s10) (p10_saids s10) (p10_at s10) (p10_number s10) (xs (i + 1)) (xs (i + 2)) (xs (i + 3)) (by rw [hv]; exact Option.some_ne_none _)) svV_X10_kind kw1357 rfl rfl hPc hDc hSc rfl rfl hl.1 (Nat.le_of_ble_eq_true rfl) dL_law_310 ⟨Nat.le_of_ble_eq_true rfl, Nat.le_of_ble_eq_true rfl, rfl, rfl, hcl, hsl⟩) [(132, 22)] rfl rfl rfl (fun _ => rfl) (fun w H locs ew nw hP hD hS => ?_)
  obtain rfl := Option.some.inj (hv.symm.trans ew)
  have hP : va_P g.1 vwCl (w9s a0 g (st_X9_kind s9 u) ++ w10s a1 g (st_X10_kind s10 v)) H := hP
  have hD : va_D (fun q : Nat => s.heap.size ≤ q) (w9s a0 g (st_X9_kind s9 u) ++ w10s a1 g (st_X10_kind s10 v)) := hD
  refine lv_icmp_eq (tgt := 1529) hx hb dL_law_313 (by decide) (fun _ => ?_) (fun c => absurd he c)
  refine W.widen (k := cells + 24) (n := slots + 7200) (by omega) (by omega) ?_
  exact kk (st_X9_kind s9 u) (st_X10_kind s10 v) _ _ hR hP hD hS
/-- raw -/
abbrev OP_raw (Rel : T9 → T10 → Prop) : Prop := ∀ (s9 : T9) (s10 : T10) (p1 p2 : Int32), Rel s9 s10 → ∃ u v, m_X9_raw s9 p1 p2 = some u ∧ m_X10_raw s10 p1 p2 = some v ∧ u.1 = v.1 ∧ Rel (st_X9_raw s9 u) (st_X10_raw s10 v)
set_option maxHeartbeats 4000000 in
set_option maxRecDepth 100000 in
theorem law_raw {p : Program} {e : Env} {s : State} {m : MethodId} {below : List Frame} {meth : Method} {c : Code} (l : Launch) (g : GG) (Rel : T9 → T10 → Prop) (hop : OP_raw Rel) {b L : Nat} {xs : Nat → Int32} (hL : L ≤ 2560) (hx : p.tables.exec = Jvm.exec) (hb : c.code = code) (hml : c.maxLocals = 4) (hown : s.vm.findClass RL = some m.cls) (hts : ∀ w ∈ G, w.before #[Value.ref b] s = true) (hX : va_X b L xs s s.heap) (hbl : b < s.heap.size) (hK : NK g s) (hE : SK g (fun q : Nat => s.heap.size ≤ q) s s.heap) (a0 a1 : Nat → Nat) (i : Nat) (hi : i + 5 ≤ L) (s9 : T9) (s10 : T10) (hR : Rel s9 s10) {H : Heap} {locs : List Loc} {ls : Array Slot} {cells slots : Nat} (hcl0 : cells + 24 ≤ 600000) (hsl0 : slots + 7200 ≤ 7302250) (hP : va_P g.1 vwCl (w9s a0 g s9 ++ w10s a1 g s10) H) (hD : va_D (fun q : Nat => s.heap.size ≤ q) (w9s a0 g s9 ++ w10s a1 g s10)) (hS : va_S (fun q : Nat => s.heap.size ≤ q) s.heap H locs) (hl : lv_has ls 4 [(3, .int (nI i)), (0, .ref b), (1, .ref (a0 0)), (2, .ref (a1 0))])
    (kk : ∀ (s9 : T9) (s10 : T10) (H : Heap) (locs : List Loc), Rel s9 s10 → va_P g.1 vwCl (w9s a0 g s9 ++ w10s a1 g s10) H → va_D (fun q : Nat => s.heap.size ≤ q) (w9s a0 g s9 ++ w10s a1 g s10) → va_S (fun q : Nat => s.heap.size ≤ q) s.heap H locs → W p l e room_1 s m #[Value.ref b] below meth c H locs (cells + 24) (slots + 7200) (lw_Z below #[Value.ref b] s) (F0 m 1529 ls [])) :
    W p l e room_1 s m #[Value.ref b] below meth c H locs cells slots (lw_Z below #[Value.ref b] s) (F0 m 318 ls []) := by
  have hA : ∀ q : Nat, s.heap.size ≤ q → (fun q : Nat => s.heap.size ≤ q) q := fun _ h => h
  have hbA : ¬ (fun q : Nat => s.heap.size ≤ q) b := Nat.not_le.mpr hbl
  have hcl : cells + 0 ≤ room_1.cells := by show cells + 0 ≤ 600000; omega
  have hsl : slots + 0 ≤ room_1.slots := by show slots + 0 ≤ 7302250; omega
  obtain ⟨u, v, hu, hv, he, hR⟩ := hop s9 s10 (xs (i + 1)) (xs (i + 2)) hR
  refine lv_aload_n hx hb dL_law_318 rfl (lv_at hl 2 rfl) ?_
  refine lv_aload_n hx hb dL_law_319 rfl (lv_at hl 1 rfl) ?_
  refine lv_iload_n hx hb dL_law_320 rfl (lv_at hl 0 rfl) ?_
  refine lv_iconst (v := 1) hx hb dL_law_321 (by decide) ?_
  refine lv_iadd hx hb dL_law_322 ?_
  refine nmI (nI_p i 1 (by decide)) ?_
  refine va_sld hx hb hX hbl hbA hS (vp_in_nI (show i + 1 < L by omega) (by omega)) dL_law_323 ?_
  refine nmI (z := xs (i + 1)) (by rw [nI_clamp (by omega)]) ?_
  refine lv_aload_n hx hb dL_law_324 rfl (lv_at hl 1 rfl) ?_
  refine lv_iload_n hx hb dL_law_325 rfl (lv_at hl 0 rfl) ?_
  refine lv_iconst (v := 2) hx hb dL_law_326 (by decide) ?_
  refine lv_iadd hx hb dL_law_327 ?_
  refine nmI (nI_p i 2 (by decide)) ?_
  refine va_sld hx hb hX hbl hbA hS (vp_in_nI (show i + 2 < L by omega) (by omega)) dL_law_328 ?_
  refine nmI (z := xs (i + 2)) (by rw [nI_clamp (by omega)]) ?_
  refine cI hP hD hS hA hE (fun hPc hDc hSc => rV (As := [.int (xs (i + 1)), .int (xs (i + 2))]) (rest := []) hx hb hml hown hts hK (c_X9_raw l g a0 (p6_raws (p9_now s9)) (p6_kinds (p9_now s9)) (p6_figures (p9_now s9)) (p6_heavies (p9_now s9)) (p6_places (p9_now s9)) (p6_papers (p9_now s9)) (p6_lowers (p9_now s9)) (p6_uppers (p9_now s9)) (p6_rules (p9_now s9)) (p6_bounds (p9_now s9)) (p6_boundCount (p9_now s9)) (p6_tieWay (p9_now s9)) (p6_reached (p9_now s9)) (p6_raws (p9_kept s9)) (p6_kinds (p9_kept s9)) (p6_figures (p9_kept s9)) (p6_heavies (p9_kept s9)) (p6_places (p9_kept s9)) (p6_papers (p9_kept s9)) (p6_lowers (p9_kept s9)) (p6_uppers (p9_kept s9)) (p6_rules (p9_kept s9)) (p6_bounds (p9_kept s9)) (p6_boundCount (p9_kept s9)) (p6_tieWay (p9_kept s9)) (p6_reached (p9_kept s9)) (p6_raws (p9_spare s9)) (p6_kinds (p9_spare s9)) (p6_figures (p9_spare s9)) (p6_heavies (p9_spare s9)) (p6_places (p9_spare s9)) (p6_papers (p9_spare s9)) (p6_lowers (p9_spare s9)) (p6_uppers (p9_spare s9)) (p6_rules (p9_spare s9)) (p6_bounds (p9_spare s9)) (p6_boundCount (p9_spare s9)) (p6_tieWay (p9_spare s9)) (p6_reached (p9_spare s9)) (p9_isKept s9) (p3_signs (p9_letters s9)) (p3_numbers (p9_letters s9)) (p3_size (p9_letters s9)) (p3_at (p9_letters s9)) (p3_word (p9_letters s9)) (p9_told s9) (p9_toldCount s9) (p7_cells (p9_shelves s9)) (p7_sizes (p9_shelves s9)) (p7_made (p9_shelves s9)) (p9_refusals s9) (p5_overs (p9_order s9)) (p5_unders (p9_order s9)) (p5_marks (p9_order s9)) (p5_wrongs (p9_order s9)) (p5_papers (p9_order s9)) (p8_marks (p4_values (p9_standing s9))) (p8_weights (p4_values (p9_standing s9))) (p8_places (p4_values (p9_standing s9))) (p8_aboves (p4_values (p9_standing s9))) (p8_belows (p4_values (p9_standing s9))) (p1_above (p8_reduced (p4_values (p9_standing s9)))) (p1_below (p8_reduced (p4_values (p9_standing s9)))) (p8_papers (p4_values (p9_standing s9))) (p4_blocks (p9_standing s9)) (p4_tops (p9_standing s9)) (p4_bottoms (p9_standing s9)) (p4_blocksNow (p9_standing s9)) (p4_mergesDone (p9_standing s9)) (p4_loss (p9_standing s9)) (p8_marks (p0_values (p9_byRules s9))) (p8_weights (p0_values (p9_byRules s9))) (p8_places (p0_values (p9_byRules s9))) (p8_aboves (p0_values (p9_byRules s9))) (p8_belows (p0_values (p9_byRules s9))) (p1_above (p8_reduced (p0_values (p9_byRules s9)))) (p1_below (p8_reduced (p0_values (p9_byRules s9)))) (p8_papers (p0_values (p9_byRules s9))) (p5_overs (p0_order (p9_byRules s9))) (p5_unders (p0_order (p9_byRules s9))) (p5_marks (p0_order (p9_byRules s9))) (p5_wrongs (p0_order (p9_byRules s9))) (p5_papers (p0_order (p9_byRules s9))) (p0_sums (p9_byRules s9)) (p0_weighs (p9_byRules s9)) (p0_downs (p9_byRules s9)) (p1_above (p9_fraction s9)) (p1_below (p9_fraction s9)) (pSB_a (p9_said s9)) (pSB_m (p9_said s9)) (pSB_f (p9_said s9)) (pSB_l (p9_said s9)) (pSB_n (p9_said s9)) (xs (i + 1)) (xs (i + 2)) (by rw [hu]; exact Option.some_ne_none _)) svV_X9_raw kw488 rfl rfl hPc hDc hSc rfl rfl hl.1 (Nat.le_of_ble_eq_true rfl) dL_law_329 ⟨Nat.le_of_ble_eq_true rfl, Nat.le_of_ble_eq_true rfl, rfl, rfl, hcl, hsl⟩) [(0, 132)] rfl rfl rfl (fun _ => rfl) (fun w H locs ew nw hP hD hS => ?_)
  obtain rfl := Option.some.inj (hu.symm.trans ew)
  have hP : va_P g.1 vwCl (w9s a0 g (st_X9_raw s9 u) ++ w10s a1 g s10) H := hP
  have hD : va_D (fun q : Nat => s.heap.size ≤ q) (w9s a0 g (st_X9_raw s9 u) ++ w10s a1 g s10) := hD
  refine lv_aload_n hx hb dL_law_332 rfl (lv_at hl 3 rfl) ?_
  refine lv_aload_n hx hb dL_law_333 rfl (lv_at hl 1 rfl) ?_
  refine lv_iload_n hx hb dL_law_334 rfl (lv_at hl 0 rfl) ?_
  refine lv_iconst (v := 1) hx hb dL_law_335 (by decide) ?_
  refine lv_iadd hx hb dL_law_336 ?_
  refine nmI (nI_p i 1 (by decide)) ?_
  refine va_sld hx hb hX hbl hbA hS (vp_in_nI (show i + 1 < L by omega) (by omega)) dL_law_337 ?_
  refine nmI (z := xs (i + 1)) (by rw [nI_clamp (by omega)]) ?_
  refine lv_aload_n hx hb dL_law_338 rfl (lv_at hl 1 rfl) ?_
  refine lv_iload_n hx hb dL_law_339 rfl (lv_at hl 0 rfl) ?_
  refine lv_iconst (v := 2) hx hb dL_law_340 (by decide) ?_
  refine lv_iadd hx hb dL_law_341 ?_
  refine nmI (nI_p i 2 (by decide)) ?_
  refine va_sld hx hb hX hbl hbA hS (vp_in_nI (show i + 2 < L by omega) (by omega)) dL_law_342 ?_
  refine nmI (z := xs (i + 2)) (by rw [nI_clamp (by omega)]) ?_
  refine cI hP hD hS hA hE (fun hPc hDc hSc => rV (As := [.int (xs (i + 1)), .int (xs (i + 2))]) (rest := [.int u.1]) hx hb hml hown hts hK (c_X10_raw l g a1 (p10_papers s10) (p10_raw s10) (p10_kind s10) (p10_figure s10) (p10_heavy s10) (p10_place s10) (p10_rules s10) (p10_lower s10) (p10_upper s10) (p10_limits s10) (p10_limit s10) (p10_ties s10) (p10_letter s10) (p10_letters s10) (p10_told s10) (p10_tolds s10) (p10_places s10) (p10_cell s10) (p10_refusals s10) (p10_imaged s10) (p10_hasImage s10) (p10_before s10) (p10_up s10) (p10_down s10) (p10_beneath s10) (p10_numberUp s10) (p10_numberDown s10) (p10_block s10) (p10_blocks s10) (p10_merged s10) (p10_valueUp s10) (p10_valueDown s10) (p10_said s10) (p10_saids s10) (p10_at s10) (p10_number s10) (xs (i + 1)) (xs (i + 2)) (by rw [hv]; exact Option.some_ne_none _)) svV_X10_raw kw1367 rfl rfl hPc hDc hSc rfl rfl hl.1 (Nat.le_of_ble_eq_true rfl) dL_law_343 ⟨Nat.le_of_ble_eq_true rfl, Nat.le_of_ble_eq_true rfl, rfl, rfl, hcl, hsl⟩) [(132, 22)] rfl rfl rfl (fun _ => rfl) (fun w H locs ew nw hP hD hS => ?_)
  obtain rfl := Option.some.inj (hv.symm.trans ew)
  have hP : va_P g.1 vwCl (w9s a0 g (st_X9_raw s9 u) ++ w10s a1 g (st_X10_raw s10 v)) H := hP
  have hD : va_D (fun q : Nat => s.heap.size ≤ q) (w9s a0 g (st_X9_raw s9 u) ++ w10s a1 g (st_X10_raw s10 v)) := hD
  refine lv_icmp_eq (tgt := 1529) hx hb dL_law_346 (by decide) (fun _ => ?_) (fun c => absurd he c)
  refine W.widen (k := cells + 24) (n := slots + 7200) (by omega) (by omega) ?_
  exact kk (st_X9_raw s9 u) (st_X10_raw s10 v) _ _ hR hP hD hS
/-- heavy -/
abbrev OP_heavy (Rel : T9 → T10 → Prop) : Prop := ∀ (s9 : T9) (s10 : T10) (p1 p2 : Int32), Rel s9 s10 → ∃ u v, m_X9_heavy s9 p1 p2 = some u ∧ m_X10_heavy s10 p1 p2 = some v ∧ u.1 = v.1 ∧ Rel (st_X9_heavy s9 u) (st_X10_heavy s10 v)
set_option maxHeartbeats 4000000 in
set_option maxRecDepth 100000 in
theorem law_heavy {p : Program} {e : Env} {s : State} {m : MethodId} {below : List Frame} {meth : Method} {c : Code} (l : Launch) (g : GG) (Rel : T9 → T10 → Prop) (hop : OP_heavy Rel) {b L : Nat} {xs : Nat → Int32} (hL : L ≤ 2560) (hx : p.tables.exec = Jvm.exec) (hb : c.code = code) (hml : c.maxLocals = 4) (hown : s.vm.findClass RL = some m.cls) (hts : ∀ w ∈ G, w.before #[Value.ref b] s = true) (hX : va_X b L xs s s.heap) (hbl : b < s.heap.size) (hK : NK g s) (hE : SK g (fun q : Nat => s.heap.size ≤ q) s s.heap) (a0 a1 : Nat → Nat) (i : Nat) (hi : i + 5 ≤ L) (s9 : T9) (s10 : T10) (hR : Rel s9 s10) {H : Heap} {locs : List Loc} {ls : Array Slot} {cells slots : Nat} (hcl0 : cells + 24 ≤ 600000) (hsl0 : slots + 7200 ≤ 7302250) (hP : va_P g.1 vwCl (w9s a0 g s9 ++ w10s a1 g s10) H) (hD : va_D (fun q : Nat => s.heap.size ≤ q) (w9s a0 g s9 ++ w10s a1 g s10)) (hS : va_S (fun q : Nat => s.heap.size ≤ q) s.heap H locs) (hl : lv_has ls 4 [(3, .int (nI i)), (0, .ref b), (1, .ref (a0 0)), (2, .ref (a1 0))])
    (kk : ∀ (s9 : T9) (s10 : T10) (H : Heap) (locs : List Loc), Rel s9 s10 → va_P g.1 vwCl (w9s a0 g s9 ++ w10s a1 g s10) H → va_D (fun q : Nat => s.heap.size ≤ q) (w9s a0 g s9 ++ w10s a1 g s10) → va_S (fun q : Nat => s.heap.size ≤ q) s.heap H locs → W p l e room_1 s m #[Value.ref b] below meth c H locs (cells + 24) (slots + 7200) (lw_Z below #[Value.ref b] s) (F0 m 1529 ls [])) :
    W p l e room_1 s m #[Value.ref b] below meth c H locs cells slots (lw_Z below #[Value.ref b] s) (F0 m 351 ls []) := by
  have hA : ∀ q : Nat, s.heap.size ≤ q → (fun q : Nat => s.heap.size ≤ q) q := fun _ h => h
  have hbA : ¬ (fun q : Nat => s.heap.size ≤ q) b := Nat.not_le.mpr hbl
  have hcl : cells + 0 ≤ room_1.cells := by show cells + 0 ≤ 600000; omega
  have hsl : slots + 0 ≤ room_1.slots := by show slots + 0 ≤ 7302250; omega
  obtain ⟨u, v, hu, hv, he, hR⟩ := hop s9 s10 (xs (i + 1)) (xs (i + 2)) hR
  refine lv_aload_n hx hb dL_law_351 rfl (lv_at hl 2 rfl) ?_
  refine lv_aload_n hx hb dL_law_352 rfl (lv_at hl 1 rfl) ?_
  refine lv_iload_n hx hb dL_law_353 rfl (lv_at hl 0 rfl) ?_
  refine lv_iconst (v := 1) hx hb dL_law_354 (by decide) ?_
  refine lv_iadd hx hb dL_law_355 ?_
  refine nmI (nI_p i 1 (by decide)) ?_
  refine va_sld hx hb hX hbl hbA hS (vp_in_nI (show i + 1 < L by omega) (by omega)) dL_law_356 ?_
  refine nmI (z := xs (i + 1)) (by rw [nI_clamp (by omega)]) ?_
  refine lv_aload_n hx hb dL_law_357 rfl (lv_at hl 1 rfl) ?_
  refine lv_iload_n hx hb dL_law_358 rfl (lv_at hl 0 rfl) ?_
  refine lv_iconst (v := 2) hx hb dL_law_359 (by decide) ?_
  refine lv_iadd hx hb dL_law_360 ?_
  refine nmI (nI_p i 2 (by decide)) ?_
  refine va_sld hx hb hX hbl hbA hS (vp_in_nI (show i + 2 < L by omega) (by omega)) dL_law_361 ?_
  refine nmI (z := xs (i + 2)) (by rw [nI_clamp (by omega)]) ?_
  refine cI hP hD hS hA hE (fun hPc hDc hSc => rV (As := [.int (xs (i + 1)), .int (xs (i + 2))]) (rest := []) hx hb hml hown hts hK (c_X9_heavy l g a0 (p6_raws (p9_now s9)) (p6_kinds (p9_now s9)) (p6_figures (p9_now s9)) (p6_heavies (p9_now s9)) (p6_places (p9_now s9)) (p6_papers (p9_now s9)) (p6_lowers (p9_now s9)) (p6_uppers (p9_now s9)) (p6_rules (p9_now s9)) (p6_bounds (p9_now s9)) (p6_boundCount (p9_now s9)) (p6_tieWay (p9_now s9)) (p6_reached (p9_now s9)) (p6_raws (p9_kept s9)) (p6_kinds (p9_kept s9)) (p6_figures (p9_kept s9)) (p6_heavies (p9_kept s9)) (p6_places (p9_kept s9)) (p6_papers (p9_kept s9)) (p6_lowers (p9_kept s9)) (p6_uppers (p9_kept s9)) (p6_rules (p9_kept s9)) (p6_bounds (p9_kept s9)) (p6_boundCount (p9_kept s9)) (p6_tieWay (p9_kept s9)) (p6_reached (p9_kept s9)) (p6_raws (p9_spare s9)) (p6_kinds (p9_spare s9)) (p6_figures (p9_spare s9)) (p6_heavies (p9_spare s9)) (p6_places (p9_spare s9)) (p6_papers (p9_spare s9)) (p6_lowers (p9_spare s9)) (p6_uppers (p9_spare s9)) (p6_rules (p9_spare s9)) (p6_bounds (p9_spare s9)) (p6_boundCount (p9_spare s9)) (p6_tieWay (p9_spare s9)) (p6_reached (p9_spare s9)) (p9_isKept s9) (p3_signs (p9_letters s9)) (p3_numbers (p9_letters s9)) (p3_size (p9_letters s9)) (p3_at (p9_letters s9)) (p3_word (p9_letters s9)) (p9_told s9) (p9_toldCount s9) (p7_cells (p9_shelves s9)) (p7_sizes (p9_shelves s9)) (p7_made (p9_shelves s9)) (p9_refusals s9) (p5_overs (p9_order s9)) (p5_unders (p9_order s9)) (p5_marks (p9_order s9)) (p5_wrongs (p9_order s9)) (p5_papers (p9_order s9)) (p8_marks (p4_values (p9_standing s9))) (p8_weights (p4_values (p9_standing s9))) (p8_places (p4_values (p9_standing s9))) (p8_aboves (p4_values (p9_standing s9))) (p8_belows (p4_values (p9_standing s9))) (p1_above (p8_reduced (p4_values (p9_standing s9)))) (p1_below (p8_reduced (p4_values (p9_standing s9)))) (p8_papers (p4_values (p9_standing s9))) (p4_blocks (p9_standing s9)) (p4_tops (p9_standing s9)) (p4_bottoms (p9_standing s9)) (p4_blocksNow (p9_standing s9)) (p4_mergesDone (p9_standing s9)) (p4_loss (p9_standing s9)) (p8_marks (p0_values (p9_byRules s9))) (p8_weights (p0_values (p9_byRules s9))) (p8_places (p0_values (p9_byRules s9))) (p8_aboves (p0_values (p9_byRules s9))) (p8_belows (p0_values (p9_byRules s9))) (p1_above (p8_reduced (p0_values (p9_byRules s9)))) (p1_below (p8_reduced (p0_values (p9_byRules s9)))) (p8_papers (p0_values (p9_byRules s9))) (p5_overs (p0_order (p9_byRules s9))) (p5_unders (p0_order (p9_byRules s9))) (p5_marks (p0_order (p9_byRules s9))) (p5_wrongs (p0_order (p9_byRules s9))) (p5_papers (p0_order (p9_byRules s9))) (p0_sums (p9_byRules s9)) (p0_weighs (p9_byRules s9)) (p0_downs (p9_byRules s9)) (p1_above (p9_fraction s9)) (p1_below (p9_fraction s9)) (pSB_a (p9_said s9)) (pSB_m (p9_said s9)) (pSB_f (p9_said s9)) (pSB_l (p9_said s9)) (pSB_n (p9_said s9)) (xs (i + 1)) (xs (i + 2)) (by rw [hu]; exact Option.some_ne_none _)) svV_X9_heavy kw496 rfl rfl hPc hDc hSc rfl rfl hl.1 (Nat.le_of_ble_eq_true rfl) dL_law_362 ⟨Nat.le_of_ble_eq_true rfl, Nat.le_of_ble_eq_true rfl, rfl, rfl, hcl, hsl⟩) [(0, 132)] rfl rfl rfl (fun _ => rfl) (fun w H locs ew nw hP hD hS => ?_)
  obtain rfl := Option.some.inj (hu.symm.trans ew)
  have hP : va_P g.1 vwCl (w9s a0 g (st_X9_heavy s9 u) ++ w10s a1 g s10) H := hP
  have hD : va_D (fun q : Nat => s.heap.size ≤ q) (w9s a0 g (st_X9_heavy s9 u) ++ w10s a1 g s10) := hD
  refine lv_aload_n hx hb dL_law_365 rfl (lv_at hl 3 rfl) ?_
  refine lv_aload_n hx hb dL_law_366 rfl (lv_at hl 1 rfl) ?_
  refine lv_iload_n hx hb dL_law_367 rfl (lv_at hl 0 rfl) ?_
  refine lv_iconst (v := 1) hx hb dL_law_368 (by decide) ?_
  refine lv_iadd hx hb dL_law_369 ?_
  refine nmI (nI_p i 1 (by decide)) ?_
  refine va_sld hx hb hX hbl hbA hS (vp_in_nI (show i + 1 < L by omega) (by omega)) dL_law_370 ?_
  refine nmI (z := xs (i + 1)) (by rw [nI_clamp (by omega)]) ?_
  refine lv_aload_n hx hb dL_law_371 rfl (lv_at hl 1 rfl) ?_
  refine lv_iload_n hx hb dL_law_372 rfl (lv_at hl 0 rfl) ?_
  refine lv_iconst (v := 2) hx hb dL_law_373 (by decide) ?_
  refine lv_iadd hx hb dL_law_374 ?_
  refine nmI (nI_p i 2 (by decide)) ?_
  refine va_sld hx hb hX hbl hbA hS (vp_in_nI (show i + 2 < L by omega) (by omega)) dL_law_375 ?_
  refine nmI (z := xs (i + 2)) (by rw [nI_clamp (by omega)]) ?_
  refine cI hP hD hS hA hE (fun hPc hDc hSc => rV (As := [.int (xs (i + 1)), .int (xs (i + 2))]) (rest := [.int u.1]) hx hb hml hown hts hK (c_X10_heavy l g a1 (p10_papers s10) (p10_raw s10) (p10_kind s10) (p10_figure s10) (p10_heavy s10) (p10_place s10) (p10_rules s10) (p10_lower s10) (p10_upper s10) (p10_limits s10) (p10_limit s10) (p10_ties s10) (p10_letter s10) (p10_letters s10) (p10_told s10) (p10_tolds s10) (p10_places s10) (p10_cell s10) (p10_refusals s10) (p10_imaged s10) (p10_hasImage s10) (p10_before s10) (p10_up s10) (p10_down s10) (p10_beneath s10) (p10_numberUp s10) (p10_numberDown s10) (p10_block s10) (p10_blocks s10) (p10_merged s10) (p10_valueUp s10) (p10_valueDown s10) (p10_said s10) (p10_saids s10) (p10_at s10) (p10_number s10) (xs (i + 1)) (xs (i + 2)) (by rw [hv]; exact Option.some_ne_none _)) svV_X10_heavy kw1374 rfl rfl hPc hDc hSc rfl rfl hl.1 (Nat.le_of_ble_eq_true rfl) dL_law_376 ⟨Nat.le_of_ble_eq_true rfl, Nat.le_of_ble_eq_true rfl, rfl, rfl, hcl, hsl⟩) [(132, 22)] rfl rfl rfl (fun _ => rfl) (fun w H locs ew nw hP hD hS => ?_)
  obtain rfl := Option.some.inj (hv.symm.trans ew)
  have hP : va_P g.1 vwCl (w9s a0 g (st_X9_heavy s9 u) ++ w10s a1 g (st_X10_heavy s10 v)) H := hP
  have hD : va_D (fun q : Nat => s.heap.size ≤ q) (w9s a0 g (st_X9_heavy s9 u) ++ w10s a1 g (st_X10_heavy s10 v)) := hD
  refine lv_icmp_eq (tgt := 1529) hx hb dL_law_379 (by decide) (fun _ => ?_) (fun c => absurd he c)
  refine W.widen (k := cells + 24) (n := slots + 7200) (by omega) (by omega) ?_
  exact kk (st_X9_heavy s9 u) (st_X10_heavy s10 v) _ _ hR hP hD hS
/-- place -/
abbrev OP_place (Rel : T9 → T10 → Prop) : Prop := ∀ (s9 : T9) (s10 : T10) (p1 p2 : Int32), Rel s9 s10 → ∃ u v, m_X9_place s9 p1 p2 = some u ∧ m_X10_place s10 p1 p2 = some v ∧ u.1 = v.1 ∧ Rel (st_X9_place s9 u) (st_X10_place s10 v)
set_option maxHeartbeats 4000000 in
set_option maxRecDepth 100000 in
theorem law_place {p : Program} {e : Env} {s : State} {m : MethodId} {below : List Frame} {meth : Method} {c : Code} (l : Launch) (g : GG) (Rel : T9 → T10 → Prop) (hop : OP_place Rel) {b L : Nat} {xs : Nat → Int32} (hL : L ≤ 2560) (hx : p.tables.exec = Jvm.exec) (hb : c.code = code) (hml : c.maxLocals = 4) (hown : s.vm.findClass RL = some m.cls) (hts : ∀ w ∈ G, w.before #[Value.ref b] s = true) (hX : va_X b L xs s s.heap) (hbl : b < s.heap.size) (hK : NK g s) (hE : SK g (fun q : Nat => s.heap.size ≤ q) s s.heap) (a0 a1 : Nat → Nat) (i : Nat) (hi : i + 5 ≤ L) (s9 : T9) (s10 : T10) (hR : Rel s9 s10) {H : Heap} {locs : List Loc} {ls : Array Slot} {cells slots : Nat} (hcl0 : cells + 24 ≤ 600000) (hsl0 : slots + 7200 ≤ 7302250) (hP : va_P g.1 vwCl (w9s a0 g s9 ++ w10s a1 g s10) H) (hD : va_D (fun q : Nat => s.heap.size ≤ q) (w9s a0 g s9 ++ w10s a1 g s10)) (hS : va_S (fun q : Nat => s.heap.size ≤ q) s.heap H locs) (hl : lv_has ls 4 [(3, .int (nI i)), (0, .ref b), (1, .ref (a0 0)), (2, .ref (a1 0))])
    (kk : ∀ (s9 : T9) (s10 : T10) (H : Heap) (locs : List Loc), Rel s9 s10 → va_P g.1 vwCl (w9s a0 g s9 ++ w10s a1 g s10) H → va_D (fun q : Nat => s.heap.size ≤ q) (w9s a0 g s9 ++ w10s a1 g s10) → va_S (fun q : Nat => s.heap.size ≤ q) s.heap H locs → W p l e room_1 s m #[Value.ref b] below meth c H locs (cells + 24) (slots + 7200) (lw_Z below #[Value.ref b] s) (F0 m 1529 ls [])) :
    W p l e room_1 s m #[Value.ref b] below meth c H locs cells slots (lw_Z below #[Value.ref b] s) (F0 m 384 ls []) := by
  have hA : ∀ q : Nat, s.heap.size ≤ q → (fun q : Nat => s.heap.size ≤ q) q := fun _ h => h
  have hbA : ¬ (fun q : Nat => s.heap.size ≤ q) b := Nat.not_le.mpr hbl
  have hcl : cells + 0 ≤ room_1.cells := by show cells + 0 ≤ 600000; omega
  have hsl : slots + 0 ≤ room_1.slots := by show slots + 0 ≤ 7302250; omega
  obtain ⟨u, v, hu, hv, he, hR⟩ := hop s9 s10 (xs (i + 1)) (xs (i + 2)) hR
  refine lv_aload_n hx hb dL_law_384 rfl (lv_at hl 2 rfl) ?_
  refine lv_aload_n hx hb dL_law_385 rfl (lv_at hl 1 rfl) ?_
  refine lv_iload_n hx hb dL_law_386 rfl (lv_at hl 0 rfl) ?_
  refine lv_iconst (v := 1) hx hb dL_law_387 (by decide) ?_
  refine lv_iadd hx hb dL_law_388 ?_
  refine nmI (nI_p i 1 (by decide)) ?_
  refine va_sld hx hb hX hbl hbA hS (vp_in_nI (show i + 1 < L by omega) (by omega)) dL_law_389 ?_
  refine nmI (z := xs (i + 1)) (by rw [nI_clamp (by omega)]) ?_
  refine lv_aload_n hx hb dL_law_390 rfl (lv_at hl 1 rfl) ?_
  refine lv_iload_n hx hb dL_law_391 rfl (lv_at hl 0 rfl) ?_
  refine lv_iconst (v := 2) hx hb dL_law_392 (by decide) ?_
  refine lv_iadd hx hb dL_law_393 ?_
  refine nmI (nI_p i 2 (by decide)) ?_
  refine va_sld hx hb hX hbl hbA hS (vp_in_nI (show i + 2 < L by omega) (by omega)) dL_law_394 ?_
  refine nmI (z := xs (i + 2)) (by rw [nI_clamp (by omega)]) ?_
  refine cI hP hD hS hA hE (fun hPc hDc hSc => rV (As := [.int (xs (i + 1)), .int (xs (i + 2))]) (rest := []) hx hb hml hown hts hK (c_X9_place l g a0 (p6_raws (p9_now s9)) (p6_kinds (p9_now s9)) (p6_figures (p9_now s9)) (p6_heavies (p9_now s9)) (p6_places (p9_now s9)) (p6_papers (p9_now s9)) (p6_lowers (p9_now s9)) (p6_uppers (p9_now s9)) (p6_rules (p9_now s9)) (p6_bounds (p9_now s9)) (p6_boundCount (p9_now s9)) (p6_tieWay (p9_now s9)) (p6_reached (p9_now s9)) (p6_raws (p9_kept s9)) (p6_kinds (p9_kept s9)) (p6_figures (p9_kept s9)) (p6_heavies (p9_kept s9)) (p6_places (p9_kept s9)) (p6_papers (p9_kept s9)) (p6_lowers (p9_kept s9)) (p6_uppers (p9_kept s9)) (p6_rules (p9_kept s9)) (p6_bounds (p9_kept s9)) (p6_boundCount (p9_kept s9)) (p6_tieWay (p9_kept s9)) (p6_reached (p9_kept s9)) (p6_raws (p9_spare s9)) (p6_kinds (p9_spare s9)) (p6_figures (p9_spare s9)) (p6_heavies (p9_spare s9)) (p6_places (p9_spare s9)) (p6_papers (p9_spare s9)) (p6_lowers (p9_spare s9)) (p6_uppers (p9_spare s9)) (p6_rules (p9_spare s9)) (p6_bounds (p9_spare s9)) (p6_boundCount (p9_spare s9)) (p6_tieWay (p9_spare s9)) (p6_reached (p9_spare s9)) (p9_isKept s9) (p3_signs (p9_letters s9)) (p3_numbers (p9_letters s9)) (p3_size (p9_letters s9)) (p3_at (p9_letters s9)) (p3_word (p9_letters s9)) (p9_told s9) (p9_toldCount s9) (p7_cells (p9_shelves s9)) (p7_sizes (p9_shelves s9)) (p7_made (p9_shelves s9)) (p9_refusals s9) (p5_overs (p9_order s9)) (p5_unders (p9_order s9)) (p5_marks (p9_order s9)) (p5_wrongs (p9_order s9)) (p5_papers (p9_order s9)) (p8_marks (p4_values (p9_standing s9))) (p8_weights (p4_values (p9_standing s9))) (p8_places (p4_values (p9_standing s9))) (p8_aboves (p4_values (p9_standing s9))) (p8_belows (p4_values (p9_standing s9))) (p1_above (p8_reduced (p4_values (p9_standing s9)))) (p1_below (p8_reduced (p4_values (p9_standing s9)))) (p8_papers (p4_values (p9_standing s9))) (p4_blocks (p9_standing s9)) (p4_tops (p9_standing s9)) (p4_bottoms (p9_standing s9)) (p4_blocksNow (p9_standing s9)) (p4_mergesDone (p9_standing s9)) (p4_loss (p9_standing s9)) (p8_marks (p0_values (p9_byRules s9))) (p8_weights (p0_values (p9_byRules s9))) (p8_places (p0_values (p9_byRules s9))) (p8_aboves (p0_values (p9_byRules s9))) (p8_belows (p0_values (p9_byRules s9))) (p1_above (p8_reduced (p0_values (p9_byRules s9)))) (p1_below (p8_reduced (p0_values (p9_byRules s9)))) (p8_papers (p0_values (p9_byRules s9))) (p5_overs (p0_order (p9_byRules s9))) (p5_unders (p0_order (p9_byRules s9))) (p5_marks (p0_order (p9_byRules s9))) (p5_wrongs (p0_order (p9_byRules s9))) (p5_papers (p0_order (p9_byRules s9))) (p0_sums (p9_byRules s9)) (p0_weighs (p9_byRules s9)) (p0_downs (p9_byRules s9)) (p1_above (p9_fraction s9)) (p1_below (p9_fraction s9)) (pSB_a (p9_said s9)) (pSB_m (p9_said s9)) (pSB_f (p9_said s9)) (pSB_l (p9_said s9)) (pSB_n (p9_said s9)) (xs (i + 1)) (xs (i + 2)) (by rw [hu]; exact Option.some_ne_none _)) svV_X9_place kw501 rfl rfl hPc hDc hSc rfl rfl hl.1 (Nat.le_of_ble_eq_true rfl) dL_law_395 ⟨Nat.le_of_ble_eq_true rfl, Nat.le_of_ble_eq_true rfl, rfl, rfl, hcl, hsl⟩) [(0, 132)] rfl rfl rfl (fun _ => rfl) (fun w H locs ew nw hP hD hS => ?_)
  obtain rfl := Option.some.inj (hu.symm.trans ew)
  have hP : va_P g.1 vwCl (w9s a0 g (st_X9_place s9 u) ++ w10s a1 g s10) H := hP
  have hD : va_D (fun q : Nat => s.heap.size ≤ q) (w9s a0 g (st_X9_place s9 u) ++ w10s a1 g s10) := hD
  refine lv_aload_n hx hb dL_law_398 rfl (lv_at hl 3 rfl) ?_
  refine lv_aload_n hx hb dL_law_399 rfl (lv_at hl 1 rfl) ?_
  refine lv_iload_n hx hb dL_law_400 rfl (lv_at hl 0 rfl) ?_
  refine lv_iconst (v := 1) hx hb dL_law_401 (by decide) ?_
  refine lv_iadd hx hb dL_law_402 ?_
  refine nmI (nI_p i 1 (by decide)) ?_
  refine va_sld hx hb hX hbl hbA hS (vp_in_nI (show i + 1 < L by omega) (by omega)) dL_law_403 ?_
  refine nmI (z := xs (i + 1)) (by rw [nI_clamp (by omega)]) ?_
  refine lv_aload_n hx hb dL_law_404 rfl (lv_at hl 1 rfl) ?_
  refine lv_iload_n hx hb dL_law_405 rfl (lv_at hl 0 rfl) ?_
  refine lv_iconst (v := 2) hx hb dL_law_406 (by decide) ?_
  refine lv_iadd hx hb dL_law_407 ?_
  refine nmI (nI_p i 2 (by decide)) ?_
  refine va_sld hx hb hX hbl hbA hS (vp_in_nI (show i + 2 < L by omega) (by omega)) dL_law_408 ?_
  refine nmI (z := xs (i + 2)) (by rw [nI_clamp (by omega)]) ?_
  refine cI hP hD hS hA hE (fun hPc hDc hSc => rV (As := [.int (xs (i + 1)), .int (xs (i + 2))]) (rest := [.int u.1]) hx hb hml hown hts hK (c_X10_place l g a1 (p10_papers s10) (p10_raw s10) (p10_kind s10) (p10_figure s10) (p10_heavy s10) (p10_place s10) (p10_rules s10) (p10_lower s10) (p10_upper s10) (p10_limits s10) (p10_limit s10) (p10_ties s10) (p10_letter s10) (p10_letters s10) (p10_told s10) (p10_tolds s10) (p10_places s10) (p10_cell s10) (p10_refusals s10) (p10_imaged s10) (p10_hasImage s10) (p10_before s10) (p10_up s10) (p10_down s10) (p10_beneath s10) (p10_numberUp s10) (p10_numberDown s10) (p10_block s10) (p10_blocks s10) (p10_merged s10) (p10_valueUp s10) (p10_valueDown s10) (p10_said s10) (p10_saids s10) (p10_at s10) (p10_number s10) (xs (i + 1)) (xs (i + 2)) (by rw [hv]; exact Option.some_ne_none _)) svV_X10_place kw1378 rfl rfl hPc hDc hSc rfl rfl hl.1 (Nat.le_of_ble_eq_true rfl) dL_law_409 ⟨Nat.le_of_ble_eq_true rfl, Nat.le_of_ble_eq_true rfl, rfl, rfl, hcl, hsl⟩) [(132, 22)] rfl rfl rfl (fun _ => rfl) (fun w H locs ew nw hP hD hS => ?_)
  obtain rfl := Option.some.inj (hv.symm.trans ew)
  have hP : va_P g.1 vwCl (w9s a0 g (st_X9_place s9 u) ++ w10s a1 g (st_X10_place s10 v)) H := hP
  have hD : va_D (fun q : Nat => s.heap.size ≤ q) (w9s a0 g (st_X9_place s9 u) ++ w10s a1 g (st_X10_place s10 v)) := hD
  refine lv_icmp_eq (tgt := 1529) hx hb dL_law_412 (by decide) (fun _ => ?_) (fun c => absurd he c)
  refine W.widen (k := cells + 24) (n := slots + 7200) (by omega) (by omega) ?_
  exact kk (st_X9_place s9 u) (st_X10_place s10 v) _ _ hR hP hD hS
/-- rule -/
abbrev OP_rule (Rel : T9 → T10 → Prop) : Prop := ∀ (s9 : T9) (s10 : T10) (p1 p2 : Int32), Rel s9 s10 → ∃ u v, m_X9_rule s9 p1 p2 = some u ∧ m_X10_rule s10 p1 p2 = some v ∧ u.1 = v.1 ∧ Rel (st_X9_rule s9 u) (st_X10_rule s10 v)
set_option maxHeartbeats 4000000 in
set_option maxRecDepth 100000 in
theorem law_rule {p : Program} {e : Env} {s : State} {m : MethodId} {below : List Frame} {meth : Method} {c : Code} (l : Launch) (g : GG) (Rel : T9 → T10 → Prop) (hop : OP_rule Rel) {b L : Nat} {xs : Nat → Int32} (hL : L ≤ 2560) (hx : p.tables.exec = Jvm.exec) (hb : c.code = code) (hml : c.maxLocals = 4) (hown : s.vm.findClass RL = some m.cls) (hts : ∀ w ∈ G, w.before #[Value.ref b] s = true) (hX : va_X b L xs s s.heap) (hbl : b < s.heap.size) (hK : NK g s) (hE : SK g (fun q : Nat => s.heap.size ≤ q) s s.heap) (a0 a1 : Nat → Nat) (i : Nat) (hi : i + 5 ≤ L) (s9 : T9) (s10 : T10) (hR : Rel s9 s10) {H : Heap} {locs : List Loc} {ls : Array Slot} {cells slots : Nat} (hcl0 : cells + 24 ≤ 600000) (hsl0 : slots + 7200 ≤ 7302250) (hP : va_P g.1 vwCl (w9s a0 g s9 ++ w10s a1 g s10) H) (hD : va_D (fun q : Nat => s.heap.size ≤ q) (w9s a0 g s9 ++ w10s a1 g s10)) (hS : va_S (fun q : Nat => s.heap.size ≤ q) s.heap H locs) (hl : lv_has ls 4 [(3, .int (nI i)), (0, .ref b), (1, .ref (a0 0)), (2, .ref (a1 0))])
    (kk : ∀ (s9 : T9) (s10 : T10) (H : Heap) (locs : List Loc), Rel s9 s10 → va_P g.1 vwCl (w9s a0 g s9 ++ w10s a1 g s10) H → va_D (fun q : Nat => s.heap.size ≤ q) (w9s a0 g s9 ++ w10s a1 g s10) → va_S (fun q : Nat => s.heap.size ≤ q) s.heap H locs → W p l e room_1 s m #[Value.ref b] below meth c H locs (cells + 24) (slots + 7200) (lw_Z below #[Value.ref b] s) (F0 m 1529 ls [])) :
    W p l e room_1 s m #[Value.ref b] below meth c H locs cells slots (lw_Z below #[Value.ref b] s) (F0 m 417 ls []) := by
  have hA : ∀ q : Nat, s.heap.size ≤ q → (fun q : Nat => s.heap.size ≤ q) q := fun _ h => h
  have hbA : ¬ (fun q : Nat => s.heap.size ≤ q) b := Nat.not_le.mpr hbl
  have hcl : cells + 0 ≤ room_1.cells := by show cells + 0 ≤ 600000; omega
  have hsl : slots + 0 ≤ room_1.slots := by show slots + 0 ≤ 7302250; omega
  obtain ⟨u, v, hu, hv, he, hR⟩ := hop s9 s10 (xs (i + 1)) (xs (i + 2)) hR
  refine lv_aload_n hx hb dL_law_417 rfl (lv_at hl 2 rfl) ?_
  refine lv_aload_n hx hb dL_law_418 rfl (lv_at hl 1 rfl) ?_
  refine lv_iload_n hx hb dL_law_419 rfl (lv_at hl 0 rfl) ?_
  refine lv_iconst (v := 1) hx hb dL_law_420 (by decide) ?_
  refine lv_iadd hx hb dL_law_421 ?_
  refine nmI (nI_p i 1 (by decide)) ?_
  refine va_sld hx hb hX hbl hbA hS (vp_in_nI (show i + 1 < L by omega) (by omega)) dL_law_422 ?_
  refine nmI (z := xs (i + 1)) (by rw [nI_clamp (by omega)]) ?_
  refine lv_aload_n hx hb dL_law_423 rfl (lv_at hl 1 rfl) ?_
  refine lv_iload_n hx hb dL_law_424 rfl (lv_at hl 0 rfl) ?_
  refine lv_iconst (v := 2) hx hb dL_law_425 (by decide) ?_
  refine lv_iadd hx hb dL_law_426 ?_
  refine nmI (nI_p i 2 (by decide)) ?_
  refine va_sld hx hb hX hbl hbA hS (vp_in_nI (show i + 2 < L by omega) (by omega)) dL_law_427 ?_
  refine nmI (z := xs (i + 2)) (by rw [nI_clamp (by omega)]) ?_
  refine cI hP hD hS hA hE (fun hPc hDc hSc => rV (As := [.int (xs (i + 1)), .int (xs (i + 2))]) (rest := []) hx hb hml hown hts hK (c_X9_rule l g a0 (p6_raws (p9_now s9)) (p6_kinds (p9_now s9)) (p6_figures (p9_now s9)) (p6_heavies (p9_now s9)) (p6_places (p9_now s9)) (p6_papers (p9_now s9)) (p6_lowers (p9_now s9)) (p6_uppers (p9_now s9)) (p6_rules (p9_now s9)) (p6_bounds (p9_now s9)) (p6_boundCount (p9_now s9)) (p6_tieWay (p9_now s9)) (p6_reached (p9_now s9)) (p6_raws (p9_kept s9)) (p6_kinds (p9_kept s9)) (p6_figures (p9_kept s9)) (p6_heavies (p9_kept s9)) (p6_places (p9_kept s9)) (p6_papers (p9_kept s9)) (p6_lowers (p9_kept s9)) (p6_uppers (p9_kept s9)) (p6_rules (p9_kept s9)) (p6_bounds (p9_kept s9)) (p6_boundCount (p9_kept s9)) (p6_tieWay (p9_kept s9)) (p6_reached (p9_kept s9)) (p6_raws (p9_spare s9)) (p6_kinds (p9_spare s9)) (p6_figures (p9_spare s9)) (p6_heavies (p9_spare s9)) (p6_places (p9_spare s9)) (p6_papers (p9_spare s9)) (p6_lowers (p9_spare s9)) (p6_uppers (p9_spare s9)) (p6_rules (p9_spare s9)) (p6_bounds (p9_spare s9)) (p6_boundCount (p9_spare s9)) (p6_tieWay (p9_spare s9)) (p6_reached (p9_spare s9)) (p9_isKept s9) (p3_signs (p9_letters s9)) (p3_numbers (p9_letters s9)) (p3_size (p9_letters s9)) (p3_at (p9_letters s9)) (p3_word (p9_letters s9)) (p9_told s9) (p9_toldCount s9) (p7_cells (p9_shelves s9)) (p7_sizes (p9_shelves s9)) (p7_made (p9_shelves s9)) (p9_refusals s9) (p5_overs (p9_order s9)) (p5_unders (p9_order s9)) (p5_marks (p9_order s9)) (p5_wrongs (p9_order s9)) (p5_papers (p9_order s9)) (p8_marks (p4_values (p9_standing s9))) (p8_weights (p4_values (p9_standing s9))) (p8_places (p4_values (p9_standing s9))) (p8_aboves (p4_values (p9_standing s9))) (p8_belows (p4_values (p9_standing s9))) (p1_above (p8_reduced (p4_values (p9_standing s9)))) (p1_below (p8_reduced (p4_values (p9_standing s9)))) (p8_papers (p4_values (p9_standing s9))) (p4_blocks (p9_standing s9)) (p4_tops (p9_standing s9)) (p4_bottoms (p9_standing s9)) (p4_blocksNow (p9_standing s9)) (p4_mergesDone (p9_standing s9)) (p4_loss (p9_standing s9)) (p8_marks (p0_values (p9_byRules s9))) (p8_weights (p0_values (p9_byRules s9))) (p8_places (p0_values (p9_byRules s9))) (p8_aboves (p0_values (p9_byRules s9))) (p8_belows (p0_values (p9_byRules s9))) (p1_above (p8_reduced (p0_values (p9_byRules s9)))) (p1_below (p8_reduced (p0_values (p9_byRules s9)))) (p8_papers (p0_values (p9_byRules s9))) (p5_overs (p0_order (p9_byRules s9))) (p5_unders (p0_order (p9_byRules s9))) (p5_marks (p0_order (p9_byRules s9))) (p5_wrongs (p0_order (p9_byRules s9))) (p5_papers (p0_order (p9_byRules s9))) (p0_sums (p9_byRules s9)) (p0_weighs (p9_byRules s9)) (p0_downs (p9_byRules s9)) (p1_above (p9_fraction s9)) (p1_below (p9_fraction s9)) (pSB_a (p9_said s9)) (pSB_m (p9_said s9)) (pSB_f (p9_said s9)) (pSB_l (p9_said s9)) (pSB_n (p9_said s9)) (xs (i + 1)) (xs (i + 2)) (by rw [hu]; exact Option.some_ne_none _)) svV_X9_rule kw506 rfl rfl hPc hDc hSc rfl rfl hl.1 (Nat.le_of_ble_eq_true rfl) dL_law_428 ⟨Nat.le_of_ble_eq_true rfl, Nat.le_of_ble_eq_true rfl, rfl, rfl, hcl, hsl⟩) [(0, 132)] rfl rfl rfl (fun _ => rfl) (fun w H locs ew nw hP hD hS => ?_)
  obtain rfl := Option.some.inj (hu.symm.trans ew)
  have hP : va_P g.1 vwCl (w9s a0 g (st_X9_rule s9 u) ++ w10s a1 g s10) H := hP
  have hD : va_D (fun q : Nat => s.heap.size ≤ q) (w9s a0 g (st_X9_rule s9 u) ++ w10s a1 g s10) := hD
  refine lv_aload_n hx hb dL_law_431 rfl (lv_at hl 3 rfl) ?_
  refine lv_aload_n hx hb dL_law_432 rfl (lv_at hl 1 rfl) ?_
  refine lv_iload_n hx hb dL_law_433 rfl (lv_at hl 0 rfl) ?_
  refine lv_iconst (v := 1) hx hb dL_law_434 (by decide) ?_
  refine lv_iadd hx hb dL_law_435 ?_
  refine nmI (nI_p i 1 (by decide)) ?_
  refine va_sld hx hb hX hbl hbA hS (vp_in_nI (show i + 1 < L by omega) (by omega)) dL_law_436 ?_
  refine nmI (z := xs (i + 1)) (by rw [nI_clamp (by omega)]) ?_
  refine lv_aload_n hx hb dL_law_437 rfl (lv_at hl 1 rfl) ?_
  refine lv_iload_n hx hb dL_law_438 rfl (lv_at hl 0 rfl) ?_
  refine lv_iconst (v := 2) hx hb dL_law_439 (by decide) ?_
  refine lv_iadd hx hb dL_law_440 ?_
  refine nmI (nI_p i 2 (by decide)) ?_
  refine va_sld hx hb hX hbl hbA hS (vp_in_nI (show i + 2 < L by omega) (by omega)) dL_law_441 ?_
  refine nmI (z := xs (i + 2)) (by rw [nI_clamp (by omega)]) ?_
  refine cI hP hD hS hA hE (fun hPc hDc hSc => rV (As := [.int (xs (i + 1)), .int (xs (i + 2))]) (rest := [.int u.1]) hx hb hml hown hts hK (c_X10_rule l g a1 (p10_papers s10) (p10_raw s10) (p10_kind s10) (p10_figure s10) (p10_heavy s10) (p10_place s10) (p10_rules s10) (p10_lower s10) (p10_upper s10) (p10_limits s10) (p10_limit s10) (p10_ties s10) (p10_letter s10) (p10_letters s10) (p10_told s10) (p10_tolds s10) (p10_places s10) (p10_cell s10) (p10_refusals s10) (p10_imaged s10) (p10_hasImage s10) (p10_before s10) (p10_up s10) (p10_down s10) (p10_beneath s10) (p10_numberUp s10) (p10_numberDown s10) (p10_block s10) (p10_blocks s10) (p10_merged s10) (p10_valueUp s10) (p10_valueDown s10) (p10_said s10) (p10_saids s10) (p10_at s10) (p10_number s10) (xs (i + 1)) (xs (i + 2)) (by rw [hv]; exact Option.some_ne_none _)) svV_X10_rule kw1382 rfl rfl hPc hDc hSc rfl rfl hl.1 (Nat.le_of_ble_eq_true rfl) dL_law_442 ⟨Nat.le_of_ble_eq_true rfl, Nat.le_of_ble_eq_true rfl, rfl, rfl, hcl, hsl⟩) [(132, 22)] rfl rfl rfl (fun _ => rfl) (fun w H locs ew nw hP hD hS => ?_)
  obtain rfl := Option.some.inj (hv.symm.trans ew)
  have hP : va_P g.1 vwCl (w9s a0 g (st_X9_rule s9 u) ++ w10s a1 g (st_X10_rule s10 v)) H := hP
  have hD : va_D (fun q : Nat => s.heap.size ≤ q) (w9s a0 g (st_X9_rule s9 u) ++ w10s a1 g (st_X10_rule s10 v)) := hD
  refine lv_icmp_eq (tgt := 1529) hx hb dL_law_445 (by decide) (fun _ => ?_) (fun c => absurd he c)
  refine W.widen (k := cells + 24) (n := slots + 7200) (by omega) (by omega) ?_
  exact kk (st_X9_rule s9 u) (st_X10_rule s10 v) _ _ hR hP hD hS
/-- free -/
abbrev OP_free (Rel : T9 → T10 → Prop) : Prop := ∀ (s9 : T9) (s10 : T10) (p1 : Int32), Rel s9 s10 → ∃ u v, m_X9_free s9 p1 = some u ∧ m_X10_free s10 p1 = some v ∧ u.1 = v.1 ∧ Rel (st_X9_free s9 u) (st_X10_free s10 v)
set_option maxHeartbeats 4000000 in
set_option maxRecDepth 100000 in
theorem law_free {p : Program} {e : Env} {s : State} {m : MethodId} {below : List Frame} {meth : Method} {c : Code} (l : Launch) (g : GG) (Rel : T9 → T10 → Prop) (hop : OP_free Rel) {b L : Nat} {xs : Nat → Int32} (hL : L ≤ 2560) (hx : p.tables.exec = Jvm.exec) (hb : c.code = code) (hml : c.maxLocals = 4) (hown : s.vm.findClass RL = some m.cls) (hts : ∀ w ∈ G, w.before #[Value.ref b] s = true) (hX : va_X b L xs s s.heap) (hbl : b < s.heap.size) (hK : NK g s) (hE : SK g (fun q : Nat => s.heap.size ≤ q) s s.heap) (a0 a1 : Nat → Nat) (i : Nat) (hi : i + 5 ≤ L) (s9 : T9) (s10 : T10) (hR : Rel s9 s10) {H : Heap} {locs : List Loc} {ls : Array Slot} {cells slots : Nat} (hcl0 : cells + 24 ≤ 600000) (hsl0 : slots + 7200 ≤ 7302250) (hP : va_P g.1 vwCl (w9s a0 g s9 ++ w10s a1 g s10) H) (hD : va_D (fun q : Nat => s.heap.size ≤ q) (w9s a0 g s9 ++ w10s a1 g s10)) (hS : va_S (fun q : Nat => s.heap.size ≤ q) s.heap H locs) (hl : lv_has ls 4 [(3, .int (nI i)), (0, .ref b), (1, .ref (a0 0)), (2, .ref (a1 0))])
    (kk : ∀ (s9 : T9) (s10 : T10) (H : Heap) (locs : List Loc), Rel s9 s10 → va_P g.1 vwCl (w9s a0 g s9 ++ w10s a1 g s10) H → va_D (fun q : Nat => s.heap.size ≤ q) (w9s a0 g s9 ++ w10s a1 g s10) → va_S (fun q : Nat => s.heap.size ≤ q) s.heap H locs → W p l e room_1 s m #[Value.ref b] below meth c H locs (cells + 24) (slots + 7200) (lw_Z below #[Value.ref b] s) (F0 m 1529 ls [])) :
    W p l e room_1 s m #[Value.ref b] below meth c H locs cells slots (lw_Z below #[Value.ref b] s) (F0 m 450 ls []) := by
  have hA : ∀ q : Nat, s.heap.size ≤ q → (fun q : Nat => s.heap.size ≤ q) q := fun _ h => h
  have hbA : ¬ (fun q : Nat => s.heap.size ≤ q) b := Nat.not_le.mpr hbl
  have hcl : cells + 0 ≤ room_1.cells := by show cells + 0 ≤ 600000; omega
  have hsl : slots + 0 ≤ room_1.slots := by show slots + 0 ≤ 7302250; omega
  obtain ⟨u, v, hu, hv, he, hR⟩ := hop s9 s10 (xs (i + 1)) hR
  refine lv_aload_n hx hb dL_law_450 rfl (lv_at hl 2 rfl) ?_
  refine lv_aload_n hx hb dL_law_451 rfl (lv_at hl 1 rfl) ?_
  refine lv_iload_n hx hb dL_law_452 rfl (lv_at hl 0 rfl) ?_
  refine lv_iconst (v := 1) hx hb dL_law_453 (by decide) ?_
  refine lv_iadd hx hb dL_law_454 ?_
  refine nmI (nI_p i 1 (by decide)) ?_
  refine va_sld hx hb hX hbl hbA hS (vp_in_nI (show i + 1 < L by omega) (by omega)) dL_law_455 ?_
  refine nmI (z := xs (i + 1)) (by rw [nI_clamp (by omega)]) ?_
  refine cI hP hD hS hA hE (fun hPc hDc hSc => rV (As := [.int (xs (i + 1))]) (rest := []) hx hb hml hown hts hK (c_X9_free l g a0 (p6_raws (p9_now s9)) (p6_kinds (p9_now s9)) (p6_figures (p9_now s9)) (p6_heavies (p9_now s9)) (p6_places (p9_now s9)) (p6_papers (p9_now s9)) (p6_lowers (p9_now s9)) (p6_uppers (p9_now s9)) (p6_rules (p9_now s9)) (p6_bounds (p9_now s9)) (p6_boundCount (p9_now s9)) (p6_tieWay (p9_now s9)) (p6_reached (p9_now s9)) (p6_raws (p9_kept s9)) (p6_kinds (p9_kept s9)) (p6_figures (p9_kept s9)) (p6_heavies (p9_kept s9)) (p6_places (p9_kept s9)) (p6_papers (p9_kept s9)) (p6_lowers (p9_kept s9)) (p6_uppers (p9_kept s9)) (p6_rules (p9_kept s9)) (p6_bounds (p9_kept s9)) (p6_boundCount (p9_kept s9)) (p6_tieWay (p9_kept s9)) (p6_reached (p9_kept s9)) (p6_raws (p9_spare s9)) (p6_kinds (p9_spare s9)) (p6_figures (p9_spare s9)) (p6_heavies (p9_spare s9)) (p6_places (p9_spare s9)) (p6_papers (p9_spare s9)) (p6_lowers (p9_spare s9)) (p6_uppers (p9_spare s9)) (p6_rules (p9_spare s9)) (p6_bounds (p9_spare s9)) (p6_boundCount (p9_spare s9)) (p6_tieWay (p9_spare s9)) (p6_reached (p9_spare s9)) (p9_isKept s9) (p3_signs (p9_letters s9)) (p3_numbers (p9_letters s9)) (p3_size (p9_letters s9)) (p3_at (p9_letters s9)) (p3_word (p9_letters s9)) (p9_told s9) (p9_toldCount s9) (p7_cells (p9_shelves s9)) (p7_sizes (p9_shelves s9)) (p7_made (p9_shelves s9)) (p9_refusals s9) (p5_overs (p9_order s9)) (p5_unders (p9_order s9)) (p5_marks (p9_order s9)) (p5_wrongs (p9_order s9)) (p5_papers (p9_order s9)) (p8_marks (p4_values (p9_standing s9))) (p8_weights (p4_values (p9_standing s9))) (p8_places (p4_values (p9_standing s9))) (p8_aboves (p4_values (p9_standing s9))) (p8_belows (p4_values (p9_standing s9))) (p1_above (p8_reduced (p4_values (p9_standing s9)))) (p1_below (p8_reduced (p4_values (p9_standing s9)))) (p8_papers (p4_values (p9_standing s9))) (p4_blocks (p9_standing s9)) (p4_tops (p9_standing s9)) (p4_bottoms (p9_standing s9)) (p4_blocksNow (p9_standing s9)) (p4_mergesDone (p9_standing s9)) (p4_loss (p9_standing s9)) (p8_marks (p0_values (p9_byRules s9))) (p8_weights (p0_values (p9_byRules s9))) (p8_places (p0_values (p9_byRules s9))) (p8_aboves (p0_values (p9_byRules s9))) (p8_belows (p0_values (p9_byRules s9))) (p1_above (p8_reduced (p0_values (p9_byRules s9)))) (p1_below (p8_reduced (p0_values (p9_byRules s9)))) (p8_papers (p0_values (p9_byRules s9))) (p5_overs (p0_order (p9_byRules s9))) (p5_unders (p0_order (p9_byRules s9))) (p5_marks (p0_order (p9_byRules s9))) (p5_wrongs (p0_order (p9_byRules s9))) (p5_papers (p0_order (p9_byRules s9))) (p0_sums (p9_byRules s9)) (p0_weighs (p9_byRules s9)) (p0_downs (p9_byRules s9)) (p1_above (p9_fraction s9)) (p1_below (p9_fraction s9)) (pSB_a (p9_said s9)) (pSB_m (p9_said s9)) (pSB_f (p9_said s9)) (pSB_l (p9_said s9)) (pSB_n (p9_said s9)) (xs (i + 1)) (by rw [hu]; exact Option.some_ne_none _)) svV_X9_free kw511 rfl rfl hPc hDc hSc rfl rfl hl.1 (Nat.le_of_ble_eq_true rfl) dL_law_456 ⟨Nat.le_of_ble_eq_true rfl, Nat.le_of_ble_eq_true rfl, rfl, rfl, hcl, hsl⟩) [(0, 132)] rfl rfl rfl (fun _ => rfl) (fun w H locs ew nw hP hD hS => ?_)
  obtain rfl := Option.some.inj (hu.symm.trans ew)
  have hP : va_P g.1 vwCl (w9s a0 g (st_X9_free s9 u) ++ w10s a1 g s10) H := hP
  have hD : va_D (fun q : Nat => s.heap.size ≤ q) (w9s a0 g (st_X9_free s9 u) ++ w10s a1 g s10) := hD
  refine lv_aload_n hx hb dL_law_459 rfl (lv_at hl 3 rfl) ?_
  refine lv_aload_n hx hb dL_law_460 rfl (lv_at hl 1 rfl) ?_
  refine lv_iload_n hx hb dL_law_461 rfl (lv_at hl 0 rfl) ?_
  refine lv_iconst (v := 1) hx hb dL_law_462 (by decide) ?_
  refine lv_iadd hx hb dL_law_463 ?_
  refine nmI (nI_p i 1 (by decide)) ?_
  refine va_sld hx hb hX hbl hbA hS (vp_in_nI (show i + 1 < L by omega) (by omega)) dL_law_464 ?_
  refine nmI (z := xs (i + 1)) (by rw [nI_clamp (by omega)]) ?_
  refine cI hP hD hS hA hE (fun hPc hDc hSc => rV (As := [.int (xs (i + 1))]) (rest := [.int u.1]) hx hb hml hown hts hK (c_X10_free l g a1 (p10_papers s10) (p10_raw s10) (p10_kind s10) (p10_figure s10) (p10_heavy s10) (p10_place s10) (p10_rules s10) (p10_lower s10) (p10_upper s10) (p10_limits s10) (p10_limit s10) (p10_ties s10) (p10_letter s10) (p10_letters s10) (p10_told s10) (p10_tolds s10) (p10_places s10) (p10_cell s10) (p10_refusals s10) (p10_imaged s10) (p10_hasImage s10) (p10_before s10) (p10_up s10) (p10_down s10) (p10_beneath s10) (p10_numberUp s10) (p10_numberDown s10) (p10_block s10) (p10_blocks s10) (p10_merged s10) (p10_valueUp s10) (p10_valueDown s10) (p10_said s10) (p10_saids s10) (p10_at s10) (p10_number s10) (xs (i + 1)) (by rw [hv]; exact Option.some_ne_none _)) svV_X10_free kw1398 rfl rfl hPc hDc hSc rfl rfl hl.1 (Nat.le_of_ble_eq_true rfl) dL_law_465 ⟨Nat.le_of_ble_eq_true rfl, Nat.le_of_ble_eq_true rfl, rfl, rfl, hcl, hsl⟩) [(132, 22)] rfl rfl rfl (fun _ => rfl) (fun w H locs ew nw hP hD hS => ?_)
  obtain rfl := Option.some.inj (hv.symm.trans ew)
  have hP : va_P g.1 vwCl (w9s a0 g (st_X9_free s9 u) ++ w10s a1 g (st_X10_free s10 v)) H := hP
  have hD : va_D (fun q : Nat => s.heap.size ≤ q) (w9s a0 g (st_X9_free s9 u) ++ w10s a1 g (st_X10_free s10 v)) := hD
  refine lv_icmp_eq (tgt := 1529) hx hb dL_law_468 (by decide) (fun _ => ?_) (fun c => absurd he c)
  refine W.widen (k := cells + 24) (n := slots + 7200) (by omega) (by omega) ?_
  exact kk (st_X9_free s9 u) (st_X10_free s10 v) _ _ hR hP hD hS
