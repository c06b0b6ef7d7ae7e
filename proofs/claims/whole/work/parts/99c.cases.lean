/-! the cases of the law: written by wip/whole/mklaw.py -/
section LawCases
variable {p : Program} {e : Env} {s : State} {m : MethodId} {below : List Frame} {meth : Method} {c : Code} {b L i : Nat} {xs : Nat → Int32} {gx gy : GG} {σ μ : Mm}
theorem case_0 (x : LX p s m meth c b L xs gx gy) (hL : L ≤ 3072) (hi : i + 6 ≤ L) (hR : Rel σ μ) (kk : ∀ σ' μ', Rel σ' μ' → LW p e s m below meth c b gx gy 1636 [(0, .ref b), (1, .ref (gad gx 16 0)), (2, .ref (gad gy 0 0)), (3, .int (nI i))] [] σ' μ') : LW p e s m below meth c b gx gy 232 [(0, .ref b), (1, .ref (gad gx 16 0)), (2, .ref (gad gy 0 0)), (3, .int (nI i))] [] σ μ := by
  refine LW.aload_n x dL_law_232 1 rfl ?_
  refine LW.arg x (j := 1) (by omega) hL (by decide) rfl rfl dL_law_233 dL_law_234 dL_law_235 dL_law_236 dL_law_237 ?_
  refine LW.arg x (j := 2) (by omega) hL (by decide) rfl rfl dL_law_238 dL_law_239 dL_law_240 dL_law_241 dL_law_242 ?_
  refine LW.arg x (j := 3) (by omega) hL (by decide) rfl rfl dL_law_243 dL_law_244 dL_law_245 dL_law_246 dL_law_247 ?_
  refine LW.callX x [.int (xs (i + 1)), .int (xs (i + 2)), .int (xs (i + 3))] (C_X6_friends (E_friends (xs (i + 1)) (xs (i + 2)) (xs (i + 3)) hR)) ok_X6_friends rfl w_237 rfl (Nat.le_of_ble_eq_true rfl) (Nat.le_of_ble_eq_true rfl) rfl dL_law_248 (fun rX uX kX => ?_)
  refine LW.aload_n x dL_law_251 2 rfl ?_
  refine LW.arg x (j := 1) (by omega) hL (by decide) rfl rfl dL_law_252 dL_law_253 dL_law_254 dL_law_255 dL_law_256 ?_
  refine LW.arg x (j := 2) (by omega) hL (by decide) rfl rfl dL_law_257 dL_law_258 dL_law_259 dL_law_260 dL_law_261 ?_
  refine LW.arg x (j := 3) (by omega) hL (by decide) rfl rfl dL_law_262 dL_law_263 dL_law_264 dL_law_265 dL_law_266 ?_
  refine LW.callY x [.int (xs (i + 1)), .int (xs (i + 2)), .int (xs (i + 3))] (C_X7_friends (kX)) ok_X7_friends rfl w_936 rfl (Nat.le_of_ble_eq_true rfl) (Nat.le_of_ble_eq_true rfl) rfl dL_law_267 (fun rY uY kY => ?_)
  obtain ⟨e0, hR'⟩ := kY
  refine LW.icmp_eq x (tgt := 1636) dL_law_270 (by decide) e0.symm ?_
  exact kk uX uY hR'
theorem case_1 (x : LX p s m meth c b L xs gx gy) (hL : L ≤ 3072) (hi : i + 6 ≤ L) (hR : Rel σ μ) (kk : ∀ σ' μ', Rel σ' μ' → LW p e s m below meth c b gx gy 1636 [(0, .ref b), (1, .ref (gad gx 16 0)), (2, .ref (gad gy 0 0)), (3, .int (nI i))] [] σ' μ') : LW p e s m below meth c b gx gy 275 [(0, .ref b), (1, .ref (gad gx 16 0)), (2, .ref (gad gy 0 0)), (3, .int (nI i))] [] σ μ := by
  refine LW.aload_n x dL_law_275 1 rfl ?_
  refine LW.arg x (j := 1) (by omega) hL (by decide) rfl rfl dL_law_276 dL_law_277 dL_law_278 dL_law_279 dL_law_280 ?_
  refine LW.arg x (j := 2) (by omega) hL (by decide) rfl rfl dL_law_281 dL_law_282 dL_law_283 dL_law_284 dL_law_285 ?_
  refine LW.callX x [.int (xs (i + 1)), .int (xs (i + 2))] (C_X6_are (E_are (xs (i + 1)) (xs (i + 2)) hR)) ok_X6_are rfl w_260 rfl (Nat.le_of_ble_eq_true rfl) (Nat.le_of_ble_eq_true rfl) rfl dL_law_286 (fun rX uX kX => ?_)
  refine LW.aload_n x dL_law_289 2 rfl ?_
  refine LW.arg x (j := 1) (by omega) hL (by decide) rfl rfl dL_law_290 dL_law_291 dL_law_292 dL_law_293 dL_law_294 ?_
  refine LW.arg x (j := 2) (by omega) hL (by decide) rfl rfl dL_law_295 dL_law_296 dL_law_297 dL_law_298 dL_law_299 ?_
  refine LW.callY x [.int (xs (i + 1)), .int (xs (i + 2))] (C_X7_are (kX)) ok_X7_are rfl w_964 rfl (Nat.le_of_ble_eq_true rfl) (Nat.le_of_ble_eq_true rfl) rfl dL_law_300 (fun rY uY kY => ?_)
  obtain ⟨e0, hR'⟩ := kY
  refine LW.icmp_eq x (tgt := 1636) dL_law_303 (by decide) e0.symm ?_
  exact kk uX uY hR'
theorem case_2 (x : LX p s m meth c b L xs gx gy) (hL : L ≤ 3072) (hi : i + 6 ≤ L) (hR : Rel σ μ) (kk : ∀ σ' μ', Rel σ' μ' → LW p e s m below meth c b gx gy 1636 [(0, .ref b), (1, .ref (gad gx 16 0)), (2, .ref (gad gy 0 0)), (3, .int (nI i))] [] σ' μ') : LW p e s m below meth c b gx gy 308 [(0, .ref b), (1, .ref (gad gx 16 0)), (2, .ref (gad gy 0 0)), (3, .int (nI i))] [] σ μ := by
  refine LW.aload_n x dL_law_308 1 rfl ?_
  refine LW.arg x (j := 1) (by omega) hL (by decide) rfl rfl dL_law_309 dL_law_310 dL_law_311 dL_law_312 dL_law_313 ?_
  refine LW.arg x (j := 2) (by omega) hL (by decide) rfl rfl dL_law_314 dL_law_315 dL_law_316 dL_law_317 dL_law_318 ?_
  refine LW.callX x [.int (xs (i + 1)), .int (xs (i + 2))] (C_X6_weight (E_weight (xs (i + 1)) (xs (i + 2)) hR)) ok_X6_weight rfl w_264 rfl (Nat.le_of_ble_eq_true rfl) (Nat.le_of_ble_eq_true rfl) rfl dL_law_319 (fun rX uX kX => ?_)
  refine LW.aload_n x dL_law_322 2 rfl ?_
  refine LW.arg x (j := 1) (by omega) hL (by decide) rfl rfl dL_law_323 dL_law_324 dL_law_325 dL_law_326 dL_law_327 ?_
  refine LW.arg x (j := 2) (by omega) hL (by decide) rfl rfl dL_law_328 dL_law_329 dL_law_330 dL_law_331 dL_law_332 ?_
  refine LW.callY x [.int (xs (i + 1)), .int (xs (i + 2))] (C_X7_weight (kX)) ok_X7_weight rfl w_968 rfl (Nat.le_of_ble_eq_true rfl) (Nat.le_of_ble_eq_true rfl) rfl dL_law_333 (fun rY uY kY => ?_)
  obtain ⟨e0, hR'⟩ := kY
  refine LW.icmp_eq x (tgt := 1636) dL_law_336 (by decide) e0.symm ?_
  exact kk uX uY hR'
theorem case_3 (x : LX p s m meth c b L xs gx gy) (hL : L ≤ 3072) (hi : i + 6 ≤ L) (hR : Rel σ μ) (kk : ∀ σ' μ', Rel σ' μ' → LW p e s m below meth c b gx gy 1636 [(0, .ref b), (1, .ref (gad gx 16 0)), (2, .ref (gad gy 0 0)), (3, .int (nI i))] [] σ' μ') : LW p e s m below meth c b gx gy 341 [(0, .ref b), (1, .ref (gad gx 16 0)), (2, .ref (gad gy 0 0)), (3, .int (nI i))] [] σ μ := by
  refine LW.aload_n x dL_law_341 1 rfl ?_
  refine LW.arg x (j := 1) (by omega) hL (by decide) rfl rfl dL_law_342 dL_law_343 dL_law_344 dL_law_345 dL_law_346 ?_
  refine LW.if_eq x (tgt := 354) dL_law_347 (by decide) (fun z => ?_) (fun z => ?_)
  · refine LW.iconst x (v := b2i false) dL_law_354 (by decide) ?_
    refine LW.callX x [.int (b2i false)] (C_X6_over (E_over false hR)) ok_X6_over rfl w_268 rfl (Nat.le_of_ble_eq_true rfl) (Nat.le_of_ble_eq_true rfl) rfl dL_law_355 (fun rX uX kX => ?_)
    refine LW.aload_n x dL_law_358 2 rfl ?_
    refine LW.arg x (j := 1) (by omega) hL (by decide) rfl rfl dL_law_359 dL_law_360 dL_law_361 dL_law_362 dL_law_363 ?_
    refine LW.if_eq x (tgt := 371) dL_law_364 (by decide) (fun _ => ?_) (fun z2 => absurd z z2)
    refine LW.iconst x (v := b2i false) dL_law_371 (by decide) ?_
    refine LW.callY x [.int (b2i false)] (C_X7_over kX) ok_X7_over rfl w_977 rfl (Nat.le_of_ble_eq_true rfl) (Nat.le_of_ble_eq_true rfl) rfl dL_law_372 (fun rY uY kY => ?_)
    obtain ⟨e0, hR'⟩ := kY
    refine LW.icmp_eq x (tgt := 1636) dL_law_375 (by decide) e0.symm ?_
    exact kk uX uY hR'
  · refine LW.iconst x (v := b2i true) dL_law_350 (by decide) ?_
    refine LW.goto x (tgt := 355) dL_law_351 (by decide) ?_
    refine LW.callX x [.int (b2i true)] (C_X6_over (E_over true hR)) ok_X6_over rfl w_268 rfl (Nat.le_of_ble_eq_true rfl) (Nat.le_of_ble_eq_true rfl) rfl dL_law_355 (fun rX uX kX => ?_)
    refine LW.aload_n x dL_law_358 2 rfl ?_
    refine LW.arg x (j := 1) (by omega) hL (by decide) rfl rfl dL_law_359 dL_law_360 dL_law_361 dL_law_362 dL_law_363 ?_
    refine LW.if_eq x (tgt := 371) dL_law_364 (by decide) (fun z2 => absurd z2 z) (fun _ => ?_)
    refine LW.iconst x (v := b2i true) dL_law_367 (by decide) ?_
    refine LW.goto x (tgt := 372) dL_law_368 (by decide) ?_
    refine LW.callY x [.int (b2i true)] (C_X7_over kX) ok_X7_over rfl w_977 rfl (Nat.le_of_ble_eq_true rfl) (Nat.le_of_ble_eq_true rfl) rfl dL_law_372 (fun rY uY kY => ?_)
    obtain ⟨e0, hR'⟩ := kY
    refine LW.icmp_eq x (tgt := 1636) dL_law_375 (by decide) e0.symm ?_
    exact kk uX uY hR'
theorem case_4 (x : LX p s m meth c b L xs gx gy) (hL : L ≤ 3072) (hi : i + 6 ≤ L) (hR : Rel σ μ) (kk : ∀ σ' μ', Rel σ' μ' → LW p e s m below meth c b gx gy 1636 [(0, .ref b), (1, .ref (gad gx 16 0)), (2, .ref (gad gy 0 0)), (3, .int (nI i))] [] σ' μ') : LW p e s m below meth c b gx gy 380 [(0, .ref b), (1, .ref (gad gx 16 0)), (2, .ref (gad gy 0 0)), (3, .int (nI i))] [] σ μ := by
  refine LW.aload_n x dL_law_380 1 rfl ?_
  refine LW.arg x (j := 1) (by omega) hL (by decide) rfl rfl dL_law_381 dL_law_382 dL_law_383 dL_law_384 dL_law_385 ?_
  refine LW.callX x [.int (xs (i + 1))] (C_X6_held (E_held (xs (i + 1)) hR)) ok_X6_held rfl w_272 rfl (Nat.le_of_ble_eq_true rfl) (Nat.le_of_ble_eq_true rfl) rfl dL_law_386 (fun rX uX kX => ?_)
  refine LW.aload_n x dL_law_389 2 rfl ?_
  refine LW.arg x (j := 1) (by omega) hL (by decide) rfl rfl dL_law_390 dL_law_391 dL_law_392 dL_law_393 dL_law_394 ?_
  refine LW.callY x [.int (xs (i + 1))] (C_X7_held (kX)) ok_X7_held rfl w_981 rfl (Nat.le_of_ble_eq_true rfl) (Nat.le_of_ble_eq_true rfl) rfl dL_law_395 (fun rY uY kY => ?_)
  obtain ⟨e0, hR'⟩ := kY
  refine LW.icmp_eq x (tgt := 1636) dL_law_398 (by decide) e0.symm ?_
  exact kk uX uY hR'
theorem case_5 (x : LX p s m meth c b L xs gx gy) (hL : L ≤ 3072) (hi : i + 6 ≤ L) (hR : Rel σ μ) (kk : ∀ σ' μ', Rel σ' μ' → LW p e s m below meth c b gx gy 1636 [(0, .ref b), (1, .ref (gad gx 16 0)), (2, .ref (gad gy 0 0)), (3, .int (nI i))] [] σ' μ') : LW p e s m below meth c b gx gy 403 [(0, .ref b), (1, .ref (gad gx 16 0)), (2, .ref (gad gy 0 0)), (3, .int (nI i))] [] σ μ := by
  refine LW.aload_n x dL_law_403 1 rfl ?_
  refine LW.arg x (j := 1) (by omega) hL (by decide) rfl rfl dL_law_404 dL_law_405 dL_law_406 dL_law_407 dL_law_408 ?_
  refine LW.callX x [.int (xs (i + 1))] (C_X6_circle (E_circle (xs (i + 1)) hR)) ok_X6_circle rfl w_276 rfl (Nat.le_of_ble_eq_true rfl) (Nat.le_of_ble_eq_true rfl) rfl dL_law_409 (fun rX uX kX => ?_)
  refine LW.aload_n x dL_law_412 2 rfl ?_
  refine LW.arg x (j := 1) (by omega) hL (by decide) rfl rfl dL_law_413 dL_law_414 dL_law_415 dL_law_416 dL_law_417 ?_
  refine LW.callY x [.int (xs (i + 1))] (C_X7_circle (kX)) ok_X7_circle rfl w_986 rfl (Nat.le_of_ble_eq_true rfl) (Nat.le_of_ble_eq_true rfl) rfl dL_law_418 (fun rY uY kY => ?_)
  obtain ⟨e0, hR'⟩ := kY
  refine LW.icmp_eq x (tgt := 1636) dL_law_421 (by decide) e0.symm ?_
  exact kk uX uY hR'
theorem case_6 (x : LX p s m meth c b L xs gx gy) (hL : L ≤ 3072) (hi : i + 6 ≤ L) (hR : Rel σ μ) (kk : ∀ σ' μ', Rel σ' μ' → LW p e s m below meth c b gx gy 1636 [(0, .ref b), (1, .ref (gad gx 16 0)), (2, .ref (gad gy 0 0)), (3, .int (nI i))] [] σ' μ') : LW p e s m below meth c b gx gy 426 [(0, .ref b), (1, .ref (gad gx 16 0)), (2, .ref (gad gy 0 0)), (3, .int (nI i))] [] σ μ := by
  refine LW.aload_n x dL_law_426 1 rfl ?_
  refine LW.arg x (j := 1) (by omega) hL (by decide) rfl rfl dL_law_427 dL_law_428 dL_law_429 dL_law_430 dL_law_431 ?_
  refine LW.arg x (j := 2) (by omega) hL (by decide) rfl rfl dL_law_432 dL_law_433 dL_law_434 dL_law_435 dL_law_436 ?_
  refine LW.callX x [.int (xs (i + 1)), .int (xs (i + 2))] (C_X6_bench (E_bench (xs (i + 1)) (xs (i + 2)) hR)) ok_X6_bench rfl w_289 rfl (Nat.le_of_ble_eq_true rfl) (Nat.le_of_ble_eq_true rfl) rfl dL_law_437 (fun rX uX kX => ?_)
  refine LW.aload_n x dL_law_440 2 rfl ?_
  refine LW.arg x (j := 1) (by omega) hL (by decide) rfl rfl dL_law_441 dL_law_442 dL_law_443 dL_law_444 dL_law_445 ?_
  refine LW.arg x (j := 2) (by omega) hL (by decide) rfl rfl dL_law_446 dL_law_447 dL_law_448 dL_law_449 dL_law_450 ?_
  refine LW.callY x [.int (xs (i + 1)), .int (xs (i + 2))] (C_X7_bench (kX)) ok_X7_bench rfl w_994 rfl (Nat.le_of_ble_eq_true rfl) (Nat.le_of_ble_eq_true rfl) rfl dL_law_451 (fun rY uY kY => ?_)
  obtain ⟨e0, hR'⟩ := kY
  refine LW.icmp_eq x (tgt := 1636) dL_law_454 (by decide) e0.symm ?_
  exact kk uX uY hR'
theorem case_7 (x : LX p s m meth c b L xs gx gy) (hL : L ≤ 3072) (hi : i + 6 ≤ L) (hR : Rel σ μ) (kk : ∀ σ' μ', Rel σ' μ' → LW p e s m below meth c b gx gy 1636 [(0, .ref b), (1, .ref (gad gx 16 0)), (2, .ref (gad gy 0 0)), (3, .int (nI i))] [] σ' μ') : LW p e s m below meth c b gx gy 459 [(0, .ref b), (1, .ref (gad gx 16 0)), (2, .ref (gad gy 0 0)), (3, .int (nI i))] [] σ μ := by
  refine LW.aload_n x dL_law_459 1 rfl ?_
  refine LW.arg x (j := 1) (by omega) hL (by decide) rfl rfl dL_law_460 dL_law_461 dL_law_462 dL_law_463 dL_law_464 ?_
  refine LW.arg x (j := 2) (by omega) hL (by decide) rfl rfl dL_law_465 dL_law_466 dL_law_467 dL_law_468 dL_law_469 ?_
  refine LW.callX x [.int (xs (i + 1)), .int (xs (i + 2))] (C_X6_benchOf (E_benchOf (xs (i + 1)) (xs (i + 2)) hR)) ok_X6_benchOf rfl w_304 rfl (Nat.le_of_ble_eq_true rfl) (Nat.le_of_ble_eq_true rfl) rfl dL_law_470 (fun rX uX kX => ?_)
  refine LW.aload_n x dL_law_473 2 rfl ?_
  refine LW.arg x (j := 1) (by omega) hL (by decide) rfl rfl dL_law_474 dL_law_475 dL_law_476 dL_law_477 dL_law_478 ?_
  refine LW.arg x (j := 2) (by omega) hL (by decide) rfl rfl dL_law_479 dL_law_480 dL_law_481 dL_law_482 dL_law_483 ?_
  refine LW.callY x [.int (xs (i + 1)), .int (xs (i + 2))] (C_X7_benchOf (kX)) ok_X7_benchOf rfl w_1011 rfl (Nat.le_of_ble_eq_true rfl) (Nat.le_of_ble_eq_true rfl) rfl dL_law_484 (fun rY uY kY => ?_)
  obtain ⟨e0, hR'⟩ := kY
  refine LW.icmp_eq x (tgt := 1636) dL_law_487 (by decide) e0.symm ?_
  exact kk uX uY hR'
theorem case_8 (x : LX p s m meth c b L xs gx gy) (hL : L ≤ 3072) (hi : i + 6 ≤ L) (hR : Rel σ μ) (kk : ∀ σ' μ', Rel σ' μ' → LW p e s m below meth c b gx gy 1636 [(0, .ref b), (1, .ref (gad gx 16 0)), (2, .ref (gad gy 0 0)), (3, .int (nI i))] [] σ' μ') : LW p e s m below meth c b gx gy 492 [(0, .ref b), (1, .ref (gad gx 16 0)), (2, .ref (gad gy 0 0)), (3, .int (nI i))] [] σ μ := by
  refine LW.aload_n x dL_law_492 1 rfl ?_
  refine LW.arg x (j := 1) (by omega) hL (by decide) rfl rfl dL_law_493 dL_law_494 dL_law_495 dL_law_496 dL_law_497 ?_
  refine LW.arg x (j := 2) (by omega) hL (by decide) rfl rfl dL_law_498 dL_law_499 dL_law_500 dL_law_501 dL_law_502 ?_
  refine LW.callX x [.int (xs (i + 1)), .int (xs (i + 2))] (C_X6_turn (E_turn (xs (i + 1)) (xs (i + 2)) hR)) ok_X6_turn rfl w_349 rfl (Nat.le_of_ble_eq_true rfl) (Nat.le_of_ble_eq_true rfl) rfl dL_law_503 (fun rX uX kX => ?_)
  refine LW.aload_n x dL_law_506 2 rfl ?_
  refine LW.arg x (j := 1) (by omega) hL (by decide) rfl rfl dL_law_507 dL_law_508 dL_law_509 dL_law_510 dL_law_511 ?_
  refine LW.arg x (j := 2) (by omega) hL (by decide) rfl rfl dL_law_512 dL_law_513 dL_law_514 dL_law_515 dL_law_516 ?_
  refine LW.callY x [.int (xs (i + 1)), .int (xs (i + 2))] (C_X7_turn (kX)) ok_X7_turn rfl w_1060 rfl (Nat.le_of_ble_eq_true rfl) (Nat.le_of_ble_eq_true rfl) rfl dL_law_517 (fun rY uY kY => ?_)
  obtain ⟨e0, hR'⟩ := kY
  refine LW.icmp_eq x (tgt := 1636) dL_law_520 (by decide) e0.symm ?_
  exact kk uX uY hR'
theorem case_9 (x : LX p s m meth c b L xs gx gy) (hL : L ≤ 3072) (hi : i + 6 ≤ L) (hR : Rel σ μ) (kk : ∀ σ' μ', Rel σ' μ' → LW p e s m below meth c b gx gy 1636 [(0, .ref b), (1, .ref (gad gx 16 0)), (2, .ref (gad gy 0 0)), (3, .int (nI i))] [] σ' μ') : LW p e s m below meth c b gx gy 525 [(0, .ref b), (1, .ref (gad gx 16 0)), (2, .ref (gad gy 0 0)), (3, .int (nI i))] [] σ μ := by
  refine LW.aload_n x dL_law_525 1 rfl ?_
  refine LW.arg x (j := 1) (by omega) hL (by decide) rfl rfl dL_law_526 dL_law_527 dL_law_528 dL_law_529 dL_law_530 ?_
  refine LW.arg x (j := 2) (by omega) hL (by decide) rfl rfl dL_law_531 dL_law_532 dL_law_533 dL_law_534 dL_law_535 ?_
  refine LW.callX x [.int (xs (i + 1)), .int (xs (i + 2))] (C_X6_seat (E_seat (xs (i + 1)) (xs (i + 2)) hR)) ok_X6_seat rfl w_353 rfl (Nat.le_of_ble_eq_true rfl) (Nat.le_of_ble_eq_true rfl) rfl dL_law_536 (fun rX uX kX => ?_)
  refine LW.aload_n x dL_law_539 2 rfl ?_
  refine LW.arg x (j := 1) (by omega) hL (by decide) rfl rfl dL_law_540 dL_law_541 dL_law_542 dL_law_543 dL_law_544 ?_
  refine LW.arg x (j := 2) (by omega) hL (by decide) rfl rfl dL_law_545 dL_law_546 dL_law_547 dL_law_548 dL_law_549 ?_
  refine LW.callY x [.int (xs (i + 1)), .int (xs (i + 2))] (C_X7_seat (kX)) ok_X7_seat rfl w_1064 rfl (Nat.le_of_ble_eq_true rfl) (Nat.le_of_ble_eq_true rfl) rfl dL_law_550 (fun rY uY kY => ?_)
  obtain ⟨e0, hR'⟩ := kY
  refine LW.icmp_eq x (tgt := 1636) dL_law_553 (by decide) e0.symm ?_
  exact kk uX uY hR'
theorem case_10 (x : LX p s m meth c b L xs gx gy) (hL : L ≤ 3072) (hi : i + 6 ≤ L) (hR : Rel σ μ) (kk : ∀ σ' μ', Rel σ' μ' → LW p e s m below meth c b gx gy 1636 [(0, .ref b), (1, .ref (gad gx 16 0)), (2, .ref (gad gy 0 0)), (3, .int (nI i))] [] σ' μ') : LW p e s m below meth c b gx gy 558 [(0, .ref b), (1, .ref (gad gx 16 0)), (2, .ref (gad gy 0 0)), (3, .int (nI i))] [] σ μ := by
  refine LW.aload_n x dL_law_558 1 rfl ?_
  refine LW.arg x (j := 1) (by omega) hL (by decide) rfl rfl dL_law_559 dL_law_560 dL_law_561 dL_law_562 dL_law_563 ?_
  refine LW.arg x (j := 2) (by omega) hL (by decide) rfl rfl dL_law_564 dL_law_565 dL_law_566 dL_law_567 dL_law_568 ?_
  refine LW.arg x (j := 3) (by omega) hL (by decide) rfl rfl dL_law_569 dL_law_570 dL_law_571 dL_law_572 dL_law_573 ?_
  refine LW.callX x [.int (xs (i + 1)), .int (xs (i + 2)), .int (xs (i + 3))] (C_X6_beside (E_beside (xs (i + 1)) (xs (i + 2)) (xs (i + 3)) hR)) ok_X6_beside rfl w_361 rfl (Nat.le_of_ble_eq_true rfl) (Nat.le_of_ble_eq_true rfl) rfl dL_law_574 (fun rX uX kX => ?_)
  refine LW.aload_n x dL_law_577 2 rfl ?_
  refine LW.arg x (j := 1) (by omega) hL (by decide) rfl rfl dL_law_578 dL_law_579 dL_law_580 dL_law_581 dL_law_582 ?_
  refine LW.arg x (j := 2) (by omega) hL (by decide) rfl rfl dL_law_583 dL_law_584 dL_law_585 dL_law_586 dL_law_587 ?_
  refine LW.arg x (j := 3) (by omega) hL (by decide) rfl rfl dL_law_588 dL_law_589 dL_law_590 dL_law_591 dL_law_592 ?_
  refine LW.callY x [.int (xs (i + 1)), .int (xs (i + 2)), .int (xs (i + 3))] (C_X7_beside (kX)) ok_X7_beside rfl w_1072 rfl (Nat.le_of_ble_eq_true rfl) (Nat.le_of_ble_eq_true rfl) rfl dL_law_593 (fun rY uY kY => ?_)
  obtain ⟨e0, hR'⟩ := kY
  refine LW.icmp_eq x (tgt := 1636) dL_law_596 (by decide) e0.symm ?_
  exact kk uX uY hR'
theorem case_11 (x : LX p s m meth c b L xs gx gy) (hL : L ≤ 3072) (hi : i + 6 ≤ L) (hR : Rel σ μ) (kk : ∀ σ' μ', Rel σ' μ' → LW p e s m below meth c b gx gy 1636 [(0, .ref b), (1, .ref (gad gx 16 0)), (2, .ref (gad gy 0 0)), (3, .int (nI i))] [] σ' μ') : LW p e s m below meth c b gx gy 601 [(0, .ref b), (1, .ref (gad gx 16 0)), (2, .ref (gad gy 0 0)), (3, .int (nI i))] [] σ μ := by
  refine LW.aload_n x dL_law_601 1 rfl ?_
  refine LW.arg x (j := 1) (by omega) hL (by decide) rfl rfl dL_law_602 dL_law_603 dL_law_604 dL_law_605 dL_law_606 ?_
  refine LW.callX x [.int (xs (i + 1))] (C_X6_wrong (E_wrong (xs (i + 1)) hR)) ok_X6_wrong rfl w_366 rfl (Nat.le_of_ble_eq_true rfl) (Nat.le_of_ble_eq_true rfl) rfl dL_law_607 (fun rX uX kX => ?_)
  refine LW.aload_n x dL_law_610 2 rfl ?_
  refine LW.arg x (j := 1) (by omega) hL (by decide) rfl rfl dL_law_611 dL_law_612 dL_law_613 dL_law_614 dL_law_615 ?_
  refine LW.callY x [.int (xs (i + 1))] (C_X7_wrong (kX)) ok_X7_wrong rfl w_1076 rfl (Nat.le_of_ble_eq_true rfl) (Nat.le_of_ble_eq_true rfl) rfl dL_law_616 (fun rY uY kY => ?_)
  obtain ⟨e0, hR'⟩ := kY
  refine LW.icmp_eq x (tgt := 1636) dL_law_619 (by decide) e0.symm ?_
  exact kk uX uY hR'
theorem case_12 (x : LX p s m meth c b L xs gx gy) (hL : L ≤ 3072) (hi : i + 6 ≤ L) (hR : Rel σ μ) (kk : ∀ σ' μ', Rel σ' μ' → LW p e s m below meth c b gx gy 1636 [(0, .ref b), (1, .ref (gad gx 16 0)), (2, .ref (gad gy 0 0)), (3, .int (nI i))] [] σ' μ') : LW p e s m below meth c b gx gy 624 [(0, .ref b), (1, .ref (gad gx 16 0)), (2, .ref (gad gy 0 0)), (3, .int (nI i))] [] σ μ := by
  refine LW.aload_n x dL_law_624 1 rfl ?_
  refine LW.arg x (j := 1) (by omega) hL (by decide) rfl rfl dL_law_625 dL_law_626 dL_law_627 dL_law_628 dL_law_629 ?_
  refine LW.arg x (j := 2) (by omega) hL (by decide) rfl rfl dL_law_630 dL_law_631 dL_law_632 dL_law_633 dL_law_634 ?_
  refine LW.arg x (j := 3) (by omega) hL (by decide) rfl rfl dL_law_635 dL_law_636 dL_law_637 dL_law_638 dL_law_639 ?_
  refine LW.callX x [.int (xs (i + 1)), .int (xs (i + 2)), .int (xs (i + 3))] (C_X6_sit (E_sit (xs (i + 1)) (xs (i + 2)) (xs (i + 3)) hR)) ok_X6_sit rfl w_371 rfl (Nat.le_of_ble_eq_true rfl) (Nat.le_of_ble_eq_true rfl) rfl dL_law_640 (fun rX uX kX => ?_)
  refine LW.aload_n x dL_law_643 2 rfl ?_
  refine LW.arg x (j := 1) (by omega) hL (by decide) rfl rfl dL_law_644 dL_law_645 dL_law_646 dL_law_647 dL_law_648 ?_
  refine LW.arg x (j := 2) (by omega) hL (by decide) rfl rfl dL_law_649 dL_law_650 dL_law_651 dL_law_652 dL_law_653 ?_
  refine LW.arg x (j := 3) (by omega) hL (by decide) rfl rfl dL_law_654 dL_law_655 dL_law_656 dL_law_657 dL_law_658 ?_
  refine LW.callY x [.int (xs (i + 1)), .int (xs (i + 2)), .int (xs (i + 3))] (C_X7_sit (kX)) ok_X7_sit rfl w_1085 rfl (Nat.le_of_ble_eq_true rfl) (Nat.le_of_ble_eq_true rfl) rfl dL_law_659 (fun rY uY kY => ?_)
  obtain ⟨e0, hR'⟩ := kY
  refine LW.icmp_eq x (tgt := 1636) dL_law_662 (by decide) e0.symm ?_
  exact kk uX uY hR'
theorem case_13 (x : LX p s m meth c b L xs gx gy) (hL : L ≤ 3072) (hi : i + 6 ≤ L) (hR : Rel σ μ) (kk : ∀ σ' μ', Rel σ' μ' → LW p e s m below meth c b gx gy 1636 [(0, .ref b), (1, .ref (gad gx 16 0)), (2, .ref (gad gy 0 0)), (3, .int (nI i))] [] σ' μ') : LW p e s m below meth c b gx gy 667 [(0, .ref b), (1, .ref (gad gx 16 0)), (2, .ref (gad gy 0 0)), (3, .int (nI i))] [] σ μ := by
  refine LW.aload_n x dL_law_667 1 rfl ?_
  refine LW.arg x (j := 1) (by omega) hL (by decide) rfl rfl dL_law_668 dL_law_669 dL_law_670 dL_law_671 dL_law_672 ?_
  refine LW.callX x [.int (xs (i + 1))] (C_X6_rise (E_rise (xs (i + 1)) hR)) ok_X6_rise rfl w_400 rfl (Nat.le_of_ble_eq_true rfl) (Nat.le_of_ble_eq_true rfl) rfl dL_law_673 (fun rX uX kX => ?_)
  refine LW.aload_n x dL_law_676 2 rfl ?_
  refine LW.arg x (j := 1) (by omega) hL (by decide) rfl rfl dL_law_677 dL_law_678 dL_law_679 dL_law_680 dL_law_681 ?_
  refine LW.callY x [.int (xs (i + 1))] (C_X7_rise (kX)) ok_X7_rise rfl w_1102 rfl (Nat.le_of_ble_eq_true rfl) (Nat.le_of_ble_eq_true rfl) rfl dL_law_682 (fun rY uY kY => ?_)
  obtain ⟨e0, hR'⟩ := kY
  refine LW.icmp_eq x (tgt := 1636) dL_law_685 (by decide) e0.symm ?_
  exact kk uX uY hR'
theorem case_14 (x : LX p s m meth c b L xs gx gy) (hL : L ≤ 3072) (hi : i + 6 ≤ L) (hR : Rel σ μ) (kk : ∀ σ' μ', Rel σ' μ' → LW p e s m below meth c b gx gy 1636 [(0, .ref b), (1, .ref (gad gx 16 0)), (2, .ref (gad gy 0 0)), (3, .int (nI i))] [] σ' μ') : LW p e s m below meth c b gx gy 690 [(0, .ref b), (1, .ref (gad gx 16 0)), (2, .ref (gad gy 0 0)), (3, .int (nI i))] [] σ μ := by
  refine LW.aload_n x dL_law_690 1 rfl ?_
  refine LW.arg x (j := 1) (by omega) hL (by decide) rfl rfl dL_law_691 dL_law_692 dL_law_693 dL_law_694 dL_law_695 ?_
  refine LW.callX x [.int (xs (i + 1))] (C_X6_where (E_where (xs (i + 1)) hR)) ok_X6_where rfl w_405 rfl (Nat.le_of_ble_eq_true rfl) (Nat.le_of_ble_eq_true rfl) rfl dL_law_696 (fun rX uX kX => ?_)
  refine LW.aload_n x dL_law_699 2 rfl ?_
  refine LW.arg x (j := 1) (by omega) hL (by decide) rfl rfl dL_law_700 dL_law_701 dL_law_702 dL_law_703 dL_law_704 ?_
  refine LW.callY x [.int (xs (i + 1))] (C_X7_where (kX)) ok_X7_where rfl w_1106 rfl (Nat.le_of_ble_eq_true rfl) (Nat.le_of_ble_eq_true rfl) rfl dL_law_705 (fun rY uY kY => ?_)
  obtain ⟨e0, hR'⟩ := kY
  refine LW.icmp_eq x (tgt := 1636) dL_law_708 (by decide) e0.symm ?_
  exact kk uX uY hR'
theorem case_15 (x : LX p s m meth c b L xs gx gy) (hL : L ≤ 3072) (hi : i + 6 ≤ L) (hR : Rel σ μ) (kk : ∀ σ' μ', Rel σ' μ' → LW p e s m below meth c b gx gy 1636 [(0, .ref b), (1, .ref (gad gx 16 0)), (2, .ref (gad gy 0 0)), (3, .int (nI i))] [] σ' μ') : LW p e s m below meth c b gx gy 713 [(0, .ref b), (1, .ref (gad gx 16 0)), (2, .ref (gad gy 0 0)), (3, .int (nI i))] [] σ μ := by
  refine LW.aload_n x dL_law_713 1 rfl ?_
  refine LW.arg x (j := 1) (by omega) hL (by decide) rfl rfl dL_law_714 dL_law_715 dL_law_716 dL_law_717 dL_law_718 ?_
  refine LW.arg x (j := 2) (by omega) hL (by decide) rfl rfl dL_law_719 dL_law_720 dL_law_721 dL_law_722 dL_law_723 ?_
  refine LW.callX x [.int (xs (i + 1)), .int (xs (i + 2))] (C_X6_may (E_may (xs (i + 1)) (xs (i + 2)) hR)) ok_X6_may rfl w_411 rfl (Nat.le_of_ble_eq_true rfl) (Nat.le_of_ble_eq_true rfl) rfl dL_law_724 (fun rX uX kX => ?_)
  refine LW.aload_n x dL_law_727 2 rfl ?_
  refine LW.arg x (j := 1) (by omega) hL (by decide) rfl rfl dL_law_728 dL_law_729 dL_law_730 dL_law_731 dL_law_732 ?_
  refine LW.arg x (j := 2) (by omega) hL (by decide) rfl rfl dL_law_733 dL_law_734 dL_law_735 dL_law_736 dL_law_737 ?_
  refine LW.callY x [.int (xs (i + 1)), .int (xs (i + 2))] (C_X7_may (kX)) ok_X7_may rfl w_1110 rfl (Nat.le_of_ble_eq_true rfl) (Nat.le_of_ble_eq_true rfl) rfl dL_law_738 (fun rY uY kY => ?_)
  obtain ⟨e0, hR'⟩ := kY
  refine LW.icmp_eq x (tgt := 1636) dL_law_741 (by decide) e0.symm ?_
  exact kk uX uY hR'
theorem case_16 (x : LX p s m meth c b L xs gx gy) (hL : L ≤ 3072) (hi : i + 6 ≤ L) (hR : Rel σ μ) (kk : ∀ σ' μ', Rel σ' μ' → LW p e s m below meth c b gx gy 1636 [(0, .ref b), (1, .ref (gad gx 16 0)), (2, .ref (gad gy 0 0)), (3, .int (nI i))] [] σ' μ') : LW p e s m below meth c b gx gy 746 [(0, .ref b), (1, .ref (gad gx 16 0)), (2, .ref (gad gy 0 0)), (3, .int (nI i))] [] σ μ := by
  refine LW.aload_n x dL_law_746 1 rfl ?_
  refine LW.arg x (j := 1) (by omega) hL (by decide) rfl rfl dL_law_747 dL_law_748 dL_law_749 dL_law_750 dL_law_751 ?_
  refine LW.arg x (j := 2) (by omega) hL (by decide) rfl rfl dL_law_752 dL_law_753 dL_law_754 dL_law_755 dL_law_756 ?_
  refine LW.callX x [.int (xs (i + 1)), .int (xs (i + 2))] (C_X6_kind (E_kind (xs (i + 1)) (xs (i + 2)) hR)) ok_X6_kind rfl w_432 rfl (Nat.le_of_ble_eq_true rfl) (Nat.le_of_ble_eq_true rfl) rfl dL_law_757 (fun rX uX kX => ?_)
  refine LW.aload_n x dL_law_760 2 rfl ?_
  refine LW.arg x (j := 1) (by omega) hL (by decide) rfl rfl dL_law_761 dL_law_762 dL_law_763 dL_law_764 dL_law_765 ?_
  refine LW.arg x (j := 2) (by omega) hL (by decide) rfl rfl dL_law_766 dL_law_767 dL_law_768 dL_law_769 dL_law_770 ?_
  refine LW.callY x [.int (xs (i + 1)), .int (xs (i + 2))] (C_X7_kind (kX)) ok_X7_kind rfl w_1118 rfl (Nat.le_of_ble_eq_true rfl) (Nat.le_of_ble_eq_true rfl) rfl dL_law_771 (fun rY uY kY => ?_)
  obtain ⟨e0, hR'⟩ := kY
  refine LW.icmp_eq x (tgt := 1636) dL_law_774 (by decide) e0.symm ?_
  exact kk uX uY hR'
theorem case_17 (x : LX p s m meth c b L xs gx gy) (hL : L ≤ 3072) (hi : i + 6 ≤ L) (hR : Rel σ μ) (kk : ∀ σ' μ', Rel σ' μ' → LW p e s m below meth c b gx gy 1636 [(0, .ref b), (1, .ref (gad gx 16 0)), (2, .ref (gad gy 0 0)), (3, .int (nI i))] [] σ' μ') : LW p e s m below meth c b gx gy 779 [(0, .ref b), (1, .ref (gad gx 16 0)), (2, .ref (gad gy 0 0)), (3, .int (nI i))] [] σ μ := by
  refine LW.aload_n x dL_law_779 1 rfl ?_
  refine LW.arg x (j := 1) (by omega) hL (by decide) rfl rfl dL_law_780 dL_law_781 dL_law_782 dL_law_783 dL_law_784 ?_
  refine LW.arg x (j := 2) (by omega) hL (by decide) rfl rfl dL_law_785 dL_law_786 dL_law_787 dL_law_788 dL_law_789 ?_
  refine LW.callX x [.int (xs (i + 1)), .int (xs (i + 2))] (C_X6_come (E_come (xs (i + 1)) (xs (i + 2)) hR)) ok_X6_come rfl w_447 rfl (Nat.le_of_ble_eq_true rfl) (Nat.le_of_ble_eq_true rfl) rfl dL_law_790 (fun rX uX kX => ?_)
  refine LW.aload_n x dL_law_793 2 rfl ?_
  refine LW.arg x (j := 1) (by omega) hL (by decide) rfl rfl dL_law_794 dL_law_795 dL_law_796 dL_law_797 dL_law_798 ?_
  refine LW.arg x (j := 2) (by omega) hL (by decide) rfl rfl dL_law_799 dL_law_800 dL_law_801 dL_law_802 dL_law_803 ?_
  refine LW.callY x [.int (xs (i + 1)), .int (xs (i + 2))] (C_X7_come (kX)) ok_X7_come rfl w_1132 rfl (Nat.le_of_ble_eq_true rfl) (Nat.le_of_ble_eq_true rfl) rfl dL_law_804 (fun rY uY kY => ?_)
  obtain ⟨e0, hR'⟩ := kY
  refine LW.icmp_eq x (tgt := 1636) dL_law_807 (by decide) e0.symm ?_
  exact kk uX uY hR'
theorem case_18 (x : LX p s m meth c b L xs gx gy) (hL : L ≤ 3072) (hi : i + 6 ≤ L) (hR : Rel σ μ) (kk : ∀ σ' μ', Rel σ' μ' → LW p e s m below meth c b gx gy 1636 [(0, .ref b), (1, .ref (gad gx 16 0)), (2, .ref (gad gy 0 0)), (3, .int (nI i))] [] σ' μ') : LW p e s m below meth c b gx gy 812 [(0, .ref b), (1, .ref (gad gx 16 0)), (2, .ref (gad gy 0 0)), (3, .int (nI i))] [] σ μ := by
  refine LW.aload_n x dL_law_812 1 rfl ?_
  refine LW.arg x (j := 1) (by omega) hL (by decide) rfl rfl dL_law_813 dL_law_814 dL_law_815 dL_law_816 dL_law_817 ?_
  refine LW.arg x (j := 2) (by omega) hL (by decide) rfl rfl dL_law_818 dL_law_819 dL_law_820 dL_law_821 dL_law_822 ?_
  refine LW.callX x [.int (xs (i + 1)), .int (xs (i + 2))] (C_X6_seatings (E_seatings (xs (i + 1)) (xs (i + 2)) hR)) ok_X6_seatings rfl w_459 rfl (Nat.le_of_ble_eq_true rfl) (Nat.le_of_ble_eq_true rfl) rfl dL_law_823 (fun rX uX kX => ?_)
  refine LW.aload_n x dL_law_826 2 rfl ?_
  refine LW.arg x (j := 1) (by omega) hL (by decide) rfl rfl dL_law_827 dL_law_828 dL_law_829 dL_law_830 dL_law_831 ?_
  refine LW.arg x (j := 2) (by omega) hL (by decide) rfl rfl dL_law_832 dL_law_833 dL_law_834 dL_law_835 dL_law_836 ?_
  refine LW.callY x [.int (xs (i + 1)), .int (xs (i + 2))] (C_X7_seatings (kX)) ok_X7_seatings rfl w_1142 rfl (Nat.le_of_ble_eq_true rfl) (Nat.le_of_ble_eq_true rfl) rfl dL_law_837 (fun rY uY kY => ?_)
  obtain ⟨e0, hR'⟩ := kY
  refine LW.icmp_eq x (tgt := 1636) dL_law_840 (by decide) e0.symm ?_
  exact kk uX uY hR'
theorem case_19 (x : LX p s m meth c b L xs gx gy) (hL : L ≤ 3072) (hi : i + 6 ≤ L) (hR : Rel σ μ) (kk : ∀ σ' μ', Rel σ' μ' → LW p e s m below meth c b gx gy 1636 [(0, .ref b), (1, .ref (gad gx 16 0)), (2, .ref (gad gy 0 0)), (3, .int (nI i))] [] σ' μ') : LW p e s m below meth c b gx gy 845 [(0, .ref b), (1, .ref (gad gx 16 0)), (2, .ref (gad gy 0 0)), (3, .int (nI i))] [] σ μ := by
  refine LW.aload_n x dL_law_845 1 rfl ?_
  refine LW.arg x (j := 1) (by omega) hL (by decide) rfl rfl dL_law_846 dL_law_847 dL_law_848 dL_law_849 dL_law_850 ?_
  refine LW.arg x (j := 2) (by omega) hL (by decide) rfl rfl dL_law_851 dL_law_852 dL_law_853 dL_law_854 dL_law_855 ?_
  refine LW.arg x (j := 3) (by omega) hL (by decide) rfl rfl dL_law_856 dL_law_857 dL_law_858 dL_law_859 dL_law_860 ?_
  refine LW.callX x [.int (xs (i + 1)), .int (xs (i + 2)), .int (xs (i + 3))] (C_X6_lay (E_lay (xs (i + 1)) (xs (i + 2)) (xs (i + 3)) hR)) ok_X6_lay rfl w_525 rfl (Nat.le_of_ble_eq_true rfl) (Nat.le_of_ble_eq_true rfl) rfl dL_law_861 (fun rX uX kX => ?_)
  refine LW.aload_n x dL_law_864 2 rfl ?_
  refine LW.arg x (j := 1) (by omega) hL (by decide) rfl rfl dL_law_865 dL_law_866 dL_law_867 dL_law_868 dL_law_869 ?_
  refine LW.arg x (j := 2) (by omega) hL (by decide) rfl rfl dL_law_870 dL_law_871 dL_law_872 dL_law_873 dL_law_874 ?_
  refine LW.arg x (j := 3) (by omega) hL (by decide) rfl rfl dL_law_875 dL_law_876 dL_law_877 dL_law_878 dL_law_879 ?_
  refine LW.callY x [.int (xs (i + 1)), .int (xs (i + 2)), .int (xs (i + 3))] (C_X7_lay (kX)) ok_X7_lay rfl w_1162 rfl (Nat.le_of_ble_eq_true rfl) (Nat.le_of_ble_eq_true rfl) rfl dL_law_880 (fun rY uY kY => ?_)
  obtain ⟨e0, hR'⟩ := kY
  refine LW.icmp_eq x (tgt := 1636) dL_law_883 (by decide) e0.symm ?_
  exact kk uX uY hR'
theorem case_20 (x : LX p s m meth c b L xs gx gy) (hL : L ≤ 3072) (hi : i + 6 ≤ L) (hR : Rel σ μ) (kk : ∀ σ' μ', Rel σ' μ' → LW p e s m below meth c b gx gy 1636 [(0, .ref b), (1, .ref (gad gx 16 0)), (2, .ref (gad gy 0 0)), (3, .int (nI i))] [] σ' μ') : LW p e s m below meth c b gx gy 888 [(0, .ref b), (1, .ref (gad gx 16 0)), (2, .ref (gad gy 0 0)), (3, .int (nI i))] [] σ μ := by
  refine LW.aload_n x dL_law_888 1 rfl ?_
  refine LW.arg x (j := 1) (by omega) hL (by decide) rfl rfl dL_law_889 dL_law_890 dL_law_891 dL_law_892 dL_law_893 ?_
  refine LW.arg x (j := 2) (by omega) hL (by decide) rfl rfl dL_law_894 dL_law_895 dL_law_896 dL_law_897 dL_law_898 ?_
  refine LW.callX x [.int (xs (i + 1)), .int (xs (i + 2))] (C_X6_most (E_most (xs (i + 1)) (xs (i + 2)) hR)) ok_X6_most rfl w_540 rfl (Nat.le_of_ble_eq_true rfl) (Nat.le_of_ble_eq_true rfl) rfl dL_law_899 (fun rX uX kX => ?_)
  refine LW.aload_n x dL_law_902 2 rfl ?_
  refine LW.arg x (j := 1) (by omega) hL (by decide) rfl rfl dL_law_903 dL_law_904 dL_law_905 dL_law_906 dL_law_907 ?_
  refine LW.arg x (j := 2) (by omega) hL (by decide) rfl rfl dL_law_908 dL_law_909 dL_law_910 dL_law_911 dL_law_912 ?_
  refine LW.callY x [.int (xs (i + 1)), .int (xs (i + 2))] (C_X7_most (kX)) ok_X7_most rfl w_1170 rfl (Nat.le_of_ble_eq_true rfl) (Nat.le_of_ble_eq_true rfl) rfl dL_law_913 (fun rY uY kY => ?_)
  obtain ⟨e0, hR'⟩ := kY
  refine LW.icmp_eq x (tgt := 1636) dL_law_916 (by decide) e0.symm ?_
  exact kk uX uY hR'
theorem case_21 (x : LX p s m meth c b L xs gx gy) (hL : L ≤ 3072) (hi : i + 6 ≤ L) (hR : Rel σ μ) (kk : ∀ σ' μ', Rel σ' μ' → LW p e s m below meth c b gx gy 1636 [(0, .ref b), (1, .ref (gad gx 16 0)), (2, .ref (gad gy 0 0)), (3, .int (nI i))] [] σ' μ') : LW p e s m below meth c b gx gy 921 [(0, .ref b), (1, .ref (gad gx 16 0)), (2, .ref (gad gy 0 0)), (3, .int (nI i))] [] σ μ := by
  refine LW.aload_n x dL_law_921 1 rfl ?_
  refine LW.arg x (j := 1) (by omega) hL (by decide) rfl rfl dL_law_922 dL_law_923 dL_law_924 dL_law_925 dL_law_926 ?_
  refine LW.arg x (j := 2) (by omega) hL (by decide) rfl rfl dL_law_927 dL_law_928 dL_law_929 dL_law_930 dL_law_931 ?_
  refine LW.callX x [.int (xs (i + 1)), .int (xs (i + 2))] (C_X6_frees (E_frees (xs (i + 1)) (xs (i + 2)) hR)) ok_X6_frees rfl w_544 rfl (Nat.le_of_ble_eq_true rfl) (Nat.le_of_ble_eq_true rfl) rfl dL_law_932 (fun rX uX kX => ?_)
  refine LW.aload_n x dL_law_935 2 rfl ?_
  refine LW.arg x (j := 1) (by omega) hL (by decide) rfl rfl dL_law_936 dL_law_937 dL_law_938 dL_law_939 dL_law_940 ?_
  refine LW.arg x (j := 2) (by omega) hL (by decide) rfl rfl dL_law_941 dL_law_942 dL_law_943 dL_law_944 dL_law_945 ?_
  refine LW.callY x [.int (xs (i + 1)), .int (xs (i + 2))] (C_X7_frees (kX)) ok_X7_frees rfl w_1174 rfl (Nat.le_of_ble_eq_true rfl) (Nat.le_of_ble_eq_true rfl) rfl dL_law_946 (fun rY uY kY => ?_)
  obtain ⟨e0, hR'⟩ := kY
  refine LW.icmp_eq x (tgt := 1636) dL_law_949 (by decide) e0.symm ?_
  exact kk uX uY hR'
theorem case_22 (x : LX p s m meth c b L xs gx gy) (hL : L ≤ 3072) (hi : i + 6 ≤ L) (hR : Rel σ μ) (kk : ∀ σ' μ', Rel σ' μ' → LW p e s m below meth c b gx gy 1636 [(0, .ref b), (1, .ref (gad gx 16 0)), (2, .ref (gad gy 0 0)), (3, .int (nI i))] [] σ' μ') : LW p e s m below meth c b gx gy 954 [(0, .ref b), (1, .ref (gad gx 16 0)), (2, .ref (gad gy 0 0)), (3, .int (nI i))] [] σ μ := by
  refine LW.aload_n x dL_law_954 1 rfl ?_
  refine LW.arg x (j := 1) (by omega) hL (by decide) rfl rfl dL_law_955 dL_law_956 dL_law_957 dL_law_958 dL_law_959 ?_
  refine LW.arg x (j := 2) (by omega) hL (by decide) rfl rfl dL_law_960 dL_law_961 dL_law_962 dL_law_963 dL_law_964 ?_
  refine LW.arg x (j := 3) (by omega) hL (by decide) rfl rfl dL_law_965 dL_law_966 dL_law_967 dL_law_968 dL_law_969 ?_
  refine LW.arg x (j := 4) (by omega) hL (by decide) rfl rfl dL_law_970 dL_law_971 dL_law_972 dL_law_973 dL_law_974 ?_
  refine LW.callX x [.int (xs (i + 1)), .int (xs (i + 2)), .int (xs (i + 3)), .int (xs (i + 4))] (C_X6_often (E_often (xs (i + 1)) (xs (i + 2)) (xs (i + 3)) (xs (i + 4)) hR)) ok_X6_often rfl w_553 rfl (Nat.le_of_ble_eq_true rfl) (Nat.le_of_ble_eq_true rfl) rfl dL_law_975 (fun rX uX kX => ?_)
  refine LW.aload_n x dL_law_978 2 rfl ?_
  refine LW.arg x (j := 1) (by omega) hL (by decide) rfl rfl dL_law_979 dL_law_980 dL_law_981 dL_law_982 dL_law_983 ?_
  refine LW.arg x (j := 2) (by omega) hL (by decide) rfl rfl dL_law_984 dL_law_985 dL_law_986 dL_law_987 dL_law_988 ?_
  refine LW.arg x (j := 3) (by omega) hL (by decide) rfl rfl dL_law_989 dL_law_990 dL_law_991 dL_law_992 dL_law_993 ?_
  refine LW.arg x (j := 4) (by omega) hL (by decide) rfl rfl dL_law_994 dL_law_995 dL_law_996 dL_law_997 dL_law_998 ?_
  refine LW.callY x [.int (xs (i + 1)), .int (xs (i + 2)), .int (xs (i + 3)), .int (xs (i + 4))] (C_X7_often (kX)) ok_X7_often rfl w_1178 rfl (Nat.le_of_ble_eq_true rfl) (Nat.le_of_ble_eq_true rfl) rfl dL_law_999 (fun rY uY kY => ?_)
  obtain ⟨e0, hR'⟩ := kY
  refine LW.icmp_eq x (tgt := 1636) dL_law_1002 (by decide) e0.symm ?_
  exact kk uX uY hR'
theorem case_23 (x : LX p s m meth c b L xs gx gy) (hL : L ≤ 3072) (hi : i + 6 ≤ L) (hR : Rel σ μ) (kk : ∀ σ' μ', Rel σ' μ' → LW p e s m below meth c b gx gy 1636 [(0, .ref b), (1, .ref (gad gx 16 0)), (2, .ref (gad gy 0 0)), (3, .int (nI i))] [] σ' μ') : LW p e s m below meth c b gx gy 1007 [(0, .ref b), (1, .ref (gad gx 16 0)), (2, .ref (gad gy 0 0)), (3, .int (nI i))] [] σ μ := by
  refine LW.aload_n x dL_law_1007 1 rfl ?_
  refine LW.arg x (j := 1) (by omega) hL (by decide) rfl rfl dL_law_1008 dL_law_1009 dL_law_1010 dL_law_1011 dL_law_1012 ?_
  refine LW.arg x (j := 2) (by omega) hL (by decide) rfl rfl dL_law_1013 dL_law_1014 dL_law_1015 dL_law_1016 dL_law_1017 ?_
  refine LW.callX x [.int (xs (i + 1)), .int (xs (i + 2))] (C_X6_needs (E_needs (xs (i + 1)) (xs (i + 2)) hR)) ok_X6_needs rfl w_561 rfl (Nat.le_of_ble_eq_true rfl) (Nat.le_of_ble_eq_true rfl) rfl dL_law_1018 (fun rX uX kX => ?_)
  refine LW.aload_n x dL_law_1021 2 rfl ?_
  refine LW.arg x (j := 1) (by omega) hL (by decide) rfl rfl dL_law_1022 dL_law_1023 dL_law_1024 dL_law_1025 dL_law_1026 ?_
  refine LW.arg x (j := 2) (by omega) hL (by decide) rfl rfl dL_law_1027 dL_law_1028 dL_law_1029 dL_law_1030 dL_law_1031 ?_
  refine LW.callY x [.int (xs (i + 1)), .int (xs (i + 2))] (C_X7_needs (kX)) ok_X7_needs rfl w_1182 rfl (Nat.le_of_ble_eq_true rfl) (Nat.le_of_ble_eq_true rfl) rfl dL_law_1032 (fun rY uY kY => ?_)
  obtain ⟨e0, hR'⟩ := kY
  refine LW.icmp_eq x (tgt := 1636) dL_law_1035 (by decide) e0.symm ?_
  exact kk uX uY hR'
theorem case_24 (x : LX p s m meth c b L xs gx gy) (hL : L ≤ 3072) (hi : i + 6 ≤ L) (hR : Rel σ μ) (kk : ∀ σ' μ', Rel σ' μ' → LW p e s m below meth c b gx gy 1636 [(0, .ref b), (1, .ref (gad gx 16 0)), (2, .ref (gad gy 0 0)), (3, .int (nI i))] [] σ' μ') : LW p e s m below meth c b gx gy 1040 [(0, .ref b), (1, .ref (gad gx 16 0)), (2, .ref (gad gy 0 0)), (3, .int (nI i))] [] σ μ := by
  refine LW.aload_n x dL_law_1040 1 rfl ?_
  refine LW.arg x (j := 1) (by omega) hL (by decide) rfl rfl dL_law_1041 dL_law_1042 dL_law_1043 dL_law_1044 dL_law_1045 ?_
  refine LW.callX x [.int (xs (i + 1))] (C_X6_gain (E_gain (xs (i + 1)) hR)) ok_X6_gain rfl w_566 rfl (Nat.le_of_ble_eq_true rfl) (Nat.le_of_ble_eq_true rfl) rfl dL_law_1046 (fun rX uX kX => ?_)
  refine LW.aload_n x dL_law_1049 2 rfl ?_
  refine LW.arg x (j := 1) (by omega) hL (by decide) rfl rfl dL_law_1050 dL_law_1051 dL_law_1052 dL_law_1053 dL_law_1054 ?_
  refine LW.callY x [.int (xs (i + 1))] (C_X7_gain (kX)) ok_X7_gain rfl w_1186 rfl (Nat.le_of_ble_eq_true rfl) (Nat.le_of_ble_eq_true rfl) rfl dL_law_1055 (fun rY uY kY => ?_)
  obtain ⟨e0, hR'⟩ := kY
  refine LW.icmp_eq x (tgt := 1636) dL_law_1058 (by decide) e0.symm ?_
  exact kk uX uY hR'
theorem case_25 (x : LX p s m meth c b L xs gx gy) (hL : L ≤ 3072) (hi : i + 6 ≤ L) (hR : Rel σ μ) (kk : ∀ σ' μ', Rel σ' μ' → LW p e s m below meth c b gx gy 1636 [(0, .ref b), (1, .ref (gad gx 16 0)), (2, .ref (gad gy 0 0)), (3, .int (nI i))] [] σ' μ') : LW p e s m below meth c b gx gy 1063 [(0, .ref b), (1, .ref (gad gx 16 0)), (2, .ref (gad gy 0 0)), (3, .int (nI i))] [] σ μ := by
  refine LW.aload_n x dL_law_1063 1 rfl ?_
  refine LW.arg x (j := 1) (by omega) hL (by decide) rfl rfl dL_law_1064 dL_law_1065 dL_law_1066 dL_law_1067 dL_law_1068 ?_
  refine LW.callX x [.int (xs (i + 1))] (C_X6_worth (E_worth (xs (i + 1)) hR)) ok_X6_worth rfl w_583 rfl (Nat.le_of_ble_eq_true rfl) (Nat.le_of_ble_eq_true rfl) rfl dL_law_1069 (fun rX uX kX => ?_)
  refine LW.aload_n x dL_law_1072 2 rfl ?_
  refine LW.arg x (j := 1) (by omega) hL (by decide) rfl rfl dL_law_1073 dL_law_1074 dL_law_1075 dL_law_1076 dL_law_1077 ?_
  refine LW.callY x [.int (xs (i + 1))] (C_X7_worth (kX)) ok_X7_worth rfl w_1194 rfl (Nat.le_of_ble_eq_true rfl) (Nat.le_of_ble_eq_true rfl) rfl dL_law_1078 (fun rY uY kY => ?_)
  obtain ⟨e0, hR'⟩ := kY
  refine LW.icmp_eq x (tgt := 1636) dL_law_1081 (by decide) e0.symm ?_
  exact kk uX uY hR'
theorem case_26 (x : LX p s m meth c b L xs gx gy) (hL : L ≤ 3072) (hi : i + 6 ≤ L) (hR : Rel σ μ) (kk : ∀ σ' μ', Rel σ' μ' → LW p e s m below meth c b gx gy 1636 [(0, .ref b), (1, .ref (gad gx 16 0)), (2, .ref (gad gy 0 0)), (3, .int (nI i))] [] σ' μ') : LW p e s m below meth c b gx gy 1086 [(0, .ref b), (1, .ref (gad gx 16 0)), (2, .ref (gad gy 0 0)), (3, .int (nI i))] [] σ μ := by
  refine LW.aload_n x dL_law_1086 1 rfl ?_
  refine LW.arg x (j := 1) (by omega) hL (by decide) rfl rfl dL_law_1087 dL_law_1088 dL_law_1089 dL_law_1090 dL_law_1091 ?_
  refine LW.callX x [.int (xs (i + 1))] (C_X6_exchange (E_exchange (xs (i + 1)) hR)) ok_X6_exchange rfl w_587 rfl (Nat.le_of_ble_eq_true rfl) (Nat.le_of_ble_eq_true rfl) rfl dL_law_1092 (fun rX uX kX => ?_)
  refine LW.aload_n x dL_law_1095 2 rfl ?_
  refine LW.arg x (j := 1) (by omega) hL (by decide) rfl rfl dL_law_1096 dL_law_1097 dL_law_1098 dL_law_1099 dL_law_1100 ?_
  refine LW.callY x [.int (xs (i + 1))] (C_X7_exchange (kX)) ok_X7_exchange rfl w_1198 rfl (Nat.le_of_ble_eq_true rfl) (Nat.le_of_ble_eq_true rfl) rfl dL_law_1101 (fun rY uY kY => ?_)
  obtain ⟨e0, hR'⟩ := kY
  refine LW.icmp_eq x (tgt := 1636) dL_law_1104 (by decide) e0.symm ?_
  exact kk uX uY hR'
theorem case_27 (x : LX p s m meth c b L xs gx gy) (hL : L ≤ 3072) (hi : i + 6 ≤ L) (hR : Rel σ μ) (kk : ∀ σ' μ', Rel σ' μ' → LW p e s m below meth c b gx gy 1636 [(0, .ref b), (1, .ref (gad gx 16 0)), (2, .ref (gad gy 0 0)), (3, .int (nI i))] [] σ' μ') : LW p e s m below meth c b gx gy 1109 [(0, .ref b), (1, .ref (gad gx 16 0)), (2, .ref (gad gy 0 0)), (3, .int (nI i))] [] σ μ := by
  refine LW.aload_n x dL_law_1109 1 rfl ?_
  refine LW.arg x (j := 1) (by omega) hL (by decide) rfl rfl dL_law_1110 dL_law_1111 dL_law_1112 dL_law_1113 dL_law_1114 ?_
  refine LW.callX x [.int (xs (i + 1))] (C_X6_shows (E_shows (xs (i + 1)) hR)) ok_X6_shows rfl w_595 rfl (Nat.le_of_ble_eq_true rfl) (Nat.le_of_ble_eq_true rfl) rfl dL_law_1115 (fun rX uX kX => ?_)
  refine LW.aload_n x dL_law_1118 2 rfl ?_
  refine LW.arg x (j := 1) (by omega) hL (by decide) rfl rfl dL_law_1119 dL_law_1120 dL_law_1121 dL_law_1122 dL_law_1123 ?_
  refine LW.callY x [.int (xs (i + 1))] (C_X7_shows (kX)) ok_X7_shows rfl w_1214 rfl (Nat.le_of_ble_eq_true rfl) (Nat.le_of_ble_eq_true rfl) rfl dL_law_1124 (fun rY uY kY => ?_)
  obtain ⟨e0, hR'⟩ := kY
  refine LW.icmp_eq x (tgt := 1636) dL_law_1127 (by decide) e0.symm ?_
  exact kk uX uY hR'
theorem case_28 (x : LX p s m meth c b L xs gx gy) (hL : L ≤ 3072) (hi : i + 6 ≤ L) (hR : Rel σ μ) (kk : ∀ σ' μ', Rel σ' μ' → LW p e s m below meth c b gx gy 1636 [(0, .ref b), (1, .ref (gad gx 16 0)), (2, .ref (gad gy 0 0)), (3, .int (nI i))] [] σ' μ') : LW p e s m below meth c b gx gy 1132 [(0, .ref b), (1, .ref (gad gx 16 0)), (2, .ref (gad gy 0 0)), (3, .int (nI i))] [] σ μ := by
  refine LW.aload_n x dL_law_1132 1 rfl ?_
  refine LW.arg x (j := 1) (by omega) hL (by decide) rfl rfl dL_law_1133 dL_law_1134 dL_law_1135 dL_law_1136 dL_law_1137 ?_
  refine LW.arg x (j := 2) (by omega) hL (by decide) rfl rfl dL_law_1138 dL_law_1139 dL_law_1140 dL_law_1141 dL_law_1142 ?_
  refine LW.callX x [.int (xs (i + 1)), .int (xs (i + 2))] (C_X6_course (E_course (xs (i + 1)) (xs (i + 2)) hR)) ok_X6_course rfl w_604 rfl (Nat.le_of_ble_eq_true rfl) (Nat.le_of_ble_eq_true rfl) rfl dL_law_1143 (fun rX uX kX => ?_)
  refine LW.aload_n x dL_law_1146 2 rfl ?_
  refine LW.arg x (j := 1) (by omega) hL (by decide) rfl rfl dL_law_1147 dL_law_1148 dL_law_1149 dL_law_1150 dL_law_1151 ?_
  refine LW.arg x (j := 2) (by omega) hL (by decide) rfl rfl dL_law_1152 dL_law_1153 dL_law_1154 dL_law_1155 dL_law_1156 ?_
  refine LW.callY x [.int (xs (i + 1)), .int (xs (i + 2))] (C_X7_course (kX)) ok_X7_course rfl w_1218 rfl (Nat.le_of_ble_eq_true rfl) (Nat.le_of_ble_eq_true rfl) rfl dL_law_1157 (fun rY uY kY => ?_)
  obtain ⟨e0, hR'⟩ := kY
  refine LW.icmp_eq x (tgt := 1636) dL_law_1160 (by decide) e0.symm ?_
  exact kk uX uY hR'
theorem case_29 (x : LX p s m meth c b L xs gx gy) (hL : L ≤ 3072) (hi : i + 6 ≤ L) (hR : Rel σ μ) (kk : ∀ σ' μ', Rel σ' μ' → LW p e s m below meth c b gx gy 1636 [(0, .ref b), (1, .ref (gad gx 16 0)), (2, .ref (gad gy 0 0)), (3, .int (nI i))] [] σ' μ') : LW p e s m below meth c b gx gy 1165 [(0, .ref b), (1, .ref (gad gx 16 0)), (2, .ref (gad gy 0 0)), (3, .int (nI i))] [] σ μ := by
  refine LW.aload_n x dL_law_1165 1 rfl ?_
  refine LW.arg x (j := 1) (by omega) hL (by decide) rfl rfl dL_law_1166 dL_law_1167 dL_law_1168 dL_law_1169 dL_law_1170 ?_
  refine LW.callX x [.int (xs (i + 1))] (C_X6_turns (E_turns (xs (i + 1)) hR)) ok_X6_turns rfl w_613 rfl (Nat.le_of_ble_eq_true rfl) (Nat.le_of_ble_eq_true rfl) rfl dL_law_1171 (fun rX uX kX => ?_)
  refine LW.aload_n x dL_law_1174 2 rfl ?_
  refine LW.arg x (j := 1) (by omega) hL (by decide) rfl rfl dL_law_1175 dL_law_1176 dL_law_1177 dL_law_1178 dL_law_1179 ?_
  refine LW.callY x [.int (xs (i + 1))] (C_X7_turns (kX)) ok_X7_turns rfl w_1226 rfl (Nat.le_of_ble_eq_true rfl) (Nat.le_of_ble_eq_true rfl) rfl dL_law_1180 (fun rY uY kY => ?_)
  obtain ⟨e0, hR'⟩ := kY
  refine LW.icmp_eq x (tgt := 1636) dL_law_1183 (by decide) e0.symm ?_
  exact kk uX uY hR'
theorem case_30 (x : LX p s m meth c b L xs gx gy) (hL : L ≤ 3072) (hi : i + 6 ≤ L) (hR : Rel σ μ) (kk : ∀ σ' μ', Rel σ' μ' → LW p e s m below meth c b gx gy 1636 [(0, .ref b), (1, .ref (gad gx 16 0)), (2, .ref (gad gy 0 0)), (3, .int (nI i))] [] σ' μ') : LW p e s m below meth c b gx gy 1188 [(0, .ref b), (1, .ref (gad gx 16 0)), (2, .ref (gad gy 0 0)), (3, .int (nI i))] [] σ μ := by
  refine LW.aload_n x dL_law_1188 1 rfl ?_
  refine LW.arg x (j := 1) (by omega) hL (by decide) rfl rfl dL_law_1189 dL_law_1190 dL_law_1191 dL_law_1192 dL_law_1193 ?_
  refine LW.callX x [.int (xs (i + 1))] (C_X6_seed (E_seed (xs (i + 1)) hR)) ok_X6_seed rfl w_617 rfl (Nat.le_of_ble_eq_true rfl) (Nat.le_of_ble_eq_true rfl) rfl dL_law_1194 (fun rX uX kX => ?_)
  refine LW.aload_n x dL_law_1197 2 rfl ?_
  refine LW.arg x (j := 1) (by omega) hL (by decide) rfl rfl dL_law_1198 dL_law_1199 dL_law_1200 dL_law_1201 dL_law_1202 ?_
  refine LW.callY x [.int (xs (i + 1))] (C_X7_seed (kX)) ok_X7_seed rfl w_1230 rfl (Nat.le_of_ble_eq_true rfl) (Nat.le_of_ble_eq_true rfl) rfl dL_law_1203 (fun rY uY kY => ?_)
  obtain ⟨e0, hR'⟩ := kY
  refine LW.icmp_eq x (tgt := 1636) dL_law_1206 (by decide) e0.symm ?_
  exact kk uX uY hR'
theorem case_31 (x : LX p s m meth c b L xs gx gy) (hL : L ≤ 3072) (hi : i + 6 ≤ L) (hR : Rel σ μ) (kk : ∀ σ' μ', Rel σ' μ' → LW p e s m below meth c b gx gy 1636 [(0, .ref b), (1, .ref (gad gx 16 0)), (2, .ref (gad gy 0 0)), (3, .int (nI i))] [] σ' μ') : LW p e s m below meth c b gx gy 1211 [(0, .ref b), (1, .ref (gad gx 16 0)), (2, .ref (gad gy 0 0)), (3, .int (nI i))] [] σ μ := by
  refine LW.aload_n x dL_law_1211 1 rfl ?_
  refine LW.arg x (j := 1) (by omega) hL (by decide) rfl rfl dL_law_1212 dL_law_1213 dL_law_1214 dL_law_1215 dL_law_1216 ?_
  refine LW.arg x (j := 2) (by omega) hL (by decide) rfl rfl dL_law_1217 dL_law_1218 dL_law_1219 dL_law_1220 dL_law_1221 ?_
  refine LW.callX x [.int (xs (i + 1)), .int (xs (i + 2))] (C_X6_feed (E_feed (xs (i + 1)) (xs (i + 2)) hR)) ok_X6_feed rfl w_621 rfl (Nat.le_of_ble_eq_true rfl) (Nat.le_of_ble_eq_true rfl) rfl dL_law_1222 (fun rX uX kX => ?_)
  refine LW.aload_n x dL_law_1225 2 rfl ?_
  refine LW.arg x (j := 1) (by omega) hL (by decide) rfl rfl dL_law_1226 dL_law_1227 dL_law_1228 dL_law_1229 dL_law_1230 ?_
  refine LW.arg x (j := 2) (by omega) hL (by decide) rfl rfl dL_law_1231 dL_law_1232 dL_law_1233 dL_law_1234 dL_law_1235 ?_
  refine LW.callY x [.int (xs (i + 1)), .int (xs (i + 2))] (C_X7_feed (kX)) ok_X7_feed rfl w_1234 rfl (Nat.le_of_ble_eq_true rfl) (Nat.le_of_ble_eq_true rfl) rfl dL_law_1236 (fun rY uY kY => ?_)
  obtain ⟨e0, hR'⟩ := kY
  refine LW.icmp_eq x (tgt := 1636) dL_law_1239 (by decide) e0.symm ?_
  exact kk uX uY hR'
theorem case_32 (x : LX p s m meth c b L xs gx gy) (hL : L ≤ 3072) (hi : i + 6 ≤ L) (hR : Rel σ μ) (kk : ∀ σ' μ', Rel σ' μ' → LW p e s m below meth c b gx gy 1636 [(0, .ref b), (1, .ref (gad gx 16 0)), (2, .ref (gad gy 0 0)), (3, .int (nI i))] [] σ' μ') : LW p e s m below meth c b gx gy 1244 [(0, .ref b), (1, .ref (gad gx 16 0)), (2, .ref (gad gy 0 0)), (3, .int (nI i))] [] σ μ := by
  refine LW.aload_n x dL_law_1244 1 rfl ?_
  refine LW.callX x [] (C_X6_wipe (E_wipe hR)) ok_X6_wipe rfl w_625 rfl (Nat.le_of_ble_eq_true rfl) (Nat.le_of_ble_eq_true rfl) rfl dL_law_1245 (fun rX uX kX => ?_)
  refine LW.aload_n x dL_law_1248 2 rfl ?_
  refine LW.callY x [] (C_X7_wipe (kX)) ok_X7_wipe rfl w_1238 rfl (Nat.le_of_ble_eq_true rfl) (Nat.le_of_ble_eq_true rfl) rfl dL_law_1249 (fun rY uY kY => ?_)
  obtain ⟨e0, hR'⟩ := kY
  refine LW.icmp_eq x (tgt := 1636) dL_law_1252 (by decide) e0.symm ?_
  exact kk uX uY hR'
theorem case_33 (x : LX p s m meth c b L xs gx gy) (hL : L ≤ 3072) (hi : i + 6 ≤ L) (hR : Rel σ μ) (kk : ∀ σ' μ', Rel σ' μ' → LW p e s m below meth c b gx gy 1636 [(0, .ref b), (1, .ref (gad gx 16 0)), (2, .ref (gad gy 0 0)), (3, .int (nI i))] [] σ' μ') : LW p e s m below meth c b gx gy 1257 [(0, .ref b), (1, .ref (gad gx 16 0)), (2, .ref (gad gy 0 0)), (3, .int (nI i))] [] σ μ := by
  refine LW.aload_n x dL_law_1257 1 rfl ?_
  refine LW.callX x [] (C_X6_text (E_text hR)) ok_X6_text rfl w_629 rfl (Nat.le_of_ble_eq_true rfl) (Nat.le_of_ble_eq_true rfl) rfl dL_law_1258 (fun rX uX kX => ?_)
  refine LW.aload_n x dL_law_1261 2 rfl ?_
  refine LW.callY x [] (C_X7_text (kX)) ok_X7_text rfl w_1242 rfl (Nat.le_of_ble_eq_true rfl) (Nat.le_of_ble_eq_true rfl) rfl dL_law_1262 (fun rY uY kY => ?_)
  obtain ⟨e0, hR'⟩ := kY
  refine LW.icmp_eq x (tgt := 1636) dL_law_1265 (by decide) e0.symm ?_
  exact kk uX uY hR'
theorem case_34 (x : LX p s m meth c b L xs gx gy) (hL : L ≤ 3072) (hi : i + 6 ≤ L) (hR : Rel σ μ) (kk : ∀ σ' μ', Rel σ' μ' → LW p e s m below meth c b gx gy 1636 [(0, .ref b), (1, .ref (gad gx 16 0)), (2, .ref (gad gy 0 0)), (3, .int (nI i))] [] σ' μ') : LW p e s m below meth c b gx gy 1270 [(0, .ref b), (1, .ref (gad gx 16 0)), (2, .ref (gad gy 0 0)), (3, .int (nI i))] [] σ μ := by
  refine LW.aload_n x dL_law_1270 1 rfl ?_
  refine LW.arg x (j := 1) (by omega) hL (by decide) rfl rfl dL_law_1271 dL_law_1272 dL_law_1273 dL_law_1274 dL_law_1275 ?_
  refine LW.arg x (j := 2) (by omega) hL (by decide) rfl rfl dL_law_1276 dL_law_1277 dL_law_1278 dL_law_1279 dL_law_1280 ?_
  refine LW.callX x [.int (xs (i + 1)), .int (xs (i + 2))] (C_X6_hold (E_hold (xs (i + 1)) (xs (i + 2)) hR)) ok_X6_hold rfl w_758 rfl (Nat.le_of_ble_eq_true rfl) (Nat.le_of_ble_eq_true rfl) rfl dL_law_1281 (fun rX uX kX => ?_)
  refine LW.aload_n x dL_law_1284 2 rfl ?_
  refine LW.arg x (j := 1) (by omega) hL (by decide) rfl rfl dL_law_1285 dL_law_1286 dL_law_1287 dL_law_1288 dL_law_1289 ?_
  refine LW.arg x (j := 2) (by omega) hL (by decide) rfl rfl dL_law_1290 dL_law_1291 dL_law_1292 dL_law_1293 dL_law_1294 ?_
  refine LW.callY x [.int (xs (i + 1)), .int (xs (i + 2))] (C_X7_hold (kX)) ok_X7_hold rfl w_1313 rfl (Nat.le_of_ble_eq_true rfl) (Nat.le_of_ble_eq_true rfl) rfl dL_law_1295 (fun rY uY kY => ?_)
  obtain ⟨e0, hR'⟩ := kY
  refine LW.icmp_eq x (tgt := 1636) dL_law_1298 (by decide) e0.symm ?_
  exact kk uX uY hR'
theorem case_35 (x : LX p s m meth c b L xs gx gy) (hL : L ≤ 3072) (hi : i + 6 ≤ L) (hR : Rel σ μ) (kk : ∀ σ' μ', Rel σ' μ' → LW p e s m below meth c b gx gy 1636 [(0, .ref b), (1, .ref (gad gx 16 0)), (2, .ref (gad gy 0 0)), (3, .int (nI i))] [] σ' μ') : LW p e s m below meth c b gx gy 1303 [(0, .ref b), (1, .ref (gad gx 16 0)), (2, .ref (gad gy 0 0)), (3, .int (nI i))] [] σ μ := by
  refine LW.aload_n x dL_law_1303 1 rfl ?_
  refine LW.arg x (j := 1) (by omega) hL (by decide) rfl rfl dL_law_1304 dL_law_1305 dL_law_1306 dL_law_1307 dL_law_1308 ?_
  refine LW.arg x (j := 2) (by omega) hL (by decide) rfl rfl dL_law_1309 dL_law_1310 dL_law_1311 dL_law_1312 dL_law_1313 ?_
  refine LW.callX x [.int (xs (i + 1)), .int (xs (i + 2))] (C_X6_as (E_as (xs (i + 1)) (xs (i + 2)) hR)) ok_X6_as rfl w_765 rfl (Nat.le_of_ble_eq_true rfl) (Nat.le_of_ble_eq_true rfl) rfl dL_law_1314 (fun rX uX kX => ?_)
  refine LW.aload_n x dL_law_1317 2 rfl ?_
  refine LW.arg x (j := 1) (by omega) hL (by decide) rfl rfl dL_law_1318 dL_law_1319 dL_law_1320 dL_law_1321 dL_law_1322 ?_
  refine LW.arg x (j := 2) (by omega) hL (by decide) rfl rfl dL_law_1323 dL_law_1324 dL_law_1325 dL_law_1326 dL_law_1327 ?_
  refine LW.callY x [.int (xs (i + 1)), .int (xs (i + 2))] (C_X7_as (kX)) ok_X7_as rfl w_1318 rfl (Nat.le_of_ble_eq_true rfl) (Nat.le_of_ble_eq_true rfl) rfl dL_law_1328 (fun rY uY kY => ?_)
  obtain ⟨e0, hR'⟩ := kY
  refine LW.icmp_eq x (tgt := 1636) dL_law_1331 (by decide) e0.symm ?_
  exact kk uX uY hR'
theorem case_36 (x : LX p s m meth c b L xs gx gy) (hL : L ≤ 3072) (hi : i + 6 ≤ L) (hR : Rel σ μ) (kk : ∀ σ' μ', Rel σ' μ' → LW p e s m below meth c b gx gy 1636 [(0, .ref b), (1, .ref (gad gx 16 0)), (2, .ref (gad gy 0 0)), (3, .int (nI i))] [] σ' μ') : LW p e s m below meth c b gx gy 1336 [(0, .ref b), (1, .ref (gad gx 16 0)), (2, .ref (gad gy 0 0)), (3, .int (nI i))] [] σ μ := by
  refine LW.aload_n x dL_law_1336 1 rfl ?_
  refine LW.arg x (j := 1) (by omega) hL (by decide) rfl rfl dL_law_1337 dL_law_1338 dL_law_1339 dL_law_1340 dL_law_1341 ?_
  refine LW.arg x (j := 2) (by omega) hL (by decide) rfl rfl dL_law_1342 dL_law_1343 dL_law_1344 dL_law_1345 dL_law_1346 ?_
  refine LW.arg x (j := 3) (by omega) hL (by decide) rfl rfl dL_law_1347 dL_law_1348 dL_law_1349 dL_law_1350 dL_law_1351 ?_
  refine LW.callX x [.int (xs (i + 1)), .int (xs (i + 2)), .int (xs (i + 3))] (C_X6_sheet (E_sheet (xs (i + 1)) (xs (i + 2)) (xs (i + 3)) hR)) ok_X6_sheet rfl w_774 rfl (Nat.le_of_ble_eq_true rfl) (Nat.le_of_ble_eq_true rfl) rfl dL_law_1352 (fun rX uX kX => ?_)
  refine LW.aload_n x dL_law_1355 2 rfl ?_
  refine LW.arg x (j := 1) (by omega) hL (by decide) rfl rfl dL_law_1356 dL_law_1357 dL_law_1358 dL_law_1359 dL_law_1360 ?_
  refine LW.arg x (j := 2) (by omega) hL (by decide) rfl rfl dL_law_1361 dL_law_1362 dL_law_1363 dL_law_1364 dL_law_1365 ?_
  refine LW.arg x (j := 3) (by omega) hL (by decide) rfl rfl dL_law_1366 dL_law_1367 dL_law_1368 dL_law_1369 dL_law_1370 ?_
  refine LW.callY x [.int (xs (i + 1)), .int (xs (i + 2)), .int (xs (i + 3))] (C_X7_sheet (kX)) ok_X7_sheet rfl w_1327 rfl (Nat.le_of_ble_eq_true rfl) (Nat.le_of_ble_eq_true rfl) rfl dL_law_1371 (fun rY uY kY => ?_)
  obtain ⟨e0, hR'⟩ := kY
  refine LW.icmp_eq x (tgt := 1636) dL_law_1374 (by decide) e0.symm ?_
  exact kk uX uY hR'
theorem case_37 (x : LX p s m meth c b L xs gx gy) (hL : L ≤ 3072) (hi : i + 6 ≤ L) (hR : Rel σ μ) (kk : ∀ σ' μ', Rel σ' μ' → LW p e s m below meth c b gx gy 1636 [(0, .ref b), (1, .ref (gad gx 16 0)), (2, .ref (gad gy 0 0)), (3, .int (nI i))] [] σ' μ') : LW p e s m below meth c b gx gy 1379 [(0, .ref b), (1, .ref (gad gx 16 0)), (2, .ref (gad gy 0 0)), (3, .int (nI i))] [] σ μ := by
  refine LW.aload_n x dL_law_1379 1 rfl ?_
  refine LW.arg x (j := 1) (by omega) hL (by decide) rfl rfl dL_law_1380 dL_law_1381 dL_law_1382 dL_law_1383 dL_law_1384 ?_
  refine LW.arg x (j := 2) (by omega) hL (by decide) rfl rfl dL_law_1385 dL_law_1386 dL_law_1387 dL_law_1388 dL_law_1389 ?_
  refine LW.arg x (j := 3) (by omega) hL (by decide) rfl rfl dL_law_1390 dL_law_1391 dL_law_1392 dL_law_1393 dL_law_1394 ?_
  refine LW.callX x [.int (xs (i + 1)), .int (xs (i + 2)), .int (xs (i + 3))] (C_X6_write (E_write (xs (i + 1)) (xs (i + 2)) (xs (i + 3)) hR)) ok_X6_write rfl w_786 rfl (Nat.le_of_ble_eq_true rfl) (Nat.le_of_ble_eq_true rfl) rfl dL_law_1395 (fun rX uX kX => ?_)
  refine LW.aload_n x dL_law_1398 2 rfl ?_
  refine LW.arg x (j := 1) (by omega) hL (by decide) rfl rfl dL_law_1399 dL_law_1400 dL_law_1401 dL_law_1402 dL_law_1403 ?_
  refine LW.arg x (j := 2) (by omega) hL (by decide) rfl rfl dL_law_1404 dL_law_1405 dL_law_1406 dL_law_1407 dL_law_1408 ?_
  refine LW.arg x (j := 3) (by omega) hL (by decide) rfl rfl dL_law_1409 dL_law_1410 dL_law_1411 dL_law_1412 dL_law_1413 ?_
  refine LW.callY x [.int (xs (i + 1)), .int (xs (i + 2)), .int (xs (i + 3))] (C_X7_write (kX)) ok_X7_write rfl w_1335 rfl (Nat.le_of_ble_eq_true rfl) (Nat.le_of_ble_eq_true rfl) rfl dL_law_1414 (fun rY uY kY => ?_)
  obtain ⟨e0, hR'⟩ := kY
  refine LW.icmp_eq x (tgt := 1636) dL_law_1417 (by decide) e0.symm ?_
  exact kk uX uY hR'
theorem case_38 (x : LX p s m meth c b L xs gx gy) (hL : L ≤ 3072) (hi : i + 6 ≤ L) (hR : Rel σ μ) (kk : ∀ σ' μ', Rel σ' μ' → LW p e s m below meth c b gx gy 1636 [(0, .ref b), (1, .ref (gad gx 16 0)), (2, .ref (gad gy 0 0)), (3, .int (nI i))] [] σ' μ') : LW p e s m below meth c b gx gy 1422 [(0, .ref b), (1, .ref (gad gx 16 0)), (2, .ref (gad gy 0 0)), (3, .int (nI i))] [] σ μ := by
  refine LW.aload_n x dL_law_1422 1 rfl ?_
  refine LW.arg x (j := 1) (by omega) hL (by decide) rfl rfl dL_law_1423 dL_law_1424 dL_law_1425 dL_law_1426 dL_law_1427 ?_
  refine LW.arg x (j := 2) (by omega) hL (by decide) rfl rfl dL_law_1428 dL_law_1429 dL_law_1430 dL_law_1431 dL_law_1432 ?_
  refine LW.arg x (j := 3) (by omega) hL (by decide) rfl rfl dL_law_1433 dL_law_1434 dL_law_1435 dL_law_1436 dL_law_1437 ?_
  refine LW.arg x (j := 4) (by omega) hL (by decide) rfl rfl dL_law_1438 dL_law_1439 dL_law_1440 dL_law_1441 dL_law_1442 ?_
  refine LW.arg x (j := 5) (by omega) hL (by decide) rfl rfl dL_law_1443 dL_law_1444 dL_law_1445 dL_law_1446 dL_law_1447 ?_
  refine LW.callX x [.int (xs (i + 1)), .int (xs (i + 2)), .int (xs (i + 3)), .int (xs (i + 4)), .int (xs (i + 5))] (C_X6_copy (E_copy (xs (i + 1)) (xs (i + 2)) (xs (i + 3)) (xs (i + 4)) (xs (i + 5)) hR)) ok_X6_copy rfl w_798 rfl (Nat.le_of_ble_eq_true rfl) (Nat.le_of_ble_eq_true rfl) rfl dL_law_1448 (fun rX uX kX => ?_)
  refine LW.aload_n x dL_law_1451 2 rfl ?_
  refine LW.arg x (j := 1) (by omega) hL (by decide) rfl rfl dL_law_1452 dL_law_1453 dL_law_1454 dL_law_1455 dL_law_1456 ?_
  refine LW.arg x (j := 2) (by omega) hL (by decide) rfl rfl dL_law_1457 dL_law_1458 dL_law_1459 dL_law_1460 dL_law_1461 ?_
  refine LW.arg x (j := 3) (by omega) hL (by decide) rfl rfl dL_law_1462 dL_law_1463 dL_law_1464 dL_law_1465 dL_law_1466 ?_
  refine LW.arg x (j := 4) (by omega) hL (by decide) rfl rfl dL_law_1467 dL_law_1468 dL_law_1469 dL_law_1470 dL_law_1471 ?_
  refine LW.arg x (j := 5) (by omega) hL (by decide) rfl rfl dL_law_1472 dL_law_1473 dL_law_1474 dL_law_1475 dL_law_1476 ?_
  refine LW.callY x [.int (xs (i + 1)), .int (xs (i + 2)), .int (xs (i + 3)), .int (xs (i + 4)), .int (xs (i + 5))] (C_X7_copy (kX)) ok_X7_copy rfl w_1339 rfl (Nat.le_of_ble_eq_true rfl) (Nat.le_of_ble_eq_true rfl) rfl dL_law_1477 (fun rY uY kY => ?_)
  obtain ⟨e0, hR'⟩ := kY
  refine LW.icmp_eq x (tgt := 1636) dL_law_1480 (by decide) e0.symm ?_
  exact kk uX uY hR'
theorem case_39 (x : LX p s m meth c b L xs gx gy) (hL : L ≤ 3072) (hi : i + 6 ≤ L) (hR : Rel σ μ) (kk : ∀ σ' μ', Rel σ' μ' → LW p e s m below meth c b gx gy 1636 [(0, .ref b), (1, .ref (gad gx 16 0)), (2, .ref (gad gy 0 0)), (3, .int (nI i))] [] σ' μ') : LW p e s m below meth c b gx gy 1485 [(0, .ref b), (1, .ref (gad gx 16 0)), (2, .ref (gad gy 0 0)), (3, .int (nI i))] [] σ μ := by
  refine LW.aload_n x dL_law_1485 1 rfl ?_
  refine LW.arg x (j := 1) (by omega) hL (by decide) rfl rfl dL_law_1486 dL_law_1487 dL_law_1488 dL_law_1489 dL_law_1490 ?_
  refine LW.arg x (j := 2) (by omega) hL (by decide) rfl rfl dL_law_1491 dL_law_1492 dL_law_1493 dL_law_1494 dL_law_1495 ?_
  refine LW.callX x [.int (xs (i + 1)), .int (xs (i + 2))] (C_X6_load (E_load (xs (i + 1)) (xs (i + 2)) hR)) ok_X6_load rfl w_807 rfl (Nat.le_of_ble_eq_true rfl) (Nat.le_of_ble_eq_true rfl) rfl dL_law_1496 (fun rX uX kX => ?_)
  refine LW.aload_n x dL_law_1499 2 rfl ?_
  refine LW.arg x (j := 1) (by omega) hL (by decide) rfl rfl dL_law_1500 dL_law_1501 dL_law_1502 dL_law_1503 dL_law_1504 ?_
  refine LW.arg x (j := 2) (by omega) hL (by decide) rfl rfl dL_law_1505 dL_law_1506 dL_law_1507 dL_law_1508 dL_law_1509 ?_
  refine LW.callY x [.int (xs (i + 1)), .int (xs (i + 2))] (C_X7_load (kX)) ok_X7_load rfl w_1343 rfl (Nat.le_of_ble_eq_true rfl) (Nat.le_of_ble_eq_true rfl) rfl dL_law_1510 (fun rY uY kY => ?_)
  obtain ⟨e0, hR'⟩ := kY
  refine LW.icmp_eq x (tgt := 1636) dL_law_1513 (by decide) e0.symm ?_
  exact kk uX uY hR'
theorem case_40 (x : LX p s m meth c b L xs gx gy) (hL : L ≤ 3072) (hi : i + 6 ≤ L) (hR : Rel σ μ) (kk : ∀ σ' μ', Rel σ' μ' → LW p e s m below meth c b gx gy 1636 [(0, .ref b), (1, .ref (gad gx 16 0)), (2, .ref (gad gy 0 0)), (3, .int (nI i))] [] σ' μ') : LW p e s m below meth c b gx gy 1518 [(0, .ref b), (1, .ref (gad gx 16 0)), (2, .ref (gad gy 0 0)), (3, .int (nI i))] [] σ μ := by
  refine LW.aload_n x dL_law_1518 1 rfl ?_
  refine LW.arg x (j := 1) (by omega) hL (by decide) rfl rfl dL_law_1519 dL_law_1520 dL_law_1521 dL_law_1522 dL_law_1523 ?_
  refine LW.arg x (j := 2) (by omega) hL (by decide) rfl rfl dL_law_1524 dL_law_1525 dL_law_1526 dL_law_1527 dL_law_1528 ?_
  refine LW.callX x [.int (xs (i + 1)), .int (xs (i + 2))] (C_X6_judge (E_judge (xs (i + 1)) (xs (i + 2)) hR)) ok_X6_judge rfl w_816 rfl (Nat.le_of_ble_eq_true rfl) (Nat.le_of_ble_eq_true rfl) rfl dL_law_1529 (fun rX uX kX => ?_)
  refine LW.aload_n x dL_law_1532 2 rfl ?_
  refine LW.arg x (j := 1) (by omega) hL (by decide) rfl rfl dL_law_1533 dL_law_1534 dL_law_1535 dL_law_1536 dL_law_1537 ?_
  refine LW.arg x (j := 2) (by omega) hL (by decide) rfl rfl dL_law_1538 dL_law_1539 dL_law_1540 dL_law_1541 dL_law_1542 ?_
  refine LW.callY x [.int (xs (i + 1)), .int (xs (i + 2))] (C_X7_judge (kX)) ok_X7_judge rfl w_1351 rfl (Nat.le_of_ble_eq_true rfl) (Nat.le_of_ble_eq_true rfl) rfl dL_law_1543 (fun rY uY kY => ?_)
  obtain ⟨e0, hR'⟩ := kY
  refine LW.icmp_eq x (tgt := 1636) dL_law_1546 (by decide) e0.symm ?_
  exact kk uX uY hR'
theorem case_41 (x : LX p s m meth c b L xs gx gy) (hL : L ≤ 3072) (hi : i + 6 ≤ L) (hR : Rel σ μ) (kk : ∀ σ' μ', Rel σ' μ' → LW p e s m below meth c b gx gy 1636 [(0, .ref b), (1, .ref (gad gx 16 0)), (2, .ref (gad gy 0 0)), (3, .int (nI i))] [] σ' μ') : LW p e s m below meth c b gx gy 1551 [(0, .ref b), (1, .ref (gad gx 16 0)), (2, .ref (gad gy 0 0)), (3, .int (nI i))] [] σ μ := by
  refine LW.aload_n x dL_law_1551 1 rfl ?_
  refine LW.callX x [] (C_X6_image (E_image hR)) ok_X6_image rfl w_826 rfl (Nat.le_of_ble_eq_true rfl) (Nat.le_of_ble_eq_true rfl) rfl dL_law_1552 (fun rX uX kX => ?_)
  refine LW.aload_n x dL_law_1555 2 rfl ?_
  refine LW.callY x [] (C_X7_image (kX)) ok_X7_image rfl w_1355 rfl (Nat.le_of_ble_eq_true rfl) (Nat.le_of_ble_eq_true rfl) rfl dL_law_1556 (fun rY uY kY => ?_)
  obtain ⟨e0, hR'⟩ := kY
  refine LW.icmp_eq x (tgt := 1636) dL_law_1559 (by decide) e0.symm ?_
  exact kk uX uY hR'
theorem case_42 (x : LX p s m meth c b L xs gx gy) (hL : L ≤ 3072) (hi : i + 6 ≤ L) (hR : Rel σ μ) (kk : ∀ σ' μ', Rel σ' μ' → LW p e s m below meth c b gx gy 1636 [(0, .ref b), (1, .ref (gad gx 16 0)), (2, .ref (gad gy 0 0)), (3, .int (nI i))] [] σ' μ') : LW p e s m below meth c b gx gy 1564 [(0, .ref b), (1, .ref (gad gx 16 0)), (2, .ref (gad gy 0 0)), (3, .int (nI i))] [] σ μ := by
  refine LW.aload_n x dL_law_1564 1 rfl ?_
  refine LW.callX x [] (C_X6_undo (E_undo hR)) ok_X6_undo rfl w_830 rfl (Nat.le_of_ble_eq_true rfl) (Nat.le_of_ble_eq_true rfl) rfl dL_law_1565 (fun rX uX kX => ?_)
  refine LW.aload_n x dL_law_1568 2 rfl ?_
  refine LW.callY x [] (C_X7_undo (kX)) ok_X7_undo rfl w_1359 rfl (Nat.le_of_ble_eq_true rfl) (Nat.le_of_ble_eq_true rfl) rfl dL_law_1569 (fun rY uY kY => ?_)
  obtain ⟨e0, hR'⟩ := kY
  refine LW.icmp_eq x (tgt := 1636) dL_law_1572 (by decide) e0.symm ?_
  exact kk uX uY hR'
theorem case_43 (x : LX p s m meth c b L xs gx gy) (hL : L ≤ 3072) (hi : i + 6 ≤ L) (hR : Rel σ μ) (kk : ∀ σ' μ', Rel σ' μ' → LW p e s m below meth c b gx gy 1636 [(0, .ref b), (1, .ref (gad gx 16 0)), (2, .ref (gad gy 0 0)), (3, .int (nI i))] [] σ' μ') : LW p e s m below meth c b gx gy 1577 [(0, .ref b), (1, .ref (gad gx 16 0)), (2, .ref (gad gy 0 0)), (3, .int (nI i))] [] σ μ := by
  refine LW.aload_n x dL_law_1577 1 rfl ?_
  refine LW.callX x [] (C_X6_tear (E_tear hR)) ok_X6_tear rfl w_834 rfl (Nat.le_of_ble_eq_true rfl) (Nat.le_of_ble_eq_true rfl) rfl dL_law_1578 (fun rX uX kX => ?_)
  refine LW.aload_n x dL_law_1581 2 rfl ?_
  refine LW.callY x [] (C_X7_tear (kX)) ok_X7_tear rfl w_1363 rfl (Nat.le_of_ble_eq_true rfl) (Nat.le_of_ble_eq_true rfl) rfl dL_law_1582 (fun rY uY kY => ?_)
  obtain ⟨e0, hR'⟩ := kY
  refine LW.icmp_eq x (tgt := 1636) dL_law_1585 (by decide) e0.symm ?_
  exact kk uX uY hR'
theorem case_44 (x : LX p s m meth c b L xs gx gy) (hL : L ≤ 3072) (hi : i + 6 ≤ L) (hR : Rel σ μ) (kk : ∀ σ' μ', Rel σ' μ' → LW p e s m below meth c b gx gy 1636 [(0, .ref b), (1, .ref (gad gx 16 0)), (2, .ref (gad gy 0 0)), (3, .int (nI i))] [] σ' μ') : LW p e s m below meth c b gx gy 1590 [(0, .ref b), (1, .ref (gad gx 16 0)), (2, .ref (gad gy 0 0)), (3, .int (nI i))] [] σ μ := by
  refine LW.aload_n x dL_law_1590 1 rfl ?_
  refine LW.arg x (j := 1) (by omega) hL (by decide) rfl rfl dL_law_1591 dL_law_1592 dL_law_1593 dL_law_1594 dL_law_1595 ?_
  refine LW.callX x [.int (xs (i + 1))] (C_X6_count (E_count (xs (i + 1)) hR)) ok_X6_count rfl w_838 rfl (Nat.le_of_ble_eq_true rfl) (Nat.le_of_ble_eq_true rfl) rfl dL_law_1596 (fun rX uX kX => ?_)
  refine LW.aload_n x dL_law_1599 2 rfl ?_
  refine LW.arg x (j := 1) (by omega) hL (by decide) rfl rfl dL_law_1600 dL_law_1601 dL_law_1602 dL_law_1603 dL_law_1604 ?_
  refine LW.callY x [.int (xs (i + 1))] (C_X7_count (kX)) ok_X7_count rfl w_1367 rfl (Nat.le_of_ble_eq_true rfl) (Nat.le_of_ble_eq_true rfl) rfl dL_law_1605 (fun rY uY kY => ?_)
  obtain ⟨e0, hR'⟩ := kY
  refine LW.icmp_eq x (tgt := 1636) dL_law_1608 (by decide) e0.symm ?_
  exact kk uX uY hR'
theorem case_45 (x : LX p s m meth c b L xs gx gy) (hL : L ≤ 3072) (hi : i + 6 ≤ L) (hR : Rel σ μ) (kk : ∀ σ' μ', Rel σ' μ' → LW p e s m below meth c b gx gy 1636 [(0, .ref b), (1, .ref (gad gx 16 0)), (2, .ref (gad gy 0 0)), (3, .int (nI i))] [] σ' μ') : LW p e s m below meth c b gx gy 1613 [(0, .ref b), (1, .ref (gad gx 16 0)), (2, .ref (gad gy 0 0)), (3, .int (nI i))] [] σ μ := by
  refine LW.aload_n x dL_law_1613 1 rfl ?_
  refine LW.arg x (j := 1) (by omega) hL (by decide) rfl rfl dL_law_1614 dL_law_1615 dL_law_1616 dL_law_1617 dL_law_1618 ?_
  refine LW.callX x [.int (xs (i + 1))] (C_X6_status (E_status (xs (i + 1)) hR)) ok_X6_status rfl w_862 rfl (Nat.le_of_ble_eq_true rfl) (Nat.le_of_ble_eq_true rfl) rfl dL_law_1619 (fun rX uX kX => ?_)
  refine LW.aload_n x dL_law_1622 2 rfl ?_
  refine LW.arg x (j := 1) (by omega) hL (by decide) rfl rfl dL_law_1623 dL_law_1624 dL_law_1625 dL_law_1626 dL_law_1627 ?_
  refine LW.callY x [.int (xs (i + 1))] (C_X7_status (kX)) ok_X7_status rfl w_1375 rfl (Nat.le_of_ble_eq_true rfl) (Nat.le_of_ble_eq_true rfl) rfl dL_law_1628 (fun rY uY kY => ?_)
  obtain ⟨e0, hR'⟩ := kY
  refine LW.icmp_eq x (tgt := 1636) dL_law_1631 (by decide) e0.symm ?_
  exact kk uX uY hR'
theorem law_switch (x : LX p s m meth c b L xs gx gy) (hL : L ≤ 3072) (hi : i + 6 ≤ L) (hR : Rel σ μ) (kk : ∀ σ' μ', Rel σ' μ' → LW p e s m below meth c b gx gy 1636 [(0, .ref b), (1, .ref (gad gx 16 0)), (2, .ref (gad gy 0 0)), (3, .int (nI i))] [] σ' μ') {v : Int32} (hv : ∃ j, j < 64 ∧ v = nI j) : LW p e s m below meth c b gx gy 33 [(0, .ref b), (1, .ref (gad gx 16 0)), (2, .ref (gad gy 0 0)), (3, .int (nI i))] [.int v] σ μ := by
  obtain ⟨j, hj, rfl⟩ := hv
  rcases (show j = 0 ∨ j = 1 ∨ j = 2 ∨ j = 3 ∨ j = 4 ∨ j = 5 ∨ j = 6 ∨ j = 7 ∨ j = 8 ∨ j = 9 ∨ j = 10 ∨ j = 11 ∨ j = 12 ∨ j = 13 ∨ j = 14 ∨ j = 15 ∨ j = 16 ∨ j = 17 ∨ j = 18 ∨ j = 19 ∨ j = 20 ∨ j = 21 ∨ j = 22 ∨ j = 23 ∨ j = 24 ∨ j = 25 ∨ j = 26 ∨ j = 27 ∨ j = 28 ∨ j = 29 ∨ j = 30 ∨ j = 31 ∨ j = 32 ∨ j = 33 ∨ j = 34 ∨ j = 35 ∨ j = 36 ∨ j = 37 ∨ j = 38 ∨ j = 39 ∨ j = 40 ∨ j = 41 ∨ j = 42 ∨ j = 43 ∨ j = 44 ∨ j = 45 ∨ 46 ≤ j by omega) with rfl | rfl | rfl | rfl | rfl | rfl | rfl | rfl | rfl | rfl | rfl | rfl | rfl | rfl | rfl | rfl | rfl | rfl | rfl | rfl | rfl | rfl | rfl | rfl | rfl | rfl | rfl | rfl | rfl | rfl | rfl | rfl | rfl | rfl | rfl | rfl | rfl | rfl | rfl | rfl | rfl | rfl | rfl | rfl | rfl | rfl | g
  · exact LW.tabIn x (off := 199) (tgt := 232) dL_law_33 (by decide) (by decide) (by decide) (by decide) (case_0 x hL hi hR kk)
  · exact LW.tabIn x (off := 242) (tgt := 275) dL_law_33 (by decide) (by decide) (by decide) (by decide) (case_1 x hL hi hR kk)
  · exact LW.tabIn x (off := 275) (tgt := 308) dL_law_33 (by decide) (by decide) (by decide) (by decide) (case_2 x hL hi hR kk)
  · exact LW.tabIn x (off := 308) (tgt := 341) dL_law_33 (by decide) (by decide) (by decide) (by decide) (case_3 x hL hi hR kk)
  · exact LW.tabIn x (off := 347) (tgt := 380) dL_law_33 (by decide) (by decide) (by decide) (by decide) (case_4 x hL hi hR kk)
  · exact LW.tabIn x (off := 370) (tgt := 403) dL_law_33 (by decide) (by decide) (by decide) (by decide) (case_5 x hL hi hR kk)
  · exact LW.tabIn x (off := 393) (tgt := 426) dL_law_33 (by decide) (by decide) (by decide) (by decide) (case_6 x hL hi hR kk)
  · exact LW.tabIn x (off := 426) (tgt := 459) dL_law_33 (by decide) (by decide) (by decide) (by decide) (case_7 x hL hi hR kk)
  · exact LW.tabIn x (off := 459) (tgt := 492) dL_law_33 (by decide) (by decide) (by decide) (by decide) (case_8 x hL hi hR kk)
  · exact LW.tabIn x (off := 492) (tgt := 525) dL_law_33 (by decide) (by decide) (by decide) (by decide) (case_9 x hL hi hR kk)
  · exact LW.tabIn x (off := 525) (tgt := 558) dL_law_33 (by decide) (by decide) (by decide) (by decide) (case_10 x hL hi hR kk)
  · exact LW.tabIn x (off := 568) (tgt := 601) dL_law_33 (by decide) (by decide) (by decide) (by decide) (case_11 x hL hi hR kk)
  · exact LW.tabIn x (off := 591) (tgt := 624) dL_law_33 (by decide) (by decide) (by decide) (by decide) (case_12 x hL hi hR kk)
  · exact LW.tabIn x (off := 634) (tgt := 667) dL_law_33 (by decide) (by decide) (by decide) (by decide) (case_13 x hL hi hR kk)
  · exact LW.tabIn x (off := 657) (tgt := 690) dL_law_33 (by decide) (by decide) (by decide) (by decide) (case_14 x hL hi hR kk)
  · exact LW.tabIn x (off := 680) (tgt := 713) dL_law_33 (by decide) (by decide) (by decide) (by decide) (case_15 x hL hi hR kk)
  · exact LW.tabIn x (off := 713) (tgt := 746) dL_law_33 (by decide) (by decide) (by decide) (by decide) (case_16 x hL hi hR kk)
  · exact LW.tabIn x (off := 746) (tgt := 779) dL_law_33 (by decide) (by decide) (by decide) (by decide) (case_17 x hL hi hR kk)
  · exact LW.tabIn x (off := 779) (tgt := 812) dL_law_33 (by decide) (by decide) (by decide) (by decide) (case_18 x hL hi hR kk)
  · exact LW.tabIn x (off := 812) (tgt := 845) dL_law_33 (by decide) (by decide) (by decide) (by decide) (case_19 x hL hi hR kk)
  · exact LW.tabIn x (off := 855) (tgt := 888) dL_law_33 (by decide) (by decide) (by decide) (by decide) (case_20 x hL hi hR kk)
  · exact LW.tabIn x (off := 888) (tgt := 921) dL_law_33 (by decide) (by decide) (by decide) (by decide) (case_21 x hL hi hR kk)
  · exact LW.tabIn x (off := 921) (tgt := 954) dL_law_33 (by decide) (by decide) (by decide) (by decide) (case_22 x hL hi hR kk)
  · exact LW.tabIn x (off := 974) (tgt := 1007) dL_law_33 (by decide) (by decide) (by decide) (by decide) (case_23 x hL hi hR kk)
  · exact LW.tabIn x (off := 1007) (tgt := 1040) dL_law_33 (by decide) (by decide) (by decide) (by decide) (case_24 x hL hi hR kk)
  · exact LW.tabIn x (off := 1030) (tgt := 1063) dL_law_33 (by decide) (by decide) (by decide) (by decide) (case_25 x hL hi hR kk)
  · exact LW.tabIn x (off := 1053) (tgt := 1086) dL_law_33 (by decide) (by decide) (by decide) (by decide) (case_26 x hL hi hR kk)
  · exact LW.tabIn x (off := 1076) (tgt := 1109) dL_law_33 (by decide) (by decide) (by decide) (by decide) (case_27 x hL hi hR kk)
  · exact LW.tabIn x (off := 1099) (tgt := 1132) dL_law_33 (by decide) (by decide) (by decide) (by decide) (case_28 x hL hi hR kk)
  · exact LW.tabIn x (off := 1132) (tgt := 1165) dL_law_33 (by decide) (by decide) (by decide) (by decide) (case_29 x hL hi hR kk)
  · exact LW.tabIn x (off := 1155) (tgt := 1188) dL_law_33 (by decide) (by decide) (by decide) (by decide) (case_30 x hL hi hR kk)
  · exact LW.tabIn x (off := 1178) (tgt := 1211) dL_law_33 (by decide) (by decide) (by decide) (by decide) (case_31 x hL hi hR kk)
  · exact LW.tabIn x (off := 1211) (tgt := 1244) dL_law_33 (by decide) (by decide) (by decide) (by decide) (case_32 x hL hi hR kk)
  · exact LW.tabIn x (off := 1224) (tgt := 1257) dL_law_33 (by decide) (by decide) (by decide) (by decide) (case_33 x hL hi hR kk)
  · exact LW.tabIn x (off := 1237) (tgt := 1270) dL_law_33 (by decide) (by decide) (by decide) (by decide) (case_34 x hL hi hR kk)
  · exact LW.tabIn x (off := 1270) (tgt := 1303) dL_law_33 (by decide) (by decide) (by decide) (by decide) (case_35 x hL hi hR kk)
  · exact LW.tabIn x (off := 1303) (tgt := 1336) dL_law_33 (by decide) (by decide) (by decide) (by decide) (case_36 x hL hi hR kk)
  · exact LW.tabIn x (off := 1346) (tgt := 1379) dL_law_33 (by decide) (by decide) (by decide) (by decide) (case_37 x hL hi hR kk)
  · exact LW.tabIn x (off := 1389) (tgt := 1422) dL_law_33 (by decide) (by decide) (by decide) (by decide) (case_38 x hL hi hR kk)
  · exact LW.tabIn x (off := 1452) (tgt := 1485) dL_law_33 (by decide) (by decide) (by decide) (by decide) (case_39 x hL hi hR kk)
  · exact LW.tabIn x (off := 1485) (tgt := 1518) dL_law_33 (by decide) (by decide) (by decide) (by decide) (case_40 x hL hi hR kk)
  · exact LW.tabIn x (off := 1518) (tgt := 1551) dL_law_33 (by decide) (by decide) (by decide) (by decide) (case_41 x hL hi hR kk)
  · exact LW.tabIn x (off := 1531) (tgt := 1564) dL_law_33 (by decide) (by decide) (by decide) (by decide) (case_42 x hL hi hR kk)
  · exact LW.tabIn x (off := 1544) (tgt := 1577) dL_law_33 (by decide) (by decide) (by decide) (by decide) (case_43 x hL hi hR kk)
  · exact LW.tabIn x (off := 1557) (tgt := 1590) dL_law_33 (by decide) (by decide) (by decide) (by decide) (case_44 x hL hi hR kk)
  · exact LW.tabIn x (off := 1580) (tgt := 1613) dL_law_33 (by decide) (by decide) (by decide) (by decide) (case_45 x hL hi hR kk)
  · exact LW.tabOut x (tgt := 1636) dL_law_33 (Or.inr (by rw [nI_toInt (by omega)]; omega)) (by decide) (kk σ μ hR)
theorem law_loop (x : LX p s m meth c b L xs gx gy) (hL : L ≤ 3072) : ∀ (d i : Nat) (σ μ : Mm), L ≤ i + d → i ≤ L → Rel σ μ → LW p e s m below meth c b gx gy 18 [(0, .ref b), (1, .ref (gad gx 16 0)), (2, .ref (gad gy 0 0)), (3, .int (nI i))] [] σ μ := by
  intro d
  induction d using Nat.strongRecOn with
  | _ d ih =>
    intro i σ μ hd hi hR
    refine LW.iload_n x dL_law_18 3 rfl ?_
    refine LW.aload_n x dL_law_19 0 rfl ?_
    refine LW.slen x dL_law_20 ?_
    refine LW.bipush x (v := nI 6) dL_law_21 (by decide) ?_
    refine LW.isub x dL_law_23 ?_
    have st : (nI L - nI 6).toInt = (L : Int) - 6 := sub_toInt (by omega) (by omega)
    refine LW.icmp_gt x (tgt := 1642) dL_law_24 (by decide) (fun _ => ?_) (fun g => ?_)
    · refine LW.iconst x (v := 1) dL_law_1642 (by decide) ?_
      exact LW.ret1 x dL_law_1643
    · have hi6 : i + 6 ≤ L := by
        rw [Int32.lt_iff_toInt_lt, st, nI_toInt (by omega)] at g
        omega
      refine LW.aload_n x dL_law_27 0 rfl ?_
      refine LW.iload_n x dL_law_28 3 rfl ?_
      refine LW.sld x (vp_in_nI (by omega) (by omega)) dL_law_29 ?_
      refine LW.bipush x (v := 63) dL_law_30 (by decide) ?_
      refine LW.iand x dL_law_32 ?_
      refine law_switch x hL hi6 hR (fun σ' μ' hR' => ?_) (and63 _)
      refine LW.iinc x (v := nI (i + 6)) (L' := [(0, .ref b), (1, .ref (gad gx 16 0)), (2, .ref (gad gy 0 0)), (3, .int (nI (i + 6)))]) dL_law_1636 3 rfl (nI_add i 6) (by decide) rfl ?_
      refine LW.goto x (tgt := 18) dL_law_1639 (by decide) ?_
      exact ih (d - 6) (by omega) (i + 6) σ' μ' (by omega) (by omega) hR'
end LawCases
