/-! the law: its cases (written by gen_law.py) -/
set_option maxRecDepth 100000 in
theorem lc_0 {Γ : Cx Unit} {i L : Nat} {sc : Nat → Int32} {μ : Mem} {o : Option (Unit × Mem)} (N : Nat) (hN : 10000 ≤ N) (h : LH Γ L sc) (hi : i + 5 ≤ L) (hL : L ≤ 2560) (hr : Rel μ) (hend : ∀ μ2, Rel μ2 → Go Γ 8 1531 (lvL i) [] μ2 o) : Go Γ 8 208 (lvL i) [] μ o := by
  obtain ⟨r, μ1, μ2, e1, e2, hr2⟩ := op_sign N hN (sc (i + 1)) μ hr
  refine go_aload_n h.1 d_law_208 rfl (q := 1) rfl ?_
  refine go_arg h hi hL 1 (by decide) (by decide) d_law_209 d_law_210 d_law_212 d_law_213 d_law_214 ?_
  refine go_runV emI h.1 h.2.1 (g_X_sign N 38 (sc (i + 1))) mi_X_sign ml_L_19 d_law_215 rfl rfl rfl rfl rfl e1 ?_
  refine go_aload_n h.1 d_law_218 rfl (q := 2) rfl ?_
  refine go_arg h hi hL 1 (by decide) (by decide) d_law_219 d_law_220 d_law_222 d_law_223 d_law_224 ?_
  refine go_runV emI h.1 h.2.1 (g_M_sign N 39 (sc (i + 1))) mi_M_sign ml_L_23 d_law_225 rfl rfl rfl rfl rfl e2 ?_
  exact go_icmp_eq 1531 h.1 d_law_228 rfl (fun _ => hend μ2 hr2) (fun z => absurd rfl z)
set_option maxRecDepth 100000 in
theorem lc_1 {Γ : Cx Unit} {i L : Nat} {sc : Nat → Int32} {μ : Mem} {o : Option (Unit × Mem)} (N : Nat) (hN : 10000 ≤ N) (h : LH Γ L sc) (hi : i + 5 ≤ L) (hL : L ≤ 2560) (hr : Rel μ) (hend : ∀ μ2, Rel μ2 → Go Γ 8 1531 (lvL i) [] μ2 o) : Go Γ 8 233 (lvL i) [] μ o := by
  obtain ⟨r, μ1, μ2, e1, e2, hr2⟩ := op_end N (sc (i + 1)) μ hr
  refine go_aload_n h.1 d_law_233 rfl (q := 1) rfl ?_
  refine go_arg h hi hL 1 (by decide) (by decide) d_law_234 d_law_235 d_law_237 d_law_238 d_law_239 ?_
  refine go_runV emI h.1 h.2.1 (g_X_end N 39 (sc (i + 1))) mi_X_end ml_L_24 d_law_240 rfl rfl rfl rfl rfl e1 ?_
  refine go_aload_n h.1 d_law_243 rfl (q := 2) rfl ?_
  refine go_arg h hi hL 1 (by decide) (by decide) d_law_244 d_law_245 d_law_247 d_law_248 d_law_249 ?_
  refine go_runV emI h.1 h.2.1 (g_M_end N 38 (sc (i + 1))) mi_M_end ml_L_28 d_law_250 rfl rfl rfl rfl rfl e2 ?_
  exact go_icmp_eq 1531 h.1 d_law_253 rfl (fun _ => hend μ2 hr2) (fun z => absurd rfl z)
set_option maxRecDepth 100000 in
theorem lc_2 {Γ : Cx Unit} {i L : Nat} {sc : Nat → Int32} {μ : Mem} {o : Option (Unit × Mem)} (N : Nat) (hN : 10000 ≤ N) (h : LH Γ L sc) (hi : i + 5 ≤ L) (hL : L ≤ 2560) (hr : Rel μ) (hend : ∀ μ2, Rel μ2 → Go Γ 8 1531 (lvL i) [] μ2 o) : Go Γ 8 258 (lvL i) [] μ o := by
  obtain ⟨r, μ1, μ2, e1, e2, hr2⟩ := op_net N hN (sc (i + 1)) μ hr
  refine go_aload_n h.1 d_law_258 rfl (q := 1) rfl ?_
  refine go_arg h hi hL 1 (by decide) (by decide) d_law_259 d_law_260 d_law_262 d_law_263 d_law_264 ?_
  refine go_runV emI h.1 h.2.1 (g_X_net N 36 (sc (i + 1))) mi_X_net ml_L_29 d_law_265 rfl rfl rfl rfl rfl e1 ?_
  refine go_aload_n h.1 d_law_268 rfl (q := 2) rfl ?_
  refine go_arg h hi hL 1 (by decide) (by decide) d_law_269 d_law_270 d_law_272 d_law_273 d_law_274 ?_
  refine go_runV emI h.1 h.2.1 (g_M_net N 35 (sc (i + 1))) mi_M_net ml_L_32 d_law_275 rfl rfl rfl rfl rfl e2 ?_
  exact go_icmp_eq 1531 h.1 d_law_278 rfl (fun _ => hend μ2 hr2) (fun z => absurd rfl z)
set_option maxRecDepth 100000 in
theorem lc_3 {Γ : Cx Unit} {i L : Nat} {sc : Nat → Int32} {μ : Mem} {o : Option (Unit × Mem)} (N : Nat) (hN : 10000 ≤ N) (h : LH Γ L sc) (hi : i + 5 ≤ L) (hL : L ≤ 2560) (hr : Rel μ) (hend : ∀ μ2, Rel μ2 → Go Γ 8 1531 (lvL i) [] μ2 o) : Go Γ 8 283 (lvL i) [] μ o := by
  obtain ⟨r, μ1, μ2, e1, e2, hr2⟩ := op_makes N hN (sc (i + 1)) (sc (i + 2)) (sc (i + 3)) μ hr
  refine go_aload_n h.1 d_law_283 rfl (q := 1) rfl ?_
  refine go_arg h hi hL 1 (by decide) (by decide) d_law_284 d_law_285 d_law_287 d_law_288 d_law_289 ?_
  refine go_arg h hi hL 2 (by decide) (by decide) d_law_290 d_law_291 d_law_293 d_law_294 d_law_295 ?_
  refine go_arg h hi hL 3 (by decide) (by decide) d_law_296 d_law_297 d_law_299 d_law_300 d_law_301 ?_
  refine go_runV emI h.1 h.2.1 (g_X_makes N 36 (sc (i + 1)) (sc (i + 2)) (sc (i + 3))) mi_X_makes ml_L_33 d_law_302 rfl rfl rfl rfl rfl e1 ?_
  refine go_aload_n h.1 d_law_305 rfl (q := 2) rfl ?_
  refine go_arg h hi hL 1 (by decide) (by decide) d_law_306 d_law_307 d_law_309 d_law_310 d_law_311 ?_
  refine go_arg h hi hL 2 (by decide) (by decide) d_law_312 d_law_313 d_law_315 d_law_316 d_law_317 ?_
  refine go_arg h hi hL 3 (by decide) (by decide) d_law_318 d_law_319 d_law_321 d_law_322 d_law_323 ?_
  refine go_runV emI h.1 h.2.1 (g_M_makes N 35 (sc (i + 1)) (sc (i + 2)) (sc (i + 3))) mi_M_makes ml_L_37 d_law_324 rfl rfl rfl rfl rfl e2 ?_
  exact go_icmp_eq 1531 h.1 d_law_327 rfl (fun _ => hend μ2 hr2) (fun z => absurd rfl z)
set_option maxRecDepth 100000 in
theorem lc_4 {Γ : Cx Unit} {i L : Nat} {sc : Nat → Int32} {μ : Mem} {o : Option (Unit × Mem)} (N : Nat) (hN : 10000 ≤ N) (h : LH Γ L sc) (hi : i + 5 ≤ L) (hL : L ≤ 2560) (hr : Rel μ) (hend : ∀ μ2, Rel μ2 → Go Γ 8 1531 (lvL i) [] μ2 o) : Go Γ 8 332 (lvL i) [] μ o := by
  obtain ⟨r, μ1, μ2, e1, e2, hr2⟩ := op_draws N hN (sc (i + 1)) (sc (i + 2)) (sc (i + 3)) (sc (i + 4)) μ hr
  refine go_aload_n h.1 d_law_332 rfl (q := 1) rfl ?_
  refine go_arg h hi hL 1 (by decide) (by decide) d_law_333 d_law_334 d_law_336 d_law_337 d_law_338 ?_
  refine go_arg h hi hL 2 (by decide) (by decide) d_law_339 d_law_340 d_law_342 d_law_343 d_law_344 ?_
  refine go_arg h hi hL 3 (by decide) (by decide) d_law_345 d_law_346 d_law_348 d_law_349 d_law_350 ?_
  refine go_arg h hi hL 4 (by decide) (by decide) d_law_351 d_law_352 d_law_354 d_law_355 d_law_356 ?_
  refine go_runV emI h.1 h.2.1 (g_X_draws N 36 (sc (i + 1)) (sc (i + 2)) (sc (i + 3)) (sc (i + 4))) mi_X_draws ml_L_38 d_law_357 rfl rfl rfl rfl rfl e1 ?_
  refine go_aload_n h.1 d_law_360 rfl (q := 2) rfl ?_
  refine go_arg h hi hL 1 (by decide) (by decide) d_law_361 d_law_362 d_law_364 d_law_365 d_law_366 ?_
  refine go_arg h hi hL 2 (by decide) (by decide) d_law_367 d_law_368 d_law_370 d_law_371 d_law_372 ?_
  refine go_arg h hi hL 3 (by decide) (by decide) d_law_373 d_law_374 d_law_376 d_law_377 d_law_378 ?_
  refine go_arg h hi hL 4 (by decide) (by decide) d_law_379 d_law_380 d_law_382 d_law_383 d_law_384 ?_
  refine go_runV emI h.1 h.2.1 (g_M_draws N 35 (sc (i + 1)) (sc (i + 2)) (sc (i + 3)) (sc (i + 4))) mi_M_draws ml_L_42 d_law_385 rfl rfl rfl rfl rfl e2 ?_
  exact go_icmp_eq 1531 h.1 d_law_388 rfl (fun _ => hend μ2 hr2) (fun z => absurd rfl z)
set_option maxRecDepth 100000 in
theorem lc_5 {Γ : Cx Unit} {i L : Nat} {sc : Nat → Int32} {μ : Mem} {o : Option (Unit × Mem)} (N : Nat) (hN : 10000 ≤ N) (h : LH Γ L sc) (hi : i + 5 ≤ L) (hL : L ≤ 2560) (hr : Rel μ) (hend : ∀ μ2, Rel μ2 → Go Γ 8 1531 (lvL i) [] μ2 o) : Go Γ 8 393 (lvL i) [] μ o := by
  obtain ⟨r, μ1, μ2, e1, e2, hr2⟩ := op_adds N (sc (i + 1)) (sc (i + 2)) (sc (i + 3)) μ hr
  refine go_aload_n h.1 d_law_393 rfl (q := 1) rfl ?_
  refine go_arg h hi hL 1 (by decide) (by decide) d_law_394 d_law_395 d_law_397 d_law_398 d_law_399 ?_
  refine go_arg h hi hL 2 (by decide) (by decide) d_law_400 d_law_401 d_law_403 d_law_404 d_law_405 ?_
  refine go_arg h hi hL 3 (by decide) (by decide) d_law_406 d_law_407 d_law_409 d_law_410 d_law_411 ?_
  refine go_runV emI h.1 h.2.1 (g_X_adds N 38 (sc (i + 1)) (sc (i + 2)) (sc (i + 3))) mi_X_adds ml_L_43 d_law_412 rfl rfl rfl rfl rfl e1 ?_
  refine go_aload_n h.1 d_law_415 rfl (q := 2) rfl ?_
  refine go_arg h hi hL 1 (by decide) (by decide) d_law_416 d_law_417 d_law_419 d_law_420 d_law_421 ?_
  refine go_arg h hi hL 2 (by decide) (by decide) d_law_422 d_law_423 d_law_425 d_law_426 d_law_427 ?_
  refine go_arg h hi hL 3 (by decide) (by decide) d_law_428 d_law_429 d_law_431 d_law_432 d_law_433 ?_
  refine go_runV emI h.1 h.2.1 (g_M_adds N 37 (sc (i + 1)) (sc (i + 2)) (sc (i + 3))) mi_M_adds ml_L_46 d_law_434 rfl rfl rfl rfl rfl e2 ?_
  exact go_icmp_eq 1531 h.1 d_law_437 rfl (fun _ => hend μ2 hr2) (fun z => absurd rfl z)
set_option maxRecDepth 100000 in
theorem lc_6 {Γ : Cx Unit} {i L : Nat} {sc : Nat → Int32} {μ : Mem} {o : Option (Unit × Mem)} (N : Nat) (hN : 10000 ≤ N) (h : LH Γ L sc) (hi : i + 5 ≤ L) (hL : L ≤ 2560) (hr : Rel μ) (hend : ∀ μ2, Rel μ2 → Go Γ 8 1531 (lvL i) [] μ2 o) : Go Γ 8 442 (lvL i) [] μ o := by
  obtain ⟨r, μ1, μ2, e1, e2, hr2⟩ := op_drops N hN (sc (i + 1)) (sc (i + 2)) μ hr
  refine go_aload_n h.1 d_law_442 rfl (q := 1) rfl ?_
  refine go_arg h hi hL 1 (by decide) (by decide) d_law_443 d_law_444 d_law_446 d_law_447 d_law_448 ?_
  refine go_arg h hi hL 2 (by decide) (by decide) d_law_449 d_law_450 d_law_452 d_law_453 d_law_454 ?_
  refine go_runV emI h.1 h.2.1 (g_X_drops N 37 (sc (i + 1)) (sc (i + 2))) mi_X_drops ml_L_47 d_law_455 rfl rfl rfl rfl rfl e1 ?_
  refine go_aload_n h.1 d_law_458 rfl (q := 2) rfl ?_
  refine go_arg h hi hL 1 (by decide) (by decide) d_law_459 d_law_460 d_law_462 d_law_463 d_law_464 ?_
  refine go_arg h hi hL 2 (by decide) (by decide) d_law_465 d_law_466 d_law_468 d_law_469 d_law_470 ?_
  refine go_runV emI h.1 h.2.1 (g_M_drops N 37 (sc (i + 1)) (sc (i + 2))) mi_M_drops ml_L_51 d_law_471 rfl rfl rfl rfl rfl e2 ?_
  exact go_icmp_eq 1531 h.1 d_law_474 rfl (fun _ => hend μ2 hr2) (fun z => absurd rfl z)
set_option maxRecDepth 100000 in
theorem lc_7 {Γ : Cx Unit} {i L : Nat} {sc : Nat → Int32} {μ : Mem} {o : Option (Unit × Mem)} (N : Nat) (hN : 10000 ≤ N) (h : LH Γ L sc) (hi : i + 5 ≤ L) (hL : L ≤ 2560) (hr : Rel μ) (hend : ∀ μ2, Rel μ2 → Go Γ 8 1531 (lvL i) [] μ2 o) : Go Γ 8 479 (lvL i) [] μ o := by
  obtain ⟨r, μ1, μ2, e1, e2, hr2⟩ := op_swaps N hN (sc (i + 1)) (sc (i + 2)) μ hr
  refine go_aload_n h.1 d_law_479 rfl (q := 1) rfl ?_
  refine go_arg h hi hL 1 (by decide) (by decide) d_law_480 d_law_481 d_law_483 d_law_484 d_law_485 ?_
  refine go_arg h hi hL 2 (by decide) (by decide) d_law_486 d_law_487 d_law_489 d_law_490 d_law_491 ?_
  refine go_runV emI h.1 h.2.1 (g_X_swaps N 37 (sc (i + 1)) (sc (i + 2))) mi_X_swaps ml_L_52 d_law_492 rfl rfl rfl rfl rfl e1 ?_
  refine go_aload_n h.1 d_law_495 rfl (q := 2) rfl ?_
  refine go_arg h hi hL 1 (by decide) (by decide) d_law_496 d_law_497 d_law_499 d_law_500 d_law_501 ?_
  refine go_arg h hi hL 2 (by decide) (by decide) d_law_502 d_law_503 d_law_505 d_law_506 d_law_507 ?_
  refine go_runV emI h.1 h.2.1 (g_M_swaps N 37 (sc (i + 1)) (sc (i + 2))) mi_M_swaps ml_L_55 d_law_508 rfl rfl rfl rfl rfl e2 ?_
  exact go_icmp_eq 1531 h.1 d_law_511 rfl (fun _ => hend μ2 hr2) (fun z => absurd rfl z)
set_option maxRecDepth 100000 in
theorem lc_8 {Γ : Cx Unit} {i L : Nat} {sc : Nat → Int32} {μ : Mem} {o : Option (Unit × Mem)} (N : Nat) (hN : 10000 ≤ N) (h : LH Γ L sc) (hi : i + 5 ≤ L) (hL : L ≤ 2560) (hr : Rel μ) (hend : ∀ μ2, Rel μ2 → Go Γ 8 1531 (lvL i) [] μ2 o) : Go Γ 8 516 (lvL i) [] μ o := by
  obtain ⟨r, μ1, μ2, e1, e2, hr2⟩ := op_copies N hN (sc (i + 1)) (sc (i + 2)) μ hr
  refine go_aload_n h.1 d_law_516 rfl (q := 1) rfl ?_
  refine go_arg h hi hL 1 (by decide) (by decide) d_law_517 d_law_518 d_law_520 d_law_521 d_law_522 ?_
  refine go_arg h hi hL 2 (by decide) (by decide) d_law_523 d_law_524 d_law_526 d_law_527 d_law_528 ?_
  refine go_runV emI h.1 h.2.1 (g_X_copies N 38 (sc (i + 1)) (sc (i + 2))) mi_X_copies ml_L_56 d_law_529 rfl rfl rfl rfl rfl e1 ?_
  refine go_aload_n h.1 d_law_532 rfl (q := 2) rfl ?_
  refine go_arg h hi hL 1 (by decide) (by decide) d_law_533 d_law_534 d_law_536 d_law_537 d_law_538 ?_
  refine go_arg h hi hL 2 (by decide) (by decide) d_law_539 d_law_540 d_law_542 d_law_543 d_law_544 ?_
  refine go_runV emI h.1 h.2.1 (g_M_copies N 37 (sc (i + 1)) (sc (i + 2))) mi_M_copies ml_L_59 d_law_545 rfl rfl rfl rfl rfl e2 ?_
  exact go_icmp_eq 1531 h.1 d_law_548 rfl (fun _ => hend μ2 hr2) (fun z => absurd rfl z)
set_option maxRecDepth 100000 in
theorem lc_9 {Γ : Cx Unit} {i L : Nat} {sc : Nat → Int32} {μ : Mem} {o : Option (Unit × Mem)} (N : Nat) (hN : 10000 ≤ N) (h : LH Γ L sc) (hi : i + 5 ≤ L) (hL : L ≤ 2560) (hr : Rel μ) (hend : ∀ μ2, Rel μ2 → Go Γ 8 1531 (lvL i) [] μ2 o) : Go Γ 8 553 (lvL i) [] μ o := by
  obtain ⟨r, μ1, μ2, e1, e2, hr2⟩ := op_joins N hN (sc (i + 1)) (sc (i + 2)) μ hr
  refine go_aload_n h.1 d_law_553 rfl (q := 1) rfl ?_
  refine go_arg h hi hL 1 (by decide) (by decide) d_law_554 d_law_555 d_law_557 d_law_558 d_law_559 ?_
  refine go_arg h hi hL 2 (by decide) (by decide) d_law_560 d_law_561 d_law_563 d_law_564 d_law_565 ?_
  refine go_runV emI h.1 h.2.1 (g_X_joins N 38 (sc (i + 1)) (sc (i + 2))) mi_X_joins ml_L_60 d_law_566 rfl rfl rfl rfl rfl e1 ?_
  refine go_aload_n h.1 d_law_569 rfl (q := 2) rfl ?_
  refine go_arg h hi hL 1 (by decide) (by decide) d_law_570 d_law_571 d_law_573 d_law_574 d_law_575 ?_
  refine go_arg h hi hL 2 (by decide) (by decide) d_law_576 d_law_577 d_law_579 d_law_580 d_law_581 ?_
  refine go_runV emI h.1 h.2.1 (g_M_joins N 37 (sc (i + 1)) (sc (i + 2))) mi_M_joins ml_L_63 d_law_582 rfl rfl rfl rfl rfl e2 ?_
  exact go_icmp_eq 1531 h.1 d_law_585 rfl (fun _ => hend μ2 hr2) (fun z => absurd rfl z)
set_option maxRecDepth 100000 in
theorem lc_10 {Γ : Cx Unit} {i L : Nat} {sc : Nat → Int32} {μ : Mem} {o : Option (Unit × Mem)} (N : Nat) (hN : 10000 ≤ N) (h : LH Γ L sc) (hi : i + 5 ≤ L) (hL : L ≤ 2560) (hr : Rel μ) (hend : ∀ μ2, Rel μ2 → Go Γ 8 1531 (lvL i) [] μ2 o) : Go Γ 8 590 (lvL i) [] μ o := by
  obtain ⟨r, μ1, μ2, e1, e2, hr2⟩ := op_flips N hN (sc (i + 1)) μ hr
  refine go_aload_n h.1 d_law_590 rfl (q := 1) rfl ?_
  refine go_arg h hi hL 1 (by decide) (by decide) d_law_591 d_law_592 d_law_594 d_law_595 d_law_596 ?_
  refine go_runV emI h.1 h.2.1 (g_X_flips N 37 (sc (i + 1))) mi_X_flips ml_L_64 d_law_597 rfl rfl rfl rfl rfl e1 ?_
  refine go_aload_n h.1 d_law_600 rfl (q := 2) rfl ?_
  refine go_arg h hi hL 1 (by decide) (by decide) d_law_601 d_law_602 d_law_604 d_law_605 d_law_606 ?_
  refine go_runV emI h.1 h.2.1 (g_M_flips N 37 (sc (i + 1))) mi_M_flips ml_L_67 d_law_607 rfl rfl rfl rfl rfl e2 ?_
  exact go_icmp_eq 1531 h.1 d_law_610 rfl (fun _ => hend μ2 hr2) (fun z => absurd rfl z)
set_option maxRecDepth 100000 in
theorem lc_11 {Γ : Cx Unit} {i L : Nat} {sc : Nat → Int32} {μ : Mem} {o : Option (Unit × Mem)} (N : Nat) (hN : 10000 ≤ N) (h : LH Γ L sc) (hi : i + 5 ≤ L) (hL : L ≤ 2560) (hr : Rel μ) (hend : ∀ μ2, Rel μ2 → Go Γ 8 1531 (lvL i) [] μ2 o) : Go Γ 8 615 (lvL i) [] μ o := by
  obtain ⟨r, μ1, μ2, e1, e2, hr2⟩ := op_mirrors N hN (sc (i + 1)) μ hr
  refine go_aload_n h.1 d_law_615 rfl (q := 1) rfl ?_
  refine go_arg h hi hL 1 (by decide) (by decide) d_law_616 d_law_617 d_law_619 d_law_620 d_law_621 ?_
  refine go_runV emI h.1 h.2.1 (g_X_mirrors N 38 (sc (i + 1))) mi_X_mirrors ml_L_68 d_law_622 rfl rfl rfl rfl rfl e1 ?_
  refine go_aload_n h.1 d_law_625 rfl (q := 2) rfl ?_
  refine go_arg h hi hL 1 (by decide) (by decide) d_law_626 d_law_627 d_law_629 d_law_630 d_law_631 ?_
  refine go_runV emI h.1 h.2.1 (g_M_mirrors N 37 (sc (i + 1))) mi_M_mirrors ml_L_71 d_law_632 rfl rfl rfl rfl rfl e2 ?_
  exact go_icmp_eq 1531 h.1 d_law_635 rfl (fun _ => hend μ2 hr2) (fun z => absurd rfl z)
set_option maxRecDepth 100000 in
theorem lc_12 {Γ : Cx Unit} {i L : Nat} {sc : Nat → Int32} {μ : Mem} {o : Option (Unit × Mem)} (N : Nat) (hN : 10000 ≤ N) (h : LH Γ L sc) (hi : i + 5 ≤ L) (hL : L ≤ 2560) (hr : Rel μ) (hend : ∀ μ2, Rel μ2 → Go Γ 8 1531 (lvL i) [] μ2 o) : Go Γ 8 640 (lvL i) [] μ o := by
  obtain ⟨r, μ1, μ2, e1, e2, hr2⟩ := op_lays N hN (sc (i + 1)) μ hr
  refine go_aload_n h.1 d_law_640 rfl (q := 1) rfl ?_
  refine go_arg h hi hL 1 (by decide) (by decide) d_law_641 d_law_642 d_law_644 d_law_645 d_law_646 ?_
  refine go_runV emI h.1 h.2.1 (g_X_lays N 37 (sc (i + 1))) mi_X_lays ml_L_72 d_law_647 rfl rfl rfl rfl rfl e1 ?_
  refine go_aload_n h.1 d_law_650 rfl (q := 2) rfl ?_
  refine go_arg h hi hL 1 (by decide) (by decide) d_law_651 d_law_652 d_law_654 d_law_655 d_law_656 ?_
  refine go_runV emI h.1 h.2.1 (g_M_lays N 37 (sc (i + 1))) mi_M_lays ml_L_75 d_law_657 rfl rfl rfl rfl rfl e2 ?_
  exact go_icmp_eq 1531 h.1 d_law_660 rfl (fun _ => hend μ2 hr2) (fun z => absurd rfl z)
set_option maxRecDepth 100000 in
theorem lc_14 {Γ : Cx Unit} {i L : Nat} {sc : Nat → Int32} {μ : Mem} {o : Option (Unit × Mem)} (N : Nat) (hN : 10000 ≤ N) (h : LH Γ L sc) (hi : i + 5 ≤ L) (hL : L ≤ 2560) (hr : Rel μ) (hend : ∀ μ2, Rel μ2 → Go Γ 8 1531 (lvL i) [] μ2 o) : Go Γ 8 742 (lvL i) [] μ o := by
  obtain ⟨r, μ1, μ2, e1, e2, hr2⟩ := op_comparer N hN (sc (i + 1)) (sc (i + 2)) μ hr
  refine go_aload_n h.1 d_law_742 rfl (q := 1) rfl ?_
  refine go_arg h hi hL 1 (by decide) (by decide) d_law_743 d_law_744 d_law_746 d_law_747 d_law_748 ?_
  refine go_arg h hi hL 2 (by decide) (by decide) d_law_749 d_law_750 d_law_752 d_law_753 d_law_754 ?_
  refine go_runV emI h.1 h.2.1 (g_X_comparer N 37 (sc (i + 1)) (sc (i + 2))) mi_X_comparer ml_L_81 d_law_755 rfl rfl rfl rfl rfl e1 ?_
  refine go_aload_n h.1 d_law_758 rfl (q := 2) rfl ?_
  refine go_arg h hi hL 1 (by decide) (by decide) d_law_759 d_law_760 d_law_762 d_law_763 d_law_764 ?_
  refine go_arg h hi hL 2 (by decide) (by decide) d_law_765 d_law_766 d_law_768 d_law_769 d_law_770 ?_
  refine go_runV emI h.1 h.2.1 (g_M_comparer N 37 (sc (i + 1)) (sc (i + 2))) mi_M_comparer ml_L_84 d_law_771 rfl rfl rfl rfl rfl e2 ?_
  exact go_icmp_eq 1531 h.1 d_law_774 rfl (fun _ => hend μ2 hr2) (fun z => absurd rfl z)
set_option maxRecDepth 100000 in
theorem lc_15 {Γ : Cx Unit} {i L : Nat} {sc : Nat → Int32} {μ : Mem} {o : Option (Unit × Mem)} (N : Nat) (hN : 10000 ≤ N) (h : LH Γ L sc) (hi : i + 5 ≤ L) (hL : L ≤ 2560) (hr : Rel μ) (hend : ∀ μ2, Rel μ2 → Go Γ 8 1531 (lvL i) [] μ2 o) : Go Γ 8 779 (lvL i) [] μ o := by
  obtain ⟨r, μ1, μ2, e1, e2, hr2⟩ := op_depth N hN (sc (i + 1)) μ hr
  refine go_aload_n h.1 d_law_779 rfl (q := 1) rfl ?_
  refine go_arg h hi hL 1 (by decide) (by decide) d_law_780 d_law_781 d_law_783 d_law_784 d_law_785 ?_
  refine go_runV emI h.1 h.2.1 (g_X_depth N 38 (sc (i + 1))) mi_X_depth ml_L_85 d_law_786 rfl rfl rfl rfl rfl e1 ?_
  refine go_aload_n h.1 d_law_789 rfl (q := 2) rfl ?_
  refine go_arg h hi hL 1 (by decide) (by decide) d_law_790 d_law_791 d_law_793 d_law_794 d_law_795 ?_
  refine go_runV emI h.1 h.2.1 (g_M_depth N 37 (sc (i + 1))) mi_M_depth ml_L_88 d_law_796 rfl rfl rfl rfl rfl e2 ?_
  exact go_icmp_eq 1531 h.1 d_law_799 rfl (fun _ => hend μ2 hr2) (fun z => absurd rfl z)
set_option maxRecDepth 100000 in
theorem lc_16 {Γ : Cx Unit} {i L : Nat} {sc : Nat → Int32} {μ : Mem} {o : Option (Unit × Mem)} (N : Nat) (hN : 10000 ≤ N) (h : LH Γ L sc) (hi : i + 5 ≤ L) (hL : L ≤ 2560) (hr : Rel μ) (hend : ∀ μ2, Rel μ2 → Go Γ 8 1531 (lvL i) [] μ2 o) : Go Γ 8 804 (lvL i) [] μ o := by
  obtain ⟨r, μ1, μ2, e1, e2, hr2⟩ := op_runs N hN (sc (i + 1)) (sc (i + 2)) μ hr
  refine go_aload_n h.1 d_law_804 rfl (q := 1) rfl ?_
  refine go_arg h hi hL 1 (by decide) (by decide) d_law_805 d_law_806 d_law_808 d_law_809 d_law_810 ?_
  refine go_arg h hi hL 2 (by decide) (by decide) d_law_811 d_law_812 d_law_814 d_law_815 d_law_816 ?_
  refine go_runV emI h.1 h.2.1 (g_X_runs N 37 (sc (i + 1)) (sc (i + 2))) mi_X_runs ml_L_89 d_law_817 rfl rfl rfl rfl rfl e1 ?_
  refine go_aload_n h.1 d_law_820 rfl (q := 2) rfl ?_
  refine go_arg h hi hL 1 (by decide) (by decide) d_law_821 d_law_822 d_law_824 d_law_825 d_law_826 ?_
  refine go_arg h hi hL 2 (by decide) (by decide) d_law_827 d_law_828 d_law_830 d_law_831 d_law_832 ?_
  refine go_runV emI h.1 h.2.1 (g_M_runs N 37 (sc (i + 1)) (sc (i + 2))) mi_M_runs ml_L_92 d_law_833 rfl rfl rfl rfl rfl e2 ?_
  exact go_icmp_eq 1531 h.1 d_law_836 rfl (fun _ => hend μ2 hr2) (fun z => absurd rfl z)
set_option maxRecDepth 100000 in
theorem lc_17 {Γ : Cx Unit} {i L : Nat} {sc : Nat → Int32} {μ : Mem} {o : Option (Unit × Mem)} (N : Nat) (hN : 10000 ≤ N) (h : LH Γ L sc) (hi : i + 5 ≤ L) (hL : L ≤ 2560) (hr : Rel μ) (hend : ∀ μ2, Rel μ2 → Go Γ 8 1531 (lvL i) [] μ2 o) : Go Γ 8 841 (lvL i) [] μ o := by
  obtain ⟨r, μ1, μ2, e1, e2, hr2⟩ := op_tells N hN (sc (i + 1)) μ hr
  refine go_aload_n h.1 d_law_841 rfl (q := 1) rfl ?_
  refine go_arg h hi hL 1 (by decide) (by decide) d_law_842 d_law_843 d_law_845 d_law_846 d_law_847 ?_
  refine go_runV emI h.1 h.2.1 (g_X_tells N 36 (sc (i + 1))) mi_X_tells ml_L_93 d_law_848 rfl rfl rfl rfl rfl e1 ?_
  refine go_aload_n h.1 d_law_851 rfl (q := 2) rfl ?_
  refine go_arg h hi hL 1 (by decide) (by decide) d_law_852 d_law_853 d_law_855 d_law_856 d_law_857 ?_
  refine go_runV emI h.1 h.2.1 (g_M_tells N 36 (sc (i + 1))) mi_M_tells ml_L_96 d_law_858 rfl rfl rfl rfl rfl e2 ?_
  exact go_icmp_eq 1531 h.1 d_law_861 rfl (fun _ => hend μ2 hr2) (fun z => absurd rfl z)
set_option maxRecDepth 100000 in
theorem lc_18 {Γ : Cx Unit} {i L : Nat} {sc : Nat → Int32} {μ : Mem} {o : Option (Unit × Mem)} (N : Nat) (hN : 10000 ≤ N) (h : LH Γ L sc) (hi : i + 5 ≤ L) (hL : L ≤ 2560) (hr : Rel μ) (hend : ∀ μ2, Rel μ2 → Go Γ 8 1531 (lvL i) [] μ2 o) : Go Γ 8 866 (lvL i) [] μ o := by
  obtain ⟨r, μ1, μ2, e1, e2, hr2⟩ := op_sorts N hN (sc (i + 1)) μ hr
  refine go_aload_n h.1 d_law_866 rfl (q := 1) rfl ?_
  refine go_arg h hi hL 1 (by decide) (by decide) d_law_867 d_law_868 d_law_870 d_law_871 d_law_872 ?_
  refine go_runV emI h.1 h.2.1 (g_X_sorts N 36 (sc (i + 1))) mi_X_sorts ml_L_97 d_law_873 rfl rfl rfl rfl rfl e1 ?_
  refine go_aload_n h.1 d_law_876 rfl (q := 2) rfl ?_
  refine go_arg h hi hL 1 (by decide) (by decide) d_law_877 d_law_878 d_law_880 d_law_881 d_law_882 ?_
  refine go_runV emI h.1 h.2.1 (g_M_sorts N 35 (sc (i + 1))) mi_M_sorts ml_L_100 d_law_883 rfl rfl rfl rfl rfl e2 ?_
  exact go_icmp_eq 1531 h.1 d_law_886 rfl (fun _ => hend μ2 hr2) (fun z => absurd rfl z)
set_option maxRecDepth 100000 in
theorem lc_19 {Γ : Cx Unit} {i L : Nat} {sc : Nat → Int32} {μ : Mem} {o : Option (Unit × Mem)} (N : Nat) (hN : 10000 ≤ N) (h : LH Γ L sc) (hi : i + 5 ≤ L) (hL : L ≤ 2560) (hr : Rel μ) (hend : ∀ μ2, Rel μ2 → Go Γ 8 1531 (lvL i) [] μ2 o) : Go Γ 8 891 (lvL i) [] μ o := by
  obtain ⟨r, μ1, μ2, e1, e2, hr2⟩ := op_image N hN (sc (i + 1)) μ hr
  refine go_aload_n h.1 d_law_891 rfl (q := 1) rfl ?_
  refine go_arg h hi hL 1 (by decide) (by decide) d_law_892 d_law_893 d_law_895 d_law_896 d_law_897 ?_
  refine go_runV emI h.1 h.2.1 (g_X_image N 35 (sc (i + 1))) mi_X_image ml_L_101 d_law_898 rfl rfl rfl rfl rfl e1 ?_
  refine go_aload_n h.1 d_law_901 rfl (q := 2) rfl ?_
  refine go_arg h hi hL 1 (by decide) (by decide) d_law_902 d_law_903 d_law_905 d_law_906 d_law_907 ?_
  refine go_runV emI h.1 h.2.1 (g_M_image N 36 (sc (i + 1))) mi_M_image ml_L_104 d_law_908 rfl rfl rfl rfl rfl e2 ?_
  exact go_icmp_eq 1531 h.1 d_law_911 rfl (fun _ => hend μ2 hr2) (fun z => absurd rfl z)
set_option maxRecDepth 100000 in
theorem lc_20 {Γ : Cx Unit} {i L : Nat} {sc : Nat → Int32} {μ : Mem} {o : Option (Unit × Mem)} (N : Nat) (hN : 10000 ≤ N) (h : LH Γ L sc) (hi : i + 5 ≤ L) (hL : L ≤ 2560) (hr : Rel μ) (hend : ∀ μ2, Rel μ2 → Go Γ 8 1531 (lvL i) [] μ2 o) : Go Γ 8 916 (lvL i) [] μ o := by
  obtain ⟨r, μ1, μ2, e1, e2, hr2⟩ := op_comes N hN (sc (i + 1)) (sc (i + 2)) μ hr
  refine go_aload_n h.1 d_law_916 rfl (q := 1) rfl ?_
  refine go_arg h hi hL 1 (by decide) (by decide) d_law_917 d_law_918 d_law_920 d_law_921 d_law_922 ?_
  refine go_arg h hi hL 2 (by decide) (by decide) d_law_923 d_law_924 d_law_926 d_law_927 d_law_928 ?_
  refine go_runV emI h.1 h.2.1 (g_X_comes N 36 (sc (i + 1)) (sc (i + 2))) mi_X_comes ml_L_105 d_law_929 rfl rfl rfl rfl rfl e1 ?_
  refine go_aload_n h.1 d_law_932 rfl (q := 2) rfl ?_
  refine go_arg h hi hL 1 (by decide) (by decide) d_law_933 d_law_934 d_law_936 d_law_937 d_law_938 ?_
  refine go_arg h hi hL 2 (by decide) (by decide) d_law_939 d_law_940 d_law_942 d_law_943 d_law_944 ?_
  refine go_runV emI h.1 h.2.1 (g_M_comes2 N 37 (sc (i + 1)) (sc (i + 2))) mi_M_comes2 ml_L_108 d_law_945 rfl rfl rfl rfl rfl e2 ?_
  exact go_icmp_eq 1531 h.1 d_law_948 rfl (fun _ => hend μ2 hr2) (fun z => absurd rfl z)
set_option maxRecDepth 100000 in
theorem lc_21 {Γ : Cx Unit} {i L : Nat} {sc : Nat → Int32} {μ : Mem} {o : Option (Unit × Mem)} (N : Nat) (hN : 10000 ≤ N) (h : LH Γ L sc) (hi : i + 5 ≤ L) (hL : L ≤ 2560) (hr : Rel μ) (hend : ∀ μ2, Rel μ2 → Go Γ 8 1531 (lvL i) [] μ2 o) : Go Γ 8 953 (lvL i) [] μ o := by
  obtain ⟨r, μ1, μ2, e1, e2, hr2⟩ := op_ranks N hN (sc (i + 1)) (sc (i + 2)) μ hr
  refine go_aload_n h.1 d_law_953 rfl (q := 1) rfl ?_
  refine go_arg h hi hL 1 (by decide) (by decide) d_law_954 d_law_955 d_law_957 d_law_958 d_law_959 ?_
  refine go_arg h hi hL 2 (by decide) (by decide) d_law_960 d_law_961 d_law_963 d_law_964 d_law_965 ?_
  refine go_runV emI h.1 h.2.1 (g_X_ranks N 35 (sc (i + 1)) (sc (i + 2))) mi_X_ranks ml_L_109 d_law_966 rfl rfl rfl rfl rfl e1 ?_
  refine go_aload_n h.1 d_law_969 rfl (q := 2) rfl ?_
  refine go_arg h hi hL 1 (by decide) (by decide) d_law_970 d_law_971 d_law_973 d_law_974 d_law_975 ?_
  refine go_arg h hi hL 2 (by decide) (by decide) d_law_976 d_law_977 d_law_979 d_law_980 d_law_981 ?_
  refine go_runV emI h.1 h.2.1 (g_M_ranks N 36 (sc (i + 1)) (sc (i + 2))) mi_M_ranks ml_L_112 d_law_982 rfl rfl rfl rfl rfl e2 ?_
  exact go_icmp_eq 1531 h.1 d_law_985 rfl (fun _ => hend μ2 hr2) (fun z => absurd rfl z)
set_option maxRecDepth 100000 in
theorem lc_22 {Γ : Cx Unit} {i L : Nat} {sc : Nat → Int32} {μ : Mem} {o : Option (Unit × Mem)} (N : Nat) (hN : 10000 ≤ N) (h : LH Γ L sc) (hi : i + 5 ≤ L) (hL : L ≤ 2560) (hr : Rel μ) (hend : ∀ μ2, Rel μ2 → Go Γ 8 1531 (lvL i) [] μ2 o) : Go Γ 8 990 (lvL i) [] μ o := by
  obtain ⟨r, μ1, μ2, e1, e2, hr2⟩ := op_leaves N hN (sc (i + 1)) (sc (i + 2)) μ hr
  refine go_aload_n h.1 d_law_990 rfl (q := 1) rfl ?_
  refine go_arg h hi hL 1 (by decide) (by decide) d_law_991 d_law_992 d_law_994 d_law_995 d_law_996 ?_
  refine go_arg h hi hL 2 (by decide) (by decide) d_law_997 d_law_998 d_law_1000 d_law_1001 d_law_1002 ?_
  refine go_runV emI h.1 h.2.1 (g_X_leaves N 35 (sc (i + 1)) (sc (i + 2))) mi_X_leaves ml_L_113 d_law_1003 rfl rfl rfl rfl rfl e1 ?_
  refine go_aload_n h.1 d_law_1006 rfl (q := 2) rfl ?_
  refine go_arg h hi hL 1 (by decide) (by decide) d_law_1007 d_law_1008 d_law_1010 d_law_1011 d_law_1012 ?_
  refine go_arg h hi hL 2 (by decide) (by decide) d_law_1013 d_law_1014 d_law_1016 d_law_1017 d_law_1018 ?_
  refine go_runV emI h.1 h.2.1 (g_M_leaves N 36 (sc (i + 1)) (sc (i + 2))) mi_M_leaves ml_L_116 d_law_1019 rfl rfl rfl rfl rfl e2 ?_
  exact go_icmp_eq 1531 h.1 d_law_1022 rfl (fun _ => hend μ2 hr2) (fun z => absurd rfl z)
set_option maxRecDepth 100000 in
theorem lc_23 {Γ : Cx Unit} {i L : Nat} {sc : Nat → Int32} {μ : Mem} {o : Option (Unit × Mem)} (N : Nat) (hN : 10000 ≤ N) (h : LH Γ L sc) (hi : i + 5 ≤ L) (hL : L ≤ 2560) (hr : Rel μ) (hend : ∀ μ2, Rel μ2 → Go Γ 8 1531 (lvL i) [] μ2 o) : Go Γ 8 1027 (lvL i) [] μ o := by
  obtain ⟨r, μ1, μ2, e1, e2, hr2⟩ := op_orders N hN (sc (i + 1)) μ hr
  refine go_aload_n h.1 d_law_1027 rfl (q := 1) rfl ?_
  refine go_arg h hi hL 1 (by decide) (by decide) d_law_1028 d_law_1029 d_law_1031 d_law_1032 d_law_1033 ?_
  refine go_runV emI h.1 h.2.1 (g_X_orders N 36 (sc (i + 1))) mi_X_orders ml_L_117 d_law_1034 rfl rfl rfl rfl rfl e1 ?_
  refine go_aload_n h.1 d_law_1037 rfl (q := 2) rfl ?_
  refine go_arg h hi hL 1 (by decide) (by decide) d_law_1038 d_law_1039 d_law_1041 d_law_1042 d_law_1043 ?_
  refine go_runV emI h.1 h.2.1 (g_M_orders N 37 (sc (i + 1))) mi_M_orders ml_L_120 d_law_1044 rfl rfl rfl rfl rfl e2 ?_
  exact go_icmp_eq 1531 h.1 d_law_1047 rfl (fun _ => hend μ2 hr2) (fun z => absurd rfl z)
set_option maxRecDepth 100000 in
theorem lc_24 {Γ : Cx Unit} {i L : Nat} {sc : Nat → Int32} {μ : Mem} {o : Option (Unit × Mem)} (N : Nat) (hN : 10000 ≤ N) (h : LH Γ L sc) (hi : i + 5 ≤ L) (hL : L ≤ 2560) (hr : Rel μ) (hend : ∀ μ2, Rel μ2 → Go Γ 8 1531 (lvL i) [] μ2 o) : Go Γ 8 1052 (lvL i) [] μ o := by
  obtain ⟨r, μ1, μ2, e1, e2, hr2⟩ := op_merges N hN (sc (i + 1)) (sc (i + 2)) μ hr
  refine go_aload_n h.1 d_law_1052 rfl (q := 1) rfl ?_
  refine go_arg h hi hL 1 (by decide) (by decide) d_law_1053 d_law_1054 d_law_1056 d_law_1057 d_law_1058 ?_
  refine go_arg h hi hL 2 (by decide) (by decide) d_law_1059 d_law_1060 d_law_1062 d_law_1063 d_law_1064 ?_
  refine go_runV emI h.1 h.2.1 (g_X_merges N 36 (sc (i + 1)) (sc (i + 2))) mi_X_merges ml_L_121 d_law_1065 rfl rfl rfl rfl rfl e1 ?_
  refine go_aload_n h.1 d_law_1068 rfl (q := 2) rfl ?_
  refine go_arg h hi hL 1 (by decide) (by decide) d_law_1069 d_law_1070 d_law_1072 d_law_1073 d_law_1074 ?_
  refine go_arg h hi hL 2 (by decide) (by decide) d_law_1075 d_law_1076 d_law_1078 d_law_1079 d_law_1080 ?_
  refine go_runV emI h.1 h.2.1 (g_M_merges N 36 (sc (i + 1)) (sc (i + 2))) mi_M_merges ml_L_124 d_law_1081 rfl rfl rfl rfl rfl e2 ?_
  exact go_icmp_eq 1531 h.1 d_law_1084 rfl (fun _ => hend μ2 hr2) (fun z => absurd rfl z)
set_option maxRecDepth 100000 in
theorem lc_25 {Γ : Cx Unit} {i L : Nat} {sc : Nat → Int32} {μ : Mem} {o : Option (Unit × Mem)} (N : Nat) (hN : 10000 ≤ N) (h : LH Γ L sc) (hi : i + 5 ≤ L) (hL : L ≤ 2560) (hr : Rel μ) (hend : ∀ μ2, Rel μ2 → Go Γ 8 1531 (lvL i) [] μ2 o) : Go Γ 8 1089 (lvL i) [] μ o := by
  obtain ⟨r, μ1, μ2, e1, e2, hr2⟩ := op_idle N hN (sc (i + 1)) μ hr
  refine go_aload_n h.1 d_law_1089 rfl (q := 1) rfl ?_
  refine go_arg h hi hL 1 (by decide) (by decide) d_law_1090 d_law_1091 d_law_1093 d_law_1094 d_law_1095 ?_
  refine go_runV emL h.1 h.2.1 (g_X_idle N 37 (sc (i + 1))) mi_X_idle ml_L_125 d_law_1096 rfl rfl rfl rfl rfl e1 ?_
  refine go_aload_n h.1 d_law_1099 rfl (q := 2) rfl ?_
  refine go_arg h hi hL 1 (by decide) (by decide) d_law_1100 d_law_1101 d_law_1103 d_law_1104 d_law_1105 ?_
  refine go_runV emL h.1 h.2.1 (g_M_idle N 37 (sc (i + 1))) mi_M_idle ml_L_128 d_law_1106 rfl rfl rfl rfl rfl e2 ?_
  refine go_lcmp h.1 d_law_1109 ?_
  exact go_if_eq 1531 h.1 d_law_1110 rfl (fun _ => hend μ2 hr2) (fun z => absurd (lg_eq.mpr rfl) z)
set_option maxRecDepth 100000 in
theorem lc_26 {Γ : Cx Unit} {i L : Nat} {sc : Nat → Int32} {μ : Mem} {o : Option (Unit × Mem)} (N : Nat) (hN : 10000 ≤ N) (h : LH Γ L sc) (hi : i + 5 ≤ L) (hL : L ≤ 2560) (hr : Rel μ) (hend : ∀ μ2, Rel μ2 → Go Γ 8 1531 (lvL i) [] μ2 o) : Go Γ 8 1115 (lvL i) [] μ o := by
  obtain ⟨r, μ1, μ2, e1, e2, hr2⟩ := op_spare N hN (sc (i + 1)) μ hr
  refine go_aload_n h.1 d_law_1115 rfl (q := 1) rfl ?_
  refine go_arg h hi hL 1 (by decide) (by decide) d_law_1116 d_law_1117 d_law_1119 d_law_1120 d_law_1121 ?_
  refine go_runV emL h.1 h.2.1 (g_X_spare N 35 (sc (i + 1))) mi_X_spare ml_L_129 d_law_1122 rfl rfl rfl rfl rfl e1 ?_
  refine go_aload_n h.1 d_law_1125 rfl (q := 2) rfl ?_
  refine go_arg h hi hL 1 (by decide) (by decide) d_law_1126 d_law_1127 d_law_1129 d_law_1130 d_law_1131 ?_
  refine go_runV emL h.1 h.2.1 (g_M_spare N 34 (sc (i + 1))) mi_M_spare ml_L_132 d_law_1132 rfl rfl rfl rfl rfl e2 ?_
  refine go_lcmp h.1 d_law_1135 ?_
  exact go_if_eq 1531 h.1 d_law_1136 rfl (fun _ => hend μ2 hr2) (fun z => absurd (lg_eq.mpr rfl) z)
set_option maxRecDepth 100000 in
theorem lc_27 {Γ : Cx Unit} {i L : Nat} {sc : Nat → Int32} {μ : Mem} {o : Option (Unit × Mem)} (N : Nat) (hN : 10000 ≤ N) (h : LH Γ L sc) (hi : i + 5 ≤ L) (hL : L ≤ 2560) (hr : Rel μ) (hend : ∀ μ2, Rel μ2 → Go Γ 8 1531 (lvL i) [] μ2 o) : Go Γ 8 1141 (lvL i) [] μ o := by
  obtain ⟨r, μ1, μ2, e1, e2, hr2⟩ := op_thins N hN (sc (i + 1)) μ hr
  refine go_aload_n h.1 d_law_1141 rfl (q := 1) rfl ?_
  refine go_arg h hi hL 1 (by decide) (by decide) d_law_1142 d_law_1143 d_law_1145 d_law_1146 d_law_1147 ?_
  refine go_runV emI h.1 h.2.1 (g_X_thins N 35 (sc (i + 1))) mi_X_thins ml_L_133 d_law_1148 rfl rfl rfl rfl rfl e1 ?_
  refine go_aload_n h.1 d_law_1151 rfl (q := 2) rfl ?_
  refine go_arg h hi hL 1 (by decide) (by decide) d_law_1152 d_law_1153 d_law_1155 d_law_1156 d_law_1157 ?_
  refine go_runV emI h.1 h.2.1 (g_M_thins N 34 (sc (i + 1))) mi_M_thins ml_L_136 d_law_1158 rfl rfl rfl rfl rfl e2 ?_
  exact go_icmp_eq 1531 h.1 d_law_1161 rfl (fun _ => hend μ2 hr2) (fun z => absurd rfl z)
set_option maxRecDepth 100000 in
theorem lc_28 {Γ : Cx Unit} {i L : Nat} {sc : Nat → Int32} {μ : Mem} {o : Option (Unit × Mem)} (N : Nat) (hN : 10000 ≤ N) (h : LH Γ L sc) (hi : i + 5 ≤ L) (hL : L ≤ 2560) (hr : Rel μ) (hend : ∀ μ2, Rel μ2 → Go Γ 8 1531 (lvL i) [] μ2 o) : Go Γ 8 1166 (lvL i) [] μ o := by
  obtain ⟨r, μ1, μ2, e1, e2, hr2⟩ := op_broken N hN (sc (i + 1)) (sc (i + 2)) (sc (i + 3)) μ hr
  refine go_aload_n h.1 d_law_1166 rfl (q := 1) rfl ?_
  refine go_arg h hi hL 1 (by decide) (by decide) d_law_1167 d_law_1168 d_law_1170 d_law_1171 d_law_1172 ?_
  refine go_arg h hi hL 2 (by decide) (by decide) d_law_1173 d_law_1174 d_law_1176 d_law_1177 d_law_1178 ?_
  refine go_arg h hi hL 3 (by decide) (by decide) d_law_1179 d_law_1180 d_law_1182 d_law_1183 d_law_1184 ?_
  refine go_runV emI h.1 h.2.1 (g_X_broken N 37 (sc (i + 1)) (sc (i + 2)) (sc (i + 3))) mi_X_broken ml_L_137 d_law_1185 rfl rfl rfl rfl rfl e1 ?_
  refine go_aload_n h.1 d_law_1188 rfl (q := 2) rfl ?_
  refine go_arg h hi hL 1 (by decide) (by decide) d_law_1189 d_law_1190 d_law_1192 d_law_1193 d_law_1194 ?_
  refine go_arg h hi hL 2 (by decide) (by decide) d_law_1195 d_law_1196 d_law_1198 d_law_1199 d_law_1200 ?_
  refine go_arg h hi hL 3 (by decide) (by decide) d_law_1201 d_law_1202 d_law_1204 d_law_1205 d_law_1206 ?_
  refine go_runV emI h.1 h.2.1 (g_M_broken N 35 (sc (i + 1)) (sc (i + 2)) (sc (i + 3))) mi_M_broken ml_L_140 d_law_1207 rfl rfl rfl rfl rfl e2 ?_
  exact go_icmp_eq 1531 h.1 d_law_1210 rfl (fun _ => hend μ2 hr2) (fun z => absurd rfl z)
set_option maxRecDepth 100000 in
theorem lc_29 {Γ : Cx Unit} {i L : Nat} {sc : Nat → Int32} {μ : Mem} {o : Option (Unit × Mem)} (N : Nat) (hN : 10000 ≤ N) (h : LH Γ L sc) (hi : i + 5 ≤ L) (hL : L ≤ 2560) (hr : Rel μ) (hend : ∀ μ2, Rel μ2 → Go Γ 8 1531 (lvL i) [] μ2 o) : Go Γ 8 1215 (lvL i) [] μ o := by
  obtain ⟨r, μ1, μ2, e1, e2, hr2⟩ := op_tests N hN (sc (i + 1)) μ hr
  refine go_aload_n h.1 d_law_1215 rfl (q := 1) rfl ?_
  refine go_arg h hi hL 1 (by decide) (by decide) d_law_1216 d_law_1217 d_law_1219 d_law_1220 d_law_1221 ?_
  refine go_runV emI h.1 h.2.1 (g_X_tests N 35 (sc (i + 1))) mi_X_tests ml_L_141 d_law_1222 rfl rfl rfl rfl rfl e1 ?_
  refine go_aload_n h.1 d_law_1225 rfl (q := 2) rfl ?_
  refine go_arg h hi hL 1 (by decide) (by decide) d_law_1226 d_law_1227 d_law_1229 d_law_1230 d_law_1231 ?_
  refine go_runV emI h.1 h.2.1 (g_M_tests N 34 (sc (i + 1))) mi_M_tests ml_L_144 d_law_1232 rfl rfl rfl rfl rfl e2 ?_
  exact go_icmp_eq 1531 h.1 d_law_1235 rfl (fun _ => hend μ2 hr2) (fun z => absurd rfl z)
set_option maxRecDepth 100000 in
theorem lc_30 {Γ : Cx Unit} {i L : Nat} {sc : Nat → Int32} {μ : Mem} {o : Option (Unit × Mem)} (N : Nat) (hN : 10000 ≤ N) (h : LH Γ L sc) (hi : i + 5 ≤ L) (hL : L ≤ 2560) (hr : Rel μ) (hend : ∀ μ2, Rel μ2 → Go Γ 8 1531 (lvL i) [] μ2 o) : Go Γ 8 1240 (lvL i) [] μ o := by
  obtain ⟨r, μ1, μ2, e1, e2, hr2⟩ := op_helps N hN (sc (i + 1)) μ hr
  refine go_aload_n h.1 d_law_1240 rfl (q := 1) rfl ?_
  refine go_arg h hi hL 1 (by decide) (by decide) d_law_1241 d_law_1242 d_law_1244 d_law_1245 d_law_1246 ?_
  refine go_runV emI h.1 h.2.1 (g_X_helps N 37 (sc (i + 1))) mi_X_helps ml_L_145 d_law_1247 rfl rfl rfl rfl rfl e1 ?_
  refine go_aload_n h.1 d_law_1250 rfl (q := 2) rfl ?_
  refine go_arg h hi hL 1 (by decide) (by decide) d_law_1251 d_law_1252 d_law_1254 d_law_1255 d_law_1256 ?_
  refine go_runV emI h.1 h.2.1 (g_M_helps N 37 (sc (i + 1))) mi_M_helps ml_L_148 d_law_1257 rfl rfl rfl rfl rfl e2 ?_
  exact go_icmp_eq 1531 h.1 d_law_1260 rfl (fun _ => hend μ2 hr2) (fun z => absurd rfl z)
set_option maxRecDepth 100000 in
theorem lc_31 {Γ : Cx Unit} {i L : Nat} {sc : Nat → Int32} {μ : Mem} {o : Option (Unit × Mem)} (N : Nat) (hN : 10000 ≤ N) (h : LH Γ L sc) (hi : i + 5 ≤ L) (hL : L ≤ 2560) (hr : Rel μ) (hend : ∀ μ2, Rel μ2 → Go Γ 8 1531 (lvL i) [] μ2 o) : Go Γ 8 1265 (lvL i) [] μ o := by
  obtain ⟨r, μ1, μ2, e1, e2, hr2⟩ := op_same N hN (sc (i + 1)) (sc (i + 2)) μ hr
  refine go_aload_n h.1 d_law_1265 rfl (q := 1) rfl ?_
  refine go_arg h hi hL 1 (by decide) (by decide) d_law_1266 d_law_1267 d_law_1269 d_law_1270 d_law_1271 ?_
  refine go_arg h hi hL 2 (by decide) (by decide) d_law_1272 d_law_1273 d_law_1275 d_law_1276 d_law_1277 ?_
  refine go_runV emI h.1 h.2.1 (g_X_same N 36 (sc (i + 1)) (sc (i + 2))) mi_X_same ml_L_149 d_law_1278 rfl rfl rfl rfl rfl e1 ?_
  refine go_aload_n h.1 d_law_1281 rfl (q := 2) rfl ?_
  refine go_arg h hi hL 1 (by decide) (by decide) d_law_1282 d_law_1283 d_law_1285 d_law_1286 d_law_1287 ?_
  refine go_arg h hi hL 2 (by decide) (by decide) d_law_1288 d_law_1289 d_law_1291 d_law_1292 d_law_1293 ?_
  refine go_runV emI h.1 h.2.1 (g_M_same N 37 (sc (i + 1)) (sc (i + 2))) mi_M_same ml_L_152 d_law_1294 rfl rfl rfl rfl rfl e2 ?_
  exact go_icmp_eq 1531 h.1 d_law_1297 rfl (fun _ => hend μ2 hr2) (fun z => absurd rfl z)
set_option maxRecDepth 100000 in
theorem lc_32 {Γ : Cx Unit} {i L : Nat} {sc : Nat → Int32} {μ : Mem} {o : Option (Unit × Mem)} (N : Nat) (hN : 10000 ≤ N) (h : LH Γ L sc) (hi : i + 5 ≤ L) (hL : L ≤ 2560) (hr : Rel μ) (hend : ∀ μ2, Rel μ2 → Go Γ 8 1531 (lvL i) [] μ2 o) : Go Γ 8 1302 (lvL i) [] μ o := by
  obtain ⟨r, μ1, μ2, e1, e2, hr2⟩ := op_within N hN (sc (i + 1)) (sc (i + 2)) μ hr
  refine go_aload_n h.1 d_law_1302 rfl (q := 1) rfl ?_
  refine go_arg h hi hL 1 (by decide) (by decide) d_law_1303 d_law_1304 d_law_1306 d_law_1307 d_law_1308 ?_
  refine go_arg h hi hL 2 (by decide) (by decide) d_law_1309 d_law_1310 d_law_1312 d_law_1313 d_law_1314 ?_
  refine go_runV emI h.1 h.2.1 (g_X_within N 24 (sc (i + 1)) (sc (i + 2))) mi_X_within ml_L_153 d_law_1315 rfl rfl rfl rfl rfl e1 ?_
  refine go_aload_n h.1 d_law_1318 rfl (q := 2) rfl ?_
  refine go_arg h hi hL 1 (by decide) (by decide) d_law_1319 d_law_1320 d_law_1322 d_law_1323 d_law_1324 ?_
  refine go_arg h hi hL 2 (by decide) (by decide) d_law_1325 d_law_1326 d_law_1328 d_law_1329 d_law_1330 ?_
  refine go_runV emI h.1 h.2.1 (g_M_within N 36 (sc (i + 1)) (sc (i + 2))) mi_M_within ml_L_156 d_law_1331 rfl rfl rfl rfl rfl e2 ?_
  exact go_icmp_eq 1531 h.1 d_law_1334 rfl (fun _ => hend μ2 hr2) (fun z => absurd rfl z)
set_option maxRecDepth 100000 in
theorem lc_33 {Γ : Cx Unit} {i L : Nat} {sc : Nat → Int32} {μ : Mem} {o : Option (Unit × Mem)} (N : Nat) (hN : 10000 ≤ N) (h : LH Γ L sc) (hi : i + 5 ≤ L) (hL : L ≤ 2560) (hr : Rel μ) (hend : ∀ μ2, Rel μ2 → Go Γ 8 1531 (lvL i) [] μ2 o) : Go Γ 8 1339 (lvL i) [] μ o := by
  obtain ⟨r, μ1, μ2, e1, e2, hr2⟩ := op_least N hN (sc (i + 1)) μ hr
  refine go_aload_n h.1 d_law_1339 rfl (q := 1) rfl ?_
  refine go_arg h hi hL 1 (by decide) (by decide) d_law_1340 d_law_1341 d_law_1343 d_law_1344 d_law_1345 ?_
  refine go_runV emI h.1 h.2.1 (g_X_least N 20 (sc (i + 1))) mi_X_least ml_L_157 d_law_1346 rfl rfl rfl rfl rfl e1 ?_
  refine go_aload_n h.1 d_law_1349 rfl (q := 2) rfl ?_
  refine go_arg h hi hL 1 (by decide) (by decide) d_law_1350 d_law_1351 d_law_1353 d_law_1354 d_law_1355 ?_
  refine go_runV emI h.1 h.2.1 (g_M_least N 33 (sc (i + 1))) mi_M_least ml_L_160 d_law_1356 rfl rfl rfl rfl rfl e2 ?_
  exact go_icmp_eq 1531 h.1 d_law_1359 rfl (fun _ => hend μ2 hr2) (fun z => absurd rfl z)
set_option maxRecDepth 100000 in
theorem lc_34 {Γ : Cx Unit} {i L : Nat} {sc : Nat → Int32} {μ : Mem} {o : Option (Unit × Mem)} (N : Nat) (hN : 10000 ≤ N) (h : LH Γ L sc) (hi : i + 5 ≤ L) (hL : L ≤ 2560) (hr : Rel μ) (hend : ∀ μ2, Rel μ2 → Go Γ 8 1531 (lvL i) [] μ2 o) : Go Γ 8 1364 (lvL i) [] μ o := by
  obtain ⟨r, μ1, μ2, e1, e2, hr2⟩ := op_shallow N hN (sc (i + 1)) μ hr
  refine go_aload_n h.1 d_law_1364 rfl (q := 1) rfl ?_
  refine go_arg h hi hL 1 (by decide) (by decide) d_law_1365 d_law_1366 d_law_1368 d_law_1369 d_law_1370 ?_
  refine go_runV emI h.1 h.2.1 (g_X_shallow N 20 (sc (i + 1))) mi_X_shallow ml_L_161 d_law_1371 rfl rfl rfl rfl rfl e1 ?_
  refine go_aload_n h.1 d_law_1374 rfl (q := 2) rfl ?_
  refine go_arg h hi hL 1 (by decide) (by decide) d_law_1375 d_law_1376 d_law_1378 d_law_1379 d_law_1380 ?_
  refine go_runV emI h.1 h.2.1 (g_M_shallow N 33 (sc (i + 1))) mi_M_shallow ml_L_164 d_law_1381 rfl rfl rfl rfl rfl e2 ?_
  exact go_icmp_eq 1531 h.1 d_law_1384 rfl (fun _ => hend μ2 hr2) (fun z => absurd rfl z)
set_option maxRecDepth 100000 in
theorem lc_35 {Γ : Cx Unit} {i L : Nat} {sc : Nat → Int32} {μ : Mem} {o : Option (Unit × Mem)} (N : Nat) (hN : 10000 ≤ N) (h : LH Γ L sc) (hi : i + 5 ≤ L) (hL : L ≤ 2560) (hr : Rel μ) (hend : ∀ μ2, Rel μ2 → Go Γ 8 1531 (lvL i) [] μ2 o) : Go Γ 8 1389 (lvL i) [] μ o := by
  obtain ⟨r, μ1, μ2, e1, e2, hr2⟩ := op_rest N hN (sc (i + 1)) μ hr
  refine go_aload_n h.1 d_law_1389 rfl (q := 1) rfl ?_
  refine go_arg h hi hL 1 (by decide) (by decide) d_law_1390 d_law_1391 d_law_1393 d_law_1394 d_law_1395 ?_
  refine go_runV emI h.1 h.2.1 (g_X_rest N 25 (sc (i + 1))) mi_X_rest ml_L_165 d_law_1396 rfl rfl rfl rfl rfl e1 ?_
  refine go_aload_n h.1 d_law_1399 rfl (q := 2) rfl ?_
  refine go_arg h hi hL 1 (by decide) (by decide) d_law_1400 d_law_1401 d_law_1403 d_law_1404 d_law_1405 ?_
  refine go_runV emI h.1 h.2.1 (g_M_rest N 24 (sc (i + 1))) mi_M_rest ml_L_168 d_law_1406 rfl rfl rfl rfl rfl e2 ?_
  exact go_icmp_eq 1531 h.1 d_law_1409 rfl (fun _ => hend μ2 hr2) (fun z => absurd rfl z)
set_option maxRecDepth 100000 in
theorem lc_36 {Γ : Cx Unit} {i L : Nat} {sc : Nat → Int32} {μ : Mem} {o : Option (Unit × Mem)} (N : Nat) (hN : 10000 ≤ N) (h : LH Γ L sc) (hi : i + 5 ≤ L) (hL : L ≤ 2560) (hr : Rel μ) (hend : ∀ μ2, Rel μ2 → Go Γ 8 1531 (lvL i) [] μ2 o) : Go Γ 8 1414 (lvL i) [] μ o := by
  obtain ⟨r, μ1, μ2, e1, e2, hr2⟩ := op_has N (sc (i + 1)) (sc (i + 2)) μ hr
  refine go_aload_n h.1 d_law_1414 rfl (q := 1) rfl ?_
  refine go_arg h hi hL 1 (by decide) (by decide) d_law_1415 d_law_1416 d_law_1418 d_law_1419 d_law_1420 ?_
  refine go_arg h hi hL 2 (by decide) (by decide) d_law_1421 d_law_1422 d_law_1424 d_law_1425 d_law_1426 ?_
  refine go_runV emI h.1 h.2.1 (g_X_has N 38 (sc (i + 1)) (sc (i + 2))) mi_X_has ml_L_169 d_law_1427 rfl rfl rfl rfl rfl e1 ?_
  refine go_aload_n h.1 d_law_1430 rfl (q := 2) rfl ?_
  refine go_arg h hi hL 1 (by decide) (by decide) d_law_1431 d_law_1432 d_law_1434 d_law_1435 d_law_1436 ?_
  refine go_arg h hi hL 2 (by decide) (by decide) d_law_1437 d_law_1438 d_law_1440 d_law_1441 d_law_1442 ?_
  refine go_runV emI h.1 h.2.1 (g_M_has N 37 (sc (i + 1)) (sc (i + 2))) mi_M_has ml_L_172 d_law_1443 rfl rfl rfl rfl rfl e2 ?_
  exact go_icmp_eq 1531 h.1 d_law_1446 rfl (fun _ => hend μ2 hr2) (fun z => absurd rfl z)
set_option maxRecDepth 100000 in
theorem lc_37 {Γ : Cx Unit} {i L : Nat} {sc : Nat → Int32} {μ : Mem} {o : Option (Unit × Mem)} (N : Nat) (hN : 10000 ≤ N) (h : LH Γ L sc) (hi : i + 5 ≤ L) (hL : L ≤ 2560) (hr : Rel μ) (hend : ∀ μ2, Rel μ2 → Go Γ 8 1531 (lvL i) [] μ2 o) : Go Γ 8 1451 (lvL i) [] μ o := by
  obtain ⟨r, μ1, μ2, e1, e2, hr2⟩ := op_count N hN (sc (i + 1)) μ hr
  refine go_aload_n h.1 d_law_1451 rfl (q := 1) rfl ?_
  refine go_arg h hi hL 1 (by decide) (by decide) d_law_1452 d_law_1453 d_law_1455 d_law_1456 d_law_1457 ?_
  refine go_runV emI h.1 h.2.1 (g_X_count N 38 (sc (i + 1))) mi_X_count ml_L_173 d_law_1458 rfl rfl rfl rfl rfl e1 ?_
  refine go_aload_n h.1 d_law_1461 rfl (q := 2) rfl ?_
  refine go_arg h hi hL 1 (by decide) (by decide) d_law_1462 d_law_1463 d_law_1465 d_law_1466 d_law_1467 ?_
  refine go_runV emI h.1 h.2.1 (g_M_count N 39 (sc (i + 1))) mi_M_count ml_L_176 d_law_1468 rfl rfl rfl rfl rfl e2 ?_
  exact go_icmp_eq 1531 h.1 d_law_1471 rfl (fun _ => hend μ2 hr2) (fun z => absurd rfl z)
