/-! the law: decode rows and links (written by gen_law.py) -/
theorem d_law_0 : decode code 0 = .ok (.new 8, 3) := by decide +kernel
theorem d_law_3 : decode code 3 = .ok (.dup, 1) := by decide +kernel
theorem d_law_4 : decode code 4 = .ok (.invokespecial 15, 3) := by decide +kernel
theorem d_law_7 : decode code 7 = .ok (.astore_n 1, 1) := by decide +kernel
theorem d_law_8 : decode code 8 = .ok (.new 16, 3) := by decide +kernel
theorem d_law_11 : decode code 11 = .ok (.dup, 1) := by decide +kernel
theorem d_law_12 : decode code 12 = .ok (.invokespecial 18, 3) := by decide +kernel
theorem d_law_15 : decode code 15 = .ok (.astore_n 2, 1) := by decide +kernel
theorem d_law_16 : decode code 16 = .ok (.iconst 1, 1) := by decide +kernel
theorem d_law_17 : decode code 17 = .ok (.newarray .long, 2) := by decide +kernel
theorem d_law_19 : decode code 19 = .ok (.astore_n 3, 1) := by decide +kernel
theorem d_law_20 : decode code 20 = .ok (.iconst 0, 1) := by decide +kernel
theorem d_law_21 : decode code 21 = .ok (.istore 4, 2) := by decide +kernel
theorem d_law_23 : decode code 23 = .ok (.iload 4, 2) := by decide +kernel
theorem d_law_25 : decode code 25 = .ok (.aload_n 0, 1) := by decide +kernel
theorem d_law_26 : decode code 26 = .ok (.arraylength, 1) := by decide +kernel
theorem d_law_27 : decode code 27 = .ok (.iconst 5, 1) := by decide +kernel
theorem d_law_28 : decode code 28 = .ok (.isub, 1) := by decide +kernel
theorem d_law_29 : decode code 29 = .ok (.if_icmp .gt 1508, 3) := by decide +kernel
theorem d_law_32 : decode code 32 = .ok (.aload_n 0, 1) := by decide +kernel
theorem d_law_33 : decode code 33 = .ok (.iload 4, 2) := by decide +kernel
theorem d_law_35 : decode code 35 = .ok (.iaload, 1) := by decide +kernel
theorem d_law_36 : decode code 36 = .ok (.bipush 63, 2) := by decide +kernel
theorem d_law_38 : decode code 38 = .ok (.iand, 1) := by decide +kernel
theorem d_law_39 : decode code 39 = .ok (.tableswitch 1492 0 38 #[169, 194, 219, 244, 293, 354, 403, 440, 477, 514, 551, 576, 601, 626, 703, 740, 765, 802, 827, 852, 877, 914, 951, 988, 1013, 1050, 1076, 1102, 1127, 1176, 1201, 1226, 1263, 1300, 1325, 1350, 1375, 1412, 1437], 169) := by decide +kernel
theorem d_law_208 : decode code 208 = .ok (.aload_n 1, 1) := by decide +kernel
theorem d_law_209 : decode code 209 = .ok (.aload_n 0, 1) := by decide +kernel
theorem d_law_210 : decode code 210 = .ok (.iload 4, 2) := by decide +kernel
theorem d_law_212 : decode code 212 = .ok (.iconst 1, 1) := by decide +kernel
theorem d_law_213 : decode code 213 = .ok (.iadd, 1) := by decide +kernel
theorem d_law_214 : decode code 214 = .ok (.iaload, 1) := by decide +kernel
theorem d_law_215 : decode code 215 = .ok (.invokevirtual 19, 3) := by decide +kernel
theorem d_law_218 : decode code 218 = .ok (.aload_n 2, 1) := by decide +kernel
theorem d_law_219 : decode code 219 = .ok (.aload_n 0, 1) := by decide +kernel
theorem d_law_220 : decode code 220 = .ok (.iload 4, 2) := by decide +kernel
theorem d_law_222 : decode code 222 = .ok (.iconst 1, 1) := by decide +kernel
theorem d_law_223 : decode code 223 = .ok (.iadd, 1) := by decide +kernel
theorem d_law_224 : decode code 224 = .ok (.iaload, 1) := by decide +kernel
theorem d_law_225 : decode code 225 = .ok (.invokevirtual 23, 3) := by decide +kernel
theorem d_law_228 : decode code 228 = .ok (.if_icmp .eq 1303, 3) := by decide +kernel
theorem d_law_231 : decode code 231 = .ok (.iconst 0, 1) := by decide +kernel
theorem d_law_232 : decode code 232 = .ok (.ireturn, 1) := by decide +kernel
theorem d_law_233 : decode code 233 = .ok (.aload_n 1, 1) := by decide +kernel
theorem d_law_234 : decode code 234 = .ok (.aload_n 0, 1) := by decide +kernel
theorem d_law_235 : decode code 235 = .ok (.iload 4, 2) := by decide +kernel
theorem d_law_237 : decode code 237 = .ok (.iconst 1, 1) := by decide +kernel
theorem d_law_238 : decode code 238 = .ok (.iadd, 1) := by decide +kernel
theorem d_law_239 : decode code 239 = .ok (.iaload, 1) := by decide +kernel
theorem d_law_240 : decode code 240 = .ok (.invokevirtual 24, 3) := by decide +kernel
theorem d_law_243 : decode code 243 = .ok (.aload_n 2, 1) := by decide +kernel
theorem d_law_244 : decode code 244 = .ok (.aload_n 0, 1) := by decide +kernel
theorem d_law_245 : decode code 245 = .ok (.iload 4, 2) := by decide +kernel
theorem d_law_247 : decode code 247 = .ok (.iconst 1, 1) := by decide +kernel
theorem d_law_248 : decode code 248 = .ok (.iadd, 1) := by decide +kernel
theorem d_law_249 : decode code 249 = .ok (.iaload, 1) := by decide +kernel
theorem d_law_250 : decode code 250 = .ok (.invokevirtual 28, 3) := by decide +kernel
theorem d_law_253 : decode code 253 = .ok (.if_icmp .eq 1278, 3) := by decide +kernel
theorem d_law_256 : decode code 256 = .ok (.iconst 0, 1) := by decide +kernel
theorem d_law_257 : decode code 257 = .ok (.ireturn, 1) := by decide +kernel
theorem d_law_258 : decode code 258 = .ok (.aload_n 1, 1) := by decide +kernel
theorem d_law_259 : decode code 259 = .ok (.aload_n 0, 1) := by decide +kernel
theorem d_law_260 : decode code 260 = .ok (.iload 4, 2) := by decide +kernel
theorem d_law_262 : decode code 262 = .ok (.iconst 1, 1) := by decide +kernel
theorem d_law_263 : decode code 263 = .ok (.iadd, 1) := by decide +kernel
theorem d_law_264 : decode code 264 = .ok (.iaload, 1) := by decide +kernel
theorem d_law_265 : decode code 265 = .ok (.invokevirtual 29, 3) := by decide +kernel
theorem d_law_268 : decode code 268 = .ok (.aload_n 2, 1) := by decide +kernel
theorem d_law_269 : decode code 269 = .ok (.aload_n 0, 1) := by decide +kernel
theorem d_law_270 : decode code 270 = .ok (.iload 4, 2) := by decide +kernel
theorem d_law_272 : decode code 272 = .ok (.iconst 1, 1) := by decide +kernel
theorem d_law_273 : decode code 273 = .ok (.iadd, 1) := by decide +kernel
theorem d_law_274 : decode code 274 = .ok (.iaload, 1) := by decide +kernel
theorem d_law_275 : decode code 275 = .ok (.invokevirtual 32, 3) := by decide +kernel
theorem d_law_278 : decode code 278 = .ok (.if_icmp .eq 1253, 3) := by decide +kernel
theorem d_law_281 : decode code 281 = .ok (.iconst 0, 1) := by decide +kernel
theorem d_law_282 : decode code 282 = .ok (.ireturn, 1) := by decide +kernel
theorem d_law_283 : decode code 283 = .ok (.aload_n 1, 1) := by decide +kernel
theorem d_law_284 : decode code 284 = .ok (.aload_n 0, 1) := by decide +kernel
theorem d_law_285 : decode code 285 = .ok (.iload 4, 2) := by decide +kernel
theorem d_law_287 : decode code 287 = .ok (.iconst 1, 1) := by decide +kernel
theorem d_law_288 : decode code 288 = .ok (.iadd, 1) := by decide +kernel
theorem d_law_289 : decode code 289 = .ok (.iaload, 1) := by decide +kernel
theorem d_law_290 : decode code 290 = .ok (.aload_n 0, 1) := by decide +kernel
theorem d_law_291 : decode code 291 = .ok (.iload 4, 2) := by decide +kernel
theorem d_law_293 : decode code 293 = .ok (.iconst 2, 1) := by decide +kernel
theorem d_law_294 : decode code 294 = .ok (.iadd, 1) := by decide +kernel
theorem d_law_295 : decode code 295 = .ok (.iaload, 1) := by decide +kernel
theorem d_law_296 : decode code 296 = .ok (.aload_n 0, 1) := by decide +kernel
theorem d_law_297 : decode code 297 = .ok (.iload 4, 2) := by decide +kernel
theorem d_law_299 : decode code 299 = .ok (.iconst 3, 1) := by decide +kernel
theorem d_law_300 : decode code 300 = .ok (.iadd, 1) := by decide +kernel
theorem d_law_301 : decode code 301 = .ok (.iaload, 1) := by decide +kernel
theorem d_law_302 : decode code 302 = .ok (.invokevirtual 33, 3) := by decide +kernel
theorem d_law_305 : decode code 305 = .ok (.aload_n 2, 1) := by decide +kernel
theorem d_law_306 : decode code 306 = .ok (.aload_n 0, 1) := by decide +kernel
theorem d_law_307 : decode code 307 = .ok (.iload 4, 2) := by decide +kernel
theorem d_law_309 : decode code 309 = .ok (.iconst 1, 1) := by decide +kernel
theorem d_law_310 : decode code 310 = .ok (.iadd, 1) := by decide +kernel
theorem d_law_311 : decode code 311 = .ok (.iaload, 1) := by decide +kernel
theorem d_law_312 : decode code 312 = .ok (.aload_n 0, 1) := by decide +kernel
theorem d_law_313 : decode code 313 = .ok (.iload 4, 2) := by decide +kernel
theorem d_law_315 : decode code 315 = .ok (.iconst 2, 1) := by decide +kernel
theorem d_law_316 : decode code 316 = .ok (.iadd, 1) := by decide +kernel
theorem d_law_317 : decode code 317 = .ok (.iaload, 1) := by decide +kernel
theorem d_law_318 : decode code 318 = .ok (.aload_n 0, 1) := by decide +kernel
theorem d_law_319 : decode code 319 = .ok (.iload 4, 2) := by decide +kernel
theorem d_law_321 : decode code 321 = .ok (.iconst 3, 1) := by decide +kernel
theorem d_law_322 : decode code 322 = .ok (.iadd, 1) := by decide +kernel
theorem d_law_323 : decode code 323 = .ok (.iaload, 1) := by decide +kernel
theorem d_law_324 : decode code 324 = .ok (.invokevirtual 37, 3) := by decide +kernel
theorem d_law_327 : decode code 327 = .ok (.if_icmp .eq 1204, 3) := by decide +kernel
theorem d_law_330 : decode code 330 = .ok (.iconst 0, 1) := by decide +kernel
theorem d_law_331 : decode code 331 = .ok (.ireturn, 1) := by decide +kernel
theorem d_law_332 : decode code 332 = .ok (.aload_n 1, 1) := by decide +kernel
theorem d_law_333 : decode code 333 = .ok (.aload_n 0, 1) := by decide +kernel
theorem d_law_334 : decode code 334 = .ok (.iload 4, 2) := by decide +kernel
theorem d_law_336 : decode code 336 = .ok (.iconst 1, 1) := by decide +kernel
theorem d_law_337 : decode code 337 = .ok (.iadd, 1) := by decide +kernel
theorem d_law_338 : decode code 338 = .ok (.iaload, 1) := by decide +kernel
theorem d_law_339 : decode code 339 = .ok (.aload_n 0, 1) := by decide +kernel
theorem d_law_340 : decode code 340 = .ok (.iload 4, 2) := by decide +kernel
theorem d_law_342 : decode code 342 = .ok (.iconst 2, 1) := by decide +kernel
theorem d_law_343 : decode code 343 = .ok (.iadd, 1) := by decide +kernel
theorem d_law_344 : decode code 344 = .ok (.iaload, 1) := by decide +kernel
theorem d_law_345 : decode code 345 = .ok (.aload_n 0, 1) := by decide +kernel
theorem d_law_346 : decode code 346 = .ok (.iload 4, 2) := by decide +kernel
theorem d_law_348 : decode code 348 = .ok (.iconst 3, 1) := by decide +kernel
theorem d_law_349 : decode code 349 = .ok (.iadd, 1) := by decide +kernel
theorem d_law_350 : decode code 350 = .ok (.iaload, 1) := by decide +kernel
theorem d_law_351 : decode code 351 = .ok (.aload_n 0, 1) := by decide +kernel
theorem d_law_352 : decode code 352 = .ok (.iload 4, 2) := by decide +kernel
theorem d_law_354 : decode code 354 = .ok (.iconst 4, 1) := by decide +kernel
theorem d_law_355 : decode code 355 = .ok (.iadd, 1) := by decide +kernel
theorem d_law_356 : decode code 356 = .ok (.iaload, 1) := by decide +kernel
theorem d_law_357 : decode code 357 = .ok (.invokevirtual 38, 3) := by decide +kernel
theorem d_law_360 : decode code 360 = .ok (.aload_n 2, 1) := by decide +kernel
theorem d_law_361 : decode code 361 = .ok (.aload_n 0, 1) := by decide +kernel
theorem d_law_362 : decode code 362 = .ok (.iload 4, 2) := by decide +kernel
theorem d_law_364 : decode code 364 = .ok (.iconst 1, 1) := by decide +kernel
theorem d_law_365 : decode code 365 = .ok (.iadd, 1) := by decide +kernel
theorem d_law_366 : decode code 366 = .ok (.iaload, 1) := by decide +kernel
theorem d_law_367 : decode code 367 = .ok (.aload_n 0, 1) := by decide +kernel
theorem d_law_368 : decode code 368 = .ok (.iload 4, 2) := by decide +kernel
theorem d_law_370 : decode code 370 = .ok (.iconst 2, 1) := by decide +kernel
theorem d_law_371 : decode code 371 = .ok (.iadd, 1) := by decide +kernel
theorem d_law_372 : decode code 372 = .ok (.iaload, 1) := by decide +kernel
theorem d_law_373 : decode code 373 = .ok (.aload_n 0, 1) := by decide +kernel
theorem d_law_374 : decode code 374 = .ok (.iload 4, 2) := by decide +kernel
theorem d_law_376 : decode code 376 = .ok (.iconst 3, 1) := by decide +kernel
theorem d_law_377 : decode code 377 = .ok (.iadd, 1) := by decide +kernel
theorem d_law_378 : decode code 378 = .ok (.iaload, 1) := by decide +kernel
theorem d_law_379 : decode code 379 = .ok (.aload_n 0, 1) := by decide +kernel
theorem d_law_380 : decode code 380 = .ok (.iload 4, 2) := by decide +kernel
theorem d_law_382 : decode code 382 = .ok (.iconst 4, 1) := by decide +kernel
theorem d_law_383 : decode code 383 = .ok (.iadd, 1) := by decide +kernel
theorem d_law_384 : decode code 384 = .ok (.iaload, 1) := by decide +kernel
theorem d_law_385 : decode code 385 = .ok (.invokevirtual 42, 3) := by decide +kernel
theorem d_law_388 : decode code 388 = .ok (.if_icmp .eq 1143, 3) := by decide +kernel
theorem d_law_391 : decode code 391 = .ok (.iconst 0, 1) := by decide +kernel
theorem d_law_392 : decode code 392 = .ok (.ireturn, 1) := by decide +kernel
theorem d_law_393 : decode code 393 = .ok (.aload_n 1, 1) := by decide +kernel
theorem d_law_394 : decode code 394 = .ok (.aload_n 0, 1) := by decide +kernel
theorem d_law_395 : decode code 395 = .ok (.iload 4, 2) := by decide +kernel
theorem d_law_397 : decode code 397 = .ok (.iconst 1, 1) := by decide +kernel
theorem d_law_398 : decode code 398 = .ok (.iadd, 1) := by decide +kernel
theorem d_law_399 : decode code 399 = .ok (.iaload, 1) := by decide +kernel
theorem d_law_400 : decode code 400 = .ok (.aload_n 0, 1) := by decide +kernel
theorem d_law_401 : decode code 401 = .ok (.iload 4, 2) := by decide +kernel
theorem d_law_403 : decode code 403 = .ok (.iconst 2, 1) := by decide +kernel
theorem d_law_404 : decode code 404 = .ok (.iadd, 1) := by decide +kernel
theorem d_law_405 : decode code 405 = .ok (.iaload, 1) := by decide +kernel
theorem d_law_406 : decode code 406 = .ok (.aload_n 0, 1) := by decide +kernel
theorem d_law_407 : decode code 407 = .ok (.iload 4, 2) := by decide +kernel
theorem d_law_409 : decode code 409 = .ok (.iconst 3, 1) := by decide +kernel
theorem d_law_410 : decode code 410 = .ok (.iadd, 1) := by decide +kernel
theorem d_law_411 : decode code 411 = .ok (.iaload, 1) := by decide +kernel
theorem d_law_412 : decode code 412 = .ok (.invokevirtual 43, 3) := by decide +kernel
theorem d_law_415 : decode code 415 = .ok (.aload_n 2, 1) := by decide +kernel
theorem d_law_416 : decode code 416 = .ok (.aload_n 0, 1) := by decide +kernel
theorem d_law_417 : decode code 417 = .ok (.iload 4, 2) := by decide +kernel
theorem d_law_419 : decode code 419 = .ok (.iconst 1, 1) := by decide +kernel
theorem d_law_420 : decode code 420 = .ok (.iadd, 1) := by decide +kernel
theorem d_law_421 : decode code 421 = .ok (.iaload, 1) := by decide +kernel
theorem d_law_422 : decode code 422 = .ok (.aload_n 0, 1) := by decide +kernel
theorem d_law_423 : decode code 423 = .ok (.iload 4, 2) := by decide +kernel
theorem d_law_425 : decode code 425 = .ok (.iconst 2, 1) := by decide +kernel
theorem d_law_426 : decode code 426 = .ok (.iadd, 1) := by decide +kernel
theorem d_law_427 : decode code 427 = .ok (.iaload, 1) := by decide +kernel
theorem d_law_428 : decode code 428 = .ok (.aload_n 0, 1) := by decide +kernel
theorem d_law_429 : decode code 429 = .ok (.iload 4, 2) := by decide +kernel
theorem d_law_431 : decode code 431 = .ok (.iconst 3, 1) := by decide +kernel
theorem d_law_432 : decode code 432 = .ok (.iadd, 1) := by decide +kernel
theorem d_law_433 : decode code 433 = .ok (.iaload, 1) := by decide +kernel
theorem d_law_434 : decode code 434 = .ok (.invokevirtual 46, 3) := by decide +kernel
theorem d_law_437 : decode code 437 = .ok (.if_icmp .eq 1094, 3) := by decide +kernel
theorem d_law_440 : decode code 440 = .ok (.iconst 0, 1) := by decide +kernel
theorem d_law_441 : decode code 441 = .ok (.ireturn, 1) := by decide +kernel
theorem d_law_442 : decode code 442 = .ok (.aload_n 1, 1) := by decide +kernel
theorem d_law_443 : decode code 443 = .ok (.aload_n 0, 1) := by decide +kernel
theorem d_law_444 : decode code 444 = .ok (.iload 4, 2) := by decide +kernel
theorem d_law_446 : decode code 446 = .ok (.iconst 1, 1) := by decide +kernel
theorem d_law_447 : decode code 447 = .ok (.iadd, 1) := by decide +kernel
theorem d_law_448 : decode code 448 = .ok (.iaload, 1) := by decide +kernel
theorem d_law_449 : decode code 449 = .ok (.aload_n 0, 1) := by decide +kernel
theorem d_law_450 : decode code 450 = .ok (.iload 4, 2) := by decide +kernel
theorem d_law_452 : decode code 452 = .ok (.iconst 2, 1) := by decide +kernel
theorem d_law_453 : decode code 453 = .ok (.iadd, 1) := by decide +kernel
theorem d_law_454 : decode code 454 = .ok (.iaload, 1) := by decide +kernel
theorem d_law_455 : decode code 455 = .ok (.invokevirtual 47, 3) := by decide +kernel
theorem d_law_458 : decode code 458 = .ok (.aload_n 2, 1) := by decide +kernel
theorem d_law_459 : decode code 459 = .ok (.aload_n 0, 1) := by decide +kernel
theorem d_law_460 : decode code 460 = .ok (.iload 4, 2) := by decide +kernel
theorem d_law_462 : decode code 462 = .ok (.iconst 1, 1) := by decide +kernel
theorem d_law_463 : decode code 463 = .ok (.iadd, 1) := by decide +kernel
theorem d_law_464 : decode code 464 = .ok (.iaload, 1) := by decide +kernel
theorem d_law_465 : decode code 465 = .ok (.aload_n 0, 1) := by decide +kernel
theorem d_law_466 : decode code 466 = .ok (.iload 4, 2) := by decide +kernel
theorem d_law_468 : decode code 468 = .ok (.iconst 2, 1) := by decide +kernel
theorem d_law_469 : decode code 469 = .ok (.iadd, 1) := by decide +kernel
theorem d_law_470 : decode code 470 = .ok (.iaload, 1) := by decide +kernel
theorem d_law_471 : decode code 471 = .ok (.invokevirtual 51, 3) := by decide +kernel
theorem d_law_474 : decode code 474 = .ok (.if_icmp .eq 1057, 3) := by decide +kernel
theorem d_law_477 : decode code 477 = .ok (.iconst 0, 1) := by decide +kernel
theorem d_law_478 : decode code 478 = .ok (.ireturn, 1) := by decide +kernel
theorem d_law_479 : decode code 479 = .ok (.aload_n 1, 1) := by decide +kernel
theorem d_law_480 : decode code 480 = .ok (.aload_n 0, 1) := by decide +kernel
theorem d_law_481 : decode code 481 = .ok (.iload 4, 2) := by decide +kernel
theorem d_law_483 : decode code 483 = .ok (.iconst 1, 1) := by decide +kernel
theorem d_law_484 : decode code 484 = .ok (.iadd, 1) := by decide +kernel
theorem d_law_485 : decode code 485 = .ok (.iaload, 1) := by decide +kernel
theorem d_law_486 : decode code 486 = .ok (.aload_n 0, 1) := by decide +kernel
theorem d_law_487 : decode code 487 = .ok (.iload 4, 2) := by decide +kernel
theorem d_law_489 : decode code 489 = .ok (.iconst 2, 1) := by decide +kernel
theorem d_law_490 : decode code 490 = .ok (.iadd, 1) := by decide +kernel
theorem d_law_491 : decode code 491 = .ok (.iaload, 1) := by decide +kernel
theorem d_law_492 : decode code 492 = .ok (.invokevirtual 52, 3) := by decide +kernel
theorem d_law_495 : decode code 495 = .ok (.aload_n 2, 1) := by decide +kernel
theorem d_law_496 : decode code 496 = .ok (.aload_n 0, 1) := by decide +kernel
theorem d_law_497 : decode code 497 = .ok (.iload 4, 2) := by decide +kernel
theorem d_law_499 : decode code 499 = .ok (.iconst 1, 1) := by decide +kernel
theorem d_law_500 : decode code 500 = .ok (.iadd, 1) := by decide +kernel
theorem d_law_501 : decode code 501 = .ok (.iaload, 1) := by decide +kernel
theorem d_law_502 : decode code 502 = .ok (.aload_n 0, 1) := by decide +kernel
theorem d_law_503 : decode code 503 = .ok (.iload 4, 2) := by decide +kernel
theorem d_law_505 : decode code 505 = .ok (.iconst 2, 1) := by decide +kernel
theorem d_law_506 : decode code 506 = .ok (.iadd, 1) := by decide +kernel
theorem d_law_507 : decode code 507 = .ok (.iaload, 1) := by decide +kernel
theorem d_law_508 : decode code 508 = .ok (.invokevirtual 55, 3) := by decide +kernel
theorem d_law_511 : decode code 511 = .ok (.if_icmp .eq 1020, 3) := by decide +kernel
theorem d_law_514 : decode code 514 = .ok (.iconst 0, 1) := by decide +kernel
theorem d_law_515 : decode code 515 = .ok (.ireturn, 1) := by decide +kernel
theorem d_law_516 : decode code 516 = .ok (.aload_n 1, 1) := by decide +kernel
theorem d_law_517 : decode code 517 = .ok (.aload_n 0, 1) := by decide +kernel
theorem d_law_518 : decode code 518 = .ok (.iload 4, 2) := by decide +kernel
theorem d_law_520 : decode code 520 = .ok (.iconst 1, 1) := by decide +kernel
theorem d_law_521 : decode code 521 = .ok (.iadd, 1) := by decide +kernel
theorem d_law_522 : decode code 522 = .ok (.iaload, 1) := by decide +kernel
theorem d_law_523 : decode code 523 = .ok (.aload_n 0, 1) := by decide +kernel
theorem d_law_524 : decode code 524 = .ok (.iload 4, 2) := by decide +kernel
theorem d_law_526 : decode code 526 = .ok (.iconst 2, 1) := by decide +kernel
theorem d_law_527 : decode code 527 = .ok (.iadd, 1) := by decide +kernel
theorem d_law_528 : decode code 528 = .ok (.iaload, 1) := by decide +kernel
theorem d_law_529 : decode code 529 = .ok (.invokevirtual 56, 3) := by decide +kernel
theorem d_law_532 : decode code 532 = .ok (.aload_n 2, 1) := by decide +kernel
theorem d_law_533 : decode code 533 = .ok (.aload_n 0, 1) := by decide +kernel
theorem d_law_534 : decode code 534 = .ok (.iload 4, 2) := by decide +kernel
theorem d_law_536 : decode code 536 = .ok (.iconst 1, 1) := by decide +kernel
theorem d_law_537 : decode code 537 = .ok (.iadd, 1) := by decide +kernel
theorem d_law_538 : decode code 538 = .ok (.iaload, 1) := by decide +kernel
theorem d_law_539 : decode code 539 = .ok (.aload_n 0, 1) := by decide +kernel
theorem d_law_540 : decode code 540 = .ok (.iload 4, 2) := by decide +kernel
theorem d_law_542 : decode code 542 = .ok (.iconst 2, 1) := by decide +kernel
theorem d_law_543 : decode code 543 = .ok (.iadd, 1) := by decide +kernel
theorem d_law_544 : decode code 544 = .ok (.iaload, 1) := by decide +kernel
theorem d_law_545 : decode code 545 = .ok (.invokevirtual 59, 3) := by decide +kernel
theorem d_law_548 : decode code 548 = .ok (.if_icmp .eq 983, 3) := by decide +kernel
theorem d_law_551 : decode code 551 = .ok (.iconst 0, 1) := by decide +kernel
theorem d_law_552 : decode code 552 = .ok (.ireturn, 1) := by decide +kernel
theorem d_law_553 : decode code 553 = .ok (.aload_n 1, 1) := by decide +kernel
theorem d_law_554 : decode code 554 = .ok (.aload_n 0, 1) := by decide +kernel
theorem d_law_555 : decode code 555 = .ok (.iload 4, 2) := by decide +kernel
theorem d_law_557 : decode code 557 = .ok (.iconst 1, 1) := by decide +kernel
theorem d_law_558 : decode code 558 = .ok (.iadd, 1) := by decide +kernel
theorem d_law_559 : decode code 559 = .ok (.iaload, 1) := by decide +kernel
theorem d_law_560 : decode code 560 = .ok (.aload_n 0, 1) := by decide +kernel
theorem d_law_561 : decode code 561 = .ok (.iload 4, 2) := by decide +kernel
theorem d_law_563 : decode code 563 = .ok (.iconst 2, 1) := by decide +kernel
theorem d_law_564 : decode code 564 = .ok (.iadd, 1) := by decide +kernel
theorem d_law_565 : decode code 565 = .ok (.iaload, 1) := by decide +kernel
theorem d_law_566 : decode code 566 = .ok (.invokevirtual 60, 3) := by decide +kernel
theorem d_law_569 : decode code 569 = .ok (.aload_n 2, 1) := by decide +kernel
theorem d_law_570 : decode code 570 = .ok (.aload_n 0, 1) := by decide +kernel
theorem d_law_571 : decode code 571 = .ok (.iload 4, 2) := by decide +kernel
theorem d_law_573 : decode code 573 = .ok (.iconst 1, 1) := by decide +kernel
theorem d_law_574 : decode code 574 = .ok (.iadd, 1) := by decide +kernel
theorem d_law_575 : decode code 575 = .ok (.iaload, 1) := by decide +kernel
theorem d_law_576 : decode code 576 = .ok (.aload_n 0, 1) := by decide +kernel
theorem d_law_577 : decode code 577 = .ok (.iload 4, 2) := by decide +kernel
theorem d_law_579 : decode code 579 = .ok (.iconst 2, 1) := by decide +kernel
theorem d_law_580 : decode code 580 = .ok (.iadd, 1) := by decide +kernel
theorem d_law_581 : decode code 581 = .ok (.iaload, 1) := by decide +kernel
theorem d_law_582 : decode code 582 = .ok (.invokevirtual 63, 3) := by decide +kernel
theorem d_law_585 : decode code 585 = .ok (.if_icmp .eq 946, 3) := by decide +kernel
theorem d_law_588 : decode code 588 = .ok (.iconst 0, 1) := by decide +kernel
theorem d_law_589 : decode code 589 = .ok (.ireturn, 1) := by decide +kernel
theorem d_law_590 : decode code 590 = .ok (.aload_n 1, 1) := by decide +kernel
theorem d_law_591 : decode code 591 = .ok (.aload_n 0, 1) := by decide +kernel
theorem d_law_592 : decode code 592 = .ok (.iload 4, 2) := by decide +kernel
theorem d_law_594 : decode code 594 = .ok (.iconst 1, 1) := by decide +kernel
theorem d_law_595 : decode code 595 = .ok (.iadd, 1) := by decide +kernel
theorem d_law_596 : decode code 596 = .ok (.iaload, 1) := by decide +kernel
theorem d_law_597 : decode code 597 = .ok (.invokevirtual 64, 3) := by decide +kernel
theorem d_law_600 : decode code 600 = .ok (.aload_n 2, 1) := by decide +kernel
theorem d_law_601 : decode code 601 = .ok (.aload_n 0, 1) := by decide +kernel
theorem d_law_602 : decode code 602 = .ok (.iload 4, 2) := by decide +kernel
theorem d_law_604 : decode code 604 = .ok (.iconst 1, 1) := by decide +kernel
theorem d_law_605 : decode code 605 = .ok (.iadd, 1) := by decide +kernel
theorem d_law_606 : decode code 606 = .ok (.iaload, 1) := by decide +kernel
theorem d_law_607 : decode code 607 = .ok (.invokevirtual 67, 3) := by decide +kernel
theorem d_law_610 : decode code 610 = .ok (.if_icmp .eq 921, 3) := by decide +kernel
theorem d_law_613 : decode code 613 = .ok (.iconst 0, 1) := by decide +kernel
theorem d_law_614 : decode code 614 = .ok (.ireturn, 1) := by decide +kernel
theorem d_law_615 : decode code 615 = .ok (.aload_n 1, 1) := by decide +kernel
theorem d_law_616 : decode code 616 = .ok (.aload_n 0, 1) := by decide +kernel
theorem d_law_617 : decode code 617 = .ok (.iload 4, 2) := by decide +kernel
theorem d_law_619 : decode code 619 = .ok (.iconst 1, 1) := by decide +kernel
theorem d_law_620 : decode code 620 = .ok (.iadd, 1) := by decide +kernel
theorem d_law_621 : decode code 621 = .ok (.iaload, 1) := by decide +kernel
theorem d_law_622 : decode code 622 = .ok (.invokevirtual 68, 3) := by decide +kernel
theorem d_law_625 : decode code 625 = .ok (.aload_n 2, 1) := by decide +kernel
theorem d_law_626 : decode code 626 = .ok (.aload_n 0, 1) := by decide +kernel
theorem d_law_627 : decode code 627 = .ok (.iload 4, 2) := by decide +kernel
theorem d_law_629 : decode code 629 = .ok (.iconst 1, 1) := by decide +kernel
theorem d_law_630 : decode code 630 = .ok (.iadd, 1) := by decide +kernel
theorem d_law_631 : decode code 631 = .ok (.iaload, 1) := by decide +kernel
theorem d_law_632 : decode code 632 = .ok (.invokevirtual 71, 3) := by decide +kernel
theorem d_law_635 : decode code 635 = .ok (.if_icmp .eq 896, 3) := by decide +kernel
theorem d_law_638 : decode code 638 = .ok (.iconst 0, 1) := by decide +kernel
theorem d_law_639 : decode code 639 = .ok (.ireturn, 1) := by decide +kernel
theorem d_law_640 : decode code 640 = .ok (.aload_n 1, 1) := by decide +kernel
theorem d_law_641 : decode code 641 = .ok (.aload_n 0, 1) := by decide +kernel
theorem d_law_642 : decode code 642 = .ok (.iload 4, 2) := by decide +kernel
theorem d_law_644 : decode code 644 = .ok (.iconst 1, 1) := by decide +kernel
theorem d_law_645 : decode code 645 = .ok (.iadd, 1) := by decide +kernel
theorem d_law_646 : decode code 646 = .ok (.iaload, 1) := by decide +kernel
theorem d_law_647 : decode code 647 = .ok (.invokevirtual 72, 3) := by decide +kernel
theorem d_law_650 : decode code 650 = .ok (.aload_n 2, 1) := by decide +kernel
theorem d_law_651 : decode code 651 = .ok (.aload_n 0, 1) := by decide +kernel
theorem d_law_652 : decode code 652 = .ok (.iload 4, 2) := by decide +kernel
theorem d_law_654 : decode code 654 = .ok (.iconst 1, 1) := by decide +kernel
theorem d_law_655 : decode code 655 = .ok (.iadd, 1) := by decide +kernel
theorem d_law_656 : decode code 656 = .ok (.iaload, 1) := by decide +kernel
theorem d_law_657 : decode code 657 = .ok (.invokevirtual 75, 3) := by decide +kernel
theorem d_law_660 : decode code 660 = .ok (.if_icmp .eq 871, 3) := by decide +kernel
theorem d_law_663 : decode code 663 = .ok (.iconst 0, 1) := by decide +kernel
theorem d_law_664 : decode code 664 = .ok (.ireturn, 1) := by decide +kernel
theorem d_law_665 : decode code 665 = .ok (.aload_n 1, 1) := by decide +kernel
theorem d_law_666 : decode code 666 = .ok (.aload_n 0, 1) := by decide +kernel
theorem d_law_667 : decode code 667 = .ok (.iload 4, 2) := by decide +kernel
theorem d_law_669 : decode code 669 = .ok (.iconst 1, 1) := by decide +kernel
theorem d_law_670 : decode code 670 = .ok (.iadd, 1) := by decide +kernel
theorem d_law_671 : decode code 671 = .ok (.iaload, 1) := by decide +kernel
theorem d_law_672 : decode code 672 = .ok (.aload_n 0, 1) := by decide +kernel
theorem d_law_673 : decode code 673 = .ok (.iload 4, 2) := by decide +kernel
theorem d_law_675 : decode code 675 = .ok (.iconst 2, 1) := by decide +kernel
theorem d_law_676 : decode code 676 = .ok (.iadd, 1) := by decide +kernel
theorem d_law_677 : decode code 677 = .ok (.iaload, 1) := by decide +kernel
theorem d_law_678 : decode code 678 = .ok (.aload_n 0, 1) := by decide +kernel
theorem d_law_679 : decode code 679 = .ok (.iload 4, 2) := by decide +kernel
theorem d_law_681 : decode code 681 = .ok (.iconst 3, 1) := by decide +kernel
theorem d_law_682 : decode code 682 = .ok (.iadd, 1) := by decide +kernel
theorem d_law_683 : decode code 683 = .ok (.iaload, 1) := by decide +kernel
theorem d_law_684 : decode code 684 = .ok (.ifCond .eq 7, 3) := by decide +kernel
theorem d_law_687 : decode code 687 = .ok (.iconst 1, 1) := by decide +kernel
theorem d_law_688 : decode code 688 = .ok (.goto 4, 3) := by decide +kernel
theorem d_law_691 : decode code 691 = .ok (.iconst 0, 1) := by decide +kernel
theorem d_law_692 : decode code 692 = .ok (.aload_n 0, 1) := by decide +kernel
theorem d_law_693 : decode code 693 = .ok (.iload 4, 2) := by decide +kernel
theorem d_law_695 : decode code 695 = .ok (.iconst 4, 1) := by decide +kernel
theorem d_law_696 : decode code 696 = .ok (.iadd, 1) := by decide +kernel
theorem d_law_697 : decode code 697 = .ok (.iaload, 1) := by decide +kernel
theorem d_law_698 : decode code 698 = .ok (.invokevirtual 76, 3) := by decide +kernel
theorem d_law_701 : decode code 701 = .ok (.aload_n 2, 1) := by decide +kernel
theorem d_law_702 : decode code 702 = .ok (.aload_n 0, 1) := by decide +kernel
theorem d_law_703 : decode code 703 = .ok (.iload 4, 2) := by decide +kernel
theorem d_law_705 : decode code 705 = .ok (.iconst 1, 1) := by decide +kernel
theorem d_law_706 : decode code 706 = .ok (.iadd, 1) := by decide +kernel
theorem d_law_707 : decode code 707 = .ok (.iaload, 1) := by decide +kernel
theorem d_law_708 : decode code 708 = .ok (.aload_n 0, 1) := by decide +kernel
theorem d_law_709 : decode code 709 = .ok (.iload 4, 2) := by decide +kernel
theorem d_law_711 : decode code 711 = .ok (.iconst 2, 1) := by decide +kernel
theorem d_law_712 : decode code 712 = .ok (.iadd, 1) := by decide +kernel
theorem d_law_713 : decode code 713 = .ok (.iaload, 1) := by decide +kernel
theorem d_law_714 : decode code 714 = .ok (.aload_n 0, 1) := by decide +kernel
theorem d_law_715 : decode code 715 = .ok (.iload 4, 2) := by decide +kernel
theorem d_law_717 : decode code 717 = .ok (.iconst 3, 1) := by decide +kernel
theorem d_law_718 : decode code 718 = .ok (.iadd, 1) := by decide +kernel
theorem d_law_719 : decode code 719 = .ok (.iaload, 1) := by decide +kernel
theorem d_law_720 : decode code 720 = .ok (.ifCond .eq 7, 3) := by decide +kernel
theorem d_law_723 : decode code 723 = .ok (.iconst 1, 1) := by decide +kernel
theorem d_law_724 : decode code 724 = .ok (.goto 4, 3) := by decide +kernel
theorem d_law_727 : decode code 727 = .ok (.iconst 0, 1) := by decide +kernel
theorem d_law_728 : decode code 728 = .ok (.aload_n 0, 1) := by decide +kernel
theorem d_law_729 : decode code 729 = .ok (.iload 4, 2) := by decide +kernel
theorem d_law_731 : decode code 731 = .ok (.iconst 4, 1) := by decide +kernel
theorem d_law_732 : decode code 732 = .ok (.iadd, 1) := by decide +kernel
theorem d_law_733 : decode code 733 = .ok (.iaload, 1) := by decide +kernel
theorem d_law_734 : decode code 734 = .ok (.invokevirtual 80, 3) := by decide +kernel
theorem d_law_737 : decode code 737 = .ok (.if_icmp .eq 794, 3) := by decide +kernel
theorem d_law_740 : decode code 740 = .ok (.iconst 0, 1) := by decide +kernel
theorem d_law_741 : decode code 741 = .ok (.ireturn, 1) := by decide +kernel
theorem d_law_742 : decode code 742 = .ok (.aload_n 1, 1) := by decide +kernel
theorem d_law_743 : decode code 743 = .ok (.aload_n 0, 1) := by decide +kernel
theorem d_law_744 : decode code 744 = .ok (.iload 4, 2) := by decide +kernel
theorem d_law_746 : decode code 746 = .ok (.iconst 1, 1) := by decide +kernel
theorem d_law_747 : decode code 747 = .ok (.iadd, 1) := by decide +kernel
theorem d_law_748 : decode code 748 = .ok (.iaload, 1) := by decide +kernel
theorem d_law_749 : decode code 749 = .ok (.aload_n 0, 1) := by decide +kernel
theorem d_law_750 : decode code 750 = .ok (.iload 4, 2) := by decide +kernel
theorem d_law_752 : decode code 752 = .ok (.iconst 2, 1) := by decide +kernel
theorem d_law_753 : decode code 753 = .ok (.iadd, 1) := by decide +kernel
theorem d_law_754 : decode code 754 = .ok (.iaload, 1) := by decide +kernel
theorem d_law_755 : decode code 755 = .ok (.invokevirtual 81, 3) := by decide +kernel
theorem d_law_758 : decode code 758 = .ok (.aload_n 2, 1) := by decide +kernel
theorem d_law_759 : decode code 759 = .ok (.aload_n 0, 1) := by decide +kernel
theorem d_law_760 : decode code 760 = .ok (.iload 4, 2) := by decide +kernel
theorem d_law_762 : decode code 762 = .ok (.iconst 1, 1) := by decide +kernel
theorem d_law_763 : decode code 763 = .ok (.iadd, 1) := by decide +kernel
theorem d_law_764 : decode code 764 = .ok (.iaload, 1) := by decide +kernel
theorem d_law_765 : decode code 765 = .ok (.aload_n 0, 1) := by decide +kernel
theorem d_law_766 : decode code 766 = .ok (.iload 4, 2) := by decide +kernel
theorem d_law_768 : decode code 768 = .ok (.iconst 2, 1) := by decide +kernel
theorem d_law_769 : decode code 769 = .ok (.iadd, 1) := by decide +kernel
theorem d_law_770 : decode code 770 = .ok (.iaload, 1) := by decide +kernel
theorem d_law_771 : decode code 771 = .ok (.invokevirtual 84, 3) := by decide +kernel
theorem d_law_774 : decode code 774 = .ok (.if_icmp .eq 757, 3) := by decide +kernel
theorem d_law_777 : decode code 777 = .ok (.iconst 0, 1) := by decide +kernel
theorem d_law_778 : decode code 778 = .ok (.ireturn, 1) := by decide +kernel
theorem d_law_779 : decode code 779 = .ok (.aload_n 1, 1) := by decide +kernel
theorem d_law_780 : decode code 780 = .ok (.aload_n 0, 1) := by decide +kernel
theorem d_law_781 : decode code 781 = .ok (.iload 4, 2) := by decide +kernel
theorem d_law_783 : decode code 783 = .ok (.iconst 1, 1) := by decide +kernel
theorem d_law_784 : decode code 784 = .ok (.iadd, 1) := by decide +kernel
theorem d_law_785 : decode code 785 = .ok (.iaload, 1) := by decide +kernel
theorem d_law_786 : decode code 786 = .ok (.invokevirtual 85, 3) := by decide +kernel
theorem d_law_789 : decode code 789 = .ok (.aload_n 2, 1) := by decide +kernel
theorem d_law_790 : decode code 790 = .ok (.aload_n 0, 1) := by decide +kernel
theorem d_law_791 : decode code 791 = .ok (.iload 4, 2) := by decide +kernel
theorem d_law_793 : decode code 793 = .ok (.iconst 1, 1) := by decide +kernel
theorem d_law_794 : decode code 794 = .ok (.iadd, 1) := by decide +kernel
theorem d_law_795 : decode code 795 = .ok (.iaload, 1) := by decide +kernel
theorem d_law_796 : decode code 796 = .ok (.invokevirtual 88, 3) := by decide +kernel
theorem d_law_799 : decode code 799 = .ok (.if_icmp .eq 732, 3) := by decide +kernel
theorem d_law_802 : decode code 802 = .ok (.iconst 0, 1) := by decide +kernel
theorem d_law_803 : decode code 803 = .ok (.ireturn, 1) := by decide +kernel
theorem d_law_804 : decode code 804 = .ok (.aload_n 1, 1) := by decide +kernel
theorem d_law_805 : decode code 805 = .ok (.aload_n 0, 1) := by decide +kernel
theorem d_law_806 : decode code 806 = .ok (.iload 4, 2) := by decide +kernel
theorem d_law_808 : decode code 808 = .ok (.iconst 1, 1) := by decide +kernel
theorem d_law_809 : decode code 809 = .ok (.iadd, 1) := by decide +kernel
theorem d_law_810 : decode code 810 = .ok (.iaload, 1) := by decide +kernel
theorem d_law_811 : decode code 811 = .ok (.aload_n 0, 1) := by decide +kernel
theorem d_law_812 : decode code 812 = .ok (.iload 4, 2) := by decide +kernel
theorem d_law_814 : decode code 814 = .ok (.iconst 2, 1) := by decide +kernel
theorem d_law_815 : decode code 815 = .ok (.iadd, 1) := by decide +kernel
theorem d_law_816 : decode code 816 = .ok (.iaload, 1) := by decide +kernel
theorem d_law_817 : decode code 817 = .ok (.invokevirtual 89, 3) := by decide +kernel
theorem d_law_820 : decode code 820 = .ok (.aload_n 2, 1) := by decide +kernel
theorem d_law_821 : decode code 821 = .ok (.aload_n 0, 1) := by decide +kernel
theorem d_law_822 : decode code 822 = .ok (.iload 4, 2) := by decide +kernel
theorem d_law_824 : decode code 824 = .ok (.iconst 1, 1) := by decide +kernel
theorem d_law_825 : decode code 825 = .ok (.iadd, 1) := by decide +kernel
theorem d_law_826 : decode code 826 = .ok (.iaload, 1) := by decide +kernel
theorem d_law_827 : decode code 827 = .ok (.aload_n 0, 1) := by decide +kernel
theorem d_law_828 : decode code 828 = .ok (.iload 4, 2) := by decide +kernel
theorem d_law_830 : decode code 830 = .ok (.iconst 2, 1) := by decide +kernel
theorem d_law_831 : decode code 831 = .ok (.iadd, 1) := by decide +kernel
theorem d_law_832 : decode code 832 = .ok (.iaload, 1) := by decide +kernel
theorem d_law_833 : decode code 833 = .ok (.invokevirtual 92, 3) := by decide +kernel
theorem d_law_836 : decode code 836 = .ok (.if_icmp .eq 695, 3) := by decide +kernel
theorem d_law_839 : decode code 839 = .ok (.iconst 0, 1) := by decide +kernel
theorem d_law_840 : decode code 840 = .ok (.ireturn, 1) := by decide +kernel
theorem d_law_841 : decode code 841 = .ok (.aload_n 1, 1) := by decide +kernel
theorem d_law_842 : decode code 842 = .ok (.aload_n 0, 1) := by decide +kernel
theorem d_law_843 : decode code 843 = .ok (.iload 4, 2) := by decide +kernel
theorem d_law_845 : decode code 845 = .ok (.iconst 1, 1) := by decide +kernel
theorem d_law_846 : decode code 846 = .ok (.iadd, 1) := by decide +kernel
theorem d_law_847 : decode code 847 = .ok (.iaload, 1) := by decide +kernel
theorem d_law_848 : decode code 848 = .ok (.invokevirtual 93, 3) := by decide +kernel
theorem d_law_851 : decode code 851 = .ok (.aload_n 2, 1) := by decide +kernel
theorem d_law_852 : decode code 852 = .ok (.aload_n 0, 1) := by decide +kernel
theorem d_law_853 : decode code 853 = .ok (.iload 4, 2) := by decide +kernel
theorem d_law_855 : decode code 855 = .ok (.iconst 1, 1) := by decide +kernel
theorem d_law_856 : decode code 856 = .ok (.iadd, 1) := by decide +kernel
theorem d_law_857 : decode code 857 = .ok (.iaload, 1) := by decide +kernel
theorem d_law_858 : decode code 858 = .ok (.invokevirtual 96, 3) := by decide +kernel
theorem d_law_861 : decode code 861 = .ok (.if_icmp .eq 670, 3) := by decide +kernel
theorem d_law_864 : decode code 864 = .ok (.iconst 0, 1) := by decide +kernel
theorem d_law_865 : decode code 865 = .ok (.ireturn, 1) := by decide +kernel
theorem d_law_866 : decode code 866 = .ok (.aload_n 1, 1) := by decide +kernel
theorem d_law_867 : decode code 867 = .ok (.aload_n 0, 1) := by decide +kernel
theorem d_law_868 : decode code 868 = .ok (.iload 4, 2) := by decide +kernel
theorem d_law_870 : decode code 870 = .ok (.iconst 1, 1) := by decide +kernel
theorem d_law_871 : decode code 871 = .ok (.iadd, 1) := by decide +kernel
theorem d_law_872 : decode code 872 = .ok (.iaload, 1) := by decide +kernel
theorem d_law_873 : decode code 873 = .ok (.invokevirtual 97, 3) := by decide +kernel
theorem d_law_876 : decode code 876 = .ok (.aload_n 2, 1) := by decide +kernel
theorem d_law_877 : decode code 877 = .ok (.aload_n 0, 1) := by decide +kernel
theorem d_law_878 : decode code 878 = .ok (.iload 4, 2) := by decide +kernel
theorem d_law_880 : decode code 880 = .ok (.iconst 1, 1) := by decide +kernel
theorem d_law_881 : decode code 881 = .ok (.iadd, 1) := by decide +kernel
theorem d_law_882 : decode code 882 = .ok (.iaload, 1) := by decide +kernel
theorem d_law_883 : decode code 883 = .ok (.invokevirtual 100, 3) := by decide +kernel
theorem d_law_886 : decode code 886 = .ok (.if_icmp .eq 645, 3) := by decide +kernel
theorem d_law_889 : decode code 889 = .ok (.iconst 0, 1) := by decide +kernel
theorem d_law_890 : decode code 890 = .ok (.ireturn, 1) := by decide +kernel
theorem d_law_891 : decode code 891 = .ok (.aload_n 1, 1) := by decide +kernel
theorem d_law_892 : decode code 892 = .ok (.aload_n 0, 1) := by decide +kernel
theorem d_law_893 : decode code 893 = .ok (.iload 4, 2) := by decide +kernel
theorem d_law_895 : decode code 895 = .ok (.iconst 1, 1) := by decide +kernel
theorem d_law_896 : decode code 896 = .ok (.iadd, 1) := by decide +kernel
theorem d_law_897 : decode code 897 = .ok (.iaload, 1) := by decide +kernel
theorem d_law_898 : decode code 898 = .ok (.invokevirtual 101, 3) := by decide +kernel
theorem d_law_901 : decode code 901 = .ok (.aload_n 2, 1) := by decide +kernel
theorem d_law_902 : decode code 902 = .ok (.aload_n 0, 1) := by decide +kernel
theorem d_law_903 : decode code 903 = .ok (.iload 4, 2) := by decide +kernel
theorem d_law_905 : decode code 905 = .ok (.iconst 1, 1) := by decide +kernel
theorem d_law_906 : decode code 906 = .ok (.iadd, 1) := by decide +kernel
theorem d_law_907 : decode code 907 = .ok (.iaload, 1) := by decide +kernel
theorem d_law_908 : decode code 908 = .ok (.invokevirtual 104, 3) := by decide +kernel
theorem d_law_911 : decode code 911 = .ok (.if_icmp .eq 620, 3) := by decide +kernel
theorem d_law_914 : decode code 914 = .ok (.iconst 0, 1) := by decide +kernel
theorem d_law_915 : decode code 915 = .ok (.ireturn, 1) := by decide +kernel
theorem d_law_916 : decode code 916 = .ok (.aload_n 1, 1) := by decide +kernel
theorem d_law_917 : decode code 917 = .ok (.aload_n 0, 1) := by decide +kernel
theorem d_law_918 : decode code 918 = .ok (.iload 4, 2) := by decide +kernel
theorem d_law_920 : decode code 920 = .ok (.iconst 1, 1) := by decide +kernel
theorem d_law_921 : decode code 921 = .ok (.iadd, 1) := by decide +kernel
theorem d_law_922 : decode code 922 = .ok (.iaload, 1) := by decide +kernel
theorem d_law_923 : decode code 923 = .ok (.aload_n 0, 1) := by decide +kernel
theorem d_law_924 : decode code 924 = .ok (.iload 4, 2) := by decide +kernel
theorem d_law_926 : decode code 926 = .ok (.iconst 2, 1) := by decide +kernel
theorem d_law_927 : decode code 927 = .ok (.iadd, 1) := by decide +kernel
theorem d_law_928 : decode code 928 = .ok (.iaload, 1) := by decide +kernel
theorem d_law_929 : decode code 929 = .ok (.invokevirtual 105, 3) := by decide +kernel
theorem d_law_932 : decode code 932 = .ok (.aload_n 2, 1) := by decide +kernel
theorem d_law_933 : decode code 933 = .ok (.aload_n 0, 1) := by decide +kernel
theorem d_law_934 : decode code 934 = .ok (.iload 4, 2) := by decide +kernel
theorem d_law_936 : decode code 936 = .ok (.iconst 1, 1) := by decide +kernel
theorem d_law_937 : decode code 937 = .ok (.iadd, 1) := by decide +kernel
theorem d_law_938 : decode code 938 = .ok (.iaload, 1) := by decide +kernel
theorem d_law_939 : decode code 939 = .ok (.aload_n 0, 1) := by decide +kernel
theorem d_law_940 : decode code 940 = .ok (.iload 4, 2) := by decide +kernel
theorem d_law_942 : decode code 942 = .ok (.iconst 2, 1) := by decide +kernel
theorem d_law_943 : decode code 943 = .ok (.iadd, 1) := by decide +kernel
theorem d_law_944 : decode code 944 = .ok (.iaload, 1) := by decide +kernel
theorem d_law_945 : decode code 945 = .ok (.invokevirtual 108, 3) := by decide +kernel
theorem d_law_948 : decode code 948 = .ok (.if_icmp .eq 583, 3) := by decide +kernel
theorem d_law_951 : decode code 951 = .ok (.iconst 0, 1) := by decide +kernel
theorem d_law_952 : decode code 952 = .ok (.ireturn, 1) := by decide +kernel
theorem d_law_953 : decode code 953 = .ok (.aload_n 1, 1) := by decide +kernel
theorem d_law_954 : decode code 954 = .ok (.aload_n 0, 1) := by decide +kernel
theorem d_law_955 : decode code 955 = .ok (.iload 4, 2) := by decide +kernel
theorem d_law_957 : decode code 957 = .ok (.iconst 1, 1) := by decide +kernel
theorem d_law_958 : decode code 958 = .ok (.iadd, 1) := by decide +kernel
theorem d_law_959 : decode code 959 = .ok (.iaload, 1) := by decide +kernel
theorem d_law_960 : decode code 960 = .ok (.aload_n 0, 1) := by decide +kernel
theorem d_law_961 : decode code 961 = .ok (.iload 4, 2) := by decide +kernel
theorem d_law_963 : decode code 963 = .ok (.iconst 2, 1) := by decide +kernel
theorem d_law_964 : decode code 964 = .ok (.iadd, 1) := by decide +kernel
theorem d_law_965 : decode code 965 = .ok (.iaload, 1) := by decide +kernel
theorem d_law_966 : decode code 966 = .ok (.invokevirtual 109, 3) := by decide +kernel
theorem d_law_969 : decode code 969 = .ok (.aload_n 2, 1) := by decide +kernel
theorem d_law_970 : decode code 970 = .ok (.aload_n 0, 1) := by decide +kernel
theorem d_law_971 : decode code 971 = .ok (.iload 4, 2) := by decide +kernel
theorem d_law_973 : decode code 973 = .ok (.iconst 1, 1) := by decide +kernel
theorem d_law_974 : decode code 974 = .ok (.iadd, 1) := by decide +kernel
theorem d_law_975 : decode code 975 = .ok (.iaload, 1) := by decide +kernel
theorem d_law_976 : decode code 976 = .ok (.aload_n 0, 1) := by decide +kernel
theorem d_law_977 : decode code 977 = .ok (.iload 4, 2) := by decide +kernel
theorem d_law_979 : decode code 979 = .ok (.iconst 2, 1) := by decide +kernel
theorem d_law_980 : decode code 980 = .ok (.iadd, 1) := by decide +kernel
theorem d_law_981 : decode code 981 = .ok (.iaload, 1) := by decide +kernel
theorem d_law_982 : decode code 982 = .ok (.invokevirtual 112, 3) := by decide +kernel
theorem d_law_985 : decode code 985 = .ok (.if_icmp .eq 546, 3) := by decide +kernel
theorem d_law_988 : decode code 988 = .ok (.iconst 0, 1) := by decide +kernel
theorem d_law_989 : decode code 989 = .ok (.ireturn, 1) := by decide +kernel
theorem d_law_990 : decode code 990 = .ok (.aload_n 1, 1) := by decide +kernel
theorem d_law_991 : decode code 991 = .ok (.aload_n 0, 1) := by decide +kernel
theorem d_law_992 : decode code 992 = .ok (.iload 4, 2) := by decide +kernel
theorem d_law_994 : decode code 994 = .ok (.iconst 1, 1) := by decide +kernel
theorem d_law_995 : decode code 995 = .ok (.iadd, 1) := by decide +kernel
theorem d_law_996 : decode code 996 = .ok (.iaload, 1) := by decide +kernel
theorem d_law_997 : decode code 997 = .ok (.aload_n 0, 1) := by decide +kernel
theorem d_law_998 : decode code 998 = .ok (.iload 4, 2) := by decide +kernel
theorem d_law_1000 : decode code 1000 = .ok (.iconst 2, 1) := by decide +kernel
theorem d_law_1001 : decode code 1001 = .ok (.iadd, 1) := by decide +kernel
theorem d_law_1002 : decode code 1002 = .ok (.iaload, 1) := by decide +kernel
theorem d_law_1003 : decode code 1003 = .ok (.invokevirtual 113, 3) := by decide +kernel
theorem d_law_1006 : decode code 1006 = .ok (.aload_n 2, 1) := by decide +kernel
theorem d_law_1007 : decode code 1007 = .ok (.aload_n 0, 1) := by decide +kernel
theorem d_law_1008 : decode code 1008 = .ok (.iload 4, 2) := by decide +kernel
theorem d_law_1010 : decode code 1010 = .ok (.iconst 1, 1) := by decide +kernel
theorem d_law_1011 : decode code 1011 = .ok (.iadd, 1) := by decide +kernel
theorem d_law_1012 : decode code 1012 = .ok (.iaload, 1) := by decide +kernel
theorem d_law_1013 : decode code 1013 = .ok (.aload_n 0, 1) := by decide +kernel
theorem d_law_1014 : decode code 1014 = .ok (.iload 4, 2) := by decide +kernel
theorem d_law_1016 : decode code 1016 = .ok (.iconst 2, 1) := by decide +kernel
theorem d_law_1017 : decode code 1017 = .ok (.iadd, 1) := by decide +kernel
theorem d_law_1018 : decode code 1018 = .ok (.iaload, 1) := by decide +kernel
theorem d_law_1019 : decode code 1019 = .ok (.invokevirtual 116, 3) := by decide +kernel
theorem d_law_1022 : decode code 1022 = .ok (.if_icmp .eq 509, 3) := by decide +kernel
theorem d_law_1025 : decode code 1025 = .ok (.iconst 0, 1) := by decide +kernel
theorem d_law_1026 : decode code 1026 = .ok (.ireturn, 1) := by decide +kernel
theorem d_law_1027 : decode code 1027 = .ok (.aload_n 1, 1) := by decide +kernel
theorem d_law_1028 : decode code 1028 = .ok (.aload_n 0, 1) := by decide +kernel
theorem d_law_1029 : decode code 1029 = .ok (.iload 4, 2) := by decide +kernel
theorem d_law_1031 : decode code 1031 = .ok (.iconst 1, 1) := by decide +kernel
theorem d_law_1032 : decode code 1032 = .ok (.iadd, 1) := by decide +kernel
theorem d_law_1033 : decode code 1033 = .ok (.iaload, 1) := by decide +kernel
theorem d_law_1034 : decode code 1034 = .ok (.invokevirtual 117, 3) := by decide +kernel
theorem d_law_1037 : decode code 1037 = .ok (.aload_n 2, 1) := by decide +kernel
theorem d_law_1038 : decode code 1038 = .ok (.aload_n 0, 1) := by decide +kernel
theorem d_law_1039 : decode code 1039 = .ok (.iload 4, 2) := by decide +kernel
theorem d_law_1041 : decode code 1041 = .ok (.iconst 1, 1) := by decide +kernel
theorem d_law_1042 : decode code 1042 = .ok (.iadd, 1) := by decide +kernel
theorem d_law_1043 : decode code 1043 = .ok (.iaload, 1) := by decide +kernel
theorem d_law_1044 : decode code 1044 = .ok (.invokevirtual 120, 3) := by decide +kernel
theorem d_law_1047 : decode code 1047 = .ok (.if_icmp .eq 484, 3) := by decide +kernel
theorem d_law_1050 : decode code 1050 = .ok (.iconst 0, 1) := by decide +kernel
theorem d_law_1051 : decode code 1051 = .ok (.ireturn, 1) := by decide +kernel
theorem d_law_1052 : decode code 1052 = .ok (.aload_n 1, 1) := by decide +kernel
theorem d_law_1053 : decode code 1053 = .ok (.aload_n 0, 1) := by decide +kernel
theorem d_law_1054 : decode code 1054 = .ok (.iload 4, 2) := by decide +kernel
theorem d_law_1056 : decode code 1056 = .ok (.iconst 1, 1) := by decide +kernel
theorem d_law_1057 : decode code 1057 = .ok (.iadd, 1) := by decide +kernel
theorem d_law_1058 : decode code 1058 = .ok (.iaload, 1) := by decide +kernel
theorem d_law_1059 : decode code 1059 = .ok (.aload_n 0, 1) := by decide +kernel
theorem d_law_1060 : decode code 1060 = .ok (.iload 4, 2) := by decide +kernel
theorem d_law_1062 : decode code 1062 = .ok (.iconst 2, 1) := by decide +kernel
theorem d_law_1063 : decode code 1063 = .ok (.iadd, 1) := by decide +kernel
theorem d_law_1064 : decode code 1064 = .ok (.iaload, 1) := by decide +kernel
theorem d_law_1065 : decode code 1065 = .ok (.invokevirtual 121, 3) := by decide +kernel
theorem d_law_1068 : decode code 1068 = .ok (.aload_n 2, 1) := by decide +kernel
theorem d_law_1069 : decode code 1069 = .ok (.aload_n 0, 1) := by decide +kernel
theorem d_law_1070 : decode code 1070 = .ok (.iload 4, 2) := by decide +kernel
theorem d_law_1072 : decode code 1072 = .ok (.iconst 1, 1) := by decide +kernel
theorem d_law_1073 : decode code 1073 = .ok (.iadd, 1) := by decide +kernel
theorem d_law_1074 : decode code 1074 = .ok (.iaload, 1) := by decide +kernel
theorem d_law_1075 : decode code 1075 = .ok (.aload_n 0, 1) := by decide +kernel
theorem d_law_1076 : decode code 1076 = .ok (.iload 4, 2) := by decide +kernel
theorem d_law_1078 : decode code 1078 = .ok (.iconst 2, 1) := by decide +kernel
theorem d_law_1079 : decode code 1079 = .ok (.iadd, 1) := by decide +kernel
theorem d_law_1080 : decode code 1080 = .ok (.iaload, 1) := by decide +kernel
theorem d_law_1081 : decode code 1081 = .ok (.invokevirtual 124, 3) := by decide +kernel
theorem d_law_1084 : decode code 1084 = .ok (.if_icmp .eq 447, 3) := by decide +kernel
theorem d_law_1087 : decode code 1087 = .ok (.iconst 0, 1) := by decide +kernel
theorem d_law_1088 : decode code 1088 = .ok (.ireturn, 1) := by decide +kernel
theorem d_law_1089 : decode code 1089 = .ok (.aload_n 1, 1) := by decide +kernel
theorem d_law_1090 : decode code 1090 = .ok (.aload_n 0, 1) := by decide +kernel
theorem d_law_1091 : decode code 1091 = .ok (.iload 4, 2) := by decide +kernel
theorem d_law_1093 : decode code 1093 = .ok (.iconst 1, 1) := by decide +kernel
theorem d_law_1094 : decode code 1094 = .ok (.iadd, 1) := by decide +kernel
theorem d_law_1095 : decode code 1095 = .ok (.iaload, 1) := by decide +kernel
theorem d_law_1096 : decode code 1096 = .ok (.invokevirtual 125, 3) := by decide +kernel
theorem d_law_1099 : decode code 1099 = .ok (.aload_n 2, 1) := by decide +kernel
theorem d_law_1100 : decode code 1100 = .ok (.aload_n 0, 1) := by decide +kernel
theorem d_law_1101 : decode code 1101 = .ok (.iload 4, 2) := by decide +kernel
theorem d_law_1103 : decode code 1103 = .ok (.iconst 1, 1) := by decide +kernel
theorem d_law_1104 : decode code 1104 = .ok (.iadd, 1) := by decide +kernel
theorem d_law_1105 : decode code 1105 = .ok (.iaload, 1) := by decide +kernel
theorem d_law_1106 : decode code 1106 = .ok (.invokevirtual 128, 3) := by decide +kernel
theorem d_law_1109 : decode code 1109 = .ok (.lcmp, 1) := by decide +kernel
theorem d_law_1110 : decode code 1110 = .ok (.ifCond .eq 421, 3) := by decide +kernel
theorem d_law_1113 : decode code 1113 = .ok (.iconst 0, 1) := by decide +kernel
theorem d_law_1114 : decode code 1114 = .ok (.ireturn, 1) := by decide +kernel
theorem d_law_1115 : decode code 1115 = .ok (.aload_n 1, 1) := by decide +kernel
theorem d_law_1116 : decode code 1116 = .ok (.aload_n 0, 1) := by decide +kernel
theorem d_law_1117 : decode code 1117 = .ok (.iload 4, 2) := by decide +kernel
theorem d_law_1119 : decode code 1119 = .ok (.iconst 1, 1) := by decide +kernel
theorem d_law_1120 : decode code 1120 = .ok (.iadd, 1) := by decide +kernel
theorem d_law_1121 : decode code 1121 = .ok (.iaload, 1) := by decide +kernel
theorem d_law_1122 : decode code 1122 = .ok (.invokevirtual 129, 3) := by decide +kernel
theorem d_law_1125 : decode code 1125 = .ok (.aload_n 2, 1) := by decide +kernel
theorem d_law_1126 : decode code 1126 = .ok (.aload_n 0, 1) := by decide +kernel
theorem d_law_1127 : decode code 1127 = .ok (.iload 4, 2) := by decide +kernel
theorem d_law_1129 : decode code 1129 = .ok (.iconst 1, 1) := by decide +kernel
theorem d_law_1130 : decode code 1130 = .ok (.iadd, 1) := by decide +kernel
theorem d_law_1131 : decode code 1131 = .ok (.iaload, 1) := by decide +kernel
theorem d_law_1132 : decode code 1132 = .ok (.invokevirtual 132, 3) := by decide +kernel
theorem d_law_1135 : decode code 1135 = .ok (.lcmp, 1) := by decide +kernel
theorem d_law_1136 : decode code 1136 = .ok (.ifCond .eq 395, 3) := by decide +kernel
theorem d_law_1139 : decode code 1139 = .ok (.iconst 0, 1) := by decide +kernel
theorem d_law_1140 : decode code 1140 = .ok (.ireturn, 1) := by decide +kernel
theorem d_law_1141 : decode code 1141 = .ok (.aload_n 1, 1) := by decide +kernel
theorem d_law_1142 : decode code 1142 = .ok (.aload_n 0, 1) := by decide +kernel
theorem d_law_1143 : decode code 1143 = .ok (.iload 4, 2) := by decide +kernel
theorem d_law_1145 : decode code 1145 = .ok (.iconst 1, 1) := by decide +kernel
theorem d_law_1146 : decode code 1146 = .ok (.iadd, 1) := by decide +kernel
theorem d_law_1147 : decode code 1147 = .ok (.iaload, 1) := by decide +kernel
theorem d_law_1148 : decode code 1148 = .ok (.invokevirtual 133, 3) := by decide +kernel
theorem d_law_1151 : decode code 1151 = .ok (.aload_n 2, 1) := by decide +kernel
theorem d_law_1152 : decode code 1152 = .ok (.aload_n 0, 1) := by decide +kernel
theorem d_law_1153 : decode code 1153 = .ok (.iload 4, 2) := by decide +kernel
theorem d_law_1155 : decode code 1155 = .ok (.iconst 1, 1) := by decide +kernel
theorem d_law_1156 : decode code 1156 = .ok (.iadd, 1) := by decide +kernel
theorem d_law_1157 : decode code 1157 = .ok (.iaload, 1) := by decide +kernel
theorem d_law_1158 : decode code 1158 = .ok (.invokevirtual 136, 3) := by decide +kernel
theorem d_law_1161 : decode code 1161 = .ok (.if_icmp .eq 370, 3) := by decide +kernel
theorem d_law_1164 : decode code 1164 = .ok (.iconst 0, 1) := by decide +kernel
theorem d_law_1165 : decode code 1165 = .ok (.ireturn, 1) := by decide +kernel
theorem d_law_1166 : decode code 1166 = .ok (.aload_n 1, 1) := by decide +kernel
theorem d_law_1167 : decode code 1167 = .ok (.aload_n 0, 1) := by decide +kernel
theorem d_law_1168 : decode code 1168 = .ok (.iload 4, 2) := by decide +kernel
theorem d_law_1170 : decode code 1170 = .ok (.iconst 1, 1) := by decide +kernel
theorem d_law_1171 : decode code 1171 = .ok (.iadd, 1) := by decide +kernel
theorem d_law_1172 : decode code 1172 = .ok (.iaload, 1) := by decide +kernel
theorem d_law_1173 : decode code 1173 = .ok (.aload_n 0, 1) := by decide +kernel
theorem d_law_1174 : decode code 1174 = .ok (.iload 4, 2) := by decide +kernel
theorem d_law_1176 : decode code 1176 = .ok (.iconst 2, 1) := by decide +kernel
theorem d_law_1177 : decode code 1177 = .ok (.iadd, 1) := by decide +kernel
theorem d_law_1178 : decode code 1178 = .ok (.iaload, 1) := by decide +kernel
theorem d_law_1179 : decode code 1179 = .ok (.aload_n 0, 1) := by decide +kernel
theorem d_law_1180 : decode code 1180 = .ok (.iload 4, 2) := by decide +kernel
theorem d_law_1182 : decode code 1182 = .ok (.iconst 3, 1) := by decide +kernel
theorem d_law_1183 : decode code 1183 = .ok (.iadd, 1) := by decide +kernel
theorem d_law_1184 : decode code 1184 = .ok (.iaload, 1) := by decide +kernel
theorem d_law_1185 : decode code 1185 = .ok (.invokevirtual 137, 3) := by decide +kernel
theorem d_law_1188 : decode code 1188 = .ok (.aload_n 2, 1) := by decide +kernel
theorem d_law_1189 : decode code 1189 = .ok (.aload_n 0, 1) := by decide +kernel
theorem d_law_1190 : decode code 1190 = .ok (.iload 4, 2) := by decide +kernel
theorem d_law_1192 : decode code 1192 = .ok (.iconst 1, 1) := by decide +kernel
theorem d_law_1193 : decode code 1193 = .ok (.iadd, 1) := by decide +kernel
theorem d_law_1194 : decode code 1194 = .ok (.iaload, 1) := by decide +kernel
theorem d_law_1195 : decode code 1195 = .ok (.aload_n 0, 1) := by decide +kernel
theorem d_law_1196 : decode code 1196 = .ok (.iload 4, 2) := by decide +kernel
theorem d_law_1198 : decode code 1198 = .ok (.iconst 2, 1) := by decide +kernel
theorem d_law_1199 : decode code 1199 = .ok (.iadd, 1) := by decide +kernel
theorem d_law_1200 : decode code 1200 = .ok (.iaload, 1) := by decide +kernel
theorem d_law_1201 : decode code 1201 = .ok (.aload_n 0, 1) := by decide +kernel
theorem d_law_1202 : decode code 1202 = .ok (.iload 4, 2) := by decide +kernel
theorem d_law_1204 : decode code 1204 = .ok (.iconst 3, 1) := by decide +kernel
theorem d_law_1205 : decode code 1205 = .ok (.iadd, 1) := by decide +kernel
theorem d_law_1206 : decode code 1206 = .ok (.iaload, 1) := by decide +kernel
theorem d_law_1207 : decode code 1207 = .ok (.invokevirtual 140, 3) := by decide +kernel
theorem d_law_1210 : decode code 1210 = .ok (.if_icmp .eq 321, 3) := by decide +kernel
theorem d_law_1213 : decode code 1213 = .ok (.iconst 0, 1) := by decide +kernel
theorem d_law_1214 : decode code 1214 = .ok (.ireturn, 1) := by decide +kernel
theorem d_law_1215 : decode code 1215 = .ok (.aload_n 1, 1) := by decide +kernel
theorem d_law_1216 : decode code 1216 = .ok (.aload_n 0, 1) := by decide +kernel
theorem d_law_1217 : decode code 1217 = .ok (.iload 4, 2) := by decide +kernel
theorem d_law_1219 : decode code 1219 = .ok (.iconst 1, 1) := by decide +kernel
theorem d_law_1220 : decode code 1220 = .ok (.iadd, 1) := by decide +kernel
theorem d_law_1221 : decode code 1221 = .ok (.iaload, 1) := by decide +kernel
theorem d_law_1222 : decode code 1222 = .ok (.invokevirtual 141, 3) := by decide +kernel
theorem d_law_1225 : decode code 1225 = .ok (.aload_n 2, 1) := by decide +kernel
theorem d_law_1226 : decode code 1226 = .ok (.aload_n 0, 1) := by decide +kernel
theorem d_law_1227 : decode code 1227 = .ok (.iload 4, 2) := by decide +kernel
theorem d_law_1229 : decode code 1229 = .ok (.iconst 1, 1) := by decide +kernel
theorem d_law_1230 : decode code 1230 = .ok (.iadd, 1) := by decide +kernel
theorem d_law_1231 : decode code 1231 = .ok (.iaload, 1) := by decide +kernel
theorem d_law_1232 : decode code 1232 = .ok (.invokevirtual 144, 3) := by decide +kernel
theorem d_law_1235 : decode code 1235 = .ok (.if_icmp .eq 296, 3) := by decide +kernel
theorem d_law_1238 : decode code 1238 = .ok (.iconst 0, 1) := by decide +kernel
theorem d_law_1239 : decode code 1239 = .ok (.ireturn, 1) := by decide +kernel
theorem d_law_1240 : decode code 1240 = .ok (.aload_n 1, 1) := by decide +kernel
theorem d_law_1241 : decode code 1241 = .ok (.aload_n 0, 1) := by decide +kernel
theorem d_law_1242 : decode code 1242 = .ok (.iload 4, 2) := by decide +kernel
theorem d_law_1244 : decode code 1244 = .ok (.iconst 1, 1) := by decide +kernel
theorem d_law_1245 : decode code 1245 = .ok (.iadd, 1) := by decide +kernel
theorem d_law_1246 : decode code 1246 = .ok (.iaload, 1) := by decide +kernel
theorem d_law_1247 : decode code 1247 = .ok (.invokevirtual 145, 3) := by decide +kernel
theorem d_law_1250 : decode code 1250 = .ok (.aload_n 2, 1) := by decide +kernel
theorem d_law_1251 : decode code 1251 = .ok (.aload_n 0, 1) := by decide +kernel
theorem d_law_1252 : decode code 1252 = .ok (.iload 4, 2) := by decide +kernel
theorem d_law_1254 : decode code 1254 = .ok (.iconst 1, 1) := by decide +kernel
theorem d_law_1255 : decode code 1255 = .ok (.iadd, 1) := by decide +kernel
theorem d_law_1256 : decode code 1256 = .ok (.iaload, 1) := by decide +kernel
theorem d_law_1257 : decode code 1257 = .ok (.invokevirtual 148, 3) := by decide +kernel
theorem d_law_1260 : decode code 1260 = .ok (.if_icmp .eq 271, 3) := by decide +kernel
theorem d_law_1263 : decode code 1263 = .ok (.iconst 0, 1) := by decide +kernel
theorem d_law_1264 : decode code 1264 = .ok (.ireturn, 1) := by decide +kernel
theorem d_law_1265 : decode code 1265 = .ok (.aload_n 1, 1) := by decide +kernel
theorem d_law_1266 : decode code 1266 = .ok (.aload_n 0, 1) := by decide +kernel
theorem d_law_1267 : decode code 1267 = .ok (.iload 4, 2) := by decide +kernel
theorem d_law_1269 : decode code 1269 = .ok (.iconst 1, 1) := by decide +kernel
theorem d_law_1270 : decode code 1270 = .ok (.iadd, 1) := by decide +kernel
theorem d_law_1271 : decode code 1271 = .ok (.iaload, 1) := by decide +kernel
theorem d_law_1272 : decode code 1272 = .ok (.aload_n 0, 1) := by decide +kernel
theorem d_law_1273 : decode code 1273 = .ok (.iload 4, 2) := by decide +kernel
theorem d_law_1275 : decode code 1275 = .ok (.iconst 2, 1) := by decide +kernel
theorem d_law_1276 : decode code 1276 = .ok (.iadd, 1) := by decide +kernel
theorem d_law_1277 : decode code 1277 = .ok (.iaload, 1) := by decide +kernel
theorem d_law_1278 : decode code 1278 = .ok (.invokevirtual 149, 3) := by decide +kernel
theorem d_law_1281 : decode code 1281 = .ok (.aload_n 2, 1) := by decide +kernel
theorem d_law_1282 : decode code 1282 = .ok (.aload_n 0, 1) := by decide +kernel
theorem d_law_1283 : decode code 1283 = .ok (.iload 4, 2) := by decide +kernel
theorem d_law_1285 : decode code 1285 = .ok (.iconst 1, 1) := by decide +kernel
theorem d_law_1286 : decode code 1286 = .ok (.iadd, 1) := by decide +kernel
theorem d_law_1287 : decode code 1287 = .ok (.iaload, 1) := by decide +kernel
theorem d_law_1288 : decode code 1288 = .ok (.aload_n 0, 1) := by decide +kernel
theorem d_law_1289 : decode code 1289 = .ok (.iload 4, 2) := by decide +kernel
theorem d_law_1291 : decode code 1291 = .ok (.iconst 2, 1) := by decide +kernel
theorem d_law_1292 : decode code 1292 = .ok (.iadd, 1) := by decide +kernel
theorem d_law_1293 : decode code 1293 = .ok (.iaload, 1) := by decide +kernel
theorem d_law_1294 : decode code 1294 = .ok (.invokevirtual 152, 3) := by decide +kernel
theorem d_law_1297 : decode code 1297 = .ok (.if_icmp .eq 234, 3) := by decide +kernel
theorem d_law_1300 : decode code 1300 = .ok (.iconst 0, 1) := by decide +kernel
theorem d_law_1301 : decode code 1301 = .ok (.ireturn, 1) := by decide +kernel
theorem d_law_1302 : decode code 1302 = .ok (.aload_n 1, 1) := by decide +kernel
theorem d_law_1303 : decode code 1303 = .ok (.aload_n 0, 1) := by decide +kernel
theorem d_law_1304 : decode code 1304 = .ok (.iload 4, 2) := by decide +kernel
theorem d_law_1306 : decode code 1306 = .ok (.iconst 1, 1) := by decide +kernel
theorem d_law_1307 : decode code 1307 = .ok (.iadd, 1) := by decide +kernel
theorem d_law_1308 : decode code 1308 = .ok (.iaload, 1) := by decide +kernel
theorem d_law_1309 : decode code 1309 = .ok (.aload_n 0, 1) := by decide +kernel
theorem d_law_1310 : decode code 1310 = .ok (.iload 4, 2) := by decide +kernel
theorem d_law_1312 : decode code 1312 = .ok (.iconst 2, 1) := by decide +kernel
theorem d_law_1313 : decode code 1313 = .ok (.iadd, 1) := by decide +kernel
theorem d_law_1314 : decode code 1314 = .ok (.iaload, 1) := by decide +kernel
theorem d_law_1315 : decode code 1315 = .ok (.invokevirtual 153, 3) := by decide +kernel
theorem d_law_1318 : decode code 1318 = .ok (.aload_n 2, 1) := by decide +kernel
theorem d_law_1319 : decode code 1319 = .ok (.aload_n 0, 1) := by decide +kernel
theorem d_law_1320 : decode code 1320 = .ok (.iload 4, 2) := by decide +kernel
theorem d_law_1322 : decode code 1322 = .ok (.iconst 1, 1) := by decide +kernel
theorem d_law_1323 : decode code 1323 = .ok (.iadd, 1) := by decide +kernel
theorem d_law_1324 : decode code 1324 = .ok (.iaload, 1) := by decide +kernel
theorem d_law_1325 : decode code 1325 = .ok (.aload_n 0, 1) := by decide +kernel
theorem d_law_1326 : decode code 1326 = .ok (.iload 4, 2) := by decide +kernel
theorem d_law_1328 : decode code 1328 = .ok (.iconst 2, 1) := by decide +kernel
theorem d_law_1329 : decode code 1329 = .ok (.iadd, 1) := by decide +kernel
theorem d_law_1330 : decode code 1330 = .ok (.iaload, 1) := by decide +kernel
theorem d_law_1331 : decode code 1331 = .ok (.invokevirtual 156, 3) := by decide +kernel
theorem d_law_1334 : decode code 1334 = .ok (.if_icmp .eq 197, 3) := by decide +kernel
theorem d_law_1337 : decode code 1337 = .ok (.iconst 0, 1) := by decide +kernel
theorem d_law_1338 : decode code 1338 = .ok (.ireturn, 1) := by decide +kernel
theorem d_law_1339 : decode code 1339 = .ok (.aload_n 1, 1) := by decide +kernel
theorem d_law_1340 : decode code 1340 = .ok (.aload_n 0, 1) := by decide +kernel
theorem d_law_1341 : decode code 1341 = .ok (.iload 4, 2) := by decide +kernel
theorem d_law_1343 : decode code 1343 = .ok (.iconst 1, 1) := by decide +kernel
theorem d_law_1344 : decode code 1344 = .ok (.iadd, 1) := by decide +kernel
theorem d_law_1345 : decode code 1345 = .ok (.iaload, 1) := by decide +kernel
theorem d_law_1346 : decode code 1346 = .ok (.invokevirtual 157, 3) := by decide +kernel
theorem d_law_1349 : decode code 1349 = .ok (.aload_n 2, 1) := by decide +kernel
theorem d_law_1350 : decode code 1350 = .ok (.aload_n 0, 1) := by decide +kernel
theorem d_law_1351 : decode code 1351 = .ok (.iload 4, 2) := by decide +kernel
theorem d_law_1353 : decode code 1353 = .ok (.iconst 1, 1) := by decide +kernel
theorem d_law_1354 : decode code 1354 = .ok (.iadd, 1) := by decide +kernel
theorem d_law_1355 : decode code 1355 = .ok (.iaload, 1) := by decide +kernel
theorem d_law_1356 : decode code 1356 = .ok (.invokevirtual 160, 3) := by decide +kernel
theorem d_law_1359 : decode code 1359 = .ok (.if_icmp .eq 172, 3) := by decide +kernel
theorem d_law_1362 : decode code 1362 = .ok (.iconst 0, 1) := by decide +kernel
theorem d_law_1363 : decode code 1363 = .ok (.ireturn, 1) := by decide +kernel
theorem d_law_1364 : decode code 1364 = .ok (.aload_n 1, 1) := by decide +kernel
theorem d_law_1365 : decode code 1365 = .ok (.aload_n 0, 1) := by decide +kernel
theorem d_law_1366 : decode code 1366 = .ok (.iload 4, 2) := by decide +kernel
theorem d_law_1368 : decode code 1368 = .ok (.iconst 1, 1) := by decide +kernel
theorem d_law_1369 : decode code 1369 = .ok (.iadd, 1) := by decide +kernel
theorem d_law_1370 : decode code 1370 = .ok (.iaload, 1) := by decide +kernel
theorem d_law_1371 : decode code 1371 = .ok (.invokevirtual 161, 3) := by decide +kernel
theorem d_law_1374 : decode code 1374 = .ok (.aload_n 2, 1) := by decide +kernel
theorem d_law_1375 : decode code 1375 = .ok (.aload_n 0, 1) := by decide +kernel
theorem d_law_1376 : decode code 1376 = .ok (.iload 4, 2) := by decide +kernel
theorem d_law_1378 : decode code 1378 = .ok (.iconst 1, 1) := by decide +kernel
theorem d_law_1379 : decode code 1379 = .ok (.iadd, 1) := by decide +kernel
theorem d_law_1380 : decode code 1380 = .ok (.iaload, 1) := by decide +kernel
theorem d_law_1381 : decode code 1381 = .ok (.invokevirtual 164, 3) := by decide +kernel
theorem d_law_1384 : decode code 1384 = .ok (.if_icmp .eq 147, 3) := by decide +kernel
theorem d_law_1387 : decode code 1387 = .ok (.iconst 0, 1) := by decide +kernel
theorem d_law_1388 : decode code 1388 = .ok (.ireturn, 1) := by decide +kernel
theorem d_law_1389 : decode code 1389 = .ok (.aload_n 1, 1) := by decide +kernel
theorem d_law_1390 : decode code 1390 = .ok (.aload_n 0, 1) := by decide +kernel
theorem d_law_1391 : decode code 1391 = .ok (.iload 4, 2) := by decide +kernel
theorem d_law_1393 : decode code 1393 = .ok (.iconst 1, 1) := by decide +kernel
theorem d_law_1394 : decode code 1394 = .ok (.iadd, 1) := by decide +kernel
theorem d_law_1395 : decode code 1395 = .ok (.iaload, 1) := by decide +kernel
theorem d_law_1396 : decode code 1396 = .ok (.invokevirtual 165, 3) := by decide +kernel
theorem d_law_1399 : decode code 1399 = .ok (.aload_n 2, 1) := by decide +kernel
theorem d_law_1400 : decode code 1400 = .ok (.aload_n 0, 1) := by decide +kernel
theorem d_law_1401 : decode code 1401 = .ok (.iload 4, 2) := by decide +kernel
theorem d_law_1403 : decode code 1403 = .ok (.iconst 1, 1) := by decide +kernel
theorem d_law_1404 : decode code 1404 = .ok (.iadd, 1) := by decide +kernel
theorem d_law_1405 : decode code 1405 = .ok (.iaload, 1) := by decide +kernel
theorem d_law_1406 : decode code 1406 = .ok (.invokevirtual 168, 3) := by decide +kernel
theorem d_law_1409 : decode code 1409 = .ok (.if_icmp .eq 122, 3) := by decide +kernel
theorem d_law_1412 : decode code 1412 = .ok (.iconst 0, 1) := by decide +kernel
theorem d_law_1413 : decode code 1413 = .ok (.ireturn, 1) := by decide +kernel
theorem d_law_1414 : decode code 1414 = .ok (.aload_n 1, 1) := by decide +kernel
theorem d_law_1415 : decode code 1415 = .ok (.aload_n 0, 1) := by decide +kernel
theorem d_law_1416 : decode code 1416 = .ok (.iload 4, 2) := by decide +kernel
theorem d_law_1418 : decode code 1418 = .ok (.iconst 1, 1) := by decide +kernel
theorem d_law_1419 : decode code 1419 = .ok (.iadd, 1) := by decide +kernel
theorem d_law_1420 : decode code 1420 = .ok (.iaload, 1) := by decide +kernel
theorem d_law_1421 : decode code 1421 = .ok (.aload_n 0, 1) := by decide +kernel
theorem d_law_1422 : decode code 1422 = .ok (.iload 4, 2) := by decide +kernel
theorem d_law_1424 : decode code 1424 = .ok (.iconst 2, 1) := by decide +kernel
theorem d_law_1425 : decode code 1425 = .ok (.iadd, 1) := by decide +kernel
theorem d_law_1426 : decode code 1426 = .ok (.iaload, 1) := by decide +kernel
theorem d_law_1427 : decode code 1427 = .ok (.invokevirtual 169, 3) := by decide +kernel
theorem d_law_1430 : decode code 1430 = .ok (.aload_n 2, 1) := by decide +kernel
theorem d_law_1431 : decode code 1431 = .ok (.aload_n 0, 1) := by decide +kernel
theorem d_law_1432 : decode code 1432 = .ok (.iload 4, 2) := by decide +kernel
theorem d_law_1434 : decode code 1434 = .ok (.iconst 1, 1) := by decide +kernel
theorem d_law_1435 : decode code 1435 = .ok (.iadd, 1) := by decide +kernel
theorem d_law_1436 : decode code 1436 = .ok (.iaload, 1) := by decide +kernel
theorem d_law_1437 : decode code 1437 = .ok (.aload_n 0, 1) := by decide +kernel
theorem d_law_1438 : decode code 1438 = .ok (.iload 4, 2) := by decide +kernel
theorem d_law_1440 : decode code 1440 = .ok (.iconst 2, 1) := by decide +kernel
theorem d_law_1441 : decode code 1441 = .ok (.iadd, 1) := by decide +kernel
theorem d_law_1442 : decode code 1442 = .ok (.iaload, 1) := by decide +kernel
theorem d_law_1443 : decode code 1443 = .ok (.invokevirtual 172, 3) := by decide +kernel
theorem d_law_1446 : decode code 1446 = .ok (.if_icmp .eq 85, 3) := by decide +kernel
theorem d_law_1449 : decode code 1449 = .ok (.iconst 0, 1) := by decide +kernel
theorem d_law_1450 : decode code 1450 = .ok (.ireturn, 1) := by decide +kernel
theorem d_law_1451 : decode code 1451 = .ok (.aload_n 1, 1) := by decide +kernel
theorem d_law_1452 : decode code 1452 = .ok (.aload_n 0, 1) := by decide +kernel
theorem d_law_1453 : decode code 1453 = .ok (.iload 4, 2) := by decide +kernel
theorem d_law_1455 : decode code 1455 = .ok (.iconst 1, 1) := by decide +kernel
theorem d_law_1456 : decode code 1456 = .ok (.iadd, 1) := by decide +kernel
theorem d_law_1457 : decode code 1457 = .ok (.iaload, 1) := by decide +kernel
theorem d_law_1458 : decode code 1458 = .ok (.invokevirtual 173, 3) := by decide +kernel
theorem d_law_1461 : decode code 1461 = .ok (.aload_n 2, 1) := by decide +kernel
theorem d_law_1462 : decode code 1462 = .ok (.aload_n 0, 1) := by decide +kernel
theorem d_law_1463 : decode code 1463 = .ok (.iload 4, 2) := by decide +kernel
theorem d_law_1465 : decode code 1465 = .ok (.iconst 1, 1) := by decide +kernel
theorem d_law_1466 : decode code 1466 = .ok (.iadd, 1) := by decide +kernel
theorem d_law_1467 : decode code 1467 = .ok (.iaload, 1) := by decide +kernel
theorem d_law_1468 : decode code 1468 = .ok (.invokevirtual 176, 3) := by decide +kernel
theorem d_law_1471 : decode code 1471 = .ok (.if_icmp .eq 60, 3) := by decide +kernel
theorem d_law_1474 : decode code 1474 = .ok (.iconst 0, 1) := by decide +kernel
theorem d_law_1475 : decode code 1475 = .ok (.ireturn, 1) := by decide +kernel
theorem d_law_1476 : decode code 1476 = .ok (.aload_n 1, 1) := by decide +kernel
theorem d_law_1477 : decode code 1477 = .ok (.aload_n 0, 1) := by decide +kernel
theorem d_law_1478 : decode code 1478 = .ok (.iload 4, 2) := by decide +kernel
theorem d_law_1480 : decode code 1480 = .ok (.iconst 1, 1) := by decide +kernel
theorem d_law_1481 : decode code 1481 = .ok (.iadd, 1) := by decide +kernel
theorem d_law_1482 : decode code 1482 = .ok (.iaload, 1) := by decide +kernel
theorem d_law_1483 : decode code 1483 = .ok (.aload_n 3, 1) := by decide +kernel
theorem d_law_1484 : decode code 1484 = .ok (.invokestatic 177, 3) := by decide +kernel
theorem d_law_1487 : decode code 1487 = .ok (.istore 5, 2) := by decide +kernel
theorem d_law_1489 : decode code 1489 = .ok (.aload_n 2, 1) := by decide +kernel
theorem d_law_1490 : decode code 1490 = .ok (.aload_n 0, 1) := by decide +kernel
theorem d_law_1491 : decode code 1491 = .ok (.iload 4, 2) := by decide +kernel
theorem d_law_1493 : decode code 1493 = .ok (.iconst 1, 1) := by decide +kernel
theorem d_law_1494 : decode code 1494 = .ok (.iadd, 1) := by decide +kernel
theorem d_law_1495 : decode code 1495 = .ok (.iaload, 1) := by decide +kernel
theorem d_law_1496 : decode code 1496 = .ok (.invokevirtual 182, 3) := by decide +kernel
theorem d_law_1499 : decode code 1499 = .ok (.lstore 6, 2) := by decide +kernel
theorem d_law_1501 : decode code 1501 = .ok (.aload_n 2, 1) := by decide +kernel
theorem d_law_1502 : decode code 1502 = .ok (.invokevirtual 183, 3) := by decide +kernel
theorem d_law_1505 : decode code 1505 = .ok (.iload 5, 2) := by decide +kernel
theorem d_law_1507 : decode code 1507 = .ok (.if_icmp .eq 5, 3) := by decide +kernel
theorem d_law_1510 : decode code 1510 = .ok (.iconst 0, 1) := by decide +kernel
theorem d_law_1511 : decode code 1511 = .ok (.ireturn, 1) := by decide +kernel
theorem d_law_1512 : decode code 1512 = .ok (.iload 5, 2) := by decide +kernel
theorem d_law_1514 : decode code 1514 = .ok (.ifCond .ne 14, 3) := by decide +kernel
theorem d_law_1517 : decode code 1517 = .ok (.aload_n 3, 1) := by decide +kernel
theorem d_law_1518 : decode code 1518 = .ok (.iconst 0, 1) := by decide +kernel
theorem d_law_1519 : decode code 1519 = .ok (.laload, 1) := by decide +kernel
theorem d_law_1520 : decode code 1520 = .ok (.lload 6, 2) := by decide +kernel
theorem d_law_1522 : decode code 1522 = .ok (.lcmp, 1) := by decide +kernel
theorem d_law_1523 : decode code 1523 = .ok (.ifCond .eq 5, 3) := by decide +kernel
theorem d_law_1526 : decode code 1526 = .ok (.iconst 0, 1) := by decide +kernel
theorem d_law_1527 : decode code 1527 = .ok (.ireturn, 1) := by decide +kernel
theorem d_law_1528 : decode code 1528 = .ok (.goto 3, 3) := by decide +kernel
theorem d_law_1531 : decode code 1531 = .ok (.iinc 4 5, 3) := by decide +kernel
theorem d_law_1534 : decode code 1534 = .ok (.goto (-1511), 3) := by decide +kernel
theorem d_law_1537 : decode code 1537 = .ok (.iconst 1, 1) := by decide +kernel
theorem d_law_1538 : decode code 1538 = .ok (.ireturn, 1) := by decide +kernel
theorem ml_L_19 : Cond.methodLink "SortingNetsLaw" 19 y_X_sign ∈ TB := (tb_1 (List.mem_of_getElem? (i := 230) rfl) rfl)
theorem ml_L_23 : Cond.methodLink "SortingNetsLaw" 23 y_M_sign ∈ TB := (tb_4 (List.mem_of_getElem? (i := 189) rfl) rfl)
theorem ml_L_24 : Cond.methodLink "SortingNetsLaw" 24 y_X_end ∈ TB := (tb_1 (List.mem_of_getElem? (i := 238) rfl) rfl)
theorem ml_L_28 : Cond.methodLink "SortingNetsLaw" 28 y_M_end ∈ TB := (tb_4 (List.mem_of_getElem? (i := 193) rfl) rfl)
theorem ml_L_29 : Cond.methodLink "SortingNetsLaw" 29 y_X_net ∈ TB := (tb_2 (List.mem_of_getElem? (i := 2) rfl) rfl)
theorem ml_L_32 : Cond.methodLink "SortingNetsLaw" 32 y_M_net ∈ TB := (tb_4 (List.mem_of_getElem? (i := 200) rfl) rfl)
theorem ml_L_33 : Cond.methodLink "SortingNetsLaw" 33 y_X_makes ∈ TB := (tb_2 (List.mem_of_getElem? (i := 61) rfl) rfl)
theorem ml_L_37 : Cond.methodLink "SortingNetsLaw" 37 y_M_makes ∈ TB := (tb_5 (List.mem_of_getElem? (i := 10) rfl) rfl)
theorem ml_L_38 : Cond.methodLink "SortingNetsLaw" 38 y_X_draws ∈ TB := (tb_2 (List.mem_of_getElem? (i := 81) rfl) rfl)
theorem ml_L_42 : Cond.methodLink "SortingNetsLaw" 42 y_M_draws ∈ TB := (tb_5 (List.mem_of_getElem? (i := 37) rfl) rfl)
theorem ml_L_43 : Cond.methodLink "SortingNetsLaw" 43 y_X_adds ∈ TB := (tb_2 (List.mem_of_getElem? (i := 135) rfl) rfl)
theorem ml_L_46 : Cond.methodLink "SortingNetsLaw" 46 y_M_adds ∈ TB := (tb_5 (List.mem_of_getElem? (i := 77) rfl) rfl)
theorem ml_L_47 : Cond.methodLink "SortingNetsLaw" 47 y_X_drops ∈ TB := (tb_2 (List.mem_of_getElem? (i := 139) rfl) rfl)
theorem ml_L_51 : Cond.methodLink "SortingNetsLaw" 51 y_M_drops ∈ TB := (tb_5 (List.mem_of_getElem? (i := 85) rfl) rfl)
theorem ml_L_52 : Cond.methodLink "SortingNetsLaw" 52 y_X_swaps ∈ TB := (tb_2 (List.mem_of_getElem? (i := 151) rfl) rfl)
theorem ml_L_55 : Cond.methodLink "SortingNetsLaw" 55 y_M_swaps ∈ TB := (tb_5 (List.mem_of_getElem? (i := 97) rfl) rfl)
theorem ml_L_56 : Cond.methodLink "SortingNetsLaw" 56 y_X_copies ∈ TB := (tb_2 (List.mem_of_getElem? (i := 163) rfl) rfl)
theorem ml_L_59 : Cond.methodLink "SortingNetsLaw" 59 y_M_copies ∈ TB := (tb_5 (List.mem_of_getElem? (i := 109) rfl) rfl)
theorem ml_L_60 : Cond.methodLink "SortingNetsLaw" 60 y_X_joins ∈ TB := (tb_2 (List.mem_of_getElem? (i := 167) rfl) rfl)
theorem ml_L_63 : Cond.methodLink "SortingNetsLaw" 63 y_M_joins ∈ TB := (tb_5 (List.mem_of_getElem? (i := 113) rfl) rfl)
theorem ml_L_64 : Cond.methodLink "SortingNetsLaw" 64 y_X_flips ∈ TB := (tb_2 (List.mem_of_getElem? (i := 171) rfl) rfl)
theorem ml_L_67 : Cond.methodLink "SortingNetsLaw" 67 y_M_flips ∈ TB := (tb_5 (List.mem_of_getElem? (i := 117) rfl) rfl)
theorem ml_L_68 : Cond.methodLink "SortingNetsLaw" 68 y_X_mirrors ∈ TB := (tb_2 (List.mem_of_getElem? (i := 179) rfl) rfl)
theorem ml_L_71 : Cond.methodLink "SortingNetsLaw" 71 y_M_mirrors ∈ TB := (tb_5 (List.mem_of_getElem? (i := 121) rfl) rfl)
theorem ml_L_72 : Cond.methodLink "SortingNetsLaw" 72 y_X_lays ∈ TB := (tb_2 (List.mem_of_getElem? (i := 187) rfl) rfl)
theorem ml_L_75 : Cond.methodLink "SortingNetsLaw" 75 y_M_lays ∈ TB := (tb_5 (List.mem_of_getElem? (i := 125) rfl) rfl)
theorem ml_L_76 : Cond.methodLink "SortingNetsLaw" 76 y_X_cuts ∈ TB := (tb_2 (List.mem_of_getElem? (i := 204) rfl) rfl)
theorem ml_L_80 : Cond.methodLink "SortingNetsLaw" 80 y_M_cuts ∈ TB := (tb_5 (List.mem_of_getElem? (i := 145) rfl) rfl)
theorem ml_L_81 : Cond.methodLink "SortingNetsLaw" 81 y_X_comparer ∈ TB := (tb_2 (List.mem_of_getElem? (i := 216) rfl) rfl)
theorem ml_L_84 : Cond.methodLink "SortingNetsLaw" 84 y_M_comparer ∈ TB := (tb_5 (List.mem_of_getElem? (i := 133) rfl) rfl)
theorem ml_L_85 : Cond.methodLink "SortingNetsLaw" 85 y_X_depth ∈ TB := (tb_2 (List.mem_of_getElem? (i := 223) rfl) rfl)
theorem ml_L_88 : Cond.methodLink "SortingNetsLaw" 88 y_M_depth ∈ TB := (tb_5 (List.mem_of_getElem? (i := 141) rfl) rfl)
theorem ml_L_89 : Cond.methodLink "SortingNetsLaw" 89 y_X_runs ∈ TB := (tb_2 (List.mem_of_getElem? (i := 231) rfl) rfl)
theorem ml_L_92 : Cond.methodLink "SortingNetsLaw" 92 y_M_runs ∈ TB := (tb_5 (List.mem_of_getElem? (i := 149) rfl) rfl)
theorem ml_L_93 : Cond.methodLink "SortingNetsLaw" 93 y_X_tells ∈ TB := (tb_2 (List.mem_of_getElem? (i := 239) rfl) rfl)
theorem ml_L_96 : Cond.methodLink "SortingNetsLaw" 96 y_M_tells ∈ TB := (tb_5 (List.mem_of_getElem? (i := 157) rfl) rfl)
theorem ml_L_97 : Cond.methodLink "SortingNetsLaw" 97 y_X_sorts ∈ TB := (tb_3 (List.mem_of_getElem? (i := 15) rfl) rfl)
theorem ml_L_100 : Cond.methodLink "SortingNetsLaw" 100 y_M_sorts ∈ TB := (tb_5 (List.mem_of_getElem? (i := 171) rfl) rfl)
theorem ml_L_101 : Cond.methodLink "SortingNetsLaw" 101 y_X_image ∈ TB := (tb_3 (List.mem_of_getElem? (i := 28) rfl) rfl)
theorem ml_L_104 : Cond.methodLink "SortingNetsLaw" 104 y_M_image ∈ TB := (tb_5 (List.mem_of_getElem? (i := 175) rfl) rfl)
theorem ml_L_105 : Cond.methodLink "SortingNetsLaw" 105 y_X_comes ∈ TB := (tb_3 (List.mem_of_getElem? (i := 56) rfl) rfl)
theorem ml_L_108 : Cond.methodLink "SortingNetsLaw" 108 y_M_comes2 ∈ TB := (tb_5 (List.mem_of_getElem? (i := 183) rfl) rfl)
theorem ml_L_109 : Cond.methodLink "SortingNetsLaw" 109 y_X_ranks ∈ TB := (tb_3 (List.mem_of_getElem? (i := 60) rfl) rfl)
theorem ml_L_112 : Cond.methodLink "SortingNetsLaw" 112 y_M_ranks ∈ TB := (tb_5 (List.mem_of_getElem? (i := 187) rfl) rfl)
theorem ml_L_113 : Cond.methodLink "SortingNetsLaw" 113 y_X_leaves ∈ TB := (tb_3 (List.mem_of_getElem? (i := 78) rfl) rfl)
theorem ml_L_116 : Cond.methodLink "SortingNetsLaw" 116 y_M_leaves ∈ TB := (tb_5 (List.mem_of_getElem? (i := 196) rfl) rfl)
theorem ml_L_117 : Cond.methodLink "SortingNetsLaw" 117 y_X_orders ∈ TB := (tb_3 (List.mem_of_getElem? (i := 82) rfl) rfl)
theorem ml_L_120 : Cond.methodLink "SortingNetsLaw" 120 y_M_orders ∈ TB := (tb_5 (List.mem_of_getElem? (i := 200) rfl) rfl)
theorem ml_L_121 : Cond.methodLink "SortingNetsLaw" 121 y_X_merges ∈ TB := (tb_3 (List.mem_of_getElem? (i := 98) rfl) rfl)
theorem ml_L_124 : Cond.methodLink "SortingNetsLaw" 124 y_M_merges ∈ TB := (tb_5 (List.mem_of_getElem? (i := 220) rfl) rfl)
theorem ml_L_125 : Cond.methodLink "SortingNetsLaw" 125 y_X_idle ∈ TB := (tb_3 (List.mem_of_getElem? (i := 102) rfl) rfl)
theorem ml_L_128 : Cond.methodLink "SortingNetsLaw" 128 y_M_idle ∈ TB := (tb_5 (List.mem_of_getElem? (i := 224) rfl) rfl)
theorem ml_L_129 : Cond.methodLink "SortingNetsLaw" 129 y_X_spare ∈ TB := (tb_3 (List.mem_of_getElem? (i := 113) rfl) rfl)
theorem ml_L_132 : Cond.methodLink "SortingNetsLaw" 132 y_M_spare ∈ TB := (tb_5 (List.mem_of_getElem? (i := 233) rfl) rfl)
theorem ml_L_133 : Cond.methodLink "SortingNetsLaw" 133 y_X_thins ∈ TB := (tb_3 (List.mem_of_getElem? (i := 122) rfl) rfl)
theorem ml_L_136 : Cond.methodLink "SortingNetsLaw" 136 y_M_thins ∈ TB := (tb_6 (List.mem_of_getElem? (i := 6) rfl) rfl)
theorem ml_L_137 : Cond.methodLink "SortingNetsLaw" 137 y_X_broken ∈ TB := (tb_3 (List.mem_of_getElem? (i := 126) rfl) rfl)
theorem ml_L_140 : Cond.methodLink "SortingNetsLaw" 140 y_M_broken ∈ TB := (tb_6 (List.mem_of_getElem? (i := 10) rfl) rfl)
theorem ml_L_141 : Cond.methodLink "SortingNetsLaw" 141 y_X_tests ∈ TB := (tb_3 (List.mem_of_getElem? (i := 134) rfl) rfl)
theorem ml_L_144 : Cond.methodLink "SortingNetsLaw" 144 y_M_tests ∈ TB := (tb_6 (List.mem_of_getElem? (i := 14) rfl) rfl)
theorem ml_L_145 : Cond.methodLink "SortingNetsLaw" 145 y_X_helps ∈ TB := (tb_3 (List.mem_of_getElem? (i := 142) rfl) rfl)
theorem ml_L_148 : Cond.methodLink "SortingNetsLaw" 148 y_M_helps ∈ TB := (tb_6 (List.mem_of_getElem? (i := 18) rfl) rfl)
theorem ml_L_149 : Cond.methodLink "SortingNetsLaw" 149 y_X_same ∈ TB := (tb_3 (List.mem_of_getElem? (i := 150) rfl) rfl)
theorem ml_L_152 : Cond.methodLink "SortingNetsLaw" 152 y_M_same ∈ TB := (tb_6 (List.mem_of_getElem? (i := 25) rfl) rfl)
theorem ml_L_153 : Cond.methodLink "SortingNetsLaw" 153 y_X_within ∈ TB := (tb_3 (List.mem_of_getElem? (i := 158) rfl) rfl)
theorem ml_L_156 : Cond.methodLink "SortingNetsLaw" 156 y_M_within ∈ TB := (tb_6 (List.mem_of_getElem? (i := 29) rfl) rfl)
theorem ml_L_157 : Cond.methodLink "SortingNetsLaw" 157 y_X_least ∈ TB := (tb_3 (List.mem_of_getElem? (i := 179) rfl) rfl)
theorem ml_L_160 : Cond.methodLink "SortingNetsLaw" 160 y_M_least ∈ TB := (tb_6 (List.mem_of_getElem? (i := 45) rfl) rfl)
theorem ml_L_161 : Cond.methodLink "SortingNetsLaw" 161 y_X_shallow ∈ TB := (tb_3 (List.mem_of_getElem? (i := 228) rfl) rfl)
theorem ml_L_164 : Cond.methodLink "SortingNetsLaw" 164 y_M_shallow ∈ TB := (tb_6 (List.mem_of_getElem? (i := 76) rfl) rfl)
theorem ml_L_165 : Cond.methodLink "SortingNetsLaw" 165 y_X_rest ∈ TB := (tb_3 (List.mem_of_getElem? (i := 232) rfl) rfl)
theorem ml_L_168 : Cond.methodLink "SortingNetsLaw" 168 y_M_rest ∈ TB := (tb_6 (List.mem_of_getElem? (i := 80) rfl) rfl)
theorem ml_L_169 : Cond.methodLink "SortingNetsLaw" 169 y_X_has ∈ TB := (tb_4 (List.mem_of_getElem? (i := 0) rfl) rfl)
theorem ml_L_172 : Cond.methodLink "SortingNetsLaw" 172 y_M_has ∈ TB := (tb_6 (List.mem_of_getElem? (i := 88) rfl) rfl)
theorem ml_L_173 : Cond.methodLink "SortingNetsLaw" 173 y_X_count ∈ TB := (tb_4 (List.mem_of_getElem? (i := 4) rfl) rfl)
theorem ml_L_176 : Cond.methodLink "SortingNetsLaw" 176 y_M_count ∈ TB := (tb_6 (List.mem_of_getElem? (i := 92) rfl) rfl)
theorem ml_L_182 : Cond.methodLink "SortingNetsLaw" 182 y_M_row ∈ TB := (tb_6 (List.mem_of_getElem? (i := 96) rfl) rfl)
theorem ml_L_183 : Cond.methodLink "SortingNetsLaw" 183 y_M_thrown ∈ TB := (tb_4 (List.mem_of_getElem? (i := 185) rfl) rfl)
