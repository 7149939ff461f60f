/-! the law: printed from the decode rows by wip/whole/gen11.py -/
theorem dL_law_0 : decode code 0 = .ok (.new 8, 3) := by decide +kernel
theorem dL_law_3 : decode code 3 = .ok (.dup, 1) := by decide +kernel
theorem dL_law_4 : decode code 4 = .ok (.invokespecial 112, 3) := by decide +kernel
theorem dL_law_7 : decode code 7 = .ok (.astore_n 1, 1) := by decide +kernel
theorem dL_law_8 : decode code 8 = .ok (.new 113, 3) := by decide +kernel
theorem dL_law_11 : decode code 11 = .ok (.dup, 1) := by decide +kernel
theorem dL_law_12 : decode code 12 = .ok (.invokespecial 115, 3) := by decide +kernel
theorem dL_law_15 : decode code 15 = .ok (.astore_n 2, 1) := by decide +kernel
theorem dL_law_16 : decode code 16 = .ok (.iconst 1, 1) := by decide +kernel
theorem dL_law_17 : decode code 17 = .ok (.newarray .long, 2) := by decide +kernel
theorem dL_law_19 : decode code 19 = .ok (.astore_n 3, 1) := by decide +kernel
theorem dL_law_20 : decode code 20 = .ok (.iconst 1, 1) := by decide +kernel
theorem dL_law_21 : decode code 21 = .ok (.newarray .double, 2) := by decide +kernel
theorem dL_law_23 : decode code 23 = .ok (.astore 4, 2) := by decide +kernel
theorem dL_law_25 : decode code 25 = .ok (.iconst 0, 1) := by decide +kernel
theorem dL_law_26 : decode code 26 = .ok (.istore 5, 2) := by decide +kernel
theorem dL_law_28 : decode code 28 = .ok (.iload 5, 2) := by decide +kernel
theorem dL_law_30 : decode code 30 = .ok (.aload_n 0, 1) := by decide +kernel
theorem dL_law_31 : decode code 31 = .ok (.arraylength, 1) := by decide +kernel
theorem dL_law_32 : decode code 32 = .ok (.bipush 6, 2) := by decide +kernel
theorem dL_law_34 : decode code 34 = .ok (.isub, 1) := by decide +kernel
theorem dL_law_35 : decode code 35 = .ok (.if_icmp .gt 2605, 3) := by decide +kernel
theorem dL_law_38 : decode code 38 = .ok (.aload_n 0, 1) := by decide +kernel
theorem dL_law_39 : decode code 39 = .ok (.iload 5, 2) := by decide +kernel
theorem dL_law_41 : decode code 41 = .ok (.iaload, 1) := by decide +kernel
theorem dL_law_42 : decode code 42 = .ok (.bipush 63, 2) := by decide +kernel
theorem dL_law_44 : decode code 44 = .ok (.iand, 1) := by decide +kernel
theorem dL_law_45 : decode code 45 = .ok (.tableswitch 2589 0 45 #[199, 272, 297, 310, 323, 336, 361, 429, 497, 577, 645, 713, 781, 861, 941, 1009, 1077, 1157, 1225, 1281, 1361, 1441, 1521, 1589, 1657, 1725, 1793, 1849, 1862, 1918, 1974, 2042, 2055, 2068, 2081, 2149, 2229, 2307, 2351, 2419, 2475, 2500, 2513, 2526, 2539, 2564], 199) := by decide +kernel
theorem dL_law_244 : decode code 244 = .ok (.aload_n 1, 1) := by decide +kernel
theorem dL_law_245 : decode code 245 = .ok (.aload_n 0, 1) := by decide +kernel
theorem dL_law_246 : decode code 246 = .ok (.iload 5, 2) := by decide +kernel
theorem dL_law_248 : decode code 248 = .ok (.iconst 1, 1) := by decide +kernel
theorem dL_law_249 : decode code 249 = .ok (.iadd, 1) := by decide +kernel
theorem dL_law_250 : decode code 250 = .ok (.iaload, 1) := by decide +kernel
theorem dL_law_251 : decode code 251 = .ok (.aload_n 0, 1) := by decide +kernel
theorem dL_law_252 : decode code 252 = .ok (.iload 5, 2) := by decide +kernel
theorem dL_law_254 : decode code 254 = .ok (.iconst 2, 1) := by decide +kernel
theorem dL_law_255 : decode code 255 = .ok (.iadd, 1) := by decide +kernel
theorem dL_law_256 : decode code 256 = .ok (.iaload, 1) := by decide +kernel
theorem dL_law_257 : decode code 257 = .ok (.aload_n 0, 1) := by decide +kernel
theorem dL_law_258 : decode code 258 = .ok (.iload 5, 2) := by decide +kernel
theorem dL_law_260 : decode code 260 = .ok (.iconst 3, 1) := by decide +kernel
theorem dL_law_261 : decode code 261 = .ok (.iadd, 1) := by decide +kernel
theorem dL_law_262 : decode code 262 = .ok (.iaload, 1) := by decide +kernel
theorem dL_law_263 : decode code 263 = .ok (.aload_n 0, 1) := by decide +kernel
theorem dL_law_264 : decode code 264 = .ok (.iload 5, 2) := by decide +kernel
theorem dL_law_266 : decode code 266 = .ok (.iconst 4, 1) := by decide +kernel
theorem dL_law_267 : decode code 267 = .ok (.iadd, 1) := by decide +kernel
theorem dL_law_268 : decode code 268 = .ok (.iaload, 1) := by decide +kernel
theorem dL_law_269 : decode code 269 = .ok (.aload_n 0, 1) := by decide +kernel
theorem dL_law_270 : decode code 270 = .ok (.iload 5, 2) := by decide +kernel
theorem dL_law_272 : decode code 272 = .ok (.iconst 5, 1) := by decide +kernel
theorem dL_law_273 : decode code 273 = .ok (.iadd, 1) := by decide +kernel
theorem dL_law_274 : decode code 274 = .ok (.iaload, 1) := by decide +kernel
theorem dL_law_275 : decode code 275 = .ok (.invokevirtual 116, 3) := by decide +kernel
theorem dL_law_278 : decode code 278 = .ok (.aload_n 2, 1) := by decide +kernel
theorem dL_law_279 : decode code 279 = .ok (.aload_n 0, 1) := by decide +kernel
theorem dL_law_280 : decode code 280 = .ok (.iload 5, 2) := by decide +kernel
theorem dL_law_282 : decode code 282 = .ok (.iconst 1, 1) := by decide +kernel
theorem dL_law_283 : decode code 283 = .ok (.iadd, 1) := by decide +kernel
theorem dL_law_284 : decode code 284 = .ok (.iaload, 1) := by decide +kernel
theorem dL_law_285 : decode code 285 = .ok (.aload_n 0, 1) := by decide +kernel
theorem dL_law_286 : decode code 286 = .ok (.iload 5, 2) := by decide +kernel
theorem dL_law_288 : decode code 288 = .ok (.iconst 2, 1) := by decide +kernel
theorem dL_law_289 : decode code 289 = .ok (.iadd, 1) := by decide +kernel
theorem dL_law_290 : decode code 290 = .ok (.iaload, 1) := by decide +kernel
theorem dL_law_291 : decode code 291 = .ok (.aload_n 0, 1) := by decide +kernel
theorem dL_law_292 : decode code 292 = .ok (.iload 5, 2) := by decide +kernel
theorem dL_law_294 : decode code 294 = .ok (.iconst 3, 1) := by decide +kernel
theorem dL_law_295 : decode code 295 = .ok (.iadd, 1) := by decide +kernel
theorem dL_law_296 : decode code 296 = .ok (.iaload, 1) := by decide +kernel
theorem dL_law_297 : decode code 297 = .ok (.aload_n 0, 1) := by decide +kernel
theorem dL_law_298 : decode code 298 = .ok (.iload 5, 2) := by decide +kernel
theorem dL_law_300 : decode code 300 = .ok (.iconst 4, 1) := by decide +kernel
theorem dL_law_301 : decode code 301 = .ok (.iadd, 1) := by decide +kernel
theorem dL_law_302 : decode code 302 = .ok (.iaload, 1) := by decide +kernel
theorem dL_law_303 : decode code 303 = .ok (.aload_n 0, 1) := by decide +kernel
theorem dL_law_304 : decode code 304 = .ok (.iload 5, 2) := by decide +kernel
theorem dL_law_306 : decode code 306 = .ok (.iconst 5, 1) := by decide +kernel
theorem dL_law_307 : decode code 307 = .ok (.iadd, 1) := by decide +kernel
theorem dL_law_308 : decode code 308 = .ok (.iaload, 1) := by decide +kernel
theorem dL_law_309 : decode code 309 = .ok (.invokevirtual 120, 3) := by decide +kernel
theorem dL_law_312 : decode code 312 = .ok (.if_icmp .eq 2322, 3) := by decide +kernel
theorem dL_law_315 : decode code 315 = .ok (.iconst 0, 1) := by decide +kernel
theorem dL_law_316 : decode code 316 = .ok (.ireturn, 1) := by decide +kernel
theorem dL_law_317 : decode code 317 = .ok (.aload_n 1, 1) := by decide +kernel
theorem dL_law_318 : decode code 318 = .ok (.aload_n 0, 1) := by decide +kernel
theorem dL_law_319 : decode code 319 = .ok (.iload 5, 2) := by decide +kernel
theorem dL_law_321 : decode code 321 = .ok (.iconst 1, 1) := by decide +kernel
theorem dL_law_322 : decode code 322 = .ok (.iadd, 1) := by decide +kernel
theorem dL_law_323 : decode code 323 = .ok (.iaload, 1) := by decide +kernel
theorem dL_law_324 : decode code 324 = .ok (.invokevirtual 121, 3) := by decide +kernel
theorem dL_law_327 : decode code 327 = .ok (.aload_n 2, 1) := by decide +kernel
theorem dL_law_328 : decode code 328 = .ok (.aload_n 0, 1) := by decide +kernel
theorem dL_law_329 : decode code 329 = .ok (.iload 5, 2) := by decide +kernel
theorem dL_law_331 : decode code 331 = .ok (.iconst 1, 1) := by decide +kernel
theorem dL_law_332 : decode code 332 = .ok (.iadd, 1) := by decide +kernel
theorem dL_law_333 : decode code 333 = .ok (.iaload, 1) := by decide +kernel
theorem dL_law_334 : decode code 334 = .ok (.invokevirtual 124, 3) := by decide +kernel
theorem dL_law_337 : decode code 337 = .ok (.if_icmp .eq 2297, 3) := by decide +kernel
theorem dL_law_340 : decode code 340 = .ok (.iconst 0, 1) := by decide +kernel
theorem dL_law_341 : decode code 341 = .ok (.ireturn, 1) := by decide +kernel
theorem dL_law_342 : decode code 342 = .ok (.aload_n 1, 1) := by decide +kernel
theorem dL_law_343 : decode code 343 = .ok (.invokevirtual 125, 3) := by decide +kernel
theorem dL_law_346 : decode code 346 = .ok (.aload_n 2, 1) := by decide +kernel
theorem dL_law_347 : decode code 347 = .ok (.invokevirtual 128, 3) := by decide +kernel
theorem dL_law_350 : decode code 350 = .ok (.if_icmp .eq 2284, 3) := by decide +kernel
theorem dL_law_353 : decode code 353 = .ok (.iconst 0, 1) := by decide +kernel
theorem dL_law_354 : decode code 354 = .ok (.ireturn, 1) := by decide +kernel
theorem dL_law_355 : decode code 355 = .ok (.aload_n 1, 1) := by decide +kernel
theorem dL_law_356 : decode code 356 = .ok (.invokevirtual 129, 3) := by decide +kernel
theorem dL_law_359 : decode code 359 = .ok (.aload_n 2, 1) := by decide +kernel
theorem dL_law_360 : decode code 360 = .ok (.invokevirtual 132, 3) := by decide +kernel
theorem dL_law_363 : decode code 363 = .ok (.if_icmp .eq 2271, 3) := by decide +kernel
theorem dL_law_366 : decode code 366 = .ok (.iconst 0, 1) := by decide +kernel
theorem dL_law_367 : decode code 367 = .ok (.ireturn, 1) := by decide +kernel
theorem dL_law_368 : decode code 368 = .ok (.aload_n 1, 1) := by decide +kernel
theorem dL_law_369 : decode code 369 = .ok (.invokevirtual 133, 3) := by decide +kernel
theorem dL_law_372 : decode code 372 = .ok (.aload_n 2, 1) := by decide +kernel
theorem dL_law_373 : decode code 373 = .ok (.invokevirtual 136, 3) := by decide +kernel
theorem dL_law_376 : decode code 376 = .ok (.if_icmp .eq 2258, 3) := by decide +kernel
theorem dL_law_379 : decode code 379 = .ok (.iconst 0, 1) := by decide +kernel
theorem dL_law_380 : decode code 380 = .ok (.ireturn, 1) := by decide +kernel
theorem dL_law_381 : decode code 381 = .ok (.aload_n 1, 1) := by decide +kernel
theorem dL_law_382 : decode code 382 = .ok (.aload_n 0, 1) := by decide +kernel
theorem dL_law_383 : decode code 383 = .ok (.iload 5, 2) := by decide +kernel
theorem dL_law_385 : decode code 385 = .ok (.iconst 1, 1) := by decide +kernel
theorem dL_law_386 : decode code 386 = .ok (.iadd, 1) := by decide +kernel
theorem dL_law_387 : decode code 387 = .ok (.iaload, 1) := by decide +kernel
theorem dL_law_388 : decode code 388 = .ok (.invokevirtual 137, 3) := by decide +kernel
theorem dL_law_391 : decode code 391 = .ok (.aload_n 2, 1) := by decide +kernel
theorem dL_law_392 : decode code 392 = .ok (.aload_n 0, 1) := by decide +kernel
theorem dL_law_393 : decode code 393 = .ok (.iload 5, 2) := by decide +kernel
theorem dL_law_395 : decode code 395 = .ok (.iconst 1, 1) := by decide +kernel
theorem dL_law_396 : decode code 396 = .ok (.iadd, 1) := by decide +kernel
theorem dL_law_397 : decode code 397 = .ok (.iaload, 1) := by decide +kernel
theorem dL_law_398 : decode code 398 = .ok (.invokevirtual 140, 3) := by decide +kernel
theorem dL_law_401 : decode code 401 = .ok (.if_icmp .eq 2233, 3) := by decide +kernel
theorem dL_law_404 : decode code 404 = .ok (.iconst 0, 1) := by decide +kernel
theorem dL_law_405 : decode code 405 = .ok (.ireturn, 1) := by decide +kernel
theorem dL_law_406 : decode code 406 = .ok (.aload_n 1, 1) := by decide +kernel
theorem dL_law_407 : decode code 407 = .ok (.aload_n 0, 1) := by decide +kernel
theorem dL_law_408 : decode code 408 = .ok (.iload 5, 2) := by decide +kernel
theorem dL_law_410 : decode code 410 = .ok (.iconst 1, 1) := by decide +kernel
theorem dL_law_411 : decode code 411 = .ok (.iadd, 1) := by decide +kernel
theorem dL_law_412 : decode code 412 = .ok (.iaload, 1) := by decide +kernel
theorem dL_law_413 : decode code 413 = .ok (.aload_n 0, 1) := by decide +kernel
theorem dL_law_414 : decode code 414 = .ok (.iload 5, 2) := by decide +kernel
theorem dL_law_416 : decode code 416 = .ok (.iconst 2, 1) := by decide +kernel
theorem dL_law_417 : decode code 417 = .ok (.iadd, 1) := by decide +kernel
theorem dL_law_418 : decode code 418 = .ok (.iaload, 1) := by decide +kernel
theorem dL_law_419 : decode code 419 = .ok (.aload_n 3, 1) := by decide +kernel
theorem dL_law_420 : decode code 420 = .ok (.invokestatic 141, 3) := by decide +kernel
theorem dL_law_423 : decode code 423 = .ok (.istore 6, 2) := by decide +kernel
theorem dL_law_425 : decode code 425 = .ok (.aload_n 2, 1) := by decide +kernel
theorem dL_law_426 : decode code 426 = .ok (.aload_n 0, 1) := by decide +kernel
theorem dL_law_427 : decode code 427 = .ok (.iload 5, 2) := by decide +kernel
theorem dL_law_429 : decode code 429 = .ok (.iconst 1, 1) := by decide +kernel
theorem dL_law_430 : decode code 430 = .ok (.iadd, 1) := by decide +kernel
theorem dL_law_431 : decode code 431 = .ok (.iaload, 1) := by decide +kernel
theorem dL_law_432 : decode code 432 = .ok (.aload_n 0, 1) := by decide +kernel
theorem dL_law_433 : decode code 433 = .ok (.iload 5, 2) := by decide +kernel
theorem dL_law_435 : decode code 435 = .ok (.iconst 2, 1) := by decide +kernel
theorem dL_law_436 : decode code 436 = .ok (.iadd, 1) := by decide +kernel
theorem dL_law_437 : decode code 437 = .ok (.iaload, 1) := by decide +kernel
theorem dL_law_438 : decode code 438 = .ok (.invokevirtual 146, 3) := by decide +kernel
theorem dL_law_441 : decode code 441 = .ok (.istore 7, 2) := by decide +kernel
theorem dL_law_443 : decode code 443 = .ok (.aload_n 2, 1) := by decide +kernel
theorem dL_law_444 : decode code 444 = .ok (.invokevirtual 147, 3) := by decide +kernel
theorem dL_law_447 : decode code 447 = .ok (.iload 6, 2) := by decide +kernel
theorem dL_law_449 : decode code 449 = .ok (.if_icmp .eq 5, 3) := by decide +kernel
theorem dL_law_452 : decode code 452 = .ok (.iconst 0, 1) := by decide +kernel
theorem dL_law_453 : decode code 453 = .ok (.ireturn, 1) := by decide +kernel
theorem dL_law_454 : decode code 454 = .ok (.iload 6, 2) := by decide +kernel
theorem dL_law_456 : decode code 456 = .ok (.ifCond .ne 15, 3) := by decide +kernel
theorem dL_law_459 : decode code 459 = .ok (.aload_n 3, 1) := by decide +kernel
theorem dL_law_460 : decode code 460 = .ok (.iconst 0, 1) := by decide +kernel
theorem dL_law_461 : decode code 461 = .ok (.laload, 1) := by decide +kernel
theorem dL_law_462 : decode code 462 = .ok (.iload 7, 2) := by decide +kernel
theorem dL_law_464 : decode code 464 = .ok (.i2l, 1) := by decide +kernel
theorem dL_law_465 : decode code 465 = .ok (.lcmp, 1) := by decide +kernel
theorem dL_law_466 : decode code 466 = .ok (.ifCond .eq 5, 3) := by decide +kernel
theorem dL_law_469 : decode code 469 = .ok (.iconst 0, 1) := by decide +kernel
theorem dL_law_470 : decode code 470 = .ok (.ireturn, 1) := by decide +kernel
theorem dL_law_471 : decode code 471 = .ok (.goto 2163, 3) := by decide +kernel
theorem dL_law_474 : decode code 474 = .ok (.aload_n 1, 1) := by decide +kernel
theorem dL_law_475 : decode code 475 = .ok (.aload_n 0, 1) := by decide +kernel
theorem dL_law_476 : decode code 476 = .ok (.iload 5, 2) := by decide +kernel
theorem dL_law_478 : decode code 478 = .ok (.iconst 1, 1) := by decide +kernel
theorem dL_law_479 : decode code 479 = .ok (.iadd, 1) := by decide +kernel
theorem dL_law_480 : decode code 480 = .ok (.iaload, 1) := by decide +kernel
theorem dL_law_481 : decode code 481 = .ok (.aload_n 0, 1) := by decide +kernel
theorem dL_law_482 : decode code 482 = .ok (.iload 5, 2) := by decide +kernel
theorem dL_law_484 : decode code 484 = .ok (.iconst 2, 1) := by decide +kernel
theorem dL_law_485 : decode code 485 = .ok (.iadd, 1) := by decide +kernel
theorem dL_law_486 : decode code 486 = .ok (.iaload, 1) := by decide +kernel
theorem dL_law_487 : decode code 487 = .ok (.aload_n 3, 1) := by decide +kernel
theorem dL_law_488 : decode code 488 = .ok (.invokestatic 150, 3) := by decide +kernel
theorem dL_law_491 : decode code 491 = .ok (.istore 6, 2) := by decide +kernel
theorem dL_law_493 : decode code 493 = .ok (.aload_n 2, 1) := by decide +kernel
theorem dL_law_494 : decode code 494 = .ok (.aload_n 0, 1) := by decide +kernel
theorem dL_law_495 : decode code 495 = .ok (.iload 5, 2) := by decide +kernel
theorem dL_law_497 : decode code 497 = .ok (.iconst 1, 1) := by decide +kernel
theorem dL_law_498 : decode code 498 = .ok (.iadd, 1) := by decide +kernel
theorem dL_law_499 : decode code 499 = .ok (.iaload, 1) := by decide +kernel
theorem dL_law_500 : decode code 500 = .ok (.aload_n 0, 1) := by decide +kernel
theorem dL_law_501 : decode code 501 = .ok (.iload 5, 2) := by decide +kernel
theorem dL_law_503 : decode code 503 = .ok (.iconst 2, 1) := by decide +kernel
theorem dL_law_504 : decode code 504 = .ok (.iadd, 1) := by decide +kernel
theorem dL_law_505 : decode code 505 = .ok (.iaload, 1) := by decide +kernel
theorem dL_law_506 : decode code 506 = .ok (.invokevirtual 152, 3) := by decide +kernel
theorem dL_law_509 : decode code 509 = .ok (.istore 7, 2) := by decide +kernel
theorem dL_law_511 : decode code 511 = .ok (.aload_n 2, 1) := by decide +kernel
theorem dL_law_512 : decode code 512 = .ok (.invokevirtual 147, 3) := by decide +kernel
theorem dL_law_515 : decode code 515 = .ok (.iload 6, 2) := by decide +kernel
theorem dL_law_517 : decode code 517 = .ok (.if_icmp .eq 5, 3) := by decide +kernel
theorem dL_law_520 : decode code 520 = .ok (.iconst 0, 1) := by decide +kernel
theorem dL_law_521 : decode code 521 = .ok (.ireturn, 1) := by decide +kernel
theorem dL_law_522 : decode code 522 = .ok (.iload 6, 2) := by decide +kernel
theorem dL_law_524 : decode code 524 = .ok (.ifCond .ne 15, 3) := by decide +kernel
theorem dL_law_527 : decode code 527 = .ok (.aload_n 3, 1) := by decide +kernel
theorem dL_law_528 : decode code 528 = .ok (.iconst 0, 1) := by decide +kernel
theorem dL_law_529 : decode code 529 = .ok (.laload, 1) := by decide +kernel
theorem dL_law_530 : decode code 530 = .ok (.iload 7, 2) := by decide +kernel
theorem dL_law_532 : decode code 532 = .ok (.i2l, 1) := by decide +kernel
theorem dL_law_533 : decode code 533 = .ok (.lcmp, 1) := by decide +kernel
theorem dL_law_534 : decode code 534 = .ok (.ifCond .eq 5, 3) := by decide +kernel
theorem dL_law_537 : decode code 537 = .ok (.iconst 0, 1) := by decide +kernel
theorem dL_law_538 : decode code 538 = .ok (.ireturn, 1) := by decide +kernel
theorem dL_law_539 : decode code 539 = .ok (.goto 2095, 3) := by decide +kernel
theorem dL_law_542 : decode code 542 = .ok (.aload_n 1, 1) := by decide +kernel
theorem dL_law_543 : decode code 543 = .ok (.aload_n 0, 1) := by decide +kernel
theorem dL_law_544 : decode code 544 = .ok (.iload 5, 2) := by decide +kernel
theorem dL_law_546 : decode code 546 = .ok (.iconst 1, 1) := by decide +kernel
theorem dL_law_547 : decode code 547 = .ok (.iadd, 1) := by decide +kernel
theorem dL_law_548 : decode code 548 = .ok (.iaload, 1) := by decide +kernel
theorem dL_law_549 : decode code 549 = .ok (.aload_n 0, 1) := by decide +kernel
theorem dL_law_550 : decode code 550 = .ok (.iload 5, 2) := by decide +kernel
theorem dL_law_552 : decode code 552 = .ok (.iconst 2, 1) := by decide +kernel
theorem dL_law_553 : decode code 553 = .ok (.iadd, 1) := by decide +kernel
theorem dL_law_554 : decode code 554 = .ok (.iaload, 1) := by decide +kernel
theorem dL_law_555 : decode code 555 = .ok (.aload_n 0, 1) := by decide +kernel
theorem dL_law_556 : decode code 556 = .ok (.iload 5, 2) := by decide +kernel
theorem dL_law_558 : decode code 558 = .ok (.iconst 3, 1) := by decide +kernel
theorem dL_law_559 : decode code 559 = .ok (.iadd, 1) := by decide +kernel
theorem dL_law_560 : decode code 560 = .ok (.iaload, 1) := by decide +kernel
theorem dL_law_561 : decode code 561 = .ok (.aload_n 3, 1) := by decide +kernel
theorem dL_law_562 : decode code 562 = .ok (.invokestatic 153, 3) := by decide +kernel
theorem dL_law_565 : decode code 565 = .ok (.istore 6, 2) := by decide +kernel
theorem dL_law_567 : decode code 567 = .ok (.aload_n 2, 1) := by decide +kernel
theorem dL_law_568 : decode code 568 = .ok (.aload_n 0, 1) := by decide +kernel
theorem dL_law_569 : decode code 569 = .ok (.iload 5, 2) := by decide +kernel
theorem dL_law_571 : decode code 571 = .ok (.iconst 1, 1) := by decide +kernel
theorem dL_law_572 : decode code 572 = .ok (.iadd, 1) := by decide +kernel
theorem dL_law_573 : decode code 573 = .ok (.iaload, 1) := by decide +kernel
theorem dL_law_574 : decode code 574 = .ok (.aload_n 0, 1) := by decide +kernel
theorem dL_law_575 : decode code 575 = .ok (.iload 5, 2) := by decide +kernel
theorem dL_law_577 : decode code 577 = .ok (.iconst 2, 1) := by decide +kernel
theorem dL_law_578 : decode code 578 = .ok (.iadd, 1) := by decide +kernel
theorem dL_law_579 : decode code 579 = .ok (.iaload, 1) := by decide +kernel
theorem dL_law_580 : decode code 580 = .ok (.aload_n 0, 1) := by decide +kernel
theorem dL_law_581 : decode code 581 = .ok (.iload 5, 2) := by decide +kernel
theorem dL_law_583 : decode code 583 = .ok (.iconst 3, 1) := by decide +kernel
theorem dL_law_584 : decode code 584 = .ok (.iadd, 1) := by decide +kernel
theorem dL_law_585 : decode code 585 = .ok (.iaload, 1) := by decide +kernel
theorem dL_law_586 : decode code 586 = .ok (.invokevirtual 156, 3) := by decide +kernel
theorem dL_law_589 : decode code 589 = .ok (.istore 7, 2) := by decide +kernel
theorem dL_law_591 : decode code 591 = .ok (.aload_n 2, 1) := by decide +kernel
theorem dL_law_592 : decode code 592 = .ok (.invokevirtual 147, 3) := by decide +kernel
theorem dL_law_595 : decode code 595 = .ok (.iload 6, 2) := by decide +kernel
theorem dL_law_597 : decode code 597 = .ok (.if_icmp .eq 5, 3) := by decide +kernel
theorem dL_law_600 : decode code 600 = .ok (.iconst 0, 1) := by decide +kernel
theorem dL_law_601 : decode code 601 = .ok (.ireturn, 1) := by decide +kernel
theorem dL_law_602 : decode code 602 = .ok (.iload 6, 2) := by decide +kernel
theorem dL_law_604 : decode code 604 = .ok (.ifCond .ne 15, 3) := by decide +kernel
theorem dL_law_607 : decode code 607 = .ok (.aload_n 3, 1) := by decide +kernel
theorem dL_law_608 : decode code 608 = .ok (.iconst 0, 1) := by decide +kernel
theorem dL_law_609 : decode code 609 = .ok (.laload, 1) := by decide +kernel
theorem dL_law_610 : decode code 610 = .ok (.iload 7, 2) := by decide +kernel
theorem dL_law_612 : decode code 612 = .ok (.i2l, 1) := by decide +kernel
theorem dL_law_613 : decode code 613 = .ok (.lcmp, 1) := by decide +kernel
theorem dL_law_614 : decode code 614 = .ok (.ifCond .eq 5, 3) := by decide +kernel
theorem dL_law_617 : decode code 617 = .ok (.iconst 0, 1) := by decide +kernel
theorem dL_law_618 : decode code 618 = .ok (.ireturn, 1) := by decide +kernel
theorem dL_law_619 : decode code 619 = .ok (.goto 2015, 3) := by decide +kernel
theorem dL_law_622 : decode code 622 = .ok (.aload_n 1, 1) := by decide +kernel
theorem dL_law_623 : decode code 623 = .ok (.aload_n 0, 1) := by decide +kernel
theorem dL_law_624 : decode code 624 = .ok (.iload 5, 2) := by decide +kernel
theorem dL_law_626 : decode code 626 = .ok (.iconst 1, 1) := by decide +kernel
theorem dL_law_627 : decode code 627 = .ok (.iadd, 1) := by decide +kernel
theorem dL_law_628 : decode code 628 = .ok (.iaload, 1) := by decide +kernel
theorem dL_law_629 : decode code 629 = .ok (.aload_n 0, 1) := by decide +kernel
theorem dL_law_630 : decode code 630 = .ok (.iload 5, 2) := by decide +kernel
theorem dL_law_632 : decode code 632 = .ok (.iconst 2, 1) := by decide +kernel
theorem dL_law_633 : decode code 633 = .ok (.iadd, 1) := by decide +kernel
theorem dL_law_634 : decode code 634 = .ok (.iaload, 1) := by decide +kernel
theorem dL_law_635 : decode code 635 = .ok (.aload_n 3, 1) := by decide +kernel
theorem dL_law_636 : decode code 636 = .ok (.invokestatic 157, 3) := by decide +kernel
theorem dL_law_639 : decode code 639 = .ok (.istore 6, 2) := by decide +kernel
theorem dL_law_641 : decode code 641 = .ok (.aload_n 2, 1) := by decide +kernel
theorem dL_law_642 : decode code 642 = .ok (.aload_n 0, 1) := by decide +kernel
theorem dL_law_643 : decode code 643 = .ok (.iload 5, 2) := by decide +kernel
theorem dL_law_645 : decode code 645 = .ok (.iconst 1, 1) := by decide +kernel
theorem dL_law_646 : decode code 646 = .ok (.iadd, 1) := by decide +kernel
theorem dL_law_647 : decode code 647 = .ok (.iaload, 1) := by decide +kernel
theorem dL_law_648 : decode code 648 = .ok (.aload_n 0, 1) := by decide +kernel
theorem dL_law_649 : decode code 649 = .ok (.iload 5, 2) := by decide +kernel
theorem dL_law_651 : decode code 651 = .ok (.iconst 2, 1) := by decide +kernel
theorem dL_law_652 : decode code 652 = .ok (.iadd, 1) := by decide +kernel
theorem dL_law_653 : decode code 653 = .ok (.iaload, 1) := by decide +kernel
theorem dL_law_654 : decode code 654 = .ok (.invokevirtual 159, 3) := by decide +kernel
theorem dL_law_657 : decode code 657 = .ok (.istore 7, 2) := by decide +kernel
theorem dL_law_659 : decode code 659 = .ok (.aload_n 2, 1) := by decide +kernel
theorem dL_law_660 : decode code 660 = .ok (.invokevirtual 147, 3) := by decide +kernel
theorem dL_law_663 : decode code 663 = .ok (.iload 6, 2) := by decide +kernel
theorem dL_law_665 : decode code 665 = .ok (.if_icmp .eq 5, 3) := by decide +kernel
theorem dL_law_668 : decode code 668 = .ok (.iconst 0, 1) := by decide +kernel
theorem dL_law_669 : decode code 669 = .ok (.ireturn, 1) := by decide +kernel
theorem dL_law_670 : decode code 670 = .ok (.iload 6, 2) := by decide +kernel
theorem dL_law_672 : decode code 672 = .ok (.ifCond .ne 15, 3) := by decide +kernel
theorem dL_law_675 : decode code 675 = .ok (.aload_n 3, 1) := by decide +kernel
theorem dL_law_676 : decode code 676 = .ok (.iconst 0, 1) := by decide +kernel
theorem dL_law_677 : decode code 677 = .ok (.laload, 1) := by decide +kernel
theorem dL_law_678 : decode code 678 = .ok (.iload 7, 2) := by decide +kernel
theorem dL_law_680 : decode code 680 = .ok (.i2l, 1) := by decide +kernel
theorem dL_law_681 : decode code 681 = .ok (.lcmp, 1) := by decide +kernel
theorem dL_law_682 : decode code 682 = .ok (.ifCond .eq 5, 3) := by decide +kernel
theorem dL_law_685 : decode code 685 = .ok (.iconst 0, 1) := by decide +kernel
theorem dL_law_686 : decode code 686 = .ok (.ireturn, 1) := by decide +kernel
theorem dL_law_687 : decode code 687 = .ok (.goto 1947, 3) := by decide +kernel
theorem dL_law_690 : decode code 690 = .ok (.aload_n 1, 1) := by decide +kernel
theorem dL_law_691 : decode code 691 = .ok (.aload_n 0, 1) := by decide +kernel
theorem dL_law_692 : decode code 692 = .ok (.iload 5, 2) := by decide +kernel
theorem dL_law_694 : decode code 694 = .ok (.iconst 1, 1) := by decide +kernel
theorem dL_law_695 : decode code 695 = .ok (.iadd, 1) := by decide +kernel
theorem dL_law_696 : decode code 696 = .ok (.iaload, 1) := by decide +kernel
theorem dL_law_697 : decode code 697 = .ok (.aload_n 0, 1) := by decide +kernel
theorem dL_law_698 : decode code 698 = .ok (.iload 5, 2) := by decide +kernel
theorem dL_law_700 : decode code 700 = .ok (.iconst 2, 1) := by decide +kernel
theorem dL_law_701 : decode code 701 = .ok (.iadd, 1) := by decide +kernel
theorem dL_law_702 : decode code 702 = .ok (.iaload, 1) := by decide +kernel
theorem dL_law_703 : decode code 703 = .ok (.aload_n 3, 1) := by decide +kernel
theorem dL_law_704 : decode code 704 = .ok (.invokestatic 160, 3) := by decide +kernel
theorem dL_law_707 : decode code 707 = .ok (.istore 6, 2) := by decide +kernel
theorem dL_law_709 : decode code 709 = .ok (.aload_n 2, 1) := by decide +kernel
theorem dL_law_710 : decode code 710 = .ok (.aload_n 0, 1) := by decide +kernel
theorem dL_law_711 : decode code 711 = .ok (.iload 5, 2) := by decide +kernel
theorem dL_law_713 : decode code 713 = .ok (.iconst 1, 1) := by decide +kernel
theorem dL_law_714 : decode code 714 = .ok (.iadd, 1) := by decide +kernel
theorem dL_law_715 : decode code 715 = .ok (.iaload, 1) := by decide +kernel
theorem dL_law_716 : decode code 716 = .ok (.aload_n 0, 1) := by decide +kernel
theorem dL_law_717 : decode code 717 = .ok (.iload 5, 2) := by decide +kernel
theorem dL_law_719 : decode code 719 = .ok (.iconst 2, 1) := by decide +kernel
theorem dL_law_720 : decode code 720 = .ok (.iadd, 1) := by decide +kernel
theorem dL_law_721 : decode code 721 = .ok (.iaload, 1) := by decide +kernel
theorem dL_law_722 : decode code 722 = .ok (.invokevirtual 162, 3) := by decide +kernel
theorem dL_law_725 : decode code 725 = .ok (.istore 7, 2) := by decide +kernel
theorem dL_law_727 : decode code 727 = .ok (.aload_n 2, 1) := by decide +kernel
theorem dL_law_728 : decode code 728 = .ok (.invokevirtual 147, 3) := by decide +kernel
theorem dL_law_731 : decode code 731 = .ok (.iload 6, 2) := by decide +kernel
theorem dL_law_733 : decode code 733 = .ok (.if_icmp .eq 5, 3) := by decide +kernel
theorem dL_law_736 : decode code 736 = .ok (.iconst 0, 1) := by decide +kernel
theorem dL_law_737 : decode code 737 = .ok (.ireturn, 1) := by decide +kernel
theorem dL_law_738 : decode code 738 = .ok (.iload 6, 2) := by decide +kernel
theorem dL_law_740 : decode code 740 = .ok (.ifCond .ne 15, 3) := by decide +kernel
theorem dL_law_743 : decode code 743 = .ok (.aload_n 3, 1) := by decide +kernel
theorem dL_law_744 : decode code 744 = .ok (.iconst 0, 1) := by decide +kernel
theorem dL_law_745 : decode code 745 = .ok (.laload, 1) := by decide +kernel
theorem dL_law_746 : decode code 746 = .ok (.iload 7, 2) := by decide +kernel
theorem dL_law_748 : decode code 748 = .ok (.i2l, 1) := by decide +kernel
theorem dL_law_749 : decode code 749 = .ok (.lcmp, 1) := by decide +kernel
theorem dL_law_750 : decode code 750 = .ok (.ifCond .eq 5, 3) := by decide +kernel
theorem dL_law_753 : decode code 753 = .ok (.iconst 0, 1) := by decide +kernel
theorem dL_law_754 : decode code 754 = .ok (.ireturn, 1) := by decide +kernel
theorem dL_law_755 : decode code 755 = .ok (.goto 1879, 3) := by decide +kernel
theorem dL_law_758 : decode code 758 = .ok (.aload_n 1, 1) := by decide +kernel
theorem dL_law_759 : decode code 759 = .ok (.aload_n 0, 1) := by decide +kernel
theorem dL_law_760 : decode code 760 = .ok (.iload 5, 2) := by decide +kernel
theorem dL_law_762 : decode code 762 = .ok (.iconst 1, 1) := by decide +kernel
theorem dL_law_763 : decode code 763 = .ok (.iadd, 1) := by decide +kernel
theorem dL_law_764 : decode code 764 = .ok (.iaload, 1) := by decide +kernel
theorem dL_law_765 : decode code 765 = .ok (.aload_n 0, 1) := by decide +kernel
theorem dL_law_766 : decode code 766 = .ok (.iload 5, 2) := by decide +kernel
theorem dL_law_768 : decode code 768 = .ok (.iconst 2, 1) := by decide +kernel
theorem dL_law_769 : decode code 769 = .ok (.iadd, 1) := by decide +kernel
theorem dL_law_770 : decode code 770 = .ok (.iaload, 1) := by decide +kernel
theorem dL_law_771 : decode code 771 = .ok (.aload_n 3, 1) := by decide +kernel
theorem dL_law_772 : decode code 772 = .ok (.invokestatic 163, 3) := by decide +kernel
theorem dL_law_775 : decode code 775 = .ok (.istore 6, 2) := by decide +kernel
theorem dL_law_777 : decode code 777 = .ok (.aload_n 2, 1) := by decide +kernel
theorem dL_law_778 : decode code 778 = .ok (.aload_n 0, 1) := by decide +kernel
theorem dL_law_779 : decode code 779 = .ok (.iload 5, 2) := by decide +kernel
theorem dL_law_781 : decode code 781 = .ok (.iconst 1, 1) := by decide +kernel
theorem dL_law_782 : decode code 782 = .ok (.iadd, 1) := by decide +kernel
theorem dL_law_783 : decode code 783 = .ok (.iaload, 1) := by decide +kernel
theorem dL_law_784 : decode code 784 = .ok (.aload_n 0, 1) := by decide +kernel
theorem dL_law_785 : decode code 785 = .ok (.iload 5, 2) := by decide +kernel
theorem dL_law_787 : decode code 787 = .ok (.iconst 2, 1) := by decide +kernel
theorem dL_law_788 : decode code 788 = .ok (.iadd, 1) := by decide +kernel
theorem dL_law_789 : decode code 789 = .ok (.iaload, 1) := by decide +kernel
theorem dL_law_790 : decode code 790 = .ok (.invokevirtual 165, 3) := by decide +kernel
theorem dL_law_793 : decode code 793 = .ok (.istore 7, 2) := by decide +kernel
theorem dL_law_795 : decode code 795 = .ok (.aload_n 2, 1) := by decide +kernel
theorem dL_law_796 : decode code 796 = .ok (.invokevirtual 147, 3) := by decide +kernel
theorem dL_law_799 : decode code 799 = .ok (.iload 6, 2) := by decide +kernel
theorem dL_law_801 : decode code 801 = .ok (.if_icmp .eq 5, 3) := by decide +kernel
theorem dL_law_804 : decode code 804 = .ok (.iconst 0, 1) := by decide +kernel
theorem dL_law_805 : decode code 805 = .ok (.ireturn, 1) := by decide +kernel
theorem dL_law_806 : decode code 806 = .ok (.iload 6, 2) := by decide +kernel
theorem dL_law_808 : decode code 808 = .ok (.ifCond .ne 15, 3) := by decide +kernel
theorem dL_law_811 : decode code 811 = .ok (.aload_n 3, 1) := by decide +kernel
theorem dL_law_812 : decode code 812 = .ok (.iconst 0, 1) := by decide +kernel
theorem dL_law_813 : decode code 813 = .ok (.laload, 1) := by decide +kernel
theorem dL_law_814 : decode code 814 = .ok (.iload 7, 2) := by decide +kernel
theorem dL_law_816 : decode code 816 = .ok (.i2l, 1) := by decide +kernel
theorem dL_law_817 : decode code 817 = .ok (.lcmp, 1) := by decide +kernel
theorem dL_law_818 : decode code 818 = .ok (.ifCond .eq 5, 3) := by decide +kernel
theorem dL_law_821 : decode code 821 = .ok (.iconst 0, 1) := by decide +kernel
theorem dL_law_822 : decode code 822 = .ok (.ireturn, 1) := by decide +kernel
theorem dL_law_823 : decode code 823 = .ok (.goto 1811, 3) := by decide +kernel
theorem dL_law_826 : decode code 826 = .ok (.aload_n 1, 1) := by decide +kernel
theorem dL_law_827 : decode code 827 = .ok (.aload_n 0, 1) := by decide +kernel
theorem dL_law_828 : decode code 828 = .ok (.iload 5, 2) := by decide +kernel
theorem dL_law_830 : decode code 830 = .ok (.iconst 1, 1) := by decide +kernel
theorem dL_law_831 : decode code 831 = .ok (.iadd, 1) := by decide +kernel
theorem dL_law_832 : decode code 832 = .ok (.iaload, 1) := by decide +kernel
theorem dL_law_833 : decode code 833 = .ok (.aload_n 0, 1) := by decide +kernel
theorem dL_law_834 : decode code 834 = .ok (.iload 5, 2) := by decide +kernel
theorem dL_law_836 : decode code 836 = .ok (.iconst 2, 1) := by decide +kernel
theorem dL_law_837 : decode code 837 = .ok (.iadd, 1) := by decide +kernel
theorem dL_law_838 : decode code 838 = .ok (.iaload, 1) := by decide +kernel
theorem dL_law_839 : decode code 839 = .ok (.aload_n 0, 1) := by decide +kernel
theorem dL_law_840 : decode code 840 = .ok (.iload 5, 2) := by decide +kernel
theorem dL_law_842 : decode code 842 = .ok (.iconst 3, 1) := by decide +kernel
theorem dL_law_843 : decode code 843 = .ok (.iadd, 1) := by decide +kernel
theorem dL_law_844 : decode code 844 = .ok (.iaload, 1) := by decide +kernel
theorem dL_law_845 : decode code 845 = .ok (.aload_n 3, 1) := by decide +kernel
theorem dL_law_846 : decode code 846 = .ok (.invokestatic 166, 3) := by decide +kernel
theorem dL_law_849 : decode code 849 = .ok (.istore 6, 2) := by decide +kernel
theorem dL_law_851 : decode code 851 = .ok (.aload_n 2, 1) := by decide +kernel
theorem dL_law_852 : decode code 852 = .ok (.aload_n 0, 1) := by decide +kernel
theorem dL_law_853 : decode code 853 = .ok (.iload 5, 2) := by decide +kernel
theorem dL_law_855 : decode code 855 = .ok (.iconst 1, 1) := by decide +kernel
theorem dL_law_856 : decode code 856 = .ok (.iadd, 1) := by decide +kernel
theorem dL_law_857 : decode code 857 = .ok (.iaload, 1) := by decide +kernel
theorem dL_law_858 : decode code 858 = .ok (.aload_n 0, 1) := by decide +kernel
theorem dL_law_859 : decode code 859 = .ok (.iload 5, 2) := by decide +kernel
theorem dL_law_861 : decode code 861 = .ok (.iconst 2, 1) := by decide +kernel
theorem dL_law_862 : decode code 862 = .ok (.iadd, 1) := by decide +kernel
theorem dL_law_863 : decode code 863 = .ok (.iaload, 1) := by decide +kernel
theorem dL_law_864 : decode code 864 = .ok (.aload_n 0, 1) := by decide +kernel
theorem dL_law_865 : decode code 865 = .ok (.iload 5, 2) := by decide +kernel
theorem dL_law_867 : decode code 867 = .ok (.iconst 3, 1) := by decide +kernel
theorem dL_law_868 : decode code 868 = .ok (.iadd, 1) := by decide +kernel
theorem dL_law_869 : decode code 869 = .ok (.iaload, 1) := by decide +kernel
theorem dL_law_870 : decode code 870 = .ok (.invokevirtual 168, 3) := by decide +kernel
theorem dL_law_873 : decode code 873 = .ok (.istore 7, 2) := by decide +kernel
theorem dL_law_875 : decode code 875 = .ok (.aload_n 2, 1) := by decide +kernel
theorem dL_law_876 : decode code 876 = .ok (.invokevirtual 147, 3) := by decide +kernel
theorem dL_law_879 : decode code 879 = .ok (.iload 6, 2) := by decide +kernel
theorem dL_law_881 : decode code 881 = .ok (.if_icmp .eq 5, 3) := by decide +kernel
theorem dL_law_884 : decode code 884 = .ok (.iconst 0, 1) := by decide +kernel
theorem dL_law_885 : decode code 885 = .ok (.ireturn, 1) := by decide +kernel
theorem dL_law_886 : decode code 886 = .ok (.iload 6, 2) := by decide +kernel
theorem dL_law_888 : decode code 888 = .ok (.ifCond .ne 15, 3) := by decide +kernel
theorem dL_law_891 : decode code 891 = .ok (.aload_n 3, 1) := by decide +kernel
theorem dL_law_892 : decode code 892 = .ok (.iconst 0, 1) := by decide +kernel
theorem dL_law_893 : decode code 893 = .ok (.laload, 1) := by decide +kernel
theorem dL_law_894 : decode code 894 = .ok (.iload 7, 2) := by decide +kernel
theorem dL_law_896 : decode code 896 = .ok (.i2l, 1) := by decide +kernel
theorem dL_law_897 : decode code 897 = .ok (.lcmp, 1) := by decide +kernel
theorem dL_law_898 : decode code 898 = .ok (.ifCond .eq 5, 3) := by decide +kernel
theorem dL_law_901 : decode code 901 = .ok (.iconst 0, 1) := by decide +kernel
theorem dL_law_902 : decode code 902 = .ok (.ireturn, 1) := by decide +kernel
theorem dL_law_903 : decode code 903 = .ok (.goto 1731, 3) := by decide +kernel
theorem dL_law_906 : decode code 906 = .ok (.aload_n 1, 1) := by decide +kernel
theorem dL_law_907 : decode code 907 = .ok (.aload_n 0, 1) := by decide +kernel
theorem dL_law_908 : decode code 908 = .ok (.iload 5, 2) := by decide +kernel
theorem dL_law_910 : decode code 910 = .ok (.iconst 1, 1) := by decide +kernel
theorem dL_law_911 : decode code 911 = .ok (.iadd, 1) := by decide +kernel
theorem dL_law_912 : decode code 912 = .ok (.iaload, 1) := by decide +kernel
theorem dL_law_913 : decode code 913 = .ok (.aload_n 0, 1) := by decide +kernel
theorem dL_law_914 : decode code 914 = .ok (.iload 5, 2) := by decide +kernel
theorem dL_law_916 : decode code 916 = .ok (.iconst 2, 1) := by decide +kernel
theorem dL_law_917 : decode code 917 = .ok (.iadd, 1) := by decide +kernel
theorem dL_law_918 : decode code 918 = .ok (.iaload, 1) := by decide +kernel
theorem dL_law_919 : decode code 919 = .ok (.aload_n 0, 1) := by decide +kernel
theorem dL_law_920 : decode code 920 = .ok (.iload 5, 2) := by decide +kernel
theorem dL_law_922 : decode code 922 = .ok (.iconst 3, 1) := by decide +kernel
theorem dL_law_923 : decode code 923 = .ok (.iadd, 1) := by decide +kernel
theorem dL_law_924 : decode code 924 = .ok (.iaload, 1) := by decide +kernel
theorem dL_law_925 : decode code 925 = .ok (.aload_n 3, 1) := by decide +kernel
theorem dL_law_926 : decode code 926 = .ok (.invokestatic 169, 3) := by decide +kernel
theorem dL_law_929 : decode code 929 = .ok (.istore 6, 2) := by decide +kernel
theorem dL_law_931 : decode code 931 = .ok (.aload_n 2, 1) := by decide +kernel
theorem dL_law_932 : decode code 932 = .ok (.aload_n 0, 1) := by decide +kernel
theorem dL_law_933 : decode code 933 = .ok (.iload 5, 2) := by decide +kernel
theorem dL_law_935 : decode code 935 = .ok (.iconst 1, 1) := by decide +kernel
theorem dL_law_936 : decode code 936 = .ok (.iadd, 1) := by decide +kernel
theorem dL_law_937 : decode code 937 = .ok (.iaload, 1) := by decide +kernel
theorem dL_law_938 : decode code 938 = .ok (.aload_n 0, 1) := by decide +kernel
theorem dL_law_939 : decode code 939 = .ok (.iload 5, 2) := by decide +kernel
theorem dL_law_941 : decode code 941 = .ok (.iconst 2, 1) := by decide +kernel
theorem dL_law_942 : decode code 942 = .ok (.iadd, 1) := by decide +kernel
theorem dL_law_943 : decode code 943 = .ok (.iaload, 1) := by decide +kernel
theorem dL_law_944 : decode code 944 = .ok (.aload_n 0, 1) := by decide +kernel
theorem dL_law_945 : decode code 945 = .ok (.iload 5, 2) := by decide +kernel
theorem dL_law_947 : decode code 947 = .ok (.iconst 3, 1) := by decide +kernel
theorem dL_law_948 : decode code 948 = .ok (.iadd, 1) := by decide +kernel
theorem dL_law_949 : decode code 949 = .ok (.iaload, 1) := by decide +kernel
theorem dL_law_950 : decode code 950 = .ok (.invokevirtual 171, 3) := by decide +kernel
theorem dL_law_953 : decode code 953 = .ok (.istore 7, 2) := by decide +kernel
theorem dL_law_955 : decode code 955 = .ok (.aload_n 2, 1) := by decide +kernel
theorem dL_law_956 : decode code 956 = .ok (.invokevirtual 147, 3) := by decide +kernel
theorem dL_law_959 : decode code 959 = .ok (.iload 6, 2) := by decide +kernel
theorem dL_law_961 : decode code 961 = .ok (.if_icmp .eq 5, 3) := by decide +kernel
theorem dL_law_964 : decode code 964 = .ok (.iconst 0, 1) := by decide +kernel
theorem dL_law_965 : decode code 965 = .ok (.ireturn, 1) := by decide +kernel
theorem dL_law_966 : decode code 966 = .ok (.iload 6, 2) := by decide +kernel
theorem dL_law_968 : decode code 968 = .ok (.ifCond .ne 15, 3) := by decide +kernel
theorem dL_law_971 : decode code 971 = .ok (.aload_n 3, 1) := by decide +kernel
theorem dL_law_972 : decode code 972 = .ok (.iconst 0, 1) := by decide +kernel
theorem dL_law_973 : decode code 973 = .ok (.laload, 1) := by decide +kernel
theorem dL_law_974 : decode code 974 = .ok (.iload 7, 2) := by decide +kernel
theorem dL_law_976 : decode code 976 = .ok (.i2l, 1) := by decide +kernel
theorem dL_law_977 : decode code 977 = .ok (.lcmp, 1) := by decide +kernel
theorem dL_law_978 : decode code 978 = .ok (.ifCond .eq 5, 3) := by decide +kernel
theorem dL_law_981 : decode code 981 = .ok (.iconst 0, 1) := by decide +kernel
theorem dL_law_982 : decode code 982 = .ok (.ireturn, 1) := by decide +kernel
theorem dL_law_983 : decode code 983 = .ok (.goto 1651, 3) := by decide +kernel
theorem dL_law_986 : decode code 986 = .ok (.aload_n 1, 1) := by decide +kernel
theorem dL_law_987 : decode code 987 = .ok (.aload_n 0, 1) := by decide +kernel
theorem dL_law_988 : decode code 988 = .ok (.iload 5, 2) := by decide +kernel
theorem dL_law_990 : decode code 990 = .ok (.iconst 1, 1) := by decide +kernel
theorem dL_law_991 : decode code 991 = .ok (.iadd, 1) := by decide +kernel
theorem dL_law_992 : decode code 992 = .ok (.iaload, 1) := by decide +kernel
theorem dL_law_993 : decode code 993 = .ok (.aload_n 0, 1) := by decide +kernel
theorem dL_law_994 : decode code 994 = .ok (.iload 5, 2) := by decide +kernel
theorem dL_law_996 : decode code 996 = .ok (.iconst 2, 1) := by decide +kernel
theorem dL_law_997 : decode code 997 = .ok (.iadd, 1) := by decide +kernel
theorem dL_law_998 : decode code 998 = .ok (.iaload, 1) := by decide +kernel
theorem dL_law_999 : decode code 999 = .ok (.aload_n 3, 1) := by decide +kernel
theorem dL_law_1000 : decode code 1000 = .ok (.invokestatic 172, 3) := by decide +kernel
theorem dL_law_1003 : decode code 1003 = .ok (.istore 6, 2) := by decide +kernel
theorem dL_law_1005 : decode code 1005 = .ok (.aload_n 2, 1) := by decide +kernel
theorem dL_law_1006 : decode code 1006 = .ok (.aload_n 0, 1) := by decide +kernel
theorem dL_law_1007 : decode code 1007 = .ok (.iload 5, 2) := by decide +kernel
theorem dL_law_1009 : decode code 1009 = .ok (.iconst 1, 1) := by decide +kernel
theorem dL_law_1010 : decode code 1010 = .ok (.iadd, 1) := by decide +kernel
theorem dL_law_1011 : decode code 1011 = .ok (.iaload, 1) := by decide +kernel
theorem dL_law_1012 : decode code 1012 = .ok (.aload_n 0, 1) := by decide +kernel
theorem dL_law_1013 : decode code 1013 = .ok (.iload 5, 2) := by decide +kernel
theorem dL_law_1015 : decode code 1015 = .ok (.iconst 2, 1) := by decide +kernel
theorem dL_law_1016 : decode code 1016 = .ok (.iadd, 1) := by decide +kernel
theorem dL_law_1017 : decode code 1017 = .ok (.iaload, 1) := by decide +kernel
theorem dL_law_1018 : decode code 1018 = .ok (.invokevirtual 174, 3) := by decide +kernel
theorem dL_law_1021 : decode code 1021 = .ok (.istore 7, 2) := by decide +kernel
theorem dL_law_1023 : decode code 1023 = .ok (.aload_n 2, 1) := by decide +kernel
theorem dL_law_1024 : decode code 1024 = .ok (.invokevirtual 147, 3) := by decide +kernel
theorem dL_law_1027 : decode code 1027 = .ok (.iload 6, 2) := by decide +kernel
theorem dL_law_1029 : decode code 1029 = .ok (.if_icmp .eq 5, 3) := by decide +kernel
theorem dL_law_1032 : decode code 1032 = .ok (.iconst 0, 1) := by decide +kernel
theorem dL_law_1033 : decode code 1033 = .ok (.ireturn, 1) := by decide +kernel
theorem dL_law_1034 : decode code 1034 = .ok (.iload 6, 2) := by decide +kernel
theorem dL_law_1036 : decode code 1036 = .ok (.ifCond .ne 15, 3) := by decide +kernel
theorem dL_law_1039 : decode code 1039 = .ok (.aload_n 3, 1) := by decide +kernel
theorem dL_law_1040 : decode code 1040 = .ok (.iconst 0, 1) := by decide +kernel
theorem dL_law_1041 : decode code 1041 = .ok (.laload, 1) := by decide +kernel
theorem dL_law_1042 : decode code 1042 = .ok (.iload 7, 2) := by decide +kernel
theorem dL_law_1044 : decode code 1044 = .ok (.i2l, 1) := by decide +kernel
theorem dL_law_1045 : decode code 1045 = .ok (.lcmp, 1) := by decide +kernel
theorem dL_law_1046 : decode code 1046 = .ok (.ifCond .eq 5, 3) := by decide +kernel
theorem dL_law_1049 : decode code 1049 = .ok (.iconst 0, 1) := by decide +kernel
theorem dL_law_1050 : decode code 1050 = .ok (.ireturn, 1) := by decide +kernel
theorem dL_law_1051 : decode code 1051 = .ok (.goto 1583, 3) := by decide +kernel
theorem dL_law_1054 : decode code 1054 = .ok (.aload_n 1, 1) := by decide +kernel
theorem dL_law_1055 : decode code 1055 = .ok (.aload_n 0, 1) := by decide +kernel
theorem dL_law_1056 : decode code 1056 = .ok (.iload 5, 2) := by decide +kernel
theorem dL_law_1058 : decode code 1058 = .ok (.iconst 1, 1) := by decide +kernel
theorem dL_law_1059 : decode code 1059 = .ok (.iadd, 1) := by decide +kernel
theorem dL_law_1060 : decode code 1060 = .ok (.iaload, 1) := by decide +kernel
theorem dL_law_1061 : decode code 1061 = .ok (.aload_n 0, 1) := by decide +kernel
theorem dL_law_1062 : decode code 1062 = .ok (.iload 5, 2) := by decide +kernel
theorem dL_law_1064 : decode code 1064 = .ok (.iconst 2, 1) := by decide +kernel
theorem dL_law_1065 : decode code 1065 = .ok (.iadd, 1) := by decide +kernel
theorem dL_law_1066 : decode code 1066 = .ok (.iaload, 1) := by decide +kernel
theorem dL_law_1067 : decode code 1067 = .ok (.aload_n 3, 1) := by decide +kernel
theorem dL_law_1068 : decode code 1068 = .ok (.invokestatic 175, 3) := by decide +kernel
theorem dL_law_1071 : decode code 1071 = .ok (.istore 6, 2) := by decide +kernel
theorem dL_law_1073 : decode code 1073 = .ok (.aload_n 2, 1) := by decide +kernel
theorem dL_law_1074 : decode code 1074 = .ok (.aload_n 0, 1) := by decide +kernel
theorem dL_law_1075 : decode code 1075 = .ok (.iload 5, 2) := by decide +kernel
theorem dL_law_1077 : decode code 1077 = .ok (.iconst 1, 1) := by decide +kernel
theorem dL_law_1078 : decode code 1078 = .ok (.iadd, 1) := by decide +kernel
theorem dL_law_1079 : decode code 1079 = .ok (.iaload, 1) := by decide +kernel
theorem dL_law_1080 : decode code 1080 = .ok (.aload_n 0, 1) := by decide +kernel
theorem dL_law_1081 : decode code 1081 = .ok (.iload 5, 2) := by decide +kernel
theorem dL_law_1083 : decode code 1083 = .ok (.iconst 2, 1) := by decide +kernel
theorem dL_law_1084 : decode code 1084 = .ok (.iadd, 1) := by decide +kernel
theorem dL_law_1085 : decode code 1085 = .ok (.iaload, 1) := by decide +kernel
theorem dL_law_1086 : decode code 1086 = .ok (.invokevirtual 177, 3) := by decide +kernel
theorem dL_law_1089 : decode code 1089 = .ok (.istore 7, 2) := by decide +kernel
theorem dL_law_1091 : decode code 1091 = .ok (.aload_n 2, 1) := by decide +kernel
theorem dL_law_1092 : decode code 1092 = .ok (.invokevirtual 147, 3) := by decide +kernel
theorem dL_law_1095 : decode code 1095 = .ok (.iload 6, 2) := by decide +kernel
theorem dL_law_1097 : decode code 1097 = .ok (.if_icmp .eq 5, 3) := by decide +kernel
theorem dL_law_1100 : decode code 1100 = .ok (.iconst 0, 1) := by decide +kernel
theorem dL_law_1101 : decode code 1101 = .ok (.ireturn, 1) := by decide +kernel
theorem dL_law_1102 : decode code 1102 = .ok (.iload 6, 2) := by decide +kernel
theorem dL_law_1104 : decode code 1104 = .ok (.ifCond .ne 15, 3) := by decide +kernel
theorem dL_law_1107 : decode code 1107 = .ok (.aload_n 3, 1) := by decide +kernel
theorem dL_law_1108 : decode code 1108 = .ok (.iconst 0, 1) := by decide +kernel
theorem dL_law_1109 : decode code 1109 = .ok (.laload, 1) := by decide +kernel
theorem dL_law_1110 : decode code 1110 = .ok (.iload 7, 2) := by decide +kernel
theorem dL_law_1112 : decode code 1112 = .ok (.i2l, 1) := by decide +kernel
theorem dL_law_1113 : decode code 1113 = .ok (.lcmp, 1) := by decide +kernel
theorem dL_law_1114 : decode code 1114 = .ok (.ifCond .eq 5, 3) := by decide +kernel
theorem dL_law_1117 : decode code 1117 = .ok (.iconst 0, 1) := by decide +kernel
theorem dL_law_1118 : decode code 1118 = .ok (.ireturn, 1) := by decide +kernel
theorem dL_law_1119 : decode code 1119 = .ok (.goto 1515, 3) := by decide +kernel
theorem dL_law_1122 : decode code 1122 = .ok (.aload_n 1, 1) := by decide +kernel
theorem dL_law_1123 : decode code 1123 = .ok (.aload_n 0, 1) := by decide +kernel
theorem dL_law_1124 : decode code 1124 = .ok (.iload 5, 2) := by decide +kernel
theorem dL_law_1126 : decode code 1126 = .ok (.iconst 1, 1) := by decide +kernel
theorem dL_law_1127 : decode code 1127 = .ok (.iadd, 1) := by decide +kernel
theorem dL_law_1128 : decode code 1128 = .ok (.iaload, 1) := by decide +kernel
theorem dL_law_1129 : decode code 1129 = .ok (.aload_n 0, 1) := by decide +kernel
theorem dL_law_1130 : decode code 1130 = .ok (.iload 5, 2) := by decide +kernel
theorem dL_law_1132 : decode code 1132 = .ok (.iconst 2, 1) := by decide +kernel
theorem dL_law_1133 : decode code 1133 = .ok (.iadd, 1) := by decide +kernel
theorem dL_law_1134 : decode code 1134 = .ok (.iaload, 1) := by decide +kernel
theorem dL_law_1135 : decode code 1135 = .ok (.aload_n 0, 1) := by decide +kernel
theorem dL_law_1136 : decode code 1136 = .ok (.iload 5, 2) := by decide +kernel
theorem dL_law_1138 : decode code 1138 = .ok (.iconst 3, 1) := by decide +kernel
theorem dL_law_1139 : decode code 1139 = .ok (.iadd, 1) := by decide +kernel
theorem dL_law_1140 : decode code 1140 = .ok (.iaload, 1) := by decide +kernel
theorem dL_law_1141 : decode code 1141 = .ok (.aload_n 3, 1) := by decide +kernel
theorem dL_law_1142 : decode code 1142 = .ok (.invokestatic 178, 3) := by decide +kernel
theorem dL_law_1145 : decode code 1145 = .ok (.istore 6, 2) := by decide +kernel
theorem dL_law_1147 : decode code 1147 = .ok (.aload_n 2, 1) := by decide +kernel
theorem dL_law_1148 : decode code 1148 = .ok (.aload_n 0, 1) := by decide +kernel
theorem dL_law_1149 : decode code 1149 = .ok (.iload 5, 2) := by decide +kernel
theorem dL_law_1151 : decode code 1151 = .ok (.iconst 1, 1) := by decide +kernel
theorem dL_law_1152 : decode code 1152 = .ok (.iadd, 1) := by decide +kernel
theorem dL_law_1153 : decode code 1153 = .ok (.iaload, 1) := by decide +kernel
theorem dL_law_1154 : decode code 1154 = .ok (.aload_n 0, 1) := by decide +kernel
theorem dL_law_1155 : decode code 1155 = .ok (.iload 5, 2) := by decide +kernel
theorem dL_law_1157 : decode code 1157 = .ok (.iconst 2, 1) := by decide +kernel
theorem dL_law_1158 : decode code 1158 = .ok (.iadd, 1) := by decide +kernel
theorem dL_law_1159 : decode code 1159 = .ok (.iaload, 1) := by decide +kernel
theorem dL_law_1160 : decode code 1160 = .ok (.aload_n 0, 1) := by decide +kernel
theorem dL_law_1161 : decode code 1161 = .ok (.iload 5, 2) := by decide +kernel
theorem dL_law_1163 : decode code 1163 = .ok (.iconst 3, 1) := by decide +kernel
theorem dL_law_1164 : decode code 1164 = .ok (.iadd, 1) := by decide +kernel
theorem dL_law_1165 : decode code 1165 = .ok (.iaload, 1) := by decide +kernel
theorem dL_law_1166 : decode code 1166 = .ok (.invokevirtual 180, 3) := by decide +kernel
theorem dL_law_1169 : decode code 1169 = .ok (.istore 7, 2) := by decide +kernel
theorem dL_law_1171 : decode code 1171 = .ok (.aload_n 2, 1) := by decide +kernel
theorem dL_law_1172 : decode code 1172 = .ok (.invokevirtual 147, 3) := by decide +kernel
theorem dL_law_1175 : decode code 1175 = .ok (.iload 6, 2) := by decide +kernel
theorem dL_law_1177 : decode code 1177 = .ok (.if_icmp .eq 5, 3) := by decide +kernel
theorem dL_law_1180 : decode code 1180 = .ok (.iconst 0, 1) := by decide +kernel
theorem dL_law_1181 : decode code 1181 = .ok (.ireturn, 1) := by decide +kernel
theorem dL_law_1182 : decode code 1182 = .ok (.iload 6, 2) := by decide +kernel
theorem dL_law_1184 : decode code 1184 = .ok (.ifCond .ne 15, 3) := by decide +kernel
theorem dL_law_1187 : decode code 1187 = .ok (.aload_n 3, 1) := by decide +kernel
theorem dL_law_1188 : decode code 1188 = .ok (.iconst 0, 1) := by decide +kernel
theorem dL_law_1189 : decode code 1189 = .ok (.laload, 1) := by decide +kernel
theorem dL_law_1190 : decode code 1190 = .ok (.iload 7, 2) := by decide +kernel
theorem dL_law_1192 : decode code 1192 = .ok (.i2l, 1) := by decide +kernel
theorem dL_law_1193 : decode code 1193 = .ok (.lcmp, 1) := by decide +kernel
theorem dL_law_1194 : decode code 1194 = .ok (.ifCond .eq 5, 3) := by decide +kernel
theorem dL_law_1197 : decode code 1197 = .ok (.iconst 0, 1) := by decide +kernel
theorem dL_law_1198 : decode code 1198 = .ok (.ireturn, 1) := by decide +kernel
theorem dL_law_1199 : decode code 1199 = .ok (.goto 1435, 3) := by decide +kernel
theorem dL_law_1202 : decode code 1202 = .ok (.aload_n 1, 1) := by decide +kernel
theorem dL_law_1203 : decode code 1203 = .ok (.aload_n 0, 1) := by decide +kernel
theorem dL_law_1204 : decode code 1204 = .ok (.iload 5, 2) := by decide +kernel
theorem dL_law_1206 : decode code 1206 = .ok (.iconst 1, 1) := by decide +kernel
theorem dL_law_1207 : decode code 1207 = .ok (.iadd, 1) := by decide +kernel
theorem dL_law_1208 : decode code 1208 = .ok (.iaload, 1) := by decide +kernel
theorem dL_law_1209 : decode code 1209 = .ok (.aload_n 0, 1) := by decide +kernel
theorem dL_law_1210 : decode code 1210 = .ok (.iload 5, 2) := by decide +kernel
theorem dL_law_1212 : decode code 1212 = .ok (.iconst 2, 1) := by decide +kernel
theorem dL_law_1213 : decode code 1213 = .ok (.iadd, 1) := by decide +kernel
theorem dL_law_1214 : decode code 1214 = .ok (.iaload, 1) := by decide +kernel
theorem dL_law_1215 : decode code 1215 = .ok (.aload_n 3, 1) := by decide +kernel
theorem dL_law_1216 : decode code 1216 = .ok (.invokestatic 181, 3) := by decide +kernel
theorem dL_law_1219 : decode code 1219 = .ok (.istore 6, 2) := by decide +kernel
theorem dL_law_1221 : decode code 1221 = .ok (.aload_n 2, 1) := by decide +kernel
theorem dL_law_1222 : decode code 1222 = .ok (.aload_n 0, 1) := by decide +kernel
theorem dL_law_1223 : decode code 1223 = .ok (.iload 5, 2) := by decide +kernel
theorem dL_law_1225 : decode code 1225 = .ok (.iconst 1, 1) := by decide +kernel
theorem dL_law_1226 : decode code 1226 = .ok (.iadd, 1) := by decide +kernel
theorem dL_law_1227 : decode code 1227 = .ok (.iaload, 1) := by decide +kernel
theorem dL_law_1228 : decode code 1228 = .ok (.aload_n 0, 1) := by decide +kernel
theorem dL_law_1229 : decode code 1229 = .ok (.iload 5, 2) := by decide +kernel
theorem dL_law_1231 : decode code 1231 = .ok (.iconst 2, 1) := by decide +kernel
theorem dL_law_1232 : decode code 1232 = .ok (.iadd, 1) := by decide +kernel
theorem dL_law_1233 : decode code 1233 = .ok (.iaload, 1) := by decide +kernel
theorem dL_law_1234 : decode code 1234 = .ok (.invokevirtual 183, 3) := by decide +kernel
theorem dL_law_1237 : decode code 1237 = .ok (.istore 7, 2) := by decide +kernel
theorem dL_law_1239 : decode code 1239 = .ok (.aload_n 2, 1) := by decide +kernel
theorem dL_law_1240 : decode code 1240 = .ok (.invokevirtual 147, 3) := by decide +kernel
theorem dL_law_1243 : decode code 1243 = .ok (.iload 6, 2) := by decide +kernel
theorem dL_law_1245 : decode code 1245 = .ok (.if_icmp .eq 5, 3) := by decide +kernel
theorem dL_law_1248 : decode code 1248 = .ok (.iconst 0, 1) := by decide +kernel
theorem dL_law_1249 : decode code 1249 = .ok (.ireturn, 1) := by decide +kernel
theorem dL_law_1250 : decode code 1250 = .ok (.iload 6, 2) := by decide +kernel
theorem dL_law_1252 : decode code 1252 = .ok (.ifCond .ne 15, 3) := by decide +kernel
theorem dL_law_1255 : decode code 1255 = .ok (.aload_n 3, 1) := by decide +kernel
theorem dL_law_1256 : decode code 1256 = .ok (.iconst 0, 1) := by decide +kernel
theorem dL_law_1257 : decode code 1257 = .ok (.laload, 1) := by decide +kernel
theorem dL_law_1258 : decode code 1258 = .ok (.iload 7, 2) := by decide +kernel
theorem dL_law_1260 : decode code 1260 = .ok (.i2l, 1) := by decide +kernel
theorem dL_law_1261 : decode code 1261 = .ok (.lcmp, 1) := by decide +kernel
theorem dL_law_1262 : decode code 1262 = .ok (.ifCond .eq 5, 3) := by decide +kernel
theorem dL_law_1265 : decode code 1265 = .ok (.iconst 0, 1) := by decide +kernel
theorem dL_law_1266 : decode code 1266 = .ok (.ireturn, 1) := by decide +kernel
theorem dL_law_1267 : decode code 1267 = .ok (.goto 1367, 3) := by decide +kernel
theorem dL_law_1270 : decode code 1270 = .ok (.aload_n 1, 1) := by decide +kernel
theorem dL_law_1271 : decode code 1271 = .ok (.aload_n 0, 1) := by decide +kernel
theorem dL_law_1272 : decode code 1272 = .ok (.iload 5, 2) := by decide +kernel
theorem dL_law_1274 : decode code 1274 = .ok (.iconst 1, 1) := by decide +kernel
theorem dL_law_1275 : decode code 1275 = .ok (.iadd, 1) := by decide +kernel
theorem dL_law_1276 : decode code 1276 = .ok (.iaload, 1) := by decide +kernel
theorem dL_law_1277 : decode code 1277 = .ok (.aload_n 3, 1) := by decide +kernel
theorem dL_law_1278 : decode code 1278 = .ok (.invokestatic 184, 3) := by decide +kernel
theorem dL_law_1281 : decode code 1281 = .ok (.istore 6, 2) := by decide +kernel
theorem dL_law_1283 : decode code 1283 = .ok (.aload_n 2, 1) := by decide +kernel
theorem dL_law_1284 : decode code 1284 = .ok (.aload_n 0, 1) := by decide +kernel
theorem dL_law_1285 : decode code 1285 = .ok (.iload 5, 2) := by decide +kernel
theorem dL_law_1287 : decode code 1287 = .ok (.iconst 1, 1) := by decide +kernel
theorem dL_law_1288 : decode code 1288 = .ok (.iadd, 1) := by decide +kernel
theorem dL_law_1289 : decode code 1289 = .ok (.iaload, 1) := by decide +kernel
theorem dL_law_1290 : decode code 1290 = .ok (.invokevirtual 187, 3) := by decide +kernel
theorem dL_law_1293 : decode code 1293 = .ok (.istore 7, 2) := by decide +kernel
theorem dL_law_1295 : decode code 1295 = .ok (.aload_n 2, 1) := by decide +kernel
theorem dL_law_1296 : decode code 1296 = .ok (.invokevirtual 147, 3) := by decide +kernel
theorem dL_law_1299 : decode code 1299 = .ok (.iload 6, 2) := by decide +kernel
theorem dL_law_1301 : decode code 1301 = .ok (.if_icmp .eq 5, 3) := by decide +kernel
theorem dL_law_1304 : decode code 1304 = .ok (.iconst 0, 1) := by decide +kernel
theorem dL_law_1305 : decode code 1305 = .ok (.ireturn, 1) := by decide +kernel
theorem dL_law_1306 : decode code 1306 = .ok (.iload 6, 2) := by decide +kernel
theorem dL_law_1308 : decode code 1308 = .ok (.ifCond .ne 15, 3) := by decide +kernel
theorem dL_law_1311 : decode code 1311 = .ok (.aload_n 3, 1) := by decide +kernel
theorem dL_law_1312 : decode code 1312 = .ok (.iconst 0, 1) := by decide +kernel
theorem dL_law_1313 : decode code 1313 = .ok (.laload, 1) := by decide +kernel
theorem dL_law_1314 : decode code 1314 = .ok (.iload 7, 2) := by decide +kernel
theorem dL_law_1316 : decode code 1316 = .ok (.i2l, 1) := by decide +kernel
theorem dL_law_1317 : decode code 1317 = .ok (.lcmp, 1) := by decide +kernel
theorem dL_law_1318 : decode code 1318 = .ok (.ifCond .eq 5, 3) := by decide +kernel
theorem dL_law_1321 : decode code 1321 = .ok (.iconst 0, 1) := by decide +kernel
theorem dL_law_1322 : decode code 1322 = .ok (.ireturn, 1) := by decide +kernel
theorem dL_law_1323 : decode code 1323 = .ok (.goto 1311, 3) := by decide +kernel
theorem dL_law_1326 : decode code 1326 = .ok (.aload_n 1, 1) := by decide +kernel
theorem dL_law_1327 : decode code 1327 = .ok (.aload_n 0, 1) := by decide +kernel
theorem dL_law_1328 : decode code 1328 = .ok (.iload 5, 2) := by decide +kernel
theorem dL_law_1330 : decode code 1330 = .ok (.iconst 1, 1) := by decide +kernel
theorem dL_law_1331 : decode code 1331 = .ok (.iadd, 1) := by decide +kernel
theorem dL_law_1332 : decode code 1332 = .ok (.iaload, 1) := by decide +kernel
theorem dL_law_1333 : decode code 1333 = .ok (.aload_n 0, 1) := by decide +kernel
theorem dL_law_1334 : decode code 1334 = .ok (.iload 5, 2) := by decide +kernel
theorem dL_law_1336 : decode code 1336 = .ok (.iconst 2, 1) := by decide +kernel
theorem dL_law_1337 : decode code 1337 = .ok (.iadd, 1) := by decide +kernel
theorem dL_law_1338 : decode code 1338 = .ok (.iaload, 1) := by decide +kernel
theorem dL_law_1339 : decode code 1339 = .ok (.aload_n 0, 1) := by decide +kernel
theorem dL_law_1340 : decode code 1340 = .ok (.iload 5, 2) := by decide +kernel
theorem dL_law_1342 : decode code 1342 = .ok (.iconst 3, 1) := by decide +kernel
theorem dL_law_1343 : decode code 1343 = .ok (.iadd, 1) := by decide +kernel
theorem dL_law_1344 : decode code 1344 = .ok (.iaload, 1) := by decide +kernel
theorem dL_law_1345 : decode code 1345 = .ok (.aload_n 3, 1) := by decide +kernel
theorem dL_law_1346 : decode code 1346 = .ok (.invokestatic 188, 3) := by decide +kernel
theorem dL_law_1349 : decode code 1349 = .ok (.istore 6, 2) := by decide +kernel
theorem dL_law_1351 : decode code 1351 = .ok (.aload_n 2, 1) := by decide +kernel
theorem dL_law_1352 : decode code 1352 = .ok (.aload_n 0, 1) := by decide +kernel
theorem dL_law_1353 : decode code 1353 = .ok (.iload 5, 2) := by decide +kernel
theorem dL_law_1355 : decode code 1355 = .ok (.iconst 1, 1) := by decide +kernel
theorem dL_law_1356 : decode code 1356 = .ok (.iadd, 1) := by decide +kernel
theorem dL_law_1357 : decode code 1357 = .ok (.iaload, 1) := by decide +kernel
theorem dL_law_1358 : decode code 1358 = .ok (.aload_n 0, 1) := by decide +kernel
theorem dL_law_1359 : decode code 1359 = .ok (.iload 5, 2) := by decide +kernel
theorem dL_law_1361 : decode code 1361 = .ok (.iconst 2, 1) := by decide +kernel
theorem dL_law_1362 : decode code 1362 = .ok (.iadd, 1) := by decide +kernel
theorem dL_law_1363 : decode code 1363 = .ok (.iaload, 1) := by decide +kernel
theorem dL_law_1364 : decode code 1364 = .ok (.aload_n 0, 1) := by decide +kernel
theorem dL_law_1365 : decode code 1365 = .ok (.iload 5, 2) := by decide +kernel
theorem dL_law_1367 : decode code 1367 = .ok (.iconst 3, 1) := by decide +kernel
theorem dL_law_1368 : decode code 1368 = .ok (.iadd, 1) := by decide +kernel
theorem dL_law_1369 : decode code 1369 = .ok (.iaload, 1) := by decide +kernel
theorem dL_law_1370 : decode code 1370 = .ok (.invokevirtual 190, 3) := by decide +kernel
theorem dL_law_1373 : decode code 1373 = .ok (.istore 7, 2) := by decide +kernel
theorem dL_law_1375 : decode code 1375 = .ok (.aload_n 2, 1) := by decide +kernel
theorem dL_law_1376 : decode code 1376 = .ok (.invokevirtual 147, 3) := by decide +kernel
theorem dL_law_1379 : decode code 1379 = .ok (.iload 6, 2) := by decide +kernel
theorem dL_law_1381 : decode code 1381 = .ok (.if_icmp .eq 5, 3) := by decide +kernel
theorem dL_law_1384 : decode code 1384 = .ok (.iconst 0, 1) := by decide +kernel
theorem dL_law_1385 : decode code 1385 = .ok (.ireturn, 1) := by decide +kernel
theorem dL_law_1386 : decode code 1386 = .ok (.iload 6, 2) := by decide +kernel
theorem dL_law_1388 : decode code 1388 = .ok (.ifCond .ne 15, 3) := by decide +kernel
theorem dL_law_1391 : decode code 1391 = .ok (.aload_n 3, 1) := by decide +kernel
theorem dL_law_1392 : decode code 1392 = .ok (.iconst 0, 1) := by decide +kernel
theorem dL_law_1393 : decode code 1393 = .ok (.laload, 1) := by decide +kernel
theorem dL_law_1394 : decode code 1394 = .ok (.iload 7, 2) := by decide +kernel
theorem dL_law_1396 : decode code 1396 = .ok (.i2l, 1) := by decide +kernel
theorem dL_law_1397 : decode code 1397 = .ok (.lcmp, 1) := by decide +kernel
theorem dL_law_1398 : decode code 1398 = .ok (.ifCond .eq 5, 3) := by decide +kernel
theorem dL_law_1401 : decode code 1401 = .ok (.iconst 0, 1) := by decide +kernel
theorem dL_law_1402 : decode code 1402 = .ok (.ireturn, 1) := by decide +kernel
theorem dL_law_1403 : decode code 1403 = .ok (.goto 1231, 3) := by decide +kernel
theorem dL_law_1406 : decode code 1406 = .ok (.aload_n 1, 1) := by decide +kernel
theorem dL_law_1407 : decode code 1407 = .ok (.aload_n 0, 1) := by decide +kernel
theorem dL_law_1408 : decode code 1408 = .ok (.iload 5, 2) := by decide +kernel
theorem dL_law_1410 : decode code 1410 = .ok (.iconst 1, 1) := by decide +kernel
theorem dL_law_1411 : decode code 1411 = .ok (.iadd, 1) := by decide +kernel
theorem dL_law_1412 : decode code 1412 = .ok (.iaload, 1) := by decide +kernel
theorem dL_law_1413 : decode code 1413 = .ok (.aload_n 0, 1) := by decide +kernel
theorem dL_law_1414 : decode code 1414 = .ok (.iload 5, 2) := by decide +kernel
theorem dL_law_1416 : decode code 1416 = .ok (.iconst 2, 1) := by decide +kernel
theorem dL_law_1417 : decode code 1417 = .ok (.iadd, 1) := by decide +kernel
theorem dL_law_1418 : decode code 1418 = .ok (.iaload, 1) := by decide +kernel
theorem dL_law_1419 : decode code 1419 = .ok (.aload_n 0, 1) := by decide +kernel
theorem dL_law_1420 : decode code 1420 = .ok (.iload 5, 2) := by decide +kernel
theorem dL_law_1422 : decode code 1422 = .ok (.iconst 3, 1) := by decide +kernel
theorem dL_law_1423 : decode code 1423 = .ok (.iadd, 1) := by decide +kernel
theorem dL_law_1424 : decode code 1424 = .ok (.iaload, 1) := by decide +kernel
theorem dL_law_1425 : decode code 1425 = .ok (.aload_n 3, 1) := by decide +kernel
theorem dL_law_1426 : decode code 1426 = .ok (.invokestatic 191, 3) := by decide +kernel
theorem dL_law_1429 : decode code 1429 = .ok (.istore 6, 2) := by decide +kernel
theorem dL_law_1431 : decode code 1431 = .ok (.aload_n 2, 1) := by decide +kernel
theorem dL_law_1432 : decode code 1432 = .ok (.aload_n 0, 1) := by decide +kernel
theorem dL_law_1433 : decode code 1433 = .ok (.iload 5, 2) := by decide +kernel
theorem dL_law_1435 : decode code 1435 = .ok (.iconst 1, 1) := by decide +kernel
theorem dL_law_1436 : decode code 1436 = .ok (.iadd, 1) := by decide +kernel
theorem dL_law_1437 : decode code 1437 = .ok (.iaload, 1) := by decide +kernel
theorem dL_law_1438 : decode code 1438 = .ok (.aload_n 0, 1) := by decide +kernel
theorem dL_law_1439 : decode code 1439 = .ok (.iload 5, 2) := by decide +kernel
theorem dL_law_1441 : decode code 1441 = .ok (.iconst 2, 1) := by decide +kernel
theorem dL_law_1442 : decode code 1442 = .ok (.iadd, 1) := by decide +kernel
theorem dL_law_1443 : decode code 1443 = .ok (.iaload, 1) := by decide +kernel
theorem dL_law_1444 : decode code 1444 = .ok (.aload_n 0, 1) := by decide +kernel
theorem dL_law_1445 : decode code 1445 = .ok (.iload 5, 2) := by decide +kernel
theorem dL_law_1447 : decode code 1447 = .ok (.iconst 3, 1) := by decide +kernel
theorem dL_law_1448 : decode code 1448 = .ok (.iadd, 1) := by decide +kernel
theorem dL_law_1449 : decode code 1449 = .ok (.iaload, 1) := by decide +kernel
theorem dL_law_1450 : decode code 1450 = .ok (.invokevirtual 193, 3) := by decide +kernel
theorem dL_law_1453 : decode code 1453 = .ok (.istore 7, 2) := by decide +kernel
theorem dL_law_1455 : decode code 1455 = .ok (.aload_n 2, 1) := by decide +kernel
theorem dL_law_1456 : decode code 1456 = .ok (.invokevirtual 147, 3) := by decide +kernel
theorem dL_law_1459 : decode code 1459 = .ok (.iload 6, 2) := by decide +kernel
theorem dL_law_1461 : decode code 1461 = .ok (.if_icmp .eq 5, 3) := by decide +kernel
theorem dL_law_1464 : decode code 1464 = .ok (.iconst 0, 1) := by decide +kernel
theorem dL_law_1465 : decode code 1465 = .ok (.ireturn, 1) := by decide +kernel
theorem dL_law_1466 : decode code 1466 = .ok (.iload 6, 2) := by decide +kernel
theorem dL_law_1468 : decode code 1468 = .ok (.ifCond .ne 15, 3) := by decide +kernel
theorem dL_law_1471 : decode code 1471 = .ok (.aload_n 3, 1) := by decide +kernel
theorem dL_law_1472 : decode code 1472 = .ok (.iconst 0, 1) := by decide +kernel
theorem dL_law_1473 : decode code 1473 = .ok (.laload, 1) := by decide +kernel
theorem dL_law_1474 : decode code 1474 = .ok (.iload 7, 2) := by decide +kernel
theorem dL_law_1476 : decode code 1476 = .ok (.i2l, 1) := by decide +kernel
theorem dL_law_1477 : decode code 1477 = .ok (.lcmp, 1) := by decide +kernel
theorem dL_law_1478 : decode code 1478 = .ok (.ifCond .eq 5, 3) := by decide +kernel
theorem dL_law_1481 : decode code 1481 = .ok (.iconst 0, 1) := by decide +kernel
theorem dL_law_1482 : decode code 1482 = .ok (.ireturn, 1) := by decide +kernel
theorem dL_law_1483 : decode code 1483 = .ok (.goto 1151, 3) := by decide +kernel
theorem dL_law_1486 : decode code 1486 = .ok (.aload_n 1, 1) := by decide +kernel
theorem dL_law_1487 : decode code 1487 = .ok (.aload_n 0, 1) := by decide +kernel
theorem dL_law_1488 : decode code 1488 = .ok (.iload 5, 2) := by decide +kernel
theorem dL_law_1490 : decode code 1490 = .ok (.iconst 1, 1) := by decide +kernel
theorem dL_law_1491 : decode code 1491 = .ok (.iadd, 1) := by decide +kernel
theorem dL_law_1492 : decode code 1492 = .ok (.iaload, 1) := by decide +kernel
theorem dL_law_1493 : decode code 1493 = .ok (.aload_n 0, 1) := by decide +kernel
theorem dL_law_1494 : decode code 1494 = .ok (.iload 5, 2) := by decide +kernel
theorem dL_law_1496 : decode code 1496 = .ok (.iconst 2, 1) := by decide +kernel
theorem dL_law_1497 : decode code 1497 = .ok (.iadd, 1) := by decide +kernel
theorem dL_law_1498 : decode code 1498 = .ok (.iaload, 1) := by decide +kernel
theorem dL_law_1499 : decode code 1499 = .ok (.aload_n 0, 1) := by decide +kernel
theorem dL_law_1500 : decode code 1500 = .ok (.iload 5, 2) := by decide +kernel
theorem dL_law_1502 : decode code 1502 = .ok (.iconst 3, 1) := by decide +kernel
theorem dL_law_1503 : decode code 1503 = .ok (.iadd, 1) := by decide +kernel
theorem dL_law_1504 : decode code 1504 = .ok (.iaload, 1) := by decide +kernel
theorem dL_law_1505 : decode code 1505 = .ok (.aload_n 3, 1) := by decide +kernel
theorem dL_law_1506 : decode code 1506 = .ok (.invokestatic 194, 3) := by decide +kernel
theorem dL_law_1509 : decode code 1509 = .ok (.istore 6, 2) := by decide +kernel
theorem dL_law_1511 : decode code 1511 = .ok (.aload_n 2, 1) := by decide +kernel
theorem dL_law_1512 : decode code 1512 = .ok (.aload_n 0, 1) := by decide +kernel
theorem dL_law_1513 : decode code 1513 = .ok (.iload 5, 2) := by decide +kernel
theorem dL_law_1515 : decode code 1515 = .ok (.iconst 1, 1) := by decide +kernel
theorem dL_law_1516 : decode code 1516 = .ok (.iadd, 1) := by decide +kernel
theorem dL_law_1517 : decode code 1517 = .ok (.iaload, 1) := by decide +kernel
theorem dL_law_1518 : decode code 1518 = .ok (.aload_n 0, 1) := by decide +kernel
theorem dL_law_1519 : decode code 1519 = .ok (.iload 5, 2) := by decide +kernel
theorem dL_law_1521 : decode code 1521 = .ok (.iconst 2, 1) := by decide +kernel
theorem dL_law_1522 : decode code 1522 = .ok (.iadd, 1) := by decide +kernel
theorem dL_law_1523 : decode code 1523 = .ok (.iaload, 1) := by decide +kernel
theorem dL_law_1524 : decode code 1524 = .ok (.aload_n 0, 1) := by decide +kernel
theorem dL_law_1525 : decode code 1525 = .ok (.iload 5, 2) := by decide +kernel
theorem dL_law_1527 : decode code 1527 = .ok (.iconst 3, 1) := by decide +kernel
theorem dL_law_1528 : decode code 1528 = .ok (.iadd, 1) := by decide +kernel
theorem dL_law_1529 : decode code 1529 = .ok (.iaload, 1) := by decide +kernel
theorem dL_law_1530 : decode code 1530 = .ok (.invokevirtual 196, 3) := by decide +kernel
theorem dL_law_1533 : decode code 1533 = .ok (.istore 7, 2) := by decide +kernel
theorem dL_law_1535 : decode code 1535 = .ok (.aload_n 2, 1) := by decide +kernel
theorem dL_law_1536 : decode code 1536 = .ok (.invokevirtual 147, 3) := by decide +kernel
theorem dL_law_1539 : decode code 1539 = .ok (.iload 6, 2) := by decide +kernel
theorem dL_law_1541 : decode code 1541 = .ok (.if_icmp .eq 5, 3) := by decide +kernel
theorem dL_law_1544 : decode code 1544 = .ok (.iconst 0, 1) := by decide +kernel
theorem dL_law_1545 : decode code 1545 = .ok (.ireturn, 1) := by decide +kernel
theorem dL_law_1546 : decode code 1546 = .ok (.iload 6, 2) := by decide +kernel
theorem dL_law_1548 : decode code 1548 = .ok (.ifCond .ne 15, 3) := by decide +kernel
theorem dL_law_1551 : decode code 1551 = .ok (.aload_n 3, 1) := by decide +kernel
theorem dL_law_1552 : decode code 1552 = .ok (.iconst 0, 1) := by decide +kernel
theorem dL_law_1553 : decode code 1553 = .ok (.laload, 1) := by decide +kernel
theorem dL_law_1554 : decode code 1554 = .ok (.iload 7, 2) := by decide +kernel
theorem dL_law_1556 : decode code 1556 = .ok (.i2l, 1) := by decide +kernel
theorem dL_law_1557 : decode code 1557 = .ok (.lcmp, 1) := by decide +kernel
theorem dL_law_1558 : decode code 1558 = .ok (.ifCond .eq 5, 3) := by decide +kernel
theorem dL_law_1561 : decode code 1561 = .ok (.iconst 0, 1) := by decide +kernel
theorem dL_law_1562 : decode code 1562 = .ok (.ireturn, 1) := by decide +kernel
theorem dL_law_1563 : decode code 1563 = .ok (.goto 1071, 3) := by decide +kernel
theorem dL_law_1566 : decode code 1566 = .ok (.aload_n 1, 1) := by decide +kernel
theorem dL_law_1567 : decode code 1567 = .ok (.aload_n 0, 1) := by decide +kernel
theorem dL_law_1568 : decode code 1568 = .ok (.iload 5, 2) := by decide +kernel
theorem dL_law_1570 : decode code 1570 = .ok (.iconst 1, 1) := by decide +kernel
theorem dL_law_1571 : decode code 1571 = .ok (.iadd, 1) := by decide +kernel
theorem dL_law_1572 : decode code 1572 = .ok (.iaload, 1) := by decide +kernel
theorem dL_law_1573 : decode code 1573 = .ok (.aload_n 0, 1) := by decide +kernel
theorem dL_law_1574 : decode code 1574 = .ok (.iload 5, 2) := by decide +kernel
theorem dL_law_1576 : decode code 1576 = .ok (.iconst 2, 1) := by decide +kernel
theorem dL_law_1577 : decode code 1577 = .ok (.iadd, 1) := by decide +kernel
theorem dL_law_1578 : decode code 1578 = .ok (.iaload, 1) := by decide +kernel
theorem dL_law_1579 : decode code 1579 = .ok (.aload_n 3, 1) := by decide +kernel
theorem dL_law_1580 : decode code 1580 = .ok (.invokestatic 197, 3) := by decide +kernel
theorem dL_law_1583 : decode code 1583 = .ok (.istore 6, 2) := by decide +kernel
theorem dL_law_1585 : decode code 1585 = .ok (.aload_n 2, 1) := by decide +kernel
theorem dL_law_1586 : decode code 1586 = .ok (.aload_n 0, 1) := by decide +kernel
theorem dL_law_1587 : decode code 1587 = .ok (.iload 5, 2) := by decide +kernel
theorem dL_law_1589 : decode code 1589 = .ok (.iconst 1, 1) := by decide +kernel
theorem dL_law_1590 : decode code 1590 = .ok (.iadd, 1) := by decide +kernel
theorem dL_law_1591 : decode code 1591 = .ok (.iaload, 1) := by decide +kernel
theorem dL_law_1592 : decode code 1592 = .ok (.aload_n 0, 1) := by decide +kernel
theorem dL_law_1593 : decode code 1593 = .ok (.iload 5, 2) := by decide +kernel
theorem dL_law_1595 : decode code 1595 = .ok (.iconst 2, 1) := by decide +kernel
theorem dL_law_1596 : decode code 1596 = .ok (.iadd, 1) := by decide +kernel
theorem dL_law_1597 : decode code 1597 = .ok (.iaload, 1) := by decide +kernel
theorem dL_law_1598 : decode code 1598 = .ok (.invokevirtual 199, 3) := by decide +kernel
theorem dL_law_1601 : decode code 1601 = .ok (.istore 7, 2) := by decide +kernel
theorem dL_law_1603 : decode code 1603 = .ok (.aload_n 2, 1) := by decide +kernel
theorem dL_law_1604 : decode code 1604 = .ok (.invokevirtual 147, 3) := by decide +kernel
theorem dL_law_1607 : decode code 1607 = .ok (.iload 6, 2) := by decide +kernel
theorem dL_law_1609 : decode code 1609 = .ok (.if_icmp .eq 5, 3) := by decide +kernel
theorem dL_law_1612 : decode code 1612 = .ok (.iconst 0, 1) := by decide +kernel
theorem dL_law_1613 : decode code 1613 = .ok (.ireturn, 1) := by decide +kernel
theorem dL_law_1614 : decode code 1614 = .ok (.iload 6, 2) := by decide +kernel
theorem dL_law_1616 : decode code 1616 = .ok (.ifCond .ne 15, 3) := by decide +kernel
theorem dL_law_1619 : decode code 1619 = .ok (.aload_n 3, 1) := by decide +kernel
theorem dL_law_1620 : decode code 1620 = .ok (.iconst 0, 1) := by decide +kernel
theorem dL_law_1621 : decode code 1621 = .ok (.laload, 1) := by decide +kernel
theorem dL_law_1622 : decode code 1622 = .ok (.iload 7, 2) := by decide +kernel
theorem dL_law_1624 : decode code 1624 = .ok (.i2l, 1) := by decide +kernel
theorem dL_law_1625 : decode code 1625 = .ok (.lcmp, 1) := by decide +kernel
theorem dL_law_1626 : decode code 1626 = .ok (.ifCond .eq 5, 3) := by decide +kernel
theorem dL_law_1629 : decode code 1629 = .ok (.iconst 0, 1) := by decide +kernel
theorem dL_law_1630 : decode code 1630 = .ok (.ireturn, 1) := by decide +kernel
theorem dL_law_1631 : decode code 1631 = .ok (.goto 1003, 3) := by decide +kernel
theorem dL_law_1634 : decode code 1634 = .ok (.aload_n 1, 1) := by decide +kernel
theorem dL_law_1635 : decode code 1635 = .ok (.aload_n 0, 1) := by decide +kernel
theorem dL_law_1636 : decode code 1636 = .ok (.iload 5, 2) := by decide +kernel
theorem dL_law_1638 : decode code 1638 = .ok (.iconst 1, 1) := by decide +kernel
theorem dL_law_1639 : decode code 1639 = .ok (.iadd, 1) := by decide +kernel
theorem dL_law_1640 : decode code 1640 = .ok (.iaload, 1) := by decide +kernel
theorem dL_law_1641 : decode code 1641 = .ok (.aload_n 0, 1) := by decide +kernel
theorem dL_law_1642 : decode code 1642 = .ok (.iload 5, 2) := by decide +kernel
theorem dL_law_1644 : decode code 1644 = .ok (.iconst 2, 1) := by decide +kernel
theorem dL_law_1645 : decode code 1645 = .ok (.iadd, 1) := by decide +kernel
theorem dL_law_1646 : decode code 1646 = .ok (.iaload, 1) := by decide +kernel
theorem dL_law_1647 : decode code 1647 = .ok (.aload_n 3, 1) := by decide +kernel
theorem dL_law_1648 : decode code 1648 = .ok (.invokestatic 200, 3) := by decide +kernel
theorem dL_law_1651 : decode code 1651 = .ok (.istore 6, 2) := by decide +kernel
theorem dL_law_1653 : decode code 1653 = .ok (.aload_n 2, 1) := by decide +kernel
theorem dL_law_1654 : decode code 1654 = .ok (.aload_n 0, 1) := by decide +kernel
theorem dL_law_1655 : decode code 1655 = .ok (.iload 5, 2) := by decide +kernel
theorem dL_law_1657 : decode code 1657 = .ok (.iconst 1, 1) := by decide +kernel
theorem dL_law_1658 : decode code 1658 = .ok (.iadd, 1) := by decide +kernel
theorem dL_law_1659 : decode code 1659 = .ok (.iaload, 1) := by decide +kernel
theorem dL_law_1660 : decode code 1660 = .ok (.aload_n 0, 1) := by decide +kernel
theorem dL_law_1661 : decode code 1661 = .ok (.iload 5, 2) := by decide +kernel
theorem dL_law_1663 : decode code 1663 = .ok (.iconst 2, 1) := by decide +kernel
theorem dL_law_1664 : decode code 1664 = .ok (.iadd, 1) := by decide +kernel
theorem dL_law_1665 : decode code 1665 = .ok (.iaload, 1) := by decide +kernel
theorem dL_law_1666 : decode code 1666 = .ok (.invokevirtual 202, 3) := by decide +kernel
theorem dL_law_1669 : decode code 1669 = .ok (.istore 7, 2) := by decide +kernel
theorem dL_law_1671 : decode code 1671 = .ok (.aload_n 2, 1) := by decide +kernel
theorem dL_law_1672 : decode code 1672 = .ok (.invokevirtual 147, 3) := by decide +kernel
theorem dL_law_1675 : decode code 1675 = .ok (.iload 6, 2) := by decide +kernel
theorem dL_law_1677 : decode code 1677 = .ok (.if_icmp .eq 5, 3) := by decide +kernel
theorem dL_law_1680 : decode code 1680 = .ok (.iconst 0, 1) := by decide +kernel
theorem dL_law_1681 : decode code 1681 = .ok (.ireturn, 1) := by decide +kernel
theorem dL_law_1682 : decode code 1682 = .ok (.iload 6, 2) := by decide +kernel
theorem dL_law_1684 : decode code 1684 = .ok (.ifCond .ne 15, 3) := by decide +kernel
theorem dL_law_1687 : decode code 1687 = .ok (.aload_n 3, 1) := by decide +kernel
theorem dL_law_1688 : decode code 1688 = .ok (.iconst 0, 1) := by decide +kernel
theorem dL_law_1689 : decode code 1689 = .ok (.laload, 1) := by decide +kernel
theorem dL_law_1690 : decode code 1690 = .ok (.iload 7, 2) := by decide +kernel
theorem dL_law_1692 : decode code 1692 = .ok (.i2l, 1) := by decide +kernel
theorem dL_law_1693 : decode code 1693 = .ok (.lcmp, 1) := by decide +kernel
theorem dL_law_1694 : decode code 1694 = .ok (.ifCond .eq 5, 3) := by decide +kernel
theorem dL_law_1697 : decode code 1697 = .ok (.iconst 0, 1) := by decide +kernel
theorem dL_law_1698 : decode code 1698 = .ok (.ireturn, 1) := by decide +kernel
theorem dL_law_1699 : decode code 1699 = .ok (.goto 935, 3) := by decide +kernel
theorem dL_law_1702 : decode code 1702 = .ok (.aload_n 1, 1) := by decide +kernel
theorem dL_law_1703 : decode code 1703 = .ok (.aload_n 0, 1) := by decide +kernel
theorem dL_law_1704 : decode code 1704 = .ok (.iload 5, 2) := by decide +kernel
theorem dL_law_1706 : decode code 1706 = .ok (.iconst 1, 1) := by decide +kernel
theorem dL_law_1707 : decode code 1707 = .ok (.iadd, 1) := by decide +kernel
theorem dL_law_1708 : decode code 1708 = .ok (.iaload, 1) := by decide +kernel
theorem dL_law_1709 : decode code 1709 = .ok (.aload_n 0, 1) := by decide +kernel
theorem dL_law_1710 : decode code 1710 = .ok (.iload 5, 2) := by decide +kernel
theorem dL_law_1712 : decode code 1712 = .ok (.iconst 2, 1) := by decide +kernel
theorem dL_law_1713 : decode code 1713 = .ok (.iadd, 1) := by decide +kernel
theorem dL_law_1714 : decode code 1714 = .ok (.iaload, 1) := by decide +kernel
theorem dL_law_1715 : decode code 1715 = .ok (.aload_n 3, 1) := by decide +kernel
theorem dL_law_1716 : decode code 1716 = .ok (.invokestatic 203, 3) := by decide +kernel
theorem dL_law_1719 : decode code 1719 = .ok (.istore 6, 2) := by decide +kernel
theorem dL_law_1721 : decode code 1721 = .ok (.aload_n 2, 1) := by decide +kernel
theorem dL_law_1722 : decode code 1722 = .ok (.aload_n 0, 1) := by decide +kernel
theorem dL_law_1723 : decode code 1723 = .ok (.iload 5, 2) := by decide +kernel
theorem dL_law_1725 : decode code 1725 = .ok (.iconst 1, 1) := by decide +kernel
theorem dL_law_1726 : decode code 1726 = .ok (.iadd, 1) := by decide +kernel
theorem dL_law_1727 : decode code 1727 = .ok (.iaload, 1) := by decide +kernel
theorem dL_law_1728 : decode code 1728 = .ok (.aload_n 0, 1) := by decide +kernel
theorem dL_law_1729 : decode code 1729 = .ok (.iload 5, 2) := by decide +kernel
theorem dL_law_1731 : decode code 1731 = .ok (.iconst 2, 1) := by decide +kernel
theorem dL_law_1732 : decode code 1732 = .ok (.iadd, 1) := by decide +kernel
theorem dL_law_1733 : decode code 1733 = .ok (.iaload, 1) := by decide +kernel
theorem dL_law_1734 : decode code 1734 = .ok (.invokevirtual 205, 3) := by decide +kernel
theorem dL_law_1737 : decode code 1737 = .ok (.istore 7, 2) := by decide +kernel
theorem dL_law_1739 : decode code 1739 = .ok (.aload_n 2, 1) := by decide +kernel
theorem dL_law_1740 : decode code 1740 = .ok (.invokevirtual 147, 3) := by decide +kernel
theorem dL_law_1743 : decode code 1743 = .ok (.iload 6, 2) := by decide +kernel
theorem dL_law_1745 : decode code 1745 = .ok (.if_icmp .eq 5, 3) := by decide +kernel
theorem dL_law_1748 : decode code 1748 = .ok (.iconst 0, 1) := by decide +kernel
theorem dL_law_1749 : decode code 1749 = .ok (.ireturn, 1) := by decide +kernel
theorem dL_law_1750 : decode code 1750 = .ok (.iload 6, 2) := by decide +kernel
theorem dL_law_1752 : decode code 1752 = .ok (.ifCond .ne 15, 3) := by decide +kernel
theorem dL_law_1755 : decode code 1755 = .ok (.aload_n 3, 1) := by decide +kernel
theorem dL_law_1756 : decode code 1756 = .ok (.iconst 0, 1) := by decide +kernel
theorem dL_law_1757 : decode code 1757 = .ok (.laload, 1) := by decide +kernel
theorem dL_law_1758 : decode code 1758 = .ok (.iload 7, 2) := by decide +kernel
theorem dL_law_1760 : decode code 1760 = .ok (.i2l, 1) := by decide +kernel
theorem dL_law_1761 : decode code 1761 = .ok (.lcmp, 1) := by decide +kernel
theorem dL_law_1762 : decode code 1762 = .ok (.ifCond .eq 5, 3) := by decide +kernel
theorem dL_law_1765 : decode code 1765 = .ok (.iconst 0, 1) := by decide +kernel
theorem dL_law_1766 : decode code 1766 = .ok (.ireturn, 1) := by decide +kernel
theorem dL_law_1767 : decode code 1767 = .ok (.goto 867, 3) := by decide +kernel
theorem dL_law_1770 : decode code 1770 = .ok (.aload_n 1, 1) := by decide +kernel
theorem dL_law_1771 : decode code 1771 = .ok (.aload_n 0, 1) := by decide +kernel
theorem dL_law_1772 : decode code 1772 = .ok (.iload 5, 2) := by decide +kernel
theorem dL_law_1774 : decode code 1774 = .ok (.iconst 1, 1) := by decide +kernel
theorem dL_law_1775 : decode code 1775 = .ok (.iadd, 1) := by decide +kernel
theorem dL_law_1776 : decode code 1776 = .ok (.iaload, 1) := by decide +kernel
theorem dL_law_1777 : decode code 1777 = .ok (.aload_n 0, 1) := by decide +kernel
theorem dL_law_1778 : decode code 1778 = .ok (.iload 5, 2) := by decide +kernel
theorem dL_law_1780 : decode code 1780 = .ok (.iconst 2, 1) := by decide +kernel
theorem dL_law_1781 : decode code 1781 = .ok (.iadd, 1) := by decide +kernel
theorem dL_law_1782 : decode code 1782 = .ok (.iaload, 1) := by decide +kernel
theorem dL_law_1783 : decode code 1783 = .ok (.aload_n 3, 1) := by decide +kernel
theorem dL_law_1784 : decode code 1784 = .ok (.invokestatic 206, 3) := by decide +kernel
theorem dL_law_1787 : decode code 1787 = .ok (.istore 6, 2) := by decide +kernel
theorem dL_law_1789 : decode code 1789 = .ok (.aload_n 2, 1) := by decide +kernel
theorem dL_law_1790 : decode code 1790 = .ok (.aload_n 0, 1) := by decide +kernel
theorem dL_law_1791 : decode code 1791 = .ok (.iload 5, 2) := by decide +kernel
theorem dL_law_1793 : decode code 1793 = .ok (.iconst 1, 1) := by decide +kernel
theorem dL_law_1794 : decode code 1794 = .ok (.iadd, 1) := by decide +kernel
theorem dL_law_1795 : decode code 1795 = .ok (.iaload, 1) := by decide +kernel
theorem dL_law_1796 : decode code 1796 = .ok (.aload_n 0, 1) := by decide +kernel
theorem dL_law_1797 : decode code 1797 = .ok (.iload 5, 2) := by decide +kernel
theorem dL_law_1799 : decode code 1799 = .ok (.iconst 2, 1) := by decide +kernel
theorem dL_law_1800 : decode code 1800 = .ok (.iadd, 1) := by decide +kernel
theorem dL_law_1801 : decode code 1801 = .ok (.iaload, 1) := by decide +kernel
theorem dL_law_1802 : decode code 1802 = .ok (.invokevirtual 208, 3) := by decide +kernel
theorem dL_law_1805 : decode code 1805 = .ok (.istore 7, 2) := by decide +kernel
theorem dL_law_1807 : decode code 1807 = .ok (.aload_n 2, 1) := by decide +kernel
theorem dL_law_1808 : decode code 1808 = .ok (.invokevirtual 147, 3) := by decide +kernel
theorem dL_law_1811 : decode code 1811 = .ok (.iload 6, 2) := by decide +kernel
theorem dL_law_1813 : decode code 1813 = .ok (.if_icmp .eq 5, 3) := by decide +kernel
theorem dL_law_1816 : decode code 1816 = .ok (.iconst 0, 1) := by decide +kernel
theorem dL_law_1817 : decode code 1817 = .ok (.ireturn, 1) := by decide +kernel
theorem dL_law_1818 : decode code 1818 = .ok (.iload 6, 2) := by decide +kernel
theorem dL_law_1820 : decode code 1820 = .ok (.ifCond .ne 15, 3) := by decide +kernel
theorem dL_law_1823 : decode code 1823 = .ok (.aload_n 3, 1) := by decide +kernel
theorem dL_law_1824 : decode code 1824 = .ok (.iconst 0, 1) := by decide +kernel
theorem dL_law_1825 : decode code 1825 = .ok (.laload, 1) := by decide +kernel
theorem dL_law_1826 : decode code 1826 = .ok (.iload 7, 2) := by decide +kernel
theorem dL_law_1828 : decode code 1828 = .ok (.i2l, 1) := by decide +kernel
theorem dL_law_1829 : decode code 1829 = .ok (.lcmp, 1) := by decide +kernel
theorem dL_law_1830 : decode code 1830 = .ok (.ifCond .eq 5, 3) := by decide +kernel
theorem dL_law_1833 : decode code 1833 = .ok (.iconst 0, 1) := by decide +kernel
theorem dL_law_1834 : decode code 1834 = .ok (.ireturn, 1) := by decide +kernel
theorem dL_law_1835 : decode code 1835 = .ok (.goto 799, 3) := by decide +kernel
theorem dL_law_1838 : decode code 1838 = .ok (.aload_n 1, 1) := by decide +kernel
theorem dL_law_1839 : decode code 1839 = .ok (.aload_n 0, 1) := by decide +kernel
theorem dL_law_1840 : decode code 1840 = .ok (.iload 5, 2) := by decide +kernel
theorem dL_law_1842 : decode code 1842 = .ok (.iconst 1, 1) := by decide +kernel
theorem dL_law_1843 : decode code 1843 = .ok (.iadd, 1) := by decide +kernel
theorem dL_law_1844 : decode code 1844 = .ok (.iaload, 1) := by decide +kernel
theorem dL_law_1845 : decode code 1845 = .ok (.aload_n 3, 1) := by decide +kernel
theorem dL_law_1846 : decode code 1846 = .ok (.invokestatic 209, 3) := by decide +kernel
theorem dL_law_1849 : decode code 1849 = .ok (.istore 6, 2) := by decide +kernel
theorem dL_law_1851 : decode code 1851 = .ok (.aload_n 2, 1) := by decide +kernel
theorem dL_law_1852 : decode code 1852 = .ok (.aload_n 0, 1) := by decide +kernel
theorem dL_law_1853 : decode code 1853 = .ok (.iload 5, 2) := by decide +kernel
theorem dL_law_1855 : decode code 1855 = .ok (.iconst 1, 1) := by decide +kernel
theorem dL_law_1856 : decode code 1856 = .ok (.iadd, 1) := by decide +kernel
theorem dL_law_1857 : decode code 1857 = .ok (.iaload, 1) := by decide +kernel
theorem dL_law_1858 : decode code 1858 = .ok (.invokevirtual 211, 3) := by decide +kernel
theorem dL_law_1861 : decode code 1861 = .ok (.istore 7, 2) := by decide +kernel
theorem dL_law_1863 : decode code 1863 = .ok (.aload_n 2, 1) := by decide +kernel
theorem dL_law_1864 : decode code 1864 = .ok (.invokevirtual 147, 3) := by decide +kernel
theorem dL_law_1867 : decode code 1867 = .ok (.iload 6, 2) := by decide +kernel
theorem dL_law_1869 : decode code 1869 = .ok (.if_icmp .eq 5, 3) := by decide +kernel
theorem dL_law_1872 : decode code 1872 = .ok (.iconst 0, 1) := by decide +kernel
theorem dL_law_1873 : decode code 1873 = .ok (.ireturn, 1) := by decide +kernel
theorem dL_law_1874 : decode code 1874 = .ok (.iload 6, 2) := by decide +kernel
theorem dL_law_1876 : decode code 1876 = .ok (.ifCond .ne 15, 3) := by decide +kernel
theorem dL_law_1879 : decode code 1879 = .ok (.aload_n 3, 1) := by decide +kernel
theorem dL_law_1880 : decode code 1880 = .ok (.iconst 0, 1) := by decide +kernel
theorem dL_law_1881 : decode code 1881 = .ok (.laload, 1) := by decide +kernel
theorem dL_law_1882 : decode code 1882 = .ok (.iload 7, 2) := by decide +kernel
theorem dL_law_1884 : decode code 1884 = .ok (.i2l, 1) := by decide +kernel
theorem dL_law_1885 : decode code 1885 = .ok (.lcmp, 1) := by decide +kernel
theorem dL_law_1886 : decode code 1886 = .ok (.ifCond .eq 5, 3) := by decide +kernel
theorem dL_law_1889 : decode code 1889 = .ok (.iconst 0, 1) := by decide +kernel
theorem dL_law_1890 : decode code 1890 = .ok (.ireturn, 1) := by decide +kernel
theorem dL_law_1891 : decode code 1891 = .ok (.goto 743, 3) := by decide +kernel
theorem dL_law_1894 : decode code 1894 = .ok (.aload_n 1, 1) := by decide +kernel
theorem dL_law_1895 : decode code 1895 = .ok (.invokevirtual 212, 3) := by decide +kernel
theorem dL_law_1898 : decode code 1898 = .ok (.aload_n 2, 1) := by decide +kernel
theorem dL_law_1899 : decode code 1899 = .ok (.invokevirtual 215, 3) := by decide +kernel
theorem dL_law_1902 : decode code 1902 = .ok (.if_icmp .eq 732, 3) := by decide +kernel
theorem dL_law_1905 : decode code 1905 = .ok (.iconst 0, 1) := by decide +kernel
theorem dL_law_1906 : decode code 1906 = .ok (.ireturn, 1) := by decide +kernel
theorem dL_law_1907 : decode code 1907 = .ok (.aload_n 1, 1) := by decide +kernel
theorem dL_law_1908 : decode code 1908 = .ok (.aload_n 0, 1) := by decide +kernel
theorem dL_law_1909 : decode code 1909 = .ok (.iload 5, 2) := by decide +kernel
theorem dL_law_1911 : decode code 1911 = .ok (.iconst 1, 1) := by decide +kernel
theorem dL_law_1912 : decode code 1912 = .ok (.iadd, 1) := by decide +kernel
theorem dL_law_1913 : decode code 1913 = .ok (.iaload, 1) := by decide +kernel
theorem dL_law_1914 : decode code 1914 = .ok (.aload_n 3, 1) := by decide +kernel
theorem dL_law_1915 : decode code 1915 = .ok (.invokestatic 216, 3) := by decide +kernel
theorem dL_law_1918 : decode code 1918 = .ok (.istore 6, 2) := by decide +kernel
theorem dL_law_1920 : decode code 1920 = .ok (.aload_n 2, 1) := by decide +kernel
theorem dL_law_1921 : decode code 1921 = .ok (.aload_n 0, 1) := by decide +kernel
theorem dL_law_1922 : decode code 1922 = .ok (.iload 5, 2) := by decide +kernel
theorem dL_law_1924 : decode code 1924 = .ok (.iconst 1, 1) := by decide +kernel
theorem dL_law_1925 : decode code 1925 = .ok (.iadd, 1) := by decide +kernel
theorem dL_law_1926 : decode code 1926 = .ok (.iaload, 1) := by decide +kernel
theorem dL_law_1927 : decode code 1927 = .ok (.invokevirtual 218, 3) := by decide +kernel
theorem dL_law_1930 : decode code 1930 = .ok (.istore 7, 2) := by decide +kernel
theorem dL_law_1932 : decode code 1932 = .ok (.aload_n 2, 1) := by decide +kernel
theorem dL_law_1933 : decode code 1933 = .ok (.invokevirtual 147, 3) := by decide +kernel
theorem dL_law_1936 : decode code 1936 = .ok (.iload 6, 2) := by decide +kernel
theorem dL_law_1938 : decode code 1938 = .ok (.if_icmp .eq 5, 3) := by decide +kernel
theorem dL_law_1941 : decode code 1941 = .ok (.iconst 0, 1) := by decide +kernel
theorem dL_law_1942 : decode code 1942 = .ok (.ireturn, 1) := by decide +kernel
theorem dL_law_1943 : decode code 1943 = .ok (.iload 6, 2) := by decide +kernel
theorem dL_law_1945 : decode code 1945 = .ok (.ifCond .ne 15, 3) := by decide +kernel
theorem dL_law_1948 : decode code 1948 = .ok (.aload_n 3, 1) := by decide +kernel
theorem dL_law_1949 : decode code 1949 = .ok (.iconst 0, 1) := by decide +kernel
theorem dL_law_1950 : decode code 1950 = .ok (.laload, 1) := by decide +kernel
theorem dL_law_1951 : decode code 1951 = .ok (.iload 7, 2) := by decide +kernel
theorem dL_law_1953 : decode code 1953 = .ok (.i2l, 1) := by decide +kernel
theorem dL_law_1954 : decode code 1954 = .ok (.lcmp, 1) := by decide +kernel
theorem dL_law_1955 : decode code 1955 = .ok (.ifCond .eq 5, 3) := by decide +kernel
theorem dL_law_1958 : decode code 1958 = .ok (.iconst 0, 1) := by decide +kernel
theorem dL_law_1959 : decode code 1959 = .ok (.ireturn, 1) := by decide +kernel
theorem dL_law_1960 : decode code 1960 = .ok (.goto 674, 3) := by decide +kernel
theorem dL_law_1963 : decode code 1963 = .ok (.aload_n 1, 1) := by decide +kernel
theorem dL_law_1964 : decode code 1964 = .ok (.aload_n 0, 1) := by decide +kernel
theorem dL_law_1965 : decode code 1965 = .ok (.iload 5, 2) := by decide +kernel
theorem dL_law_1967 : decode code 1967 = .ok (.iconst 1, 1) := by decide +kernel
theorem dL_law_1968 : decode code 1968 = .ok (.iadd, 1) := by decide +kernel
theorem dL_law_1969 : decode code 1969 = .ok (.iaload, 1) := by decide +kernel
theorem dL_law_1970 : decode code 1970 = .ok (.aload_n 3, 1) := by decide +kernel
theorem dL_law_1971 : decode code 1971 = .ok (.invokestatic 219, 3) := by decide +kernel
theorem dL_law_1974 : decode code 1974 = .ok (.istore 6, 2) := by decide +kernel
theorem dL_law_1976 : decode code 1976 = .ok (.aload_n 2, 1) := by decide +kernel
theorem dL_law_1977 : decode code 1977 = .ok (.aload_n 0, 1) := by decide +kernel
theorem dL_law_1978 : decode code 1978 = .ok (.iload 5, 2) := by decide +kernel
theorem dL_law_1980 : decode code 1980 = .ok (.iconst 1, 1) := by decide +kernel
theorem dL_law_1981 : decode code 1981 = .ok (.iadd, 1) := by decide +kernel
theorem dL_law_1982 : decode code 1982 = .ok (.iaload, 1) := by decide +kernel
theorem dL_law_1983 : decode code 1983 = .ok (.invokevirtual 221, 3) := by decide +kernel
theorem dL_law_1986 : decode code 1986 = .ok (.istore 7, 2) := by decide +kernel
theorem dL_law_1988 : decode code 1988 = .ok (.aload_n 2, 1) := by decide +kernel
theorem dL_law_1989 : decode code 1989 = .ok (.invokevirtual 147, 3) := by decide +kernel
theorem dL_law_1992 : decode code 1992 = .ok (.iload 6, 2) := by decide +kernel
theorem dL_law_1994 : decode code 1994 = .ok (.if_icmp .eq 5, 3) := by decide +kernel
theorem dL_law_1997 : decode code 1997 = .ok (.iconst 0, 1) := by decide +kernel
theorem dL_law_1998 : decode code 1998 = .ok (.ireturn, 1) := by decide +kernel
theorem dL_law_1999 : decode code 1999 = .ok (.iload 6, 2) := by decide +kernel
theorem dL_law_2001 : decode code 2001 = .ok (.ifCond .ne 15, 3) := by decide +kernel
theorem dL_law_2004 : decode code 2004 = .ok (.aload_n 3, 1) := by decide +kernel
theorem dL_law_2005 : decode code 2005 = .ok (.iconst 0, 1) := by decide +kernel
theorem dL_law_2006 : decode code 2006 = .ok (.laload, 1) := by decide +kernel
theorem dL_law_2007 : decode code 2007 = .ok (.iload 7, 2) := by decide +kernel
theorem dL_law_2009 : decode code 2009 = .ok (.i2l, 1) := by decide +kernel
theorem dL_law_2010 : decode code 2010 = .ok (.lcmp, 1) := by decide +kernel
theorem dL_law_2011 : decode code 2011 = .ok (.ifCond .eq 5, 3) := by decide +kernel
theorem dL_law_2014 : decode code 2014 = .ok (.iconst 0, 1) := by decide +kernel
theorem dL_law_2015 : decode code 2015 = .ok (.ireturn, 1) := by decide +kernel
theorem dL_law_2016 : decode code 2016 = .ok (.goto 618, 3) := by decide +kernel
theorem dL_law_2019 : decode code 2019 = .ok (.aload_n 1, 1) := by decide +kernel
theorem dL_law_2020 : decode code 2020 = .ok (.aload_n 0, 1) := by decide +kernel
theorem dL_law_2021 : decode code 2021 = .ok (.iload 5, 2) := by decide +kernel
theorem dL_law_2023 : decode code 2023 = .ok (.iconst 1, 1) := by decide +kernel
theorem dL_law_2024 : decode code 2024 = .ok (.iadd, 1) := by decide +kernel
theorem dL_law_2025 : decode code 2025 = .ok (.iaload, 1) := by decide +kernel
theorem dL_law_2026 : decode code 2026 = .ok (.aload_n 0, 1) := by decide +kernel
theorem dL_law_2027 : decode code 2027 = .ok (.iload 5, 2) := by decide +kernel
theorem dL_law_2029 : decode code 2029 = .ok (.iconst 2, 1) := by decide +kernel
theorem dL_law_2030 : decode code 2030 = .ok (.iadd, 1) := by decide +kernel
theorem dL_law_2031 : decode code 2031 = .ok (.iaload, 1) := by decide +kernel
theorem dL_law_2032 : decode code 2032 = .ok (.aload_n 3, 1) := by decide +kernel
theorem dL_law_2033 : decode code 2033 = .ok (.invokestatic 222, 3) := by decide +kernel
theorem dL_law_2036 : decode code 2036 = .ok (.istore 6, 2) := by decide +kernel
theorem dL_law_2038 : decode code 2038 = .ok (.aload_n 2, 1) := by decide +kernel
theorem dL_law_2039 : decode code 2039 = .ok (.aload_n 0, 1) := by decide +kernel
theorem dL_law_2040 : decode code 2040 = .ok (.iload 5, 2) := by decide +kernel
theorem dL_law_2042 : decode code 2042 = .ok (.iconst 1, 1) := by decide +kernel
theorem dL_law_2043 : decode code 2043 = .ok (.iadd, 1) := by decide +kernel
theorem dL_law_2044 : decode code 2044 = .ok (.iaload, 1) := by decide +kernel
theorem dL_law_2045 : decode code 2045 = .ok (.aload_n 0, 1) := by decide +kernel
theorem dL_law_2046 : decode code 2046 = .ok (.iload 5, 2) := by decide +kernel
theorem dL_law_2048 : decode code 2048 = .ok (.iconst 2, 1) := by decide +kernel
theorem dL_law_2049 : decode code 2049 = .ok (.iadd, 1) := by decide +kernel
theorem dL_law_2050 : decode code 2050 = .ok (.iaload, 1) := by decide +kernel
theorem dL_law_2051 : decode code 2051 = .ok (.invokevirtual 224, 3) := by decide +kernel
theorem dL_law_2054 : decode code 2054 = .ok (.istore 7, 2) := by decide +kernel
theorem dL_law_2056 : decode code 2056 = .ok (.aload_n 2, 1) := by decide +kernel
theorem dL_law_2057 : decode code 2057 = .ok (.invokevirtual 147, 3) := by decide +kernel
theorem dL_law_2060 : decode code 2060 = .ok (.iload 6, 2) := by decide +kernel
theorem dL_law_2062 : decode code 2062 = .ok (.if_icmp .eq 5, 3) := by decide +kernel
theorem dL_law_2065 : decode code 2065 = .ok (.iconst 0, 1) := by decide +kernel
theorem dL_law_2066 : decode code 2066 = .ok (.ireturn, 1) := by decide +kernel
theorem dL_law_2067 : decode code 2067 = .ok (.iload 6, 2) := by decide +kernel
theorem dL_law_2069 : decode code 2069 = .ok (.ifCond .ne 15, 3) := by decide +kernel
theorem dL_law_2072 : decode code 2072 = .ok (.aload_n 3, 1) := by decide +kernel
theorem dL_law_2073 : decode code 2073 = .ok (.iconst 0, 1) := by decide +kernel
theorem dL_law_2074 : decode code 2074 = .ok (.laload, 1) := by decide +kernel
theorem dL_law_2075 : decode code 2075 = .ok (.iload 7, 2) := by decide +kernel
theorem dL_law_2077 : decode code 2077 = .ok (.i2l, 1) := by decide +kernel
theorem dL_law_2078 : decode code 2078 = .ok (.lcmp, 1) := by decide +kernel
theorem dL_law_2079 : decode code 2079 = .ok (.ifCond .eq 5, 3) := by decide +kernel
theorem dL_law_2082 : decode code 2082 = .ok (.iconst 0, 1) := by decide +kernel
theorem dL_law_2083 : decode code 2083 = .ok (.ireturn, 1) := by decide +kernel
theorem dL_law_2084 : decode code 2084 = .ok (.goto 550, 3) := by decide +kernel
theorem dL_law_2087 : decode code 2087 = .ok (.aload_n 1, 1) := by decide +kernel
theorem dL_law_2088 : decode code 2088 = .ok (.invokevirtual 225, 3) := by decide +kernel
theorem dL_law_2091 : decode code 2091 = .ok (.aload_n 2, 1) := by decide +kernel
theorem dL_law_2092 : decode code 2092 = .ok (.invokevirtual 228, 3) := by decide +kernel
theorem dL_law_2095 : decode code 2095 = .ok (.if_icmp .eq 539, 3) := by decide +kernel
theorem dL_law_2098 : decode code 2098 = .ok (.iconst 0, 1) := by decide +kernel
theorem dL_law_2099 : decode code 2099 = .ok (.ireturn, 1) := by decide +kernel
theorem dL_law_2100 : decode code 2100 = .ok (.aload_n 1, 1) := by decide +kernel
theorem dL_law_2101 : decode code 2101 = .ok (.invokevirtual 229, 3) := by decide +kernel
theorem dL_law_2104 : decode code 2104 = .ok (.aload_n 2, 1) := by decide +kernel
theorem dL_law_2105 : decode code 2105 = .ok (.invokevirtual 232, 3) := by decide +kernel
theorem dL_law_2108 : decode code 2108 = .ok (.if_icmp .eq 526, 3) := by decide +kernel
theorem dL_law_2111 : decode code 2111 = .ok (.iconst 0, 1) := by decide +kernel
theorem dL_law_2112 : decode code 2112 = .ok (.ireturn, 1) := by decide +kernel
theorem dL_law_2113 : decode code 2113 = .ok (.aload_n 1, 1) := by decide +kernel
theorem dL_law_2114 : decode code 2114 = .ok (.invokevirtual 233, 3) := by decide +kernel
theorem dL_law_2117 : decode code 2117 = .ok (.aload_n 2, 1) := by decide +kernel
theorem dL_law_2118 : decode code 2118 = .ok (.invokevirtual 236, 3) := by decide +kernel
theorem dL_law_2121 : decode code 2121 = .ok (.if_icmp .eq 513, 3) := by decide +kernel
theorem dL_law_2124 : decode code 2124 = .ok (.iconst 0, 1) := by decide +kernel
theorem dL_law_2125 : decode code 2125 = .ok (.ireturn, 1) := by decide +kernel
theorem dL_law_2126 : decode code 2126 = .ok (.aload_n 1, 1) := by decide +kernel
theorem dL_law_2127 : decode code 2127 = .ok (.aload_n 0, 1) := by decide +kernel
theorem dL_law_2128 : decode code 2128 = .ok (.iload 5, 2) := by decide +kernel
theorem dL_law_2130 : decode code 2130 = .ok (.iconst 1, 1) := by decide +kernel
theorem dL_law_2131 : decode code 2131 = .ok (.iadd, 1) := by decide +kernel
theorem dL_law_2132 : decode code 2132 = .ok (.iaload, 1) := by decide +kernel
theorem dL_law_2133 : decode code 2133 = .ok (.aload_n 0, 1) := by decide +kernel
theorem dL_law_2134 : decode code 2134 = .ok (.iload 5, 2) := by decide +kernel
theorem dL_law_2136 : decode code 2136 = .ok (.iconst 2, 1) := by decide +kernel
theorem dL_law_2137 : decode code 2137 = .ok (.iadd, 1) := by decide +kernel
theorem dL_law_2138 : decode code 2138 = .ok (.iaload, 1) := by decide +kernel
theorem dL_law_2139 : decode code 2139 = .ok (.aload_n 3, 1) := by decide +kernel
theorem dL_law_2140 : decode code 2140 = .ok (.invokestatic 237, 3) := by decide +kernel
theorem dL_law_2143 : decode code 2143 = .ok (.istore 6, 2) := by decide +kernel
theorem dL_law_2145 : decode code 2145 = .ok (.aload_n 2, 1) := by decide +kernel
theorem dL_law_2146 : decode code 2146 = .ok (.aload_n 0, 1) := by decide +kernel
theorem dL_law_2147 : decode code 2147 = .ok (.iload 5, 2) := by decide +kernel
theorem dL_law_2149 : decode code 2149 = .ok (.iconst 1, 1) := by decide +kernel
theorem dL_law_2150 : decode code 2150 = .ok (.iadd, 1) := by decide +kernel
theorem dL_law_2151 : decode code 2151 = .ok (.iaload, 1) := by decide +kernel
theorem dL_law_2152 : decode code 2152 = .ok (.aload_n 0, 1) := by decide +kernel
theorem dL_law_2153 : decode code 2153 = .ok (.iload 5, 2) := by decide +kernel
theorem dL_law_2155 : decode code 2155 = .ok (.iconst 2, 1) := by decide +kernel
theorem dL_law_2156 : decode code 2156 = .ok (.iadd, 1) := by decide +kernel
theorem dL_law_2157 : decode code 2157 = .ok (.iaload, 1) := by decide +kernel
theorem dL_law_2158 : decode code 2158 = .ok (.invokevirtual 239, 3) := by decide +kernel
theorem dL_law_2161 : decode code 2161 = .ok (.istore 7, 2) := by decide +kernel
theorem dL_law_2163 : decode code 2163 = .ok (.aload_n 2, 1) := by decide +kernel
theorem dL_law_2164 : decode code 2164 = .ok (.invokevirtual 147, 3) := by decide +kernel
theorem dL_law_2167 : decode code 2167 = .ok (.iload 6, 2) := by decide +kernel
theorem dL_law_2169 : decode code 2169 = .ok (.if_icmp .eq 5, 3) := by decide +kernel
theorem dL_law_2172 : decode code 2172 = .ok (.iconst 0, 1) := by decide +kernel
theorem dL_law_2173 : decode code 2173 = .ok (.ireturn, 1) := by decide +kernel
theorem dL_law_2174 : decode code 2174 = .ok (.iload 6, 2) := by decide +kernel
theorem dL_law_2176 : decode code 2176 = .ok (.ifCond .ne 15, 3) := by decide +kernel
theorem dL_law_2179 : decode code 2179 = .ok (.aload_n 3, 1) := by decide +kernel
theorem dL_law_2180 : decode code 2180 = .ok (.iconst 0, 1) := by decide +kernel
theorem dL_law_2181 : decode code 2181 = .ok (.laload, 1) := by decide +kernel
theorem dL_law_2182 : decode code 2182 = .ok (.iload 7, 2) := by decide +kernel
theorem dL_law_2184 : decode code 2184 = .ok (.i2l, 1) := by decide +kernel
theorem dL_law_2185 : decode code 2185 = .ok (.lcmp, 1) := by decide +kernel
theorem dL_law_2186 : decode code 2186 = .ok (.ifCond .eq 5, 3) := by decide +kernel
theorem dL_law_2189 : decode code 2189 = .ok (.iconst 0, 1) := by decide +kernel
theorem dL_law_2190 : decode code 2190 = .ok (.ireturn, 1) := by decide +kernel
theorem dL_law_2191 : decode code 2191 = .ok (.goto 443, 3) := by decide +kernel
theorem dL_law_2194 : decode code 2194 = .ok (.aload_n 1, 1) := by decide +kernel
theorem dL_law_2195 : decode code 2195 = .ok (.aload_n 0, 1) := by decide +kernel
theorem dL_law_2196 : decode code 2196 = .ok (.iload 5, 2) := by decide +kernel
theorem dL_law_2198 : decode code 2198 = .ok (.iconst 1, 1) := by decide +kernel
theorem dL_law_2199 : decode code 2199 = .ok (.iadd, 1) := by decide +kernel
theorem dL_law_2200 : decode code 2200 = .ok (.iaload, 1) := by decide +kernel
theorem dL_law_2201 : decode code 2201 = .ok (.aload_n 0, 1) := by decide +kernel
theorem dL_law_2202 : decode code 2202 = .ok (.iload 5, 2) := by decide +kernel
theorem dL_law_2204 : decode code 2204 = .ok (.iconst 2, 1) := by decide +kernel
theorem dL_law_2205 : decode code 2205 = .ok (.iadd, 1) := by decide +kernel
theorem dL_law_2206 : decode code 2206 = .ok (.iaload, 1) := by decide +kernel
theorem dL_law_2207 : decode code 2207 = .ok (.aload_n 0, 1) := by decide +kernel
theorem dL_law_2208 : decode code 2208 = .ok (.iload 5, 2) := by decide +kernel
theorem dL_law_2210 : decode code 2210 = .ok (.iconst 3, 1) := by decide +kernel
theorem dL_law_2211 : decode code 2211 = .ok (.iadd, 1) := by decide +kernel
theorem dL_law_2212 : decode code 2212 = .ok (.iaload, 1) := by decide +kernel
theorem dL_law_2213 : decode code 2213 = .ok (.aload_n 3, 1) := by decide +kernel
theorem dL_law_2214 : decode code 2214 = .ok (.invokestatic 240, 3) := by decide +kernel
theorem dL_law_2217 : decode code 2217 = .ok (.istore 6, 2) := by decide +kernel
theorem dL_law_2219 : decode code 2219 = .ok (.aload_n 2, 1) := by decide +kernel
theorem dL_law_2220 : decode code 2220 = .ok (.aload_n 0, 1) := by decide +kernel
theorem dL_law_2221 : decode code 2221 = .ok (.iload 5, 2) := by decide +kernel
theorem dL_law_2223 : decode code 2223 = .ok (.iconst 1, 1) := by decide +kernel
theorem dL_law_2224 : decode code 2224 = .ok (.iadd, 1) := by decide +kernel
theorem dL_law_2225 : decode code 2225 = .ok (.iaload, 1) := by decide +kernel
theorem dL_law_2226 : decode code 2226 = .ok (.aload_n 0, 1) := by decide +kernel
theorem dL_law_2227 : decode code 2227 = .ok (.iload 5, 2) := by decide +kernel
theorem dL_law_2229 : decode code 2229 = .ok (.iconst 2, 1) := by decide +kernel
theorem dL_law_2230 : decode code 2230 = .ok (.iadd, 1) := by decide +kernel
theorem dL_law_2231 : decode code 2231 = .ok (.iaload, 1) := by decide +kernel
theorem dL_law_2232 : decode code 2232 = .ok (.aload_n 0, 1) := by decide +kernel
theorem dL_law_2233 : decode code 2233 = .ok (.iload 5, 2) := by decide +kernel
theorem dL_law_2235 : decode code 2235 = .ok (.iconst 3, 1) := by decide +kernel
theorem dL_law_2236 : decode code 2236 = .ok (.iadd, 1) := by decide +kernel
theorem dL_law_2237 : decode code 2237 = .ok (.iaload, 1) := by decide +kernel
theorem dL_law_2238 : decode code 2238 = .ok (.invokevirtual 242, 3) := by decide +kernel
theorem dL_law_2241 : decode code 2241 = .ok (.istore 7, 2) := by decide +kernel
theorem dL_law_2243 : decode code 2243 = .ok (.aload_n 2, 1) := by decide +kernel
theorem dL_law_2244 : decode code 2244 = .ok (.invokevirtual 147, 3) := by decide +kernel
theorem dL_law_2247 : decode code 2247 = .ok (.iload 6, 2) := by decide +kernel
theorem dL_law_2249 : decode code 2249 = .ok (.if_icmp .eq 5, 3) := by decide +kernel
theorem dL_law_2252 : decode code 2252 = .ok (.iconst 0, 1) := by decide +kernel
theorem dL_law_2253 : decode code 2253 = .ok (.ireturn, 1) := by decide +kernel
theorem dL_law_2254 : decode code 2254 = .ok (.iload 6, 2) := by decide +kernel
theorem dL_law_2256 : decode code 2256 = .ok (.ifCond .ne 15, 3) := by decide +kernel
theorem dL_law_2259 : decode code 2259 = .ok (.aload_n 3, 1) := by decide +kernel
theorem dL_law_2260 : decode code 2260 = .ok (.iconst 0, 1) := by decide +kernel
theorem dL_law_2261 : decode code 2261 = .ok (.laload, 1) := by decide +kernel
theorem dL_law_2262 : decode code 2262 = .ok (.iload 7, 2) := by decide +kernel
theorem dL_law_2264 : decode code 2264 = .ok (.i2l, 1) := by decide +kernel
theorem dL_law_2265 : decode code 2265 = .ok (.lcmp, 1) := by decide +kernel
theorem dL_law_2266 : decode code 2266 = .ok (.ifCond .eq 5, 3) := by decide +kernel
theorem dL_law_2269 : decode code 2269 = .ok (.iconst 0, 1) := by decide +kernel
theorem dL_law_2270 : decode code 2270 = .ok (.ireturn, 1) := by decide +kernel
theorem dL_law_2271 : decode code 2271 = .ok (.goto 363, 3) := by decide +kernel
theorem dL_law_2274 : decode code 2274 = .ok (.aload_n 1, 1) := by decide +kernel
theorem dL_law_2275 : decode code 2275 = .ok (.aload_n 0, 1) := by decide +kernel
theorem dL_law_2276 : decode code 2276 = .ok (.iload 5, 2) := by decide +kernel
theorem dL_law_2278 : decode code 2278 = .ok (.iconst 1, 1) := by decide +kernel
theorem dL_law_2279 : decode code 2279 = .ok (.iadd, 1) := by decide +kernel
theorem dL_law_2280 : decode code 2280 = .ok (.iaload, 1) := by decide +kernel
theorem dL_law_2281 : decode code 2281 = .ok (.aload 4, 2) := by decide +kernel
theorem dL_law_2283 : decode code 2283 = .ok (.invokestatic 243, 3) := by decide +kernel
theorem dL_law_2286 : decode code 2286 = .ok (.istore 6, 2) := by decide +kernel
theorem dL_law_2288 : decode code 2288 = .ok (.aload_n 2, 1) := by decide +kernel
theorem dL_law_2289 : decode code 2289 = .ok (.aload_n 0, 1) := by decide +kernel
theorem dL_law_2290 : decode code 2290 = .ok (.iload 5, 2) := by decide +kernel
theorem dL_law_2292 : decode code 2292 = .ok (.iconst 1, 1) := by decide +kernel
theorem dL_law_2293 : decode code 2293 = .ok (.iadd, 1) := by decide +kernel
theorem dL_law_2294 : decode code 2294 = .ok (.iaload, 1) := by decide +kernel
theorem dL_law_2295 : decode code 2295 = .ok (.invokevirtual 246, 3) := by decide +kernel
theorem dL_law_2298 : decode code 2298 = .ok (.fstore 7, 2) := by decide +kernel
theorem dL_law_2300 : decode code 2300 = .ok (.aload_n 2, 1) := by decide +kernel
theorem dL_law_2301 : decode code 2301 = .ok (.invokevirtual 147, 3) := by decide +kernel
theorem dL_law_2304 : decode code 2304 = .ok (.iload 6, 2) := by decide +kernel
theorem dL_law_2306 : decode code 2306 = .ok (.if_icmp .eq 5, 3) := by decide +kernel
theorem dL_law_2309 : decode code 2309 = .ok (.iconst 0, 1) := by decide +kernel
theorem dL_law_2310 : decode code 2310 = .ok (.ireturn, 1) := by decide +kernel
theorem dL_law_2311 : decode code 2311 = .ok (.iload 6, 2) := by decide +kernel
theorem dL_law_2313 : decode code 2313 = .ok (.ifCond .ne 36, 3) := by decide +kernel
theorem dL_law_2316 : decode code 2316 = .ok (.aload 4, 2) := by decide +kernel
theorem dL_law_2318 : decode code 2318 = .ok (.iconst 0, 1) := by decide +kernel
theorem dL_law_2319 : decode code 2319 = .ok (.daload, 1) := by decide +kernel
theorem dL_law_2320 : decode code 2320 = .ok (.fload 7, 2) := by decide +kernel
theorem dL_law_2322 : decode code 2322 = .ok (.f2d, 1) := by decide +kernel
theorem dL_law_2323 : decode code 2323 = .ok (.dcmp .l, 1) := by decide +kernel
theorem dL_law_2324 : decode code 2324 = .ok (.ifCond .eq 25, 3) := by decide +kernel
theorem dL_law_2327 : decode code 2327 = .ok (.aload 4, 2) := by decide +kernel
theorem dL_law_2329 : decode code 2329 = .ok (.iconst 0, 1) := by decide +kernel
theorem dL_law_2330 : decode code 2330 = .ok (.daload, 1) := by decide +kernel
theorem dL_law_2331 : decode code 2331 = .ok (.aload 4, 2) := by decide +kernel
theorem dL_law_2333 : decode code 2333 = .ok (.iconst 0, 1) := by decide +kernel
theorem dL_law_2334 : decode code 2334 = .ok (.daload, 1) := by decide +kernel
theorem dL_law_2335 : decode code 2335 = .ok (.dcmp .l, 1) := by decide +kernel
theorem dL_law_2336 : decode code 2336 = .ok (.ifCond .eq 11, 3) := by decide +kernel
theorem dL_law_2339 : decode code 2339 = .ok (.fload 7, 2) := by decide +kernel
theorem dL_law_2341 : decode code 2341 = .ok (.fload 7, 2) := by decide +kernel
theorem dL_law_2343 : decode code 2343 = .ok (.fcmp .l, 1) := by decide +kernel
theorem dL_law_2344 : decode code 2344 = .ok (.ifCond .ne 5, 3) := by decide +kernel
theorem dL_law_2347 : decode code 2347 = .ok (.iconst 0, 1) := by decide +kernel
theorem dL_law_2348 : decode code 2348 = .ok (.ireturn, 1) := by decide +kernel
theorem dL_law_2349 : decode code 2349 = .ok (.goto 285, 3) := by decide +kernel
theorem dL_law_2352 : decode code 2352 = .ok (.aload_n 1, 1) := by decide +kernel
theorem dL_law_2353 : decode code 2353 = .ok (.aload_n 3, 1) := by decide +kernel
theorem dL_law_2354 : decode code 2354 = .ok (.invokestatic 247, 3) := by decide +kernel
theorem dL_law_2357 : decode code 2357 = .ok (.istore 6, 2) := by decide +kernel
theorem dL_law_2359 : decode code 2359 = .ok (.aload_n 2, 1) := by decide +kernel
theorem dL_law_2360 : decode code 2360 = .ok (.invokevirtual 250, 3) := by decide +kernel
theorem dL_law_2363 : decode code 2363 = .ok (.istore 7, 2) := by decide +kernel
theorem dL_law_2365 : decode code 2365 = .ok (.aload_n 2, 1) := by decide +kernel
theorem dL_law_2366 : decode code 2366 = .ok (.invokevirtual 147, 3) := by decide +kernel
theorem dL_law_2369 : decode code 2369 = .ok (.iload 6, 2) := by decide +kernel
theorem dL_law_2371 : decode code 2371 = .ok (.if_icmp .eq 5, 3) := by decide +kernel
theorem dL_law_2374 : decode code 2374 = .ok (.iconst 0, 1) := by decide +kernel
theorem dL_law_2375 : decode code 2375 = .ok (.ireturn, 1) := by decide +kernel
theorem dL_law_2376 : decode code 2376 = .ok (.iload 6, 2) := by decide +kernel
theorem dL_law_2378 : decode code 2378 = .ok (.ifCond .ne 15, 3) := by decide +kernel
theorem dL_law_2381 : decode code 2381 = .ok (.aload_n 3, 1) := by decide +kernel
theorem dL_law_2382 : decode code 2382 = .ok (.iconst 0, 1) := by decide +kernel
theorem dL_law_2383 : decode code 2383 = .ok (.laload, 1) := by decide +kernel
theorem dL_law_2384 : decode code 2384 = .ok (.iload 7, 2) := by decide +kernel
theorem dL_law_2386 : decode code 2386 = .ok (.i2l, 1) := by decide +kernel
theorem dL_law_2387 : decode code 2387 = .ok (.lcmp, 1) := by decide +kernel
theorem dL_law_2388 : decode code 2388 = .ok (.ifCond .eq 5, 3) := by decide +kernel
theorem dL_law_2391 : decode code 2391 = .ok (.iconst 0, 1) := by decide +kernel
theorem dL_law_2392 : decode code 2392 = .ok (.ireturn, 1) := by decide +kernel
theorem dL_law_2393 : decode code 2393 = .ok (.goto 241, 3) := by decide +kernel
theorem dL_law_2396 : decode code 2396 = .ok (.aload_n 1, 1) := by decide +kernel
theorem dL_law_2397 : decode code 2397 = .ok (.aload_n 0, 1) := by decide +kernel
theorem dL_law_2398 : decode code 2398 = .ok (.iload 5, 2) := by decide +kernel
theorem dL_law_2400 : decode code 2400 = .ok (.iconst 1, 1) := by decide +kernel
theorem dL_law_2401 : decode code 2401 = .ok (.iadd, 1) := by decide +kernel
theorem dL_law_2402 : decode code 2402 = .ok (.iaload, 1) := by decide +kernel
theorem dL_law_2403 : decode code 2403 = .ok (.aload_n 0, 1) := by decide +kernel
theorem dL_law_2404 : decode code 2404 = .ok (.iload 5, 2) := by decide +kernel
theorem dL_law_2406 : decode code 2406 = .ok (.iconst 2, 1) := by decide +kernel
theorem dL_law_2407 : decode code 2407 = .ok (.iadd, 1) := by decide +kernel
theorem dL_law_2408 : decode code 2408 = .ok (.iaload, 1) := by decide +kernel
theorem dL_law_2409 : decode code 2409 = .ok (.aload_n 3, 1) := by decide +kernel
theorem dL_law_2410 : decode code 2410 = .ok (.invokestatic 251, 3) := by decide +kernel
theorem dL_law_2413 : decode code 2413 = .ok (.istore 6, 2) := by decide +kernel
theorem dL_law_2415 : decode code 2415 = .ok (.aload_n 2, 1) := by decide +kernel
theorem dL_law_2416 : decode code 2416 = .ok (.aload_n 0, 1) := by decide +kernel
theorem dL_law_2417 : decode code 2417 = .ok (.iload 5, 2) := by decide +kernel
theorem dL_law_2419 : decode code 2419 = .ok (.iconst 1, 1) := by decide +kernel
theorem dL_law_2420 : decode code 2420 = .ok (.iadd, 1) := by decide +kernel
theorem dL_law_2421 : decode code 2421 = .ok (.iaload, 1) := by decide +kernel
theorem dL_law_2422 : decode code 2422 = .ok (.aload_n 0, 1) := by decide +kernel
theorem dL_law_2423 : decode code 2423 = .ok (.iload 5, 2) := by decide +kernel
theorem dL_law_2425 : decode code 2425 = .ok (.iconst 2, 1) := by decide +kernel
theorem dL_law_2426 : decode code 2426 = .ok (.iadd, 1) := by decide +kernel
theorem dL_law_2427 : decode code 2427 = .ok (.iaload, 1) := by decide +kernel
theorem dL_law_2428 : decode code 2428 = .ok (.invokevirtual 253, 3) := by decide +kernel
theorem dL_law_2431 : decode code 2431 = .ok (.istore 7, 2) := by decide +kernel
theorem dL_law_2433 : decode code 2433 = .ok (.aload_n 2, 1) := by decide +kernel
theorem dL_law_2434 : decode code 2434 = .ok (.invokevirtual 147, 3) := by decide +kernel
theorem dL_law_2437 : decode code 2437 = .ok (.iload 6, 2) := by decide +kernel
theorem dL_law_2439 : decode code 2439 = .ok (.if_icmp .eq 5, 3) := by decide +kernel
theorem dL_law_2442 : decode code 2442 = .ok (.iconst 0, 1) := by decide +kernel
theorem dL_law_2443 : decode code 2443 = .ok (.ireturn, 1) := by decide +kernel
theorem dL_law_2444 : decode code 2444 = .ok (.iload 6, 2) := by decide +kernel
theorem dL_law_2446 : decode code 2446 = .ok (.ifCond .ne 15, 3) := by decide +kernel
theorem dL_law_2449 : decode code 2449 = .ok (.aload_n 3, 1) := by decide +kernel
theorem dL_law_2450 : decode code 2450 = .ok (.iconst 0, 1) := by decide +kernel
theorem dL_law_2451 : decode code 2451 = .ok (.laload, 1) := by decide +kernel
theorem dL_law_2452 : decode code 2452 = .ok (.iload 7, 2) := by decide +kernel
theorem dL_law_2454 : decode code 2454 = .ok (.i2l, 1) := by decide +kernel
theorem dL_law_2455 : decode code 2455 = .ok (.lcmp, 1) := by decide +kernel
theorem dL_law_2456 : decode code 2456 = .ok (.ifCond .eq 5, 3) := by decide +kernel
theorem dL_law_2459 : decode code 2459 = .ok (.iconst 0, 1) := by decide +kernel
theorem dL_law_2460 : decode code 2460 = .ok (.ireturn, 1) := by decide +kernel
theorem dL_law_2461 : decode code 2461 = .ok (.goto 173, 3) := by decide +kernel
theorem dL_law_2464 : decode code 2464 = .ok (.aload_n 1, 1) := by decide +kernel
theorem dL_law_2465 : decode code 2465 = .ok (.aload_n 0, 1) := by decide +kernel
theorem dL_law_2466 : decode code 2466 = .ok (.iload 5, 2) := by decide +kernel
theorem dL_law_2468 : decode code 2468 = .ok (.iconst 1, 1) := by decide +kernel
theorem dL_law_2469 : decode code 2469 = .ok (.iadd, 1) := by decide +kernel
theorem dL_law_2470 : decode code 2470 = .ok (.iaload, 1) := by decide +kernel
theorem dL_law_2471 : decode code 2471 = .ok (.aload_n 3, 1) := by decide +kernel
theorem dL_law_2472 : decode code 2472 = .ok (.invokestatic 254, 3) := by decide +kernel
theorem dL_law_2475 : decode code 2475 = .ok (.istore 6, 2) := by decide +kernel
theorem dL_law_2477 : decode code 2477 = .ok (.aload_n 2, 1) := by decide +kernel
theorem dL_law_2478 : decode code 2478 = .ok (.aload_n 0, 1) := by decide +kernel
theorem dL_law_2479 : decode code 2479 = .ok (.iload 5, 2) := by decide +kernel
theorem dL_law_2481 : decode code 2481 = .ok (.iconst 1, 1) := by decide +kernel
theorem dL_law_2482 : decode code 2482 = .ok (.iadd, 1) := by decide +kernel
theorem dL_law_2483 : decode code 2483 = .ok (.iaload, 1) := by decide +kernel
theorem dL_law_2484 : decode code 2484 = .ok (.invokevirtual 256, 3) := by decide +kernel
theorem dL_law_2487 : decode code 2487 = .ok (.istore 7, 2) := by decide +kernel
theorem dL_law_2489 : decode code 2489 = .ok (.aload_n 2, 1) := by decide +kernel
theorem dL_law_2490 : decode code 2490 = .ok (.invokevirtual 147, 3) := by decide +kernel
theorem dL_law_2493 : decode code 2493 = .ok (.iload 6, 2) := by decide +kernel
theorem dL_law_2495 : decode code 2495 = .ok (.if_icmp .eq 5, 3) := by decide +kernel
theorem dL_law_2498 : decode code 2498 = .ok (.iconst 0, 1) := by decide +kernel
theorem dL_law_2499 : decode code 2499 = .ok (.ireturn, 1) := by decide +kernel
theorem dL_law_2500 : decode code 2500 = .ok (.iload 6, 2) := by decide +kernel
theorem dL_law_2502 : decode code 2502 = .ok (.ifCond .ne 15, 3) := by decide +kernel
theorem dL_law_2505 : decode code 2505 = .ok (.aload_n 3, 1) := by decide +kernel
theorem dL_law_2506 : decode code 2506 = .ok (.iconst 0, 1) := by decide +kernel
theorem dL_law_2507 : decode code 2507 = .ok (.laload, 1) := by decide +kernel
theorem dL_law_2508 : decode code 2508 = .ok (.iload 7, 2) := by decide +kernel
theorem dL_law_2510 : decode code 2510 = .ok (.i2l, 1) := by decide +kernel
theorem dL_law_2511 : decode code 2511 = .ok (.lcmp, 1) := by decide +kernel
theorem dL_law_2512 : decode code 2512 = .ok (.ifCond .eq 5, 3) := by decide +kernel
theorem dL_law_2515 : decode code 2515 = .ok (.iconst 0, 1) := by decide +kernel
theorem dL_law_2516 : decode code 2516 = .ok (.ireturn, 1) := by decide +kernel
theorem dL_law_2517 : decode code 2517 = .ok (.goto 117, 3) := by decide +kernel
theorem dL_law_2520 : decode code 2520 = .ok (.aload_n 1, 1) := by decide +kernel
theorem dL_law_2521 : decode code 2521 = .ok (.aload_n 0, 1) := by decide +kernel
theorem dL_law_2522 : decode code 2522 = .ok (.iload 5, 2) := by decide +kernel
theorem dL_law_2524 : decode code 2524 = .ok (.iconst 1, 1) := by decide +kernel
theorem dL_law_2525 : decode code 2525 = .ok (.iadd, 1) := by decide +kernel
theorem dL_law_2526 : decode code 2526 = .ok (.iaload, 1) := by decide +kernel
theorem dL_law_2527 : decode code 2527 = .ok (.invokevirtual 257, 3) := by decide +kernel
theorem dL_law_2530 : decode code 2530 = .ok (.aload_n 2, 1) := by decide +kernel
theorem dL_law_2531 : decode code 2531 = .ok (.aload_n 0, 1) := by decide +kernel
theorem dL_law_2532 : decode code 2532 = .ok (.iload 5, 2) := by decide +kernel
theorem dL_law_2534 : decode code 2534 = .ok (.iconst 1, 1) := by decide +kernel
theorem dL_law_2535 : decode code 2535 = .ok (.iadd, 1) := by decide +kernel
theorem dL_law_2536 : decode code 2536 = .ok (.iaload, 1) := by decide +kernel
theorem dL_law_2537 : decode code 2537 = .ok (.invokevirtual 260, 3) := by decide +kernel
theorem dL_law_2540 : decode code 2540 = .ok (.if_icmp .eq 94, 3) := by decide +kernel
theorem dL_law_2543 : decode code 2543 = .ok (.iconst 0, 1) := by decide +kernel
theorem dL_law_2544 : decode code 2544 = .ok (.ireturn, 1) := by decide +kernel
theorem dL_law_2545 : decode code 2545 = .ok (.aload_n 1, 1) := by decide +kernel
theorem dL_law_2546 : decode code 2546 = .ok (.invokevirtual 261, 3) := by decide +kernel
theorem dL_law_2549 : decode code 2549 = .ok (.aload_n 2, 1) := by decide +kernel
theorem dL_law_2550 : decode code 2550 = .ok (.invokevirtual 264, 3) := by decide +kernel
theorem dL_law_2553 : decode code 2553 = .ok (.if_icmp .eq 81, 3) := by decide +kernel
theorem dL_law_2556 : decode code 2556 = .ok (.iconst 0, 1) := by decide +kernel
theorem dL_law_2557 : decode code 2557 = .ok (.ireturn, 1) := by decide +kernel
theorem dL_law_2558 : decode code 2558 = .ok (.aload_n 1, 1) := by decide +kernel
theorem dL_law_2559 : decode code 2559 = .ok (.invokevirtual 265, 3) := by decide +kernel
theorem dL_law_2562 : decode code 2562 = .ok (.aload_n 2, 1) := by decide +kernel
theorem dL_law_2563 : decode code 2563 = .ok (.invokevirtual 268, 3) := by decide +kernel
theorem dL_law_2566 : decode code 2566 = .ok (.if_icmp .eq 68, 3) := by decide +kernel
theorem dL_law_2569 : decode code 2569 = .ok (.iconst 0, 1) := by decide +kernel
theorem dL_law_2570 : decode code 2570 = .ok (.ireturn, 1) := by decide +kernel
theorem dL_law_2571 : decode code 2571 = .ok (.aload_n 1, 1) := by decide +kernel
theorem dL_law_2572 : decode code 2572 = .ok (.invokevirtual 269, 3) := by decide +kernel
theorem dL_law_2575 : decode code 2575 = .ok (.aload_n 2, 1) := by decide +kernel
theorem dL_law_2576 : decode code 2576 = .ok (.invokevirtual 272, 3) := by decide +kernel
theorem dL_law_2579 : decode code 2579 = .ok (.if_icmp .eq 55, 3) := by decide +kernel
theorem dL_law_2582 : decode code 2582 = .ok (.iconst 0, 1) := by decide +kernel
theorem dL_law_2583 : decode code 2583 = .ok (.ireturn, 1) := by decide +kernel
theorem dL_law_2584 : decode code 2584 = .ok (.aload_n 1, 1) := by decide +kernel
theorem dL_law_2585 : decode code 2585 = .ok (.aload_n 0, 1) := by decide +kernel
theorem dL_law_2586 : decode code 2586 = .ok (.iload 5, 2) := by decide +kernel
theorem dL_law_2588 : decode code 2588 = .ok (.iconst 1, 1) := by decide +kernel
theorem dL_law_2589 : decode code 2589 = .ok (.iadd, 1) := by decide +kernel
theorem dL_law_2590 : decode code 2590 = .ok (.iaload, 1) := by decide +kernel
theorem dL_law_2591 : decode code 2591 = .ok (.invokevirtual 273, 3) := by decide +kernel
theorem dL_law_2594 : decode code 2594 = .ok (.aload_n 2, 1) := by decide +kernel
theorem dL_law_2595 : decode code 2595 = .ok (.aload_n 0, 1) := by decide +kernel
theorem dL_law_2596 : decode code 2596 = .ok (.iload 5, 2) := by decide +kernel
theorem dL_law_2598 : decode code 2598 = .ok (.iconst 1, 1) := by decide +kernel
theorem dL_law_2599 : decode code 2599 = .ok (.iadd, 1) := by decide +kernel
theorem dL_law_2600 : decode code 2600 = .ok (.iaload, 1) := by decide +kernel
theorem dL_law_2601 : decode code 2601 = .ok (.invokevirtual 277, 3) := by decide +kernel
theorem dL_law_2604 : decode code 2604 = .ok (.if_icmp .eq 30, 3) := by decide +kernel
theorem dL_law_2607 : decode code 2607 = .ok (.iconst 0, 1) := by decide +kernel
theorem dL_law_2608 : decode code 2608 = .ok (.ireturn, 1) := by decide +kernel
theorem dL_law_2609 : decode code 2609 = .ok (.aload_n 1, 1) := by decide +kernel
theorem dL_law_2610 : decode code 2610 = .ok (.aload_n 0, 1) := by decide +kernel
theorem dL_law_2611 : decode code 2611 = .ok (.iload 5, 2) := by decide +kernel
theorem dL_law_2613 : decode code 2613 = .ok (.iconst 1, 1) := by decide +kernel
theorem dL_law_2614 : decode code 2614 = .ok (.iadd, 1) := by decide +kernel
theorem dL_law_2615 : decode code 2615 = .ok (.iaload, 1) := by decide +kernel
theorem dL_law_2616 : decode code 2616 = .ok (.invokevirtual 278, 3) := by decide +kernel
theorem dL_law_2619 : decode code 2619 = .ok (.aload_n 2, 1) := by decide +kernel
theorem dL_law_2620 : decode code 2620 = .ok (.aload_n 0, 1) := by decide +kernel
theorem dL_law_2621 : decode code 2621 = .ok (.iload 5, 2) := by decide +kernel
theorem dL_law_2623 : decode code 2623 = .ok (.iconst 1, 1) := by decide +kernel
theorem dL_law_2624 : decode code 2624 = .ok (.iadd, 1) := by decide +kernel
theorem dL_law_2625 : decode code 2625 = .ok (.iaload, 1) := by decide +kernel
theorem dL_law_2626 : decode code 2626 = .ok (.invokevirtual 281, 3) := by decide +kernel
theorem dL_law_2629 : decode code 2629 = .ok (.if_icmp .eq 5, 3) := by decide +kernel
theorem dL_law_2632 : decode code 2632 = .ok (.iconst 0, 1) := by decide +kernel
theorem dL_law_2633 : decode code 2633 = .ok (.ireturn, 1) := by decide +kernel
theorem dL_law_2634 : decode code 2634 = .ok (.iinc 5 6, 3) := by decide +kernel
theorem dL_law_2637 : decode code 2637 = .ok (.goto (-2609), 3) := by decide +kernel
theorem dL_law_2640 : decode code 2640 = .ok (.iconst 1, 1) := by decide +kernel
theorem dL_law_2641 : decode code 2641 = .ok (.ireturn, 1) := by decide +kernel
theorem z_cmp0 (x : Int64) : lg_cmp x x = 0 := by
  unfold lg_cmp
  rw [if_neg (by simp), if_pos rfl]
/-- what the law asks of appendInput -/
def z_p0 (R : x_S → x_L → x_S → x_L → Prop) : Prop := ∀ (σ : x_S) (τ : x_L) (ρ : x_S) (θ : x_L), R σ τ ρ θ → ∀ (a1 : Int32) (a2 : Int32) (a3 : Int32) (a4 : Int32) (a5 : Int32), wX10_appendInput a1 a2 a3 a4 a5 σ τ (fun r σ1 τ1 => wX11_appendInput a1 a2 a3 a4 a5 ρ θ (fun r' ρ1 θ1 => r = r' ∧ R σ1 τ1 ρ1 θ1))
set_option maxRecDepth 100000 in
set_option maxHeartbeats 4000000 in
theorem z_case0 {R : x_S → x_L → x_S → x_L → Prop} (hp : z_p0 R) {V : x_J} {ad : Nat → Nat} {b L : Nat} {xs : Nat → Int32} {j : Nat} {i : Int32} {σ ρ : x_S} {τ θ : x_L} (X : z_Is V ad b L xs j) (hj : j + 4 ≤ 600000) (h1 : vp_in (i + 1) L) (h2 : vp_in (i + 2) L) (h3 : vp_in (i + 3) L) (h4 : vp_in (i + 4) L) (h5 : vp_in (i + 5) L) (hR : R σ τ ρ θ)
    (k9 : ∀ (V' : x_J) (j' : Nat) (σ' : x_S) (τ' : x_L) (ρ' : x_S) (θ' : x_L), j' ≤ j + 4 → z_Is V' ad b L xs j' → R σ' τ' ρ' θ' → V' (z_c σ' ρ') (z_cL τ' θ') 2634 [(0, .ref b), (1, .ref (ad 0)), (2, .ref (ad 89)), (3, .ref (ad 87)), (4, .ref (ad 88)), (5, .int i)] []) : V (z_c σ ρ) (z_cL τ θ) 244 [(0, .ref b), (1, .ref (ad 0)), (2, .ref (ad 89)), (3, .ref (ad 87)), (4, .ref (ad 88)), (5, .int i)] [] := by
  have X0 := z_isX X
  refine x_aload_n X0 dL_law_244 rfl 1 rfl ?_
  refine x_aload_n X0 dL_law_245 rfl 0 rfl ?_
  refine x_iload X0 dL_law_246 5 rfl ?_
  refine x_iconst X0 (v := 1) dL_law_248 (by decide) ?_
  refine x_iadd X0 dL_law_249 ?_
  refine z_sld X h1 dL_law_250 ?_
  refine x_aload_n X0 dL_law_251 rfl 0 rfl ?_
  refine x_iload X0 dL_law_252 5 rfl ?_
  refine x_iconst X0 (v := 2) dL_law_254 (by decide) ?_
  refine x_iadd X0 dL_law_255 ?_
  refine z_sld X h2 dL_law_256 ?_
  refine x_aload_n X0 dL_law_257 rfl 0 rfl ?_
  refine x_iload X0 dL_law_258 5 rfl ?_
  refine x_iconst X0 (v := 3) dL_law_260 (by decide) ?_
  refine x_iadd X0 dL_law_261 ?_
  refine z_sld X h3 dL_law_262 ?_
  refine x_aload_n X0 dL_law_263 rfl 0 rfl ?_
  refine x_iload X0 dL_law_264 5 rfl ?_
  refine x_iconst X0 (v := 4) dL_law_266 (by decide) ?_
  refine x_iadd X0 dL_law_267 ?_
  refine z_sld X h4 dL_law_268 ?_
  refine x_aload_n X0 dL_law_269 rfl 0 rfl ?_
  refine x_iload X0 dL_law_270 5 rfl ?_
  refine x_iconst X0 (v := 5) dL_law_272 (by decide) ?_
  refine x_iadd X0 dL_law_273 ?_
  refine z_sld X h5 dL_law_274 ?_
  refine z_callX X (As := [.int (xs (i + 1).toNatClampNeg), .int (xs (i + 2).toNatClampNeg), .int (xs (i + 3).toNatClampNeg), .int (xs (i + 4).toNatClampNeg), .int (xs (i + 5).toNatClampNeg)]) [] dL_law_275 (kX10_appendInput (hp σ τ ρ θ hR (xs (i + 1).toNatClampNeg) (xs (i + 2).toNatClampNeg) (xs (i + 3).toNatClampNeg) (xs (i + 4).toNatClampNeg) (xs (i + 5).toNatClampNeg))) cm_X10_appendInput ci_X10_appendInput w_2_177 dsX_0 (by decide) rfl (Nat.le_of_ble_eq_true rfl) ?_
  rintro v σ1 τ1 ⟨r, rfl, hq⟩
  show V (z_c σ1 ρ) (z_cL τ1 θ) _ _ [.int r]
  refine x_aload_n X0 dL_law_278 rfl 2 rfl ?_
  refine x_aload_n X0 dL_law_279 rfl 0 rfl ?_
  refine x_iload X0 dL_law_280 5 rfl ?_
  refine x_iconst X0 (v := 1) dL_law_282 (by decide) ?_
  refine x_iadd X0 dL_law_283 ?_
  refine z_sld X h1 dL_law_284 ?_
  refine x_aload_n X0 dL_law_285 rfl 0 rfl ?_
  refine x_iload X0 dL_law_286 5 rfl ?_
  refine x_iconst X0 (v := 2) dL_law_288 (by decide) ?_
  refine x_iadd X0 dL_law_289 ?_
  refine z_sld X h2 dL_law_290 ?_
  refine x_aload_n X0 dL_law_291 rfl 0 rfl ?_
  refine x_iload X0 dL_law_292 5 rfl ?_
  refine x_iconst X0 (v := 3) dL_law_294 (by decide) ?_
  refine x_iadd X0 dL_law_295 ?_
  refine z_sld X h3 dL_law_296 ?_
  refine x_aload_n X0 dL_law_297 rfl 0 rfl ?_
  refine x_iload X0 dL_law_298 5 rfl ?_
  refine x_iconst X0 (v := 4) dL_law_300 (by decide) ?_
  refine x_iadd X0 dL_law_301 ?_
  refine z_sld X h4 dL_law_302 ?_
  refine x_aload_n X0 dL_law_303 rfl 0 rfl ?_
  refine x_iload X0 dL_law_304 5 rfl ?_
  refine x_iconst X0 (v := 5) dL_law_306 (by decide) ?_
  refine x_iadd X0 dL_law_307 ?_
  refine z_sld X h5 dL_law_308 ?_
  refine z_callM X (As := [.int (xs (i + 1).toNatClampNeg), .int (xs (i + 2).toNatClampNeg), .int (xs (i + 3).toNatClampNeg), .int (xs (i + 4).toNatClampNeg), .int (xs (i + 5).toNatClampNeg)]) [.int r] dL_law_309 (kX11_appendInput hq) cm_X11_appendInput ci_X11_appendInput w_9_83 dsM_0 (by decide) rfl (Nat.le_of_ble_eq_true rfl) ?_
  rintro v ρ1 θ1 ⟨r', rfl, hr, hR1⟩
  show V (z_c σ1 ρ1) (z_cL τ1 θ1) _ _ [.int r', .int r]
  exact x_icmp_eq X0 2634 dL_law_312 rfl (fun _ => k9 V j σ1 τ1 ρ1 θ1 (by omega) X hR1) (fun h => absurd hr h)
/-- what the law asks of truncateInput -/
def z_p1 (R : x_S → x_L → x_S → x_L → Prop) : Prop := ∀ (σ : x_S) (τ : x_L) (ρ : x_S) (θ : x_L), R σ τ ρ θ → ∀ (a1 : Int32), wX10_truncateInput a1 σ τ (fun r σ1 τ1 => wX11_truncateInput a1 ρ θ (fun r' ρ1 θ1 => r = r' ∧ R σ1 τ1 ρ1 θ1))
set_option maxRecDepth 100000 in
set_option maxHeartbeats 4000000 in
theorem z_case1 {R : x_S → x_L → x_S → x_L → Prop} (hp : z_p1 R) {V : x_J} {ad : Nat → Nat} {b L : Nat} {xs : Nat → Int32} {j : Nat} {i : Int32} {σ ρ : x_S} {τ θ : x_L} (X : z_Is V ad b L xs j) (hj : j + 4 ≤ 600000) (h1 : vp_in (i + 1) L) (h2 : vp_in (i + 2) L) (h3 : vp_in (i + 3) L) (h4 : vp_in (i + 4) L) (h5 : vp_in (i + 5) L) (hR : R σ τ ρ θ)
    (k9 : ∀ (V' : x_J) (j' : Nat) (σ' : x_S) (τ' : x_L) (ρ' : x_S) (θ' : x_L), j' ≤ j + 4 → z_Is V' ad b L xs j' → R σ' τ' ρ' θ' → V' (z_c σ' ρ') (z_cL τ' θ') 2634 [(0, .ref b), (1, .ref (ad 0)), (2, .ref (ad 89)), (3, .ref (ad 87)), (4, .ref (ad 88)), (5, .int i)] []) : V (z_c σ ρ) (z_cL τ θ) 317 [(0, .ref b), (1, .ref (ad 0)), (2, .ref (ad 89)), (3, .ref (ad 87)), (4, .ref (ad 88)), (5, .int i)] [] := by
  have X0 := z_isX X
  refine x_aload_n X0 dL_law_317 rfl 1 rfl ?_
  refine x_aload_n X0 dL_law_318 rfl 0 rfl ?_
  refine x_iload X0 dL_law_319 5 rfl ?_
  refine x_iconst X0 (v := 1) dL_law_321 (by decide) ?_
  refine x_iadd X0 dL_law_322 ?_
  refine z_sld X h1 dL_law_323 ?_
  refine z_callX X (As := [.int (xs (i + 1).toNatClampNeg)]) [] dL_law_324 (kX10_truncateInput (hp σ τ ρ θ hR (xs (i + 1).toNatClampNeg))) cm_X10_truncateInput ci_X10_truncateInput w_2_185 dsX_0 (by decide) rfl (Nat.le_of_ble_eq_true rfl) ?_
  rintro v σ1 τ1 ⟨r, rfl, hq⟩
  show V (z_c σ1 ρ) (z_cL τ1 θ) _ _ [.int r]
  refine x_aload_n X0 dL_law_327 rfl 2 rfl ?_
  refine x_aload_n X0 dL_law_328 rfl 0 rfl ?_
  refine x_iload X0 dL_law_329 5 rfl ?_
  refine x_iconst X0 (v := 1) dL_law_331 (by decide) ?_
  refine x_iadd X0 dL_law_332 ?_
  refine z_sld X h1 dL_law_333 ?_
  refine z_callM X (As := [.int (xs (i + 1).toNatClampNeg)]) [.int r] dL_law_334 (kX11_truncateInput hq) cm_X11_truncateInput ci_X11_truncateInput w_9_91 dsM_0 (by decide) rfl (Nat.le_of_ble_eq_true rfl) ?_
  rintro v ρ1 θ1 ⟨r', rfl, hr, hR1⟩
  show V (z_c σ1 ρ1) (z_cL τ1 θ1) _ _ [.int r', .int r]
  exact x_icmp_eq X0 2634 dL_law_337 rfl (fun _ => k9 V j σ1 τ1 ρ1 θ1 (by omega) X hR1) (fun h => absurd hr h)
/-- what the law asks of load -/
def z_p2 (R : x_S → x_L → x_S → x_L → Prop) : Prop := ∀ (σ : x_S) (τ : x_L) (ρ : x_S) (θ : x_L), R σ τ ρ θ → wX10_load σ τ (fun r σ1 τ1 => wX11_load ρ θ (fun r' ρ1 θ1 => r = r' ∧ R σ1 τ1 ρ1 θ1))
set_option maxRecDepth 100000 in
set_option maxHeartbeats 4000000 in
theorem z_case2 {R : x_S → x_L → x_S → x_L → Prop} (hp : z_p2 R) {V : x_J} {ad : Nat → Nat} {b L : Nat} {xs : Nat → Int32} {j : Nat} {i : Int32} {σ ρ : x_S} {τ θ : x_L} (X : z_Is V ad b L xs j) (hj : j + 4 ≤ 600000) (h1 : vp_in (i + 1) L) (h2 : vp_in (i + 2) L) (h3 : vp_in (i + 3) L) (h4 : vp_in (i + 4) L) (h5 : vp_in (i + 5) L) (hR : R σ τ ρ θ)
    (k9 : ∀ (V' : x_J) (j' : Nat) (σ' : x_S) (τ' : x_L) (ρ' : x_S) (θ' : x_L), j' ≤ j + 4 → z_Is V' ad b L xs j' → R σ' τ' ρ' θ' → V' (z_c σ' ρ') (z_cL τ' θ') 2634 [(0, .ref b), (1, .ref (ad 0)), (2, .ref (ad 89)), (3, .ref (ad 87)), (4, .ref (ad 88)), (5, .int i)] []) : V (z_c σ ρ) (z_cL τ θ) 342 [(0, .ref b), (1, .ref (ad 0)), (2, .ref (ad 89)), (3, .ref (ad 87)), (4, .ref (ad 88)), (5, .int i)] [] := by
  have X0 := z_isX X
  refine x_aload_n X0 dL_law_342 rfl 1 rfl ?_
  refine z_callX X (As := []) [] dL_law_343 (kX10_load (hp σ τ ρ θ hR)) cm_X10_load ci_X10_load w_2_189 dsX_0 (by decide) rfl (Nat.le_of_ble_eq_true rfl) ?_
  rintro v σ1 τ1 ⟨r, rfl, hq⟩
  show V (z_c σ1 ρ) (z_cL τ1 θ) _ _ [.int r]
  refine x_aload_n X0 dL_law_346 rfl 2 rfl ?_
  refine z_callM X (As := []) [.int r] dL_law_347 (kX11_load hq) cm_X11_load ci_X11_load w_9_103 dsM_0 (by decide) rfl (Nat.le_of_ble_eq_true rfl) ?_
  rintro v ρ1 θ1 ⟨r', rfl, hr, hR1⟩
  show V (z_c σ1 ρ1) (z_cL τ1 θ1) _ _ [.int r', .int r]
  exact x_icmp_eq X0 2634 dL_law_350 rfl (fun _ => k9 V j σ1 τ1 ρ1 θ1 (by omega) X hR1) (fun h => absurd hr h)
/-- what the law asks of errorCode -/
def z_p3 (R : x_S → x_L → x_S → x_L → Prop) : Prop := ∀ (σ : x_S) (τ : x_L) (ρ : x_S) (θ : x_L), R σ τ ρ θ → wX10_errorCode σ τ (fun r σ1 τ1 => wX11_errorCode ρ θ (fun r' ρ1 θ1 => r = r' ∧ R σ1 τ1 ρ1 θ1))
set_option maxRecDepth 100000 in
set_option maxHeartbeats 4000000 in
theorem z_case3 {R : x_S → x_L → x_S → x_L → Prop} (hp : z_p3 R) {V : x_J} {ad : Nat → Nat} {b L : Nat} {xs : Nat → Int32} {j : Nat} {i : Int32} {σ ρ : x_S} {τ θ : x_L} (X : z_Is V ad b L xs j) (hj : j + 4 ≤ 600000) (h1 : vp_in (i + 1) L) (h2 : vp_in (i + 2) L) (h3 : vp_in (i + 3) L) (h4 : vp_in (i + 4) L) (h5 : vp_in (i + 5) L) (hR : R σ τ ρ θ)
    (k9 : ∀ (V' : x_J) (j' : Nat) (σ' : x_S) (τ' : x_L) (ρ' : x_S) (θ' : x_L), j' ≤ j + 4 → z_Is V' ad b L xs j' → R σ' τ' ρ' θ' → V' (z_c σ' ρ') (z_cL τ' θ') 2634 [(0, .ref b), (1, .ref (ad 0)), (2, .ref (ad 89)), (3, .ref (ad 87)), (4, .ref (ad 88)), (5, .int i)] []) : V (z_c σ ρ) (z_cL τ θ) 355 [(0, .ref b), (1, .ref (ad 0)), (2, .ref (ad 89)), (3, .ref (ad 87)), (4, .ref (ad 88)), (5, .int i)] [] := by
  have X0 := z_isX X
  refine x_aload_n X0 dL_law_355 rfl 1 rfl ?_
  refine z_callX X (As := []) [] dL_law_356 (kX10_errorCode (hp σ τ ρ θ hR)) cm_X10_errorCode ci_X10_errorCode w_3_158 dsX_0 (by decide) rfl (Nat.le_of_ble_eq_true rfl) ?_
  rintro v σ1 τ1 ⟨r, rfl, hq⟩
  show V (z_c σ1 ρ) (z_cL τ1 θ) _ _ [.int r]
  refine x_aload_n X0 dL_law_359 rfl 2 rfl ?_
  refine z_callM X (As := []) [.int r] dL_law_360 (kX11_errorCode hq) cm_X11_errorCode ci_X11_errorCode w_9_95 dsM_0 (by decide) rfl (Nat.le_of_ble_eq_true rfl) ?_
  rintro v ρ1 θ1 ⟨r', rfl, hr, hR1⟩
  show V (z_c σ1 ρ1) (z_cL τ1 θ1) _ _ [.int r', .int r]
  exact x_icmp_eq X0 2634 dL_law_363 rfl (fun _ => k9 V j σ1 τ1 ρ1 θ1 (by omega) X hR1) (fun h => absurd hr h)
/-- what the law asks of errorPosition -/
def z_p4 (R : x_S → x_L → x_S → x_L → Prop) : Prop := ∀ (σ : x_S) (τ : x_L) (ρ : x_S) (θ : x_L), R σ τ ρ θ → wX10_errorPosition σ τ (fun r σ1 τ1 => wX11_errorPosition ρ θ (fun r' ρ1 θ1 => r = r' ∧ R σ1 τ1 ρ1 θ1))
set_option maxRecDepth 100000 in
set_option maxHeartbeats 4000000 in
theorem z_case4 {R : x_S → x_L → x_S → x_L → Prop} (hp : z_p4 R) {V : x_J} {ad : Nat → Nat} {b L : Nat} {xs : Nat → Int32} {j : Nat} {i : Int32} {σ ρ : x_S} {τ θ : x_L} (X : z_Is V ad b L xs j) (hj : j + 4 ≤ 600000) (h1 : vp_in (i + 1) L) (h2 : vp_in (i + 2) L) (h3 : vp_in (i + 3) L) (h4 : vp_in (i + 4) L) (h5 : vp_in (i + 5) L) (hR : R σ τ ρ θ)
    (k9 : ∀ (V' : x_J) (j' : Nat) (σ' : x_S) (τ' : x_L) (ρ' : x_S) (θ' : x_L), j' ≤ j + 4 → z_Is V' ad b L xs j' → R σ' τ' ρ' θ' → V' (z_c σ' ρ') (z_cL τ' θ') 2634 [(0, .ref b), (1, .ref (ad 0)), (2, .ref (ad 89)), (3, .ref (ad 87)), (4, .ref (ad 88)), (5, .int i)] []) : V (z_c σ ρ) (z_cL τ θ) 368 [(0, .ref b), (1, .ref (ad 0)), (2, .ref (ad 89)), (3, .ref (ad 87)), (4, .ref (ad 88)), (5, .int i)] [] := by
  have X0 := z_isX X
  refine x_aload_n X0 dL_law_368 rfl 1 rfl ?_
  refine z_callX X (As := []) [] dL_law_369 (kX10_errorPosition (hp σ τ ρ θ hR)) cm_X10_errorPosition ci_X10_errorPosition w_3_162 dsX_0 (by decide) rfl (Nat.le_of_ble_eq_true rfl) ?_
  rintro v σ1 τ1 ⟨r, rfl, hq⟩
  show V (z_c σ1 ρ) (z_cL τ1 θ) _ _ [.int r]
  refine x_aload_n X0 dL_law_372 rfl 2 rfl ?_
  refine z_callM X (As := []) [.int r] dL_law_373 (kX11_errorPosition hq) cm_X11_errorPosition ci_X11_errorPosition w_9_99 dsM_0 (by decide) rfl (Nat.le_of_ble_eq_true rfl) ?_
  rintro v ρ1 θ1 ⟨r', rfl, hr, hR1⟩
  show V (z_c σ1 ρ1) (z_cL τ1 θ1) _ _ [.int r', .int r]
  exact x_icmp_eq X0 2634 dL_law_376 rfl (fun _ => k9 V j σ1 τ1 ρ1 θ1 (by omega) X hR1) (fun h => absurd hr h)
/-- what the law asks of count -/
def z_p5 (R : x_S → x_L → x_S → x_L → Prop) : Prop := ∀ (σ : x_S) (τ : x_L) (ρ : x_S) (θ : x_L), R σ τ ρ θ → ∀ (a1 : Int32), wX10_count a1 σ τ (fun r σ1 τ1 => wX11_count a1 ρ θ (fun r' ρ1 θ1 => r = r' ∧ R σ1 τ1 ρ1 θ1))
set_option maxRecDepth 100000 in
set_option maxHeartbeats 4000000 in
theorem z_case5 {R : x_S → x_L → x_S → x_L → Prop} (hp : z_p5 R) {V : x_J} {ad : Nat → Nat} {b L : Nat} {xs : Nat → Int32} {j : Nat} {i : Int32} {σ ρ : x_S} {τ θ : x_L} (X : z_Is V ad b L xs j) (hj : j + 4 ≤ 600000) (h1 : vp_in (i + 1) L) (h2 : vp_in (i + 2) L) (h3 : vp_in (i + 3) L) (h4 : vp_in (i + 4) L) (h5 : vp_in (i + 5) L) (hR : R σ τ ρ θ)
    (k9 : ∀ (V' : x_J) (j' : Nat) (σ' : x_S) (τ' : x_L) (ρ' : x_S) (θ' : x_L), j' ≤ j + 4 → z_Is V' ad b L xs j' → R σ' τ' ρ' θ' → V' (z_c σ' ρ') (z_cL τ' θ') 2634 [(0, .ref b), (1, .ref (ad 0)), (2, .ref (ad 89)), (3, .ref (ad 87)), (4, .ref (ad 88)), (5, .int i)] []) : V (z_c σ ρ) (z_cL τ θ) 381 [(0, .ref b), (1, .ref (ad 0)), (2, .ref (ad 89)), (3, .ref (ad 87)), (4, .ref (ad 88)), (5, .int i)] [] := by
  have X0 := z_isX X
  refine x_aload_n X0 dL_law_381 rfl 1 rfl ?_
  refine x_aload_n X0 dL_law_382 rfl 0 rfl ?_
  refine x_iload X0 dL_law_383 5 rfl ?_
  refine x_iconst X0 (v := 1) dL_law_385 (by decide) ?_
  refine x_iadd X0 dL_law_386 ?_
  refine z_sld X h1 dL_law_387 ?_
  refine z_callX X (As := [.int (xs (i + 1).toNatClampNeg)]) [] dL_law_388 (kX10_count (hp σ τ ρ θ hR (xs (i + 1).toNatClampNeg))) cm_X10_count ci_X10_count w_3_166 dsX_0 (by decide) rfl (Nat.le_of_ble_eq_true rfl) ?_
  rintro v σ1 τ1 ⟨r, rfl, hq⟩
  show V (z_c σ1 ρ) (z_cL τ1 θ) _ _ [.int r]
  refine x_aload_n X0 dL_law_391 rfl 2 rfl ?_
  refine x_aload_n X0 dL_law_392 rfl 0 rfl ?_
  refine x_iload X0 dL_law_393 5 rfl ?_
  refine x_iconst X0 (v := 1) dL_law_395 (by decide) ?_
  refine x_iadd X0 dL_law_396 ?_
  refine z_sld X h1 dL_law_397 ?_
  refine z_callM X (As := [.int (xs (i + 1).toNatClampNeg)]) [.int r] dL_law_398 (kX11_count hq) cm_X11_count ci_X11_count w_7_97 dsM_0 (by decide) rfl (Nat.le_of_ble_eq_true rfl) ?_
  rintro v ρ1 θ1 ⟨r', rfl, hr, hR1⟩
  show V (z_c σ1 ρ1) (z_cL τ1 θ1) _ _ [.int r', .int r]
  exact x_icmp_eq X0 2634 dL_law_401 rfl (fun _ => k9 V j σ1 τ1 ρ1 θ1 (by omega) X hR1) (fun h => absurd hr h)
/-- what the law asks of road -/
def z_p6 (R : x_S → x_L → x_S → x_L → Prop) : Prop := ∀ (σ : x_S) (τ : x_L) (ρ : x_S) (θ : x_L), R σ τ ρ θ → ∀ (a1 : Int32) (a2 : Int32), wL_road a1 a2 σ τ (fun k σ1 τ1 => wX11_road a1 a2 ρ θ (fun b ρ1 θ1 => wX11_thrown ρ1 θ1 (fun th ρ2 θ2 => th = k ∧ (k = 0 → τ1 87 0 = b.toInt64) ∧ R σ1 τ1 ρ2 θ2)))
set_option maxRecDepth 100000 in
set_option maxHeartbeats 4000000 in
theorem z_case6 {R : x_S → x_L → x_S → x_L → Prop} (hp : z_p6 R) {V : x_J} {ad : Nat → Nat} {b L : Nat} {xs : Nat → Int32} {j : Nat} {i : Int32} {σ ρ : x_S} {τ θ : x_L} (X : z_Is V ad b L xs j) (hj : j + 4 ≤ 600000) (h1 : vp_in (i + 1) L) (h2 : vp_in (i + 2) L) (h3 : vp_in (i + 3) L) (h4 : vp_in (i + 4) L) (h5 : vp_in (i + 5) L) (hR : R σ τ ρ θ)
    (k9 : ∀ (V' : x_J) (j' : Nat) (σ' : x_S) (τ' : x_L) (ρ' : x_S) (θ' : x_L), j' ≤ j + 4 → z_Is V' ad b L xs j' → R σ' τ' ρ' θ' → V' (z_c σ' ρ') (z_cL τ' θ') 2634 [(0, .ref b), (1, .ref (ad 0)), (2, .ref (ad 89)), (3, .ref (ad 87)), (4, .ref (ad 88)), (5, .int i)] []) : V (z_c σ ρ) (z_cL τ θ) 406 [(0, .ref b), (1, .ref (ad 0)), (2, .ref (ad 89)), (3, .ref (ad 87)), (4, .ref (ad 88)), (5, .int i)] [] := by
  have X0 := z_isX X
  refine x_aload_n X0 dL_law_406 rfl 1 rfl ?_
  refine x_aload_n X0 dL_law_407 rfl 0 rfl ?_
  refine x_iload X0 dL_law_408 5 rfl ?_
  refine x_iconst X0 (v := 1) dL_law_410 (by decide) ?_
  refine x_iadd X0 dL_law_411 ?_
  refine z_sld X h1 dL_law_412 ?_
  refine x_aload_n X0 dL_law_413 rfl 0 rfl ?_
  refine x_iload X0 dL_law_414 5 rfl ?_
  refine x_iconst X0 (v := 2) dL_law_416 (by decide) ?_
  refine x_iadd X0 dL_law_417 ?_
  refine z_sld X h2 dL_law_418 ?_
  refine x_aload_n X0 dL_law_419 rfl 3 rfl ?_
  refine z_callW X (K := 4) (As := [.ref (ad 0), .int (xs (i + 1).toNatClampNeg), .int (xs (i + 2).toNatClampNeg), .ref (ad 87)]) [] dL_law_420 (kL_road (hp σ τ ρ θ hR (xs (i + 1).toNatClampNeg) (xs (i + 2).toNatClampNeg))) lc_road ls_road w_4_177 (by decide) hj rfl (Nat.le_of_ble_eq_true rfl) ?_
  rintro V1 v σ1 τ1 X1 ⟨k, rfl, hq⟩
  have X2 := z_isX X1
  show V1 (z_c σ1 ρ) (z_cL τ1 θ) _ _ [.int k]
  refine x_istore X2 dL_law_423 (by decide) rfl ?_
  refine x_aload_n X2 dL_law_425 rfl 3 rfl ?_
  refine x_aload_n X2 dL_law_426 rfl 1 rfl ?_
  refine x_iload X2 dL_law_427 6 rfl ?_
  refine x_iconst X2 (v := 1) dL_law_429 (by decide) ?_
  refine x_iadd X2 dL_law_430 ?_
  refine z_sld X1 h1 dL_law_431 ?_
  refine x_aload_n X2 dL_law_432 rfl 1 rfl ?_
  refine x_iload X2 dL_law_433 6 rfl ?_
  refine x_iconst X2 (v := 2) dL_law_435 (by decide) ?_
  refine x_iadd X2 dL_law_436 ?_
  refine z_sld X1 h2 dL_law_437 ?_
  refine z_callM X1 (As := [.int (xs (i + 1).toNatClampNeg), .int (xs (i + 2).toNatClampNeg)]) [] dL_law_438 (kX11_road hq) cm_X11_road ci_X11_road w_8_2 dsM_0 (by decide) rfl (Nat.le_of_ble_eq_true rfl) ?_
  rintro v ρ1 θ1 ⟨bb, rfl, hq⟩
  show V1 (z_c σ1 ρ1) (z_cL τ1 θ1) _ _ [.int bb]
  refine x_istore X2 dL_law_441 (by decide) rfl ?_
  refine x_aload_n X2 dL_law_443 rfl 4 rfl ?_
  refine z_callM X1 (As := []) [] dL_law_444 (kX11_thrown hq) cm_X11_thrown ci_X11_thrown w_7_74 dsM_0 (by decide) rfl (Nat.le_of_ble_eq_true rfl) ?_
  rintro v ρ2 θ2 ⟨th, rfl, ht, hout, hR1⟩
  show V1 (z_c σ1 ρ2) (z_cL τ1 θ2) _ _ [.int th]
  refine x_iload X2 dL_law_447 1 rfl ?_
  refine x_icmp_eq X2 454 dL_law_449 rfl (fun _ => ?_) (fun h => absurd ht h)
  refine x_iload X2 dL_law_454 1 rfl ?_
  have fin : V1 (z_c σ1 ρ2) (z_cL τ1 θ2) 471 [(7, .int bb), (6, .int k), (0, .ref b), (1, .ref (ad 0)), (2, .ref (ad 89)), (3, .ref (ad 87)), (4, .ref (ad 88)), (5, .int i)] [] := by
    refine x_goto X2 dL_law_471 (tgt := 2634) rfl ?_
    exact x_sub X2 [2, 3, 4, 5, 6, 7] rfl (k9 V1 _ σ1 τ1 ρ2 θ2 (by omega) X1 hR1)
  refine x_if_ne X2 471 dL_law_456 rfl (fun _ => fin) (fun hk => ?_)
  refine x_aload_n X2 dL_law_459 rfl 5 rfl ?_
  refine x_iconst X2 (v := 0) dL_law_460 (by decide) ?_
  refine x_lald X2 (k := 87) (n := 1) dL_law_461 rfl z_in0 ?_
  refine x_iload X2 dL_law_462 0 rfl ?_
  refine x_i2l X2 dL_law_464 ?_
  refine x_lcmp X2 dL_law_465 ?_
  have e : (z_cL τ1 θ2) 87 (0 : Int32).toNatClampNeg = τ1 87 0 := rfl
  rw [e, hout hk, z_cmp0]
  exact x_if_eq X2 471 dL_law_466 rfl (fun _ => fin) (fun h => absurd rfl h)
/-- what the law asks of truck -/
def z_p7 (R : x_S → x_L → x_S → x_L → Prop) : Prop := ∀ (σ : x_S) (τ : x_L) (ρ : x_S) (θ : x_L), R σ τ ρ θ → ∀ (a1 : Int32) (a2 : Int32), wL_truck a1 a2 σ τ (fun k σ1 τ1 => wX11_truck a1 a2 ρ θ (fun b ρ1 θ1 => wX11_thrown ρ1 θ1 (fun th ρ2 θ2 => th = k ∧ (k = 0 → τ1 87 0 = b.toInt64) ∧ R σ1 τ1 ρ2 θ2)))
set_option maxRecDepth 100000 in
set_option maxHeartbeats 4000000 in
theorem z_case7 {R : x_S → x_L → x_S → x_L → Prop} (hp : z_p7 R) {V : x_J} {ad : Nat → Nat} {b L : Nat} {xs : Nat → Int32} {j : Nat} {i : Int32} {σ ρ : x_S} {τ θ : x_L} (X : z_Is V ad b L xs j) (hj : j + 4 ≤ 600000) (h1 : vp_in (i + 1) L) (h2 : vp_in (i + 2) L) (h3 : vp_in (i + 3) L) (h4 : vp_in (i + 4) L) (h5 : vp_in (i + 5) L) (hR : R σ τ ρ θ)
    (k9 : ∀ (V' : x_J) (j' : Nat) (σ' : x_S) (τ' : x_L) (ρ' : x_S) (θ' : x_L), j' ≤ j + 4 → z_Is V' ad b L xs j' → R σ' τ' ρ' θ' → V' (z_c σ' ρ') (z_cL τ' θ') 2634 [(0, .ref b), (1, .ref (ad 0)), (2, .ref (ad 89)), (3, .ref (ad 87)), (4, .ref (ad 88)), (5, .int i)] []) : V (z_c σ ρ) (z_cL τ θ) 474 [(0, .ref b), (1, .ref (ad 0)), (2, .ref (ad 89)), (3, .ref (ad 87)), (4, .ref (ad 88)), (5, .int i)] [] := by
  have X0 := z_isX X
  refine x_aload_n X0 dL_law_474 rfl 1 rfl ?_
  refine x_aload_n X0 dL_law_475 rfl 0 rfl ?_
  refine x_iload X0 dL_law_476 5 rfl ?_
  refine x_iconst X0 (v := 1) dL_law_478 (by decide) ?_
  refine x_iadd X0 dL_law_479 ?_
  refine z_sld X h1 dL_law_480 ?_
  refine x_aload_n X0 dL_law_481 rfl 0 rfl ?_
  refine x_iload X0 dL_law_482 5 rfl ?_
  refine x_iconst X0 (v := 2) dL_law_484 (by decide) ?_
  refine x_iadd X0 dL_law_485 ?_
  refine z_sld X h2 dL_law_486 ?_
  refine x_aload_n X0 dL_law_487 rfl 3 rfl ?_
  refine z_callW X (K := 4) (As := [.ref (ad 0), .int (xs (i + 1).toNatClampNeg), .int (xs (i + 2).toNatClampNeg), .ref (ad 87)]) [] dL_law_488 (kL_truck (hp σ τ ρ θ hR (xs (i + 1).toNatClampNeg) (xs (i + 2).toNatClampNeg))) lc_truck ls_truck w_5_50 (by decide) hj rfl (Nat.le_of_ble_eq_true rfl) ?_
  rintro V1 v σ1 τ1 X1 ⟨k, rfl, hq⟩
  have X2 := z_isX X1
  show V1 (z_c σ1 ρ) (z_cL τ1 θ) _ _ [.int k]
  refine x_istore X2 dL_law_491 (by decide) rfl ?_
  refine x_aload_n X2 dL_law_493 rfl 3 rfl ?_
  refine x_aload_n X2 dL_law_494 rfl 1 rfl ?_
  refine x_iload X2 dL_law_495 6 rfl ?_
  refine x_iconst X2 (v := 1) dL_law_497 (by decide) ?_
  refine x_iadd X2 dL_law_498 ?_
  refine z_sld X1 h1 dL_law_499 ?_
  refine x_aload_n X2 dL_law_500 rfl 1 rfl ?_
  refine x_iload X2 dL_law_501 6 rfl ?_
  refine x_iconst X2 (v := 2) dL_law_503 (by decide) ?_
  refine x_iadd X2 dL_law_504 ?_
  refine z_sld X1 h2 dL_law_505 ?_
  refine z_callM X1 (As := [.int (xs (i + 1).toNatClampNeg), .int (xs (i + 2).toNatClampNeg)]) [] dL_law_506 (kX11_truck hq) cm_X11_truck ci_X11_truck w_8_22 dsM_0 (by decide) rfl (Nat.le_of_ble_eq_true rfl) ?_
  rintro v ρ1 θ1 ⟨bb, rfl, hq⟩
  show V1 (z_c σ1 ρ1) (z_cL τ1 θ1) _ _ [.int bb]
  refine x_istore X2 dL_law_509 (by decide) rfl ?_
  refine x_aload_n X2 dL_law_511 rfl 4 rfl ?_
  refine z_callM X1 (As := []) [] dL_law_512 (kX11_thrown hq) cm_X11_thrown ci_X11_thrown w_7_74 dsM_0 (by decide) rfl (Nat.le_of_ble_eq_true rfl) ?_
  rintro v ρ2 θ2 ⟨th, rfl, ht, hout, hR1⟩
  show V1 (z_c σ1 ρ2) (z_cL τ1 θ2) _ _ [.int th]
  refine x_iload X2 dL_law_515 1 rfl ?_
  refine x_icmp_eq X2 522 dL_law_517 rfl (fun _ => ?_) (fun h => absurd ht h)
  refine x_iload X2 dL_law_522 1 rfl ?_
  have fin : V1 (z_c σ1 ρ2) (z_cL τ1 θ2) 539 [(7, .int bb), (6, .int k), (0, .ref b), (1, .ref (ad 0)), (2, .ref (ad 89)), (3, .ref (ad 87)), (4, .ref (ad 88)), (5, .int i)] [] := by
    refine x_goto X2 dL_law_539 (tgt := 2634) rfl ?_
    exact x_sub X2 [2, 3, 4, 5, 6, 7] rfl (k9 V1 _ σ1 τ1 ρ2 θ2 (by omega) X1 hR1)
  refine x_if_ne X2 539 dL_law_524 rfl (fun _ => fin) (fun hk => ?_)
  refine x_aload_n X2 dL_law_527 rfl 5 rfl ?_
  refine x_iconst X2 (v := 0) dL_law_528 (by decide) ?_
  refine x_lald X2 (k := 87) (n := 1) dL_law_529 rfl z_in0 ?_
  refine x_iload X2 dL_law_530 0 rfl ?_
  refine x_i2l X2 dL_law_532 ?_
  refine x_lcmp X2 dL_law_533 ?_
  have e : (z_cL τ1 θ2) 87 (0 : Int32).toNatClampNeg = τ1 87 0 := rfl
  rw [e, hout hk, z_cmp0]
  exact x_if_eq X2 539 dL_law_534 rfl (fun _ => fin) (fun h => absurd rfl h)
/-- what the law asks of place -/
def z_p8 (R : x_S → x_L → x_S → x_L → Prop) : Prop := ∀ (σ : x_S) (τ : x_L) (ρ : x_S) (θ : x_L), R σ τ ρ θ → ∀ (a1 : Int32) (a2 : Int32) (a3 : Int32), wL_place a1 a2 a3 σ τ (fun k σ1 τ1 => wX11_place a1 a2 a3 ρ θ (fun b ρ1 θ1 => wX11_thrown ρ1 θ1 (fun th ρ2 θ2 => th = k ∧ (k = 0 → τ1 87 0 = b.toInt64) ∧ R σ1 τ1 ρ2 θ2)))
set_option maxRecDepth 100000 in
set_option maxHeartbeats 4000000 in
theorem z_case8 {R : x_S → x_L → x_S → x_L → Prop} (hp : z_p8 R) {V : x_J} {ad : Nat → Nat} {b L : Nat} {xs : Nat → Int32} {j : Nat} {i : Int32} {σ ρ : x_S} {τ θ : x_L} (X : z_Is V ad b L xs j) (hj : j + 4 ≤ 600000) (h1 : vp_in (i + 1) L) (h2 : vp_in (i + 2) L) (h3 : vp_in (i + 3) L) (h4 : vp_in (i + 4) L) (h5 : vp_in (i + 5) L) (hR : R σ τ ρ θ)
    (k9 : ∀ (V' : x_J) (j' : Nat) (σ' : x_S) (τ' : x_L) (ρ' : x_S) (θ' : x_L), j' ≤ j + 4 → z_Is V' ad b L xs j' → R σ' τ' ρ' θ' → V' (z_c σ' ρ') (z_cL τ' θ') 2634 [(0, .ref b), (1, .ref (ad 0)), (2, .ref (ad 89)), (3, .ref (ad 87)), (4, .ref (ad 88)), (5, .int i)] []) : V (z_c σ ρ) (z_cL τ θ) 542 [(0, .ref b), (1, .ref (ad 0)), (2, .ref (ad 89)), (3, .ref (ad 87)), (4, .ref (ad 88)), (5, .int i)] [] := by
  have X0 := z_isX X
  refine x_aload_n X0 dL_law_542 rfl 1 rfl ?_
  refine x_aload_n X0 dL_law_543 rfl 0 rfl ?_
  refine x_iload X0 dL_law_544 5 rfl ?_
  refine x_iconst X0 (v := 1) dL_law_546 (by decide) ?_
  refine x_iadd X0 dL_law_547 ?_
  refine z_sld X h1 dL_law_548 ?_
  refine x_aload_n X0 dL_law_549 rfl 0 rfl ?_
  refine x_iload X0 dL_law_550 5 rfl ?_
  refine x_iconst X0 (v := 2) dL_law_552 (by decide) ?_
  refine x_iadd X0 dL_law_553 ?_
  refine z_sld X h2 dL_law_554 ?_
  refine x_aload_n X0 dL_law_555 rfl 0 rfl ?_
  refine x_iload X0 dL_law_556 5 rfl ?_
  refine x_iconst X0 (v := 3) dL_law_558 (by decide) ?_
  refine x_iadd X0 dL_law_559 ?_
  refine z_sld X h3 dL_law_560 ?_
  refine x_aload_n X0 dL_law_561 rfl 3 rfl ?_
  refine z_callW X (K := 4) (As := [.ref (ad 0), .int (xs (i + 1).toNatClampNeg), .int (xs (i + 2).toNatClampNeg), .int (xs (i + 3).toNatClampNeg), .ref (ad 87)]) [] dL_law_562 (kL_place (hp σ τ ρ θ hR (xs (i + 1).toNatClampNeg) (xs (i + 2).toNatClampNeg) (xs (i + 3).toNatClampNeg))) lc_place ls_place w_5_81 (by decide) hj rfl (Nat.le_of_ble_eq_true rfl) ?_
  rintro V1 v σ1 τ1 X1 ⟨k, rfl, hq⟩
  have X2 := z_isX X1
  show V1 (z_c σ1 ρ) (z_cL τ1 θ) _ _ [.int k]
  refine x_istore X2 dL_law_565 (by decide) rfl ?_
  refine x_aload_n X2 dL_law_567 rfl 3 rfl ?_
  refine x_aload_n X2 dL_law_568 rfl 1 rfl ?_
  refine x_iload X2 dL_law_569 6 rfl ?_
  refine x_iconst X2 (v := 1) dL_law_571 (by decide) ?_
  refine x_iadd X2 dL_law_572 ?_
  refine z_sld X1 h1 dL_law_573 ?_
  refine x_aload_n X2 dL_law_574 rfl 1 rfl ?_
  refine x_iload X2 dL_law_575 6 rfl ?_
  refine x_iconst X2 (v := 2) dL_law_577 (by decide) ?_
  refine x_iadd X2 dL_law_578 ?_
  refine z_sld X1 h2 dL_law_579 ?_
  refine x_aload_n X2 dL_law_580 rfl 1 rfl ?_
  refine x_iload X2 dL_law_581 6 rfl ?_
  refine x_iconst X2 (v := 3) dL_law_583 (by decide) ?_
  refine x_iadd X2 dL_law_584 ?_
  refine z_sld X1 h3 dL_law_585 ?_
  refine z_callM X1 (As := [.int (xs (i + 1).toNatClampNeg), .int (xs (i + 2).toNatClampNeg), .int (xs (i + 3).toNatClampNeg)]) [] dL_law_586 (kX11_place hq) cm_X11_place ci_X11_place w_8_30 dsM_0 (by decide) rfl (Nat.le_of_ble_eq_true rfl) ?_
  rintro v ρ1 θ1 ⟨bb, rfl, hq⟩
  show V1 (z_c σ1 ρ1) (z_cL τ1 θ1) _ _ [.int bb]
  refine x_istore X2 dL_law_589 (by decide) rfl ?_
  refine x_aload_n X2 dL_law_591 rfl 4 rfl ?_
  refine z_callM X1 (As := []) [] dL_law_592 (kX11_thrown hq) cm_X11_thrown ci_X11_thrown w_7_74 dsM_0 (by decide) rfl (Nat.le_of_ble_eq_true rfl) ?_
  rintro v ρ2 θ2 ⟨th, rfl, ht, hout, hR1⟩
  show V1 (z_c σ1 ρ2) (z_cL τ1 θ2) _ _ [.int th]
  refine x_iload X2 dL_law_595 1 rfl ?_
  refine x_icmp_eq X2 602 dL_law_597 rfl (fun _ => ?_) (fun h => absurd ht h)
  refine x_iload X2 dL_law_602 1 rfl ?_
  have fin : V1 (z_c σ1 ρ2) (z_cL τ1 θ2) 619 [(7, .int bb), (6, .int k), (0, .ref b), (1, .ref (ad 0)), (2, .ref (ad 89)), (3, .ref (ad 87)), (4, .ref (ad 88)), (5, .int i)] [] := by
    refine x_goto X2 dL_law_619 (tgt := 2634) rfl ?_
    exact x_sub X2 [2, 3, 4, 5, 6, 7] rfl (k9 V1 _ σ1 τ1 ρ2 θ2 (by omega) X1 hR1)
  refine x_if_ne X2 619 dL_law_604 rfl (fun _ => fin) (fun hk => ?_)
  refine x_aload_n X2 dL_law_607 rfl 5 rfl ?_
  refine x_iconst X2 (v := 0) dL_law_608 (by decide) ?_
  refine x_lald X2 (k := 87) (n := 1) dL_law_609 rfl z_in0 ?_
  refine x_iload X2 dL_law_610 0 rfl ?_
  refine x_i2l X2 dL_law_612 ?_
  refine x_lcmp X2 dL_law_613 ?_
  have e : (z_cL τ1 θ2) 87 (0 : Int32).toNatClampNeg = τ1 87 0 := rfl
  rw [e, hout hk, z_cmp0]
  exact x_if_eq X2 619 dL_law_614 rfl (fun _ => fin) (fun h => absurd rfl h)
/-- what the law asks of platoonOf -/
def z_p9 (R : x_S → x_L → x_S → x_L → Prop) : Prop := ∀ (σ : x_S) (τ : x_L) (ρ : x_S) (θ : x_L), R σ τ ρ θ → ∀ (a1 : Int32) (a2 : Int32), wL_platoonOf a1 a2 σ τ (fun k σ1 τ1 => wX11_platoonOf a1 a2 ρ θ (fun b ρ1 θ1 => wX11_thrown ρ1 θ1 (fun th ρ2 θ2 => th = k ∧ (k = 0 → τ1 87 0 = b.toInt64) ∧ R σ1 τ1 ρ2 θ2)))
set_option maxRecDepth 100000 in
set_option maxHeartbeats 4000000 in
theorem z_case9 {R : x_S → x_L → x_S → x_L → Prop} (hp : z_p9 R) {V : x_J} {ad : Nat → Nat} {b L : Nat} {xs : Nat → Int32} {j : Nat} {i : Int32} {σ ρ : x_S} {τ θ : x_L} (X : z_Is V ad b L xs j) (hj : j + 4 ≤ 600000) (h1 : vp_in (i + 1) L) (h2 : vp_in (i + 2) L) (h3 : vp_in (i + 3) L) (h4 : vp_in (i + 4) L) (h5 : vp_in (i + 5) L) (hR : R σ τ ρ θ)
    (k9 : ∀ (V' : x_J) (j' : Nat) (σ' : x_S) (τ' : x_L) (ρ' : x_S) (θ' : x_L), j' ≤ j + 4 → z_Is V' ad b L xs j' → R σ' τ' ρ' θ' → V' (z_c σ' ρ') (z_cL τ' θ') 2634 [(0, .ref b), (1, .ref (ad 0)), (2, .ref (ad 89)), (3, .ref (ad 87)), (4, .ref (ad 88)), (5, .int i)] []) : V (z_c σ ρ) (z_cL τ θ) 622 [(0, .ref b), (1, .ref (ad 0)), (2, .ref (ad 89)), (3, .ref (ad 87)), (4, .ref (ad 88)), (5, .int i)] [] := by
  have X0 := z_isX X
  refine x_aload_n X0 dL_law_622 rfl 1 rfl ?_
  refine x_aload_n X0 dL_law_623 rfl 0 rfl ?_
  refine x_iload X0 dL_law_624 5 rfl ?_
  refine x_iconst X0 (v := 1) dL_law_626 (by decide) ?_
  refine x_iadd X0 dL_law_627 ?_
  refine z_sld X h1 dL_law_628 ?_
  refine x_aload_n X0 dL_law_629 rfl 0 rfl ?_
  refine x_iload X0 dL_law_630 5 rfl ?_
  refine x_iconst X0 (v := 2) dL_law_632 (by decide) ?_
  refine x_iadd X0 dL_law_633 ?_
  refine z_sld X h2 dL_law_634 ?_
  refine x_aload_n X0 dL_law_635 rfl 3 rfl ?_
  refine z_callW X (K := 4) (As := [.ref (ad 0), .int (xs (i + 1).toNatClampNeg), .int (xs (i + 2).toNatClampNeg), .ref (ad 87)]) [] dL_law_636 (kL_platoonOf (hp σ τ ρ θ hR (xs (i + 1).toNatClampNeg) (xs (i + 2).toNatClampNeg))) lc_platoonOf ls_platoonOf w_5_95 (by decide) hj rfl (Nat.le_of_ble_eq_true rfl) ?_
  rintro V1 v σ1 τ1 X1 ⟨k, rfl, hq⟩
  have X2 := z_isX X1
  show V1 (z_c σ1 ρ) (z_cL τ1 θ) _ _ [.int k]
  refine x_istore X2 dL_law_639 (by decide) rfl ?_
  refine x_aload_n X2 dL_law_641 rfl 3 rfl ?_
  refine x_aload_n X2 dL_law_642 rfl 1 rfl ?_
  refine x_iload X2 dL_law_643 6 rfl ?_
  refine x_iconst X2 (v := 1) dL_law_645 (by decide) ?_
  refine x_iadd X2 dL_law_646 ?_
  refine z_sld X1 h1 dL_law_647 ?_
  refine x_aload_n X2 dL_law_648 rfl 1 rfl ?_
  refine x_iload X2 dL_law_649 6 rfl ?_
  refine x_iconst X2 (v := 2) dL_law_651 (by decide) ?_
  refine x_iadd X2 dL_law_652 ?_
  refine z_sld X1 h2 dL_law_653 ?_
  refine z_callM X1 (As := [.int (xs (i + 1).toNatClampNeg), .int (xs (i + 2).toNatClampNeg)]) [] dL_law_654 (kX11_platoonOf hq) cm_X11_platoonOf ci_X11_platoonOf w_8_46 dsM_0 (by decide) rfl (Nat.le_of_ble_eq_true rfl) ?_
  rintro v ρ1 θ1 ⟨bb, rfl, hq⟩
  show V1 (z_c σ1 ρ1) (z_cL τ1 θ1) _ _ [.int bb]
  refine x_istore X2 dL_law_657 (by decide) rfl ?_
  refine x_aload_n X2 dL_law_659 rfl 4 rfl ?_
  refine z_callM X1 (As := []) [] dL_law_660 (kX11_thrown hq) cm_X11_thrown ci_X11_thrown w_7_74 dsM_0 (by decide) rfl (Nat.le_of_ble_eq_true rfl) ?_
  rintro v ρ2 θ2 ⟨th, rfl, ht, hout, hR1⟩
  show V1 (z_c σ1 ρ2) (z_cL τ1 θ2) _ _ [.int th]
  refine x_iload X2 dL_law_663 1 rfl ?_
  refine x_icmp_eq X2 670 dL_law_665 rfl (fun _ => ?_) (fun h => absurd ht h)
  refine x_iload X2 dL_law_670 1 rfl ?_
  have fin : V1 (z_c σ1 ρ2) (z_cL τ1 θ2) 687 [(7, .int bb), (6, .int k), (0, .ref b), (1, .ref (ad 0)), (2, .ref (ad 89)), (3, .ref (ad 87)), (4, .ref (ad 88)), (5, .int i)] [] := by
    refine x_goto X2 dL_law_687 (tgt := 2634) rfl ?_
    exact x_sub X2 [2, 3, 4, 5, 6, 7] rfl (k9 V1 _ σ1 τ1 ρ2 θ2 (by omega) X1 hR1)
  refine x_if_ne X2 687 dL_law_672 rfl (fun _ => fin) (fun hk => ?_)
  refine x_aload_n X2 dL_law_675 rfl 5 rfl ?_
  refine x_iconst X2 (v := 0) dL_law_676 (by decide) ?_
  refine x_lald X2 (k := 87) (n := 1) dL_law_677 rfl z_in0 ?_
  refine x_iload X2 dL_law_678 0 rfl ?_
  refine x_i2l X2 dL_law_680 ?_
  refine x_lcmp X2 dL_law_681 ?_
  have e : (z_cL τ1 θ2) 87 (0 : Int32).toNatClampNeg = τ1 87 0 := rfl
  rw [e, hout hk, z_cmp0]
  exact x_if_eq X2 687 dL_law_682 rfl (fun _ => fin) (fun h => absurd rfl h)
/-- what the law asks of position -/
def z_p10 (R : x_S → x_L → x_S → x_L → Prop) : Prop := ∀ (σ : x_S) (τ : x_L) (ρ : x_S) (θ : x_L), R σ τ ρ θ → ∀ (a1 : Int32) (a2 : Int32), wL_position a1 a2 σ τ (fun k σ1 τ1 => wX11_position a1 a2 ρ θ (fun b ρ1 θ1 => wX11_thrown ρ1 θ1 (fun th ρ2 θ2 => th = k ∧ (k = 0 → τ1 87 0 = b.toInt64) ∧ R σ1 τ1 ρ2 θ2)))
set_option maxRecDepth 100000 in
set_option maxHeartbeats 4000000 in
theorem z_case10 {R : x_S → x_L → x_S → x_L → Prop} (hp : z_p10 R) {V : x_J} {ad : Nat → Nat} {b L : Nat} {xs : Nat → Int32} {j : Nat} {i : Int32} {σ ρ : x_S} {τ θ : x_L} (X : z_Is V ad b L xs j) (hj : j + 4 ≤ 600000) (h1 : vp_in (i + 1) L) (h2 : vp_in (i + 2) L) (h3 : vp_in (i + 3) L) (h4 : vp_in (i + 4) L) (h5 : vp_in (i + 5) L) (hR : R σ τ ρ θ)
    (k9 : ∀ (V' : x_J) (j' : Nat) (σ' : x_S) (τ' : x_L) (ρ' : x_S) (θ' : x_L), j' ≤ j + 4 → z_Is V' ad b L xs j' → R σ' τ' ρ' θ' → V' (z_c σ' ρ') (z_cL τ' θ') 2634 [(0, .ref b), (1, .ref (ad 0)), (2, .ref (ad 89)), (3, .ref (ad 87)), (4, .ref (ad 88)), (5, .int i)] []) : V (z_c σ ρ) (z_cL τ θ) 690 [(0, .ref b), (1, .ref (ad 0)), (2, .ref (ad 89)), (3, .ref (ad 87)), (4, .ref (ad 88)), (5, .int i)] [] := by
  have X0 := z_isX X
  refine x_aload_n X0 dL_law_690 rfl 1 rfl ?_
  refine x_aload_n X0 dL_law_691 rfl 0 rfl ?_
  refine x_iload X0 dL_law_692 5 rfl ?_
  refine x_iconst X0 (v := 1) dL_law_694 (by decide) ?_
  refine x_iadd X0 dL_law_695 ?_
  refine z_sld X h1 dL_law_696 ?_
  refine x_aload_n X0 dL_law_697 rfl 0 rfl ?_
  refine x_iload X0 dL_law_698 5 rfl ?_
  refine x_iconst X0 (v := 2) dL_law_700 (by decide) ?_
  refine x_iadd X0 dL_law_701 ?_
  refine z_sld X h2 dL_law_702 ?_
  refine x_aload_n X0 dL_law_703 rfl 3 rfl ?_
  refine z_callW X (K := 4) (As := [.ref (ad 0), .int (xs (i + 1).toNatClampNeg), .int (xs (i + 2).toNatClampNeg), .ref (ad 87)]) [] dL_law_704 (kL_position (hp σ τ ρ θ hR (xs (i + 1).toNatClampNeg) (xs (i + 2).toNatClampNeg))) lc_position ls_position w_5_102 (by decide) hj rfl (Nat.le_of_ble_eq_true rfl) ?_
  rintro V1 v σ1 τ1 X1 ⟨k, rfl, hq⟩
  have X2 := z_isX X1
  show V1 (z_c σ1 ρ) (z_cL τ1 θ) _ _ [.int k]
  refine x_istore X2 dL_law_707 (by decide) rfl ?_
  refine x_aload_n X2 dL_law_709 rfl 3 rfl ?_
  refine x_aload_n X2 dL_law_710 rfl 1 rfl ?_
  refine x_iload X2 dL_law_711 6 rfl ?_
  refine x_iconst X2 (v := 1) dL_law_713 (by decide) ?_
  refine x_iadd X2 dL_law_714 ?_
  refine z_sld X1 h1 dL_law_715 ?_
  refine x_aload_n X2 dL_law_716 rfl 1 rfl ?_
  refine x_iload X2 dL_law_717 6 rfl ?_
  refine x_iconst X2 (v := 2) dL_law_719 (by decide) ?_
  refine x_iadd X2 dL_law_720 ?_
  refine z_sld X1 h2 dL_law_721 ?_
  refine z_callM X1 (As := [.int (xs (i + 1).toNatClampNeg), .int (xs (i + 2).toNatClampNeg)]) [] dL_law_722 (kX11_position hq) cm_X11_position ci_X11_position w_8_58 dsM_0 (by decide) rfl (Nat.le_of_ble_eq_true rfl) ?_
  rintro v ρ1 θ1 ⟨bb, rfl, hq⟩
  show V1 (z_c σ1 ρ1) (z_cL τ1 θ1) _ _ [.int bb]
  refine x_istore X2 dL_law_725 (by decide) rfl ?_
  refine x_aload_n X2 dL_law_727 rfl 4 rfl ?_
  refine z_callM X1 (As := []) [] dL_law_728 (kX11_thrown hq) cm_X11_thrown ci_X11_thrown w_7_74 dsM_0 (by decide) rfl (Nat.le_of_ble_eq_true rfl) ?_
  rintro v ρ2 θ2 ⟨th, rfl, ht, hout, hR1⟩
  show V1 (z_c σ1 ρ2) (z_cL τ1 θ2) _ _ [.int th]
  refine x_iload X2 dL_law_731 1 rfl ?_
  refine x_icmp_eq X2 738 dL_law_733 rfl (fun _ => ?_) (fun h => absurd ht h)
  refine x_iload X2 dL_law_738 1 rfl ?_
  have fin : V1 (z_c σ1 ρ2) (z_cL τ1 θ2) 755 [(7, .int bb), (6, .int k), (0, .ref b), (1, .ref (ad 0)), (2, .ref (ad 89)), (3, .ref (ad 87)), (4, .ref (ad 88)), (5, .int i)] [] := by
    refine x_goto X2 dL_law_755 (tgt := 2634) rfl ?_
    exact x_sub X2 [2, 3, 4, 5, 6, 7] rfl (k9 V1 _ σ1 τ1 ρ2 θ2 (by omega) X1 hR1)
  refine x_if_ne X2 755 dL_law_740 rfl (fun _ => fin) (fun hk => ?_)
  refine x_aload_n X2 dL_law_743 rfl 5 rfl ?_
  refine x_iconst X2 (v := 0) dL_law_744 (by decide) ?_
  refine x_lald X2 (k := 87) (n := 1) dL_law_745 rfl z_in0 ?_
  refine x_iload X2 dL_law_746 0 rfl ?_
  refine x_i2l X2 dL_law_748 ?_
  refine x_lcmp X2 dL_law_749 ?_
  have e : (z_cL τ1 θ2) 87 (0 : Int32).toNatClampNeg = τ1 87 0 := rfl
  rw [e, hout hk, z_cmp0]
  exact x_if_eq X2 755 dL_law_750 rfl (fun _ => fin) (fun h => absurd rfl h)
/-- what the law asks of key -/
def z_p11 (R : x_S → x_L → x_S → x_L → Prop) : Prop := ∀ (σ : x_S) (τ : x_L) (ρ : x_S) (θ : x_L), R σ τ ρ θ → ∀ (a1 : Int32) (a2 : Int32), wL_key a1 a2 σ τ (fun k σ1 τ1 => wX11_key a1 a2 ρ θ (fun b ρ1 θ1 => wX11_thrown ρ1 θ1 (fun th ρ2 θ2 => th = k ∧ (k = 0 → τ1 87 0 = b.toInt64) ∧ R σ1 τ1 ρ2 θ2)))
set_option maxRecDepth 100000 in
set_option maxHeartbeats 4000000 in
theorem z_case11 {R : x_S → x_L → x_S → x_L → Prop} (hp : z_p11 R) {V : x_J} {ad : Nat → Nat} {b L : Nat} {xs : Nat → Int32} {j : Nat} {i : Int32} {σ ρ : x_S} {τ θ : x_L} (X : z_Is V ad b L xs j) (hj : j + 4 ≤ 600000) (h1 : vp_in (i + 1) L) (h2 : vp_in (i + 2) L) (h3 : vp_in (i + 3) L) (h4 : vp_in (i + 4) L) (h5 : vp_in (i + 5) L) (hR : R σ τ ρ θ)
    (k9 : ∀ (V' : x_J) (j' : Nat) (σ' : x_S) (τ' : x_L) (ρ' : x_S) (θ' : x_L), j' ≤ j + 4 → z_Is V' ad b L xs j' → R σ' τ' ρ' θ' → V' (z_c σ' ρ') (z_cL τ' θ') 2634 [(0, .ref b), (1, .ref (ad 0)), (2, .ref (ad 89)), (3, .ref (ad 87)), (4, .ref (ad 88)), (5, .int i)] []) : V (z_c σ ρ) (z_cL τ θ) 758 [(0, .ref b), (1, .ref (ad 0)), (2, .ref (ad 89)), (3, .ref (ad 87)), (4, .ref (ad 88)), (5, .int i)] [] := by
  have X0 := z_isX X
  refine x_aload_n X0 dL_law_758 rfl 1 rfl ?_
  refine x_aload_n X0 dL_law_759 rfl 0 rfl ?_
  refine x_iload X0 dL_law_760 5 rfl ?_
  refine x_iconst X0 (v := 1) dL_law_762 (by decide) ?_
  refine x_iadd X0 dL_law_763 ?_
  refine z_sld X h1 dL_law_764 ?_
  refine x_aload_n X0 dL_law_765 rfl 0 rfl ?_
  refine x_iload X0 dL_law_766 5 rfl ?_
  refine x_iconst X0 (v := 2) dL_law_768 (by decide) ?_
  refine x_iadd X0 dL_law_769 ?_
  refine z_sld X h2 dL_law_770 ?_
  refine x_aload_n X0 dL_law_771 rfl 3 rfl ?_
  refine z_callW X (K := 4) (As := [.ref (ad 0), .int (xs (i + 1).toNatClampNeg), .int (xs (i + 2).toNatClampNeg), .ref (ad 87)]) [] dL_law_772 (kL_key (hp σ τ ρ θ hR (xs (i + 1).toNatClampNeg) (xs (i + 2).toNatClampNeg))) lc_key ls_key w_5_109 (by decide) hj rfl (Nat.le_of_ble_eq_true rfl) ?_
  rintro V1 v σ1 τ1 X1 ⟨k, rfl, hq⟩
  have X2 := z_isX X1
  show V1 (z_c σ1 ρ) (z_cL τ1 θ) _ _ [.int k]
  refine x_istore X2 dL_law_775 (by decide) rfl ?_
  refine x_aload_n X2 dL_law_777 rfl 3 rfl ?_
  refine x_aload_n X2 dL_law_778 rfl 1 rfl ?_
  refine x_iload X2 dL_law_779 6 rfl ?_
  refine x_iconst X2 (v := 1) dL_law_781 (by decide) ?_
  refine x_iadd X2 dL_law_782 ?_
  refine z_sld X1 h1 dL_law_783 ?_
  refine x_aload_n X2 dL_law_784 rfl 1 rfl ?_
  refine x_iload X2 dL_law_785 6 rfl ?_
  refine x_iconst X2 (v := 2) dL_law_787 (by decide) ?_
  refine x_iadd X2 dL_law_788 ?_
  refine z_sld X1 h2 dL_law_789 ?_
  refine z_callM X1 (As := [.int (xs (i + 1).toNatClampNeg), .int (xs (i + 2).toNatClampNeg)]) [] dL_law_790 (kX11_key hq) cm_X11_key ci_X11_key w_8_62 dsM_0 (by decide) rfl (Nat.le_of_ble_eq_true rfl) ?_
  rintro v ρ1 θ1 ⟨bb, rfl, hq⟩
  show V1 (z_c σ1 ρ1) (z_cL τ1 θ1) _ _ [.int bb]
  refine x_istore X2 dL_law_793 (by decide) rfl ?_
  refine x_aload_n X2 dL_law_795 rfl 4 rfl ?_
  refine z_callM X1 (As := []) [] dL_law_796 (kX11_thrown hq) cm_X11_thrown ci_X11_thrown w_7_74 dsM_0 (by decide) rfl (Nat.le_of_ble_eq_true rfl) ?_
  rintro v ρ2 θ2 ⟨th, rfl, ht, hout, hR1⟩
  show V1 (z_c σ1 ρ2) (z_cL τ1 θ2) _ _ [.int th]
  refine x_iload X2 dL_law_799 1 rfl ?_
  refine x_icmp_eq X2 806 dL_law_801 rfl (fun _ => ?_) (fun h => absurd ht h)
  refine x_iload X2 dL_law_806 1 rfl ?_
  have fin : V1 (z_c σ1 ρ2) (z_cL τ1 θ2) 823 [(7, .int bb), (6, .int k), (0, .ref b), (1, .ref (ad 0)), (2, .ref (ad 89)), (3, .ref (ad 87)), (4, .ref (ad 88)), (5, .int i)] [] := by
    refine x_goto X2 dL_law_823 (tgt := 2634) rfl ?_
    exact x_sub X2 [2, 3, 4, 5, 6, 7] rfl (k9 V1 _ σ1 τ1 ρ2 θ2 (by omega) X1 hR1)
  refine x_if_ne X2 823 dL_law_808 rfl (fun _ => fin) (fun hk => ?_)
  refine x_aload_n X2 dL_law_811 rfl 5 rfl ?_
  refine x_iconst X2 (v := 0) dL_law_812 (by decide) ?_
  refine x_lald X2 (k := 87) (n := 1) dL_law_813 rfl z_in0 ?_
  refine x_iload X2 dL_law_814 0 rfl ?_
  refine x_i2l X2 dL_law_816 ?_
  refine x_lcmp X2 dL_law_817 ?_
  have e : (z_cL τ1 θ2) 87 (0 : Int32).toNatClampNeg = τ1 87 0 := rfl
  rw [e, hout hk, z_cmp0]
  exact x_if_eq X2 823 dL_law_818 rfl (fun _ => fin) (fun h => absurd rfl h)
/-- what the law asks of platoon -/
def z_p12 (R : x_S → x_L → x_S → x_L → Prop) : Prop := ∀ (σ : x_S) (τ : x_L) (ρ : x_S) (θ : x_L), R σ τ ρ θ → ∀ (a1 : Int32) (a2 : Int32) (a3 : Int32), wL_platoon a1 a2 a3 σ τ (fun k σ1 τ1 => wX11_platoon a1 a2 a3 ρ θ (fun b ρ1 θ1 => wX11_thrown ρ1 θ1 (fun th ρ2 θ2 => th = k ∧ (k = 0 → τ1 87 0 = b.toInt64) ∧ R σ1 τ1 ρ2 θ2)))
set_option maxRecDepth 100000 in
set_option maxHeartbeats 4000000 in
theorem z_case12 {R : x_S → x_L → x_S → x_L → Prop} (hp : z_p12 R) {V : x_J} {ad : Nat → Nat} {b L : Nat} {xs : Nat → Int32} {j : Nat} {i : Int32} {σ ρ : x_S} {τ θ : x_L} (X : z_Is V ad b L xs j) (hj : j + 4 ≤ 600000) (h1 : vp_in (i + 1) L) (h2 : vp_in (i + 2) L) (h3 : vp_in (i + 3) L) (h4 : vp_in (i + 4) L) (h5 : vp_in (i + 5) L) (hR : R σ τ ρ θ)
    (k9 : ∀ (V' : x_J) (j' : Nat) (σ' : x_S) (τ' : x_L) (ρ' : x_S) (θ' : x_L), j' ≤ j + 4 → z_Is V' ad b L xs j' → R σ' τ' ρ' θ' → V' (z_c σ' ρ') (z_cL τ' θ') 2634 [(0, .ref b), (1, .ref (ad 0)), (2, .ref (ad 89)), (3, .ref (ad 87)), (4, .ref (ad 88)), (5, .int i)] []) : V (z_c σ ρ) (z_cL τ θ) 826 [(0, .ref b), (1, .ref (ad 0)), (2, .ref (ad 89)), (3, .ref (ad 87)), (4, .ref (ad 88)), (5, .int i)] [] := by
  have X0 := z_isX X
  refine x_aload_n X0 dL_law_826 rfl 1 rfl ?_
  refine x_aload_n X0 dL_law_827 rfl 0 rfl ?_
  refine x_iload X0 dL_law_828 5 rfl ?_
  refine x_iconst X0 (v := 1) dL_law_830 (by decide) ?_
  refine x_iadd X0 dL_law_831 ?_
  refine z_sld X h1 dL_law_832 ?_
  refine x_aload_n X0 dL_law_833 rfl 0 rfl ?_
  refine x_iload X0 dL_law_834 5 rfl ?_
  refine x_iconst X0 (v := 2) dL_law_836 (by decide) ?_
  refine x_iadd X0 dL_law_837 ?_
  refine z_sld X h2 dL_law_838 ?_
  refine x_aload_n X0 dL_law_839 rfl 0 rfl ?_
  refine x_iload X0 dL_law_840 5 rfl ?_
  refine x_iconst X0 (v := 3) dL_law_842 (by decide) ?_
  refine x_iadd X0 dL_law_843 ?_
  refine z_sld X h3 dL_law_844 ?_
  refine x_aload_n X0 dL_law_845 rfl 3 rfl ?_
  refine z_callW X (K := 4) (As := [.ref (ad 0), .int (xs (i + 1).toNatClampNeg), .int (xs (i + 2).toNatClampNeg), .int (xs (i + 3).toNatClampNeg), .ref (ad 87)]) [] dL_law_846 (kL_platoon (hp σ τ ρ θ hR (xs (i + 1).toNatClampNeg) (xs (i + 2).toNatClampNeg) (xs (i + 3).toNatClampNeg))) lc_platoon ls_platoon w_5_116 (by decide) hj rfl (Nat.le_of_ble_eq_true rfl) ?_
  rintro V1 v σ1 τ1 X1 ⟨k, rfl, hq⟩
  have X2 := z_isX X1
  show V1 (z_c σ1 ρ) (z_cL τ1 θ) _ _ [.int k]
  refine x_istore X2 dL_law_849 (by decide) rfl ?_
  refine x_aload_n X2 dL_law_851 rfl 3 rfl ?_
  refine x_aload_n X2 dL_law_852 rfl 1 rfl ?_
  refine x_iload X2 dL_law_853 6 rfl ?_
  refine x_iconst X2 (v := 1) dL_law_855 (by decide) ?_
  refine x_iadd X2 dL_law_856 ?_
  refine z_sld X1 h1 dL_law_857 ?_
  refine x_aload_n X2 dL_law_858 rfl 1 rfl ?_
  refine x_iload X2 dL_law_859 6 rfl ?_
  refine x_iconst X2 (v := 2) dL_law_861 (by decide) ?_
  refine x_iadd X2 dL_law_862 ?_
  refine z_sld X1 h2 dL_law_863 ?_
  refine x_aload_n X2 dL_law_864 rfl 1 rfl ?_
  refine x_iload X2 dL_law_865 6 rfl ?_
  refine x_iconst X2 (v := 3) dL_law_867 (by decide) ?_
  refine x_iadd X2 dL_law_868 ?_
  refine z_sld X1 h3 dL_law_869 ?_
  refine z_callM X1 (As := [.int (xs (i + 1).toNatClampNeg), .int (xs (i + 2).toNatClampNeg), .int (xs (i + 3).toNatClampNeg)]) [] dL_law_870 (kX11_platoon hq) cm_X11_platoon ci_X11_platoon w_8_66 dsM_0 (by decide) rfl (Nat.le_of_ble_eq_true rfl) ?_
  rintro v ρ1 θ1 ⟨bb, rfl, hq⟩
  show V1 (z_c σ1 ρ1) (z_cL τ1 θ1) _ _ [.int bb]
  refine x_istore X2 dL_law_873 (by decide) rfl ?_
  refine x_aload_n X2 dL_law_875 rfl 4 rfl ?_
  refine z_callM X1 (As := []) [] dL_law_876 (kX11_thrown hq) cm_X11_thrown ci_X11_thrown w_7_74 dsM_0 (by decide) rfl (Nat.le_of_ble_eq_true rfl) ?_
  rintro v ρ2 θ2 ⟨th, rfl, ht, hout, hR1⟩
  show V1 (z_c σ1 ρ2) (z_cL τ1 θ2) _ _ [.int th]
  refine x_iload X2 dL_law_879 1 rfl ?_
  refine x_icmp_eq X2 886 dL_law_881 rfl (fun _ => ?_) (fun h => absurd ht h)
  refine x_iload X2 dL_law_886 1 rfl ?_
  have fin : V1 (z_c σ1 ρ2) (z_cL τ1 θ2) 903 [(7, .int bb), (6, .int k), (0, .ref b), (1, .ref (ad 0)), (2, .ref (ad 89)), (3, .ref (ad 87)), (4, .ref (ad 88)), (5, .int i)] [] := by
    refine x_goto X2 dL_law_903 (tgt := 2634) rfl ?_
    exact x_sub X2 [2, 3, 4, 5, 6, 7] rfl (k9 V1 _ σ1 τ1 ρ2 θ2 (by omega) X1 hR1)
  refine x_if_ne X2 903 dL_law_888 rfl (fun _ => fin) (fun hk => ?_)
  refine x_aload_n X2 dL_law_891 rfl 5 rfl ?_
  refine x_iconst X2 (v := 0) dL_law_892 (by decide) ?_
  refine x_lald X2 (k := 87) (n := 1) dL_law_893 rfl z_in0 ?_
  refine x_iload X2 dL_law_894 0 rfl ?_
  refine x_i2l X2 dL_law_896 ?_
  refine x_lcmp X2 dL_law_897 ?_
  have e : (z_cL τ1 θ2) 87 (0 : Int32).toNatClampNeg = τ1 87 0 := rfl
  rw [e, hout hk, z_cmp0]
  exact x_if_eq X2 903 dL_law_898 rfl (fun _ => fin) (fun h => absurd rfl h)
/-- what the law asks of member -/
def z_p13 (R : x_S → x_L → x_S → x_L → Prop) : Prop := ∀ (σ : x_S) (τ : x_L) (ρ : x_S) (θ : x_L), R σ τ ρ θ → ∀ (a1 : Int32) (a2 : Int32) (a3 : Int32), wL_member a1 a2 a3 σ τ (fun k σ1 τ1 => wX11_member a1 a2 a3 ρ θ (fun b ρ1 θ1 => wX11_thrown ρ1 θ1 (fun th ρ2 θ2 => th = k ∧ (k = 0 → τ1 87 0 = b.toInt64) ∧ R σ1 τ1 ρ2 θ2)))
set_option maxRecDepth 100000 in
set_option maxHeartbeats 4000000 in
theorem z_case13 {R : x_S → x_L → x_S → x_L → Prop} (hp : z_p13 R) {V : x_J} {ad : Nat → Nat} {b L : Nat} {xs : Nat → Int32} {j : Nat} {i : Int32} {σ ρ : x_S} {τ θ : x_L} (X : z_Is V ad b L xs j) (hj : j + 4 ≤ 600000) (h1 : vp_in (i + 1) L) (h2 : vp_in (i + 2) L) (h3 : vp_in (i + 3) L) (h4 : vp_in (i + 4) L) (h5 : vp_in (i + 5) L) (hR : R σ τ ρ θ)
    (k9 : ∀ (V' : x_J) (j' : Nat) (σ' : x_S) (τ' : x_L) (ρ' : x_S) (θ' : x_L), j' ≤ j + 4 → z_Is V' ad b L xs j' → R σ' τ' ρ' θ' → V' (z_c σ' ρ') (z_cL τ' θ') 2634 [(0, .ref b), (1, .ref (ad 0)), (2, .ref (ad 89)), (3, .ref (ad 87)), (4, .ref (ad 88)), (5, .int i)] []) : V (z_c σ ρ) (z_cL τ θ) 906 [(0, .ref b), (1, .ref (ad 0)), (2, .ref (ad 89)), (3, .ref (ad 87)), (4, .ref (ad 88)), (5, .int i)] [] := by
  have X0 := z_isX X
  refine x_aload_n X0 dL_law_906 rfl 1 rfl ?_
  refine x_aload_n X0 dL_law_907 rfl 0 rfl ?_
  refine x_iload X0 dL_law_908 5 rfl ?_
  refine x_iconst X0 (v := 1) dL_law_910 (by decide) ?_
  refine x_iadd X0 dL_law_911 ?_
  refine z_sld X h1 dL_law_912 ?_
  refine x_aload_n X0 dL_law_913 rfl 0 rfl ?_
  refine x_iload X0 dL_law_914 5 rfl ?_
  refine x_iconst X0 (v := 2) dL_law_916 (by decide) ?_
  refine x_iadd X0 dL_law_917 ?_
  refine z_sld X h2 dL_law_918 ?_
  refine x_aload_n X0 dL_law_919 rfl 0 rfl ?_
  refine x_iload X0 dL_law_920 5 rfl ?_
  refine x_iconst X0 (v := 3) dL_law_922 (by decide) ?_
  refine x_iadd X0 dL_law_923 ?_
  refine z_sld X h3 dL_law_924 ?_
  refine x_aload_n X0 dL_law_925 rfl 3 rfl ?_
  refine z_callW X (K := 4) (As := [.ref (ad 0), .int (xs (i + 1).toNatClampNeg), .int (xs (i + 2).toNatClampNeg), .int (xs (i + 3).toNatClampNeg), .ref (ad 87)]) [] dL_law_926 (kL_member (hp σ τ ρ θ hR (xs (i + 1).toNatClampNeg) (xs (i + 2).toNatClampNeg) (xs (i + 3).toNatClampNeg))) lc_member ls_member w_5_140 (by decide) hj rfl (Nat.le_of_ble_eq_true rfl) ?_
  rintro V1 v σ1 τ1 X1 ⟨k, rfl, hq⟩
  have X2 := z_isX X1
  show V1 (z_c σ1 ρ) (z_cL τ1 θ) _ _ [.int k]
  refine x_istore X2 dL_law_929 (by decide) rfl ?_
  refine x_aload_n X2 dL_law_931 rfl 3 rfl ?_
  refine x_aload_n X2 dL_law_932 rfl 1 rfl ?_
  refine x_iload X2 dL_law_933 6 rfl ?_
  refine x_iconst X2 (v := 1) dL_law_935 (by decide) ?_
  refine x_iadd X2 dL_law_936 ?_
  refine z_sld X1 h1 dL_law_937 ?_
  refine x_aload_n X2 dL_law_938 rfl 1 rfl ?_
  refine x_iload X2 dL_law_939 6 rfl ?_
  refine x_iconst X2 (v := 2) dL_law_941 (by decide) ?_
  refine x_iadd X2 dL_law_942 ?_
  refine z_sld X1 h2 dL_law_943 ?_
  refine x_aload_n X2 dL_law_944 rfl 1 rfl ?_
  refine x_iload X2 dL_law_945 6 rfl ?_
  refine x_iconst X2 (v := 3) dL_law_947 (by decide) ?_
  refine x_iadd X2 dL_law_948 ?_
  refine z_sld X1 h3 dL_law_949 ?_
  refine z_callM X1 (As := [.int (xs (i + 1).toNatClampNeg), .int (xs (i + 2).toNatClampNeg), .int (xs (i + 3).toNatClampNeg)]) [] dL_law_950 (kX11_member hq) cm_X11_member ci_X11_member w_8_78 dsM_0 (by decide) rfl (Nat.le_of_ble_eq_true rfl) ?_
  rintro v ρ1 θ1 ⟨bb, rfl, hq⟩
  show V1 (z_c σ1 ρ1) (z_cL τ1 θ1) _ _ [.int bb]
  refine x_istore X2 dL_law_953 (by decide) rfl ?_
  refine x_aload_n X2 dL_law_955 rfl 4 rfl ?_
  refine z_callM X1 (As := []) [] dL_law_956 (kX11_thrown hq) cm_X11_thrown ci_X11_thrown w_7_74 dsM_0 (by decide) rfl (Nat.le_of_ble_eq_true rfl) ?_
  rintro v ρ2 θ2 ⟨th, rfl, ht, hout, hR1⟩
  show V1 (z_c σ1 ρ2) (z_cL τ1 θ2) _ _ [.int th]
  refine x_iload X2 dL_law_959 1 rfl ?_
  refine x_icmp_eq X2 966 dL_law_961 rfl (fun _ => ?_) (fun h => absurd ht h)
  refine x_iload X2 dL_law_966 1 rfl ?_
  have fin : V1 (z_c σ1 ρ2) (z_cL τ1 θ2) 983 [(7, .int bb), (6, .int k), (0, .ref b), (1, .ref (ad 0)), (2, .ref (ad 89)), (3, .ref (ad 87)), (4, .ref (ad 88)), (5, .int i)] [] := by
    refine x_goto X2 dL_law_983 (tgt := 2634) rfl ?_
    exact x_sub X2 [2, 3, 4, 5, 6, 7] rfl (k9 V1 _ σ1 τ1 ρ2 θ2 (by omega) X1 hR1)
  refine x_if_ne X2 983 dL_law_968 rfl (fun _ => fin) (fun hk => ?_)
  refine x_aload_n X2 dL_law_971 rfl 5 rfl ?_
  refine x_iconst X2 (v := 0) dL_law_972 (by decide) ?_
  refine x_lald X2 (k := 87) (n := 1) dL_law_973 rfl z_in0 ?_
  refine x_iload X2 dL_law_974 0 rfl ?_
  refine x_i2l X2 dL_law_976 ?_
  refine x_lcmp X2 dL_law_977 ?_
  have e : (z_cL τ1 θ2) 87 (0 : Int32).toNatClampNeg = τ1 87 0 := rfl
  rw [e, hout hk, z_cmp0]
  exact x_if_eq X2 983 dL_law_978 rfl (fun _ => fin) (fun h => absurd rfl h)
/-- what the law asks of together -/
def z_p14 (R : x_S → x_L → x_S → x_L → Prop) : Prop := ∀ (σ : x_S) (τ : x_L) (ρ : x_S) (θ : x_L), R σ τ ρ θ → ∀ (a1 : Int32) (a2 : Int32), wL_together a1 a2 σ τ (fun k σ1 τ1 => wX11_together a1 a2 ρ θ (fun b ρ1 θ1 => wX11_thrown ρ1 θ1 (fun th ρ2 θ2 => th = k ∧ (k = 0 → τ1 87 0 = b.toInt64) ∧ R σ1 τ1 ρ2 θ2)))
set_option maxRecDepth 100000 in
set_option maxHeartbeats 4000000 in
theorem z_case14 {R : x_S → x_L → x_S → x_L → Prop} (hp : z_p14 R) {V : x_J} {ad : Nat → Nat} {b L : Nat} {xs : Nat → Int32} {j : Nat} {i : Int32} {σ ρ : x_S} {τ θ : x_L} (X : z_Is V ad b L xs j) (hj : j + 4 ≤ 600000) (h1 : vp_in (i + 1) L) (h2 : vp_in (i + 2) L) (h3 : vp_in (i + 3) L) (h4 : vp_in (i + 4) L) (h5 : vp_in (i + 5) L) (hR : R σ τ ρ θ)
    (k9 : ∀ (V' : x_J) (j' : Nat) (σ' : x_S) (τ' : x_L) (ρ' : x_S) (θ' : x_L), j' ≤ j + 4 → z_Is V' ad b L xs j' → R σ' τ' ρ' θ' → V' (z_c σ' ρ') (z_cL τ' θ') 2634 [(0, .ref b), (1, .ref (ad 0)), (2, .ref (ad 89)), (3, .ref (ad 87)), (4, .ref (ad 88)), (5, .int i)] []) : V (z_c σ ρ) (z_cL τ θ) 986 [(0, .ref b), (1, .ref (ad 0)), (2, .ref (ad 89)), (3, .ref (ad 87)), (4, .ref (ad 88)), (5, .int i)] [] := by
  have X0 := z_isX X
  refine x_aload_n X0 dL_law_986 rfl 1 rfl ?_
  refine x_aload_n X0 dL_law_987 rfl 0 rfl ?_
  refine x_iload X0 dL_law_988 5 rfl ?_
  refine x_iconst X0 (v := 1) dL_law_990 (by decide) ?_
  refine x_iadd X0 dL_law_991 ?_
  refine z_sld X h1 dL_law_992 ?_
  refine x_aload_n X0 dL_law_993 rfl 0 rfl ?_
  refine x_iload X0 dL_law_994 5 rfl ?_
  refine x_iconst X0 (v := 2) dL_law_996 (by decide) ?_
  refine x_iadd X0 dL_law_997 ?_
  refine z_sld X h2 dL_law_998 ?_
  refine x_aload_n X0 dL_law_999 rfl 3 rfl ?_
  refine z_callW X (K := 4) (As := [.ref (ad 0), .int (xs (i + 1).toNatClampNeg), .int (xs (i + 2).toNatClampNeg), .ref (ad 87)]) [] dL_law_1000 (kL_together (hp σ τ ρ θ hR (xs (i + 1).toNatClampNeg) (xs (i + 2).toNatClampNeg))) lc_together ls_together w_5_151 (by decide) hj rfl (Nat.le_of_ble_eq_true rfl) ?_
  rintro V1 v σ1 τ1 X1 ⟨k, rfl, hq⟩
  have X2 := z_isX X1
  show V1 (z_c σ1 ρ) (z_cL τ1 θ) _ _ [.int k]
  refine x_istore X2 dL_law_1003 (by decide) rfl ?_
  refine x_aload_n X2 dL_law_1005 rfl 3 rfl ?_
  refine x_aload_n X2 dL_law_1006 rfl 1 rfl ?_
  refine x_iload X2 dL_law_1007 6 rfl ?_
  refine x_iconst X2 (v := 1) dL_law_1009 (by decide) ?_
  refine x_iadd X2 dL_law_1010 ?_
  refine z_sld X1 h1 dL_law_1011 ?_
  refine x_aload_n X2 dL_law_1012 rfl 1 rfl ?_
  refine x_iload X2 dL_law_1013 6 rfl ?_
  refine x_iconst X2 (v := 2) dL_law_1015 (by decide) ?_
  refine x_iadd X2 dL_law_1016 ?_
  refine z_sld X1 h2 dL_law_1017 ?_
  refine z_callM X1 (As := [.int (xs (i + 1).toNatClampNeg), .int (xs (i + 2).toNatClampNeg)]) [] dL_law_1018 (kX11_together hq) cm_X11_together ci_X11_together w_8_82 dsM_0 (by decide) rfl (Nat.le_of_ble_eq_true rfl) ?_
  rintro v ρ1 θ1 ⟨bb, rfl, hq⟩
  show V1 (z_c σ1 ρ1) (z_cL τ1 θ1) _ _ [.int bb]
  refine x_istore X2 dL_law_1021 (by decide) rfl ?_
  refine x_aload_n X2 dL_law_1023 rfl 4 rfl ?_
  refine z_callM X1 (As := []) [] dL_law_1024 (kX11_thrown hq) cm_X11_thrown ci_X11_thrown w_7_74 dsM_0 (by decide) rfl (Nat.le_of_ble_eq_true rfl) ?_
  rintro v ρ2 θ2 ⟨th, rfl, ht, hout, hR1⟩
  show V1 (z_c σ1 ρ2) (z_cL τ1 θ2) _ _ [.int th]
  refine x_iload X2 dL_law_1027 1 rfl ?_
  refine x_icmp_eq X2 1034 dL_law_1029 rfl (fun _ => ?_) (fun h => absurd ht h)
  refine x_iload X2 dL_law_1034 1 rfl ?_
  have fin : V1 (z_c σ1 ρ2) (z_cL τ1 θ2) 1051 [(7, .int bb), (6, .int k), (0, .ref b), (1, .ref (ad 0)), (2, .ref (ad 89)), (3, .ref (ad 87)), (4, .ref (ad 88)), (5, .int i)] [] := by
    refine x_goto X2 dL_law_1051 (tgt := 2634) rfl ?_
    exact x_sub X2 [2, 3, 4, 5, 6, 7] rfl (k9 V1 _ σ1 τ1 ρ2 θ2 (by omega) X1 hR1)
  refine x_if_ne X2 1051 dL_law_1036 rfl (fun _ => fin) (fun hk => ?_)
  refine x_aload_n X2 dL_law_1039 rfl 5 rfl ?_
  refine x_iconst X2 (v := 0) dL_law_1040 (by decide) ?_
  refine x_lald X2 (k := 87) (n := 1) dL_law_1041 rfl z_in0 ?_
  refine x_iload X2 dL_law_1042 0 rfl ?_
  refine x_i2l X2 dL_law_1044 ?_
  refine x_lcmp X2 dL_law_1045 ?_
  have e : (z_cL τ1 θ2) 87 (0 : Int32).toNatClampNeg = τ1 87 0 := rfl
  rw [e, hout hk, z_cmp0]
  exact x_if_eq X2 1051 dL_law_1046 rfl (fun _ => fin) (fun h => absurd rfl h)
/-- what the law asks of pairSaved -/
def z_p15 (R : x_S → x_L → x_S → x_L → Prop) : Prop := ∀ (σ : x_S) (τ : x_L) (ρ : x_S) (θ : x_L), R σ τ ρ θ → ∀ (a1 : Int32) (a2 : Int32), wL_pairSaved a1 a2 σ τ (fun k σ1 τ1 => wX11_pairSaved a1 a2 ρ θ (fun b ρ1 θ1 => wX11_thrown ρ1 θ1 (fun th ρ2 θ2 => th = k ∧ (k = 0 → τ1 87 0 = b.toInt64) ∧ R σ1 τ1 ρ2 θ2)))
set_option maxRecDepth 100000 in
set_option maxHeartbeats 4000000 in
theorem z_case15 {R : x_S → x_L → x_S → x_L → Prop} (hp : z_p15 R) {V : x_J} {ad : Nat → Nat} {b L : Nat} {xs : Nat → Int32} {j : Nat} {i : Int32} {σ ρ : x_S} {τ θ : x_L} (X : z_Is V ad b L xs j) (hj : j + 4 ≤ 600000) (h1 : vp_in (i + 1) L) (h2 : vp_in (i + 2) L) (h3 : vp_in (i + 3) L) (h4 : vp_in (i + 4) L) (h5 : vp_in (i + 5) L) (hR : R σ τ ρ θ)
    (k9 : ∀ (V' : x_J) (j' : Nat) (σ' : x_S) (τ' : x_L) (ρ' : x_S) (θ' : x_L), j' ≤ j + 4 → z_Is V' ad b L xs j' → R σ' τ' ρ' θ' → V' (z_c σ' ρ') (z_cL τ' θ') 2634 [(0, .ref b), (1, .ref (ad 0)), (2, .ref (ad 89)), (3, .ref (ad 87)), (4, .ref (ad 88)), (5, .int i)] []) : V (z_c σ ρ) (z_cL τ θ) 1054 [(0, .ref b), (1, .ref (ad 0)), (2, .ref (ad 89)), (3, .ref (ad 87)), (4, .ref (ad 88)), (5, .int i)] [] := by
  have X0 := z_isX X
  refine x_aload_n X0 dL_law_1054 rfl 1 rfl ?_
  refine x_aload_n X0 dL_law_1055 rfl 0 rfl ?_
  refine x_iload X0 dL_law_1056 5 rfl ?_
  refine x_iconst X0 (v := 1) dL_law_1058 (by decide) ?_
  refine x_iadd X0 dL_law_1059 ?_
  refine z_sld X h1 dL_law_1060 ?_
  refine x_aload_n X0 dL_law_1061 rfl 0 rfl ?_
  refine x_iload X0 dL_law_1062 5 rfl ?_
  refine x_iconst X0 (v := 2) dL_law_1064 (by decide) ?_
  refine x_iadd X0 dL_law_1065 ?_
  refine z_sld X h2 dL_law_1066 ?_
  refine x_aload_n X0 dL_law_1067 rfl 3 rfl ?_
  refine z_callW X (K := 4) (As := [.ref (ad 0), .int (xs (i + 1).toNatClampNeg), .int (xs (i + 2).toNatClampNeg), .ref (ad 87)]) [] dL_law_1068 (kL_pairSaved (hp σ τ ρ θ hR (xs (i + 1).toNatClampNeg) (xs (i + 2).toNatClampNeg))) lc_pairSaved ls_pairSaved w_5_162 (by decide) hj rfl (Nat.le_of_ble_eq_true rfl) ?_
  rintro V1 v σ1 τ1 X1 ⟨k, rfl, hq⟩
  have X2 := z_isX X1
  show V1 (z_c σ1 ρ) (z_cL τ1 θ) _ _ [.int k]
  refine x_istore X2 dL_law_1071 (by decide) rfl ?_
  refine x_aload_n X2 dL_law_1073 rfl 3 rfl ?_
  refine x_aload_n X2 dL_law_1074 rfl 1 rfl ?_
  refine x_iload X2 dL_law_1075 6 rfl ?_
  refine x_iconst X2 (v := 1) dL_law_1077 (by decide) ?_
  refine x_iadd X2 dL_law_1078 ?_
  refine z_sld X1 h1 dL_law_1079 ?_
  refine x_aload_n X2 dL_law_1080 rfl 1 rfl ?_
  refine x_iload X2 dL_law_1081 6 rfl ?_
  refine x_iconst X2 (v := 2) dL_law_1083 (by decide) ?_
  refine x_iadd X2 dL_law_1084 ?_
  refine z_sld X1 h2 dL_law_1085 ?_
  refine z_callM X1 (As := [.int (xs (i + 1).toNatClampNeg), .int (xs (i + 2).toNatClampNeg)]) [] dL_law_1086 (kX11_pairSaved hq) cm_X11_pairSaved ci_X11_pairSaved w_8_90 dsM_0 (by decide) rfl (Nat.le_of_ble_eq_true rfl) ?_
  rintro v ρ1 θ1 ⟨bb, rfl, hq⟩
  show V1 (z_c σ1 ρ1) (z_cL τ1 θ1) _ _ [.int bb]
  refine x_istore X2 dL_law_1089 (by decide) rfl ?_
  refine x_aload_n X2 dL_law_1091 rfl 4 rfl ?_
  refine z_callM X1 (As := []) [] dL_law_1092 (kX11_thrown hq) cm_X11_thrown ci_X11_thrown w_7_74 dsM_0 (by decide) rfl (Nat.le_of_ble_eq_true rfl) ?_
  rintro v ρ2 θ2 ⟨th, rfl, ht, hout, hR1⟩
  show V1 (z_c σ1 ρ2) (z_cL τ1 θ2) _ _ [.int th]
  refine x_iload X2 dL_law_1095 1 rfl ?_
  refine x_icmp_eq X2 1102 dL_law_1097 rfl (fun _ => ?_) (fun h => absurd ht h)
  refine x_iload X2 dL_law_1102 1 rfl ?_
  have fin : V1 (z_c σ1 ρ2) (z_cL τ1 θ2) 1119 [(7, .int bb), (6, .int k), (0, .ref b), (1, .ref (ad 0)), (2, .ref (ad 89)), (3, .ref (ad 87)), (4, .ref (ad 88)), (5, .int i)] [] := by
    refine x_goto X2 dL_law_1119 (tgt := 2634) rfl ?_
    exact x_sub X2 [2, 3, 4, 5, 6, 7] rfl (k9 V1 _ σ1 τ1 ρ2 θ2 (by omega) X1 hR1)
  refine x_if_ne X2 1119 dL_law_1104 rfl (fun _ => fin) (fun hk => ?_)
  refine x_aload_n X2 dL_law_1107 rfl 5 rfl ?_
  refine x_iconst X2 (v := 0) dL_law_1108 (by decide) ?_
  refine x_lald X2 (k := 87) (n := 1) dL_law_1109 rfl z_in0 ?_
  refine x_iload X2 dL_law_1110 0 rfl ?_
  refine x_i2l X2 dL_law_1112 ?_
  refine x_lcmp X2 dL_law_1113 ?_
  have e : (z_cL τ1 θ2) 87 (0 : Int32).toNatClampNeg = τ1 87 0 := rfl
  rw [e, hout hk, z_cmp0]
  exact x_if_eq X2 1119 dL_law_1114 rfl (fun _ => fin) (fun h => absurd rfl h)
/-- what the law asks of run -/
def z_p16 (R : x_S → x_L → x_S → x_L → Prop) : Prop := ∀ (σ : x_S) (τ : x_L) (ρ : x_S) (θ : x_L), R σ τ ρ θ → ∀ (a1 : Int32) (a2 : Int32) (a3 : Int32), wL_run a1 a2 a3 σ τ (fun k σ1 τ1 => wX11_run a1 a2 a3 ρ θ (fun b ρ1 θ1 => wX11_thrown ρ1 θ1 (fun th ρ2 θ2 => th = k ∧ (k = 0 → τ1 87 0 = b.toInt64) ∧ R σ1 τ1 ρ2 θ2)))
set_option maxRecDepth 100000 in
set_option maxHeartbeats 4000000 in
theorem z_case16 {R : x_S → x_L → x_S → x_L → Prop} (hp : z_p16 R) {V : x_J} {ad : Nat → Nat} {b L : Nat} {xs : Nat → Int32} {j : Nat} {i : Int32} {σ ρ : x_S} {τ θ : x_L} (X : z_Is V ad b L xs j) (hj : j + 4 ≤ 600000) (h1 : vp_in (i + 1) L) (h2 : vp_in (i + 2) L) (h3 : vp_in (i + 3) L) (h4 : vp_in (i + 4) L) (h5 : vp_in (i + 5) L) (hR : R σ τ ρ θ)
    (k9 : ∀ (V' : x_J) (j' : Nat) (σ' : x_S) (τ' : x_L) (ρ' : x_S) (θ' : x_L), j' ≤ j + 4 → z_Is V' ad b L xs j' → R σ' τ' ρ' θ' → V' (z_c σ' ρ') (z_cL τ' θ') 2634 [(0, .ref b), (1, .ref (ad 0)), (2, .ref (ad 89)), (3, .ref (ad 87)), (4, .ref (ad 88)), (5, .int i)] []) : V (z_c σ ρ) (z_cL τ θ) 1122 [(0, .ref b), (1, .ref (ad 0)), (2, .ref (ad 89)), (3, .ref (ad 87)), (4, .ref (ad 88)), (5, .int i)] [] := by
  have X0 := z_isX X
  refine x_aload_n X0 dL_law_1122 rfl 1 rfl ?_
  refine x_aload_n X0 dL_law_1123 rfl 0 rfl ?_
  refine x_iload X0 dL_law_1124 5 rfl ?_
  refine x_iconst X0 (v := 1) dL_law_1126 (by decide) ?_
  refine x_iadd X0 dL_law_1127 ?_
  refine z_sld X h1 dL_law_1128 ?_
  refine x_aload_n X0 dL_law_1129 rfl 0 rfl ?_
  refine x_iload X0 dL_law_1130 5 rfl ?_
  refine x_iconst X0 (v := 2) dL_law_1132 (by decide) ?_
  refine x_iadd X0 dL_law_1133 ?_
  refine z_sld X h2 dL_law_1134 ?_
  refine x_aload_n X0 dL_law_1135 rfl 0 rfl ?_
  refine x_iload X0 dL_law_1136 5 rfl ?_
  refine x_iconst X0 (v := 3) dL_law_1138 (by decide) ?_
  refine x_iadd X0 dL_law_1139 ?_
  refine z_sld X h3 dL_law_1140 ?_
  refine x_aload_n X0 dL_law_1141 rfl 3 rfl ?_
  refine z_callW X (K := 4) (As := [.ref (ad 0), .int (xs (i + 1).toNatClampNeg), .int (xs (i + 2).toNatClampNeg), .int (xs (i + 3).toNatClampNeg), .ref (ad 87)]) [] dL_law_1142 (kL_run (hp σ τ ρ θ hR (xs (i + 1).toNatClampNeg) (xs (i + 2).toNatClampNeg) (xs (i + 3).toNatClampNeg))) lc_run ls_run w_5_174 (by decide) hj rfl (Nat.le_of_ble_eq_true rfl) ?_
  rintro V1 v σ1 τ1 X1 ⟨k, rfl, hq⟩
  have X2 := z_isX X1
  show V1 (z_c σ1 ρ) (z_cL τ1 θ) _ _ [.int k]
  refine x_istore X2 dL_law_1145 (by decide) rfl ?_
  refine x_aload_n X2 dL_law_1147 rfl 3 rfl ?_
  refine x_aload_n X2 dL_law_1148 rfl 1 rfl ?_
  refine x_iload X2 dL_law_1149 6 rfl ?_
  refine x_iconst X2 (v := 1) dL_law_1151 (by decide) ?_
  refine x_iadd X2 dL_law_1152 ?_
  refine z_sld X1 h1 dL_law_1153 ?_
  refine x_aload_n X2 dL_law_1154 rfl 1 rfl ?_
  refine x_iload X2 dL_law_1155 6 rfl ?_
  refine x_iconst X2 (v := 2) dL_law_1157 (by decide) ?_
  refine x_iadd X2 dL_law_1158 ?_
  refine z_sld X1 h2 dL_law_1159 ?_
  refine x_aload_n X2 dL_law_1160 rfl 1 rfl ?_
  refine x_iload X2 dL_law_1161 6 rfl ?_
  refine x_iconst X2 (v := 3) dL_law_1163 (by decide) ?_
  refine x_iadd X2 dL_law_1164 ?_
  refine z_sld X1 h3 dL_law_1165 ?_
  refine z_callM X1 (As := [.int (xs (i + 1).toNatClampNeg), .int (xs (i + 2).toNatClampNeg), .int (xs (i + 3).toNatClampNeg)]) [] dL_law_1166 (kX11_run hq) cm_X11_run ci_X11_run w_8_94 dsM_0 (by decide) rfl (Nat.le_of_ble_eq_true rfl) ?_
  rintro v ρ1 θ1 ⟨bb, rfl, hq⟩
  show V1 (z_c σ1 ρ1) (z_cL τ1 θ1) _ _ [.int bb]
  refine x_istore X2 dL_law_1169 (by decide) rfl ?_
  refine x_aload_n X2 dL_law_1171 rfl 4 rfl ?_
  refine z_callM X1 (As := []) [] dL_law_1172 (kX11_thrown hq) cm_X11_thrown ci_X11_thrown w_7_74 dsM_0 (by decide) rfl (Nat.le_of_ble_eq_true rfl) ?_
  rintro v ρ2 θ2 ⟨th, rfl, ht, hout, hR1⟩
  show V1 (z_c σ1 ρ2) (z_cL τ1 θ2) _ _ [.int th]
  refine x_iload X2 dL_law_1175 1 rfl ?_
  refine x_icmp_eq X2 1182 dL_law_1177 rfl (fun _ => ?_) (fun h => absurd ht h)
  refine x_iload X2 dL_law_1182 1 rfl ?_
  have fin : V1 (z_c σ1 ρ2) (z_cL τ1 θ2) 1199 [(7, .int bb), (6, .int k), (0, .ref b), (1, .ref (ad 0)), (2, .ref (ad 89)), (3, .ref (ad 87)), (4, .ref (ad 88)), (5, .int i)] [] := by
    refine x_goto X2 dL_law_1199 (tgt := 2634) rfl ?_
    exact x_sub X2 [2, 3, 4, 5, 6, 7] rfl (k9 V1 _ σ1 τ1 ρ2 θ2 (by omega) X1 hR1)
  refine x_if_ne X2 1199 dL_law_1184 rfl (fun _ => fin) (fun hk => ?_)
  refine x_aload_n X2 dL_law_1187 rfl 5 rfl ?_
  refine x_iconst X2 (v := 0) dL_law_1188 (by decide) ?_
  refine x_lald X2 (k := 87) (n := 1) dL_law_1189 rfl z_in0 ?_
  refine x_iload X2 dL_law_1190 0 rfl ?_
  refine x_i2l X2 dL_law_1192 ?_
  refine x_lcmp X2 dL_law_1193 ?_
  have e : (z_cL τ1 θ2) 87 (0 : Int32).toNatClampNeg = τ1 87 0 := rfl
  rw [e, hout hk, z_cmp0]
  exact x_if_eq X2 1199 dL_law_1194 rfl (fun _ => fin) (fun h => absurd rfl h)
/-- what the law asks of common -/
def z_p17 (R : x_S → x_L → x_S → x_L → Prop) : Prop := ∀ (σ : x_S) (τ : x_L) (ρ : x_S) (θ : x_L), R σ τ ρ θ → ∀ (a1 : Int32) (a2 : Int32), wL_common a1 a2 σ τ (fun k σ1 τ1 => wX11_common a1 a2 ρ θ (fun b ρ1 θ1 => wX11_thrown ρ1 θ1 (fun th ρ2 θ2 => th = k ∧ (k = 0 → τ1 87 0 = b.toInt64) ∧ R σ1 τ1 ρ2 θ2)))
set_option maxRecDepth 100000 in
set_option maxHeartbeats 4000000 in
theorem z_case17 {R : x_S → x_L → x_S → x_L → Prop} (hp : z_p17 R) {V : x_J} {ad : Nat → Nat} {b L : Nat} {xs : Nat → Int32} {j : Nat} {i : Int32} {σ ρ : x_S} {τ θ : x_L} (X : z_Is V ad b L xs j) (hj : j + 4 ≤ 600000) (h1 : vp_in (i + 1) L) (h2 : vp_in (i + 2) L) (h3 : vp_in (i + 3) L) (h4 : vp_in (i + 4) L) (h5 : vp_in (i + 5) L) (hR : R σ τ ρ θ)
    (k9 : ∀ (V' : x_J) (j' : Nat) (σ' : x_S) (τ' : x_L) (ρ' : x_S) (θ' : x_L), j' ≤ j + 4 → z_Is V' ad b L xs j' → R σ' τ' ρ' θ' → V' (z_c σ' ρ') (z_cL τ' θ') 2634 [(0, .ref b), (1, .ref (ad 0)), (2, .ref (ad 89)), (3, .ref (ad 87)), (4, .ref (ad 88)), (5, .int i)] []) : V (z_c σ ρ) (z_cL τ θ) 1202 [(0, .ref b), (1, .ref (ad 0)), (2, .ref (ad 89)), (3, .ref (ad 87)), (4, .ref (ad 88)), (5, .int i)] [] := by
  have X0 := z_isX X
  refine x_aload_n X0 dL_law_1202 rfl 1 rfl ?_
  refine x_aload_n X0 dL_law_1203 rfl 0 rfl ?_
  refine x_iload X0 dL_law_1204 5 rfl ?_
  refine x_iconst X0 (v := 1) dL_law_1206 (by decide) ?_
  refine x_iadd X0 dL_law_1207 ?_
  refine z_sld X h1 dL_law_1208 ?_
  refine x_aload_n X0 dL_law_1209 rfl 0 rfl ?_
  refine x_iload X0 dL_law_1210 5 rfl ?_
  refine x_iconst X0 (v := 2) dL_law_1212 (by decide) ?_
  refine x_iadd X0 dL_law_1213 ?_
  refine z_sld X h2 dL_law_1214 ?_
  refine x_aload_n X0 dL_law_1215 rfl 3 rfl ?_
  refine z_callW X (K := 4) (As := [.ref (ad 0), .int (xs (i + 1).toNatClampNeg), .int (xs (i + 2).toNatClampNeg), .ref (ad 87)]) [] dL_law_1216 (kL_common (hp σ τ ρ θ hR (xs (i + 1).toNatClampNeg) (xs (i + 2).toNatClampNeg))) lc_common ls_common w_5_202 (by decide) hj rfl (Nat.le_of_ble_eq_true rfl) ?_
  rintro V1 v σ1 τ1 X1 ⟨k, rfl, hq⟩
  have X2 := z_isX X1
  show V1 (z_c σ1 ρ) (z_cL τ1 θ) _ _ [.int k]
  refine x_istore X2 dL_law_1219 (by decide) rfl ?_
  refine x_aload_n X2 dL_law_1221 rfl 3 rfl ?_
  refine x_aload_n X2 dL_law_1222 rfl 1 rfl ?_
  refine x_iload X2 dL_law_1223 6 rfl ?_
  refine x_iconst X2 (v := 1) dL_law_1225 (by decide) ?_
  refine x_iadd X2 dL_law_1226 ?_
  refine z_sld X1 h1 dL_law_1227 ?_
  refine x_aload_n X2 dL_law_1228 rfl 1 rfl ?_
  refine x_iload X2 dL_law_1229 6 rfl ?_
  refine x_iconst X2 (v := 2) dL_law_1231 (by decide) ?_
  refine x_iadd X2 dL_law_1232 ?_
  refine z_sld X1 h2 dL_law_1233 ?_
  refine z_callM X1 (As := [.int (xs (i + 1).toNatClampNeg), .int (xs (i + 2).toNatClampNeg)]) [] dL_law_1234 (kX11_common hq) cm_X11_common ci_X11_common w_8_107 dsM_0 (by decide) rfl (Nat.le_of_ble_eq_true rfl) ?_
  rintro v ρ1 θ1 ⟨bb, rfl, hq⟩
  show V1 (z_c σ1 ρ1) (z_cL τ1 θ1) _ _ [.int bb]
  refine x_istore X2 dL_law_1237 (by decide) rfl ?_
  refine x_aload_n X2 dL_law_1239 rfl 4 rfl ?_
  refine z_callM X1 (As := []) [] dL_law_1240 (kX11_thrown hq) cm_X11_thrown ci_X11_thrown w_7_74 dsM_0 (by decide) rfl (Nat.le_of_ble_eq_true rfl) ?_
  rintro v ρ2 θ2 ⟨th, rfl, ht, hout, hR1⟩
  show V1 (z_c σ1 ρ2) (z_cL τ1 θ2) _ _ [.int th]
  refine x_iload X2 dL_law_1243 1 rfl ?_
  refine x_icmp_eq X2 1250 dL_law_1245 rfl (fun _ => ?_) (fun h => absurd ht h)
  refine x_iload X2 dL_law_1250 1 rfl ?_
  have fin : V1 (z_c σ1 ρ2) (z_cL τ1 θ2) 1267 [(7, .int bb), (6, .int k), (0, .ref b), (1, .ref (ad 0)), (2, .ref (ad 89)), (3, .ref (ad 87)), (4, .ref (ad 88)), (5, .int i)] [] := by
    refine x_goto X2 dL_law_1267 (tgt := 2634) rfl ?_
    exact x_sub X2 [2, 3, 4, 5, 6, 7] rfl (k9 V1 _ σ1 τ1 ρ2 θ2 (by omega) X1 hR1)
  refine x_if_ne X2 1267 dL_law_1252 rfl (fun _ => fin) (fun hk => ?_)
  refine x_aload_n X2 dL_law_1255 rfl 5 rfl ?_
  refine x_iconst X2 (v := 0) dL_law_1256 (by decide) ?_
  refine x_lald X2 (k := 87) (n := 1) dL_law_1257 rfl z_in0 ?_
  refine x_iload X2 dL_law_1258 0 rfl ?_
  refine x_i2l X2 dL_law_1260 ?_
  refine x_lcmp X2 dL_law_1261 ?_
  have e : (z_cL τ1 θ2) 87 (0 : Int32).toNatClampNeg = τ1 87 0 := rfl
  rw [e, hout hk, z_cmp0]
  exact x_if_eq X2 1267 dL_law_1262 rfl (fun _ => fin) (fun h => absurd rfl h)
/-- what the law asks of slack -/
def z_p18 (R : x_S → x_L → x_S → x_L → Prop) : Prop := ∀ (σ : x_S) (τ : x_L) (ρ : x_S) (θ : x_L), R σ τ ρ θ → ∀ (a1 : Int32), wL_slack a1 σ τ (fun k σ1 τ1 => wX11_slack a1 ρ θ (fun b ρ1 θ1 => wX11_thrown ρ1 θ1 (fun th ρ2 θ2 => th = k ∧ (k = 0 → τ1 87 0 = b.toInt64) ∧ R σ1 τ1 ρ2 θ2)))
set_option maxRecDepth 100000 in
set_option maxHeartbeats 4000000 in
theorem z_case18 {R : x_S → x_L → x_S → x_L → Prop} (hp : z_p18 R) {V : x_J} {ad : Nat → Nat} {b L : Nat} {xs : Nat → Int32} {j : Nat} {i : Int32} {σ ρ : x_S} {τ θ : x_L} (X : z_Is V ad b L xs j) (hj : j + 4 ≤ 600000) (h1 : vp_in (i + 1) L) (h2 : vp_in (i + 2) L) (h3 : vp_in (i + 3) L) (h4 : vp_in (i + 4) L) (h5 : vp_in (i + 5) L) (hR : R σ τ ρ θ)
    (k9 : ∀ (V' : x_J) (j' : Nat) (σ' : x_S) (τ' : x_L) (ρ' : x_S) (θ' : x_L), j' ≤ j + 4 → z_Is V' ad b L xs j' → R σ' τ' ρ' θ' → V' (z_c σ' ρ') (z_cL τ' θ') 2634 [(0, .ref b), (1, .ref (ad 0)), (2, .ref (ad 89)), (3, .ref (ad 87)), (4, .ref (ad 88)), (5, .int i)] []) : V (z_c σ ρ) (z_cL τ θ) 1270 [(0, .ref b), (1, .ref (ad 0)), (2, .ref (ad 89)), (3, .ref (ad 87)), (4, .ref (ad 88)), (5, .int i)] [] := by
  have X0 := z_isX X
  refine x_aload_n X0 dL_law_1270 rfl 1 rfl ?_
  refine x_aload_n X0 dL_law_1271 rfl 0 rfl ?_
  refine x_iload X0 dL_law_1272 5 rfl ?_
  refine x_iconst X0 (v := 1) dL_law_1274 (by decide) ?_
  refine x_iadd X0 dL_law_1275 ?_
  refine z_sld X h1 dL_law_1276 ?_
  refine x_aload_n X0 dL_law_1277 rfl 3 rfl ?_
  refine z_callW X (K := 4) (As := [.ref (ad 0), .int (xs (i + 1).toNatClampNeg), .ref (ad 87)]) [] dL_law_1278 (kL_slack (hp σ τ ρ θ hR (xs (i + 1).toNatClampNeg))) lc_slack ls_slack w_5_214 (by decide) hj rfl (Nat.le_of_ble_eq_true rfl) ?_
  rintro V1 v σ1 τ1 X1 ⟨k, rfl, hq⟩
  have X2 := z_isX X1
  show V1 (z_c σ1 ρ) (z_cL τ1 θ) _ _ [.int k]
  refine x_istore X2 dL_law_1281 (by decide) rfl ?_
  refine x_aload_n X2 dL_law_1283 rfl 3 rfl ?_
  refine x_aload_n X2 dL_law_1284 rfl 1 rfl ?_
  refine x_iload X2 dL_law_1285 6 rfl ?_
  refine x_iconst X2 (v := 1) dL_law_1287 (by decide) ?_
  refine x_iadd X2 dL_law_1288 ?_
  refine z_sld X1 h1 dL_law_1289 ?_
  refine z_callM X1 (As := [.int (xs (i + 1).toNatClampNeg)]) [] dL_law_1290 (kX11_slack hq) cm_X11_slack ci_X11_slack w_8_111 dsM_0 (by decide) rfl (Nat.le_of_ble_eq_true rfl) ?_
  rintro v ρ1 θ1 ⟨bb, rfl, hq⟩
  show V1 (z_c σ1 ρ1) (z_cL τ1 θ1) _ _ [.int bb]
  refine x_istore X2 dL_law_1293 (by decide) rfl ?_
  refine x_aload_n X2 dL_law_1295 rfl 4 rfl ?_
  refine z_callM X1 (As := []) [] dL_law_1296 (kX11_thrown hq) cm_X11_thrown ci_X11_thrown w_7_74 dsM_0 (by decide) rfl (Nat.le_of_ble_eq_true rfl) ?_
  rintro v ρ2 θ2 ⟨th, rfl, ht, hout, hR1⟩
  show V1 (z_c σ1 ρ2) (z_cL τ1 θ2) _ _ [.int th]
  refine x_iload X2 dL_law_1299 1 rfl ?_
  refine x_icmp_eq X2 1306 dL_law_1301 rfl (fun _ => ?_) (fun h => absurd ht h)
  refine x_iload X2 dL_law_1306 1 rfl ?_
  have fin : V1 (z_c σ1 ρ2) (z_cL τ1 θ2) 1323 [(7, .int bb), (6, .int k), (0, .ref b), (1, .ref (ad 0)), (2, .ref (ad 89)), (3, .ref (ad 87)), (4, .ref (ad 88)), (5, .int i)] [] := by
    refine x_goto X2 dL_law_1323 (tgt := 2634) rfl ?_
    exact x_sub X2 [2, 3, 4, 5, 6, 7] rfl (k9 V1 _ σ1 τ1 ρ2 θ2 (by omega) X1 hR1)
  refine x_if_ne X2 1323 dL_law_1308 rfl (fun _ => fin) (fun hk => ?_)
  refine x_aload_n X2 dL_law_1311 rfl 5 rfl ?_
  refine x_iconst X2 (v := 0) dL_law_1312 (by decide) ?_
  refine x_lald X2 (k := 87) (n := 1) dL_law_1313 rfl z_in0 ?_
  refine x_iload X2 dL_law_1314 0 rfl ?_
  refine x_i2l X2 dL_law_1316 ?_
  refine x_lcmp X2 dL_law_1317 ?_
  have e : (z_cL τ1 θ2) 87 (0 : Int32).toNatClampNeg = τ1 87 0 := rfl
  rw [e, hout hk, z_cmp0]
  exact x_if_eq X2 1323 dL_law_1318 rfl (fun _ => fin) (fun h => absurd rfl h)
/-- what the law asks of neededSpeed -/
def z_p19 (R : x_S → x_L → x_S → x_L → Prop) : Prop := ∀ (σ : x_S) (τ : x_L) (ρ : x_S) (θ : x_L), R σ τ ρ θ → ∀ (a1 : Int32) (a2 : Int32) (a3 : Int32), wL_neededSpeed a1 a2 a3 σ τ (fun k σ1 τ1 => wX11_neededSpeed a1 a2 a3 ρ θ (fun b ρ1 θ1 => wX11_thrown ρ1 θ1 (fun th ρ2 θ2 => th = k ∧ (k = 0 → τ1 87 0 = b.toInt64) ∧ R σ1 τ1 ρ2 θ2)))
set_option maxRecDepth 100000 in
set_option maxHeartbeats 4000000 in
theorem z_case19 {R : x_S → x_L → x_S → x_L → Prop} (hp : z_p19 R) {V : x_J} {ad : Nat → Nat} {b L : Nat} {xs : Nat → Int32} {j : Nat} {i : Int32} {σ ρ : x_S} {τ θ : x_L} (X : z_Is V ad b L xs j) (hj : j + 4 ≤ 600000) (h1 : vp_in (i + 1) L) (h2 : vp_in (i + 2) L) (h3 : vp_in (i + 3) L) (h4 : vp_in (i + 4) L) (h5 : vp_in (i + 5) L) (hR : R σ τ ρ θ)
    (k9 : ∀ (V' : x_J) (j' : Nat) (σ' : x_S) (τ' : x_L) (ρ' : x_S) (θ' : x_L), j' ≤ j + 4 → z_Is V' ad b L xs j' → R σ' τ' ρ' θ' → V' (z_c σ' ρ') (z_cL τ' θ') 2634 [(0, .ref b), (1, .ref (ad 0)), (2, .ref (ad 89)), (3, .ref (ad 87)), (4, .ref (ad 88)), (5, .int i)] []) : V (z_c σ ρ) (z_cL τ θ) 1326 [(0, .ref b), (1, .ref (ad 0)), (2, .ref (ad 89)), (3, .ref (ad 87)), (4, .ref (ad 88)), (5, .int i)] [] := by
  have X0 := z_isX X
  refine x_aload_n X0 dL_law_1326 rfl 1 rfl ?_
  refine x_aload_n X0 dL_law_1327 rfl 0 rfl ?_
  refine x_iload X0 dL_law_1328 5 rfl ?_
  refine x_iconst X0 (v := 1) dL_law_1330 (by decide) ?_
  refine x_iadd X0 dL_law_1331 ?_
  refine z_sld X h1 dL_law_1332 ?_
  refine x_aload_n X0 dL_law_1333 rfl 0 rfl ?_
  refine x_iload X0 dL_law_1334 5 rfl ?_
  refine x_iconst X0 (v := 2) dL_law_1336 (by decide) ?_
  refine x_iadd X0 dL_law_1337 ?_
  refine z_sld X h2 dL_law_1338 ?_
  refine x_aload_n X0 dL_law_1339 rfl 0 rfl ?_
  refine x_iload X0 dL_law_1340 5 rfl ?_
  refine x_iconst X0 (v := 3) dL_law_1342 (by decide) ?_
  refine x_iadd X0 dL_law_1343 ?_
  refine z_sld X h3 dL_law_1344 ?_
  refine x_aload_n X0 dL_law_1345 rfl 3 rfl ?_
  refine z_callW X (K := 4) (As := [.ref (ad 0), .int (xs (i + 1).toNatClampNeg), .int (xs (i + 2).toNatClampNeg), .int (xs (i + 3).toNatClampNeg), .ref (ad 87)]) [] dL_law_1346 (kL_neededSpeed (hp σ τ ρ θ hR (xs (i + 1).toNatClampNeg) (xs (i + 2).toNatClampNeg) (xs (i + 3).toNatClampNeg))) lc_neededSpeed ls_neededSpeed w_5_221 (by decide) hj rfl (Nat.le_of_ble_eq_true rfl) ?_
  rintro V1 v σ1 τ1 X1 ⟨k, rfl, hq⟩
  have X2 := z_isX X1
  show V1 (z_c σ1 ρ) (z_cL τ1 θ) _ _ [.int k]
  refine x_istore X2 dL_law_1349 (by decide) rfl ?_
  refine x_aload_n X2 dL_law_1351 rfl 3 rfl ?_
  refine x_aload_n X2 dL_law_1352 rfl 1 rfl ?_
  refine x_iload X2 dL_law_1353 6 rfl ?_
  refine x_iconst X2 (v := 1) dL_law_1355 (by decide) ?_
  refine x_iadd X2 dL_law_1356 ?_
  refine z_sld X1 h1 dL_law_1357 ?_
  refine x_aload_n X2 dL_law_1358 rfl 1 rfl ?_
  refine x_iload X2 dL_law_1359 6 rfl ?_
  refine x_iconst X2 (v := 2) dL_law_1361 (by decide) ?_
  refine x_iadd X2 dL_law_1362 ?_
  refine z_sld X1 h2 dL_law_1363 ?_
  refine x_aload_n X2 dL_law_1364 rfl 1 rfl ?_
  refine x_iload X2 dL_law_1365 6 rfl ?_
  refine x_iconst X2 (v := 3) dL_law_1367 (by decide) ?_
  refine x_iadd X2 dL_law_1368 ?_
  refine z_sld X1 h3 dL_law_1369 ?_
  refine z_callM X1 (As := [.int (xs (i + 1).toNatClampNeg), .int (xs (i + 2).toNatClampNeg), .int (xs (i + 3).toNatClampNeg)]) [] dL_law_1370 (kX11_neededSpeed hq) cm_X11_neededSpeed ci_X11_neededSpeed w_8_115 dsM_0 (by decide) rfl (Nat.le_of_ble_eq_true rfl) ?_
  rintro v ρ1 θ1 ⟨bb, rfl, hq⟩
  show V1 (z_c σ1 ρ1) (z_cL τ1 θ1) _ _ [.int bb]
  refine x_istore X2 dL_law_1373 (by decide) rfl ?_
  refine x_aload_n X2 dL_law_1375 rfl 4 rfl ?_
  refine z_callM X1 (As := []) [] dL_law_1376 (kX11_thrown hq) cm_X11_thrown ci_X11_thrown w_7_74 dsM_0 (by decide) rfl (Nat.le_of_ble_eq_true rfl) ?_
  rintro v ρ2 θ2 ⟨th, rfl, ht, hout, hR1⟩
  show V1 (z_c σ1 ρ2) (z_cL τ1 θ2) _ _ [.int th]
  refine x_iload X2 dL_law_1379 1 rfl ?_
  refine x_icmp_eq X2 1386 dL_law_1381 rfl (fun _ => ?_) (fun h => absurd ht h)
  refine x_iload X2 dL_law_1386 1 rfl ?_
  have fin : V1 (z_c σ1 ρ2) (z_cL τ1 θ2) 1403 [(7, .int bb), (6, .int k), (0, .ref b), (1, .ref (ad 0)), (2, .ref (ad 89)), (3, .ref (ad 87)), (4, .ref (ad 88)), (5, .int i)] [] := by
    refine x_goto X2 dL_law_1403 (tgt := 2634) rfl ?_
    exact x_sub X2 [2, 3, 4, 5, 6, 7] rfl (k9 V1 _ σ1 τ1 ρ2 θ2 (by omega) X1 hR1)
  refine x_if_ne X2 1403 dL_law_1388 rfl (fun _ => fin) (fun hk => ?_)
  refine x_aload_n X2 dL_law_1391 rfl 5 rfl ?_
  refine x_iconst X2 (v := 0) dL_law_1392 (by decide) ?_
  refine x_lald X2 (k := 87) (n := 1) dL_law_1393 rfl z_in0 ?_
  refine x_iload X2 dL_law_1394 0 rfl ?_
  refine x_i2l X2 dL_law_1396 ?_
  refine x_lcmp X2 dL_law_1397 ?_
  have e : (z_cL τ1 θ2) 87 (0 : Int32).toNatClampNeg = τ1 87 0 := rfl
  rw [e, hout hk, z_cmp0]
  exact x_if_eq X2 1403 dL_law_1398 rfl (fun _ => fin) (fun h => absurd rfl h)
/-- what the law asks of setWait -/
def z_p20 (R : x_S → x_L → x_S → x_L → Prop) : Prop := ∀ (σ : x_S) (τ : x_L) (ρ : x_S) (θ : x_L), R σ τ ρ θ → ∀ (a1 : Int32) (a2 : Int32) (a3 : Int32), wL_setWait a1 a2 a3 σ τ (fun k σ1 τ1 => wX11_setWait a1 a2 a3 ρ θ (fun b ρ1 θ1 => wX11_thrown ρ1 θ1 (fun th ρ2 θ2 => th = k ∧ (k = 0 → τ1 87 0 = b.toInt64) ∧ R σ1 τ1 ρ2 θ2)))
set_option maxRecDepth 100000 in
set_option maxHeartbeats 4000000 in
theorem z_case20 {R : x_S → x_L → x_S → x_L → Prop} (hp : z_p20 R) {V : x_J} {ad : Nat → Nat} {b L : Nat} {xs : Nat → Int32} {j : Nat} {i : Int32} {σ ρ : x_S} {τ θ : x_L} (X : z_Is V ad b L xs j) (hj : j + 4 ≤ 600000) (h1 : vp_in (i + 1) L) (h2 : vp_in (i + 2) L) (h3 : vp_in (i + 3) L) (h4 : vp_in (i + 4) L) (h5 : vp_in (i + 5) L) (hR : R σ τ ρ θ)
    (k9 : ∀ (V' : x_J) (j' : Nat) (σ' : x_S) (τ' : x_L) (ρ' : x_S) (θ' : x_L), j' ≤ j + 4 → z_Is V' ad b L xs j' → R σ' τ' ρ' θ' → V' (z_c σ' ρ') (z_cL τ' θ') 2634 [(0, .ref b), (1, .ref (ad 0)), (2, .ref (ad 89)), (3, .ref (ad 87)), (4, .ref (ad 88)), (5, .int i)] []) : V (z_c σ ρ) (z_cL τ θ) 1406 [(0, .ref b), (1, .ref (ad 0)), (2, .ref (ad 89)), (3, .ref (ad 87)), (4, .ref (ad 88)), (5, .int i)] [] := by
  have X0 := z_isX X
  refine x_aload_n X0 dL_law_1406 rfl 1 rfl ?_
  refine x_aload_n X0 dL_law_1407 rfl 0 rfl ?_
  refine x_iload X0 dL_law_1408 5 rfl ?_
  refine x_iconst X0 (v := 1) dL_law_1410 (by decide) ?_
  refine x_iadd X0 dL_law_1411 ?_
  refine z_sld X h1 dL_law_1412 ?_
  refine x_aload_n X0 dL_law_1413 rfl 0 rfl ?_
  refine x_iload X0 dL_law_1414 5 rfl ?_
  refine x_iconst X0 (v := 2) dL_law_1416 (by decide) ?_
  refine x_iadd X0 dL_law_1417 ?_
  refine z_sld X h2 dL_law_1418 ?_
  refine x_aload_n X0 dL_law_1419 rfl 0 rfl ?_
  refine x_iload X0 dL_law_1420 5 rfl ?_
  refine x_iconst X0 (v := 3) dL_law_1422 (by decide) ?_
  refine x_iadd X0 dL_law_1423 ?_
  refine z_sld X h3 dL_law_1424 ?_
  refine x_aload_n X0 dL_law_1425 rfl 3 rfl ?_
  refine z_callW X (K := 4) (As := [.ref (ad 0), .int (xs (i + 1).toNatClampNeg), .int (xs (i + 2).toNatClampNeg), .int (xs (i + 3).toNatClampNeg), .ref (ad 87)]) [] dL_law_1426 (kL_setWait (hp σ τ ρ θ hR (xs (i + 1).toNatClampNeg) (xs (i + 2).toNatClampNeg) (xs (i + 3).toNatClampNeg))) lc_setWait ls_setWait w_5_229 (by decide) hj rfl (Nat.le_of_ble_eq_true rfl) ?_
  rintro V1 v σ1 τ1 X1 ⟨k, rfl, hq⟩
  have X2 := z_isX X1
  show V1 (z_c σ1 ρ) (z_cL τ1 θ) _ _ [.int k]
  refine x_istore X2 dL_law_1429 (by decide) rfl ?_
  refine x_aload_n X2 dL_law_1431 rfl 3 rfl ?_
  refine x_aload_n X2 dL_law_1432 rfl 1 rfl ?_
  refine x_iload X2 dL_law_1433 6 rfl ?_
  refine x_iconst X2 (v := 1) dL_law_1435 (by decide) ?_
  refine x_iadd X2 dL_law_1436 ?_
  refine z_sld X1 h1 dL_law_1437 ?_
  refine x_aload_n X2 dL_law_1438 rfl 1 rfl ?_
  refine x_iload X2 dL_law_1439 6 rfl ?_
  refine x_iconst X2 (v := 2) dL_law_1441 (by decide) ?_
  refine x_iadd X2 dL_law_1442 ?_
  refine z_sld X1 h2 dL_law_1443 ?_
  refine x_aload_n X2 dL_law_1444 rfl 1 rfl ?_
  refine x_iload X2 dL_law_1445 6 rfl ?_
  refine x_iconst X2 (v := 3) dL_law_1447 (by decide) ?_
  refine x_iadd X2 dL_law_1448 ?_
  refine z_sld X1 h3 dL_law_1449 ?_
  refine z_callM X1 (As := [.int (xs (i + 1).toNatClampNeg), .int (xs (i + 2).toNatClampNeg), .int (xs (i + 3).toNatClampNeg)]) [] dL_law_1450 (kX11_setWait hq) cm_X11_setWait ci_X11_setWait w_8_124 dsM_0 (by decide) rfl (Nat.le_of_ble_eq_true rfl) ?_
  rintro v ρ1 θ1 ⟨bb, rfl, hq⟩
  show V1 (z_c σ1 ρ1) (z_cL τ1 θ1) _ _ [.int bb]
  refine x_istore X2 dL_law_1453 (by decide) rfl ?_
  refine x_aload_n X2 dL_law_1455 rfl 4 rfl ?_
  refine z_callM X1 (As := []) [] dL_law_1456 (kX11_thrown hq) cm_X11_thrown ci_X11_thrown w_7_74 dsM_0 (by decide) rfl (Nat.le_of_ble_eq_true rfl) ?_
  rintro v ρ2 θ2 ⟨th, rfl, ht, hout, hR1⟩
  show V1 (z_c σ1 ρ2) (z_cL τ1 θ2) _ _ [.int th]
  refine x_iload X2 dL_law_1459 1 rfl ?_
  refine x_icmp_eq X2 1466 dL_law_1461 rfl (fun _ => ?_) (fun h => absurd ht h)
  refine x_iload X2 dL_law_1466 1 rfl ?_
  have fin : V1 (z_c σ1 ρ2) (z_cL τ1 θ2) 1483 [(7, .int bb), (6, .int k), (0, .ref b), (1, .ref (ad 0)), (2, .ref (ad 89)), (3, .ref (ad 87)), (4, .ref (ad 88)), (5, .int i)] [] := by
    refine x_goto X2 dL_law_1483 (tgt := 2634) rfl ?_
    exact x_sub X2 [2, 3, 4, 5, 6, 7] rfl (k9 V1 _ σ1 τ1 ρ2 θ2 (by omega) X1 hR1)
  refine x_if_ne X2 1483 dL_law_1468 rfl (fun _ => fin) (fun hk => ?_)
  refine x_aload_n X2 dL_law_1471 rfl 5 rfl ?_
  refine x_iconst X2 (v := 0) dL_law_1472 (by decide) ?_
  refine x_lald X2 (k := 87) (n := 1) dL_law_1473 rfl z_in0 ?_
  refine x_iload X2 dL_law_1474 0 rfl ?_
  refine x_i2l X2 dL_law_1476 ?_
  refine x_lcmp X2 dL_law_1477 ?_
  have e : (z_cL τ1 θ2) 87 (0 : Int32).toNatClampNeg = τ1 87 0 := rfl
  rw [e, hout hk, z_cmp0]
  exact x_if_eq X2 1483 dL_law_1478 rfl (fun _ => fin) (fun h => absurd rfl h)
/-- what the law asks of setSpeed -/
def z_p21 (R : x_S → x_L → x_S → x_L → Prop) : Prop := ∀ (σ : x_S) (τ : x_L) (ρ : x_S) (θ : x_L), R σ τ ρ θ → ∀ (a1 : Int32) (a2 : Int32) (a3 : Int32), wL_setSpeed a1 a2 a3 σ τ (fun k σ1 τ1 => wX11_setSpeed a1 a2 a3 ρ θ (fun b ρ1 θ1 => wX11_thrown ρ1 θ1 (fun th ρ2 θ2 => th = k ∧ (k = 0 → τ1 87 0 = b.toInt64) ∧ R σ1 τ1 ρ2 θ2)))
set_option maxRecDepth 100000 in
set_option maxHeartbeats 4000000 in
theorem z_case21 {R : x_S → x_L → x_S → x_L → Prop} (hp : z_p21 R) {V : x_J} {ad : Nat → Nat} {b L : Nat} {xs : Nat → Int32} {j : Nat} {i : Int32} {σ ρ : x_S} {τ θ : x_L} (X : z_Is V ad b L xs j) (hj : j + 4 ≤ 600000) (h1 : vp_in (i + 1) L) (h2 : vp_in (i + 2) L) (h3 : vp_in (i + 3) L) (h4 : vp_in (i + 4) L) (h5 : vp_in (i + 5) L) (hR : R σ τ ρ θ)
    (k9 : ∀ (V' : x_J) (j' : Nat) (σ' : x_S) (τ' : x_L) (ρ' : x_S) (θ' : x_L), j' ≤ j + 4 → z_Is V' ad b L xs j' → R σ' τ' ρ' θ' → V' (z_c σ' ρ') (z_cL τ' θ') 2634 [(0, .ref b), (1, .ref (ad 0)), (2, .ref (ad 89)), (3, .ref (ad 87)), (4, .ref (ad 88)), (5, .int i)] []) : V (z_c σ ρ) (z_cL τ θ) 1486 [(0, .ref b), (1, .ref (ad 0)), (2, .ref (ad 89)), (3, .ref (ad 87)), (4, .ref (ad 88)), (5, .int i)] [] := by
  have X0 := z_isX X
  refine x_aload_n X0 dL_law_1486 rfl 1 rfl ?_
  refine x_aload_n X0 dL_law_1487 rfl 0 rfl ?_
  refine x_iload X0 dL_law_1488 5 rfl ?_
  refine x_iconst X0 (v := 1) dL_law_1490 (by decide) ?_
  refine x_iadd X0 dL_law_1491 ?_
  refine z_sld X h1 dL_law_1492 ?_
  refine x_aload_n X0 dL_law_1493 rfl 0 rfl ?_
  refine x_iload X0 dL_law_1494 5 rfl ?_
  refine x_iconst X0 (v := 2) dL_law_1496 (by decide) ?_
  refine x_iadd X0 dL_law_1497 ?_
  refine z_sld X h2 dL_law_1498 ?_
  refine x_aload_n X0 dL_law_1499 rfl 0 rfl ?_
  refine x_iload X0 dL_law_1500 5 rfl ?_
  refine x_iconst X0 (v := 3) dL_law_1502 (by decide) ?_
  refine x_iadd X0 dL_law_1503 ?_
  refine z_sld X h3 dL_law_1504 ?_
  refine x_aload_n X0 dL_law_1505 rfl 3 rfl ?_
  refine z_callW X (K := 4) (As := [.ref (ad 0), .int (xs (i + 1).toNatClampNeg), .int (xs (i + 2).toNatClampNeg), .int (xs (i + 3).toNatClampNeg), .ref (ad 87)]) [] dL_law_1506 (kL_setSpeed (hp σ τ ρ θ hR (xs (i + 1).toNatClampNeg) (xs (i + 2).toNatClampNeg) (xs (i + 3).toNatClampNeg))) lc_setSpeed ls_setSpeed w_5_236 (by decide) hj rfl (Nat.le_of_ble_eq_true rfl) ?_
  rintro V1 v σ1 τ1 X1 ⟨k, rfl, hq⟩
  have X2 := z_isX X1
  show V1 (z_c σ1 ρ) (z_cL τ1 θ) _ _ [.int k]
  refine x_istore X2 dL_law_1509 (by decide) rfl ?_
  refine x_aload_n X2 dL_law_1511 rfl 3 rfl ?_
  refine x_aload_n X2 dL_law_1512 rfl 1 rfl ?_
  refine x_iload X2 dL_law_1513 6 rfl ?_
  refine x_iconst X2 (v := 1) dL_law_1515 (by decide) ?_
  refine x_iadd X2 dL_law_1516 ?_
  refine z_sld X1 h1 dL_law_1517 ?_
  refine x_aload_n X2 dL_law_1518 rfl 1 rfl ?_
  refine x_iload X2 dL_law_1519 6 rfl ?_
  refine x_iconst X2 (v := 2) dL_law_1521 (by decide) ?_
  refine x_iadd X2 dL_law_1522 ?_
  refine z_sld X1 h2 dL_law_1523 ?_
  refine x_aload_n X2 dL_law_1524 rfl 1 rfl ?_
  refine x_iload X2 dL_law_1525 6 rfl ?_
  refine x_iconst X2 (v := 3) dL_law_1527 (by decide) ?_
  refine x_iadd X2 dL_law_1528 ?_
  refine z_sld X1 h3 dL_law_1529 ?_
  refine z_callM X1 (As := [.int (xs (i + 1).toNatClampNeg), .int (xs (i + 2).toNatClampNeg), .int (xs (i + 3).toNatClampNeg)]) [] dL_law_1530 (kX11_setSpeed hq) cm_X11_setSpeed ci_X11_setSpeed w_8_137 dsM_0 (by decide) rfl (Nat.le_of_ble_eq_true rfl) ?_
  rintro v ρ1 θ1 ⟨bb, rfl, hq⟩
  show V1 (z_c σ1 ρ1) (z_cL τ1 θ1) _ _ [.int bb]
  refine x_istore X2 dL_law_1533 (by decide) rfl ?_
  refine x_aload_n X2 dL_law_1535 rfl 4 rfl ?_
  refine z_callM X1 (As := []) [] dL_law_1536 (kX11_thrown hq) cm_X11_thrown ci_X11_thrown w_7_74 dsM_0 (by decide) rfl (Nat.le_of_ble_eq_true rfl) ?_
  rintro v ρ2 θ2 ⟨th, rfl, ht, hout, hR1⟩
  show V1 (z_c σ1 ρ2) (z_cL τ1 θ2) _ _ [.int th]
  refine x_iload X2 dL_law_1539 1 rfl ?_
  refine x_icmp_eq X2 1546 dL_law_1541 rfl (fun _ => ?_) (fun h => absurd ht h)
  refine x_iload X2 dL_law_1546 1 rfl ?_
  have fin : V1 (z_c σ1 ρ2) (z_cL τ1 θ2) 1563 [(7, .int bb), (6, .int k), (0, .ref b), (1, .ref (ad 0)), (2, .ref (ad 89)), (3, .ref (ad 87)), (4, .ref (ad 88)), (5, .int i)] [] := by
    refine x_goto X2 dL_law_1563 (tgt := 2634) rfl ?_
    exact x_sub X2 [2, 3, 4, 5, 6, 7] rfl (k9 V1 _ σ1 τ1 ρ2 θ2 (by omega) X1 hR1)
  refine x_if_ne X2 1563 dL_law_1548 rfl (fun _ => fin) (fun hk => ?_)
  refine x_aload_n X2 dL_law_1551 rfl 5 rfl ?_
  refine x_iconst X2 (v := 0) dL_law_1552 (by decide) ?_
  refine x_lald X2 (k := 87) (n := 1) dL_law_1553 rfl z_in0 ?_
  refine x_iload X2 dL_law_1554 0 rfl ?_
  refine x_i2l X2 dL_law_1556 ?_
  refine x_lcmp X2 dL_law_1557 ?_
  have e : (z_cL τ1 θ2) 87 (0 : Int32).toNatClampNeg = τ1 87 0 := rfl
  rw [e, hout hk, z_cmp0]
  exact x_if_eq X2 1563 dL_law_1558 rfl (fun _ => fin) (fun h => absurd rfl h)
/-- what the law asks of setStart -/
def z_p22 (R : x_S → x_L → x_S → x_L → Prop) : Prop := ∀ (σ : x_S) (τ : x_L) (ρ : x_S) (θ : x_L), R σ τ ρ θ → ∀ (a1 : Int32) (a2 : Int32), wL_setStart a1 a2 σ τ (fun k σ1 τ1 => wX11_setStart a1 a2 ρ θ (fun b ρ1 θ1 => wX11_thrown ρ1 θ1 (fun th ρ2 θ2 => th = k ∧ (k = 0 → τ1 87 0 = b.toInt64) ∧ R σ1 τ1 ρ2 θ2)))
set_option maxRecDepth 100000 in
set_option maxHeartbeats 4000000 in
theorem z_case22 {R : x_S → x_L → x_S → x_L → Prop} (hp : z_p22 R) {V : x_J} {ad : Nat → Nat} {b L : Nat} {xs : Nat → Int32} {j : Nat} {i : Int32} {σ ρ : x_S} {τ θ : x_L} (X : z_Is V ad b L xs j) (hj : j + 4 ≤ 600000) (h1 : vp_in (i + 1) L) (h2 : vp_in (i + 2) L) (h3 : vp_in (i + 3) L) (h4 : vp_in (i + 4) L) (h5 : vp_in (i + 5) L) (hR : R σ τ ρ θ)
    (k9 : ∀ (V' : x_J) (j' : Nat) (σ' : x_S) (τ' : x_L) (ρ' : x_S) (θ' : x_L), j' ≤ j + 4 → z_Is V' ad b L xs j' → R σ' τ' ρ' θ' → V' (z_c σ' ρ') (z_cL τ' θ') 2634 [(0, .ref b), (1, .ref (ad 0)), (2, .ref (ad 89)), (3, .ref (ad 87)), (4, .ref (ad 88)), (5, .int i)] []) : V (z_c σ ρ) (z_cL τ θ) 1566 [(0, .ref b), (1, .ref (ad 0)), (2, .ref (ad 89)), (3, .ref (ad 87)), (4, .ref (ad 88)), (5, .int i)] [] := by
  have X0 := z_isX X
  refine x_aload_n X0 dL_law_1566 rfl 1 rfl ?_
  refine x_aload_n X0 dL_law_1567 rfl 0 rfl ?_
  refine x_iload X0 dL_law_1568 5 rfl ?_
  refine x_iconst X0 (v := 1) dL_law_1570 (by decide) ?_
  refine x_iadd X0 dL_law_1571 ?_
  refine z_sld X h1 dL_law_1572 ?_
  refine x_aload_n X0 dL_law_1573 rfl 0 rfl ?_
  refine x_iload X0 dL_law_1574 5 rfl ?_
  refine x_iconst X0 (v := 2) dL_law_1576 (by decide) ?_
  refine x_iadd X0 dL_law_1577 ?_
  refine z_sld X h2 dL_law_1578 ?_
  refine x_aload_n X0 dL_law_1579 rfl 3 rfl ?_
  refine z_callW X (K := 4) (As := [.ref (ad 0), .int (xs (i + 1).toNatClampNeg), .int (xs (i + 2).toNatClampNeg), .ref (ad 87)]) [] dL_law_1580 (kL_setStart (hp σ τ ρ θ hR (xs (i + 1).toNatClampNeg) (xs (i + 2).toNatClampNeg))) lc_setStart ls_setStart w_6_3 (by decide) hj rfl (Nat.le_of_ble_eq_true rfl) ?_
  rintro V1 v σ1 τ1 X1 ⟨k, rfl, hq⟩
  have X2 := z_isX X1
  show V1 (z_c σ1 ρ) (z_cL τ1 θ) _ _ [.int k]
  refine x_istore X2 dL_law_1583 (by decide) rfl ?_
  refine x_aload_n X2 dL_law_1585 rfl 3 rfl ?_
  refine x_aload_n X2 dL_law_1586 rfl 1 rfl ?_
  refine x_iload X2 dL_law_1587 6 rfl ?_
  refine x_iconst X2 (v := 1) dL_law_1589 (by decide) ?_
  refine x_iadd X2 dL_law_1590 ?_
  refine z_sld X1 h1 dL_law_1591 ?_
  refine x_aload_n X2 dL_law_1592 rfl 1 rfl ?_
  refine x_iload X2 dL_law_1593 6 rfl ?_
  refine x_iconst X2 (v := 2) dL_law_1595 (by decide) ?_
  refine x_iadd X2 dL_law_1596 ?_
  refine z_sld X1 h2 dL_law_1597 ?_
  refine z_callM X1 (As := [.int (xs (i + 1).toNatClampNeg), .int (xs (i + 2).toNatClampNeg)]) [] dL_law_1598 (kX11_setStart hq) cm_X11_setStart ci_X11_setStart w_8_146 dsM_0 (by decide) rfl (Nat.le_of_ble_eq_true rfl) ?_
  rintro v ρ1 θ1 ⟨bb, rfl, hq⟩
  show V1 (z_c σ1 ρ1) (z_cL τ1 θ1) _ _ [.int bb]
  refine x_istore X2 dL_law_1601 (by decide) rfl ?_
  refine x_aload_n X2 dL_law_1603 rfl 4 rfl ?_
  refine z_callM X1 (As := []) [] dL_law_1604 (kX11_thrown hq) cm_X11_thrown ci_X11_thrown w_7_74 dsM_0 (by decide) rfl (Nat.le_of_ble_eq_true rfl) ?_
  rintro v ρ2 θ2 ⟨th, rfl, ht, hout, hR1⟩
  show V1 (z_c σ1 ρ2) (z_cL τ1 θ2) _ _ [.int th]
  refine x_iload X2 dL_law_1607 1 rfl ?_
  refine x_icmp_eq X2 1614 dL_law_1609 rfl (fun _ => ?_) (fun h => absurd ht h)
  refine x_iload X2 dL_law_1614 1 rfl ?_
  have fin : V1 (z_c σ1 ρ2) (z_cL τ1 θ2) 1631 [(7, .int bb), (6, .int k), (0, .ref b), (1, .ref (ad 0)), (2, .ref (ad 89)), (3, .ref (ad 87)), (4, .ref (ad 88)), (5, .int i)] [] := by
    refine x_goto X2 dL_law_1631 (tgt := 2634) rfl ?_
    exact x_sub X2 [2, 3, 4, 5, 6, 7] rfl (k9 V1 _ σ1 τ1 ρ2 θ2 (by omega) X1 hR1)
  refine x_if_ne X2 1631 dL_law_1616 rfl (fun _ => fin) (fun hk => ?_)
  refine x_aload_n X2 dL_law_1619 rfl 5 rfl ?_
  refine x_iconst X2 (v := 0) dL_law_1620 (by decide) ?_
  refine x_lald X2 (k := 87) (n := 1) dL_law_1621 rfl z_in0 ?_
  refine x_iload X2 dL_law_1622 0 rfl ?_
  refine x_i2l X2 dL_law_1624 ?_
  refine x_lcmp X2 dL_law_1625 ?_
  have e : (z_cL τ1 θ2) 87 (0 : Int32).toNatClampNeg = τ1 87 0 := rfl
  rw [e, hout hk, z_cmp0]
  exact x_if_eq X2 1631 dL_law_1626 rfl (fun _ => fin) (fun h => absurd rfl h)
/-- what the law asks of reason -/
def z_p23 (R : x_S → x_L → x_S → x_L → Prop) : Prop := ∀ (σ : x_S) (τ : x_L) (ρ : x_S) (θ : x_L), R σ τ ρ θ → ∀ (a1 : Int32) (a2 : Int32), wL_reason a1 a2 σ τ (fun k σ1 τ1 => wX11_reason a1 a2 ρ θ (fun b ρ1 θ1 => wX11_thrown ρ1 θ1 (fun th ρ2 θ2 => th = k ∧ (k = 0 → τ1 87 0 = b.toInt64) ∧ R σ1 τ1 ρ2 θ2)))
set_option maxRecDepth 100000 in
set_option maxHeartbeats 4000000 in
theorem z_case23 {R : x_S → x_L → x_S → x_L → Prop} (hp : z_p23 R) {V : x_J} {ad : Nat → Nat} {b L : Nat} {xs : Nat → Int32} {j : Nat} {i : Int32} {σ ρ : x_S} {τ θ : x_L} (X : z_Is V ad b L xs j) (hj : j + 4 ≤ 600000) (h1 : vp_in (i + 1) L) (h2 : vp_in (i + 2) L) (h3 : vp_in (i + 3) L) (h4 : vp_in (i + 4) L) (h5 : vp_in (i + 5) L) (hR : R σ τ ρ θ)
    (k9 : ∀ (V' : x_J) (j' : Nat) (σ' : x_S) (τ' : x_L) (ρ' : x_S) (θ' : x_L), j' ≤ j + 4 → z_Is V' ad b L xs j' → R σ' τ' ρ' θ' → V' (z_c σ' ρ') (z_cL τ' θ') 2634 [(0, .ref b), (1, .ref (ad 0)), (2, .ref (ad 89)), (3, .ref (ad 87)), (4, .ref (ad 88)), (5, .int i)] []) : V (z_c σ ρ) (z_cL τ θ) 1634 [(0, .ref b), (1, .ref (ad 0)), (2, .ref (ad 89)), (3, .ref (ad 87)), (4, .ref (ad 88)), (5, .int i)] [] := by
  have X0 := z_isX X
  refine x_aload_n X0 dL_law_1634 rfl 1 rfl ?_
  refine x_aload_n X0 dL_law_1635 rfl 0 rfl ?_
  refine x_iload X0 dL_law_1636 5 rfl ?_
  refine x_iconst X0 (v := 1) dL_law_1638 (by decide) ?_
  refine x_iadd X0 dL_law_1639 ?_
  refine z_sld X h1 dL_law_1640 ?_
  refine x_aload_n X0 dL_law_1641 rfl 0 rfl ?_
  refine x_iload X0 dL_law_1642 5 rfl ?_
  refine x_iconst X0 (v := 2) dL_law_1644 (by decide) ?_
  refine x_iadd X0 dL_law_1645 ?_
  refine z_sld X h2 dL_law_1646 ?_
  refine x_aload_n X0 dL_law_1647 rfl 3 rfl ?_
  refine z_callW X (K := 4) (As := [.ref (ad 0), .int (xs (i + 1).toNatClampNeg), .int (xs (i + 2).toNatClampNeg), .ref (ad 87)]) [] dL_law_1648 (kL_reason (hp σ τ ρ θ hR (xs (i + 1).toNatClampNeg) (xs (i + 2).toNatClampNeg))) lc_reason ls_reason w_6_10 (by decide) hj rfl (Nat.le_of_ble_eq_true rfl) ?_
  rintro V1 v σ1 τ1 X1 ⟨k, rfl, hq⟩
  have X2 := z_isX X1
  show V1 (z_c σ1 ρ) (z_cL τ1 θ) _ _ [.int k]
  refine x_istore X2 dL_law_1651 (by decide) rfl ?_
  refine x_aload_n X2 dL_law_1653 rfl 3 rfl ?_
  refine x_aload_n X2 dL_law_1654 rfl 1 rfl ?_
  refine x_iload X2 dL_law_1655 6 rfl ?_
  refine x_iconst X2 (v := 1) dL_law_1657 (by decide) ?_
  refine x_iadd X2 dL_law_1658 ?_
  refine z_sld X1 h1 dL_law_1659 ?_
  refine x_aload_n X2 dL_law_1660 rfl 1 rfl ?_
  refine x_iload X2 dL_law_1661 6 rfl ?_
  refine x_iconst X2 (v := 2) dL_law_1663 (by decide) ?_
  refine x_iadd X2 dL_law_1664 ?_
  refine z_sld X1 h2 dL_law_1665 ?_
  refine z_callM X1 (As := [.int (xs (i + 1).toNatClampNeg), .int (xs (i + 2).toNatClampNeg)]) [] dL_law_1666 (kX11_reason hq) cm_X11_reason ci_X11_reason w_8_155 dsM_0 (by decide) rfl (Nat.le_of_ble_eq_true rfl) ?_
  rintro v ρ1 θ1 ⟨bb, rfl, hq⟩
  show V1 (z_c σ1 ρ1) (z_cL τ1 θ1) _ _ [.int bb]
  refine x_istore X2 dL_law_1669 (by decide) rfl ?_
  refine x_aload_n X2 dL_law_1671 rfl 4 rfl ?_
  refine z_callM X1 (As := []) [] dL_law_1672 (kX11_thrown hq) cm_X11_thrown ci_X11_thrown w_7_74 dsM_0 (by decide) rfl (Nat.le_of_ble_eq_true rfl) ?_
  rintro v ρ2 θ2 ⟨th, rfl, ht, hout, hR1⟩
  show V1 (z_c σ1 ρ2) (z_cL τ1 θ2) _ _ [.int th]
  refine x_iload X2 dL_law_1675 1 rfl ?_
  refine x_icmp_eq X2 1682 dL_law_1677 rfl (fun _ => ?_) (fun h => absurd ht h)
  refine x_iload X2 dL_law_1682 1 rfl ?_
  have fin : V1 (z_c σ1 ρ2) (z_cL τ1 θ2) 1699 [(7, .int bb), (6, .int k), (0, .ref b), (1, .ref (ad 0)), (2, .ref (ad 89)), (3, .ref (ad 87)), (4, .ref (ad 88)), (5, .int i)] [] := by
    refine x_goto X2 dL_law_1699 (tgt := 2634) rfl ?_
    exact x_sub X2 [2, 3, 4, 5, 6, 7] rfl (k9 V1 _ σ1 τ1 ρ2 θ2 (by omega) X1 hR1)
  refine x_if_ne X2 1699 dL_law_1684 rfl (fun _ => fin) (fun hk => ?_)
  refine x_aload_n X2 dL_law_1687 rfl 5 rfl ?_
  refine x_iconst X2 (v := 0) dL_law_1688 (by decide) ?_
  refine x_lald X2 (k := 87) (n := 1) dL_law_1689 rfl z_in0 ?_
  refine x_iload X2 dL_law_1690 0 rfl ?_
  refine x_i2l X2 dL_law_1692 ?_
  refine x_lcmp X2 dL_law_1693 ?_
  have e : (z_cL τ1 θ2) 87 (0 : Int32).toNatClampNeg = τ1 87 0 := rfl
  rw [e, hout hk, z_cmp0]
  exact x_if_eq X2 1699 dL_law_1694 rfl (fun _ => fin) (fun h => absurd rfl h)
/-- what the law asks of merge -/
def z_p24 (R : x_S → x_L → x_S → x_L → Prop) : Prop := ∀ (σ : x_S) (τ : x_L) (ρ : x_S) (θ : x_L), R σ τ ρ θ → ∀ (a1 : Int32) (a2 : Int32), wL_merge a1 a2 σ τ (fun k σ1 τ1 => wX11_merge a1 a2 ρ θ (fun b ρ1 θ1 => wX11_thrown ρ1 θ1 (fun th ρ2 θ2 => th = k ∧ (k = 0 → τ1 87 0 = b.toInt64) ∧ R σ1 τ1 ρ2 θ2)))
set_option maxRecDepth 100000 in
set_option maxHeartbeats 4000000 in
theorem z_case24 {R : x_S → x_L → x_S → x_L → Prop} (hp : z_p24 R) {V : x_J} {ad : Nat → Nat} {b L : Nat} {xs : Nat → Int32} {j : Nat} {i : Int32} {σ ρ : x_S} {τ θ : x_L} (X : z_Is V ad b L xs j) (hj : j + 4 ≤ 600000) (h1 : vp_in (i + 1) L) (h2 : vp_in (i + 2) L) (h3 : vp_in (i + 3) L) (h4 : vp_in (i + 4) L) (h5 : vp_in (i + 5) L) (hR : R σ τ ρ θ)
    (k9 : ∀ (V' : x_J) (j' : Nat) (σ' : x_S) (τ' : x_L) (ρ' : x_S) (θ' : x_L), j' ≤ j + 4 → z_Is V' ad b L xs j' → R σ' τ' ρ' θ' → V' (z_c σ' ρ') (z_cL τ' θ') 2634 [(0, .ref b), (1, .ref (ad 0)), (2, .ref (ad 89)), (3, .ref (ad 87)), (4, .ref (ad 88)), (5, .int i)] []) : V (z_c σ ρ) (z_cL τ θ) 1702 [(0, .ref b), (1, .ref (ad 0)), (2, .ref (ad 89)), (3, .ref (ad 87)), (4, .ref (ad 88)), (5, .int i)] [] := by
  have X0 := z_isX X
  refine x_aload_n X0 dL_law_1702 rfl 1 rfl ?_
  refine x_aload_n X0 dL_law_1703 rfl 0 rfl ?_
  refine x_iload X0 dL_law_1704 5 rfl ?_
  refine x_iconst X0 (v := 1) dL_law_1706 (by decide) ?_
  refine x_iadd X0 dL_law_1707 ?_
  refine z_sld X h1 dL_law_1708 ?_
  refine x_aload_n X0 dL_law_1709 rfl 0 rfl ?_
  refine x_iload X0 dL_law_1710 5 rfl ?_
  refine x_iconst X0 (v := 2) dL_law_1712 (by decide) ?_
  refine x_iadd X0 dL_law_1713 ?_
  refine z_sld X h2 dL_law_1714 ?_
  refine x_aload_n X0 dL_law_1715 rfl 3 rfl ?_
  refine z_callW X (K := 4) (As := [.ref (ad 0), .int (xs (i + 1).toNatClampNeg), .int (xs (i + 2).toNatClampNeg), .ref (ad 87)]) [] dL_law_1716 (kL_merge (hp σ τ ρ θ hR (xs (i + 1).toNatClampNeg) (xs (i + 2).toNatClampNeg))) lc_merge ls_merge w_6_17 (by decide) hj rfl (Nat.le_of_ble_eq_true rfl) ?_
  rintro V1 v σ1 τ1 X1 ⟨k, rfl, hq⟩
  have X2 := z_isX X1
  show V1 (z_c σ1 ρ) (z_cL τ1 θ) _ _ [.int k]
  refine x_istore X2 dL_law_1719 (by decide) rfl ?_
  refine x_aload_n X2 dL_law_1721 rfl 3 rfl ?_
  refine x_aload_n X2 dL_law_1722 rfl 1 rfl ?_
  refine x_iload X2 dL_law_1723 6 rfl ?_
  refine x_iconst X2 (v := 1) dL_law_1725 (by decide) ?_
  refine x_iadd X2 dL_law_1726 ?_
  refine z_sld X1 h1 dL_law_1727 ?_
  refine x_aload_n X2 dL_law_1728 rfl 1 rfl ?_
  refine x_iload X2 dL_law_1729 6 rfl ?_
  refine x_iconst X2 (v := 2) dL_law_1731 (by decide) ?_
  refine x_iadd X2 dL_law_1732 ?_
  refine z_sld X1 h2 dL_law_1733 ?_
  refine z_callM X1 (As := [.int (xs (i + 1).toNatClampNeg), .int (xs (i + 2).toNatClampNeg)]) [] dL_law_1734 (kX11_merge hq) cm_X11_merge ci_X11_merge w_8_175 dsM_0 (by decide) rfl (Nat.le_of_ble_eq_true rfl) ?_
  rintro v ρ1 θ1 ⟨bb, rfl, hq⟩
  show V1 (z_c σ1 ρ1) (z_cL τ1 θ1) _ _ [.int bb]
  refine x_istore X2 dL_law_1737 (by decide) rfl ?_
  refine x_aload_n X2 dL_law_1739 rfl 4 rfl ?_
  refine z_callM X1 (As := []) [] dL_law_1740 (kX11_thrown hq) cm_X11_thrown ci_X11_thrown w_7_74 dsM_0 (by decide) rfl (Nat.le_of_ble_eq_true rfl) ?_
  rintro v ρ2 θ2 ⟨th, rfl, ht, hout, hR1⟩
  show V1 (z_c σ1 ρ2) (z_cL τ1 θ2) _ _ [.int th]
  refine x_iload X2 dL_law_1743 1 rfl ?_
  refine x_icmp_eq X2 1750 dL_law_1745 rfl (fun _ => ?_) (fun h => absurd ht h)
  refine x_iload X2 dL_law_1750 1 rfl ?_
  have fin : V1 (z_c σ1 ρ2) (z_cL τ1 θ2) 1767 [(7, .int bb), (6, .int k), (0, .ref b), (1, .ref (ad 0)), (2, .ref (ad 89)), (3, .ref (ad 87)), (4, .ref (ad 88)), (5, .int i)] [] := by
    refine x_goto X2 dL_law_1767 (tgt := 2634) rfl ?_
    exact x_sub X2 [2, 3, 4, 5, 6, 7] rfl (k9 V1 _ σ1 τ1 ρ2 θ2 (by omega) X1 hR1)
  refine x_if_ne X2 1767 dL_law_1752 rfl (fun _ => fin) (fun hk => ?_)
  refine x_aload_n X2 dL_law_1755 rfl 5 rfl ?_
  refine x_iconst X2 (v := 0) dL_law_1756 (by decide) ?_
  refine x_lald X2 (k := 87) (n := 1) dL_law_1757 rfl z_in0 ?_
  refine x_iload X2 dL_law_1758 0 rfl ?_
  refine x_i2l X2 dL_law_1760 ?_
  refine x_lcmp X2 dL_law_1761 ?_
  have e : (z_cL τ1 θ2) 87 (0 : Int32).toNatClampNeg = τ1 87 0 := rfl
  rw [e, hout hk, z_cmp0]
  exact x_if_eq X2 1767 dL_law_1762 rfl (fun _ => fin) (fun h => absurd rfl h)
/-- what the law asks of gain -/
def z_p25 (R : x_S → x_L → x_S → x_L → Prop) : Prop := ∀ (σ : x_S) (τ : x_L) (ρ : x_S) (θ : x_L), R σ τ ρ θ → ∀ (a1 : Int32) (a2 : Int32), wL_gain a1 a2 σ τ (fun k σ1 τ1 => wX11_gain a1 a2 ρ θ (fun b ρ1 θ1 => wX11_thrown ρ1 θ1 (fun th ρ2 θ2 => th = k ∧ (k = 0 → τ1 87 0 = b.toInt64) ∧ R σ1 τ1 ρ2 θ2)))
set_option maxRecDepth 100000 in
set_option maxHeartbeats 4000000 in
theorem z_case25 {R : x_S → x_L → x_S → x_L → Prop} (hp : z_p25 R) {V : x_J} {ad : Nat → Nat} {b L : Nat} {xs : Nat → Int32} {j : Nat} {i : Int32} {σ ρ : x_S} {τ θ : x_L} (X : z_Is V ad b L xs j) (hj : j + 4 ≤ 600000) (h1 : vp_in (i + 1) L) (h2 : vp_in (i + 2) L) (h3 : vp_in (i + 3) L) (h4 : vp_in (i + 4) L) (h5 : vp_in (i + 5) L) (hR : R σ τ ρ θ)
    (k9 : ∀ (V' : x_J) (j' : Nat) (σ' : x_S) (τ' : x_L) (ρ' : x_S) (θ' : x_L), j' ≤ j + 4 → z_Is V' ad b L xs j' → R σ' τ' ρ' θ' → V' (z_c σ' ρ') (z_cL τ' θ') 2634 [(0, .ref b), (1, .ref (ad 0)), (2, .ref (ad 89)), (3, .ref (ad 87)), (4, .ref (ad 88)), (5, .int i)] []) : V (z_c σ ρ) (z_cL τ θ) 1770 [(0, .ref b), (1, .ref (ad 0)), (2, .ref (ad 89)), (3, .ref (ad 87)), (4, .ref (ad 88)), (5, .int i)] [] := by
  have X0 := z_isX X
  refine x_aload_n X0 dL_law_1770 rfl 1 rfl ?_
  refine x_aload_n X0 dL_law_1771 rfl 0 rfl ?_
  refine x_iload X0 dL_law_1772 5 rfl ?_
  refine x_iconst X0 (v := 1) dL_law_1774 (by decide) ?_
  refine x_iadd X0 dL_law_1775 ?_
  refine z_sld X h1 dL_law_1776 ?_
  refine x_aload_n X0 dL_law_1777 rfl 0 rfl ?_
  refine x_iload X0 dL_law_1778 5 rfl ?_
  refine x_iconst X0 (v := 2) dL_law_1780 (by decide) ?_
  refine x_iadd X0 dL_law_1781 ?_
  refine z_sld X h2 dL_law_1782 ?_
  refine x_aload_n X0 dL_law_1783 rfl 3 rfl ?_
  refine z_callW X (K := 4) (As := [.ref (ad 0), .int (xs (i + 1).toNatClampNeg), .int (xs (i + 2).toNatClampNeg), .ref (ad 87)]) [] dL_law_1784 (kL_gain (hp σ τ ρ θ hR (xs (i + 1).toNatClampNeg) (xs (i + 2).toNatClampNeg))) lc_gain ls_gain w_6_24 (by decide) hj rfl (Nat.le_of_ble_eq_true rfl) ?_
  rintro V1 v σ1 τ1 X1 ⟨k, rfl, hq⟩
  have X2 := z_isX X1
  show V1 (z_c σ1 ρ) (z_cL τ1 θ) _ _ [.int k]
  refine x_istore X2 dL_law_1787 (by decide) rfl ?_
  refine x_aload_n X2 dL_law_1789 rfl 3 rfl ?_
  refine x_aload_n X2 dL_law_1790 rfl 1 rfl ?_
  refine x_iload X2 dL_law_1791 6 rfl ?_
  refine x_iconst X2 (v := 1) dL_law_1793 (by decide) ?_
  refine x_iadd X2 dL_law_1794 ?_
  refine z_sld X1 h1 dL_law_1795 ?_
  refine x_aload_n X2 dL_law_1796 rfl 1 rfl ?_
  refine x_iload X2 dL_law_1797 6 rfl ?_
  refine x_iconst X2 (v := 2) dL_law_1799 (by decide) ?_
  refine x_iadd X2 dL_law_1800 ?_
  refine z_sld X1 h2 dL_law_1801 ?_
  refine z_callM X1 (As := [.int (xs (i + 1).toNatClampNeg), .int (xs (i + 2).toNatClampNeg)]) [] dL_law_1802 (kX11_gain hq) cm_X11_gain ci_X11_gain w_8_183 dsM_0 (by decide) rfl (Nat.le_of_ble_eq_true rfl) ?_
  rintro v ρ1 θ1 ⟨bb, rfl, hq⟩
  show V1 (z_c σ1 ρ1) (z_cL τ1 θ1) _ _ [.int bb]
  refine x_istore X2 dL_law_1805 (by decide) rfl ?_
  refine x_aload_n X2 dL_law_1807 rfl 4 rfl ?_
  refine z_callM X1 (As := []) [] dL_law_1808 (kX11_thrown hq) cm_X11_thrown ci_X11_thrown w_7_74 dsM_0 (by decide) rfl (Nat.le_of_ble_eq_true rfl) ?_
  rintro v ρ2 θ2 ⟨th, rfl, ht, hout, hR1⟩
  show V1 (z_c σ1 ρ2) (z_cL τ1 θ2) _ _ [.int th]
  refine x_iload X2 dL_law_1811 1 rfl ?_
  refine x_icmp_eq X2 1818 dL_law_1813 rfl (fun _ => ?_) (fun h => absurd ht h)
  refine x_iload X2 dL_law_1818 1 rfl ?_
  have fin : V1 (z_c σ1 ρ2) (z_cL τ1 θ2) 1835 [(7, .int bb), (6, .int k), (0, .ref b), (1, .ref (ad 0)), (2, .ref (ad 89)), (3, .ref (ad 87)), (4, .ref (ad 88)), (5, .int i)] [] := by
    refine x_goto X2 dL_law_1835 (tgt := 2634) rfl ?_
    exact x_sub X2 [2, 3, 4, 5, 6, 7] rfl (k9 V1 _ σ1 τ1 ρ2 θ2 (by omega) X1 hR1)
  refine x_if_ne X2 1835 dL_law_1820 rfl (fun _ => fin) (fun hk => ?_)
  refine x_aload_n X2 dL_law_1823 rfl 5 rfl ?_
  refine x_iconst X2 (v := 0) dL_law_1824 (by decide) ?_
  refine x_lald X2 (k := 87) (n := 1) dL_law_1825 rfl z_in0 ?_
  refine x_iload X2 dL_law_1826 0 rfl ?_
  refine x_i2l X2 dL_law_1828 ?_
  refine x_lcmp X2 dL_law_1829 ?_
  have e : (z_cL τ1 θ2) 87 (0 : Int32).toNatClampNeg = τ1 87 0 := rfl
  rw [e, hout hk, z_cmp0]
  exact x_if_eq X2 1835 dL_law_1830 rfl (fun _ => fin) (fun h => absurd rfl h)
/-- what the law asks of bestPartner -/
def z_p26 (R : x_S → x_L → x_S → x_L → Prop) : Prop := ∀ (σ : x_S) (τ : x_L) (ρ : x_S) (θ : x_L), R σ τ ρ θ → ∀ (a1 : Int32), wL_bestPartner a1 σ τ (fun k σ1 τ1 => wX11_bestPartner a1 ρ θ (fun b ρ1 θ1 => wX11_thrown ρ1 θ1 (fun th ρ2 θ2 => th = k ∧ (k = 0 → τ1 87 0 = b.toInt64) ∧ R σ1 τ1 ρ2 θ2)))
set_option maxRecDepth 100000 in
set_option maxHeartbeats 4000000 in
theorem z_case26 {R : x_S → x_L → x_S → x_L → Prop} (hp : z_p26 R) {V : x_J} {ad : Nat → Nat} {b L : Nat} {xs : Nat → Int32} {j : Nat} {i : Int32} {σ ρ : x_S} {τ θ : x_L} (X : z_Is V ad b L xs j) (hj : j + 4 ≤ 600000) (h1 : vp_in (i + 1) L) (h2 : vp_in (i + 2) L) (h3 : vp_in (i + 3) L) (h4 : vp_in (i + 4) L) (h5 : vp_in (i + 5) L) (hR : R σ τ ρ θ)
    (k9 : ∀ (V' : x_J) (j' : Nat) (σ' : x_S) (τ' : x_L) (ρ' : x_S) (θ' : x_L), j' ≤ j + 4 → z_Is V' ad b L xs j' → R σ' τ' ρ' θ' → V' (z_c σ' ρ') (z_cL τ' θ') 2634 [(0, .ref b), (1, .ref (ad 0)), (2, .ref (ad 89)), (3, .ref (ad 87)), (4, .ref (ad 88)), (5, .int i)] []) : V (z_c σ ρ) (z_cL τ θ) 1838 [(0, .ref b), (1, .ref (ad 0)), (2, .ref (ad 89)), (3, .ref (ad 87)), (4, .ref (ad 88)), (5, .int i)] [] := by
  have X0 := z_isX X
  refine x_aload_n X0 dL_law_1838 rfl 1 rfl ?_
  refine x_aload_n X0 dL_law_1839 rfl 0 rfl ?_
  refine x_iload X0 dL_law_1840 5 rfl ?_
  refine x_iconst X0 (v := 1) dL_law_1842 (by decide) ?_
  refine x_iadd X0 dL_law_1843 ?_
  refine z_sld X h1 dL_law_1844 ?_
  refine x_aload_n X0 dL_law_1845 rfl 3 rfl ?_
  refine z_callW X (K := 4) (As := [.ref (ad 0), .int (xs (i + 1).toNatClampNeg), .ref (ad 87)]) [] dL_law_1846 (kL_bestPartner (hp σ τ ρ θ hR (xs (i + 1).toNatClampNeg))) lc_bestPartner ls_bestPartner w_6_48 (by decide) hj rfl (Nat.le_of_ble_eq_true rfl) ?_
  rintro V1 v σ1 τ1 X1 ⟨k, rfl, hq⟩
  have X2 := z_isX X1
  show V1 (z_c σ1 ρ) (z_cL τ1 θ) _ _ [.int k]
  refine x_istore X2 dL_law_1849 (by decide) rfl ?_
  refine x_aload_n X2 dL_law_1851 rfl 3 rfl ?_
  refine x_aload_n X2 dL_law_1852 rfl 1 rfl ?_
  refine x_iload X2 dL_law_1853 6 rfl ?_
  refine x_iconst X2 (v := 1) dL_law_1855 (by decide) ?_
  refine x_iadd X2 dL_law_1856 ?_
  refine z_sld X1 h1 dL_law_1857 ?_
  refine z_callM X1 (As := [.int (xs (i + 1).toNatClampNeg)]) [] dL_law_1858 (kX11_bestPartner hq) cm_X11_bestPartner ci_X11_bestPartner w_8_191 dsM_0 (by decide) rfl (Nat.le_of_ble_eq_true rfl) ?_
  rintro v ρ1 θ1 ⟨bb, rfl, hq⟩
  show V1 (z_c σ1 ρ1) (z_cL τ1 θ1) _ _ [.int bb]
  refine x_istore X2 dL_law_1861 (by decide) rfl ?_
  refine x_aload_n X2 dL_law_1863 rfl 4 rfl ?_
  refine z_callM X1 (As := []) [] dL_law_1864 (kX11_thrown hq) cm_X11_thrown ci_X11_thrown w_7_74 dsM_0 (by decide) rfl (Nat.le_of_ble_eq_true rfl) ?_
  rintro v ρ2 θ2 ⟨th, rfl, ht, hout, hR1⟩
  show V1 (z_c σ1 ρ2) (z_cL τ1 θ2) _ _ [.int th]
  refine x_iload X2 dL_law_1867 1 rfl ?_
  refine x_icmp_eq X2 1874 dL_law_1869 rfl (fun _ => ?_) (fun h => absurd ht h)
  refine x_iload X2 dL_law_1874 1 rfl ?_
  have fin : V1 (z_c σ1 ρ2) (z_cL τ1 θ2) 1891 [(7, .int bb), (6, .int k), (0, .ref b), (1, .ref (ad 0)), (2, .ref (ad 89)), (3, .ref (ad 87)), (4, .ref (ad 88)), (5, .int i)] [] := by
    refine x_goto X2 dL_law_1891 (tgt := 2634) rfl ?_
    exact x_sub X2 [2, 3, 4, 5, 6, 7] rfl (k9 V1 _ σ1 τ1 ρ2 θ2 (by omega) X1 hR1)
  refine x_if_ne X2 1891 dL_law_1876 rfl (fun _ => fin) (fun hk => ?_)
  refine x_aload_n X2 dL_law_1879 rfl 5 rfl ?_
  refine x_iconst X2 (v := 0) dL_law_1880 (by decide) ?_
  refine x_lald X2 (k := 87) (n := 1) dL_law_1881 rfl z_in0 ?_
  refine x_iload X2 dL_law_1882 0 rfl ?_
  refine x_i2l X2 dL_law_1884 ?_
  refine x_lcmp X2 dL_law_1885 ?_
  have e : (z_cL τ1 θ2) 87 (0 : Int32).toNatClampNeg = τ1 87 0 := rfl
  rw [e, hout hk, z_cmp0]
  exact x_if_eq X2 1891 dL_law_1886 rfl (fun _ => fin) (fun h => absurd rfl h)
/-- what the law asks of mergeAll -/
def z_p27 (R : x_S → x_L → x_S → x_L → Prop) : Prop := ∀ (σ : x_S) (τ : x_L) (ρ : x_S) (θ : x_L), R σ τ ρ θ → wX10_mergeAll σ τ (fun r σ1 τ1 => wX11_mergeAll ρ θ (fun r' ρ1 θ1 => r = r' ∧ R σ1 τ1 ρ1 θ1))
set_option maxRecDepth 100000 in
set_option maxHeartbeats 4000000 in
theorem z_case27 {R : x_S → x_L → x_S → x_L → Prop} (hp : z_p27 R) {V : x_J} {ad : Nat → Nat} {b L : Nat} {xs : Nat → Int32} {j : Nat} {i : Int32} {σ ρ : x_S} {τ θ : x_L} (X : z_Is V ad b L xs j) (hj : j + 4 ≤ 600000) (h1 : vp_in (i + 1) L) (h2 : vp_in (i + 2) L) (h3 : vp_in (i + 3) L) (h4 : vp_in (i + 4) L) (h5 : vp_in (i + 5) L) (hR : R σ τ ρ θ)
    (k9 : ∀ (V' : x_J) (j' : Nat) (σ' : x_S) (τ' : x_L) (ρ' : x_S) (θ' : x_L), j' ≤ j + 4 → z_Is V' ad b L xs j' → R σ' τ' ρ' θ' → V' (z_c σ' ρ') (z_cL τ' θ') 2634 [(0, .ref b), (1, .ref (ad 0)), (2, .ref (ad 89)), (3, .ref (ad 87)), (4, .ref (ad 88)), (5, .int i)] []) : V (z_c σ ρ) (z_cL τ θ) 1894 [(0, .ref b), (1, .ref (ad 0)), (2, .ref (ad 89)), (3, .ref (ad 87)), (4, .ref (ad 88)), (5, .int i)] [] := by
  have X0 := z_isX X
  refine x_aload_n X0 dL_law_1894 rfl 1 rfl ?_
  refine z_callX X (As := []) [] dL_law_1895 (kX10_mergeAll (hp σ τ ρ θ hR)) cm_X10_mergeAll ci_X10_mergeAll w_3_215 dsX_0 (by decide) rfl (Nat.le_of_ble_eq_true rfl) ?_
  rintro v σ1 τ1 ⟨r, rfl, hq⟩
  show V (z_c σ1 ρ) (z_cL τ1 θ) _ _ [.int r]
  refine x_aload_n X0 dL_law_1898 rfl 2 rfl ?_
  refine z_callM X (As := []) [.int r] dL_law_1899 (kX11_mergeAll hq) cm_X11_mergeAll ci_X11_mergeAll w_8_195 dsM_0 (by decide) rfl (Nat.le_of_ble_eq_true rfl) ?_
  rintro v ρ1 θ1 ⟨r', rfl, hr, hR1⟩
  show V (z_c σ1 ρ1) (z_cL τ1 θ1) _ _ [.int r', .int r]
  exact x_icmp_eq X0 2634 dL_law_1902 rfl (fun _ => k9 V j σ1 τ1 ρ1 θ1 (by omega) X hR1) (fun h => absurd hr h)
/-- what the law asks of hurry -/
def z_p28 (R : x_S → x_L → x_S → x_L → Prop) : Prop := ∀ (σ : x_S) (τ : x_L) (ρ : x_S) (θ : x_L), R σ τ ρ θ → ∀ (a1 : Int32), wL_hurry a1 σ τ (fun k σ1 τ1 => wX11_hurry a1 ρ θ (fun b ρ1 θ1 => wX11_thrown ρ1 θ1 (fun th ρ2 θ2 => th = k ∧ (k = 0 → τ1 87 0 = b.toInt64) ∧ R σ1 τ1 ρ2 θ2)))
set_option maxRecDepth 100000 in
set_option maxHeartbeats 4000000 in
theorem z_case28 {R : x_S → x_L → x_S → x_L → Prop} (hp : z_p28 R) {V : x_J} {ad : Nat → Nat} {b L : Nat} {xs : Nat → Int32} {j : Nat} {i : Int32} {σ ρ : x_S} {τ θ : x_L} (X : z_Is V ad b L xs j) (hj : j + 4 ≤ 600000) (h1 : vp_in (i + 1) L) (h2 : vp_in (i + 2) L) (h3 : vp_in (i + 3) L) (h4 : vp_in (i + 4) L) (h5 : vp_in (i + 5) L) (hR : R σ τ ρ θ)
    (k9 : ∀ (V' : x_J) (j' : Nat) (σ' : x_S) (τ' : x_L) (ρ' : x_S) (θ' : x_L), j' ≤ j + 4 → z_Is V' ad b L xs j' → R σ' τ' ρ' θ' → V' (z_c σ' ρ') (z_cL τ' θ') 2634 [(0, .ref b), (1, .ref (ad 0)), (2, .ref (ad 89)), (3, .ref (ad 87)), (4, .ref (ad 88)), (5, .int i)] []) : V (z_c σ ρ) (z_cL τ θ) 1907 [(0, .ref b), (1, .ref (ad 0)), (2, .ref (ad 89)), (3, .ref (ad 87)), (4, .ref (ad 88)), (5, .int i)] [] := by
  have X0 := z_isX X
  refine x_aload_n X0 dL_law_1907 rfl 1 rfl ?_
  refine x_aload_n X0 dL_law_1908 rfl 0 rfl ?_
  refine x_iload X0 dL_law_1909 5 rfl ?_
  refine x_iconst X0 (v := 1) dL_law_1911 (by decide) ?_
  refine x_iadd X0 dL_law_1912 ?_
  refine z_sld X h1 dL_law_1913 ?_
  refine x_aload_n X0 dL_law_1914 rfl 3 rfl ?_
  refine z_callW X (K := 4) (As := [.ref (ad 0), .int (xs (i + 1).toNatClampNeg), .ref (ad 87)]) [] dL_law_1915 (kL_hurry (hp σ τ ρ θ hR (xs (i + 1).toNatClampNeg))) lc_hurry ls_hurry w_6_55 (by decide) hj rfl (Nat.le_of_ble_eq_true rfl) ?_
  rintro V1 v σ1 τ1 X1 ⟨k, rfl, hq⟩
  have X2 := z_isX X1
  show V1 (z_c σ1 ρ) (z_cL τ1 θ) _ _ [.int k]
  refine x_istore X2 dL_law_1918 (by decide) rfl ?_
  refine x_aload_n X2 dL_law_1920 rfl 3 rfl ?_
  refine x_aload_n X2 dL_law_1921 rfl 1 rfl ?_
  refine x_iload X2 dL_law_1922 6 rfl ?_
  refine x_iconst X2 (v := 1) dL_law_1924 (by decide) ?_
  refine x_iadd X2 dL_law_1925 ?_
  refine z_sld X1 h1 dL_law_1926 ?_
  refine z_callM X1 (As := [.int (xs (i + 1).toNatClampNeg)]) [] dL_law_1927 (kX11_hurry hq) cm_X11_hurry ci_X11_hurry w_8_207 dsM_0 (by decide) rfl (Nat.le_of_ble_eq_true rfl) ?_
  rintro v ρ1 θ1 ⟨bb, rfl, hq⟩
  show V1 (z_c σ1 ρ1) (z_cL τ1 θ1) _ _ [.int bb]
  refine x_istore X2 dL_law_1930 (by decide) rfl ?_
  refine x_aload_n X2 dL_law_1932 rfl 4 rfl ?_
  refine z_callM X1 (As := []) [] dL_law_1933 (kX11_thrown hq) cm_X11_thrown ci_X11_thrown w_7_74 dsM_0 (by decide) rfl (Nat.le_of_ble_eq_true rfl) ?_
  rintro v ρ2 θ2 ⟨th, rfl, ht, hout, hR1⟩
  show V1 (z_c σ1 ρ2) (z_cL τ1 θ2) _ _ [.int th]
  refine x_iload X2 dL_law_1936 1 rfl ?_
  refine x_icmp_eq X2 1943 dL_law_1938 rfl (fun _ => ?_) (fun h => absurd ht h)
  refine x_iload X2 dL_law_1943 1 rfl ?_
  have fin : V1 (z_c σ1 ρ2) (z_cL τ1 θ2) 1960 [(7, .int bb), (6, .int k), (0, .ref b), (1, .ref (ad 0)), (2, .ref (ad 89)), (3, .ref (ad 87)), (4, .ref (ad 88)), (5, .int i)] [] := by
    refine x_goto X2 dL_law_1960 (tgt := 2634) rfl ?_
    exact x_sub X2 [2, 3, 4, 5, 6, 7] rfl (k9 V1 _ σ1 τ1 ρ2 θ2 (by omega) X1 hR1)
  refine x_if_ne X2 1960 dL_law_1945 rfl (fun _ => fin) (fun hk => ?_)
  refine x_aload_n X2 dL_law_1948 rfl 5 rfl ?_
  refine x_iconst X2 (v := 0) dL_law_1949 (by decide) ?_
  refine x_lald X2 (k := 87) (n := 1) dL_law_1950 rfl z_in0 ?_
  refine x_iload X2 dL_law_1951 0 rfl ?_
  refine x_i2l X2 dL_law_1953 ?_
  refine x_lcmp X2 dL_law_1954 ?_
  have e : (z_cL τ1 θ2) 87 (0 : Int32).toNatClampNeg = τ1 87 0 := rfl
  rw [e, hout hk, z_cmp0]
  exact x_if_eq X2 1960 dL_law_1955 rfl (fun _ => fin) (fun h => absurd rfl h)
/-- what the law asks of relax -/
def z_p29 (R : x_S → x_L → x_S → x_L → Prop) : Prop := ∀ (σ : x_S) (τ : x_L) (ρ : x_S) (θ : x_L), R σ τ ρ θ → ∀ (a1 : Int32), wL_relax a1 σ τ (fun k σ1 τ1 => wX11_relax a1 ρ θ (fun b ρ1 θ1 => wX11_thrown ρ1 θ1 (fun th ρ2 θ2 => th = k ∧ (k = 0 → τ1 87 0 = b.toInt64) ∧ R σ1 τ1 ρ2 θ2)))
set_option maxRecDepth 100000 in
set_option maxHeartbeats 4000000 in
theorem z_case29 {R : x_S → x_L → x_S → x_L → Prop} (hp : z_p29 R) {V : x_J} {ad : Nat → Nat} {b L : Nat} {xs : Nat → Int32} {j : Nat} {i : Int32} {σ ρ : x_S} {τ θ : x_L} (X : z_Is V ad b L xs j) (hj : j + 4 ≤ 600000) (h1 : vp_in (i + 1) L) (h2 : vp_in (i + 2) L) (h3 : vp_in (i + 3) L) (h4 : vp_in (i + 4) L) (h5 : vp_in (i + 5) L) (hR : R σ τ ρ θ)
    (k9 : ∀ (V' : x_J) (j' : Nat) (σ' : x_S) (τ' : x_L) (ρ' : x_S) (θ' : x_L), j' ≤ j + 4 → z_Is V' ad b L xs j' → R σ' τ' ρ' θ' → V' (z_c σ' ρ') (z_cL τ' θ') 2634 [(0, .ref b), (1, .ref (ad 0)), (2, .ref (ad 89)), (3, .ref (ad 87)), (4, .ref (ad 88)), (5, .int i)] []) : V (z_c σ ρ) (z_cL τ θ) 1963 [(0, .ref b), (1, .ref (ad 0)), (2, .ref (ad 89)), (3, .ref (ad 87)), (4, .ref (ad 88)), (5, .int i)] [] := by
  have X0 := z_isX X
  refine x_aload_n X0 dL_law_1963 rfl 1 rfl ?_
  refine x_aload_n X0 dL_law_1964 rfl 0 rfl ?_
  refine x_iload X0 dL_law_1965 5 rfl ?_
  refine x_iconst X0 (v := 1) dL_law_1967 (by decide) ?_
  refine x_iadd X0 dL_law_1968 ?_
  refine z_sld X h1 dL_law_1969 ?_
  refine x_aload_n X0 dL_law_1970 rfl 3 rfl ?_
  refine z_callW X (K := 4) (As := [.ref (ad 0), .int (xs (i + 1).toNatClampNeg), .ref (ad 87)]) [] dL_law_1971 (kL_relax (hp σ τ ρ θ hR (xs (i + 1).toNatClampNeg))) lc_relax ls_relax w_6_62 (by decide) hj rfl (Nat.le_of_ble_eq_true rfl) ?_
  rintro V1 v σ1 τ1 X1 ⟨k, rfl, hq⟩
  have X2 := z_isX X1
  show V1 (z_c σ1 ρ) (z_cL τ1 θ) _ _ [.int k]
  refine x_istore X2 dL_law_1974 (by decide) rfl ?_
  refine x_aload_n X2 dL_law_1976 rfl 3 rfl ?_
  refine x_aload_n X2 dL_law_1977 rfl 1 rfl ?_
  refine x_iload X2 dL_law_1978 6 rfl ?_
  refine x_iconst X2 (v := 1) dL_law_1980 (by decide) ?_
  refine x_iadd X2 dL_law_1981 ?_
  refine z_sld X1 h1 dL_law_1982 ?_
  refine z_callM X1 (As := [.int (xs (i + 1).toNatClampNeg)]) [] dL_law_1983 (kX11_relax hq) cm_X11_relax ci_X11_relax w_8_215 dsM_0 (by decide) rfl (Nat.le_of_ble_eq_true rfl) ?_
  rintro v ρ1 θ1 ⟨bb, rfl, hq⟩
  show V1 (z_c σ1 ρ1) (z_cL τ1 θ1) _ _ [.int bb]
  refine x_istore X2 dL_law_1986 (by decide) rfl ?_
  refine x_aload_n X2 dL_law_1988 rfl 4 rfl ?_
  refine z_callM X1 (As := []) [] dL_law_1989 (kX11_thrown hq) cm_X11_thrown ci_X11_thrown w_7_74 dsM_0 (by decide) rfl (Nat.le_of_ble_eq_true rfl) ?_
  rintro v ρ2 θ2 ⟨th, rfl, ht, hout, hR1⟩
  show V1 (z_c σ1 ρ2) (z_cL τ1 θ2) _ _ [.int th]
  refine x_iload X2 dL_law_1992 1 rfl ?_
  refine x_icmp_eq X2 1999 dL_law_1994 rfl (fun _ => ?_) (fun h => absurd ht h)
  refine x_iload X2 dL_law_1999 1 rfl ?_
  have fin : V1 (z_c σ1 ρ2) (z_cL τ1 θ2) 2016 [(7, .int bb), (6, .int k), (0, .ref b), (1, .ref (ad 0)), (2, .ref (ad 89)), (3, .ref (ad 87)), (4, .ref (ad 88)), (5, .int i)] [] := by
    refine x_goto X2 dL_law_2016 (tgt := 2634) rfl ?_
    exact x_sub X2 [2, 3, 4, 5, 6, 7] rfl (k9 V1 _ σ1 τ1 ρ2 θ2 (by omega) X1 hR1)
  refine x_if_ne X2 2016 dL_law_2001 rfl (fun _ => fin) (fun hk => ?_)
  refine x_aload_n X2 dL_law_2004 rfl 5 rfl ?_
  refine x_iconst X2 (v := 0) dL_law_2005 (by decide) ?_
  refine x_lald X2 (k := 87) (n := 1) dL_law_2006 rfl z_in0 ?_
  refine x_iload X2 dL_law_2007 0 rfl ?_
  refine x_i2l X2 dL_law_2009 ?_
  refine x_lcmp X2 dL_law_2010 ?_
  have e : (z_cL τ1 θ2) 87 (0 : Int32).toNatClampNeg = τ1 87 0 := rfl
  rw [e, hout hk, z_cmp0]
  exact x_if_eq X2 2016 dL_law_2011 rfl (fun _ => fin) (fun h => absurd rfl h)
/-- what the law asks of onRoad -/
def z_p30 (R : x_S → x_L → x_S → x_L → Prop) : Prop := ∀ (σ : x_S) (τ : x_L) (ρ : x_S) (θ : x_L), R σ τ ρ θ → ∀ (a1 : Int32) (a2 : Int32), wL_onRoad a1 a2 σ τ (fun k σ1 τ1 => wX11_onRoad a1 a2 ρ θ (fun b ρ1 θ1 => wX11_thrown ρ1 θ1 (fun th ρ2 θ2 => th = k ∧ (k = 0 → τ1 87 0 = b.toInt64) ∧ R σ1 τ1 ρ2 θ2)))
set_option maxRecDepth 100000 in
set_option maxHeartbeats 4000000 in
theorem z_case30 {R : x_S → x_L → x_S → x_L → Prop} (hp : z_p30 R) {V : x_J} {ad : Nat → Nat} {b L : Nat} {xs : Nat → Int32} {j : Nat} {i : Int32} {σ ρ : x_S} {τ θ : x_L} (X : z_Is V ad b L xs j) (hj : j + 4 ≤ 600000) (h1 : vp_in (i + 1) L) (h2 : vp_in (i + 2) L) (h3 : vp_in (i + 3) L) (h4 : vp_in (i + 4) L) (h5 : vp_in (i + 5) L) (hR : R σ τ ρ θ)
    (k9 : ∀ (V' : x_J) (j' : Nat) (σ' : x_S) (τ' : x_L) (ρ' : x_S) (θ' : x_L), j' ≤ j + 4 → z_Is V' ad b L xs j' → R σ' τ' ρ' θ' → V' (z_c σ' ρ') (z_cL τ' θ') 2634 [(0, .ref b), (1, .ref (ad 0)), (2, .ref (ad 89)), (3, .ref (ad 87)), (4, .ref (ad 88)), (5, .int i)] []) : V (z_c σ ρ) (z_cL τ θ) 2019 [(0, .ref b), (1, .ref (ad 0)), (2, .ref (ad 89)), (3, .ref (ad 87)), (4, .ref (ad 88)), (5, .int i)] [] := by
  have X0 := z_isX X
  refine x_aload_n X0 dL_law_2019 rfl 1 rfl ?_
  refine x_aload_n X0 dL_law_2020 rfl 0 rfl ?_
  refine x_iload X0 dL_law_2021 5 rfl ?_
  refine x_iconst X0 (v := 1) dL_law_2023 (by decide) ?_
  refine x_iadd X0 dL_law_2024 ?_
  refine z_sld X h1 dL_law_2025 ?_
  refine x_aload_n X0 dL_law_2026 rfl 0 rfl ?_
  refine x_iload X0 dL_law_2027 5 rfl ?_
  refine x_iconst X0 (v := 2) dL_law_2029 (by decide) ?_
  refine x_iadd X0 dL_law_2030 ?_
  refine z_sld X h2 dL_law_2031 ?_
  refine x_aload_n X0 dL_law_2032 rfl 3 rfl ?_
  refine z_callW X (K := 4) (As := [.ref (ad 0), .int (xs (i + 1).toNatClampNeg), .int (xs (i + 2).toNatClampNeg), .ref (ad 87)]) [] dL_law_2033 (kL_onRoad (hp σ τ ρ θ hR (xs (i + 1).toNatClampNeg) (xs (i + 2).toNatClampNeg))) lc_onRoad ls_onRoad w_6_69 (by decide) hj rfl (Nat.le_of_ble_eq_true rfl) ?_
  rintro V1 v σ1 τ1 X1 ⟨k, rfl, hq⟩
  have X2 := z_isX X1
  show V1 (z_c σ1 ρ) (z_cL τ1 θ) _ _ [.int k]
  refine x_istore X2 dL_law_2036 (by decide) rfl ?_
  refine x_aload_n X2 dL_law_2038 rfl 3 rfl ?_
  refine x_aload_n X2 dL_law_2039 rfl 1 rfl ?_
  refine x_iload X2 dL_law_2040 6 rfl ?_
  refine x_iconst X2 (v := 1) dL_law_2042 (by decide) ?_
  refine x_iadd X2 dL_law_2043 ?_
  refine z_sld X1 h1 dL_law_2044 ?_
  refine x_aload_n X2 dL_law_2045 rfl 1 rfl ?_
  refine x_iload X2 dL_law_2046 6 rfl ?_
  refine x_iconst X2 (v := 2) dL_law_2048 (by decide) ?_
  refine x_iadd X2 dL_law_2049 ?_
  refine z_sld X1 h2 dL_law_2050 ?_
  refine z_callM X1 (As := [.int (xs (i + 1).toNatClampNeg), .int (xs (i + 2).toNatClampNeg)]) [] dL_law_2051 (kX11_onRoad hq) cm_X11_onRoad ci_X11_onRoad w_8_223 dsM_0 (by decide) rfl (Nat.le_of_ble_eq_true rfl) ?_
  rintro v ρ1 θ1 ⟨bb, rfl, hq⟩
  show V1 (z_c σ1 ρ1) (z_cL τ1 θ1) _ _ [.int bb]
  refine x_istore X2 dL_law_2054 (by decide) rfl ?_
  refine x_aload_n X2 dL_law_2056 rfl 4 rfl ?_
  refine z_callM X1 (As := []) [] dL_law_2057 (kX11_thrown hq) cm_X11_thrown ci_X11_thrown w_7_74 dsM_0 (by decide) rfl (Nat.le_of_ble_eq_true rfl) ?_
  rintro v ρ2 θ2 ⟨th, rfl, ht, hout, hR1⟩
  show V1 (z_c σ1 ρ2) (z_cL τ1 θ2) _ _ [.int th]
  refine x_iload X2 dL_law_2060 1 rfl ?_
  refine x_icmp_eq X2 2067 dL_law_2062 rfl (fun _ => ?_) (fun h => absurd ht h)
  refine x_iload X2 dL_law_2067 1 rfl ?_
  have fin : V1 (z_c σ1 ρ2) (z_cL τ1 θ2) 2084 [(7, .int bb), (6, .int k), (0, .ref b), (1, .ref (ad 0)), (2, .ref (ad 89)), (3, .ref (ad 87)), (4, .ref (ad 88)), (5, .int i)] [] := by
    refine x_goto X2 dL_law_2084 (tgt := 2634) rfl ?_
    exact x_sub X2 [2, 3, 4, 5, 6, 7] rfl (k9 V1 _ σ1 τ1 ρ2 θ2 (by omega) X1 hR1)
  refine x_if_ne X2 2084 dL_law_2069 rfl (fun _ => fin) (fun hk => ?_)
  refine x_aload_n X2 dL_law_2072 rfl 5 rfl ?_
  refine x_iconst X2 (v := 0) dL_law_2073 (by decide) ?_
  refine x_lald X2 (k := 87) (n := 1) dL_law_2074 rfl z_in0 ?_
  refine x_iload X2 dL_law_2075 0 rfl ?_
  refine x_i2l X2 dL_law_2077 ?_
  refine x_lcmp X2 dL_law_2078 ?_
  have e : (z_cL τ1 θ2) 87 (0 : Int32).toNatClampNeg = τ1 87 0 := rfl
  rw [e, hout hk, z_cmp0]
  exact x_if_eq X2 2084 dL_law_2079 rfl (fun _ => fin) (fun h => absurd rfl h)
/-- what the law asks of alone -/
def z_p31 (R : x_S → x_L → x_S → x_L → Prop) : Prop := ∀ (σ : x_S) (τ : x_L) (ρ : x_S) (θ : x_L), R σ τ ρ θ → wX10_alone σ τ (fun r σ1 τ1 => wX11_alone ρ θ (fun r' ρ1 θ1 => r = r' ∧ R σ1 τ1 ρ1 θ1))
set_option maxRecDepth 100000 in
set_option maxHeartbeats 4000000 in
theorem z_case31 {R : x_S → x_L → x_S → x_L → Prop} (hp : z_p31 R) {V : x_J} {ad : Nat → Nat} {b L : Nat} {xs : Nat → Int32} {j : Nat} {i : Int32} {σ ρ : x_S} {τ θ : x_L} (X : z_Is V ad b L xs j) (hj : j + 4 ≤ 600000) (h1 : vp_in (i + 1) L) (h2 : vp_in (i + 2) L) (h3 : vp_in (i + 3) L) (h4 : vp_in (i + 4) L) (h5 : vp_in (i + 5) L) (hR : R σ τ ρ θ)
    (k9 : ∀ (V' : x_J) (j' : Nat) (σ' : x_S) (τ' : x_L) (ρ' : x_S) (θ' : x_L), j' ≤ j + 4 → z_Is V' ad b L xs j' → R σ' τ' ρ' θ' → V' (z_c σ' ρ') (z_cL τ' θ') 2634 [(0, .ref b), (1, .ref (ad 0)), (2, .ref (ad 89)), (3, .ref (ad 87)), (4, .ref (ad 88)), (5, .int i)] []) : V (z_c σ ρ) (z_cL τ θ) 2087 [(0, .ref b), (1, .ref (ad 0)), (2, .ref (ad 89)), (3, .ref (ad 87)), (4, .ref (ad 88)), (5, .int i)] [] := by
  have X0 := z_isX X
  refine x_aload_n X0 dL_law_2087 rfl 1 rfl ?_
  refine z_callX X (As := []) [] dL_law_2088 (kX10_alone (hp σ τ ρ θ hR)) cm_X10_alone ci_X10_alone w_4_28 dsX_0 (by decide) rfl (Nat.le_of_ble_eq_true rfl) ?_
  rintro v σ1 τ1 ⟨r, rfl, hq⟩
  show V (z_c σ1 ρ) (z_cL τ1 θ) _ _ [.int r]
  refine x_aload_n X0 dL_law_2091 rfl 2 rfl ?_
  refine z_callM X (As := []) [.int r] dL_law_2092 (kX11_alone hq) cm_X11_alone ci_X11_alone w_8_227 dsM_0 (by decide) rfl (Nat.le_of_ble_eq_true rfl) ?_
  rintro v ρ1 θ1 ⟨r', rfl, hr, hR1⟩
  show V (z_c σ1 ρ1) (z_cL τ1 θ1) _ _ [.int r', .int r]
  exact x_icmp_eq X0 2634 dL_law_2095 rfl (fun _ => k9 V j σ1 τ1 ρ1 θ1 (by omega) X hR1) (fun h => absurd hr h)
/-- what the law asks of lateOnes -/
def z_p32 (R : x_S → x_L → x_S → x_L → Prop) : Prop := ∀ (σ : x_S) (τ : x_L) (ρ : x_S) (θ : x_L), R σ τ ρ θ → wX10_lateOnes σ τ (fun r σ1 τ1 => wX11_lateOnes ρ θ (fun r' ρ1 θ1 => r = r' ∧ R σ1 τ1 ρ1 θ1))
set_option maxRecDepth 100000 in
set_option maxHeartbeats 4000000 in
theorem z_case32 {R : x_S → x_L → x_S → x_L → Prop} (hp : z_p32 R) {V : x_J} {ad : Nat → Nat} {b L : Nat} {xs : Nat → Int32} {j : Nat} {i : Int32} {σ ρ : x_S} {τ θ : x_L} (X : z_Is V ad b L xs j) (hj : j + 4 ≤ 600000) (h1 : vp_in (i + 1) L) (h2 : vp_in (i + 2) L) (h3 : vp_in (i + 3) L) (h4 : vp_in (i + 4) L) (h5 : vp_in (i + 5) L) (hR : R σ τ ρ θ)
    (k9 : ∀ (V' : x_J) (j' : Nat) (σ' : x_S) (τ' : x_L) (ρ' : x_S) (θ' : x_L), j' ≤ j + 4 → z_Is V' ad b L xs j' → R σ' τ' ρ' θ' → V' (z_c σ' ρ') (z_cL τ' θ') 2634 [(0, .ref b), (1, .ref (ad 0)), (2, .ref (ad 89)), (3, .ref (ad 87)), (4, .ref (ad 88)), (5, .int i)] []) : V (z_c σ ρ) (z_cL τ θ) 2100 [(0, .ref b), (1, .ref (ad 0)), (2, .ref (ad 89)), (3, .ref (ad 87)), (4, .ref (ad 88)), (5, .int i)] [] := by
  have X0 := z_isX X
  refine x_aload_n X0 dL_law_2100 rfl 1 rfl ?_
  refine z_callX X (As := []) [] dL_law_2101 (kX10_lateOnes (hp σ τ ρ θ hR)) cm_X10_lateOnes ci_X10_lateOnes w_4_37 dsX_0 (by decide) rfl (Nat.le_of_ble_eq_true rfl) ?_
  rintro v σ1 τ1 ⟨r, rfl, hq⟩
  show V (z_c σ1 ρ) (z_cL τ1 θ) _ _ [.int r]
  refine x_aload_n X0 dL_law_2104 rfl 2 rfl ?_
  refine z_callM X (As := []) [.int r] dL_law_2105 (kX11_lateOnes hq) cm_X11_lateOnes ci_X11_lateOnes w_8_231 dsM_0 (by decide) rfl (Nat.le_of_ble_eq_true rfl) ?_
  rintro v ρ1 θ1 ⟨r', rfl, hr, hR1⟩
  show V (z_c σ1 ρ1) (z_cL τ1 θ1) _ _ [.int r', .int r]
  exact x_icmp_eq X0 2634 dL_law_2108 rfl (fun _ => k9 V j σ1 τ1 ρ1 θ1 (by omega) X hR1) (fun h => absurd hr h)
/-- what the law asks of bestRoad -/
def z_p33 (R : x_S → x_L → x_S → x_L → Prop) : Prop := ∀ (σ : x_S) (τ : x_L) (ρ : x_S) (θ : x_L), R σ τ ρ θ → wX10_bestRoad σ τ (fun r σ1 τ1 => wX11_bestRoad ρ θ (fun r' ρ1 θ1 => r = r' ∧ R σ1 τ1 ρ1 θ1))
set_option maxRecDepth 100000 in
set_option maxHeartbeats 4000000 in
theorem z_case33 {R : x_S → x_L → x_S → x_L → Prop} (hp : z_p33 R) {V : x_J} {ad : Nat → Nat} {b L : Nat} {xs : Nat → Int32} {j : Nat} {i : Int32} {σ ρ : x_S} {τ θ : x_L} (X : z_Is V ad b L xs j) (hj : j + 4 ≤ 600000) (h1 : vp_in (i + 1) L) (h2 : vp_in (i + 2) L) (h3 : vp_in (i + 3) L) (h4 : vp_in (i + 4) L) (h5 : vp_in (i + 5) L) (hR : R σ τ ρ θ)
    (k9 : ∀ (V' : x_J) (j' : Nat) (σ' : x_S) (τ' : x_L) (ρ' : x_S) (θ' : x_L), j' ≤ j + 4 → z_Is V' ad b L xs j' → R σ' τ' ρ' θ' → V' (z_c σ' ρ') (z_cL τ' θ') 2634 [(0, .ref b), (1, .ref (ad 0)), (2, .ref (ad 89)), (3, .ref (ad 87)), (4, .ref (ad 88)), (5, .int i)] []) : V (z_c σ ρ) (z_cL τ θ) 2113 [(0, .ref b), (1, .ref (ad 0)), (2, .ref (ad 89)), (3, .ref (ad 87)), (4, .ref (ad 88)), (5, .int i)] [] := by
  have X0 := z_isX X
  refine x_aload_n X0 dL_law_2113 rfl 1 rfl ?_
  refine z_callX X (As := []) [] dL_law_2114 (kX10_bestRoad (hp σ τ ρ θ hR)) cm_X10_bestRoad ci_X10_bestRoad w_4_41 dsX_0 (by decide) rfl (Nat.le_of_ble_eq_true rfl) ?_
  rintro v σ1 τ1 ⟨r, rfl, hq⟩
  show V (z_c σ1 ρ) (z_cL τ1 θ) _ _ [.int r]
  refine x_aload_n X0 dL_law_2117 rfl 2 rfl ?_
  refine z_callM X (As := []) [.int r] dL_law_2118 (kX11_bestRoad hq) cm_X11_bestRoad ci_X11_bestRoad w_8_235 dsM_0 (by decide) rfl (Nat.le_of_ble_eq_true rfl) ?_
  rintro v ρ1 θ1 ⟨r', rfl, hr, hR1⟩
  show V (z_c σ1 ρ1) (z_cL τ1 θ1) _ _ [.int r', .int r]
  exact x_icmp_eq X0 2634 dL_law_2121 rfl (fun _ => k9 V j σ1 τ1 ρ1 θ1 (by omega) X hR1) (fun h => absurd hr h)
/-- what the law asks of orderLoss -/
def z_p34 (R : x_S → x_L → x_S → x_L → Prop) : Prop := ∀ (σ : x_S) (τ : x_L) (ρ : x_S) (θ : x_L), R σ τ ρ θ → ∀ (a1 : Int32) (a2 : Int32), wL_orderLoss a1 a2 σ τ (fun k σ1 τ1 => wX11_orderLoss a1 a2 ρ θ (fun b ρ1 θ1 => wX11_thrown ρ1 θ1 (fun th ρ2 θ2 => th = k ∧ (k = 0 → τ1 87 0 = b.toInt64) ∧ R σ1 τ1 ρ2 θ2)))
set_option maxRecDepth 100000 in
set_option maxHeartbeats 4000000 in
theorem z_case34 {R : x_S → x_L → x_S → x_L → Prop} (hp : z_p34 R) {V : x_J} {ad : Nat → Nat} {b L : Nat} {xs : Nat → Int32} {j : Nat} {i : Int32} {σ ρ : x_S} {τ θ : x_L} (X : z_Is V ad b L xs j) (hj : j + 4 ≤ 600000) (h1 : vp_in (i + 1) L) (h2 : vp_in (i + 2) L) (h3 : vp_in (i + 3) L) (h4 : vp_in (i + 4) L) (h5 : vp_in (i + 5) L) (hR : R σ τ ρ θ)
    (k9 : ∀ (V' : x_J) (j' : Nat) (σ' : x_S) (τ' : x_L) (ρ' : x_S) (θ' : x_L), j' ≤ j + 4 → z_Is V' ad b L xs j' → R σ' τ' ρ' θ' → V' (z_c σ' ρ') (z_cL τ' θ') 2634 [(0, .ref b), (1, .ref (ad 0)), (2, .ref (ad 89)), (3, .ref (ad 87)), (4, .ref (ad 88)), (5, .int i)] []) : V (z_c σ ρ) (z_cL τ θ) 2126 [(0, .ref b), (1, .ref (ad 0)), (2, .ref (ad 89)), (3, .ref (ad 87)), (4, .ref (ad 88)), (5, .int i)] [] := by
  have X0 := z_isX X
  refine x_aload_n X0 dL_law_2126 rfl 1 rfl ?_
  refine x_aload_n X0 dL_law_2127 rfl 0 rfl ?_
  refine x_iload X0 dL_law_2128 5 rfl ?_
  refine x_iconst X0 (v := 1) dL_law_2130 (by decide) ?_
  refine x_iadd X0 dL_law_2131 ?_
  refine z_sld X h1 dL_law_2132 ?_
  refine x_aload_n X0 dL_law_2133 rfl 0 rfl ?_
  refine x_iload X0 dL_law_2134 5 rfl ?_
  refine x_iconst X0 (v := 2) dL_law_2136 (by decide) ?_
  refine x_iadd X0 dL_law_2137 ?_
  refine z_sld X h2 dL_law_2138 ?_
  refine x_aload_n X0 dL_law_2139 rfl 3 rfl ?_
  refine z_callW X (K := 4) (As := [.ref (ad 0), .int (xs (i + 1).toNatClampNeg), .int (xs (i + 2).toNatClampNeg), .ref (ad 87)]) [] dL_law_2140 (kL_orderLoss (hp σ τ ρ θ hR (xs (i + 1).toNatClampNeg) (xs (i + 2).toNatClampNeg))) lc_orderLoss ls_orderLoss w_6_76 (by decide) hj rfl (Nat.le_of_ble_eq_true rfl) ?_
  rintro V1 v σ1 τ1 X1 ⟨k, rfl, hq⟩
  have X2 := z_isX X1
  show V1 (z_c σ1 ρ) (z_cL τ1 θ) _ _ [.int k]
  refine x_istore X2 dL_law_2143 (by decide) rfl ?_
  refine x_aload_n X2 dL_law_2145 rfl 3 rfl ?_
  refine x_aload_n X2 dL_law_2146 rfl 1 rfl ?_
  refine x_iload X2 dL_law_2147 6 rfl ?_
  refine x_iconst X2 (v := 1) dL_law_2149 (by decide) ?_
  refine x_iadd X2 dL_law_2150 ?_
  refine z_sld X1 h1 dL_law_2151 ?_
  refine x_aload_n X2 dL_law_2152 rfl 1 rfl ?_
  refine x_iload X2 dL_law_2153 6 rfl ?_
  refine x_iconst X2 (v := 2) dL_law_2155 (by decide) ?_
  refine x_iadd X2 dL_law_2156 ?_
  refine z_sld X1 h2 dL_law_2157 ?_
  refine z_callM X1 (As := [.int (xs (i + 1).toNatClampNeg), .int (xs (i + 2).toNatClampNeg)]) [] dL_law_2158 (kX11_orderLoss hq) cm_X11_orderLoss ci_X11_orderLoss w_9_3 dsM_0 (by decide) rfl (Nat.le_of_ble_eq_true rfl) ?_
  rintro v ρ1 θ1 ⟨bb, rfl, hq⟩
  show V1 (z_c σ1 ρ1) (z_cL τ1 θ1) _ _ [.int bb]
  refine x_istore X2 dL_law_2161 (by decide) rfl ?_
  refine x_aload_n X2 dL_law_2163 rfl 4 rfl ?_
  refine z_callM X1 (As := []) [] dL_law_2164 (kX11_thrown hq) cm_X11_thrown ci_X11_thrown w_7_74 dsM_0 (by decide) rfl (Nat.le_of_ble_eq_true rfl) ?_
  rintro v ρ2 θ2 ⟨th, rfl, ht, hout, hR1⟩
  show V1 (z_c σ1 ρ2) (z_cL τ1 θ2) _ _ [.int th]
  refine x_iload X2 dL_law_2167 1 rfl ?_
  refine x_icmp_eq X2 2174 dL_law_2169 rfl (fun _ => ?_) (fun h => absurd ht h)
  refine x_iload X2 dL_law_2174 1 rfl ?_
  have fin : V1 (z_c σ1 ρ2) (z_cL τ1 θ2) 2191 [(7, .int bb), (6, .int k), (0, .ref b), (1, .ref (ad 0)), (2, .ref (ad 89)), (3, .ref (ad 87)), (4, .ref (ad 88)), (5, .int i)] [] := by
    refine x_goto X2 dL_law_2191 (tgt := 2634) rfl ?_
    exact x_sub X2 [2, 3, 4, 5, 6, 7] rfl (k9 V1 _ σ1 τ1 ρ2 θ2 (by omega) X1 hR1)
  refine x_if_ne X2 2191 dL_law_2176 rfl (fun _ => fin) (fun hk => ?_)
  refine x_aload_n X2 dL_law_2179 rfl 5 rfl ?_
  refine x_iconst X2 (v := 0) dL_law_2180 (by decide) ?_
  refine x_lald X2 (k := 87) (n := 1) dL_law_2181 rfl z_in0 ?_
  refine x_iload X2 dL_law_2182 0 rfl ?_
  refine x_i2l X2 dL_law_2184 ?_
  refine x_lcmp X2 dL_law_2185 ?_
  have e : (z_cL τ1 θ2) 87 (0 : Int32).toNatClampNeg = τ1 87 0 := rfl
  rw [e, hout hk, z_cmp0]
  exact x_if_eq X2 2191 dL_law_2186 rfl (fun _ => fin) (fun h => absurd rfl h)
/-- what the law asks of bestMember -/
def z_p35 (R : x_S → x_L → x_S → x_L → Prop) : Prop := ∀ (σ : x_S) (τ : x_L) (ρ : x_S) (θ : x_L), R σ τ ρ θ → ∀ (a1 : Int32) (a2 : Int32) (a3 : Int32), wL_bestMember a1 a2 a3 σ τ (fun k σ1 τ1 => wX11_bestMember a1 a2 a3 ρ θ (fun b ρ1 θ1 => wX11_thrown ρ1 θ1 (fun th ρ2 θ2 => th = k ∧ (k = 0 → τ1 87 0 = b.toInt64) ∧ R σ1 τ1 ρ2 θ2)))
set_option maxRecDepth 100000 in
set_option maxHeartbeats 4000000 in
theorem z_case35 {R : x_S → x_L → x_S → x_L → Prop} (hp : z_p35 R) {V : x_J} {ad : Nat → Nat} {b L : Nat} {xs : Nat → Int32} {j : Nat} {i : Int32} {σ ρ : x_S} {τ θ : x_L} (X : z_Is V ad b L xs j) (hj : j + 4 ≤ 600000) (h1 : vp_in (i + 1) L) (h2 : vp_in (i + 2) L) (h3 : vp_in (i + 3) L) (h4 : vp_in (i + 4) L) (h5 : vp_in (i + 5) L) (hR : R σ τ ρ θ)
    (k9 : ∀ (V' : x_J) (j' : Nat) (σ' : x_S) (τ' : x_L) (ρ' : x_S) (θ' : x_L), j' ≤ j + 4 → z_Is V' ad b L xs j' → R σ' τ' ρ' θ' → V' (z_c σ' ρ') (z_cL τ' θ') 2634 [(0, .ref b), (1, .ref (ad 0)), (2, .ref (ad 89)), (3, .ref (ad 87)), (4, .ref (ad 88)), (5, .int i)] []) : V (z_c σ ρ) (z_cL τ θ) 2194 [(0, .ref b), (1, .ref (ad 0)), (2, .ref (ad 89)), (3, .ref (ad 87)), (4, .ref (ad 88)), (5, .int i)] [] := by
  have X0 := z_isX X
  refine x_aload_n X0 dL_law_2194 rfl 1 rfl ?_
  refine x_aload_n X0 dL_law_2195 rfl 0 rfl ?_
  refine x_iload X0 dL_law_2196 5 rfl ?_
  refine x_iconst X0 (v := 1) dL_law_2198 (by decide) ?_
  refine x_iadd X0 dL_law_2199 ?_
  refine z_sld X h1 dL_law_2200 ?_
  refine x_aload_n X0 dL_law_2201 rfl 0 rfl ?_
  refine x_iload X0 dL_law_2202 5 rfl ?_
  refine x_iconst X0 (v := 2) dL_law_2204 (by decide) ?_
  refine x_iadd X0 dL_law_2205 ?_
  refine z_sld X h2 dL_law_2206 ?_
  refine x_aload_n X0 dL_law_2207 rfl 0 rfl ?_
  refine x_iload X0 dL_law_2208 5 rfl ?_
  refine x_iconst X0 (v := 3) dL_law_2210 (by decide) ?_
  refine x_iadd X0 dL_law_2211 ?_
  refine z_sld X h3 dL_law_2212 ?_
  refine x_aload_n X0 dL_law_2213 rfl 3 rfl ?_
  refine z_callW X (K := 4) (As := [.ref (ad 0), .int (xs (i + 1).toNatClampNeg), .int (xs (i + 2).toNatClampNeg), .int (xs (i + 3).toNatClampNeg), .ref (ad 87)]) [] dL_law_2214 (kL_bestMember (hp σ τ ρ θ hR (xs (i + 1).toNatClampNeg) (xs (i + 2).toNatClampNeg) (xs (i + 3).toNatClampNeg))) lc_bestMember ls_bestMember w_6_110 (by decide) hj rfl (Nat.le_of_ble_eq_true rfl) ?_
  rintro V1 v σ1 τ1 X1 ⟨k, rfl, hq⟩
  have X2 := z_isX X1
  show V1 (z_c σ1 ρ) (z_cL τ1 θ) _ _ [.int k]
  refine x_istore X2 dL_law_2217 (by decide) rfl ?_
  refine x_aload_n X2 dL_law_2219 rfl 3 rfl ?_
  refine x_aload_n X2 dL_law_2220 rfl 1 rfl ?_
  refine x_iload X2 dL_law_2221 6 rfl ?_
  refine x_iconst X2 (v := 1) dL_law_2223 (by decide) ?_
  refine x_iadd X2 dL_law_2224 ?_
  refine z_sld X1 h1 dL_law_2225 ?_
  refine x_aload_n X2 dL_law_2226 rfl 1 rfl ?_
  refine x_iload X2 dL_law_2227 6 rfl ?_
  refine x_iconst X2 (v := 2) dL_law_2229 (by decide) ?_
  refine x_iadd X2 dL_law_2230 ?_
  refine z_sld X1 h2 dL_law_2231 ?_
  refine x_aload_n X2 dL_law_2232 rfl 1 rfl ?_
  refine x_iload X2 dL_law_2233 6 rfl ?_
  refine x_iconst X2 (v := 3) dL_law_2235 (by decide) ?_
  refine x_iadd X2 dL_law_2236 ?_
  refine z_sld X1 h3 dL_law_2237 ?_
  refine z_callM X1 (As := [.int (xs (i + 1).toNatClampNeg), .int (xs (i + 2).toNatClampNeg), .int (xs (i + 3).toNatClampNeg)]) [] dL_law_2238 (kX11_bestMember hq) cm_X11_bestMember ci_X11_bestMember w_9_35 dsM_0 (by decide) rfl (Nat.le_of_ble_eq_true rfl) ?_
  rintro v ρ1 θ1 ⟨bb, rfl, hq⟩
  show V1 (z_c σ1 ρ1) (z_cL τ1 θ1) _ _ [.int bb]
  refine x_istore X2 dL_law_2241 (by decide) rfl ?_
  refine x_aload_n X2 dL_law_2243 rfl 4 rfl ?_
  refine z_callM X1 (As := []) [] dL_law_2244 (kX11_thrown hq) cm_X11_thrown ci_X11_thrown w_7_74 dsM_0 (by decide) rfl (Nat.le_of_ble_eq_true rfl) ?_
  rintro v ρ2 θ2 ⟨th, rfl, ht, hout, hR1⟩
  show V1 (z_c σ1 ρ2) (z_cL τ1 θ2) _ _ [.int th]
  refine x_iload X2 dL_law_2247 1 rfl ?_
  refine x_icmp_eq X2 2254 dL_law_2249 rfl (fun _ => ?_) (fun h => absurd ht h)
  refine x_iload X2 dL_law_2254 1 rfl ?_
  have fin : V1 (z_c σ1 ρ2) (z_cL τ1 θ2) 2271 [(7, .int bb), (6, .int k), (0, .ref b), (1, .ref (ad 0)), (2, .ref (ad 89)), (3, .ref (ad 87)), (4, .ref (ad 88)), (5, .int i)] [] := by
    refine x_goto X2 dL_law_2271 (tgt := 2634) rfl ?_
    exact x_sub X2 [2, 3, 4, 5, 6, 7] rfl (k9 V1 _ σ1 τ1 ρ2 θ2 (by omega) X1 hR1)
  refine x_if_ne X2 2271 dL_law_2256 rfl (fun _ => fin) (fun hk => ?_)
  refine x_aload_n X2 dL_law_2259 rfl 5 rfl ?_
  refine x_iconst X2 (v := 0) dL_law_2260 (by decide) ?_
  refine x_lald X2 (k := 87) (n := 1) dL_law_2261 rfl z_in0 ?_
  refine x_iload X2 dL_law_2262 0 rfl ?_
  refine x_i2l X2 dL_law_2264 ?_
  refine x_lcmp X2 dL_law_2265 ?_
  have e : (z_cL τ1 θ2) 87 (0 : Int32).toNatClampNeg = τ1 87 0 := rfl
  rw [e, hout hk, z_cmp0]
  exact x_if_eq X2 2271 dL_law_2266 rfl (fun _ => fin) (fun h => absurd rfl h)
/-- what the law asks of rate -/
def z_p36 (R : x_S → x_L → x_S → x_L → Prop) : Prop := ∀ (σ : x_S) (τ : x_L) (ρ : x_S) (θ : x_L), R σ τ ρ θ → ∀ (a1 : Int32), wL_rate a1 σ τ (fun k σ1 τ1 => wX11_rate a1 ρ θ (fun b ρ1 θ1 => wX11_thrown ρ1 θ1 (fun th ρ2 θ2 => th = k ∧ (k = 0 → vf_n64 (FP.f2d b) ∧ Op.cmpValue (FP.dcmp (τ1 88 0).toUInt64 (FP.f2d b)) .l = 0) ∧ R σ1 τ1 ρ2 θ2)))
set_option maxRecDepth 100000 in
set_option maxHeartbeats 4000000 in
theorem z_case36 {R : x_S → x_L → x_S → x_L → Prop} (hp : z_p36 R) {V : x_J} {ad : Nat → Nat} {b L : Nat} {xs : Nat → Int32} {j : Nat} {i : Int32} {σ ρ : x_S} {τ θ : x_L} (X : z_Is V ad b L xs j) (hj : j + 4 ≤ 600000) (h1 : vp_in (i + 1) L) (h2 : vp_in (i + 2) L) (h3 : vp_in (i + 3) L) (h4 : vp_in (i + 4) L) (h5 : vp_in (i + 5) L) (hR : R σ τ ρ θ)
    (k9 : ∀ (V' : x_J) (j' : Nat) (σ' : x_S) (τ' : x_L) (ρ' : x_S) (θ' : x_L), j' ≤ j + 4 → z_Is V' ad b L xs j' → R σ' τ' ρ' θ' → V' (z_c σ' ρ') (z_cL τ' θ') 2634 [(0, .ref b), (1, .ref (ad 0)), (2, .ref (ad 89)), (3, .ref (ad 87)), (4, .ref (ad 88)), (5, .int i)] []) : V (z_c σ ρ) (z_cL τ θ) 2274 [(0, .ref b), (1, .ref (ad 0)), (2, .ref (ad 89)), (3, .ref (ad 87)), (4, .ref (ad 88)), (5, .int i)] [] := by
  have X0 := z_isX X
  refine x_aload_n X0 dL_law_2274 rfl 1 rfl ?_
  refine x_aload_n X0 dL_law_2275 rfl 0 rfl ?_
  refine x_iload X0 dL_law_2276 5 rfl ?_
  refine x_iconst X0 (v := 1) dL_law_2278 (by decide) ?_
  refine x_iadd X0 dL_law_2279 ?_
  refine z_sld X h1 dL_law_2280 ?_
  refine x_aload X0 dL_law_2281 4 rfl ?_
  refine z_callW X (K := 4) (As := [.ref (ad 0), .int (xs (i + 1).toNatClampNeg), .ref (ad 88)]) [] dL_law_2283 (kL_rate (hp σ τ ρ θ hR (xs (i + 1).toNatClampNeg))) lc_rate ls_rate w_6_117 (by decide) hj rfl (Nat.le_of_ble_eq_true rfl) ?_
  rintro V1 v σ1 τ1 X1 ⟨k, rfl, hq⟩
  have X2 := z_isX X1
  show V1 (z_c σ1 ρ) (z_cL τ1 θ) _ _ [.int k]
  refine x_istore X2 dL_law_2286 (by decide) rfl ?_
  refine x_aload_n X2 dL_law_2288 rfl 3 rfl ?_
  refine x_aload_n X2 dL_law_2289 rfl 1 rfl ?_
  refine x_iload X2 dL_law_2290 6 rfl ?_
  refine x_iconst X2 (v := 1) dL_law_2292 (by decide) ?_
  refine x_iadd X2 dL_law_2293 ?_
  refine z_sld X1 h1 dL_law_2294 ?_
  refine z_callM X1 (As := [.int (xs (i + 1).toNatClampNeg)]) [] dL_law_2295 (kX11_rate hq) cm_X11_rate ci_X11_rate w_9_39 dsM_0 (by decide) rfl (Nat.le_of_ble_eq_true rfl) ?_
  rintro v ρ1 θ1 ⟨bb, rfl, hq⟩
  show V1 (z_c σ1 ρ1) (z_cL τ1 θ1) _ _ [.float bb]
  refine x_fstore X2 dL_law_2298 (by decide) rfl ?_
  refine x_aload_n X2 dL_law_2300 rfl 4 rfl ?_
  refine z_callM X1 (As := []) [] dL_law_2301 (kX11_thrown hq) cm_X11_thrown ci_X11_thrown w_7_74 dsM_0 (by decide) rfl (Nat.le_of_ble_eq_true rfl) ?_
  rintro v ρ2 θ2 ⟨th, rfl, ht, hout, hR1⟩
  show V1 (z_c σ1 ρ2) (z_cL τ1 θ2) _ _ [.int th]
  refine x_iload X2 dL_law_2304 1 rfl ?_
  refine x_icmp_eq X2 2311 dL_law_2306 rfl (fun _ => ?_) (fun h => absurd ht h)
  refine x_iload X2 dL_law_2311 1 rfl ?_
  have fin : V1 (z_c σ1 ρ2) (z_cL τ1 θ2) 2349 [(7, .float bb), (6, .int k), (0, .ref b), (1, .ref (ad 0)), (2, .ref (ad 89)), (3, .ref (ad 87)), (4, .ref (ad 88)), (5, .int i)] [] := by
    refine x_goto X2 dL_law_2349 (tgt := 2634) rfl ?_
    exact x_sub X2 [2, 3, 4, 5, 6, 7] rfl (k9 V1 _ σ1 τ1 ρ2 θ2 (by omega) X1 hR1)
  refine x_if_ne X2 2349 dL_law_2313 rfl (fun _ => fin) (fun hk => ?_)
  refine x_aload X2 dL_law_2316 6 rfl ?_
  refine x_iconst X2 (v := 0) dL_law_2318 (by decide) ?_
  refine x_dald X2 (k := 88) (n := 1) dL_law_2319 rfl z_in0 ?_
  refine x_fload X2 dL_law_2320 0 rfl ?_
  refine x_f2d X2 dL_law_2322 (hout hk).1 ?_
  refine x_dcmp X2 dL_law_2323 ?_
  exact x_if_eq X2 2349 dL_law_2324 rfl (fun _ => fin) (fun h => absurd (hout hk).2 h)
/-- what the law asks of shareBits -/
def z_p37 (R : x_S → x_L → x_S → x_L → Prop) : Prop := ∀ (σ : x_S) (τ : x_L) (ρ : x_S) (θ : x_L), R σ τ ρ θ → wL_shareBits σ τ (fun k σ1 τ1 => wX11_shareBits ρ θ (fun b ρ1 θ1 => wX11_thrown ρ1 θ1 (fun th ρ2 θ2 => th = k ∧ (k = 0 → τ1 87 0 = b.toInt64) ∧ R σ1 τ1 ρ2 θ2)))
set_option maxRecDepth 100000 in
set_option maxHeartbeats 4000000 in
theorem z_case37 {R : x_S → x_L → x_S → x_L → Prop} (hp : z_p37 R) {V : x_J} {ad : Nat → Nat} {b L : Nat} {xs : Nat → Int32} {j : Nat} {i : Int32} {σ ρ : x_S} {τ θ : x_L} (X : z_Is V ad b L xs j) (hj : j + 4 ≤ 600000) (h1 : vp_in (i + 1) L) (h2 : vp_in (i + 2) L) (h3 : vp_in (i + 3) L) (h4 : vp_in (i + 4) L) (h5 : vp_in (i + 5) L) (hR : R σ τ ρ θ)
    (k9 : ∀ (V' : x_J) (j' : Nat) (σ' : x_S) (τ' : x_L) (ρ' : x_S) (θ' : x_L), j' ≤ j + 4 → z_Is V' ad b L xs j' → R σ' τ' ρ' θ' → V' (z_c σ' ρ') (z_cL τ' θ') 2634 [(0, .ref b), (1, .ref (ad 0)), (2, .ref (ad 89)), (3, .ref (ad 87)), (4, .ref (ad 88)), (5, .int i)] []) : V (z_c σ ρ) (z_cL τ θ) 2352 [(0, .ref b), (1, .ref (ad 0)), (2, .ref (ad 89)), (3, .ref (ad 87)), (4, .ref (ad 88)), (5, .int i)] [] := by
  have X0 := z_isX X
  refine x_aload_n X0 dL_law_2352 rfl 1 rfl ?_
  refine x_aload_n X0 dL_law_2353 rfl 3 rfl ?_
  refine z_callW X (K := 4) (As := [.ref (ad 0), .ref (ad 87)]) [] dL_law_2354 (kL_shareBits (hp σ τ ρ θ hR)) lc_shareBits ls_shareBits w_6_124 (by decide) hj rfl (Nat.le_of_ble_eq_true rfl) ?_
  rintro V1 v σ1 τ1 X1 ⟨k, rfl, hq⟩
  have X2 := z_isX X1
  show V1 (z_c σ1 ρ) (z_cL τ1 θ) _ _ [.int k]
  refine x_istore X2 dL_law_2357 (by decide) rfl ?_
  refine x_aload_n X2 dL_law_2359 rfl 3 rfl ?_
  refine z_callM X1 (As := []) [] dL_law_2360 (kX11_shareBits hq) cm_X11_shareBits ci_X11_shareBits w_9_43 dsM_0 (by decide) rfl (Nat.le_of_ble_eq_true rfl) ?_
  rintro v ρ1 θ1 ⟨bb, rfl, hq⟩
  show V1 (z_c σ1 ρ1) (z_cL τ1 θ1) _ _ [.int bb]
  refine x_istore X2 dL_law_2363 (by decide) rfl ?_
  refine x_aload_n X2 dL_law_2365 rfl 4 rfl ?_
  refine z_callM X1 (As := []) [] dL_law_2366 (kX11_thrown hq) cm_X11_thrown ci_X11_thrown w_7_74 dsM_0 (by decide) rfl (Nat.le_of_ble_eq_true rfl) ?_
  rintro v ρ2 θ2 ⟨th, rfl, ht, hout, hR1⟩
  show V1 (z_c σ1 ρ2) (z_cL τ1 θ2) _ _ [.int th]
  refine x_iload X2 dL_law_2369 1 rfl ?_
  refine x_icmp_eq X2 2376 dL_law_2371 rfl (fun _ => ?_) (fun h => absurd ht h)
  refine x_iload X2 dL_law_2376 1 rfl ?_
  have fin : V1 (z_c σ1 ρ2) (z_cL τ1 θ2) 2393 [(7, .int bb), (6, .int k), (0, .ref b), (1, .ref (ad 0)), (2, .ref (ad 89)), (3, .ref (ad 87)), (4, .ref (ad 88)), (5, .int i)] [] := by
    refine x_goto X2 dL_law_2393 (tgt := 2634) rfl ?_
    exact x_sub X2 [2, 3, 4, 5, 6, 7] rfl (k9 V1 _ σ1 τ1 ρ2 θ2 (by omega) X1 hR1)
  refine x_if_ne X2 2393 dL_law_2378 rfl (fun _ => fin) (fun hk => ?_)
  refine x_aload_n X2 dL_law_2381 rfl 5 rfl ?_
  refine x_iconst X2 (v := 0) dL_law_2382 (by decide) ?_
  refine x_lald X2 (k := 87) (n := 1) dL_law_2383 rfl z_in0 ?_
  refine x_iload X2 dL_law_2384 0 rfl ?_
  refine x_i2l X2 dL_law_2386 ?_
  refine x_lcmp X2 dL_law_2387 ?_
  have e : (z_cL τ1 θ2) 87 (0 : Int32).toNatClampNeg = τ1 87 0 := rfl
  rw [e, hout hk, z_cmp0]
  exact x_if_eq X2 2393 dL_law_2388 rfl (fun _ => fin) (fun h => absurd rfl h)
/-- what the law asks of quickest -/
def z_p38 (R : x_S → x_L → x_S → x_L → Prop) : Prop := ∀ (σ : x_S) (τ : x_L) (ρ : x_S) (θ : x_L), R σ τ ρ θ → ∀ (a1 : Int32) (a2 : Int32), wL_quickest a1 a2 σ τ (fun k σ1 τ1 => wX11_quickest a1 a2 ρ θ (fun b ρ1 θ1 => wX11_thrown ρ1 θ1 (fun th ρ2 θ2 => th = k ∧ (k = 0 → τ1 87 0 = b.toInt64) ∧ R σ1 τ1 ρ2 θ2)))
set_option maxRecDepth 100000 in
set_option maxHeartbeats 4000000 in
theorem z_case38 {R : x_S → x_L → x_S → x_L → Prop} (hp : z_p38 R) {V : x_J} {ad : Nat → Nat} {b L : Nat} {xs : Nat → Int32} {j : Nat} {i : Int32} {σ ρ : x_S} {τ θ : x_L} (X : z_Is V ad b L xs j) (hj : j + 4 ≤ 600000) (h1 : vp_in (i + 1) L) (h2 : vp_in (i + 2) L) (h3 : vp_in (i + 3) L) (h4 : vp_in (i + 4) L) (h5 : vp_in (i + 5) L) (hR : R σ τ ρ θ)
    (k9 : ∀ (V' : x_J) (j' : Nat) (σ' : x_S) (τ' : x_L) (ρ' : x_S) (θ' : x_L), j' ≤ j + 4 → z_Is V' ad b L xs j' → R σ' τ' ρ' θ' → V' (z_c σ' ρ') (z_cL τ' θ') 2634 [(0, .ref b), (1, .ref (ad 0)), (2, .ref (ad 89)), (3, .ref (ad 87)), (4, .ref (ad 88)), (5, .int i)] []) : V (z_c σ ρ) (z_cL τ θ) 2396 [(0, .ref b), (1, .ref (ad 0)), (2, .ref (ad 89)), (3, .ref (ad 87)), (4, .ref (ad 88)), (5, .int i)] [] := by
  have X0 := z_isX X
  refine x_aload_n X0 dL_law_2396 rfl 1 rfl ?_
  refine x_aload_n X0 dL_law_2397 rfl 0 rfl ?_
  refine x_iload X0 dL_law_2398 5 rfl ?_
  refine x_iconst X0 (v := 1) dL_law_2400 (by decide) ?_
  refine x_iadd X0 dL_law_2401 ?_
  refine z_sld X h1 dL_law_2402 ?_
  refine x_aload_n X0 dL_law_2403 rfl 0 rfl ?_
  refine x_iload X0 dL_law_2404 5 rfl ?_
  refine x_iconst X0 (v := 2) dL_law_2406 (by decide) ?_
  refine x_iadd X0 dL_law_2407 ?_
  refine z_sld X h2 dL_law_2408 ?_
  refine x_aload_n X0 dL_law_2409 rfl 3 rfl ?_
  refine z_callW X (K := 4) (As := [.ref (ad 0), .int (xs (i + 1).toNatClampNeg), .int (xs (i + 2).toNatClampNeg), .ref (ad 87)]) [] dL_law_2410 (kL_quickest (hp σ τ ρ θ hR (xs (i + 1).toNatClampNeg) (xs (i + 2).toNatClampNeg))) lc_quickest ls_quickest w_6_157 (by decide) hj rfl (Nat.le_of_ble_eq_true rfl) ?_
  rintro V1 v σ1 τ1 X1 ⟨k, rfl, hq⟩
  have X2 := z_isX X1
  show V1 (z_c σ1 ρ) (z_cL τ1 θ) _ _ [.int k]
  refine x_istore X2 dL_law_2413 (by decide) rfl ?_
  refine x_aload_n X2 dL_law_2415 rfl 3 rfl ?_
  refine x_aload_n X2 dL_law_2416 rfl 1 rfl ?_
  refine x_iload X2 dL_law_2417 6 rfl ?_
  refine x_iconst X2 (v := 1) dL_law_2419 (by decide) ?_
  refine x_iadd X2 dL_law_2420 ?_
  refine z_sld X1 h1 dL_law_2421 ?_
  refine x_aload_n X2 dL_law_2422 rfl 1 rfl ?_
  refine x_iload X2 dL_law_2423 6 rfl ?_
  refine x_iconst X2 (v := 2) dL_law_2425 (by decide) ?_
  refine x_iadd X2 dL_law_2426 ?_
  refine z_sld X1 h2 dL_law_2427 ?_
  refine z_callM X1 (As := [.int (xs (i + 1).toNatClampNeg), .int (xs (i + 2).toNatClampNeg)]) [] dL_law_2428 (kX11_quickest hq) cm_X11_quickest ci_X11_quickest w_9_57 dsM_0 (by decide) rfl (Nat.le_of_ble_eq_true rfl) ?_
  rintro v ρ1 θ1 ⟨bb, rfl, hq⟩
  show V1 (z_c σ1 ρ1) (z_cL τ1 θ1) _ _ [.int bb]
  refine x_istore X2 dL_law_2431 (by decide) rfl ?_
  refine x_aload_n X2 dL_law_2433 rfl 4 rfl ?_
  refine z_callM X1 (As := []) [] dL_law_2434 (kX11_thrown hq) cm_X11_thrown ci_X11_thrown w_7_74 dsM_0 (by decide) rfl (Nat.le_of_ble_eq_true rfl) ?_
  rintro v ρ2 θ2 ⟨th, rfl, ht, hout, hR1⟩
  show V1 (z_c σ1 ρ2) (z_cL τ1 θ2) _ _ [.int th]
  refine x_iload X2 dL_law_2437 1 rfl ?_
  refine x_icmp_eq X2 2444 dL_law_2439 rfl (fun _ => ?_) (fun h => absurd ht h)
  refine x_iload X2 dL_law_2444 1 rfl ?_
  have fin : V1 (z_c σ1 ρ2) (z_cL τ1 θ2) 2461 [(7, .int bb), (6, .int k), (0, .ref b), (1, .ref (ad 0)), (2, .ref (ad 89)), (3, .ref (ad 87)), (4, .ref (ad 88)), (5, .int i)] [] := by
    refine x_goto X2 dL_law_2461 (tgt := 2634) rfl ?_
    exact x_sub X2 [2, 3, 4, 5, 6, 7] rfl (k9 V1 _ σ1 τ1 ρ2 θ2 (by omega) X1 hR1)
  refine x_if_ne X2 2461 dL_law_2446 rfl (fun _ => fin) (fun hk => ?_)
  refine x_aload_n X2 dL_law_2449 rfl 5 rfl ?_
  refine x_iconst X2 (v := 0) dL_law_2450 (by decide) ?_
  refine x_lald X2 (k := 87) (n := 1) dL_law_2451 rfl z_in0 ?_
  refine x_iload X2 dL_law_2452 0 rfl ?_
  refine x_i2l X2 dL_law_2454 ?_
  refine x_lcmp X2 dL_law_2455 ?_
  have e : (z_cL τ1 θ2) 87 (0 : Int32).toNatClampNeg = τ1 87 0 := rfl
  rw [e, hout hk, z_cmp0]
  exact x_if_eq X2 2461 dL_law_2456 rfl (fun _ => fin) (fun h => absurd rfl h)
/-- what the law asks of write -/
def z_p39 (R : x_S → x_L → x_S → x_L → Prop) : Prop := ∀ (σ : x_S) (τ : x_L) (ρ : x_S) (θ : x_L), R σ τ ρ θ → ∀ (a1 : Int32), wL_write a1 σ τ (fun k σ1 τ1 => wX11_write a1 ρ θ (fun b ρ1 θ1 => wX11_thrown ρ1 θ1 (fun th ρ2 θ2 => th = k ∧ (k = 0 → τ1 87 0 = b.toInt64) ∧ R σ1 τ1 ρ2 θ2)))
set_option maxRecDepth 100000 in
set_option maxHeartbeats 4000000 in
theorem z_case39 {R : x_S → x_L → x_S → x_L → Prop} (hp : z_p39 R) {V : x_J} {ad : Nat → Nat} {b L : Nat} {xs : Nat → Int32} {j : Nat} {i : Int32} {σ ρ : x_S} {τ θ : x_L} (X : z_Is V ad b L xs j) (hj : j + 4 ≤ 600000) (h1 : vp_in (i + 1) L) (h2 : vp_in (i + 2) L) (h3 : vp_in (i + 3) L) (h4 : vp_in (i + 4) L) (h5 : vp_in (i + 5) L) (hR : R σ τ ρ θ)
    (k9 : ∀ (V' : x_J) (j' : Nat) (σ' : x_S) (τ' : x_L) (ρ' : x_S) (θ' : x_L), j' ≤ j + 4 → z_Is V' ad b L xs j' → R σ' τ' ρ' θ' → V' (z_c σ' ρ') (z_cL τ' θ') 2634 [(0, .ref b), (1, .ref (ad 0)), (2, .ref (ad 89)), (3, .ref (ad 87)), (4, .ref (ad 88)), (5, .int i)] []) : V (z_c σ ρ) (z_cL τ θ) 2464 [(0, .ref b), (1, .ref (ad 0)), (2, .ref (ad 89)), (3, .ref (ad 87)), (4, .ref (ad 88)), (5, .int i)] [] := by
  have X0 := z_isX X
  refine x_aload_n X0 dL_law_2464 rfl 1 rfl ?_
  refine x_aload_n X0 dL_law_2465 rfl 0 rfl ?_
  refine x_iload X0 dL_law_2466 5 rfl ?_
  refine x_iconst X0 (v := 1) dL_law_2468 (by decide) ?_
  refine x_iadd X0 dL_law_2469 ?_
  refine z_sld X h1 dL_law_2470 ?_
  refine x_aload_n X0 dL_law_2471 rfl 3 rfl ?_
  refine z_callW X (K := 4) (As := [.ref (ad 0), .int (xs (i + 1).toNatClampNeg), .ref (ad 87)]) [] dL_law_2472 (kL_write (hp σ τ ρ θ hR (xs (i + 1).toNatClampNeg))) lc_write ls_write w_6_168 (by decide) hj rfl (Nat.le_of_ble_eq_true rfl) ?_
  rintro V1 v σ1 τ1 X1 ⟨k, rfl, hq⟩
  have X2 := z_isX X1
  show V1 (z_c σ1 ρ) (z_cL τ1 θ) _ _ [.int k]
  refine x_istore X2 dL_law_2475 (by decide) rfl ?_
  refine x_aload_n X2 dL_law_2477 rfl 3 rfl ?_
  refine x_aload_n X2 dL_law_2478 rfl 1 rfl ?_
  refine x_iload X2 dL_law_2479 6 rfl ?_
  refine x_iconst X2 (v := 1) dL_law_2481 (by decide) ?_
  refine x_iadd X2 dL_law_2482 ?_
  refine z_sld X1 h1 dL_law_2483 ?_
  refine z_callM X1 (As := [.int (xs (i + 1).toNatClampNeg)]) [] dL_law_2484 (kX11_write hq) cm_X11_write ci_X11_write w_9_67 dsM_0 (by decide) rfl (Nat.le_of_ble_eq_true rfl) ?_
  rintro v ρ1 θ1 ⟨bb, rfl, hq⟩
  show V1 (z_c σ1 ρ1) (z_cL τ1 θ1) _ _ [.int bb]
  refine x_istore X2 dL_law_2487 (by decide) rfl ?_
  refine x_aload_n X2 dL_law_2489 rfl 4 rfl ?_
  refine z_callM X1 (As := []) [] dL_law_2490 (kX11_thrown hq) cm_X11_thrown ci_X11_thrown w_7_74 dsM_0 (by decide) rfl (Nat.le_of_ble_eq_true rfl) ?_
  rintro v ρ2 θ2 ⟨th, rfl, ht, hout, hR1⟩
  show V1 (z_c σ1 ρ2) (z_cL τ1 θ2) _ _ [.int th]
  refine x_iload X2 dL_law_2493 1 rfl ?_
  refine x_icmp_eq X2 2500 dL_law_2495 rfl (fun _ => ?_) (fun h => absurd ht h)
  refine x_iload X2 dL_law_2500 1 rfl ?_
  have fin : V1 (z_c σ1 ρ2) (z_cL τ1 θ2) 2517 [(7, .int bb), (6, .int k), (0, .ref b), (1, .ref (ad 0)), (2, .ref (ad 89)), (3, .ref (ad 87)), (4, .ref (ad 88)), (5, .int i)] [] := by
    refine x_goto X2 dL_law_2517 (tgt := 2634) rfl ?_
    exact x_sub X2 [2, 3, 4, 5, 6, 7] rfl (k9 V1 _ σ1 τ1 ρ2 θ2 (by omega) X1 hR1)
  refine x_if_ne X2 2517 dL_law_2502 rfl (fun _ => fin) (fun hk => ?_)
  refine x_aload_n X2 dL_law_2505 rfl 5 rfl ?_
  refine x_iconst X2 (v := 0) dL_law_2506 (by decide) ?_
  refine x_lald X2 (k := 87) (n := 1) dL_law_2507 rfl z_in0 ?_
  refine x_iload X2 dL_law_2508 0 rfl ?_
  refine x_i2l X2 dL_law_2510 ?_
  refine x_lcmp X2 dL_law_2511 ?_
  have e : (z_cL τ1 θ2) 87 (0 : Int32).toNatClampNeg = τ1 87 0 := rfl
  rw [e, hout hk, z_cmp0]
  exact x_if_eq X2 2517 dL_law_2512 rfl (fun _ => fin) (fun h => absurd rfl h)
/-- what the law asks of outputByte -/
def z_p40 (R : x_S → x_L → x_S → x_L → Prop) : Prop := ∀ (σ : x_S) (τ : x_L) (ρ : x_S) (θ : x_L), R σ τ ρ θ → ∀ (a1 : Int32), wX10_outputByte a1 σ τ (fun r σ1 τ1 => wX11_outputByte a1 ρ θ (fun r' ρ1 θ1 => r = r' ∧ R σ1 τ1 ρ1 θ1))
set_option maxRecDepth 100000 in
set_option maxHeartbeats 4000000 in
theorem z_case40 {R : x_S → x_L → x_S → x_L → Prop} (hp : z_p40 R) {V : x_J} {ad : Nat → Nat} {b L : Nat} {xs : Nat → Int32} {j : Nat} {i : Int32} {σ ρ : x_S} {τ θ : x_L} (X : z_Is V ad b L xs j) (hj : j + 4 ≤ 600000) (h1 : vp_in (i + 1) L) (h2 : vp_in (i + 2) L) (h3 : vp_in (i + 3) L) (h4 : vp_in (i + 4) L) (h5 : vp_in (i + 5) L) (hR : R σ τ ρ θ)
    (k9 : ∀ (V' : x_J) (j' : Nat) (σ' : x_S) (τ' : x_L) (ρ' : x_S) (θ' : x_L), j' ≤ j + 4 → z_Is V' ad b L xs j' → R σ' τ' ρ' θ' → V' (z_c σ' ρ') (z_cL τ' θ') 2634 [(0, .ref b), (1, .ref (ad 0)), (2, .ref (ad 89)), (3, .ref (ad 87)), (4, .ref (ad 88)), (5, .int i)] []) : V (z_c σ ρ) (z_cL τ θ) 2520 [(0, .ref b), (1, .ref (ad 0)), (2, .ref (ad 89)), (3, .ref (ad 87)), (4, .ref (ad 88)), (5, .int i)] [] := by
  have X0 := z_isX X
  refine x_aload_n X0 dL_law_2520 rfl 1 rfl ?_
  refine x_aload_n X0 dL_law_2521 rfl 0 rfl ?_
  refine x_iload X0 dL_law_2522 5 rfl ?_
  refine x_iconst X0 (v := 1) dL_law_2524 (by decide) ?_
  refine x_iadd X0 dL_law_2525 ?_
  refine z_sld X h1 dL_law_2526 ?_
  refine z_callX X (As := [.int (xs (i + 1).toNatClampNeg)]) [] dL_law_2527 (kX10_outputByte (hp σ τ ρ θ hR (xs (i + 1).toNatClampNeg))) cm_X10_outputByte ci_X10_outputByte w_4_45 dsX_0 (by decide) rfl (Nat.le_of_ble_eq_true rfl) ?_
  rintro v σ1 τ1 ⟨r, rfl, hq⟩
  show V (z_c σ1 ρ) (z_cL τ1 θ) _ _ [.int r]
  refine x_aload_n X0 dL_law_2530 rfl 2 rfl ?_
  refine x_aload_n X0 dL_law_2531 rfl 0 rfl ?_
  refine x_iload X0 dL_law_2532 5 rfl ?_
  refine x_iconst X0 (v := 1) dL_law_2534 (by decide) ?_
  refine x_iadd X0 dL_law_2535 ?_
  refine z_sld X h1 dL_law_2536 ?_
  refine z_callM X (As := [.int (xs (i + 1).toNatClampNeg)]) [.int r] dL_law_2537 (kX11_outputByte hq) cm_X11_outputByte ci_X11_outputByte w_9_79 dsM_0 (by decide) rfl (Nat.le_of_ble_eq_true rfl) ?_
  rintro v ρ1 θ1 ⟨r', rfl, hr, hR1⟩
  show V (z_c σ1 ρ1) (z_cL τ1 θ1) _ _ [.int r', .int r]
  exact x_icmp_eq X0 2634 dL_law_2540 rfl (fun _ => k9 V j σ1 τ1 ρ1 θ1 (by omega) X hR1) (fun h => absurd hr h)
/-- what the law asks of play -/
def z_p41 (R : x_S → x_L → x_S → x_L → Prop) : Prop := ∀ (σ : x_S) (τ : x_L) (ρ : x_S) (θ : x_L), R σ τ ρ θ → wX10_play σ τ (fun r σ1 τ1 => wX11_play ρ θ (fun r' ρ1 θ1 => r = r' ∧ R σ1 τ1 ρ1 θ1))
set_option maxRecDepth 100000 in
set_option maxHeartbeats 4000000 in
theorem z_case41 {R : x_S → x_L → x_S → x_L → Prop} (hp : z_p41 R) {V : x_J} {ad : Nat → Nat} {b L : Nat} {xs : Nat → Int32} {j : Nat} {i : Int32} {σ ρ : x_S} {τ θ : x_L} (X : z_Is V ad b L xs j) (hj : j + 4 ≤ 600000) (h1 : vp_in (i + 1) L) (h2 : vp_in (i + 2) L) (h3 : vp_in (i + 3) L) (h4 : vp_in (i + 4) L) (h5 : vp_in (i + 5) L) (hR : R σ τ ρ θ)
    (k9 : ∀ (V' : x_J) (j' : Nat) (σ' : x_S) (τ' : x_L) (ρ' : x_S) (θ' : x_L), j' ≤ j + 4 → z_Is V' ad b L xs j' → R σ' τ' ρ' θ' → V' (z_c σ' ρ') (z_cL τ' θ') 2634 [(0, .ref b), (1, .ref (ad 0)), (2, .ref (ad 89)), (3, .ref (ad 87)), (4, .ref (ad 88)), (5, .int i)] []) : V (z_c σ ρ) (z_cL τ θ) 2545 [(0, .ref b), (1, .ref (ad 0)), (2, .ref (ad 89)), (3, .ref (ad 87)), (4, .ref (ad 88)), (5, .int i)] [] := by
  have X0 := z_isX X
  refine x_aload_n X0 dL_law_2545 rfl 1 rfl ?_
  refine z_callX X (As := []) [] dL_law_2546 (kX10_play (hp σ τ ρ θ hR)) cm_X10_play ci_X10_play w_4_49 dsX_0 (by decide) rfl (Nat.le_of_ble_eq_true rfl) ?_
  rintro v σ1 τ1 ⟨r, rfl, hq⟩
  show V (z_c σ1 ρ) (z_cL τ1 θ) _ _ [.int r]
  refine x_aload_n X0 dL_law_2549 rfl 2 rfl ?_
  refine z_callM X (As := []) [.int r] dL_law_2550 (kX11_play hq) cm_X11_play ci_X11_play w_9_175 dsM_0 (by decide) rfl (Nat.le_of_ble_eq_true rfl) ?_
  rintro v ρ1 θ1 ⟨r', rfl, hr, hR1⟩
  show V (z_c σ1 ρ1) (z_cL τ1 θ1) _ _ [.int r', .int r]
  exact x_icmp_eq X0 2634 dL_law_2553 rfl (fun _ => k9 V j σ1 τ1 ρ1 θ1 (by omega) X hR1) (fun h => absurd hr h)
/-- what the law asks of undo -/
def z_p42 (R : x_S → x_L → x_S → x_L → Prop) : Prop := ∀ (σ : x_S) (τ : x_L) (ρ : x_S) (θ : x_L), R σ τ ρ θ → wX10_undo σ τ (fun r σ1 τ1 => wX11_undo ρ θ (fun r' ρ1 θ1 => r = r' ∧ R σ1 τ1 ρ1 θ1))
set_option maxRecDepth 100000 in
set_option maxHeartbeats 4000000 in
theorem z_case42 {R : x_S → x_L → x_S → x_L → Prop} (hp : z_p42 R) {V : x_J} {ad : Nat → Nat} {b L : Nat} {xs : Nat → Int32} {j : Nat} {i : Int32} {σ ρ : x_S} {τ θ : x_L} (X : z_Is V ad b L xs j) (hj : j + 4 ≤ 600000) (h1 : vp_in (i + 1) L) (h2 : vp_in (i + 2) L) (h3 : vp_in (i + 3) L) (h4 : vp_in (i + 4) L) (h5 : vp_in (i + 5) L) (hR : R σ τ ρ θ)
    (k9 : ∀ (V' : x_J) (j' : Nat) (σ' : x_S) (τ' : x_L) (ρ' : x_S) (θ' : x_L), j' ≤ j + 4 → z_Is V' ad b L xs j' → R σ' τ' ρ' θ' → V' (z_c σ' ρ') (z_cL τ' θ') 2634 [(0, .ref b), (1, .ref (ad 0)), (2, .ref (ad 89)), (3, .ref (ad 87)), (4, .ref (ad 88)), (5, .int i)] []) : V (z_c σ ρ) (z_cL τ θ) 2558 [(0, .ref b), (1, .ref (ad 0)), (2, .ref (ad 89)), (3, .ref (ad 87)), (4, .ref (ad 88)), (5, .int i)] [] := by
  have X0 := z_isX X
  refine x_aload_n X0 dL_law_2558 rfl 1 rfl ?_
  refine z_callX X (As := []) [] dL_law_2559 (kX10_undo (hp σ τ ρ θ hR)) cm_X10_undo ci_X10_undo w_4_141 dsX_0 (by decide) rfl (Nat.le_of_ble_eq_true rfl) ?_
  rintro v σ1 τ1 ⟨r, rfl, hq⟩
  show V (z_c σ1 ρ) (z_cL τ1 θ) _ _ [.int r]
  refine x_aload_n X0 dL_law_2562 rfl 2 rfl ?_
  refine z_callM X (As := []) [.int r] dL_law_2563 (kX11_undo hq) cm_X11_undo ci_X11_undo w_7_78 dsM_0 (by decide) rfl (Nat.le_of_ble_eq_true rfl) ?_
  rintro v ρ1 θ1 ⟨r', rfl, hr, hR1⟩
  show V (z_c σ1 ρ1) (z_cL τ1 θ1) _ _ [.int r', .int r]
  exact x_icmp_eq X0 2634 dL_law_2566 rfl (fun _ => k9 V j σ1 τ1 ρ1 θ1 (by omega) X hR1) (fun h => absurd hr h)
/-- what the law asks of digest -/
def z_p43 (R : x_S → x_L → x_S → x_L → Prop) : Prop := ∀ (σ : x_S) (τ : x_L) (ρ : x_S) (θ : x_L), R σ τ ρ θ → wX10_digest σ τ (fun r σ1 τ1 => wX11_digest ρ θ (fun r' ρ1 θ1 => r = r' ∧ R σ1 τ1 ρ1 θ1))
set_option maxRecDepth 100000 in
set_option maxHeartbeats 4000000 in
theorem z_case43 {R : x_S → x_L → x_S → x_L → Prop} (hp : z_p43 R) {V : x_J} {ad : Nat → Nat} {b L : Nat} {xs : Nat → Int32} {j : Nat} {i : Int32} {σ ρ : x_S} {τ θ : x_L} (X : z_Is V ad b L xs j) (hj : j + 4 ≤ 600000) (h1 : vp_in (i + 1) L) (h2 : vp_in (i + 2) L) (h3 : vp_in (i + 3) L) (h4 : vp_in (i + 4) L) (h5 : vp_in (i + 5) L) (hR : R σ τ ρ θ)
    (k9 : ∀ (V' : x_J) (j' : Nat) (σ' : x_S) (τ' : x_L) (ρ' : x_S) (θ' : x_L), j' ≤ j + 4 → z_Is V' ad b L xs j' → R σ' τ' ρ' θ' → V' (z_c σ' ρ') (z_cL τ' θ') 2634 [(0, .ref b), (1, .ref (ad 0)), (2, .ref (ad 89)), (3, .ref (ad 87)), (4, .ref (ad 88)), (5, .int i)] []) : V (z_c σ ρ) (z_cL τ θ) 2571 [(0, .ref b), (1, .ref (ad 0)), (2, .ref (ad 89)), (3, .ref (ad 87)), (4, .ref (ad 88)), (5, .int i)] [] := by
  have X0 := z_isX X
  refine x_aload_n X0 dL_law_2571 rfl 1 rfl ?_
  refine z_callX X (As := []) [] dL_law_2572 (kX10_digest (hp σ τ ρ θ hR)) cm_X10_digest ci_X10_digest w_4_153 dsX_0 (by decide) rfl (Nat.le_of_ble_eq_true rfl) ?_
  rintro v σ1 τ1 ⟨r, rfl, hq⟩
  show V (z_c σ1 ρ) (z_cL τ1 θ) _ _ [.int r]
  refine x_aload_n X0 dL_law_2575 rfl 2 rfl ?_
  refine z_callM X (As := []) [.int r] dL_law_2576 (kX11_digest hq) cm_X11_digest ci_X11_digest w_9_63 dsM_0 (by decide) rfl (Nat.le_of_ble_eq_true rfl) ?_
  rintro v ρ1 θ1 ⟨r', rfl, hr, hR1⟩
  show V (z_c σ1 ρ1) (z_cL τ1 θ1) _ _ [.int r', .int r]
  exact x_icmp_eq X0 2634 dL_law_2579 rfl (fun _ => k9 V j σ1 τ1 ρ1 θ1 (by omega) X hR1) (fun h => absurd hr h)
/-- what the law asks of saveSnapshot -/
def z_p44 (R : x_S → x_L → x_S → x_L → Prop) : Prop := ∀ (σ : x_S) (τ : x_L) (ρ : x_S) (θ : x_L), R σ τ ρ θ → ∀ (a1 : Int32), wX10_saveSnapshot a1 σ τ (fun r σ1 τ1 => wX11_saveSnapshot a1 ρ θ (fun r' ρ1 θ1 => r = r' ∧ R σ1 τ1 ρ1 θ1))
set_option maxRecDepth 100000 in
set_option maxHeartbeats 4000000 in
theorem z_case44 {R : x_S → x_L → x_S → x_L → Prop} (hp : z_p44 R) {V : x_J} {ad : Nat → Nat} {b L : Nat} {xs : Nat → Int32} {j : Nat} {i : Int32} {σ ρ : x_S} {τ θ : x_L} (X : z_Is V ad b L xs j) (hj : j + 4 ≤ 600000) (h1 : vp_in (i + 1) L) (h2 : vp_in (i + 2) L) (h3 : vp_in (i + 3) L) (h4 : vp_in (i + 4) L) (h5 : vp_in (i + 5) L) (hR : R σ τ ρ θ)
    (k9 : ∀ (V' : x_J) (j' : Nat) (σ' : x_S) (τ' : x_L) (ρ' : x_S) (θ' : x_L), j' ≤ j + 4 → z_Is V' ad b L xs j' → R σ' τ' ρ' θ' → V' (z_c σ' ρ') (z_cL τ' θ') 2634 [(0, .ref b), (1, .ref (ad 0)), (2, .ref (ad 89)), (3, .ref (ad 87)), (4, .ref (ad 88)), (5, .int i)] []) : V (z_c σ ρ) (z_cL τ θ) 2584 [(0, .ref b), (1, .ref (ad 0)), (2, .ref (ad 89)), (3, .ref (ad 87)), (4, .ref (ad 88)), (5, .int i)] [] := by
  have X0 := z_isX X
  refine x_aload_n X0 dL_law_2584 rfl 1 rfl ?_
  refine x_aload_n X0 dL_law_2585 rfl 0 rfl ?_
  refine x_iload X0 dL_law_2586 5 rfl ?_
  refine x_iconst X0 (v := 1) dL_law_2588 (by decide) ?_
  refine x_iadd X0 dL_law_2589 ?_
  refine z_sld X h1 dL_law_2590 ?_
  refine z_callX X (As := [.int (xs (i + 1).toNatClampNeg)]) [] dL_law_2591 (kX10_saveSnapshot (hp σ τ ρ θ hR (xs (i + 1).toNatClampNeg))) cm_X10_saveSnapshot ci_X10_saveSnapshot w_4_161 dsX_0 (by decide) rfl (Nat.le_of_ble_eq_true rfl) ?_
  rintro v σ1 τ1 ⟨r, rfl, hq⟩
  show V (z_c σ1 ρ) (z_cL τ1 θ) _ _ [.int r]
  refine x_aload_n X0 dL_law_2594 rfl 2 rfl ?_
  refine x_aload_n X0 dL_law_2595 rfl 0 rfl ?_
  refine x_iload X0 dL_law_2596 5 rfl ?_
  refine x_iconst X0 (v := 1) dL_law_2598 (by decide) ?_
  refine x_iadd X0 dL_law_2599 ?_
  refine z_sld X h1 dL_law_2600 ?_
  refine z_callM X (As := [.int (xs (i + 1).toNatClampNeg)]) [.int r] dL_law_2601 (kX11_saveSnapshot hq) cm_X11_saveSnapshot ci_X11_saveSnapshot w_7_86 dsM_0 (by decide) rfl (Nat.le_of_ble_eq_true rfl) ?_
  rintro v ρ1 θ1 ⟨r', rfl, hr, hR1⟩
  show V (z_c σ1 ρ1) (z_cL τ1 θ1) _ _ [.int r', .int r]
  exact x_icmp_eq X0 2634 dL_law_2604 rfl (fun _ => k9 V j σ1 τ1 ρ1 θ1 (by omega) X hR1) (fun h => absurd hr h)
/-- what the law asks of restoreSnapshot -/
def z_p45 (R : x_S → x_L → x_S → x_L → Prop) : Prop := ∀ (σ : x_S) (τ : x_L) (ρ : x_S) (θ : x_L), R σ τ ρ θ → ∀ (a1 : Int32), wX10_restoreSnapshot a1 σ τ (fun r σ1 τ1 => wX11_restoreSnapshot a1 ρ θ (fun r' ρ1 θ1 => r = r' ∧ R σ1 τ1 ρ1 θ1))
set_option maxRecDepth 100000 in
set_option maxHeartbeats 4000000 in
theorem z_case45 {R : x_S → x_L → x_S → x_L → Prop} (hp : z_p45 R) {V : x_J} {ad : Nat → Nat} {b L : Nat} {xs : Nat → Int32} {j : Nat} {i : Int32} {σ ρ : x_S} {τ θ : x_L} (X : z_Is V ad b L xs j) (hj : j + 4 ≤ 600000) (h1 : vp_in (i + 1) L) (h2 : vp_in (i + 2) L) (h3 : vp_in (i + 3) L) (h4 : vp_in (i + 4) L) (h5 : vp_in (i + 5) L) (hR : R σ τ ρ θ)
    (k9 : ∀ (V' : x_J) (j' : Nat) (σ' : x_S) (τ' : x_L) (ρ' : x_S) (θ' : x_L), j' ≤ j + 4 → z_Is V' ad b L xs j' → R σ' τ' ρ' θ' → V' (z_c σ' ρ') (z_cL τ' θ') 2634 [(0, .ref b), (1, .ref (ad 0)), (2, .ref (ad 89)), (3, .ref (ad 87)), (4, .ref (ad 88)), (5, .int i)] []) : V (z_c σ ρ) (z_cL τ θ) 2609 [(0, .ref b), (1, .ref (ad 0)), (2, .ref (ad 89)), (3, .ref (ad 87)), (4, .ref (ad 88)), (5, .int i)] [] := by
  have X0 := z_isX X
  refine x_aload_n X0 dL_law_2609 rfl 1 rfl ?_
  refine x_aload_n X0 dL_law_2610 rfl 0 rfl ?_
  refine x_iload X0 dL_law_2611 5 rfl ?_
  refine x_iconst X0 (v := 1) dL_law_2613 (by decide) ?_
  refine x_iadd X0 dL_law_2614 ?_
  refine z_sld X h1 dL_law_2615 ?_
  refine z_callX X (As := [.int (xs (i + 1).toNatClampNeg)]) [] dL_law_2616 (kX10_restoreSnapshot (hp σ τ ρ θ hR (xs (i + 1).toNatClampNeg))) cm_X10_restoreSnapshot ci_X10_restoreSnapshot w_4_169 dsX_0 (by decide) rfl (Nat.le_of_ble_eq_true rfl) ?_
  rintro v σ1 τ1 ⟨r, rfl, hq⟩
  show V (z_c σ1 ρ) (z_cL τ1 θ) _ _ [.int r]
  refine x_aload_n X0 dL_law_2619 rfl 2 rfl ?_
  refine x_aload_n X0 dL_law_2620 rfl 0 rfl ?_
  refine x_iload X0 dL_law_2621 5 rfl ?_
  refine x_iconst X0 (v := 1) dL_law_2623 (by decide) ?_
  refine x_iadd X0 dL_law_2624 ?_
  refine z_sld X h1 dL_law_2625 ?_
  refine z_callM X (As := [.int (xs (i + 1).toNatClampNeg)]) [.int r] dL_law_2626 (kX11_restoreSnapshot hq) cm_X11_restoreSnapshot ci_X11_restoreSnapshot w_7_93 dsM_0 (by decide) rfl (Nat.le_of_ble_eq_true rfl) ?_
  rintro v ρ1 θ1 ⟨r', rfl, hr, hR1⟩
  show V (z_c σ1 ρ1) (z_cL τ1 θ1) _ _ [.int r', .int r]
  exact x_icmp_eq X0 2634 dL_law_2629 rfl (fun _ => k9 V j σ1 τ1 ρ1 θ1 (by omega) X hR1) (fun h => absurd hr h)
