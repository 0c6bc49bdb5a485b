abbrev cL_law : ByteArray := code
def yL_law : MethodName := ⟨RL, "law", "([I)Z"⟩
theorem dL_law_0 : decode cL_law 0 = .ok (.new 8, 3) := by decide +kernel
theorem dL_law_3 : decode cL_law 3 = .ok (.dup, 1) := by decide +kernel
theorem dL_law_4 : decode cL_law 4 = .ok (.invokespecial 87, 3) := by decide +kernel
theorem dL_law_7 : decode cL_law 7 = .ok (.astore_n 1, 1) := by decide +kernel
theorem dL_law_8 : decode cL_law 8 = .ok (.new 88, 3) := by decide +kernel
theorem dL_law_11 : decode cL_law 11 = .ok (.dup, 1) := by decide +kernel
theorem dL_law_12 : decode cL_law 12 = .ok (.invokespecial 90, 3) := by decide +kernel
theorem dL_law_15 : decode cL_law 15 = .ok (.astore_n 2, 1) := by decide +kernel
theorem dL_law_16 : decode cL_law 16 = .ok (.iconst 1, 1) := by decide +kernel
theorem dL_law_17 : decode cL_law 17 = .ok (.newarray .long, 2) := by decide +kernel
theorem dL_law_19 : decode cL_law 19 = .ok (.astore_n 3, 1) := by decide +kernel
theorem dL_law_20 : decode cL_law 20 = .ok (.iconst 0, 1) := by decide +kernel
theorem dL_law_21 : decode cL_law 21 = .ok (.istore 4, 2) := by decide +kernel
theorem dL_law_23 : decode cL_law 23 = .ok (.iload 4, 2) := by decide +kernel
theorem dL_law_25 : decode cL_law 25 = .ok (.aload_n 0, 1) := by decide +kernel
theorem dL_law_26 : decode cL_law 26 = .ok (.arraylength, 1) := by decide +kernel
theorem dL_law_27 : decode cL_law 27 = .ok (.bipush 6, 2) := by decide +kernel
theorem dL_law_29 : decode cL_law 29 = .ok (.isub, 1) := by decide +kernel
theorem dL_law_30 : decode cL_law 30 = .ok (.if_icmp .gt 2127, 3) := by decide +kernel
theorem dL_law_33 : decode cL_law 33 = .ok (.aload_n 0, 1) := by decide +kernel
theorem dL_law_34 : decode cL_law 34 = .ok (.iload 4, 2) := by decide +kernel
theorem dL_law_36 : decode cL_law 36 = .ok (.iaload, 1) := by decide +kernel
theorem dL_law_37 : decode cL_law 37 = .ok (.bipush 63, 2) := by decide +kernel
theorem dL_law_39 : decode cL_law 39 = .ok (.iand, 1) := by decide +kernel
theorem dL_law_40 : decode cL_law 40 = .ok (.tableswitch 2111 0 47 #[208, 281, 306, 350, 394, 407, 420, 445, 513, 588, 663, 676, 744, 769, 832, 857, 870, 926, 994, 1007, 1020, 1057, 1082, 1150, 1163, 1176, 1232, 1245, 1270, 1326, 1382, 1438, 1451, 1519, 1575, 1600, 1668, 1724, 1792, 1872, 1952, 1965, 1978, 1991, 2004, 2017, 2030, 2086], 208) := by decide +kernel
theorem dL_law_248 : decode cL_law 248 = .ok (.aload_n 1, 1) := by decide +kernel
theorem dL_law_249 : decode cL_law 249 = .ok (.aload_n 0, 1) := by decide +kernel
theorem dL_law_250 : decode cL_law 250 = .ok (.iload 4, 2) := by decide +kernel
theorem dL_law_252 : decode cL_law 252 = .ok (.iconst 1, 1) := by decide +kernel
theorem dL_law_253 : decode cL_law 253 = .ok (.iadd, 1) := by decide +kernel
theorem dL_law_254 : decode cL_law 254 = .ok (.iaload, 1) := by decide +kernel
theorem dL_law_255 : decode cL_law 255 = .ok (.aload_n 0, 1) := by decide +kernel
theorem dL_law_256 : decode cL_law 256 = .ok (.iload 4, 2) := by decide +kernel
theorem dL_law_258 : decode cL_law 258 = .ok (.iconst 2, 1) := by decide +kernel
theorem dL_law_259 : decode cL_law 259 = .ok (.iadd, 1) := by decide +kernel
theorem dL_law_260 : decode cL_law 260 = .ok (.iaload, 1) := by decide +kernel
theorem dL_law_261 : decode cL_law 261 = .ok (.aload_n 0, 1) := by decide +kernel
theorem dL_law_262 : decode cL_law 262 = .ok (.iload 4, 2) := by decide +kernel
theorem dL_law_264 : decode cL_law 264 = .ok (.iconst 3, 1) := by decide +kernel
theorem dL_law_265 : decode cL_law 265 = .ok (.iadd, 1) := by decide +kernel
theorem dL_law_266 : decode cL_law 266 = .ok (.iaload, 1) := by decide +kernel
theorem dL_law_267 : decode cL_law 267 = .ok (.aload_n 0, 1) := by decide +kernel
theorem dL_law_268 : decode cL_law 268 = .ok (.iload 4, 2) := by decide +kernel
theorem dL_law_270 : decode cL_law 270 = .ok (.iconst 4, 1) := by decide +kernel
theorem dL_law_271 : decode cL_law 271 = .ok (.iadd, 1) := by decide +kernel
theorem dL_law_272 : decode cL_law 272 = .ok (.iaload, 1) := by decide +kernel
theorem dL_law_273 : decode cL_law 273 = .ok (.aload_n 0, 1) := by decide +kernel
theorem dL_law_274 : decode cL_law 274 = .ok (.iload 4, 2) := by decide +kernel
theorem dL_law_276 : decode cL_law 276 = .ok (.iconst 5, 1) := by decide +kernel
theorem dL_law_277 : decode cL_law 277 = .ok (.iadd, 1) := by decide +kernel
theorem dL_law_278 : decode cL_law 278 = .ok (.iaload, 1) := by decide +kernel
theorem dL_law_279 : decode cL_law 279 = .ok (.invokevirtual 91, 3) := by decide +kernel
theorem dL_law_282 : decode cL_law 282 = .ok (.aload_n 2, 1) := by decide +kernel
theorem dL_law_283 : decode cL_law 283 = .ok (.aload_n 0, 1) := by decide +kernel
theorem dL_law_284 : decode cL_law 284 = .ok (.iload 4, 2) := by decide +kernel
theorem dL_law_286 : decode cL_law 286 = .ok (.iconst 1, 1) := by decide +kernel
theorem dL_law_287 : decode cL_law 287 = .ok (.iadd, 1) := by decide +kernel
theorem dL_law_288 : decode cL_law 288 = .ok (.iaload, 1) := by decide +kernel
theorem dL_law_289 : decode cL_law 289 = .ok (.aload_n 0, 1) := by decide +kernel
theorem dL_law_290 : decode cL_law 290 = .ok (.iload 4, 2) := by decide +kernel
theorem dL_law_292 : decode cL_law 292 = .ok (.iconst 2, 1) := by decide +kernel
theorem dL_law_293 : decode cL_law 293 = .ok (.iadd, 1) := by decide +kernel
theorem dL_law_294 : decode cL_law 294 = .ok (.iaload, 1) := by decide +kernel
theorem dL_law_295 : decode cL_law 295 = .ok (.aload_n 0, 1) := by decide +kernel
theorem dL_law_296 : decode cL_law 296 = .ok (.iload 4, 2) := by decide +kernel
theorem dL_law_298 : decode cL_law 298 = .ok (.iconst 3, 1) := by decide +kernel
theorem dL_law_299 : decode cL_law 299 = .ok (.iadd, 1) := by decide +kernel
theorem dL_law_300 : decode cL_law 300 = .ok (.iaload, 1) := by decide +kernel
theorem dL_law_301 : decode cL_law 301 = .ok (.aload_n 0, 1) := by decide +kernel
theorem dL_law_302 : decode cL_law 302 = .ok (.iload 4, 2) := by decide +kernel
theorem dL_law_304 : decode cL_law 304 = .ok (.iconst 4, 1) := by decide +kernel
theorem dL_law_305 : decode cL_law 305 = .ok (.iadd, 1) := by decide +kernel
theorem dL_law_306 : decode cL_law 306 = .ok (.iaload, 1) := by decide +kernel
theorem dL_law_307 : decode cL_law 307 = .ok (.aload_n 0, 1) := by decide +kernel
theorem dL_law_308 : decode cL_law 308 = .ok (.iload 4, 2) := by decide +kernel
theorem dL_law_310 : decode cL_law 310 = .ok (.iconst 5, 1) := by decide +kernel
theorem dL_law_311 : decode cL_law 311 = .ok (.iadd, 1) := by decide +kernel
theorem dL_law_312 : decode cL_law 312 = .ok (.iaload, 1) := by decide +kernel
theorem dL_law_313 : decode cL_law 313 = .ok (.invokevirtual 95, 3) := by decide +kernel
theorem dL_law_316 : decode cL_law 316 = .ok (.if_icmp .eq 1835, 3) := by decide +kernel
theorem dL_law_319 : decode cL_law 319 = .ok (.iconst 0, 1) := by decide +kernel
theorem dL_law_320 : decode cL_law 320 = .ok (.ireturn, 1) := by decide +kernel
theorem dL_law_321 : decode cL_law 321 = .ok (.aload_n 1, 1) := by decide +kernel
theorem dL_law_322 : decode cL_law 322 = .ok (.aload_n 0, 1) := by decide +kernel
theorem dL_law_323 : decode cL_law 323 = .ok (.iload 4, 2) := by decide +kernel
theorem dL_law_325 : decode cL_law 325 = .ok (.iconst 1, 1) := by decide +kernel
theorem dL_law_326 : decode cL_law 326 = .ok (.iadd, 1) := by decide +kernel
theorem dL_law_327 : decode cL_law 327 = .ok (.iaload, 1) := by decide +kernel
theorem dL_law_328 : decode cL_law 328 = .ok (.invokevirtual 96, 3) := by decide +kernel
theorem dL_law_331 : decode cL_law 331 = .ok (.aload_n 2, 1) := by decide +kernel
theorem dL_law_332 : decode cL_law 332 = .ok (.aload_n 0, 1) := by decide +kernel
theorem dL_law_333 : decode cL_law 333 = .ok (.iload 4, 2) := by decide +kernel
theorem dL_law_335 : decode cL_law 335 = .ok (.iconst 1, 1) := by decide +kernel
theorem dL_law_336 : decode cL_law 336 = .ok (.iadd, 1) := by decide +kernel
theorem dL_law_337 : decode cL_law 337 = .ok (.iaload, 1) := by decide +kernel
theorem dL_law_338 : decode cL_law 338 = .ok (.invokevirtual 99, 3) := by decide +kernel
theorem dL_law_341 : decode cL_law 341 = .ok (.if_icmp .eq 1810, 3) := by decide +kernel
theorem dL_law_344 : decode cL_law 344 = .ok (.iconst 0, 1) := by decide +kernel
theorem dL_law_345 : decode cL_law 345 = .ok (.ireturn, 1) := by decide +kernel
theorem dL_law_346 : decode cL_law 346 = .ok (.aload_n 1, 1) := by decide +kernel
theorem dL_law_347 : decode cL_law 347 = .ok (.aload_n 3, 1) := by decide +kernel
theorem dL_law_348 : decode cL_law 348 = .ok (.invokestatic 100, 3) := by decide +kernel
theorem dL_law_351 : decode cL_law 351 = .ok (.istore 5, 2) := by decide +kernel
theorem dL_law_353 : decode cL_law 353 = .ok (.aload_n 2, 1) := by decide +kernel
theorem dL_law_354 : decode cL_law 354 = .ok (.invokevirtual 105, 3) := by decide +kernel
theorem dL_law_357 : decode cL_law 357 = .ok (.istore 6, 2) := by decide +kernel
theorem dL_law_359 : decode cL_law 359 = .ok (.aload_n 2, 1) := by decide +kernel
theorem dL_law_360 : decode cL_law 360 = .ok (.invokevirtual 106, 3) := by decide +kernel
theorem dL_law_363 : decode cL_law 363 = .ok (.iload 5, 2) := by decide +kernel
theorem dL_law_365 : decode cL_law 365 = .ok (.if_icmp .eq 5, 3) := by decide +kernel
theorem dL_law_368 : decode cL_law 368 = .ok (.iconst 0, 1) := by decide +kernel
theorem dL_law_369 : decode cL_law 369 = .ok (.ireturn, 1) := by decide +kernel
theorem dL_law_370 : decode cL_law 370 = .ok (.iload 5, 2) := by decide +kernel
theorem dL_law_372 : decode cL_law 372 = .ok (.ifCond .ne 15, 3) := by decide +kernel
theorem dL_law_375 : decode cL_law 375 = .ok (.aload_n 3, 1) := by decide +kernel
theorem dL_law_376 : decode cL_law 376 = .ok (.iconst 0, 1) := by decide +kernel
theorem dL_law_377 : decode cL_law 377 = .ok (.laload, 1) := by decide +kernel
theorem dL_law_378 : decode cL_law 378 = .ok (.iload 6, 2) := by decide +kernel
theorem dL_law_380 : decode cL_law 380 = .ok (.i2l, 1) := by decide +kernel
theorem dL_law_381 : decode cL_law 381 = .ok (.lcmp, 1) := by decide +kernel
theorem dL_law_382 : decode cL_law 382 = .ok (.ifCond .eq 5, 3) := by decide +kernel
theorem dL_law_385 : decode cL_law 385 = .ok (.iconst 0, 1) := by decide +kernel
theorem dL_law_386 : decode cL_law 386 = .ok (.ireturn, 1) := by decide +kernel
theorem dL_law_387 : decode cL_law 387 = .ok (.goto 1764, 3) := by decide +kernel
theorem dL_law_390 : decode cL_law 390 = .ok (.aload_n 1, 1) := by decide +kernel
theorem dL_law_391 : decode cL_law 391 = .ok (.aload_n 3, 1) := by decide +kernel
theorem dL_law_392 : decode cL_law 392 = .ok (.invokestatic 109, 3) := by decide +kernel
theorem dL_law_395 : decode cL_law 395 = .ok (.istore 5, 2) := by decide +kernel
theorem dL_law_397 : decode cL_law 397 = .ok (.aload_n 2, 1) := by decide +kernel
theorem dL_law_398 : decode cL_law 398 = .ok (.invokevirtual 111, 3) := by decide +kernel
theorem dL_law_401 : decode cL_law 401 = .ok (.istore 6, 2) := by decide +kernel
theorem dL_law_403 : decode cL_law 403 = .ok (.aload_n 2, 1) := by decide +kernel
theorem dL_law_404 : decode cL_law 404 = .ok (.invokevirtual 106, 3) := by decide +kernel
theorem dL_law_407 : decode cL_law 407 = .ok (.iload 5, 2) := by decide +kernel
theorem dL_law_409 : decode cL_law 409 = .ok (.if_icmp .eq 5, 3) := by decide +kernel
theorem dL_law_412 : decode cL_law 412 = .ok (.iconst 0, 1) := by decide +kernel
theorem dL_law_413 : decode cL_law 413 = .ok (.ireturn, 1) := by decide +kernel
theorem dL_law_414 : decode cL_law 414 = .ok (.iload 5, 2) := by decide +kernel
theorem dL_law_416 : decode cL_law 416 = .ok (.ifCond .ne 15, 3) := by decide +kernel
theorem dL_law_419 : decode cL_law 419 = .ok (.aload_n 3, 1) := by decide +kernel
theorem dL_law_420 : decode cL_law 420 = .ok (.iconst 0, 1) := by decide +kernel
theorem dL_law_421 : decode cL_law 421 = .ok (.laload, 1) := by decide +kernel
theorem dL_law_422 : decode cL_law 422 = .ok (.iload 6, 2) := by decide +kernel
theorem dL_law_424 : decode cL_law 424 = .ok (.i2l, 1) := by decide +kernel
theorem dL_law_425 : decode cL_law 425 = .ok (.lcmp, 1) := by decide +kernel
theorem dL_law_426 : decode cL_law 426 = .ok (.ifCond .eq 5, 3) := by decide +kernel
theorem dL_law_429 : decode cL_law 429 = .ok (.iconst 0, 1) := by decide +kernel
theorem dL_law_430 : decode cL_law 430 = .ok (.ireturn, 1) := by decide +kernel
theorem dL_law_431 : decode cL_law 431 = .ok (.goto 1720, 3) := by decide +kernel
theorem dL_law_434 : decode cL_law 434 = .ok (.aload_n 1, 1) := by decide +kernel
theorem dL_law_435 : decode cL_law 435 = .ok (.invokevirtual 112, 3) := by decide +kernel
theorem dL_law_438 : decode cL_law 438 = .ok (.aload_n 2, 1) := by decide +kernel
theorem dL_law_439 : decode cL_law 439 = .ok (.invokevirtual 115, 3) := by decide +kernel
theorem dL_law_442 : decode cL_law 442 = .ok (.if_icmp .eq 1709, 3) := by decide +kernel
theorem dL_law_445 : decode cL_law 445 = .ok (.iconst 0, 1) := by decide +kernel
theorem dL_law_446 : decode cL_law 446 = .ok (.ireturn, 1) := by decide +kernel
theorem dL_law_447 : decode cL_law 447 = .ok (.aload_n 1, 1) := by decide +kernel
theorem dL_law_448 : decode cL_law 448 = .ok (.invokevirtual 116, 3) := by decide +kernel
theorem dL_law_451 : decode cL_law 451 = .ok (.aload_n 2, 1) := by decide +kernel
theorem dL_law_452 : decode cL_law 452 = .ok (.invokevirtual 119, 3) := by decide +kernel
theorem dL_law_455 : decode cL_law 455 = .ok (.if_icmp .eq 1696, 3) := by decide +kernel
theorem dL_law_458 : decode cL_law 458 = .ok (.iconst 0, 1) := by decide +kernel
theorem dL_law_459 : decode cL_law 459 = .ok (.ireturn, 1) := by decide +kernel
theorem dL_law_460 : decode cL_law 460 = .ok (.aload_n 1, 1) := by decide +kernel
theorem dL_law_461 : decode cL_law 461 = .ok (.aload_n 0, 1) := by decide +kernel
theorem dL_law_462 : decode cL_law 462 = .ok (.iload 4, 2) := by decide +kernel
theorem dL_law_464 : decode cL_law 464 = .ok (.iconst 1, 1) := by decide +kernel
theorem dL_law_465 : decode cL_law 465 = .ok (.iadd, 1) := by decide +kernel
theorem dL_law_466 : decode cL_law 466 = .ok (.iaload, 1) := by decide +kernel
theorem dL_law_467 : decode cL_law 467 = .ok (.invokevirtual 120, 3) := by decide +kernel
theorem dL_law_470 : decode cL_law 470 = .ok (.aload_n 2, 1) := by decide +kernel
theorem dL_law_471 : decode cL_law 471 = .ok (.aload_n 0, 1) := by decide +kernel
theorem dL_law_472 : decode cL_law 472 = .ok (.iload 4, 2) := by decide +kernel
theorem dL_law_474 : decode cL_law 474 = .ok (.iconst 1, 1) := by decide +kernel
theorem dL_law_475 : decode cL_law 475 = .ok (.iadd, 1) := by decide +kernel
theorem dL_law_476 : decode cL_law 476 = .ok (.iaload, 1) := by decide +kernel
theorem dL_law_477 : decode cL_law 477 = .ok (.invokevirtual 123, 3) := by decide +kernel
theorem dL_law_480 : decode cL_law 480 = .ok (.if_icmp .eq 1671, 3) := by decide +kernel
theorem dL_law_483 : decode cL_law 483 = .ok (.iconst 0, 1) := by decide +kernel
theorem dL_law_484 : decode cL_law 484 = .ok (.ireturn, 1) := by decide +kernel
theorem dL_law_485 : decode cL_law 485 = .ok (.aload_n 1, 1) := by decide +kernel
theorem dL_law_486 : decode cL_law 486 = .ok (.aload_n 0, 1) := by decide +kernel
theorem dL_law_487 : decode cL_law 487 = .ok (.iload 4, 2) := by decide +kernel
theorem dL_law_489 : decode cL_law 489 = .ok (.iconst 1, 1) := by decide +kernel
theorem dL_law_490 : decode cL_law 490 = .ok (.iadd, 1) := by decide +kernel
theorem dL_law_491 : decode cL_law 491 = .ok (.iaload, 1) := by decide +kernel
theorem dL_law_492 : decode cL_law 492 = .ok (.aload_n 0, 1) := by decide +kernel
theorem dL_law_493 : decode cL_law 493 = .ok (.iload 4, 2) := by decide +kernel
theorem dL_law_495 : decode cL_law 495 = .ok (.iconst 2, 1) := by decide +kernel
theorem dL_law_496 : decode cL_law 496 = .ok (.iadd, 1) := by decide +kernel
theorem dL_law_497 : decode cL_law 497 = .ok (.iaload, 1) := by decide +kernel
theorem dL_law_498 : decode cL_law 498 = .ok (.aload_n 3, 1) := by decide +kernel
theorem dL_law_499 : decode cL_law 499 = .ok (.invokestatic 124, 3) := by decide +kernel
theorem dL_law_502 : decode cL_law 502 = .ok (.istore 5, 2) := by decide +kernel
theorem dL_law_504 : decode cL_law 504 = .ok (.aload_n 2, 1) := by decide +kernel
theorem dL_law_505 : decode cL_law 505 = .ok (.aload_n 0, 1) := by decide +kernel
theorem dL_law_506 : decode cL_law 506 = .ok (.iload 4, 2) := by decide +kernel
theorem dL_law_508 : decode cL_law 508 = .ok (.iconst 1, 1) := by decide +kernel
theorem dL_law_509 : decode cL_law 509 = .ok (.iadd, 1) := by decide +kernel
theorem dL_law_510 : decode cL_law 510 = .ok (.iaload, 1) := by decide +kernel
theorem dL_law_511 : decode cL_law 511 = .ok (.aload_n 0, 1) := by decide +kernel
theorem dL_law_512 : decode cL_law 512 = .ok (.iload 4, 2) := by decide +kernel
theorem dL_law_514 : decode cL_law 514 = .ok (.iconst 2, 1) := by decide +kernel
theorem dL_law_515 : decode cL_law 515 = .ok (.iadd, 1) := by decide +kernel
theorem dL_law_516 : decode cL_law 516 = .ok (.iaload, 1) := by decide +kernel
theorem dL_law_517 : decode cL_law 517 = .ok (.invokevirtual 127, 3) := by decide +kernel
theorem dL_law_520 : decode cL_law 520 = .ok (.istore 6, 2) := by decide +kernel
theorem dL_law_522 : decode cL_law 522 = .ok (.aload_n 2, 1) := by decide +kernel
theorem dL_law_523 : decode cL_law 523 = .ok (.invokevirtual 106, 3) := by decide +kernel
theorem dL_law_526 : decode cL_law 526 = .ok (.iload 5, 2) := by decide +kernel
theorem dL_law_528 : decode cL_law 528 = .ok (.if_icmp .eq 5, 3) := by decide +kernel
theorem dL_law_531 : decode cL_law 531 = .ok (.iconst 0, 1) := by decide +kernel
theorem dL_law_532 : decode cL_law 532 = .ok (.ireturn, 1) := by decide +kernel
theorem dL_law_533 : decode cL_law 533 = .ok (.iload 5, 2) := by decide +kernel
theorem dL_law_535 : decode cL_law 535 = .ok (.ifCond .ne 15, 3) := by decide +kernel
theorem dL_law_538 : decode cL_law 538 = .ok (.aload_n 3, 1) := by decide +kernel
theorem dL_law_539 : decode cL_law 539 = .ok (.iconst 0, 1) := by decide +kernel
theorem dL_law_540 : decode cL_law 540 = .ok (.laload, 1) := by decide +kernel
theorem dL_law_541 : decode cL_law 541 = .ok (.iload 6, 2) := by decide +kernel
theorem dL_law_543 : decode cL_law 543 = .ok (.i2l, 1) := by decide +kernel
theorem dL_law_544 : decode cL_law 544 = .ok (.lcmp, 1) := by decide +kernel
theorem dL_law_545 : decode cL_law 545 = .ok (.ifCond .eq 5, 3) := by decide +kernel
theorem dL_law_548 : decode cL_law 548 = .ok (.iconst 0, 1) := by decide +kernel
theorem dL_law_549 : decode cL_law 549 = .ok (.ireturn, 1) := by decide +kernel
theorem dL_law_550 : decode cL_law 550 = .ok (.goto 1601, 3) := by decide +kernel
theorem dL_law_553 : decode cL_law 553 = .ok (.aload_n 1, 1) := by decide +kernel
theorem dL_law_554 : decode cL_law 554 = .ok (.aload_n 0, 1) := by decide +kernel
theorem dL_law_555 : decode cL_law 555 = .ok (.iload 4, 2) := by decide +kernel
theorem dL_law_557 : decode cL_law 557 = .ok (.iconst 1, 1) := by decide +kernel
theorem dL_law_558 : decode cL_law 558 = .ok (.iadd, 1) := by decide +kernel
theorem dL_law_559 : decode cL_law 559 = .ok (.iaload, 1) := by decide +kernel
theorem dL_law_560 : decode cL_law 560 = .ok (.aload_n 0, 1) := by decide +kernel
theorem dL_law_561 : decode cL_law 561 = .ok (.iload 4, 2) := by decide +kernel
theorem dL_law_563 : decode cL_law 563 = .ok (.iconst 2, 1) := by decide +kernel
theorem dL_law_564 : decode cL_law 564 = .ok (.iadd, 1) := by decide +kernel
theorem dL_law_565 : decode cL_law 565 = .ok (.iaload, 1) := by decide +kernel
theorem dL_law_566 : decode cL_law 566 = .ok (.aload_n 3, 1) := by decide +kernel
theorem dL_law_567 : decode cL_law 567 = .ok (.invokestatic 128, 3) := by decide +kernel
theorem dL_law_570 : decode cL_law 570 = .ok (.istore 5, 2) := by decide +kernel
theorem dL_law_572 : decode cL_law 572 = .ok (.aload_n 2, 1) := by decide +kernel
theorem dL_law_573 : decode cL_law 573 = .ok (.aload_n 0, 1) := by decide +kernel
theorem dL_law_574 : decode cL_law 574 = .ok (.iload 4, 2) := by decide +kernel
theorem dL_law_576 : decode cL_law 576 = .ok (.iconst 1, 1) := by decide +kernel
theorem dL_law_577 : decode cL_law 577 = .ok (.iadd, 1) := by decide +kernel
theorem dL_law_578 : decode cL_law 578 = .ok (.iaload, 1) := by decide +kernel
theorem dL_law_579 : decode cL_law 579 = .ok (.aload_n 0, 1) := by decide +kernel
theorem dL_law_580 : decode cL_law 580 = .ok (.iload 4, 2) := by decide +kernel
theorem dL_law_582 : decode cL_law 582 = .ok (.iconst 2, 1) := by decide +kernel
theorem dL_law_583 : decode cL_law 583 = .ok (.iadd, 1) := by decide +kernel
theorem dL_law_584 : decode cL_law 584 = .ok (.iaload, 1) := by decide +kernel
theorem dL_law_585 : decode cL_law 585 = .ok (.invokevirtual 130, 3) := by decide +kernel
theorem dL_law_588 : decode cL_law 588 = .ok (.istore 6, 2) := by decide +kernel
theorem dL_law_590 : decode cL_law 590 = .ok (.aload_n 2, 1) := by decide +kernel
theorem dL_law_591 : decode cL_law 591 = .ok (.invokevirtual 106, 3) := by decide +kernel
theorem dL_law_594 : decode cL_law 594 = .ok (.iload 5, 2) := by decide +kernel
theorem dL_law_596 : decode cL_law 596 = .ok (.if_icmp .eq 5, 3) := by decide +kernel
theorem dL_law_599 : decode cL_law 599 = .ok (.iconst 0, 1) := by decide +kernel
theorem dL_law_600 : decode cL_law 600 = .ok (.ireturn, 1) := by decide +kernel
theorem dL_law_601 : decode cL_law 601 = .ok (.iload 5, 2) := by decide +kernel
theorem dL_law_603 : decode cL_law 603 = .ok (.ifCond .ne 22, 3) := by decide +kernel
theorem dL_law_606 : decode cL_law 606 = .ok (.aload_n 3, 1) := by decide +kernel
theorem dL_law_607 : decode cL_law 607 = .ok (.iconst 0, 1) := by decide +kernel
theorem dL_law_608 : decode cL_law 608 = .ok (.laload, 1) := by decide +kernel
theorem dL_law_609 : decode cL_law 609 = .ok (.iload 6, 2) := by decide +kernel
theorem dL_law_611 : decode cL_law 611 = .ok (.ifCond .eq 7, 3) := by decide +kernel
theorem dL_law_614 : decode cL_law 614 = .ok (.lconst 1, 1) := by decide +kernel
theorem dL_law_615 : decode cL_law 615 = .ok (.goto 4, 3) := by decide +kernel
theorem dL_law_618 : decode cL_law 618 = .ok (.lconst 0, 1) := by decide +kernel
theorem dL_law_619 : decode cL_law 619 = .ok (.lcmp, 1) := by decide +kernel
theorem dL_law_620 : decode cL_law 620 = .ok (.ifCond .eq 5, 3) := by decide +kernel
theorem dL_law_623 : decode cL_law 623 = .ok (.iconst 0, 1) := by decide +kernel
theorem dL_law_624 : decode cL_law 624 = .ok (.ireturn, 1) := by decide +kernel
theorem dL_law_625 : decode cL_law 625 = .ok (.goto 1526, 3) := by decide +kernel
theorem dL_law_628 : decode cL_law 628 = .ok (.aload_n 1, 1) := by decide +kernel
theorem dL_law_629 : decode cL_law 629 = .ok (.aload_n 0, 1) := by decide +kernel
theorem dL_law_630 : decode cL_law 630 = .ok (.iload 4, 2) := by decide +kernel
theorem dL_law_632 : decode cL_law 632 = .ok (.iconst 1, 1) := by decide +kernel
theorem dL_law_633 : decode cL_law 633 = .ok (.iadd, 1) := by decide +kernel
theorem dL_law_634 : decode cL_law 634 = .ok (.iaload, 1) := by decide +kernel
theorem dL_law_635 : decode cL_law 635 = .ok (.aload_n 0, 1) := by decide +kernel
theorem dL_law_636 : decode cL_law 636 = .ok (.iload 4, 2) := by decide +kernel
theorem dL_law_638 : decode cL_law 638 = .ok (.iconst 2, 1) := by decide +kernel
theorem dL_law_639 : decode cL_law 639 = .ok (.iadd, 1) := by decide +kernel
theorem dL_law_640 : decode cL_law 640 = .ok (.iaload, 1) := by decide +kernel
theorem dL_law_641 : decode cL_law 641 = .ok (.aload_n 3, 1) := by decide +kernel
theorem dL_law_642 : decode cL_law 642 = .ok (.invokestatic 131, 3) := by decide +kernel
theorem dL_law_645 : decode cL_law 645 = .ok (.istore 5, 2) := by decide +kernel
theorem dL_law_647 : decode cL_law 647 = .ok (.aload_n 2, 1) := by decide +kernel
theorem dL_law_648 : decode cL_law 648 = .ok (.aload_n 0, 1) := by decide +kernel
theorem dL_law_649 : decode cL_law 649 = .ok (.iload 4, 2) := by decide +kernel
theorem dL_law_651 : decode cL_law 651 = .ok (.iconst 1, 1) := by decide +kernel
theorem dL_law_652 : decode cL_law 652 = .ok (.iadd, 1) := by decide +kernel
theorem dL_law_653 : decode cL_law 653 = .ok (.iaload, 1) := by decide +kernel
theorem dL_law_654 : decode cL_law 654 = .ok (.aload_n 0, 1) := by decide +kernel
theorem dL_law_655 : decode cL_law 655 = .ok (.iload 4, 2) := by decide +kernel
theorem dL_law_657 : decode cL_law 657 = .ok (.iconst 2, 1) := by decide +kernel
theorem dL_law_658 : decode cL_law 658 = .ok (.iadd, 1) := by decide +kernel
theorem dL_law_659 : decode cL_law 659 = .ok (.iaload, 1) := by decide +kernel
theorem dL_law_660 : decode cL_law 660 = .ok (.invokevirtual 133, 3) := by decide +kernel
theorem dL_law_663 : decode cL_law 663 = .ok (.istore 6, 2) := by decide +kernel
theorem dL_law_665 : decode cL_law 665 = .ok (.aload_n 2, 1) := by decide +kernel
theorem dL_law_666 : decode cL_law 666 = .ok (.invokevirtual 106, 3) := by decide +kernel
theorem dL_law_669 : decode cL_law 669 = .ok (.iload 5, 2) := by decide +kernel
theorem dL_law_671 : decode cL_law 671 = .ok (.if_icmp .eq 5, 3) := by decide +kernel
theorem dL_law_674 : decode cL_law 674 = .ok (.iconst 0, 1) := by decide +kernel
theorem dL_law_675 : decode cL_law 675 = .ok (.ireturn, 1) := by decide +kernel
theorem dL_law_676 : decode cL_law 676 = .ok (.iload 5, 2) := by decide +kernel
theorem dL_law_678 : decode cL_law 678 = .ok (.ifCond .ne 22, 3) := by decide +kernel
theorem dL_law_681 : decode cL_law 681 = .ok (.aload_n 3, 1) := by decide +kernel
theorem dL_law_682 : decode cL_law 682 = .ok (.iconst 0, 1) := by decide +kernel
theorem dL_law_683 : decode cL_law 683 = .ok (.laload, 1) := by decide +kernel
theorem dL_law_684 : decode cL_law 684 = .ok (.iload 6, 2) := by decide +kernel
theorem dL_law_686 : decode cL_law 686 = .ok (.ifCond .eq 7, 3) := by decide +kernel
theorem dL_law_689 : decode cL_law 689 = .ok (.lconst 1, 1) := by decide +kernel
theorem dL_law_690 : decode cL_law 690 = .ok (.goto 4, 3) := by decide +kernel
theorem dL_law_693 : decode cL_law 693 = .ok (.lconst 0, 1) := by decide +kernel
theorem dL_law_694 : decode cL_law 694 = .ok (.lcmp, 1) := by decide +kernel
theorem dL_law_695 : decode cL_law 695 = .ok (.ifCond .eq 5, 3) := by decide +kernel
theorem dL_law_698 : decode cL_law 698 = .ok (.iconst 0, 1) := by decide +kernel
theorem dL_law_699 : decode cL_law 699 = .ok (.ireturn, 1) := by decide +kernel
theorem dL_law_700 : decode cL_law 700 = .ok (.goto 1451, 3) := by decide +kernel
theorem dL_law_703 : decode cL_law 703 = .ok (.aload_n 1, 1) := by decide +kernel
theorem dL_law_704 : decode cL_law 704 = .ok (.invokevirtual 134, 3) := by decide +kernel
theorem dL_law_707 : decode cL_law 707 = .ok (.aload_n 2, 1) := by decide +kernel
theorem dL_law_708 : decode cL_law 708 = .ok (.invokevirtual 137, 3) := by decide +kernel
theorem dL_law_711 : decode cL_law 711 = .ok (.if_icmp .eq 1440, 3) := by decide +kernel
theorem dL_law_714 : decode cL_law 714 = .ok (.iconst 0, 1) := by decide +kernel
theorem dL_law_715 : decode cL_law 715 = .ok (.ireturn, 1) := by decide +kernel
theorem dL_law_716 : decode cL_law 716 = .ok (.aload_n 1, 1) := by decide +kernel
theorem dL_law_717 : decode cL_law 717 = .ok (.aload_n 0, 1) := by decide +kernel
theorem dL_law_718 : decode cL_law 718 = .ok (.iload 4, 2) := by decide +kernel
theorem dL_law_720 : decode cL_law 720 = .ok (.iconst 1, 1) := by decide +kernel
theorem dL_law_721 : decode cL_law 721 = .ok (.iadd, 1) := by decide +kernel
theorem dL_law_722 : decode cL_law 722 = .ok (.iaload, 1) := by decide +kernel
theorem dL_law_723 : decode cL_law 723 = .ok (.aload_n 0, 1) := by decide +kernel
theorem dL_law_724 : decode cL_law 724 = .ok (.iload 4, 2) := by decide +kernel
theorem dL_law_726 : decode cL_law 726 = .ok (.iconst 2, 1) := by decide +kernel
theorem dL_law_727 : decode cL_law 727 = .ok (.iadd, 1) := by decide +kernel
theorem dL_law_728 : decode cL_law 728 = .ok (.iaload, 1) := by decide +kernel
theorem dL_law_729 : decode cL_law 729 = .ok (.aload_n 3, 1) := by decide +kernel
theorem dL_law_730 : decode cL_law 730 = .ok (.invokestatic 138, 3) := by decide +kernel
theorem dL_law_733 : decode cL_law 733 = .ok (.istore 5, 2) := by decide +kernel
theorem dL_law_735 : decode cL_law 735 = .ok (.aload_n 2, 1) := by decide +kernel
theorem dL_law_736 : decode cL_law 736 = .ok (.aload_n 0, 1) := by decide +kernel
theorem dL_law_737 : decode cL_law 737 = .ok (.iload 4, 2) := by decide +kernel
theorem dL_law_739 : decode cL_law 739 = .ok (.iconst 1, 1) := by decide +kernel
theorem dL_law_740 : decode cL_law 740 = .ok (.iadd, 1) := by decide +kernel
theorem dL_law_741 : decode cL_law 741 = .ok (.iaload, 1) := by decide +kernel
theorem dL_law_742 : decode cL_law 742 = .ok (.aload_n 0, 1) := by decide +kernel
theorem dL_law_743 : decode cL_law 743 = .ok (.iload 4, 2) := by decide +kernel
theorem dL_law_745 : decode cL_law 745 = .ok (.iconst 2, 1) := by decide +kernel
theorem dL_law_746 : decode cL_law 746 = .ok (.iadd, 1) := by decide +kernel
theorem dL_law_747 : decode cL_law 747 = .ok (.iaload, 1) := by decide +kernel
theorem dL_law_748 : decode cL_law 748 = .ok (.invokevirtual 140, 3) := by decide +kernel
theorem dL_law_751 : decode cL_law 751 = .ok (.istore 6, 2) := by decide +kernel
theorem dL_law_753 : decode cL_law 753 = .ok (.aload_n 2, 1) := by decide +kernel
theorem dL_law_754 : decode cL_law 754 = .ok (.invokevirtual 106, 3) := by decide +kernel
theorem dL_law_757 : decode cL_law 757 = .ok (.iload 5, 2) := by decide +kernel
theorem dL_law_759 : decode cL_law 759 = .ok (.if_icmp .eq 5, 3) := by decide +kernel
theorem dL_law_762 : decode cL_law 762 = .ok (.iconst 0, 1) := by decide +kernel
theorem dL_law_763 : decode cL_law 763 = .ok (.ireturn, 1) := by decide +kernel
theorem dL_law_764 : decode cL_law 764 = .ok (.iload 5, 2) := by decide +kernel
theorem dL_law_766 : decode cL_law 766 = .ok (.ifCond .ne 15, 3) := by decide +kernel
theorem dL_law_769 : decode cL_law 769 = .ok (.aload_n 3, 1) := by decide +kernel
theorem dL_law_770 : decode cL_law 770 = .ok (.iconst 0, 1) := by decide +kernel
theorem dL_law_771 : decode cL_law 771 = .ok (.laload, 1) := by decide +kernel
theorem dL_law_772 : decode cL_law 772 = .ok (.iload 6, 2) := by decide +kernel
theorem dL_law_774 : decode cL_law 774 = .ok (.i2l, 1) := by decide +kernel
theorem dL_law_775 : decode cL_law 775 = .ok (.lcmp, 1) := by decide +kernel
theorem dL_law_776 : decode cL_law 776 = .ok (.ifCond .eq 5, 3) := by decide +kernel
theorem dL_law_779 : decode cL_law 779 = .ok (.iconst 0, 1) := by decide +kernel
theorem dL_law_780 : decode cL_law 780 = .ok (.ireturn, 1) := by decide +kernel
theorem dL_law_781 : decode cL_law 781 = .ok (.goto 1370, 3) := by decide +kernel
theorem dL_law_784 : decode cL_law 784 = .ok (.aload_n 1, 1) := by decide +kernel
theorem dL_law_785 : decode cL_law 785 = .ok (.aload_n 0, 1) := by decide +kernel
theorem dL_law_786 : decode cL_law 786 = .ok (.iload 4, 2) := by decide +kernel
theorem dL_law_788 : decode cL_law 788 = .ok (.iconst 1, 1) := by decide +kernel
theorem dL_law_789 : decode cL_law 789 = .ok (.iadd, 1) := by decide +kernel
theorem dL_law_790 : decode cL_law 790 = .ok (.iaload, 1) := by decide +kernel
theorem dL_law_791 : decode cL_law 791 = .ok (.invokevirtual 141, 3) := by decide +kernel
theorem dL_law_794 : decode cL_law 794 = .ok (.aload_n 2, 1) := by decide +kernel
theorem dL_law_795 : decode cL_law 795 = .ok (.aload_n 0, 1) := by decide +kernel
theorem dL_law_796 : decode cL_law 796 = .ok (.iload 4, 2) := by decide +kernel
theorem dL_law_798 : decode cL_law 798 = .ok (.iconst 1, 1) := by decide +kernel
theorem dL_law_799 : decode cL_law 799 = .ok (.iadd, 1) := by decide +kernel
theorem dL_law_800 : decode cL_law 800 = .ok (.iaload, 1) := by decide +kernel
theorem dL_law_801 : decode cL_law 801 = .ok (.invokevirtual 144, 3) := by decide +kernel
theorem dL_law_804 : decode cL_law 804 = .ok (.if_icmp .eq 1347, 3) := by decide +kernel
theorem dL_law_807 : decode cL_law 807 = .ok (.iconst 0, 1) := by decide +kernel
theorem dL_law_808 : decode cL_law 808 = .ok (.ireturn, 1) := by decide +kernel
theorem dL_law_809 : decode cL_law 809 = .ok (.aload_n 1, 1) := by decide +kernel
theorem dL_law_810 : decode cL_law 810 = .ok (.aload_n 0, 1) := by decide +kernel
theorem dL_law_811 : decode cL_law 811 = .ok (.iload 4, 2) := by decide +kernel
theorem dL_law_813 : decode cL_law 813 = .ok (.iconst 1, 1) := by decide +kernel
theorem dL_law_814 : decode cL_law 814 = .ok (.iadd, 1) := by decide +kernel
theorem dL_law_815 : decode cL_law 815 = .ok (.iaload, 1) := by decide +kernel
theorem dL_law_816 : decode cL_law 816 = .ok (.aload_n 3, 1) := by decide +kernel
theorem dL_law_817 : decode cL_law 817 = .ok (.invokestatic 145, 3) := by decide +kernel
theorem dL_law_820 : decode cL_law 820 = .ok (.istore 5, 2) := by decide +kernel
theorem dL_law_822 : decode cL_law 822 = .ok (.aload_n 2, 1) := by decide +kernel
theorem dL_law_823 : decode cL_law 823 = .ok (.aload_n 0, 1) := by decide +kernel
theorem dL_law_824 : decode cL_law 824 = .ok (.iload 4, 2) := by decide +kernel
theorem dL_law_826 : decode cL_law 826 = .ok (.iconst 1, 1) := by decide +kernel
theorem dL_law_827 : decode cL_law 827 = .ok (.iadd, 1) := by decide +kernel
theorem dL_law_828 : decode cL_law 828 = .ok (.iaload, 1) := by decide +kernel
theorem dL_law_829 : decode cL_law 829 = .ok (.invokevirtual 148, 3) := by decide +kernel
theorem dL_law_832 : decode cL_law 832 = .ok (.istore 6, 2) := by decide +kernel
theorem dL_law_834 : decode cL_law 834 = .ok (.aload_n 2, 1) := by decide +kernel
theorem dL_law_835 : decode cL_law 835 = .ok (.invokevirtual 106, 3) := by decide +kernel
theorem dL_law_838 : decode cL_law 838 = .ok (.iload 5, 2) := by decide +kernel
theorem dL_law_840 : decode cL_law 840 = .ok (.if_icmp .eq 5, 3) := by decide +kernel
theorem dL_law_843 : decode cL_law 843 = .ok (.iconst 0, 1) := by decide +kernel
theorem dL_law_844 : decode cL_law 844 = .ok (.ireturn, 1) := by decide +kernel
theorem dL_law_845 : decode cL_law 845 = .ok (.iload 5, 2) := by decide +kernel
theorem dL_law_847 : decode cL_law 847 = .ok (.ifCond .ne 22, 3) := by decide +kernel
theorem dL_law_850 : decode cL_law 850 = .ok (.aload_n 3, 1) := by decide +kernel
theorem dL_law_851 : decode cL_law 851 = .ok (.iconst 0, 1) := by decide +kernel
theorem dL_law_852 : decode cL_law 852 = .ok (.laload, 1) := by decide +kernel
theorem dL_law_853 : decode cL_law 853 = .ok (.iload 6, 2) := by decide +kernel
theorem dL_law_855 : decode cL_law 855 = .ok (.ifCond .eq 7, 3) := by decide +kernel
theorem dL_law_858 : decode cL_law 858 = .ok (.lconst 1, 1) := by decide +kernel
theorem dL_law_859 : decode cL_law 859 = .ok (.goto 4, 3) := by decide +kernel
theorem dL_law_862 : decode cL_law 862 = .ok (.lconst 0, 1) := by decide +kernel
theorem dL_law_863 : decode cL_law 863 = .ok (.lcmp, 1) := by decide +kernel
theorem dL_law_864 : decode cL_law 864 = .ok (.ifCond .eq 5, 3) := by decide +kernel
theorem dL_law_867 : decode cL_law 867 = .ok (.iconst 0, 1) := by decide +kernel
theorem dL_law_868 : decode cL_law 868 = .ok (.ireturn, 1) := by decide +kernel
theorem dL_law_869 : decode cL_law 869 = .ok (.goto 1282, 3) := by decide +kernel
theorem dL_law_872 : decode cL_law 872 = .ok (.aload_n 1, 1) := by decide +kernel
theorem dL_law_873 : decode cL_law 873 = .ok (.aload_n 0, 1) := by decide +kernel
theorem dL_law_874 : decode cL_law 874 = .ok (.iload 4, 2) := by decide +kernel
theorem dL_law_876 : decode cL_law 876 = .ok (.iconst 1, 1) := by decide +kernel
theorem dL_law_877 : decode cL_law 877 = .ok (.iadd, 1) := by decide +kernel
theorem dL_law_878 : decode cL_law 878 = .ok (.iaload, 1) := by decide +kernel
theorem dL_law_879 : decode cL_law 879 = .ok (.invokevirtual 149, 3) := by decide +kernel
theorem dL_law_882 : decode cL_law 882 = .ok (.aload_n 2, 1) := by decide +kernel
theorem dL_law_883 : decode cL_law 883 = .ok (.aload_n 0, 1) := by decide +kernel
theorem dL_law_884 : decode cL_law 884 = .ok (.iload 4, 2) := by decide +kernel
theorem dL_law_886 : decode cL_law 886 = .ok (.iconst 1, 1) := by decide +kernel
theorem dL_law_887 : decode cL_law 887 = .ok (.iadd, 1) := by decide +kernel
theorem dL_law_888 : decode cL_law 888 = .ok (.iaload, 1) := by decide +kernel
theorem dL_law_889 : decode cL_law 889 = .ok (.invokevirtual 152, 3) := by decide +kernel
theorem dL_law_892 : decode cL_law 892 = .ok (.if_icmp .eq 1259, 3) := by decide +kernel
theorem dL_law_895 : decode cL_law 895 = .ok (.iconst 0, 1) := by decide +kernel
theorem dL_law_896 : decode cL_law 896 = .ok (.ireturn, 1) := by decide +kernel
theorem dL_law_897 : decode cL_law 897 = .ok (.aload_n 1, 1) := by decide +kernel
theorem dL_law_898 : decode cL_law 898 = .ok (.invokevirtual 153, 3) := by decide +kernel
theorem dL_law_901 : decode cL_law 901 = .ok (.aload_n 2, 1) := by decide +kernel
theorem dL_law_902 : decode cL_law 902 = .ok (.invokevirtual 156, 3) := by decide +kernel
theorem dL_law_905 : decode cL_law 905 = .ok (.if_icmp .eq 1246, 3) := by decide +kernel
theorem dL_law_908 : decode cL_law 908 = .ok (.iconst 0, 1) := by decide +kernel
theorem dL_law_909 : decode cL_law 909 = .ok (.ireturn, 1) := by decide +kernel
theorem dL_law_910 : decode cL_law 910 = .ok (.aload_n 1, 1) := by decide +kernel
theorem dL_law_911 : decode cL_law 911 = .ok (.aload_n 0, 1) := by decide +kernel
theorem dL_law_912 : decode cL_law 912 = .ok (.iload 4, 2) := by decide +kernel
theorem dL_law_914 : decode cL_law 914 = .ok (.iconst 1, 1) := by decide +kernel
theorem dL_law_915 : decode cL_law 915 = .ok (.iadd, 1) := by decide +kernel
theorem dL_law_916 : decode cL_law 916 = .ok (.iaload, 1) := by decide +kernel
theorem dL_law_917 : decode cL_law 917 = .ok (.aload_n 3, 1) := by decide +kernel
theorem dL_law_918 : decode cL_law 918 = .ok (.invokestatic 157, 3) := by decide +kernel
theorem dL_law_921 : decode cL_law 921 = .ok (.istore 5, 2) := by decide +kernel
theorem dL_law_923 : decode cL_law 923 = .ok (.aload_n 2, 1) := by decide +kernel
theorem dL_law_924 : decode cL_law 924 = .ok (.aload_n 0, 1) := by decide +kernel
theorem dL_law_925 : decode cL_law 925 = .ok (.iload 4, 2) := by decide +kernel
theorem dL_law_927 : decode cL_law 927 = .ok (.iconst 1, 1) := by decide +kernel
theorem dL_law_928 : decode cL_law 928 = .ok (.iadd, 1) := by decide +kernel
theorem dL_law_929 : decode cL_law 929 = .ok (.iaload, 1) := by decide +kernel
theorem dL_law_930 : decode cL_law 930 = .ok (.invokevirtual 159, 3) := by decide +kernel
theorem dL_law_933 : decode cL_law 933 = .ok (.istore 6, 2) := by decide +kernel
theorem dL_law_935 : decode cL_law 935 = .ok (.aload_n 2, 1) := by decide +kernel
theorem dL_law_936 : decode cL_law 936 = .ok (.invokevirtual 106, 3) := by decide +kernel
theorem dL_law_939 : decode cL_law 939 = .ok (.iload 5, 2) := by decide +kernel
theorem dL_law_941 : decode cL_law 941 = .ok (.if_icmp .eq 5, 3) := by decide +kernel
theorem dL_law_944 : decode cL_law 944 = .ok (.iconst 0, 1) := by decide +kernel
theorem dL_law_945 : decode cL_law 945 = .ok (.ireturn, 1) := by decide +kernel
theorem dL_law_946 : decode cL_law 946 = .ok (.iload 5, 2) := by decide +kernel
theorem dL_law_948 : decode cL_law 948 = .ok (.ifCond .ne 15, 3) := by decide +kernel
theorem dL_law_951 : decode cL_law 951 = .ok (.aload_n 3, 1) := by decide +kernel
theorem dL_law_952 : decode cL_law 952 = .ok (.iconst 0, 1) := by decide +kernel
theorem dL_law_953 : decode cL_law 953 = .ok (.laload, 1) := by decide +kernel
theorem dL_law_954 : decode cL_law 954 = .ok (.iload 6, 2) := by decide +kernel
theorem dL_law_956 : decode cL_law 956 = .ok (.i2l, 1) := by decide +kernel
theorem dL_law_957 : decode cL_law 957 = .ok (.lcmp, 1) := by decide +kernel
theorem dL_law_958 : decode cL_law 958 = .ok (.ifCond .eq 5, 3) := by decide +kernel
theorem dL_law_961 : decode cL_law 961 = .ok (.iconst 0, 1) := by decide +kernel
theorem dL_law_962 : decode cL_law 962 = .ok (.ireturn, 1) := by decide +kernel
theorem dL_law_963 : decode cL_law 963 = .ok (.goto 1188, 3) := by decide +kernel
theorem dL_law_966 : decode cL_law 966 = .ok (.aload_n 1, 1) := by decide +kernel
theorem dL_law_967 : decode cL_law 967 = .ok (.aload_n 0, 1) := by decide +kernel
theorem dL_law_968 : decode cL_law 968 = .ok (.iload 4, 2) := by decide +kernel
theorem dL_law_970 : decode cL_law 970 = .ok (.iconst 1, 1) := by decide +kernel
theorem dL_law_971 : decode cL_law 971 = .ok (.iadd, 1) := by decide +kernel
theorem dL_law_972 : decode cL_law 972 = .ok (.iaload, 1) := by decide +kernel
theorem dL_law_973 : decode cL_law 973 = .ok (.aload_n 0, 1) := by decide +kernel
theorem dL_law_974 : decode cL_law 974 = .ok (.iload 4, 2) := by decide +kernel
theorem dL_law_976 : decode cL_law 976 = .ok (.iconst 2, 1) := by decide +kernel
theorem dL_law_977 : decode cL_law 977 = .ok (.iadd, 1) := by decide +kernel
theorem dL_law_978 : decode cL_law 978 = .ok (.iaload, 1) := by decide +kernel
theorem dL_law_979 : decode cL_law 979 = .ok (.aload_n 3, 1) := by decide +kernel
theorem dL_law_980 : decode cL_law 980 = .ok (.invokestatic 160, 3) := by decide +kernel
theorem dL_law_983 : decode cL_law 983 = .ok (.istore 5, 2) := by decide +kernel
theorem dL_law_985 : decode cL_law 985 = .ok (.aload_n 2, 1) := by decide +kernel
theorem dL_law_986 : decode cL_law 986 = .ok (.aload_n 0, 1) := by decide +kernel
theorem dL_law_987 : decode cL_law 987 = .ok (.iload 4, 2) := by decide +kernel
theorem dL_law_989 : decode cL_law 989 = .ok (.iconst 1, 1) := by decide +kernel
theorem dL_law_990 : decode cL_law 990 = .ok (.iadd, 1) := by decide +kernel
theorem dL_law_991 : decode cL_law 991 = .ok (.iaload, 1) := by decide +kernel
theorem dL_law_992 : decode cL_law 992 = .ok (.aload_n 0, 1) := by decide +kernel
theorem dL_law_993 : decode cL_law 993 = .ok (.iload 4, 2) := by decide +kernel
theorem dL_law_995 : decode cL_law 995 = .ok (.iconst 2, 1) := by decide +kernel
theorem dL_law_996 : decode cL_law 996 = .ok (.iadd, 1) := by decide +kernel
theorem dL_law_997 : decode cL_law 997 = .ok (.iaload, 1) := by decide +kernel
theorem dL_law_998 : decode cL_law 998 = .ok (.invokevirtual 162, 3) := by decide +kernel
theorem dL_law_1001 : decode cL_law 1001 = .ok (.istore 6, 2) := by decide +kernel
theorem dL_law_1003 : decode cL_law 1003 = .ok (.aload_n 2, 1) := by decide +kernel
theorem dL_law_1004 : decode cL_law 1004 = .ok (.invokevirtual 106, 3) := by decide +kernel
theorem dL_law_1007 : decode cL_law 1007 = .ok (.iload 5, 2) := by decide +kernel
theorem dL_law_1009 : decode cL_law 1009 = .ok (.if_icmp .eq 5, 3) := by decide +kernel
theorem dL_law_1012 : decode cL_law 1012 = .ok (.iconst 0, 1) := by decide +kernel
theorem dL_law_1013 : decode cL_law 1013 = .ok (.ireturn, 1) := by decide +kernel
theorem dL_law_1014 : decode cL_law 1014 = .ok (.iload 5, 2) := by decide +kernel
theorem dL_law_1016 : decode cL_law 1016 = .ok (.ifCond .ne 15, 3) := by decide +kernel
theorem dL_law_1019 : decode cL_law 1019 = .ok (.aload_n 3, 1) := by decide +kernel
theorem dL_law_1020 : decode cL_law 1020 = .ok (.iconst 0, 1) := by decide +kernel
theorem dL_law_1021 : decode cL_law 1021 = .ok (.laload, 1) := by decide +kernel
theorem dL_law_1022 : decode cL_law 1022 = .ok (.iload 6, 2) := by decide +kernel
theorem dL_law_1024 : decode cL_law 1024 = .ok (.i2l, 1) := by decide +kernel
theorem dL_law_1025 : decode cL_law 1025 = .ok (.lcmp, 1) := by decide +kernel
theorem dL_law_1026 : decode cL_law 1026 = .ok (.ifCond .eq 5, 3) := by decide +kernel
theorem dL_law_1029 : decode cL_law 1029 = .ok (.iconst 0, 1) := by decide +kernel
theorem dL_law_1030 : decode cL_law 1030 = .ok (.ireturn, 1) := by decide +kernel
theorem dL_law_1031 : decode cL_law 1031 = .ok (.goto 1120, 3) := by decide +kernel
theorem dL_law_1034 : decode cL_law 1034 = .ok (.aload_n 1, 1) := by decide +kernel
theorem dL_law_1035 : decode cL_law 1035 = .ok (.invokevirtual 163, 3) := by decide +kernel
theorem dL_law_1038 : decode cL_law 1038 = .ok (.aload_n 2, 1) := by decide +kernel
theorem dL_law_1039 : decode cL_law 1039 = .ok (.invokevirtual 166, 3) := by decide +kernel
theorem dL_law_1042 : decode cL_law 1042 = .ok (.if_icmp .eq 1109, 3) := by decide +kernel
theorem dL_law_1045 : decode cL_law 1045 = .ok (.iconst 0, 1) := by decide +kernel
theorem dL_law_1046 : decode cL_law 1046 = .ok (.ireturn, 1) := by decide +kernel
theorem dL_law_1047 : decode cL_law 1047 = .ok (.aload_n 1, 1) := by decide +kernel
theorem dL_law_1048 : decode cL_law 1048 = .ok (.invokevirtual 167, 3) := by decide +kernel
theorem dL_law_1051 : decode cL_law 1051 = .ok (.aload_n 2, 1) := by decide +kernel
theorem dL_law_1052 : decode cL_law 1052 = .ok (.invokevirtual 170, 3) := by decide +kernel
theorem dL_law_1055 : decode cL_law 1055 = .ok (.if_icmp .eq 1096, 3) := by decide +kernel
theorem dL_law_1058 : decode cL_law 1058 = .ok (.iconst 0, 1) := by decide +kernel
theorem dL_law_1059 : decode cL_law 1059 = .ok (.ireturn, 1) := by decide +kernel
theorem dL_law_1060 : decode cL_law 1060 = .ok (.aload_n 1, 1) := by decide +kernel
theorem dL_law_1061 : decode cL_law 1061 = .ok (.aload_n 0, 1) := by decide +kernel
theorem dL_law_1062 : decode cL_law 1062 = .ok (.iload 4, 2) := by decide +kernel
theorem dL_law_1064 : decode cL_law 1064 = .ok (.iconst 1, 1) := by decide +kernel
theorem dL_law_1065 : decode cL_law 1065 = .ok (.iadd, 1) := by decide +kernel
theorem dL_law_1066 : decode cL_law 1066 = .ok (.iaload, 1) := by decide +kernel
theorem dL_law_1067 : decode cL_law 1067 = .ok (.aload_n 0, 1) := by decide +kernel
theorem dL_law_1068 : decode cL_law 1068 = .ok (.iload 4, 2) := by decide +kernel
theorem dL_law_1070 : decode cL_law 1070 = .ok (.iconst 2, 1) := by decide +kernel
theorem dL_law_1071 : decode cL_law 1071 = .ok (.iadd, 1) := by decide +kernel
theorem dL_law_1072 : decode cL_law 1072 = .ok (.iaload, 1) := by decide +kernel
theorem dL_law_1073 : decode cL_law 1073 = .ok (.invokevirtual 171, 3) := by decide +kernel
theorem dL_law_1076 : decode cL_law 1076 = .ok (.aload_n 2, 1) := by decide +kernel
theorem dL_law_1077 : decode cL_law 1077 = .ok (.aload_n 0, 1) := by decide +kernel
theorem dL_law_1078 : decode cL_law 1078 = .ok (.iload 4, 2) := by decide +kernel
theorem dL_law_1080 : decode cL_law 1080 = .ok (.iconst 1, 1) := by decide +kernel
theorem dL_law_1081 : decode cL_law 1081 = .ok (.iadd, 1) := by decide +kernel
theorem dL_law_1082 : decode cL_law 1082 = .ok (.iaload, 1) := by decide +kernel
theorem dL_law_1083 : decode cL_law 1083 = .ok (.aload_n 0, 1) := by decide +kernel
theorem dL_law_1084 : decode cL_law 1084 = .ok (.iload 4, 2) := by decide +kernel
theorem dL_law_1086 : decode cL_law 1086 = .ok (.iconst 2, 1) := by decide +kernel
theorem dL_law_1087 : decode cL_law 1087 = .ok (.iadd, 1) := by decide +kernel
theorem dL_law_1088 : decode cL_law 1088 = .ok (.iaload, 1) := by decide +kernel
theorem dL_law_1089 : decode cL_law 1089 = .ok (.invokevirtual 174, 3) := by decide +kernel
theorem dL_law_1092 : decode cL_law 1092 = .ok (.if_icmp .eq 1059, 3) := by decide +kernel
theorem dL_law_1095 : decode cL_law 1095 = .ok (.iconst 0, 1) := by decide +kernel
theorem dL_law_1096 : decode cL_law 1096 = .ok (.ireturn, 1) := by decide +kernel
theorem dL_law_1097 : decode cL_law 1097 = .ok (.aload_n 1, 1) := by decide +kernel
theorem dL_law_1098 : decode cL_law 1098 = .ok (.aload_n 0, 1) := by decide +kernel
theorem dL_law_1099 : decode cL_law 1099 = .ok (.iload 4, 2) := by decide +kernel
theorem dL_law_1101 : decode cL_law 1101 = .ok (.iconst 1, 1) := by decide +kernel
theorem dL_law_1102 : decode cL_law 1102 = .ok (.iadd, 1) := by decide +kernel
theorem dL_law_1103 : decode cL_law 1103 = .ok (.iaload, 1) := by decide +kernel
theorem dL_law_1104 : decode cL_law 1104 = .ok (.invokevirtual 175, 3) := by decide +kernel
theorem dL_law_1107 : decode cL_law 1107 = .ok (.aload_n 2, 1) := by decide +kernel
theorem dL_law_1108 : decode cL_law 1108 = .ok (.aload_n 0, 1) := by decide +kernel
theorem dL_law_1109 : decode cL_law 1109 = .ok (.iload 4, 2) := by decide +kernel
theorem dL_law_1111 : decode cL_law 1111 = .ok (.iconst 1, 1) := by decide +kernel
theorem dL_law_1112 : decode cL_law 1112 = .ok (.iadd, 1) := by decide +kernel
theorem dL_law_1113 : decode cL_law 1113 = .ok (.iaload, 1) := by decide +kernel
theorem dL_law_1114 : decode cL_law 1114 = .ok (.invokevirtual 178, 3) := by decide +kernel
theorem dL_law_1117 : decode cL_law 1117 = .ok (.if_icmp .eq 1034, 3) := by decide +kernel
theorem dL_law_1120 : decode cL_law 1120 = .ok (.iconst 0, 1) := by decide +kernel
theorem dL_law_1121 : decode cL_law 1121 = .ok (.ireturn, 1) := by decide +kernel
theorem dL_law_1122 : decode cL_law 1122 = .ok (.aload_n 1, 1) := by decide +kernel
theorem dL_law_1123 : decode cL_law 1123 = .ok (.aload_n 0, 1) := by decide +kernel
theorem dL_law_1124 : decode cL_law 1124 = .ok (.iload 4, 2) := by decide +kernel
theorem dL_law_1126 : decode cL_law 1126 = .ok (.iconst 1, 1) := by decide +kernel
theorem dL_law_1127 : decode cL_law 1127 = .ok (.iadd, 1) := by decide +kernel
theorem dL_law_1128 : decode cL_law 1128 = .ok (.iaload, 1) := by decide +kernel
theorem dL_law_1129 : decode cL_law 1129 = .ok (.aload_n 0, 1) := by decide +kernel
theorem dL_law_1130 : decode cL_law 1130 = .ok (.iload 4, 2) := by decide +kernel
theorem dL_law_1132 : decode cL_law 1132 = .ok (.iconst 2, 1) := by decide +kernel
theorem dL_law_1133 : decode cL_law 1133 = .ok (.iadd, 1) := by decide +kernel
theorem dL_law_1134 : decode cL_law 1134 = .ok (.iaload, 1) := by decide +kernel
theorem dL_law_1135 : decode cL_law 1135 = .ok (.aload_n 3, 1) := by decide +kernel
theorem dL_law_1136 : decode cL_law 1136 = .ok (.invokestatic 179, 3) := by decide +kernel
theorem dL_law_1139 : decode cL_law 1139 = .ok (.istore 5, 2) := by decide +kernel
theorem dL_law_1141 : decode cL_law 1141 = .ok (.aload_n 2, 1) := by decide +kernel
theorem dL_law_1142 : decode cL_law 1142 = .ok (.aload_n 0, 1) := by decide +kernel
theorem dL_law_1143 : decode cL_law 1143 = .ok (.iload 4, 2) := by decide +kernel
theorem dL_law_1145 : decode cL_law 1145 = .ok (.iconst 1, 1) := by decide +kernel
theorem dL_law_1146 : decode cL_law 1146 = .ok (.iadd, 1) := by decide +kernel
theorem dL_law_1147 : decode cL_law 1147 = .ok (.iaload, 1) := by decide +kernel
theorem dL_law_1148 : decode cL_law 1148 = .ok (.aload_n 0, 1) := by decide +kernel
theorem dL_law_1149 : decode cL_law 1149 = .ok (.iload 4, 2) := by decide +kernel
theorem dL_law_1151 : decode cL_law 1151 = .ok (.iconst 2, 1) := by decide +kernel
theorem dL_law_1152 : decode cL_law 1152 = .ok (.iadd, 1) := by decide +kernel
theorem dL_law_1153 : decode cL_law 1153 = .ok (.iaload, 1) := by decide +kernel
theorem dL_law_1154 : decode cL_law 1154 = .ok (.invokevirtual 181, 3) := by decide +kernel
theorem dL_law_1157 : decode cL_law 1157 = .ok (.istore 6, 2) := by decide +kernel
theorem dL_law_1159 : decode cL_law 1159 = .ok (.aload_n 2, 1) := by decide +kernel
theorem dL_law_1160 : decode cL_law 1160 = .ok (.invokevirtual 106, 3) := by decide +kernel
theorem dL_law_1163 : decode cL_law 1163 = .ok (.iload 5, 2) := by decide +kernel
theorem dL_law_1165 : decode cL_law 1165 = .ok (.if_icmp .eq 5, 3) := by decide +kernel
theorem dL_law_1168 : decode cL_law 1168 = .ok (.iconst 0, 1) := by decide +kernel
theorem dL_law_1169 : decode cL_law 1169 = .ok (.ireturn, 1) := by decide +kernel
theorem dL_law_1170 : decode cL_law 1170 = .ok (.iload 5, 2) := by decide +kernel
theorem dL_law_1172 : decode cL_law 1172 = .ok (.ifCond .ne 15, 3) := by decide +kernel
theorem dL_law_1175 : decode cL_law 1175 = .ok (.aload_n 3, 1) := by decide +kernel
theorem dL_law_1176 : decode cL_law 1176 = .ok (.iconst 0, 1) := by decide +kernel
theorem dL_law_1177 : decode cL_law 1177 = .ok (.laload, 1) := by decide +kernel
theorem dL_law_1178 : decode cL_law 1178 = .ok (.iload 6, 2) := by decide +kernel
theorem dL_law_1180 : decode cL_law 1180 = .ok (.i2l, 1) := by decide +kernel
theorem dL_law_1181 : decode cL_law 1181 = .ok (.lcmp, 1) := by decide +kernel
theorem dL_law_1182 : decode cL_law 1182 = .ok (.ifCond .eq 5, 3) := by decide +kernel
theorem dL_law_1185 : decode cL_law 1185 = .ok (.iconst 0, 1) := by decide +kernel
theorem dL_law_1186 : decode cL_law 1186 = .ok (.ireturn, 1) := by decide +kernel
theorem dL_law_1187 : decode cL_law 1187 = .ok (.goto 964, 3) := by decide +kernel
theorem dL_law_1190 : decode cL_law 1190 = .ok (.aload_n 1, 1) := by decide +kernel
theorem dL_law_1191 : decode cL_law 1191 = .ok (.invokevirtual 182, 3) := by decide +kernel
theorem dL_law_1194 : decode cL_law 1194 = .ok (.aload_n 2, 1) := by decide +kernel
theorem dL_law_1195 : decode cL_law 1195 = .ok (.invokevirtual 185, 3) := by decide +kernel
theorem dL_law_1198 : decode cL_law 1198 = .ok (.if_icmp .eq 953, 3) := by decide +kernel
theorem dL_law_1201 : decode cL_law 1201 = .ok (.iconst 0, 1) := by decide +kernel
theorem dL_law_1202 : decode cL_law 1202 = .ok (.ireturn, 1) := by decide +kernel
theorem dL_law_1203 : decode cL_law 1203 = .ok (.aload_n 1, 1) := by decide +kernel
theorem dL_law_1204 : decode cL_law 1204 = .ok (.invokevirtual 186, 3) := by decide +kernel
theorem dL_law_1207 : decode cL_law 1207 = .ok (.aload_n 2, 1) := by decide +kernel
theorem dL_law_1208 : decode cL_law 1208 = .ok (.invokevirtual 189, 3) := by decide +kernel
theorem dL_law_1211 : decode cL_law 1211 = .ok (.if_icmp .eq 940, 3) := by decide +kernel
theorem dL_law_1214 : decode cL_law 1214 = .ok (.iconst 0, 1) := by decide +kernel
theorem dL_law_1215 : decode cL_law 1215 = .ok (.ireturn, 1) := by decide +kernel
theorem dL_law_1216 : decode cL_law 1216 = .ok (.aload_n 1, 1) := by decide +kernel
theorem dL_law_1217 : decode cL_law 1217 = .ok (.aload_n 0, 1) := by decide +kernel
theorem dL_law_1218 : decode cL_law 1218 = .ok (.iload 4, 2) := by decide +kernel
theorem dL_law_1220 : decode cL_law 1220 = .ok (.iconst 1, 1) := by decide +kernel
theorem dL_law_1221 : decode cL_law 1221 = .ok (.iadd, 1) := by decide +kernel
theorem dL_law_1222 : decode cL_law 1222 = .ok (.iaload, 1) := by decide +kernel
theorem dL_law_1223 : decode cL_law 1223 = .ok (.aload_n 3, 1) := by decide +kernel
theorem dL_law_1224 : decode cL_law 1224 = .ok (.invokestatic 190, 3) := by decide +kernel
theorem dL_law_1227 : decode cL_law 1227 = .ok (.istore 5, 2) := by decide +kernel
theorem dL_law_1229 : decode cL_law 1229 = .ok (.aload_n 2, 1) := by decide +kernel
theorem dL_law_1230 : decode cL_law 1230 = .ok (.aload_n 0, 1) := by decide +kernel
theorem dL_law_1231 : decode cL_law 1231 = .ok (.iload 4, 2) := by decide +kernel
theorem dL_law_1233 : decode cL_law 1233 = .ok (.iconst 1, 1) := by decide +kernel
theorem dL_law_1234 : decode cL_law 1234 = .ok (.iadd, 1) := by decide +kernel
theorem dL_law_1235 : decode cL_law 1235 = .ok (.iaload, 1) := by decide +kernel
theorem dL_law_1236 : decode cL_law 1236 = .ok (.invokevirtual 192, 3) := by decide +kernel
theorem dL_law_1239 : decode cL_law 1239 = .ok (.istore 6, 2) := by decide +kernel
theorem dL_law_1241 : decode cL_law 1241 = .ok (.aload_n 2, 1) := by decide +kernel
theorem dL_law_1242 : decode cL_law 1242 = .ok (.invokevirtual 106, 3) := by decide +kernel
theorem dL_law_1245 : decode cL_law 1245 = .ok (.iload 5, 2) := by decide +kernel
theorem dL_law_1247 : decode cL_law 1247 = .ok (.if_icmp .eq 5, 3) := by decide +kernel
theorem dL_law_1250 : decode cL_law 1250 = .ok (.iconst 0, 1) := by decide +kernel
theorem dL_law_1251 : decode cL_law 1251 = .ok (.ireturn, 1) := by decide +kernel
theorem dL_law_1252 : decode cL_law 1252 = .ok (.iload 5, 2) := by decide +kernel
theorem dL_law_1254 : decode cL_law 1254 = .ok (.ifCond .ne 15, 3) := by decide +kernel
theorem dL_law_1257 : decode cL_law 1257 = .ok (.aload_n 3, 1) := by decide +kernel
theorem dL_law_1258 : decode cL_law 1258 = .ok (.iconst 0, 1) := by decide +kernel
theorem dL_law_1259 : decode cL_law 1259 = .ok (.laload, 1) := by decide +kernel
theorem dL_law_1260 : decode cL_law 1260 = .ok (.iload 6, 2) := by decide +kernel
theorem dL_law_1262 : decode cL_law 1262 = .ok (.i2l, 1) := by decide +kernel
theorem dL_law_1263 : decode cL_law 1263 = .ok (.lcmp, 1) := by decide +kernel
theorem dL_law_1264 : decode cL_law 1264 = .ok (.ifCond .eq 5, 3) := by decide +kernel
theorem dL_law_1267 : decode cL_law 1267 = .ok (.iconst 0, 1) := by decide +kernel
theorem dL_law_1268 : decode cL_law 1268 = .ok (.ireturn, 1) := by decide +kernel
theorem dL_law_1269 : decode cL_law 1269 = .ok (.goto 882, 3) := by decide +kernel
theorem dL_law_1272 : decode cL_law 1272 = .ok (.aload_n 1, 1) := by decide +kernel
theorem dL_law_1273 : decode cL_law 1273 = .ok (.invokevirtual 193, 3) := by decide +kernel
theorem dL_law_1276 : decode cL_law 1276 = .ok (.aload_n 2, 1) := by decide +kernel
theorem dL_law_1277 : decode cL_law 1277 = .ok (.invokevirtual 196, 3) := by decide +kernel
theorem dL_law_1280 : decode cL_law 1280 = .ok (.if_icmp .eq 871, 3) := by decide +kernel
theorem dL_law_1283 : decode cL_law 1283 = .ok (.iconst 0, 1) := by decide +kernel
theorem dL_law_1284 : decode cL_law 1284 = .ok (.ireturn, 1) := by decide +kernel
theorem dL_law_1285 : decode cL_law 1285 = .ok (.aload_n 1, 1) := by decide +kernel
theorem dL_law_1286 : decode cL_law 1286 = .ok (.aload_n 0, 1) := by decide +kernel
theorem dL_law_1287 : decode cL_law 1287 = .ok (.iload 4, 2) := by decide +kernel
theorem dL_law_1289 : decode cL_law 1289 = .ok (.iconst 1, 1) := by decide +kernel
theorem dL_law_1290 : decode cL_law 1290 = .ok (.iadd, 1) := by decide +kernel
theorem dL_law_1291 : decode cL_law 1291 = .ok (.iaload, 1) := by decide +kernel
theorem dL_law_1292 : decode cL_law 1292 = .ok (.invokevirtual 197, 3) := by decide +kernel
theorem dL_law_1295 : decode cL_law 1295 = .ok (.aload_n 2, 1) := by decide +kernel
theorem dL_law_1296 : decode cL_law 1296 = .ok (.aload_n 0, 1) := by decide +kernel
theorem dL_law_1297 : decode cL_law 1297 = .ok (.iload 4, 2) := by decide +kernel
theorem dL_law_1299 : decode cL_law 1299 = .ok (.iconst 1, 1) := by decide +kernel
theorem dL_law_1300 : decode cL_law 1300 = .ok (.iadd, 1) := by decide +kernel
theorem dL_law_1301 : decode cL_law 1301 = .ok (.iaload, 1) := by decide +kernel
theorem dL_law_1302 : decode cL_law 1302 = .ok (.invokevirtual 200, 3) := by decide +kernel
theorem dL_law_1305 : decode cL_law 1305 = .ok (.if_icmp .eq 846, 3) := by decide +kernel
theorem dL_law_1308 : decode cL_law 1308 = .ok (.iconst 0, 1) := by decide +kernel
theorem dL_law_1309 : decode cL_law 1309 = .ok (.ireturn, 1) := by decide +kernel
theorem dL_law_1310 : decode cL_law 1310 = .ok (.aload_n 1, 1) := by decide +kernel
theorem dL_law_1311 : decode cL_law 1311 = .ok (.aload_n 0, 1) := by decide +kernel
theorem dL_law_1312 : decode cL_law 1312 = .ok (.iload 4, 2) := by decide +kernel
theorem dL_law_1314 : decode cL_law 1314 = .ok (.iconst 1, 1) := by decide +kernel
theorem dL_law_1315 : decode cL_law 1315 = .ok (.iadd, 1) := by decide +kernel
theorem dL_law_1316 : decode cL_law 1316 = .ok (.iaload, 1) := by decide +kernel
theorem dL_law_1317 : decode cL_law 1317 = .ok (.aload_n 3, 1) := by decide +kernel
theorem dL_law_1318 : decode cL_law 1318 = .ok (.invokestatic 201, 3) := by decide +kernel
theorem dL_law_1321 : decode cL_law 1321 = .ok (.istore 5, 2) := by decide +kernel
theorem dL_law_1323 : decode cL_law 1323 = .ok (.aload_n 2, 1) := by decide +kernel
theorem dL_law_1324 : decode cL_law 1324 = .ok (.aload_n 0, 1) := by decide +kernel
theorem dL_law_1325 : decode cL_law 1325 = .ok (.iload 4, 2) := by decide +kernel
theorem dL_law_1327 : decode cL_law 1327 = .ok (.iconst 1, 1) := by decide +kernel
theorem dL_law_1328 : decode cL_law 1328 = .ok (.iadd, 1) := by decide +kernel
theorem dL_law_1329 : decode cL_law 1329 = .ok (.iaload, 1) := by decide +kernel
theorem dL_law_1330 : decode cL_law 1330 = .ok (.invokevirtual 203, 3) := by decide +kernel
theorem dL_law_1333 : decode cL_law 1333 = .ok (.istore 6, 2) := by decide +kernel
theorem dL_law_1335 : decode cL_law 1335 = .ok (.aload_n 2, 1) := by decide +kernel
theorem dL_law_1336 : decode cL_law 1336 = .ok (.invokevirtual 106, 3) := by decide +kernel
theorem dL_law_1339 : decode cL_law 1339 = .ok (.iload 5, 2) := by decide +kernel
theorem dL_law_1341 : decode cL_law 1341 = .ok (.if_icmp .eq 5, 3) := by decide +kernel
theorem dL_law_1344 : decode cL_law 1344 = .ok (.iconst 0, 1) := by decide +kernel
theorem dL_law_1345 : decode cL_law 1345 = .ok (.ireturn, 1) := by decide +kernel
theorem dL_law_1346 : decode cL_law 1346 = .ok (.iload 5, 2) := by decide +kernel
theorem dL_law_1348 : decode cL_law 1348 = .ok (.ifCond .ne 15, 3) := by decide +kernel
theorem dL_law_1351 : decode cL_law 1351 = .ok (.aload_n 3, 1) := by decide +kernel
theorem dL_law_1352 : decode cL_law 1352 = .ok (.iconst 0, 1) := by decide +kernel
theorem dL_law_1353 : decode cL_law 1353 = .ok (.laload, 1) := by decide +kernel
theorem dL_law_1354 : decode cL_law 1354 = .ok (.iload 6, 2) := by decide +kernel
theorem dL_law_1356 : decode cL_law 1356 = .ok (.i2l, 1) := by decide +kernel
theorem dL_law_1357 : decode cL_law 1357 = .ok (.lcmp, 1) := by decide +kernel
theorem dL_law_1358 : decode cL_law 1358 = .ok (.ifCond .eq 5, 3) := by decide +kernel
theorem dL_law_1361 : decode cL_law 1361 = .ok (.iconst 0, 1) := by decide +kernel
theorem dL_law_1362 : decode cL_law 1362 = .ok (.ireturn, 1) := by decide +kernel
theorem dL_law_1363 : decode cL_law 1363 = .ok (.goto 788, 3) := by decide +kernel
theorem dL_law_1366 : decode cL_law 1366 = .ok (.aload_n 1, 1) := by decide +kernel
theorem dL_law_1367 : decode cL_law 1367 = .ok (.aload_n 0, 1) := by decide +kernel
theorem dL_law_1368 : decode cL_law 1368 = .ok (.iload 4, 2) := by decide +kernel
theorem dL_law_1370 : decode cL_law 1370 = .ok (.iconst 1, 1) := by decide +kernel
theorem dL_law_1371 : decode cL_law 1371 = .ok (.iadd, 1) := by decide +kernel
theorem dL_law_1372 : decode cL_law 1372 = .ok (.iaload, 1) := by decide +kernel
theorem dL_law_1373 : decode cL_law 1373 = .ok (.aload_n 3, 1) := by decide +kernel
theorem dL_law_1374 : decode cL_law 1374 = .ok (.invokestatic 204, 3) := by decide +kernel
theorem dL_law_1377 : decode cL_law 1377 = .ok (.istore 5, 2) := by decide +kernel
theorem dL_law_1379 : decode cL_law 1379 = .ok (.aload_n 2, 1) := by decide +kernel
theorem dL_law_1380 : decode cL_law 1380 = .ok (.aload_n 0, 1) := by decide +kernel
theorem dL_law_1381 : decode cL_law 1381 = .ok (.iload 4, 2) := by decide +kernel
theorem dL_law_1383 : decode cL_law 1383 = .ok (.iconst 1, 1) := by decide +kernel
theorem dL_law_1384 : decode cL_law 1384 = .ok (.iadd, 1) := by decide +kernel
theorem dL_law_1385 : decode cL_law 1385 = .ok (.iaload, 1) := by decide +kernel
theorem dL_law_1386 : decode cL_law 1386 = .ok (.invokevirtual 206, 3) := by decide +kernel
theorem dL_law_1389 : decode cL_law 1389 = .ok (.istore 6, 2) := by decide +kernel
theorem dL_law_1391 : decode cL_law 1391 = .ok (.aload_n 2, 1) := by decide +kernel
theorem dL_law_1392 : decode cL_law 1392 = .ok (.invokevirtual 106, 3) := by decide +kernel
theorem dL_law_1395 : decode cL_law 1395 = .ok (.iload 5, 2) := by decide +kernel
theorem dL_law_1397 : decode cL_law 1397 = .ok (.if_icmp .eq 5, 3) := by decide +kernel
theorem dL_law_1400 : decode cL_law 1400 = .ok (.iconst 0, 1) := by decide +kernel
theorem dL_law_1401 : decode cL_law 1401 = .ok (.ireturn, 1) := by decide +kernel
theorem dL_law_1402 : decode cL_law 1402 = .ok (.iload 5, 2) := by decide +kernel
theorem dL_law_1404 : decode cL_law 1404 = .ok (.ifCond .ne 15, 3) := by decide +kernel
theorem dL_law_1407 : decode cL_law 1407 = .ok (.aload_n 3, 1) := by decide +kernel
theorem dL_law_1408 : decode cL_law 1408 = .ok (.iconst 0, 1) := by decide +kernel
theorem dL_law_1409 : decode cL_law 1409 = .ok (.laload, 1) := by decide +kernel
theorem dL_law_1410 : decode cL_law 1410 = .ok (.iload 6, 2) := by decide +kernel
theorem dL_law_1412 : decode cL_law 1412 = .ok (.i2l, 1) := by decide +kernel
theorem dL_law_1413 : decode cL_law 1413 = .ok (.lcmp, 1) := by decide +kernel
theorem dL_law_1414 : decode cL_law 1414 = .ok (.ifCond .eq 5, 3) := by decide +kernel
theorem dL_law_1417 : decode cL_law 1417 = .ok (.iconst 0, 1) := by decide +kernel
theorem dL_law_1418 : decode cL_law 1418 = .ok (.ireturn, 1) := by decide +kernel
theorem dL_law_1419 : decode cL_law 1419 = .ok (.goto 732, 3) := by decide +kernel
theorem dL_law_1422 : decode cL_law 1422 = .ok (.aload_n 1, 1) := by decide +kernel
theorem dL_law_1423 : decode cL_law 1423 = .ok (.aload_n 0, 1) := by decide +kernel
theorem dL_law_1424 : decode cL_law 1424 = .ok (.iload 4, 2) := by decide +kernel
theorem dL_law_1426 : decode cL_law 1426 = .ok (.iconst 1, 1) := by decide +kernel
theorem dL_law_1427 : decode cL_law 1427 = .ok (.iadd, 1) := by decide +kernel
theorem dL_law_1428 : decode cL_law 1428 = .ok (.iaload, 1) := by decide +kernel
theorem dL_law_1429 : decode cL_law 1429 = .ok (.aload_n 3, 1) := by decide +kernel
theorem dL_law_1430 : decode cL_law 1430 = .ok (.invokestatic 207, 3) := by decide +kernel
theorem dL_law_1433 : decode cL_law 1433 = .ok (.istore 5, 2) := by decide +kernel
theorem dL_law_1435 : decode cL_law 1435 = .ok (.aload_n 2, 1) := by decide +kernel
theorem dL_law_1436 : decode cL_law 1436 = .ok (.aload_n 0, 1) := by decide +kernel
theorem dL_law_1437 : decode cL_law 1437 = .ok (.iload 4, 2) := by decide +kernel
theorem dL_law_1439 : decode cL_law 1439 = .ok (.iconst 1, 1) := by decide +kernel
theorem dL_law_1440 : decode cL_law 1440 = .ok (.iadd, 1) := by decide +kernel
theorem dL_law_1441 : decode cL_law 1441 = .ok (.iaload, 1) := by decide +kernel
theorem dL_law_1442 : decode cL_law 1442 = .ok (.invokevirtual 209, 3) := by decide +kernel
theorem dL_law_1445 : decode cL_law 1445 = .ok (.istore 6, 2) := by decide +kernel
theorem dL_law_1447 : decode cL_law 1447 = .ok (.aload_n 2, 1) := by decide +kernel
theorem dL_law_1448 : decode cL_law 1448 = .ok (.invokevirtual 106, 3) := by decide +kernel
theorem dL_law_1451 : decode cL_law 1451 = .ok (.iload 5, 2) := by decide +kernel
theorem dL_law_1453 : decode cL_law 1453 = .ok (.if_icmp .eq 5, 3) := by decide +kernel
theorem dL_law_1456 : decode cL_law 1456 = .ok (.iconst 0, 1) := by decide +kernel
theorem dL_law_1457 : decode cL_law 1457 = .ok (.ireturn, 1) := by decide +kernel
theorem dL_law_1458 : decode cL_law 1458 = .ok (.iload 5, 2) := by decide +kernel
theorem dL_law_1460 : decode cL_law 1460 = .ok (.ifCond .ne 15, 3) := by decide +kernel
theorem dL_law_1463 : decode cL_law 1463 = .ok (.aload_n 3, 1) := by decide +kernel
theorem dL_law_1464 : decode cL_law 1464 = .ok (.iconst 0, 1) := by decide +kernel
theorem dL_law_1465 : decode cL_law 1465 = .ok (.laload, 1) := by decide +kernel
theorem dL_law_1466 : decode cL_law 1466 = .ok (.iload 6, 2) := by decide +kernel
theorem dL_law_1468 : decode cL_law 1468 = .ok (.i2l, 1) := by decide +kernel
theorem dL_law_1469 : decode cL_law 1469 = .ok (.lcmp, 1) := by decide +kernel
theorem dL_law_1470 : decode cL_law 1470 = .ok (.ifCond .eq 5, 3) := by decide +kernel
theorem dL_law_1473 : decode cL_law 1473 = .ok (.iconst 0, 1) := by decide +kernel
theorem dL_law_1474 : decode cL_law 1474 = .ok (.ireturn, 1) := by decide +kernel
theorem dL_law_1475 : decode cL_law 1475 = .ok (.goto 676, 3) := by decide +kernel
theorem dL_law_1478 : decode cL_law 1478 = .ok (.aload_n 1, 1) := by decide +kernel
theorem dL_law_1479 : decode cL_law 1479 = .ok (.invokevirtual 210, 3) := by decide +kernel
theorem dL_law_1482 : decode cL_law 1482 = .ok (.aload_n 2, 1) := by decide +kernel
theorem dL_law_1483 : decode cL_law 1483 = .ok (.invokevirtual 213, 3) := by decide +kernel
theorem dL_law_1486 : decode cL_law 1486 = .ok (.if_icmp .eq 665, 3) := by decide +kernel
theorem dL_law_1489 : decode cL_law 1489 = .ok (.iconst 0, 1) := by decide +kernel
theorem dL_law_1490 : decode cL_law 1490 = .ok (.ireturn, 1) := by decide +kernel
theorem dL_law_1491 : decode cL_law 1491 = .ok (.aload_n 1, 1) := by decide +kernel
theorem dL_law_1492 : decode cL_law 1492 = .ok (.aload_n 0, 1) := by decide +kernel
theorem dL_law_1493 : decode cL_law 1493 = .ok (.iload 4, 2) := by decide +kernel
theorem dL_law_1495 : decode cL_law 1495 = .ok (.iconst 1, 1) := by decide +kernel
theorem dL_law_1496 : decode cL_law 1496 = .ok (.iadd, 1) := by decide +kernel
theorem dL_law_1497 : decode cL_law 1497 = .ok (.iaload, 1) := by decide +kernel
theorem dL_law_1498 : decode cL_law 1498 = .ok (.aload_n 0, 1) := by decide +kernel
theorem dL_law_1499 : decode cL_law 1499 = .ok (.iload 4, 2) := by decide +kernel
theorem dL_law_1501 : decode cL_law 1501 = .ok (.iconst 2, 1) := by decide +kernel
theorem dL_law_1502 : decode cL_law 1502 = .ok (.iadd, 1) := by decide +kernel
theorem dL_law_1503 : decode cL_law 1503 = .ok (.iaload, 1) := by decide +kernel
theorem dL_law_1504 : decode cL_law 1504 = .ok (.aload_n 3, 1) := by decide +kernel
theorem dL_law_1505 : decode cL_law 1505 = .ok (.invokestatic 214, 3) := by decide +kernel
theorem dL_law_1508 : decode cL_law 1508 = .ok (.istore 5, 2) := by decide +kernel
theorem dL_law_1510 : decode cL_law 1510 = .ok (.aload_n 2, 1) := by decide +kernel
theorem dL_law_1511 : decode cL_law 1511 = .ok (.aload_n 0, 1) := by decide +kernel
theorem dL_law_1512 : decode cL_law 1512 = .ok (.iload 4, 2) := by decide +kernel
theorem dL_law_1514 : decode cL_law 1514 = .ok (.iconst 1, 1) := by decide +kernel
theorem dL_law_1515 : decode cL_law 1515 = .ok (.iadd, 1) := by decide +kernel
theorem dL_law_1516 : decode cL_law 1516 = .ok (.iaload, 1) := by decide +kernel
theorem dL_law_1517 : decode cL_law 1517 = .ok (.aload_n 0, 1) := by decide +kernel
theorem dL_law_1518 : decode cL_law 1518 = .ok (.iload 4, 2) := by decide +kernel
theorem dL_law_1520 : decode cL_law 1520 = .ok (.iconst 2, 1) := by decide +kernel
theorem dL_law_1521 : decode cL_law 1521 = .ok (.iadd, 1) := by decide +kernel
theorem dL_law_1522 : decode cL_law 1522 = .ok (.iaload, 1) := by decide +kernel
theorem dL_law_1523 : decode cL_law 1523 = .ok (.invokevirtual 216, 3) := by decide +kernel
theorem dL_law_1526 : decode cL_law 1526 = .ok (.istore 6, 2) := by decide +kernel
theorem dL_law_1528 : decode cL_law 1528 = .ok (.aload_n 2, 1) := by decide +kernel
theorem dL_law_1529 : decode cL_law 1529 = .ok (.invokevirtual 106, 3) := by decide +kernel
theorem dL_law_1532 : decode cL_law 1532 = .ok (.iload 5, 2) := by decide +kernel
theorem dL_law_1534 : decode cL_law 1534 = .ok (.if_icmp .eq 5, 3) := by decide +kernel
theorem dL_law_1537 : decode cL_law 1537 = .ok (.iconst 0, 1) := by decide +kernel
theorem dL_law_1538 : decode cL_law 1538 = .ok (.ireturn, 1) := by decide +kernel
theorem dL_law_1539 : decode cL_law 1539 = .ok (.iload 5, 2) := by decide +kernel
theorem dL_law_1541 : decode cL_law 1541 = .ok (.ifCond .ne 15, 3) := by decide +kernel
theorem dL_law_1544 : decode cL_law 1544 = .ok (.aload_n 3, 1) := by decide +kernel
theorem dL_law_1545 : decode cL_law 1545 = .ok (.iconst 0, 1) := by decide +kernel
theorem dL_law_1546 : decode cL_law 1546 = .ok (.laload, 1) := by decide +kernel
theorem dL_law_1547 : decode cL_law 1547 = .ok (.iload 6, 2) := by decide +kernel
theorem dL_law_1549 : decode cL_law 1549 = .ok (.i2l, 1) := by decide +kernel
theorem dL_law_1550 : decode cL_law 1550 = .ok (.lcmp, 1) := by decide +kernel
theorem dL_law_1551 : decode cL_law 1551 = .ok (.ifCond .eq 5, 3) := by decide +kernel
theorem dL_law_1554 : decode cL_law 1554 = .ok (.iconst 0, 1) := by decide +kernel
theorem dL_law_1555 : decode cL_law 1555 = .ok (.ireturn, 1) := by decide +kernel
theorem dL_law_1556 : decode cL_law 1556 = .ok (.goto 595, 3) := by decide +kernel
theorem dL_law_1559 : decode cL_law 1559 = .ok (.aload_n 1, 1) := by decide +kernel
theorem dL_law_1560 : decode cL_law 1560 = .ok (.aload_n 0, 1) := by decide +kernel
theorem dL_law_1561 : decode cL_law 1561 = .ok (.iload 4, 2) := by decide +kernel
theorem dL_law_1563 : decode cL_law 1563 = .ok (.iconst 1, 1) := by decide +kernel
theorem dL_law_1564 : decode cL_law 1564 = .ok (.iadd, 1) := by decide +kernel
theorem dL_law_1565 : decode cL_law 1565 = .ok (.iaload, 1) := by decide +kernel
theorem dL_law_1566 : decode cL_law 1566 = .ok (.aload_n 3, 1) := by decide +kernel
theorem dL_law_1567 : decode cL_law 1567 = .ok (.invokestatic 217, 3) := by decide +kernel
theorem dL_law_1570 : decode cL_law 1570 = .ok (.istore 5, 2) := by decide +kernel
theorem dL_law_1572 : decode cL_law 1572 = .ok (.aload_n 2, 1) := by decide +kernel
theorem dL_law_1573 : decode cL_law 1573 = .ok (.aload_n 0, 1) := by decide +kernel
theorem dL_law_1574 : decode cL_law 1574 = .ok (.iload 4, 2) := by decide +kernel
theorem dL_law_1576 : decode cL_law 1576 = .ok (.iconst 1, 1) := by decide +kernel
theorem dL_law_1577 : decode cL_law 1577 = .ok (.iadd, 1) := by decide +kernel
theorem dL_law_1578 : decode cL_law 1578 = .ok (.iaload, 1) := by decide +kernel
theorem dL_law_1579 : decode cL_law 1579 = .ok (.invokevirtual 219, 3) := by decide +kernel
theorem dL_law_1582 : decode cL_law 1582 = .ok (.istore 6, 2) := by decide +kernel
theorem dL_law_1584 : decode cL_law 1584 = .ok (.aload_n 2, 1) := by decide +kernel
theorem dL_law_1585 : decode cL_law 1585 = .ok (.invokevirtual 106, 3) := by decide +kernel
theorem dL_law_1588 : decode cL_law 1588 = .ok (.iload 5, 2) := by decide +kernel
theorem dL_law_1590 : decode cL_law 1590 = .ok (.if_icmp .eq 5, 3) := by decide +kernel
theorem dL_law_1593 : decode cL_law 1593 = .ok (.iconst 0, 1) := by decide +kernel
theorem dL_law_1594 : decode cL_law 1594 = .ok (.ireturn, 1) := by decide +kernel
theorem dL_law_1595 : decode cL_law 1595 = .ok (.iload 5, 2) := by decide +kernel
theorem dL_law_1597 : decode cL_law 1597 = .ok (.ifCond .ne 15, 3) := by decide +kernel
theorem dL_law_1600 : decode cL_law 1600 = .ok (.aload_n 3, 1) := by decide +kernel
theorem dL_law_1601 : decode cL_law 1601 = .ok (.iconst 0, 1) := by decide +kernel
theorem dL_law_1602 : decode cL_law 1602 = .ok (.laload, 1) := by decide +kernel
theorem dL_law_1603 : decode cL_law 1603 = .ok (.iload 6, 2) := by decide +kernel
theorem dL_law_1605 : decode cL_law 1605 = .ok (.i2l, 1) := by decide +kernel
theorem dL_law_1606 : decode cL_law 1606 = .ok (.lcmp, 1) := by decide +kernel
theorem dL_law_1607 : decode cL_law 1607 = .ok (.ifCond .eq 5, 3) := by decide +kernel
theorem dL_law_1610 : decode cL_law 1610 = .ok (.iconst 0, 1) := by decide +kernel
theorem dL_law_1611 : decode cL_law 1611 = .ok (.ireturn, 1) := by decide +kernel
theorem dL_law_1612 : decode cL_law 1612 = .ok (.goto 539, 3) := by decide +kernel
theorem dL_law_1615 : decode cL_law 1615 = .ok (.aload_n 1, 1) := by decide +kernel
theorem dL_law_1616 : decode cL_law 1616 = .ok (.aload_n 0, 1) := by decide +kernel
theorem dL_law_1617 : decode cL_law 1617 = .ok (.iload 4, 2) := by decide +kernel
theorem dL_law_1619 : decode cL_law 1619 = .ok (.iconst 1, 1) := by decide +kernel
theorem dL_law_1620 : decode cL_law 1620 = .ok (.iadd, 1) := by decide +kernel
theorem dL_law_1621 : decode cL_law 1621 = .ok (.iaload, 1) := by decide +kernel
theorem dL_law_1622 : decode cL_law 1622 = .ok (.invokevirtual 220, 3) := by decide +kernel
theorem dL_law_1625 : decode cL_law 1625 = .ok (.aload_n 2, 1) := by decide +kernel
theorem dL_law_1626 : decode cL_law 1626 = .ok (.aload_n 0, 1) := by decide +kernel
theorem dL_law_1627 : decode cL_law 1627 = .ok (.iload 4, 2) := by decide +kernel
theorem dL_law_1629 : decode cL_law 1629 = .ok (.iconst 1, 1) := by decide +kernel
theorem dL_law_1630 : decode cL_law 1630 = .ok (.iadd, 1) := by decide +kernel
theorem dL_law_1631 : decode cL_law 1631 = .ok (.iaload, 1) := by decide +kernel
theorem dL_law_1632 : decode cL_law 1632 = .ok (.invokevirtual 223, 3) := by decide +kernel
theorem dL_law_1635 : decode cL_law 1635 = .ok (.if_icmp .eq 516, 3) := by decide +kernel
theorem dL_law_1638 : decode cL_law 1638 = .ok (.iconst 0, 1) := by decide +kernel
theorem dL_law_1639 : decode cL_law 1639 = .ok (.ireturn, 1) := by decide +kernel
theorem dL_law_1640 : decode cL_law 1640 = .ok (.aload_n 1, 1) := by decide +kernel
theorem dL_law_1641 : decode cL_law 1641 = .ok (.aload_n 0, 1) := by decide +kernel
theorem dL_law_1642 : decode cL_law 1642 = .ok (.iload 4, 2) := by decide +kernel
theorem dL_law_1644 : decode cL_law 1644 = .ok (.iconst 1, 1) := by decide +kernel
theorem dL_law_1645 : decode cL_law 1645 = .ok (.iadd, 1) := by decide +kernel
theorem dL_law_1646 : decode cL_law 1646 = .ok (.iaload, 1) := by decide +kernel
theorem dL_law_1647 : decode cL_law 1647 = .ok (.aload_n 0, 1) := by decide +kernel
theorem dL_law_1648 : decode cL_law 1648 = .ok (.iload 4, 2) := by decide +kernel
theorem dL_law_1650 : decode cL_law 1650 = .ok (.iconst 2, 1) := by decide +kernel
theorem dL_law_1651 : decode cL_law 1651 = .ok (.iadd, 1) := by decide +kernel
theorem dL_law_1652 : decode cL_law 1652 = .ok (.iaload, 1) := by decide +kernel
theorem dL_law_1653 : decode cL_law 1653 = .ok (.aload_n 3, 1) := by decide +kernel
theorem dL_law_1654 : decode cL_law 1654 = .ok (.invokestatic 224, 3) := by decide +kernel
theorem dL_law_1657 : decode cL_law 1657 = .ok (.istore 5, 2) := by decide +kernel
theorem dL_law_1659 : decode cL_law 1659 = .ok (.aload_n 2, 1) := by decide +kernel
theorem dL_law_1660 : decode cL_law 1660 = .ok (.aload_n 0, 1) := by decide +kernel
theorem dL_law_1661 : decode cL_law 1661 = .ok (.iload 4, 2) := by decide +kernel
theorem dL_law_1663 : decode cL_law 1663 = .ok (.iconst 1, 1) := by decide +kernel
theorem dL_law_1664 : decode cL_law 1664 = .ok (.iadd, 1) := by decide +kernel
theorem dL_law_1665 : decode cL_law 1665 = .ok (.iaload, 1) := by decide +kernel
theorem dL_law_1666 : decode cL_law 1666 = .ok (.aload_n 0, 1) := by decide +kernel
theorem dL_law_1667 : decode cL_law 1667 = .ok (.iload 4, 2) := by decide +kernel
theorem dL_law_1669 : decode cL_law 1669 = .ok (.iconst 2, 1) := by decide +kernel
theorem dL_law_1670 : decode cL_law 1670 = .ok (.iadd, 1) := by decide +kernel
theorem dL_law_1671 : decode cL_law 1671 = .ok (.iaload, 1) := by decide +kernel
theorem dL_law_1672 : decode cL_law 1672 = .ok (.invokevirtual 226, 3) := by decide +kernel
theorem dL_law_1675 : decode cL_law 1675 = .ok (.istore 6, 2) := by decide +kernel
theorem dL_law_1677 : decode cL_law 1677 = .ok (.aload_n 2, 1) := by decide +kernel
theorem dL_law_1678 : decode cL_law 1678 = .ok (.invokevirtual 106, 3) := by decide +kernel
theorem dL_law_1681 : decode cL_law 1681 = .ok (.iload 5, 2) := by decide +kernel
theorem dL_law_1683 : decode cL_law 1683 = .ok (.if_icmp .eq 5, 3) := by decide +kernel
theorem dL_law_1686 : decode cL_law 1686 = .ok (.iconst 0, 1) := by decide +kernel
theorem dL_law_1687 : decode cL_law 1687 = .ok (.ireturn, 1) := by decide +kernel
theorem dL_law_1688 : decode cL_law 1688 = .ok (.iload 5, 2) := by decide +kernel
theorem dL_law_1690 : decode cL_law 1690 = .ok (.ifCond .ne 15, 3) := by decide +kernel
theorem dL_law_1693 : decode cL_law 1693 = .ok (.aload_n 3, 1) := by decide +kernel
theorem dL_law_1694 : decode cL_law 1694 = .ok (.iconst 0, 1) := by decide +kernel
theorem dL_law_1695 : decode cL_law 1695 = .ok (.laload, 1) := by decide +kernel
theorem dL_law_1696 : decode cL_law 1696 = .ok (.iload 6, 2) := by decide +kernel
theorem dL_law_1698 : decode cL_law 1698 = .ok (.i2l, 1) := by decide +kernel
theorem dL_law_1699 : decode cL_law 1699 = .ok (.lcmp, 1) := by decide +kernel
theorem dL_law_1700 : decode cL_law 1700 = .ok (.ifCond .eq 5, 3) := by decide +kernel
theorem dL_law_1703 : decode cL_law 1703 = .ok (.iconst 0, 1) := by decide +kernel
theorem dL_law_1704 : decode cL_law 1704 = .ok (.ireturn, 1) := by decide +kernel
theorem dL_law_1705 : decode cL_law 1705 = .ok (.goto 446, 3) := by decide +kernel
theorem dL_law_1708 : decode cL_law 1708 = .ok (.aload_n 1, 1) := by decide +kernel
theorem dL_law_1709 : decode cL_law 1709 = .ok (.aload_n 0, 1) := by decide +kernel
theorem dL_law_1710 : decode cL_law 1710 = .ok (.iload 4, 2) := by decide +kernel
theorem dL_law_1712 : decode cL_law 1712 = .ok (.iconst 1, 1) := by decide +kernel
theorem dL_law_1713 : decode cL_law 1713 = .ok (.iadd, 1) := by decide +kernel
theorem dL_law_1714 : decode cL_law 1714 = .ok (.iaload, 1) := by decide +kernel
theorem dL_law_1715 : decode cL_law 1715 = .ok (.aload_n 3, 1) := by decide +kernel
theorem dL_law_1716 : decode cL_law 1716 = .ok (.invokestatic 227, 3) := by decide +kernel
theorem dL_law_1719 : decode cL_law 1719 = .ok (.istore 5, 2) := by decide +kernel
theorem dL_law_1721 : decode cL_law 1721 = .ok (.aload_n 2, 1) := by decide +kernel
theorem dL_law_1722 : decode cL_law 1722 = .ok (.aload_n 0, 1) := by decide +kernel
theorem dL_law_1723 : decode cL_law 1723 = .ok (.iload 4, 2) := by decide +kernel
theorem dL_law_1725 : decode cL_law 1725 = .ok (.iconst 1, 1) := by decide +kernel
theorem dL_law_1726 : decode cL_law 1726 = .ok (.iadd, 1) := by decide +kernel
theorem dL_law_1727 : decode cL_law 1727 = .ok (.iaload, 1) := by decide +kernel
theorem dL_law_1728 : decode cL_law 1728 = .ok (.invokevirtual 229, 3) := by decide +kernel
theorem dL_law_1731 : decode cL_law 1731 = .ok (.istore 6, 2) := by decide +kernel
theorem dL_law_1733 : decode cL_law 1733 = .ok (.aload_n 2, 1) := by decide +kernel
theorem dL_law_1734 : decode cL_law 1734 = .ok (.invokevirtual 106, 3) := by decide +kernel
theorem dL_law_1737 : decode cL_law 1737 = .ok (.iload 5, 2) := by decide +kernel
theorem dL_law_1739 : decode cL_law 1739 = .ok (.if_icmp .eq 5, 3) := by decide +kernel
theorem dL_law_1742 : decode cL_law 1742 = .ok (.iconst 0, 1) := by decide +kernel
theorem dL_law_1743 : decode cL_law 1743 = .ok (.ireturn, 1) := by decide +kernel
theorem dL_law_1744 : decode cL_law 1744 = .ok (.iload 5, 2) := by decide +kernel
theorem dL_law_1746 : decode cL_law 1746 = .ok (.ifCond .ne 15, 3) := by decide +kernel
theorem dL_law_1749 : decode cL_law 1749 = .ok (.aload_n 3, 1) := by decide +kernel
theorem dL_law_1750 : decode cL_law 1750 = .ok (.iconst 0, 1) := by decide +kernel
theorem dL_law_1751 : decode cL_law 1751 = .ok (.laload, 1) := by decide +kernel
theorem dL_law_1752 : decode cL_law 1752 = .ok (.iload 6, 2) := by decide +kernel
theorem dL_law_1754 : decode cL_law 1754 = .ok (.i2l, 1) := by decide +kernel
theorem dL_law_1755 : decode cL_law 1755 = .ok (.lcmp, 1) := by decide +kernel
theorem dL_law_1756 : decode cL_law 1756 = .ok (.ifCond .eq 5, 3) := by decide +kernel
theorem dL_law_1759 : decode cL_law 1759 = .ok (.iconst 0, 1) := by decide +kernel
theorem dL_law_1760 : decode cL_law 1760 = .ok (.ireturn, 1) := by decide +kernel
theorem dL_law_1761 : decode cL_law 1761 = .ok (.goto 390, 3) := by decide +kernel
theorem dL_law_1764 : decode cL_law 1764 = .ok (.aload_n 1, 1) := by decide +kernel
theorem dL_law_1765 : decode cL_law 1765 = .ok (.aload_n 0, 1) := by decide +kernel
theorem dL_law_1766 : decode cL_law 1766 = .ok (.iload 4, 2) := by decide +kernel
theorem dL_law_1768 : decode cL_law 1768 = .ok (.iconst 1, 1) := by decide +kernel
theorem dL_law_1769 : decode cL_law 1769 = .ok (.iadd, 1) := by decide +kernel
theorem dL_law_1770 : decode cL_law 1770 = .ok (.iaload, 1) := by decide +kernel
theorem dL_law_1771 : decode cL_law 1771 = .ok (.aload_n 0, 1) := by decide +kernel
theorem dL_law_1772 : decode cL_law 1772 = .ok (.iload 4, 2) := by decide +kernel
theorem dL_law_1774 : decode cL_law 1774 = .ok (.iconst 2, 1) := by decide +kernel
theorem dL_law_1775 : decode cL_law 1775 = .ok (.iadd, 1) := by decide +kernel
theorem dL_law_1776 : decode cL_law 1776 = .ok (.iaload, 1) := by decide +kernel
theorem dL_law_1777 : decode cL_law 1777 = .ok (.aload_n 3, 1) := by decide +kernel
theorem dL_law_1778 : decode cL_law 1778 = .ok (.invokestatic 230, 3) := by decide +kernel
theorem dL_law_1781 : decode cL_law 1781 = .ok (.istore 5, 2) := by decide +kernel
theorem dL_law_1783 : decode cL_law 1783 = .ok (.aload_n 2, 1) := by decide +kernel
theorem dL_law_1784 : decode cL_law 1784 = .ok (.aload_n 0, 1) := by decide +kernel
theorem dL_law_1785 : decode cL_law 1785 = .ok (.iload 4, 2) := by decide +kernel
theorem dL_law_1787 : decode cL_law 1787 = .ok (.iconst 1, 1) := by decide +kernel
theorem dL_law_1788 : decode cL_law 1788 = .ok (.iadd, 1) := by decide +kernel
theorem dL_law_1789 : decode cL_law 1789 = .ok (.iaload, 1) := by decide +kernel
theorem dL_law_1790 : decode cL_law 1790 = .ok (.aload_n 0, 1) := by decide +kernel
theorem dL_law_1791 : decode cL_law 1791 = .ok (.iload 4, 2) := by decide +kernel
theorem dL_law_1793 : decode cL_law 1793 = .ok (.iconst 2, 1) := by decide +kernel
theorem dL_law_1794 : decode cL_law 1794 = .ok (.iadd, 1) := by decide +kernel
theorem dL_law_1795 : decode cL_law 1795 = .ok (.iaload, 1) := by decide +kernel
theorem dL_law_1796 : decode cL_law 1796 = .ok (.invokevirtual 232, 3) := by decide +kernel
theorem dL_law_1799 : decode cL_law 1799 = .ok (.istore 6, 2) := by decide +kernel
theorem dL_law_1801 : decode cL_law 1801 = .ok (.aload_n 2, 1) := by decide +kernel
theorem dL_law_1802 : decode cL_law 1802 = .ok (.invokevirtual 106, 3) := by decide +kernel
theorem dL_law_1805 : decode cL_law 1805 = .ok (.iload 5, 2) := by decide +kernel
theorem dL_law_1807 : decode cL_law 1807 = .ok (.if_icmp .eq 5, 3) := by decide +kernel
theorem dL_law_1810 : decode cL_law 1810 = .ok (.iconst 0, 1) := by decide +kernel
theorem dL_law_1811 : decode cL_law 1811 = .ok (.ireturn, 1) := by decide +kernel
theorem dL_law_1812 : decode cL_law 1812 = .ok (.iload 5, 2) := by decide +kernel
theorem dL_law_1814 : decode cL_law 1814 = .ok (.ifCond .ne 15, 3) := by decide +kernel
theorem dL_law_1817 : decode cL_law 1817 = .ok (.aload_n 3, 1) := by decide +kernel
theorem dL_law_1818 : decode cL_law 1818 = .ok (.iconst 0, 1) := by decide +kernel
theorem dL_law_1819 : decode cL_law 1819 = .ok (.laload, 1) := by decide +kernel
theorem dL_law_1820 : decode cL_law 1820 = .ok (.iload 6, 2) := by decide +kernel
theorem dL_law_1822 : decode cL_law 1822 = .ok (.i2l, 1) := by decide +kernel
theorem dL_law_1823 : decode cL_law 1823 = .ok (.lcmp, 1) := by decide +kernel
theorem dL_law_1824 : decode cL_law 1824 = .ok (.ifCond .eq 5, 3) := by decide +kernel
theorem dL_law_1827 : decode cL_law 1827 = .ok (.iconst 0, 1) := by decide +kernel
theorem dL_law_1828 : decode cL_law 1828 = .ok (.ireturn, 1) := by decide +kernel
theorem dL_law_1829 : decode cL_law 1829 = .ok (.goto 322, 3) := by decide +kernel
theorem dL_law_1832 : decode cL_law 1832 = .ok (.aload_n 1, 1) := by decide +kernel
theorem dL_law_1833 : decode cL_law 1833 = .ok (.aload_n 0, 1) := by decide +kernel
theorem dL_law_1834 : decode cL_law 1834 = .ok (.iload 4, 2) := by decide +kernel
theorem dL_law_1836 : decode cL_law 1836 = .ok (.iconst 1, 1) := by decide +kernel
theorem dL_law_1837 : decode cL_law 1837 = .ok (.iadd, 1) := by decide +kernel
theorem dL_law_1838 : decode cL_law 1838 = .ok (.iaload, 1) := by decide +kernel
theorem dL_law_1839 : decode cL_law 1839 = .ok (.aload_n 0, 1) := by decide +kernel
theorem dL_law_1840 : decode cL_law 1840 = .ok (.iload 4, 2) := by decide +kernel
theorem dL_law_1842 : decode cL_law 1842 = .ok (.iconst 2, 1) := by decide +kernel
theorem dL_law_1843 : decode cL_law 1843 = .ok (.iadd, 1) := by decide +kernel
theorem dL_law_1844 : decode cL_law 1844 = .ok (.iaload, 1) := by decide +kernel
theorem dL_law_1845 : decode cL_law 1845 = .ok (.aload_n 0, 1) := by decide +kernel
theorem dL_law_1846 : decode cL_law 1846 = .ok (.iload 4, 2) := by decide +kernel
theorem dL_law_1848 : decode cL_law 1848 = .ok (.iconst 3, 1) := by decide +kernel
theorem dL_law_1849 : decode cL_law 1849 = .ok (.iadd, 1) := by decide +kernel
theorem dL_law_1850 : decode cL_law 1850 = .ok (.iaload, 1) := by decide +kernel
theorem dL_law_1851 : decode cL_law 1851 = .ok (.aload_n 3, 1) := by decide +kernel
theorem dL_law_1852 : decode cL_law 1852 = .ok (.invokestatic 233, 3) := by decide +kernel
theorem dL_law_1855 : decode cL_law 1855 = .ok (.istore 5, 2) := by decide +kernel
theorem dL_law_1857 : decode cL_law 1857 = .ok (.aload_n 2, 1) := by decide +kernel
theorem dL_law_1858 : decode cL_law 1858 = .ok (.aload_n 0, 1) := by decide +kernel
theorem dL_law_1859 : decode cL_law 1859 = .ok (.iload 4, 2) := by decide +kernel
theorem dL_law_1861 : decode cL_law 1861 = .ok (.iconst 1, 1) := by decide +kernel
theorem dL_law_1862 : decode cL_law 1862 = .ok (.iadd, 1) := by decide +kernel
theorem dL_law_1863 : decode cL_law 1863 = .ok (.iaload, 1) := by decide +kernel
theorem dL_law_1864 : decode cL_law 1864 = .ok (.aload_n 0, 1) := by decide +kernel
theorem dL_law_1865 : decode cL_law 1865 = .ok (.iload 4, 2) := by decide +kernel
theorem dL_law_1867 : decode cL_law 1867 = .ok (.iconst 2, 1) := by decide +kernel
theorem dL_law_1868 : decode cL_law 1868 = .ok (.iadd, 1) := by decide +kernel
theorem dL_law_1869 : decode cL_law 1869 = .ok (.iaload, 1) := by decide +kernel
theorem dL_law_1870 : decode cL_law 1870 = .ok (.aload_n 0, 1) := by decide +kernel
theorem dL_law_1871 : decode cL_law 1871 = .ok (.iload 4, 2) := by decide +kernel
theorem dL_law_1873 : decode cL_law 1873 = .ok (.iconst 3, 1) := by decide +kernel
theorem dL_law_1874 : decode cL_law 1874 = .ok (.iadd, 1) := by decide +kernel
theorem dL_law_1875 : decode cL_law 1875 = .ok (.iaload, 1) := by decide +kernel
theorem dL_law_1876 : decode cL_law 1876 = .ok (.invokevirtual 236, 3) := by decide +kernel
theorem dL_law_1879 : decode cL_law 1879 = .ok (.istore 6, 2) := by decide +kernel
theorem dL_law_1881 : decode cL_law 1881 = .ok (.aload_n 2, 1) := by decide +kernel
theorem dL_law_1882 : decode cL_law 1882 = .ok (.invokevirtual 106, 3) := by decide +kernel
theorem dL_law_1885 : decode cL_law 1885 = .ok (.iload 5, 2) := by decide +kernel
theorem dL_law_1887 : decode cL_law 1887 = .ok (.if_icmp .eq 5, 3) := by decide +kernel
theorem dL_law_1890 : decode cL_law 1890 = .ok (.iconst 0, 1) := by decide +kernel
theorem dL_law_1891 : decode cL_law 1891 = .ok (.ireturn, 1) := by decide +kernel
theorem dL_law_1892 : decode cL_law 1892 = .ok (.iload 5, 2) := by decide +kernel
theorem dL_law_1894 : decode cL_law 1894 = .ok (.ifCond .ne 15, 3) := by decide +kernel
theorem dL_law_1897 : decode cL_law 1897 = .ok (.aload_n 3, 1) := by decide +kernel
theorem dL_law_1898 : decode cL_law 1898 = .ok (.iconst 0, 1) := by decide +kernel
theorem dL_law_1899 : decode cL_law 1899 = .ok (.laload, 1) := by decide +kernel
theorem dL_law_1900 : decode cL_law 1900 = .ok (.iload 6, 2) := by decide +kernel
theorem dL_law_1902 : decode cL_law 1902 = .ok (.i2l, 1) := by decide +kernel
theorem dL_law_1903 : decode cL_law 1903 = .ok (.lcmp, 1) := by decide +kernel
theorem dL_law_1904 : decode cL_law 1904 = .ok (.ifCond .eq 5, 3) := by decide +kernel
theorem dL_law_1907 : decode cL_law 1907 = .ok (.iconst 0, 1) := by decide +kernel
theorem dL_law_1908 : decode cL_law 1908 = .ok (.ireturn, 1) := by decide +kernel
theorem dL_law_1909 : decode cL_law 1909 = .ok (.goto 242, 3) := by decide +kernel
theorem dL_law_1912 : decode cL_law 1912 = .ok (.aload_n 1, 1) := by decide +kernel
theorem dL_law_1913 : decode cL_law 1913 = .ok (.aload_n 0, 1) := by decide +kernel
theorem dL_law_1914 : decode cL_law 1914 = .ok (.iload 4, 2) := by decide +kernel
theorem dL_law_1916 : decode cL_law 1916 = .ok (.iconst 1, 1) := by decide +kernel
theorem dL_law_1917 : decode cL_law 1917 = .ok (.iadd, 1) := by decide +kernel
theorem dL_law_1918 : decode cL_law 1918 = .ok (.iaload, 1) := by decide +kernel
theorem dL_law_1919 : decode cL_law 1919 = .ok (.aload_n 0, 1) := by decide +kernel
theorem dL_law_1920 : decode cL_law 1920 = .ok (.iload 4, 2) := by decide +kernel
theorem dL_law_1922 : decode cL_law 1922 = .ok (.iconst 2, 1) := by decide +kernel
theorem dL_law_1923 : decode cL_law 1923 = .ok (.iadd, 1) := by decide +kernel
theorem dL_law_1924 : decode cL_law 1924 = .ok (.iaload, 1) := by decide +kernel
theorem dL_law_1925 : decode cL_law 1925 = .ok (.aload_n 0, 1) := by decide +kernel
theorem dL_law_1926 : decode cL_law 1926 = .ok (.iload 4, 2) := by decide +kernel
theorem dL_law_1928 : decode cL_law 1928 = .ok (.iconst 3, 1) := by decide +kernel
theorem dL_law_1929 : decode cL_law 1929 = .ok (.iadd, 1) := by decide +kernel
theorem dL_law_1930 : decode cL_law 1930 = .ok (.iaload, 1) := by decide +kernel
theorem dL_law_1931 : decode cL_law 1931 = .ok (.aload_n 3, 1) := by decide +kernel
theorem dL_law_1932 : decode cL_law 1932 = .ok (.invokestatic 237, 3) := by decide +kernel
theorem dL_law_1935 : decode cL_law 1935 = .ok (.istore 5, 2) := by decide +kernel
theorem dL_law_1937 : decode cL_law 1937 = .ok (.aload_n 2, 1) := by decide +kernel
theorem dL_law_1938 : decode cL_law 1938 = .ok (.aload_n 0, 1) := by decide +kernel
theorem dL_law_1939 : decode cL_law 1939 = .ok (.iload 4, 2) := by decide +kernel
theorem dL_law_1941 : decode cL_law 1941 = .ok (.iconst 1, 1) := by decide +kernel
theorem dL_law_1942 : decode cL_law 1942 = .ok (.iadd, 1) := by decide +kernel
theorem dL_law_1943 : decode cL_law 1943 = .ok (.iaload, 1) := by decide +kernel
theorem dL_law_1944 : decode cL_law 1944 = .ok (.aload_n 0, 1) := by decide +kernel
theorem dL_law_1945 : decode cL_law 1945 = .ok (.iload 4, 2) := by decide +kernel
theorem dL_law_1947 : decode cL_law 1947 = .ok (.iconst 2, 1) := by decide +kernel
theorem dL_law_1948 : decode cL_law 1948 = .ok (.iadd, 1) := by decide +kernel
theorem dL_law_1949 : decode cL_law 1949 = .ok (.iaload, 1) := by decide +kernel
theorem dL_law_1950 : decode cL_law 1950 = .ok (.aload_n 0, 1) := by decide +kernel
theorem dL_law_1951 : decode cL_law 1951 = .ok (.iload 4, 2) := by decide +kernel
theorem dL_law_1953 : decode cL_law 1953 = .ok (.iconst 3, 1) := by decide +kernel
theorem dL_law_1954 : decode cL_law 1954 = .ok (.iadd, 1) := by decide +kernel
theorem dL_law_1955 : decode cL_law 1955 = .ok (.iaload, 1) := by decide +kernel
theorem dL_law_1956 : decode cL_law 1956 = .ok (.invokevirtual 239, 3) := by decide +kernel
theorem dL_law_1959 : decode cL_law 1959 = .ok (.istore 6, 2) := by decide +kernel
theorem dL_law_1961 : decode cL_law 1961 = .ok (.aload_n 2, 1) := by decide +kernel
theorem dL_law_1962 : decode cL_law 1962 = .ok (.invokevirtual 106, 3) := by decide +kernel
theorem dL_law_1965 : decode cL_law 1965 = .ok (.iload 5, 2) := by decide +kernel
theorem dL_law_1967 : decode cL_law 1967 = .ok (.if_icmp .eq 5, 3) := by decide +kernel
theorem dL_law_1970 : decode cL_law 1970 = .ok (.iconst 0, 1) := by decide +kernel
theorem dL_law_1971 : decode cL_law 1971 = .ok (.ireturn, 1) := by decide +kernel
theorem dL_law_1972 : decode cL_law 1972 = .ok (.iload 5, 2) := by decide +kernel
theorem dL_law_1974 : decode cL_law 1974 = .ok (.ifCond .ne 15, 3) := by decide +kernel
theorem dL_law_1977 : decode cL_law 1977 = .ok (.aload_n 3, 1) := by decide +kernel
theorem dL_law_1978 : decode cL_law 1978 = .ok (.iconst 0, 1) := by decide +kernel
theorem dL_law_1979 : decode cL_law 1979 = .ok (.laload, 1) := by decide +kernel
theorem dL_law_1980 : decode cL_law 1980 = .ok (.iload 6, 2) := by decide +kernel
theorem dL_law_1982 : decode cL_law 1982 = .ok (.i2l, 1) := by decide +kernel
theorem dL_law_1983 : decode cL_law 1983 = .ok (.lcmp, 1) := by decide +kernel
theorem dL_law_1984 : decode cL_law 1984 = .ok (.ifCond .eq 5, 3) := by decide +kernel
theorem dL_law_1987 : decode cL_law 1987 = .ok (.iconst 0, 1) := by decide +kernel
theorem dL_law_1988 : decode cL_law 1988 = .ok (.ireturn, 1) := by decide +kernel
theorem dL_law_1989 : decode cL_law 1989 = .ok (.goto 162, 3) := by decide +kernel
theorem dL_law_1992 : decode cL_law 1992 = .ok (.aload_n 1, 1) := by decide +kernel
theorem dL_law_1993 : decode cL_law 1993 = .ok (.invokevirtual 240, 3) := by decide +kernel
theorem dL_law_1996 : decode cL_law 1996 = .ok (.aload_n 2, 1) := by decide +kernel
theorem dL_law_1997 : decode cL_law 1997 = .ok (.invokevirtual 243, 3) := by decide +kernel
theorem dL_law_2000 : decode cL_law 2000 = .ok (.if_icmp .eq 151, 3) := by decide +kernel
theorem dL_law_2003 : decode cL_law 2003 = .ok (.iconst 0, 1) := by decide +kernel
theorem dL_law_2004 : decode cL_law 2004 = .ok (.ireturn, 1) := by decide +kernel
theorem dL_law_2005 : decode cL_law 2005 = .ok (.aload_n 1, 1) := by decide +kernel
theorem dL_law_2006 : decode cL_law 2006 = .ok (.invokevirtual 244, 3) := by decide +kernel
theorem dL_law_2009 : decode cL_law 2009 = .ok (.aload_n 2, 1) := by decide +kernel
theorem dL_law_2010 : decode cL_law 2010 = .ok (.invokevirtual 247, 3) := by decide +kernel
theorem dL_law_2013 : decode cL_law 2013 = .ok (.if_icmp .eq 138, 3) := by decide +kernel
theorem dL_law_2016 : decode cL_law 2016 = .ok (.iconst 0, 1) := by decide +kernel
theorem dL_law_2017 : decode cL_law 2017 = .ok (.ireturn, 1) := by decide +kernel
theorem dL_law_2018 : decode cL_law 2018 = .ok (.aload_n 1, 1) := by decide +kernel
theorem dL_law_2019 : decode cL_law 2019 = .ok (.invokevirtual 248, 3) := by decide +kernel
theorem dL_law_2022 : decode cL_law 2022 = .ok (.aload_n 2, 1) := by decide +kernel
theorem dL_law_2023 : decode cL_law 2023 = .ok (.invokevirtual 252, 3) := by decide +kernel
theorem dL_law_2026 : decode cL_law 2026 = .ok (.if_icmp .eq 125, 3) := by decide +kernel
theorem dL_law_2029 : decode cL_law 2029 = .ok (.iconst 0, 1) := by decide +kernel
theorem dL_law_2030 : decode cL_law 2030 = .ok (.ireturn, 1) := by decide +kernel
theorem dL_law_2031 : decode cL_law 2031 = .ok (.aload_n 1, 1) := by decide +kernel
theorem dL_law_2032 : decode cL_law 2032 = .ok (.invokevirtual 253, 3) := by decide +kernel
theorem dL_law_2035 : decode cL_law 2035 = .ok (.aload_n 2, 1) := by decide +kernel
theorem dL_law_2036 : decode cL_law 2036 = .ok (.invokevirtual 256, 3) := by decide +kernel
theorem dL_law_2039 : decode cL_law 2039 = .ok (.if_icmp .eq 112, 3) := by decide +kernel
theorem dL_law_2042 : decode cL_law 2042 = .ok (.iconst 0, 1) := by decide +kernel
theorem dL_law_2043 : decode cL_law 2043 = .ok (.ireturn, 1) := by decide +kernel
theorem dL_law_2044 : decode cL_law 2044 = .ok (.aload_n 1, 1) := by decide +kernel
theorem dL_law_2045 : decode cL_law 2045 = .ok (.invokevirtual 257, 3) := by decide +kernel
theorem dL_law_2048 : decode cL_law 2048 = .ok (.aload_n 2, 1) := by decide +kernel
theorem dL_law_2049 : decode cL_law 2049 = .ok (.invokevirtual 260, 3) := by decide +kernel
theorem dL_law_2052 : decode cL_law 2052 = .ok (.if_icmp .eq 99, 3) := by decide +kernel
theorem dL_law_2055 : decode cL_law 2055 = .ok (.iconst 0, 1) := by decide +kernel
theorem dL_law_2056 : decode cL_law 2056 = .ok (.ireturn, 1) := by decide +kernel
theorem dL_law_2057 : decode cL_law 2057 = .ok (.aload_n 1, 1) := by decide +kernel
theorem dL_law_2058 : decode cL_law 2058 = .ok (.invokevirtual 261, 3) := by decide +kernel
theorem dL_law_2061 : decode cL_law 2061 = .ok (.aload_n 2, 1) := by decide +kernel
theorem dL_law_2062 : decode cL_law 2062 = .ok (.invokevirtual 264, 3) := by decide +kernel
theorem dL_law_2065 : decode cL_law 2065 = .ok (.if_icmp .eq 86, 3) := by decide +kernel
theorem dL_law_2068 : decode cL_law 2068 = .ok (.iconst 0, 1) := by decide +kernel
theorem dL_law_2069 : decode cL_law 2069 = .ok (.ireturn, 1) := by decide +kernel
theorem dL_law_2070 : decode cL_law 2070 = .ok (.aload_n 1, 1) := by decide +kernel
theorem dL_law_2071 : decode cL_law 2071 = .ok (.aload_n 0, 1) := by decide +kernel
theorem dL_law_2072 : decode cL_law 2072 = .ok (.iload 4, 2) := by decide +kernel
theorem dL_law_2074 : decode cL_law 2074 = .ok (.iconst 1, 1) := by decide +kernel
theorem dL_law_2075 : decode cL_law 2075 = .ok (.iadd, 1) := by decide +kernel
theorem dL_law_2076 : decode cL_law 2076 = .ok (.iaload, 1) := by decide +kernel
theorem dL_law_2077 : decode cL_law 2077 = .ok (.aload_n 3, 1) := by decide +kernel
theorem dL_law_2078 : decode cL_law 2078 = .ok (.invokestatic 265, 3) := by decide +kernel
theorem dL_law_2081 : decode cL_law 2081 = .ok (.istore 5, 2) := by decide +kernel
theorem dL_law_2083 : decode cL_law 2083 = .ok (.aload_n 2, 1) := by decide +kernel
theorem dL_law_2084 : decode cL_law 2084 = .ok (.aload_n 0, 1) := by decide +kernel
theorem dL_law_2085 : decode cL_law 2085 = .ok (.iload 4, 2) := by decide +kernel
theorem dL_law_2087 : decode cL_law 2087 = .ok (.iconst 1, 1) := by decide +kernel
theorem dL_law_2088 : decode cL_law 2088 = .ok (.iadd, 1) := by decide +kernel
theorem dL_law_2089 : decode cL_law 2089 = .ok (.iaload, 1) := by decide +kernel
theorem dL_law_2090 : decode cL_law 2090 = .ok (.invokevirtual 267, 3) := by decide +kernel
theorem dL_law_2093 : decode cL_law 2093 = .ok (.istore 6, 2) := by decide +kernel
theorem dL_law_2095 : decode cL_law 2095 = .ok (.aload_n 2, 1) := by decide +kernel
theorem dL_law_2096 : decode cL_law 2096 = .ok (.invokevirtual 106, 3) := by decide +kernel
theorem dL_law_2099 : decode cL_law 2099 = .ok (.iload 5, 2) := by decide +kernel
theorem dL_law_2101 : decode cL_law 2101 = .ok (.if_icmp .eq 5, 3) := by decide +kernel
theorem dL_law_2104 : decode cL_law 2104 = .ok (.iconst 0, 1) := by decide +kernel
theorem dL_law_2105 : decode cL_law 2105 = .ok (.ireturn, 1) := by decide +kernel
theorem dL_law_2106 : decode cL_law 2106 = .ok (.iload 5, 2) := by decide +kernel
theorem dL_law_2108 : decode cL_law 2108 = .ok (.ifCond .ne 15, 3) := by decide +kernel
theorem dL_law_2111 : decode cL_law 2111 = .ok (.aload_n 3, 1) := by decide +kernel
theorem dL_law_2112 : decode cL_law 2112 = .ok (.iconst 0, 1) := by decide +kernel
theorem dL_law_2113 : decode cL_law 2113 = .ok (.laload, 1) := by decide +kernel
theorem dL_law_2114 : decode cL_law 2114 = .ok (.iload 6, 2) := by decide +kernel
theorem dL_law_2116 : decode cL_law 2116 = .ok (.i2l, 1) := by decide +kernel
theorem dL_law_2117 : decode cL_law 2117 = .ok (.lcmp, 1) := by decide +kernel
theorem dL_law_2118 : decode cL_law 2118 = .ok (.ifCond .eq 5, 3) := by decide +kernel
theorem dL_law_2121 : decode cL_law 2121 = .ok (.iconst 0, 1) := by decide +kernel
theorem dL_law_2122 : decode cL_law 2122 = .ok (.ireturn, 1) := by decide +kernel
theorem dL_law_2123 : decode cL_law 2123 = .ok (.goto 28, 3) := by decide +kernel
theorem dL_law_2126 : decode cL_law 2126 = .ok (.aload_n 1, 1) := by decide +kernel
theorem dL_law_2127 : decode cL_law 2127 = .ok (.aload_n 0, 1) := by decide +kernel
theorem dL_law_2128 : decode cL_law 2128 = .ok (.iload 4, 2) := by decide +kernel
theorem dL_law_2130 : decode cL_law 2130 = .ok (.iconst 1, 1) := by decide +kernel
theorem dL_law_2131 : decode cL_law 2131 = .ok (.iadd, 1) := by decide +kernel
theorem dL_law_2132 : decode cL_law 2132 = .ok (.iaload, 1) := by decide +kernel
theorem dL_law_2133 : decode cL_law 2133 = .ok (.invokevirtual 268, 3) := by decide +kernel
theorem dL_law_2136 : decode cL_law 2136 = .ok (.aload_n 2, 1) := by decide +kernel
theorem dL_law_2137 : decode cL_law 2137 = .ok (.aload_n 0, 1) := by decide +kernel
theorem dL_law_2138 : decode cL_law 2138 = .ok (.iload 4, 2) := by decide +kernel
theorem dL_law_2140 : decode cL_law 2140 = .ok (.iconst 1, 1) := by decide +kernel
theorem dL_law_2141 : decode cL_law 2141 = .ok (.iadd, 1) := by decide +kernel
theorem dL_law_2142 : decode cL_law 2142 = .ok (.iaload, 1) := by decide +kernel
theorem dL_law_2143 : decode cL_law 2143 = .ok (.invokevirtual 271, 3) := by decide +kernel
theorem dL_law_2146 : decode cL_law 2146 = .ok (.if_icmp .eq 5, 3) := by decide +kernel
theorem dL_law_2149 : decode cL_law 2149 = .ok (.iconst 0, 1) := by decide +kernel
theorem dL_law_2150 : decode cL_law 2150 = .ok (.ireturn, 1) := by decide +kernel
theorem dL_law_2151 : decode cL_law 2151 = .ok (.iinc 4 6, 3) := by decide +kernel
theorem dL_law_2154 : decode cL_law 2154 = .ok (.goto (-2131), 3) := by decide +kernel
theorem dL_law_2157 : decode cL_law 2157 = .ok (.iconst 1, 1) := by decide +kernel
theorem dL_law_2158 : decode cL_law 2158 = .ok (.ireturn, 1) := by decide +kernel
theorem cw_L_91 : CWd RL 91 yX10_append cX10_append 6 (some .int) 5 := ⟨TW_of 501 (by decide +kernel) (by decide +kernel), TW_of 504 (by decide +kernel) (by decide +kernel), TW_of 103 (by decide +kernel) (by decide +kernel), by decide +kernel⟩
theorem cw_L_95 : CWd RL 95 yX11_append cX11_append 7 (some .int) 5 := ⟨TW_of 1533 (by decide +kernel) (by decide +kernel), TW_of 1536 (by decide +kernel) (by decide +kernel), TW_of 112 (by decide +kernel) (by decide +kernel), by decide +kernel⟩
theorem cw_L_96 : CWd RL 96 yX10_truncate cX10_truncate 2 (some .boolean) 1 := ⟨TW_of 509 (by decide +kernel) (by decide +kernel), TW_of 512 (by decide +kernel) (by decide +kernel), TW_of 103 (by decide +kernel) (by decide +kernel), by decide +kernel⟩
theorem cw_L_99 : CWd RL 99 yX11_truncate cX11_truncate 2 (some .boolean) 1 := ⟨TW_of 1537 (by decide +kernel) (by decide +kernel), TW_of 1540 (by decide +kernel) (by decide +kernel), TW_of 112 (by decide +kernel) (by decide +kernel), by decide +kernel⟩
theorem cwL_100 : (Cond.methodLink RL 100 yL_load ∈ TW ∧ Cond.initialized yL_load.cls ∈ TW) ∧ (yL_load.cls ≠ "java/lang/invoke/MethodHandle" ∧ yL_load.cls ≠ "java/lang/invoke/VarHandle" ∧ (parseMethodDescriptor yL_load.desc).map (fun d => d.parameters.length) = some 2) := ⟨⟨TW_of 840 (by decide +kernel) (by decide +kernel), TW_of 102 (by decide +kernel) (by decide +kernel)⟩, by decide +kernel⟩
theorem cw_L_105 : CWd RL 105 yX11_load cX11_load 2 (some .int) 0 := ⟨TW_of 1549 (by decide +kernel) (by decide +kernel), TW_of 1552 (by decide +kernel) (by decide +kernel), TW_of 112 (by decide +kernel) (by decide +kernel), by decide +kernel⟩
theorem cw_L_106 : CWd RL 106 yX11_thrown cX11_thrown 1 (some .int) 0 := ⟨TW_of 1359 (by decide +kernel) (by decide +kernel), TW_of 1362 (by decide +kernel) (by decide +kernel), TW_of 112 (by decide +kernel) (by decide +kernel), by decide +kernel⟩
theorem cwL_109 : (Cond.methodLink RL 109 yL_loadScript ∈ TW ∧ Cond.initialized yL_loadScript.cls ∈ TW) ∧ (yL_loadScript.cls ≠ "java/lang/invoke/MethodHandle" ∧ yL_loadScript.cls ≠ "java/lang/invoke/VarHandle" ∧ (parseMethodDescriptor yL_loadScript.desc).map (fun d => d.parameters.length) = some 2) := ⟨⟨TW_of 1032 (by decide +kernel) (by decide +kernel), TW_of 102 (by decide +kernel) (by decide +kernel)⟩, by decide +kernel⟩
theorem cw_L_111 : CWd RL 111 yX11_loadScript cX11_loadScript 2 (some .int) 0 := ⟨TW_of 1657 (by decide +kernel) (by decide +kernel), TW_of 1660 (by decide +kernel) (by decide +kernel), TW_of 112 (by decide +kernel) (by decide +kernel), by decide +kernel⟩
theorem cw_L_112 : CWd RL 112 yX10_errorOffset cX10_errorOffset 1 (some .int) 0 := ⟨TW_of 513 (by decide +kernel) (by decide +kernel), TW_of 516 (by decide +kernel) (by decide +kernel), TW_of 103 (by decide +kernel) (by decide +kernel), by decide +kernel⟩
theorem cw_L_115 : CWd RL 115 yX11_errorOffset cX11_errorOffset 1 (some .int) 0 := ⟨TW_of 1541 (by decide +kernel) (by decide +kernel), TW_of 1544 (by decide +kernel) (by decide +kernel), TW_of 112 (by decide +kernel) (by decide +kernel), by decide +kernel⟩
theorem cw_L_116 : CWd RL 116 yX10_errorKind cX10_errorKind 1 (some .int) 0 := ⟨TW_of 517 (by decide +kernel) (by decide +kernel), TW_of 520 (by decide +kernel) (by decide +kernel), TW_of 103 (by decide +kernel) (by decide +kernel), by decide +kernel⟩
theorem cw_L_119 : CWd RL 119 yX11_errorKind cX11_errorKind 1 (some .int) 0 := ⟨TW_of 1545 (by decide +kernel) (by decide +kernel), TW_of 1548 (by decide +kernel) (by decide +kernel), TW_of 112 (by decide +kernel) (by decide +kernel), by decide +kernel⟩
theorem cw_L_120 : CWd RL 120 yX10_count cX10_count 3 (some .int) 1 := ⟨TW_of 521 (by decide +kernel) (by decide +kernel), TW_of 524 (by decide +kernel) (by decide +kernel), TW_of 103 (by decide +kernel) (by decide +kernel), by decide +kernel⟩
theorem cw_L_123 : CWd RL 123 yX11_count cX11_count 2 (some .int) 1 := ⟨TW_of 1689 (by decide +kernel) (by decide +kernel), TW_of 1692 (by decide +kernel) (by decide +kernel), TW_of 112 (by decide +kernel) (by decide +kernel), by decide +kernel⟩
theorem cwL_124 : (Cond.methodLink RL 124 yL_wordField ∈ TW ∧ Cond.initialized yL_wordField.cls ∈ TW) ∧ (yL_wordField.cls ≠ "java/lang/invoke/MethodHandle" ∧ yL_wordField.cls ≠ "java/lang/invoke/VarHandle" ∧ (parseMethodDescriptor yL_wordField.desc).map (fun d => d.parameters.length) = some 4) := ⟨⟨TW_of 1088 (by decide +kernel) (by decide +kernel), TW_of 102 (by decide +kernel) (by decide +kernel)⟩, by decide +kernel⟩
theorem cw_L_127 : CWd RL 127 yX11_wordField cX11_wordField 3 (some .int) 2 := ⟨TW_of 1693 (by decide +kernel) (by decide +kernel), TW_of 1696 (by decide +kernel) (by decide +kernel), TW_of 112 (by decide +kernel) (by decide +kernel), by decide +kernel⟩
theorem cwL_128 : (Cond.methodLink RL 128 yL_isSameText ∈ TW ∧ Cond.initialized yL_isSameText.cls ∈ TW) ∧ (yL_isSameText.cls ≠ "java/lang/invoke/MethodHandle" ∧ yL_isSameText.cls ≠ "java/lang/invoke/VarHandle" ∧ (parseMethodDescriptor yL_isSameText.desc).map (fun d => d.parameters.length) = some 4) := ⟨⟨TW_of 1128 (by decide +kernel) (by decide +kernel), TW_of 102 (by decide +kernel) (by decide +kernel)⟩, by decide +kernel⟩
theorem cw_L_130 : CWd RL 130 yX11_isSameText cX11_isSameText 3 (some .boolean) 2 := ⟨TW_of 1721 (by decide +kernel) (by decide +kernel), TW_of 1724 (by decide +kernel) (by decide +kernel), TW_of 112 (by decide +kernel) (by decide +kernel), by decide +kernel⟩
theorem cwL_131 : (Cond.methodLink RL 131 yL_overlap ∈ TW ∧ Cond.initialized yL_overlap.cls ∈ TW) ∧ (yL_overlap.cls ≠ "java/lang/invoke/MethodHandle" ∧ yL_overlap.cls ≠ "java/lang/invoke/VarHandle" ∧ (parseMethodDescriptor yL_overlap.desc).map (fun d => d.parameters.length) = some 4) := ⟨⟨TW_of 1135 (by decide +kernel) (by decide +kernel), TW_of 102 (by decide +kernel) (by decide +kernel)⟩, by decide +kernel⟩
theorem cw_L_133 : CWd RL 133 yX11_overlap cX11_overlap 3 (some .boolean) 2 := ⟨TW_of 1725 (by decide +kernel) (by decide +kernel), TW_of 1728 (by decide +kernel) (by decide +kernel), TW_of 112 (by decide +kernel) (by decide +kernel), by decide +kernel⟩
theorem cw_L_134 : CWd RL 134 yX10_differentTexts cX10_differentTexts 1 (some .int) 0 := ⟨TW_of 525 (by decide +kernel) (by decide +kernel), TW_of 528 (by decide +kernel) (by decide +kernel), TW_of 103 (by decide +kernel) (by decide +kernel), by decide +kernel⟩
theorem cw_L_137 : CWd RL 137 yX11_differentTexts cX11_differentTexts 5 (some .int) 0 := ⟨TW_of 1729 (by decide +kernel) (by decide +kernel), TW_of 1732 (by decide +kernel) (by decide +kernel), TW_of 112 (by decide +kernel) (by decide +kernel), by decide +kernel⟩
theorem cwL_138 : (Cond.methodLink RL 138 yL_blockField ∈ TW ∧ Cond.initialized yL_blockField.cls ∈ TW) ∧ (yL_blockField.cls ≠ "java/lang/invoke/MethodHandle" ∧ yL_blockField.cls ≠ "java/lang/invoke/VarHandle" ∧ (parseMethodDescriptor yL_blockField.desc).map (fun d => d.parameters.length) = some 4) := ⟨⟨TW_of 1143 (by decide +kernel) (by decide +kernel), TW_of 102 (by decide +kernel) (by decide +kernel)⟩, by decide +kernel⟩
theorem cw_L_140 : CWd RL 140 yX11_blockField cX11_blockField 3 (some .int) 2 := ⟨TW_of 1733 (by decide +kernel) (by decide +kernel), TW_of 1736 (by decide +kernel) (by decide +kernel), TW_of 112 (by decide +kernel) (by decide +kernel), by decide +kernel⟩
theorem cw_L_141 : CWd RL 141 yX10_blockAt cX10_blockAt 2 (some .int) 1 := ⟨TW_of 537 (by decide +kernel) (by decide +kernel), TW_of 540 (by decide +kernel) (by decide +kernel), TW_of 103 (by decide +kernel) (by decide +kernel), by decide +kernel⟩
theorem cw_L_144 : CWd RL 144 yX11_blockAt cX11_blockAt 3 (some .int) 1 := ⟨TW_of 1753 (by decide +kernel) (by decide +kernel), TW_of 1756 (by decide +kernel) (by decide +kernel), TW_of 112 (by decide +kernel) (by decide +kernel), by decide +kernel⟩
theorem cwL_145 : (Cond.methodLink RL 145 yL_isSnapped ∈ TW ∧ Cond.initialized yL_isSnapped.cls ∈ TW) ∧ (yL_isSnapped.cls ≠ "java/lang/invoke/MethodHandle" ∧ yL_isSnapped.cls ≠ "java/lang/invoke/VarHandle" ∧ (parseMethodDescriptor yL_isSnapped.desc).map (fun d => d.parameters.length) = some 3) := ⟨⟨TW_of 1160 (by decide +kernel) (by decide +kernel), TW_of 102 (by decide +kernel) (by decide +kernel)⟩, by decide +kernel⟩
theorem cw_L_148 : CWd RL 148 yX11_isSnapped cX11_isSnapped 2 (some .boolean) 1 := ⟨TW_of 1757 (by decide +kernel) (by decide +kernel), TW_of 1760 (by decide +kernel) (by decide +kernel), TW_of 112 (by decide +kernel) (by decide +kernel), by decide +kernel⟩
theorem cw_L_149 : CWd RL 149 yX10_speakersAt cX10_speakersAt 2 (some .int) 1 := ⟨TW_of 549 (by decide +kernel) (by decide +kernel), TW_of 552 (by decide +kernel) (by decide +kernel), TW_of 103 (by decide +kernel) (by decide +kernel), by decide +kernel⟩
theorem cw_L_152 : CWd RL 152 yX11_speakersAt cX11_speakersAt 4 (some .int) 1 := ⟨TW_of 1761 (by decide +kernel) (by decide +kernel), TW_of 1764 (by decide +kernel) (by decide +kernel), TW_of 112 (by decide +kernel) (by decide +kernel), by decide +kernel⟩
theorem cw_L_153 : CWd RL 153 yX10_shots cX10_shots 1 (some .int) 0 := ⟨TW_of 561 (by decide +kernel) (by decide +kernel), TW_of 564 (by decide +kernel) (by decide +kernel), TW_of 103 (by decide +kernel) (by decide +kernel), by decide +kernel⟩
theorem cw_L_156 : CWd RL 156 yX11_shots cX11_shots 1 (some .int) 0 := ⟨TW_of 1765 (by decide +kernel) (by decide +kernel), TW_of 1768 (by decide +kernel) (by decide +kernel), TW_of 112 (by decide +kernel) (by decide +kernel), by decide +kernel⟩
theorem cwL_157 : (Cond.methodLink RL 157 yL_blockOf ∈ TW ∧ Cond.initialized yL_blockOf.cls ∈ TW) ∧ (yL_blockOf.cls ≠ "java/lang/invoke/MethodHandle" ∧ yL_blockOf.cls ≠ "java/lang/invoke/VarHandle" ∧ (parseMethodDescriptor yL_blockOf.desc).map (fun d => d.parameters.length) = some 3) := ⟨⟨TW_of 1167 (by decide +kernel) (by decide +kernel), TW_of 102 (by decide +kernel) (by decide +kernel)⟩, by decide +kernel⟩
theorem cw_L_159 : CWd RL 159 yX11_blockOf cX11_blockOf 2 (some .int) 1 := ⟨TW_of 1769 (by decide +kernel) (by decide +kernel), TW_of 1772 (by decide +kernel) (by decide +kernel), TW_of 112 (by decide +kernel) (by decide +kernel), by decide +kernel⟩
theorem cwL_160 : (Cond.methodLink RL 160 yL_shotField ∈ TW ∧ Cond.initialized yL_shotField.cls ∈ TW) ∧ (yL_shotField.cls ≠ "java/lang/invoke/MethodHandle" ∧ yL_shotField.cls ≠ "java/lang/invoke/VarHandle" ∧ (parseMethodDescriptor yL_shotField.desc).map (fun d => d.parameters.length) = some 4) := ⟨⟨TW_of 1179 (by decide +kernel) (by decide +kernel), TW_of 102 (by decide +kernel) (by decide +kernel)⟩, by decide +kernel⟩
theorem cw_L_162 : CWd RL 162 yX11_shotField cX11_shotField 4 (some .int) 2 := ⟨TW_of 1781 (by decide +kernel) (by decide +kernel), TW_of 1784 (by decide +kernel) (by decide +kernel), TW_of 112 (by decide +kernel) (by decide +kernel), by decide +kernel⟩
theorem cw_L_163 : CWd RL 163 yX10_filmLength cX10_filmLength 1 (some .int) 0 := ⟨TW_of 565 (by decide +kernel) (by decide +kernel), TW_of 568 (by decide +kernel) (by decide +kernel), TW_of 103 (by decide +kernel) (by decide +kernel), by decide +kernel⟩
theorem cw_L_166 : CWd RL 166 yX11_filmLength cX11_filmLength 1 (some .int) 0 := ⟨TW_of 1801 (by decide +kernel) (by decide +kernel), TW_of 1804 (by decide +kernel) (by decide +kernel), TW_of 112 (by decide +kernel) (by decide +kernel), by decide +kernel⟩
theorem cw_L_167 : CWd RL 167 yX10_clips cX10_clips 1 (some .int) 0 := ⟨TW_of 569 (by decide +kernel) (by decide +kernel), TW_of 572 (by decide +kernel) (by decide +kernel), TW_of 103 (by decide +kernel) (by decide +kernel), by decide +kernel⟩
theorem cw_L_170 : CWd RL 170 yX11_clips cX11_clips 3 (some .int) 0 := ⟨TW_of 1809 (by decide +kernel) (by decide +kernel), TW_of 1812 (by decide +kernel) (by decide +kernel), TW_of 112 (by decide +kernel) (by decide +kernel), by decide +kernel⟩
theorem cw_L_171 : CWd RL 171 yX10_clipField cX10_clipField 5 (some .int) 2 := ⟨TW_of 573 (by decide +kernel) (by decide +kernel), TW_of 576 (by decide +kernel) (by decide +kernel), TW_of 103 (by decide +kernel) (by decide +kernel), by decide +kernel⟩
theorem cw_L_174 : CWd RL 174 yX11_clipField cX11_clipField 5 (some .int) 2 := ⟨TW_of 1817 (by decide +kernel) (by decide +kernel), TW_of 1820 (by decide +kernel) (by decide +kernel), TW_of 112 (by decide +kernel) (by decide +kernel), by decide +kernel⟩
theorem cw_L_175 : CWd RL 175 yX10_sourceOf cX10_sourceOf 3 (some .int) 1 := ⟨TW_of 577 (by decide +kernel) (by decide +kernel), TW_of 580 (by decide +kernel) (by decide +kernel), TW_of 103 (by decide +kernel) (by decide +kernel), by decide +kernel⟩
theorem cw_L_178 : CWd RL 178 yX11_sourceOf cX11_sourceOf 2 (some .int) 1 := ⟨TW_of 1825 (by decide +kernel) (by decide +kernel), TW_of 1828 (by decide +kernel) (by decide +kernel), TW_of 112 (by decide +kernel) (by decide +kernel), by decide +kernel⟩
theorem cwL_179 : (Cond.methodLink RL 179 yL_heard ∈ TW ∧ Cond.initialized yL_heard.cls ∈ TW) ∧ (yL_heard.cls ≠ "java/lang/invoke/MethodHandle" ∧ yL_heard.cls ≠ "java/lang/invoke/VarHandle" ∧ (parseMethodDescriptor yL_heard.desc).map (fun d => d.parameters.length) = some 4) := ⟨⟨TW_of 1186 (by decide +kernel) (by decide +kernel), TW_of 102 (by decide +kernel) (by decide +kernel)⟩, by decide +kernel⟩
theorem cw_L_181 : CWd RL 181 yX11_heard cX11_heard 3 (some .int) 2 := ⟨TW_of 1833 (by decide +kernel) (by decide +kernel), TW_of 1836 (by decide +kernel) (by decide +kernel), TW_of 112 (by decide +kernel) (by decide +kernel), by decide +kernel⟩
theorem cw_L_182 : CWd RL 182 yX10_silence cX10_silence 1 (some .int) 0 := ⟨TW_of 593 (by decide +kernel) (by decide +kernel), TW_of 596 (by decide +kernel) (by decide +kernel), TW_of 103 (by decide +kernel) (by decide +kernel), by decide +kernel⟩
theorem cw_L_185 : CWd RL 185 yX11_silence cX11_silence 1 (some .int) 0 := ⟨TW_of 1845 (by decide +kernel) (by decide +kernel), TW_of 1848 (by decide +kernel) (by decide +kernel), TW_of 112 (by decide +kernel) (by decide +kernel), by decide +kernel⟩
theorem cw_L_186 : CWd RL 186 yX10_longestSilence cX10_longestSilence 1 (some .int) 0 := ⟨TW_of 597 (by decide +kernel) (by decide +kernel), TW_of 600 (by decide +kernel) (by decide +kernel), TW_of 103 (by decide +kernel) (by decide +kernel), by decide +kernel⟩
theorem cw_L_189 : CWd RL 189 yX11_longestSilence cX11_longestSilence 1 (some .int) 0 := ⟨TW_of 1853 (by decide +kernel) (by decide +kernel), TW_of 1856 (by decide +kernel) (by decide +kernel), TW_of 112 (by decide +kernel) (by decide +kernel), by decide +kernel⟩
theorem cwL_190 : (Cond.methodLink RL 190 yL_speakingTime ∈ TW ∧ Cond.initialized yL_speakingTime.cls ∈ TW) ∧ (yL_speakingTime.cls ≠ "java/lang/invoke/MethodHandle" ∧ yL_speakingTime.cls ≠ "java/lang/invoke/VarHandle" ∧ (parseMethodDescriptor yL_speakingTime.desc).map (fun d => d.parameters.length) = some 3) := ⟨⟨TW_of 1205 (by decide +kernel) (by decide +kernel), TW_of 102 (by decide +kernel) (by decide +kernel)⟩, by decide +kernel⟩
theorem cw_L_192 : CWd RL 192 yX11_speakingTime cX11_speakingTime 4 (some .int) 1 := ⟨TW_of 1857 (by decide +kernel) (by decide +kernel), TW_of 1860 (by decide +kernel) (by decide +kernel), TW_of 112 (by decide +kernel) (by decide +kernel), by decide +kernel⟩
theorem cw_L_193 : CWd RL 193 yX10_transcriptSize cX10_transcriptSize 1 (some .int) 0 := ⟨TW_of 601 (by decide +kernel) (by decide +kernel), TW_of 604 (by decide +kernel) (by decide +kernel), TW_of 103 (by decide +kernel) (by decide +kernel), by decide +kernel⟩
theorem cw_L_196 : CWd RL 196 yX11_transcriptSize cX11_transcriptSize 1 (some .int) 0 := ⟨TW_of 1861 (by decide +kernel) (by decide +kernel), TW_of 1864 (by decide +kernel) (by decide +kernel), TW_of 112 (by decide +kernel) (by decide +kernel), by decide +kernel⟩
theorem cw_L_197 : CWd RL 197 yX10_transcriptWord cX10_transcriptWord 2 (some .int) 1 := ⟨TW_of 605 (by decide +kernel) (by decide +kernel), TW_of 608 (by decide +kernel) (by decide +kernel), TW_of 103 (by decide +kernel) (by decide +kernel), by decide +kernel⟩
theorem cw_L_200 : CWd RL 200 yX11_transcriptWord cX11_transcriptWord 2 (some .int) 1 := ⟨TW_of 1869 (by decide +kernel) (by decide +kernel), TW_of 1872 (by decide +kernel) (by decide +kernel), TW_of 112 (by decide +kernel) (by decide +kernel), by decide +kernel⟩
theorem cwL_201 : (Cond.methodLink RL 201 yL_placeOf ∈ TW ∧ Cond.initialized yL_placeOf.cls ∈ TW) ∧ (yL_placeOf.cls ≠ "java/lang/invoke/MethodHandle" ∧ yL_placeOf.cls ≠ "java/lang/invoke/VarHandle" ∧ (parseMethodDescriptor yL_placeOf.desc).map (fun d => d.parameters.length) = some 3) := ⟨⟨TW_of 1216 (by decide +kernel) (by decide +kernel), TW_of 102 (by decide +kernel) (by decide +kernel)⟩, by decide +kernel⟩
theorem cw_L_203 : CWd RL 203 yX11_placeOf cX11_placeOf 3 (some .int) 1 := ⟨TW_of 1873 (by decide +kernel) (by decide +kernel), TW_of 1876 (by decide +kernel) (by decide +kernel), TW_of 112 (by decide +kernel) (by decide +kernel), by decide +kernel⟩
theorem cwL_204 : (Cond.methodLink RL 204 yL_startInFilm ∈ TW ∧ Cond.initialized yL_startInFilm.cls ∈ TW) ∧ (yL_startInFilm.cls ≠ "java/lang/invoke/MethodHandle" ∧ yL_startInFilm.cls ≠ "java/lang/invoke/VarHandle" ∧ (parseMethodDescriptor yL_startInFilm.desc).map (fun d => d.parameters.length) = some 3) := ⟨⟨TW_of 1223 (by decide +kernel) (by decide +kernel), TW_of 102 (by decide +kernel) (by decide +kernel)⟩, by decide +kernel⟩
theorem cw_L_206 : CWd RL 206 yX11_startInFilm cX11_startInFilm 3 (some .int) 1 := ⟨TW_of 1877 (by decide +kernel) (by decide +kernel), TW_of 1880 (by decide +kernel) (by decide +kernel), TW_of 112 (by decide +kernel) (by decide +kernel), by decide +kernel⟩
theorem cwL_207 : (Cond.methodLink RL 207 yL_occurrences ∈ TW ∧ Cond.initialized yL_occurrences.cls ∈ TW) ∧ (yL_occurrences.cls ≠ "java/lang/invoke/MethodHandle" ∧ yL_occurrences.cls ≠ "java/lang/invoke/VarHandle" ∧ (parseMethodDescriptor yL_occurrences.desc).map (fun d => d.parameters.length) = some 3) := ⟨⟨TW_of 1234 (by decide +kernel) (by decide +kernel), TW_of 102 (by decide +kernel) (by decide +kernel)⟩, by decide +kernel⟩
theorem cw_L_209 : CWd RL 209 yX11_occurrences cX11_occurrences 4 (some .int) 1 := ⟨TW_of 1881 (by decide +kernel) (by decide +kernel), TW_of 1884 (by decide +kernel) (by decide +kernel), TW_of 112 (by decide +kernel) (by decide +kernel), by decide +kernel⟩
theorem cw_L_210 : CWd RL 210 yX10_stutters cX10_stutters 1 (some .int) 0 := ⟨TW_of 609 (by decide +kernel) (by decide +kernel), TW_of 612 (by decide +kernel) (by decide +kernel), TW_of 103 (by decide +kernel) (by decide +kernel), by decide +kernel⟩
theorem cw_L_213 : CWd RL 213 yX11_stutters cX11_stutters 3 (some .int) 0 := ⟨TW_of 1885 (by decide +kernel) (by decide +kernel), TW_of 1888 (by decide +kernel) (by decide +kernel), TW_of 112 (by decide +kernel) (by decide +kernel), by decide +kernel⟩
theorem cwL_214 : (Cond.methodLink RL 214 yL_lengthIfCut ∈ TW ∧ Cond.initialized yL_lengthIfCut.cls ∈ TW) ∧ (yL_lengthIfCut.cls ≠ "java/lang/invoke/MethodHandle" ∧ yL_lengthIfCut.cls ≠ "java/lang/invoke/VarHandle" ∧ (parseMethodDescriptor yL_lengthIfCut.desc).map (fun d => d.parameters.length) = some 4) := ⟨⟨TW_of 1245 (by decide +kernel) (by decide +kernel), TW_of 102 (by decide +kernel) (by decide +kernel)⟩, by decide +kernel⟩
theorem cw_L_216 : CWd RL 216 yX11_lengthIfCut cX11_lengthIfCut 4 (some .int) 2 := ⟨TW_of 1889 (by decide +kernel) (by decide +kernel), TW_of 1892 (by decide +kernel) (by decide +kernel), TW_of 112 (by decide +kernel) (by decide +kernel), by decide +kernel⟩
theorem cwL_217 : (Cond.methodLink RL 217 yL_lengthIfRestored ∈ TW ∧ Cond.initialized yL_lengthIfRestored.cls ∈ TW) ∧ (yL_lengthIfRestored.cls ≠ "java/lang/invoke/MethodHandle" ∧ yL_lengthIfRestored.cls ≠ "java/lang/invoke/VarHandle" ∧ (parseMethodDescriptor yL_lengthIfRestored.desc).map (fun d => d.parameters.length) = some 3) := ⟨⟨TW_of 1261 (by decide +kernel) (by decide +kernel), TW_of 102 (by decide +kernel) (by decide +kernel)⟩, by decide +kernel⟩
theorem cw_L_219 : CWd RL 219 yX11_lengthIfRestored cX11_lengthIfRestored 4 (some .int) 1 := ⟨TW_of 1917 (by decide +kernel) (by decide +kernel), TW_of 1920 (by decide +kernel) (by decide +kernel), TW_of 112 (by decide +kernel) (by decide +kernel), by decide +kernel⟩
theorem cw_L_220 : CWd RL 220 yX10_shotsToCut cX10_shotsToCut 2 (some .int) 1 := ⟨TW_of 617 (by decide +kernel) (by decide +kernel), TW_of 620 (by decide +kernel) (by decide +kernel), TW_of 103 (by decide +kernel) (by decide +kernel), by decide +kernel⟩
theorem cw_L_223 : CWd RL 223 yX11_shotsToCut cX11_shotsToCut 5 (some .int) 1 := ⟨TW_of 1933 (by decide +kernel) (by decide +kernel), TW_of 1936 (by decide +kernel) (by decide +kernel), TW_of 112 (by decide +kernel) (by decide +kernel), by decide +kernel⟩
theorem cwL_224 : (Cond.methodLink RL 224 yL_cut ∈ TW ∧ Cond.initialized yL_cut.cls ∈ TW) ∧ (yL_cut.cls ≠ "java/lang/invoke/MethodHandle" ∧ yL_cut.cls ≠ "java/lang/invoke/VarHandle" ∧ (parseMethodDescriptor yL_cut.desc).map (fun d => d.parameters.length) = some 4) := ⟨⟨TW_of 1276 (by decide +kernel) (by decide +kernel), TW_of 102 (by decide +kernel) (by decide +kernel)⟩, by decide +kernel⟩
theorem cw_L_226 : CWd RL 226 yX11_cut cX11_cut 4 (some .int) 2 := ⟨TW_of 1937 (by decide +kernel) (by decide +kernel), TW_of 1940 (by decide +kernel) (by decide +kernel), TW_of 112 (by decide +kernel) (by decide +kernel), by decide +kernel⟩
theorem cwL_227 : (Cond.methodLink RL 227 yL_cutWord ∈ TW ∧ Cond.initialized yL_cutWord.cls ∈ TW) ∧ (yL_cutWord.cls ≠ "java/lang/invoke/MethodHandle" ∧ yL_cutWord.cls ≠ "java/lang/invoke/VarHandle" ∧ (parseMethodDescriptor yL_cutWord.desc).map (fun d => d.parameters.length) = some 3) := ⟨⟨TW_of 1284 (by decide +kernel) (by decide +kernel), TW_of 102 (by decide +kernel) (by decide +kernel)⟩, by decide +kernel⟩
theorem cw_L_229 : CWd RL 229 yX11_cutWord cX11_cutWord 2 (some .int) 1 := ⟨TW_of 1945 (by decide +kernel) (by decide +kernel), TW_of 1948 (by decide +kernel) (by decide +kernel), TW_of 112 (by decide +kernel) (by decide +kernel), by decide +kernel⟩
theorem cwL_230 : (Cond.methodLink RL 230 yL_restore ∈ TW ∧ Cond.initialized yL_restore.cls ∈ TW) ∧ (yL_restore.cls ≠ "java/lang/invoke/MethodHandle" ∧ yL_restore.cls ≠ "java/lang/invoke/VarHandle" ∧ (parseMethodDescriptor yL_restore.desc).map (fun d => d.parameters.length) = some 4) := ⟨⟨TW_of 1308 (by decide +kernel) (by decide +kernel), TW_of 102 (by decide +kernel) (by decide +kernel)⟩, by decide +kernel⟩
theorem cw_L_232 : CWd RL 232 yX11_restore cX11_restore 3 (some .int) 2 := ⟨TW_of 1949 (by decide +kernel) (by decide +kernel), TW_of 1952 (by decide +kernel) (by decide +kernel), TW_of 112 (by decide +kernel) (by decide +kernel), by decide +kernel⟩
theorem cwL_233 : (Cond.methodLink RL 233 yL_move ∈ TW ∧ Cond.initialized yL_move.cls ∈ TW) ∧ (yL_move.cls ≠ "java/lang/invoke/MethodHandle" ∧ yL_move.cls ≠ "java/lang/invoke/VarHandle" ∧ (parseMethodDescriptor yL_move.desc).map (fun d => d.parameters.length) = some 5) := ⟨⟨TW_of 1317 (by decide +kernel) (by decide +kernel), TW_of 102 (by decide +kernel) (by decide +kernel)⟩, by decide +kernel⟩
theorem cw_L_236 : CWd RL 236 yX11_move cX11_move 4 (some .int) 3 := ⟨TW_of 1953 (by decide +kernel) (by decide +kernel), TW_of 1956 (by decide +kernel) (by decide +kernel), TW_of 112 (by decide +kernel) (by decide +kernel), by decide +kernel⟩
theorem cwL_237 : (Cond.methodLink RL 237 yL_setHandles ∈ TW ∧ Cond.initialized yL_setHandles.cls ∈ TW) ∧ (yL_setHandles.cls ≠ "java/lang/invoke/MethodHandle" ∧ yL_setHandles.cls ≠ "java/lang/invoke/VarHandle" ∧ (parseMethodDescriptor yL_setHandles.desc).map (fun d => d.parameters.length) = some 5) := ⟨⟨TW_of 1328 (by decide +kernel) (by decide +kernel), TW_of 102 (by decide +kernel) (by decide +kernel)⟩, by decide +kernel⟩
theorem cw_L_239 : CWd RL 239 yX11_setHandles cX11_setHandles 4 (some .int) 3 := ⟨TW_of 1961 (by decide +kernel) (by decide +kernel), TW_of 1964 (by decide +kernel) (by decide +kernel), TW_of 112 (by decide +kernel) (by decide +kernel), by decide +kernel⟩
theorem cw_L_240 : CWd RL 240 yX10_runScript cX10_runScript 1 (some .int) 0 := ⟨TW_of 629 (by decide +kernel) (by decide +kernel), TW_of 632 (by decide +kernel) (by decide +kernel), TW_of 103 (by decide +kernel) (by decide +kernel), by decide +kernel⟩
theorem cw_L_243 : CWd RL 243 yX11_runScript cX11_runScript 2 (some .int) 0 := ⟨TW_of 1965 (by decide +kernel) (by decide +kernel), TW_of 1968 (by decide +kernel) (by decide +kernel), TW_of 112 (by decide +kernel) (by decide +kernel), by decide +kernel⟩
theorem cw_L_244 : CWd RL 244 yX10_failed cX10_failed 1 (some .int) 0 := ⟨TW_of 745 (by decide +kernel) (by decide +kernel), TW_of 748 (by decide +kernel) (by decide +kernel), TW_of 103 (by decide +kernel) (by decide +kernel), by decide +kernel⟩
theorem cw_L_247 : CWd RL 247 yX11_failed cX11_failed 1 (some .int) 0 := ⟨TW_of 2001 (by decide +kernel) (by decide +kernel), TW_of 2004 (by decide +kernel) (by decide +kernel), TW_of 112 (by decide +kernel) (by decide +kernel), by decide +kernel⟩
theorem cw_L_248 : CWd RL 248 yX10_wasStopped cX10_wasStopped 1 (some .boolean) 0 := ⟨TW_of 749 (by decide +kernel) (by decide +kernel), TW_of 752 (by decide +kernel) (by decide +kernel), TW_of 103 (by decide +kernel) (by decide +kernel), by decide +kernel⟩
theorem cw_L_252 : CWd RL 252 yX11_wasStopped cX11_wasStopped 1 (some .boolean) 0 := ⟨TW_of 2005 (by decide +kernel) (by decide +kernel), TW_of 2008 (by decide +kernel) (by decide +kernel), TW_of 112 (by decide +kernel) (by decide +kernel), by decide +kernel⟩
theorem cw_L_253 : CWd RL 253 yX10_undo cX10_undo 1 (some .int) 0 := ⟨TW_of 753 (by decide +kernel) (by decide +kernel), TW_of 756 (by decide +kernel) (by decide +kernel), TW_of 103 (by decide +kernel) (by decide +kernel), by decide +kernel⟩
theorem cw_L_256 : CWd RL 256 yX11_undo cX11_undo 2 (some .int) 0 := ⟨TW_of 1525 (by decide +kernel) (by decide +kernel), TW_of 1528 (by decide +kernel) (by decide +kernel), TW_of 112 (by decide +kernel) (by decide +kernel), by decide +kernel⟩
theorem cw_L_257 : CWd RL 257 yX10_undoDepth cX10_undoDepth 1 (some .int) 0 := ⟨TW_of 762 (by decide +kernel) (by decide +kernel), TW_of 765 (by decide +kernel) (by decide +kernel), TW_of 103 (by decide +kernel) (by decide +kernel), by decide +kernel⟩
theorem cw_L_260 : CWd RL 260 yX11_undoDepth cX11_undoDepth 1 (some .int) 0 := ⟨TW_of 1529 (by decide +kernel) (by decide +kernel), TW_of 1532 (by decide +kernel) (by decide +kernel), TW_of 112 (by decide +kernel) (by decide +kernel), by decide +kernel⟩
theorem cw_L_261 : CWd RL 261 yX10_formatTranscript cX10_formatTranscript 1 (some .int) 0 := ⟨TW_of 766 (by decide +kernel) (by decide +kernel), TW_of 769 (by decide +kernel) (by decide +kernel), TW_of 103 (by decide +kernel) (by decide +kernel), by decide +kernel⟩
theorem cw_L_264 : CWd RL 264 yX11_formatTranscript cX11_formatTranscript 2 (some .int) 0 := ⟨TW_of 2009 (by decide +kernel) (by decide +kernel), TW_of 2012 (by decide +kernel) (by decide +kernel), TW_of 112 (by decide +kernel) (by decide +kernel), by decide +kernel⟩
theorem cwL_265 : (Cond.methodLink RL 265 yL_formatShot ∈ TW ∧ Cond.initialized yL_formatShot.cls ∈ TW) ∧ (yL_formatShot.cls ≠ "java/lang/invoke/MethodHandle" ∧ yL_formatShot.cls ≠ "java/lang/invoke/VarHandle" ∧ (parseMethodDescriptor yL_formatShot.desc).map (fun d => d.parameters.length) = some 3) := ⟨⟨TW_of 1337 (by decide +kernel) (by decide +kernel), TW_of 102 (by decide +kernel) (by decide +kernel)⟩, by decide +kernel⟩
theorem cw_L_267 : CWd RL 267 yX11_formatShot cX11_formatShot 4 (some .int) 1 := ⟨TW_of 2021 (by decide +kernel) (by decide +kernel), TW_of 2024 (by decide +kernel) (by decide +kernel), TW_of 112 (by decide +kernel) (by decide +kernel), by decide +kernel⟩
theorem cw_L_268 : CWd RL 268 yX10_formattedByte cX10_formattedByte 2 (some .int) 1 := ⟨TW_of 836 (by decide +kernel) (by decide +kernel), TW_of 839 (by decide +kernel) (by decide +kernel), TW_of 103 (by decide +kernel) (by decide +kernel), by decide +kernel⟩
theorem cw_L_271 : CWd RL 271 yX11_formattedByte cX11_formattedByte 2 (some .int) 1 := ⟨TW_of 2029 (by decide +kernel) (by decide +kernel), TW_of 2032 (by decide +kernel) (by decide +kernel), TW_of 112 (by decide +kernel) (by decide +kernel), by decide +kernel⟩
set_option maxRecDepth 20000 in
set_option maxHeartbeats 1000000 in
theorem k_case0 {p : Program} {l : Launch} {e : Env} {s : State} {m : MethodId} {b : Nat} {below : List Frame} {meth : Method} {c : Code} {H : Heap} {locs : List Loc} {cells slots : Nat} {Q : State → Prop} {ls : Array Slot} {Z : ZT} {h g : Hp} {L : Nat} {xs : Nat → Int32} {i : Int32} (hm : Z.2.2.2.2 1000 = 1) (hlt : l.stackTraces = false) (C : CX p s m #[.ref b] meth c cL_law RL 7 ret Z) (hX : va_X b L xs s s.heap) (hbl : b < s.heap.size) (hbA : ¬ FR Z b) (hi : ∀ k : Int32, 0 ≤ k → k ≤ 5 → vp_in (i + k) L) (hcs : cells + 8 ≤ 601024 ∧ slots + 48 ≤ 7293034) (hW : XW Z h g s.heap H locs) (hl : lv_has ls 7 [(4, .int i), (0, .ref b), (1, .ref (Z.1 0)), (2, .ref (Z.1 125)), (3, .ref (Z.1 145))]) {out : Hp × Hp} (hf : A_0 h g (xs (ix (i + 1))) (xs (ix (i + 2))) (xs (ix (i + 3))) (xs (ix (i + 4))) (xs (ix (i + 5))) = some out) (kk : ∀ (ls : Array Slot) (H : Heap) (locs : List Loc), XW Z out.1 out.2 s.heap H locs → lv_has ls 7 [(4, .int i), (0, .ref b), (1, .ref (Z.1 0)), (2, .ref (Z.1 125)), (3, .ref (Z.1 145))] → W p l e room_1 s m #[Value.ref b] below meth c H locs (cells + 8) (slots + 48) Q (F0 m 2151 ls [])) : W p l e room_1 s m #[Value.ref b] below meth c H locs cells slots Q (F0 m 248 ls []) := by
  unfold A_0 at hf
  refine lv_aload_n C.1 C.2.1 dL_law_248 rfl (lv_at hl 2 rfl) ?_
  refine lv_aload_n C.1 C.2.1 dL_law_249 rfl (lv_at hl 1 rfl) ?_
  refine lv_iload C.1 C.2.1 dL_law_250 (lv_at hl 0 rfl) ?_
  refine lv_iconst (v := 1) C.1 C.2.1 dL_law_252 (by decide) ?_
  refine lv_iadd C.1 C.2.1 dL_law_253 ?_
  refine va_sld C.1 C.2.1 hX hbl hbA hW.2 (hi 1 (by decide) (by decide)) dL_law_254 ?_
  refine lv_aload_n C.1 C.2.1 dL_law_255 rfl (lv_at hl 1 rfl) ?_
  refine lv_iload C.1 C.2.1 dL_law_256 (lv_at hl 0 rfl) ?_
  refine lv_iconst (v := 2) C.1 C.2.1 dL_law_258 (by decide) ?_
  refine lv_iadd C.1 C.2.1 dL_law_259 ?_
  refine va_sld C.1 C.2.1 hX hbl hbA hW.2 (hi 2 (by decide) (by decide)) dL_law_260 ?_
  refine lv_aload_n C.1 C.2.1 dL_law_261 rfl (lv_at hl 1 rfl) ?_
  refine lv_iload C.1 C.2.1 dL_law_262 (lv_at hl 0 rfl) ?_
  refine lv_iconst (v := 3) C.1 C.2.1 dL_law_264 (by decide) ?_
  refine lv_iadd C.1 C.2.1 dL_law_265 ?_
  refine va_sld C.1 C.2.1 hX hbl hbA hW.2 (hi 3 (by decide) (by decide)) dL_law_266 ?_
  refine lv_aload_n C.1 C.2.1 dL_law_267 rfl (lv_at hl 1 rfl) ?_
  refine lv_iload C.1 C.2.1 dL_law_268 (lv_at hl 0 rfl) ?_
  refine lv_iconst (v := 4) C.1 C.2.1 dL_law_270 (by decide) ?_
  refine lv_iadd C.1 C.2.1 dL_law_271 ?_
  refine va_sld C.1 C.2.1 hX hbl hbA hW.2 (hi 4 (by decide) (by decide)) dL_law_272 ?_
  refine lv_aload_n C.1 C.2.1 dL_law_273 rfl (lv_at hl 1 rfl) ?_
  refine lv_iload C.1 C.2.1 dL_law_274 (lv_at hl 0 rfl) ?_
  refine lv_iconst (v := 5) C.1 C.2.1 dL_law_276 (by decide) ?_
  refine lv_iadd C.1 C.2.1 dL_law_277 ?_
  refine va_sld C.1 C.2.1 hX hbl hbA hW.2 (hi 5 (by decide) (by decide)) dL_law_278 ?_
  obtain ⟨u0, hcu0, hf⟩ := bnd_t hf
  refine x_calli hW (x_runV C hW hl (wk8 k_0) rfl rfl (c_X10_append hcu0) cw_L_91 ci_X10_append cs_X10_append ⟨rfl, rfl, by decide, by decide⟩ ⟨Nat.le_trans (by omega) hcs.1, Nat.le_trans (by omega) hcs.2⟩ (As := [.int (xs (ix (i + 1))), .int (xs (ix (i + 2))), .int (xs (ix (i + 3))), .int (xs (ix (i + 4))), .int (xs (ix (i + 5)))]) rfl rfl (Nat.le_of_ble_eq_true rfl) dL_law_279) (fun H locs hW => ?_)
  refine lv_aload_n C.1 C.2.1 dL_law_282 rfl (lv_at hl 3 rfl) ?_
  refine lv_aload_n C.1 C.2.1 dL_law_283 rfl (lv_at hl 1 rfl) ?_
  refine lv_iload C.1 C.2.1 dL_law_284 (lv_at hl 0 rfl) ?_
  refine lv_iconst (v := 1) C.1 C.2.1 dL_law_286 (by decide) ?_
  refine lv_iadd C.1 C.2.1 dL_law_287 ?_
  refine va_sld C.1 C.2.1 hX hbl hbA hW.2 (hi 1 (by decide) (by decide)) dL_law_288 ?_
  refine lv_aload_n C.1 C.2.1 dL_law_289 rfl (lv_at hl 1 rfl) ?_
  refine lv_iload C.1 C.2.1 dL_law_290 (lv_at hl 0 rfl) ?_
  refine lv_iconst (v := 2) C.1 C.2.1 dL_law_292 (by decide) ?_
  refine lv_iadd C.1 C.2.1 dL_law_293 ?_
  refine va_sld C.1 C.2.1 hX hbl hbA hW.2 (hi 2 (by decide) (by decide)) dL_law_294 ?_
  refine lv_aload_n C.1 C.2.1 dL_law_295 rfl (lv_at hl 1 rfl) ?_
  refine lv_iload C.1 C.2.1 dL_law_296 (lv_at hl 0 rfl) ?_
  refine lv_iconst (v := 3) C.1 C.2.1 dL_law_298 (by decide) ?_
  refine lv_iadd C.1 C.2.1 dL_law_299 ?_
  refine va_sld C.1 C.2.1 hX hbl hbA hW.2 (hi 3 (by decide) (by decide)) dL_law_300 ?_
  refine lv_aload_n C.1 C.2.1 dL_law_301 rfl (lv_at hl 1 rfl) ?_
  refine lv_iload C.1 C.2.1 dL_law_302 (lv_at hl 0 rfl) ?_
  refine lv_iconst (v := 4) C.1 C.2.1 dL_law_304 (by decide) ?_
  refine lv_iadd C.1 C.2.1 dL_law_305 ?_
  refine va_sld C.1 C.2.1 hX hbl hbA hW.2 (hi 4 (by decide) (by decide)) dL_law_306 ?_
  refine lv_aload_n C.1 C.2.1 dL_law_307 rfl (lv_at hl 1 rfl) ?_
  refine lv_iload C.1 C.2.1 dL_law_308 (lv_at hl 0 rfl) ?_
  refine lv_iconst (v := 5) C.1 C.2.1 dL_law_310 (by decide) ?_
  refine lv_iadd C.1 C.2.1 dL_law_311 ?_
  refine va_sld C.1 C.2.1 hX hbl hbA hW.2 (hi 5 (by decide) (by decide)) dL_law_312 ?_
  obtain ⟨u1, hcu1, hf⟩ := bnd_t hf
  refine x_calli hW (x_runV C hW hl (wk9 k_125) rfl rfl (c_X11_append hcu1) cw_L_95 ci_X11_append cs_X11_append ⟨rfl, rfl, by decide, by decide⟩ ⟨Nat.le_trans (by omega) hcs.1, Nat.le_trans (by omega) hcs.2⟩ (As := [.int (xs (ix (i + 1))), .int (xs (ix (i + 2))), .int (xs (ix (i + 3))), .int (xs (ix (i + 4))), .int (xs (ix (i + 5)))]) rfl rfl (Nat.le_of_ble_eq_true rfl) dL_law_313) (fun H locs hW => ?_)
  refine x_cmpeq (tgt := 2151) C hf dL_law_316 (by decide) (fun hf => ?_) (fun hf => by cases hf)
  obtain rfl := Option.some.inj hf
  refine W.widen (k := cells + 8) (n := slots + 48) (by omega) (by omega) ?_
  exact kk ls H locs hW (lv_sub hl [0, 1, 2, 3, 4] rfl)
set_option maxRecDepth 20000 in
set_option maxHeartbeats 1000000 in
theorem k_case1 {p : Program} {l : Launch} {e : Env} {s : State} {m : MethodId} {b : Nat} {below : List Frame} {meth : Method} {c : Code} {H : Heap} {locs : List Loc} {cells slots : Nat} {Q : State → Prop} {ls : Array Slot} {Z : ZT} {h g : Hp} {L : Nat} {xs : Nat → Int32} {i : Int32} (hm : Z.2.2.2.2 1000 = 1) (hlt : l.stackTraces = false) (C : CX p s m #[.ref b] meth c cL_law RL 7 ret Z) (hX : va_X b L xs s s.heap) (hbl : b < s.heap.size) (hbA : ¬ FR Z b) (hi : ∀ k : Int32, 0 ≤ k → k ≤ 5 → vp_in (i + k) L) (hcs : cells + 8 ≤ 601024 ∧ slots + 48 ≤ 7293034) (hW : XW Z h g s.heap H locs) (hl : lv_has ls 7 [(4, .int i), (0, .ref b), (1, .ref (Z.1 0)), (2, .ref (Z.1 125)), (3, .ref (Z.1 145))]) {out : Hp × Hp} (hf : A_1 h g (xs (ix (i + 1))) = some out) (kk : ∀ (ls : Array Slot) (H : Heap) (locs : List Loc), XW Z out.1 out.2 s.heap H locs → lv_has ls 7 [(4, .int i), (0, .ref b), (1, .ref (Z.1 0)), (2, .ref (Z.1 125)), (3, .ref (Z.1 145))] → W p l e room_1 s m #[Value.ref b] below meth c H locs (cells + 8) (slots + 48) Q (F0 m 2151 ls [])) : W p l e room_1 s m #[Value.ref b] below meth c H locs cells slots Q (F0 m 321 ls []) := by
  unfold A_1 at hf
  refine lv_aload_n C.1 C.2.1 dL_law_321 rfl (lv_at hl 2 rfl) ?_
  refine lv_aload_n C.1 C.2.1 dL_law_322 rfl (lv_at hl 1 rfl) ?_
  refine lv_iload C.1 C.2.1 dL_law_323 (lv_at hl 0 rfl) ?_
  refine lv_iconst (v := 1) C.1 C.2.1 dL_law_325 (by decide) ?_
  refine lv_iadd C.1 C.2.1 dL_law_326 ?_
  refine va_sld C.1 C.2.1 hX hbl hbA hW.2 (hi 1 (by decide) (by decide)) dL_law_327 ?_
  obtain ⟨u0, hcu0, hf⟩ := bnd_t hf
  refine x_calli hW (x_runV C hW hl (wk8 k_0) rfl rfl (c_X10_truncate hcu0) cw_L_96 ci_X10_truncate cs_X10_truncate ⟨rfl, rfl, by decide, by decide⟩ ⟨Nat.le_trans (by omega) hcs.1, Nat.le_trans (by omega) hcs.2⟩ (As := [.int (xs (ix (i + 1)))]) rfl rfl (Nat.le_of_ble_eq_true rfl) dL_law_328) (fun H locs hW => ?_)
  refine lv_aload_n C.1 C.2.1 dL_law_331 rfl (lv_at hl 3 rfl) ?_
  refine lv_aload_n C.1 C.2.1 dL_law_332 rfl (lv_at hl 1 rfl) ?_
  refine lv_iload C.1 C.2.1 dL_law_333 (lv_at hl 0 rfl) ?_
  refine lv_iconst (v := 1) C.1 C.2.1 dL_law_335 (by decide) ?_
  refine lv_iadd C.1 C.2.1 dL_law_336 ?_
  refine va_sld C.1 C.2.1 hX hbl hbA hW.2 (hi 1 (by decide) (by decide)) dL_law_337 ?_
  obtain ⟨u1, hcu1, hf⟩ := bnd_t hf
  refine x_calli hW (x_runV C hW hl (wk9 k_125) rfl rfl (c_X11_truncate hcu1) cw_L_99 ci_X11_truncate cs_X11_truncate ⟨rfl, rfl, by decide, by decide⟩ ⟨Nat.le_trans (by omega) hcs.1, Nat.le_trans (by omega) hcs.2⟩ (As := [.int (xs (ix (i + 1)))]) rfl rfl (Nat.le_of_ble_eq_true rfl) dL_law_338) (fun H locs hW => ?_)
  refine x_cmpeq (tgt := 2151) C hf dL_law_341 (by decide) (fun hf => ?_) (fun hf => by cases hf)
  obtain rfl := Option.some.inj hf
  refine W.widen (k := cells + 8) (n := slots + 48) (by omega) (by omega) ?_
  exact kk ls H locs hW (lv_sub hl [0, 1, 2, 3, 4] rfl)
set_option maxRecDepth 20000 in
set_option maxHeartbeats 1000000 in
theorem k_case2 {p : Program} {l : Launch} {e : Env} {s : State} {m : MethodId} {b : Nat} {below : List Frame} {meth : Method} {c : Code} {H : Heap} {locs : List Loc} {cells slots : Nat} {Q : State → Prop} {ls : Array Slot} {Z : ZT} {h g : Hp} {L : Nat} {xs : Nat → Int32} {i : Int32} (hm : Z.2.2.2.2 1000 = 1) (hlt : l.stackTraces = false) (C : CX p s m #[.ref b] meth c cL_law RL 7 ret Z) (hX : va_X b L xs s s.heap) (hbl : b < s.heap.size) (hbA : ¬ FR Z b) (hi : ∀ k : Int32, 0 ≤ k → k ≤ 5 → vp_in (i + k) L) (hcs : cells + 8 ≤ 601024 ∧ slots + 48 ≤ 7293034) (hW : XW Z h g s.heap H locs) (hl : lv_has ls 7 [(4, .int i), (0, .ref b), (1, .ref (Z.1 0)), (2, .ref (Z.1 125)), (3, .ref (Z.1 145))]) {out : Hp × Hp} (hf : A_2 h g = some out) (kk : ∀ (ls : Array Slot) (H : Heap) (locs : List Loc), XW Z out.1 out.2 s.heap H locs → lv_has ls 7 [(4, .int i), (0, .ref b), (1, .ref (Z.1 0)), (2, .ref (Z.1 125)), (3, .ref (Z.1 145))] → W p l e room_1 s m #[Value.ref b] below meth c H locs (cells + 8) (slots + 48) Q (F0 m 2151 ls [])) : W p l e room_1 s m #[Value.ref b] below meth c H locs cells slots Q (F0 m 346 ls []) := by
  unfold A_2 at hf
  refine lv_aload_n C.1 C.2.1 dL_law_346 rfl (lv_at hl 2 rfl) ?_
  refine lv_aload_n C.1 C.2.1 dL_law_347 rfl (lv_at hl 4 rfl) ?_
  obtain ⟨u0, hcu0, hf⟩ := bnd_t hf
  refine x_callX hW (x_runSW C hW hl (c_L_load hlt hm hcu0) cX_L_load ct_L_load cwL_100 ⟨rfl, rfl, by decide, by decide⟩ hcs (As := [.ref (Z.1 0), .ref (Z.1 145)]) rfl rfl (Nat.le_of_ble_eq_true rfl) dL_law_348) (fun H locs hW => ?_)
  refine lv_istore (lv' := [(5, .int u0.1), (4, .int i), (0, .ref b), (1, .ref (Z.1 0)), (2, .ref (Z.1 125)), (3, .ref (Z.1 145))]) C.1 C.2.1 dL_law_351 hl (by decide) rfl (fun ls hl => ?_)
  refine lv_aload_n C.1 C.2.1 dL_law_353 rfl (lv_at hl 4 rfl) ?_
  obtain ⟨u1, hcu1, hf⟩ := bnd_t hf
  refine x_calli hW (x_runV C hW hl (wk9 k_125) rfl rfl (c_X11_load hcu1) cw_L_105 ci_X11_load cs_X11_load ⟨rfl, rfl, by decide, by decide⟩ ⟨Nat.le_trans (by omega) hcs.1, Nat.le_trans (by omega) hcs.2⟩ (As := []) rfl rfl (Nat.le_of_ble_eq_true rfl) dL_law_354) (fun H locs hW => ?_)
  refine lv_istore (lv' := [(6, .int u1.1), (5, .int u0.1), (4, .int i), (0, .ref b), (1, .ref (Z.1 0)), (2, .ref (Z.1 125)), (3, .ref (Z.1 145))]) C.1 C.2.1 dL_law_357 hl (by decide) rfl (fun ls hl => ?_)
  refine lv_aload_n C.1 C.2.1 dL_law_359 rfl (lv_at hl 5 rfl) ?_
  obtain ⟨u2, hcu2, hf⟩ := bnd_t hf
  refine x_calli hW (x_runV C hW hl (wk9 k_125) rfl rfl (c_X11_thrown hcu2) cw_L_106 ci_X11_thrown cs_X11_thrown ⟨rfl, rfl, by decide, by decide⟩ ⟨Nat.le_trans (by omega) hcs.1, Nat.le_trans (by omega) hcs.2⟩ (As := []) rfl rfl (Nat.le_of_ble_eq_true rfl) dL_law_360) (fun H locs hW => ?_)
  refine lv_iload C.1 C.2.1 dL_law_363 (lv_at hl 1 rfl) ?_
  refine x_cmpeq (tgt := 370) C hf dL_law_365 (by decide) (fun hf => ?_) (fun hf => by cases hf)
  refine lv_iload C.1 C.2.1 dL_law_370 (lv_at hl 1 rfl) ?_
  refine x_ifne (tgt := 387) C hf dL_law_372 (by decide) (fun hf => ?_) (fun hf => ?_)
  · obtain rfl := Option.some.inj hf
    refine lv_goto (tgt := 2151) C.1 C.2.1 dL_law_387 (by decide) ?_
    exact kk ls H locs hW (lv_sub hl [2, 3, 4, 5, 6] rfl)
  refine lv_aload_n C.1 C.2.1 dL_law_375 rfl (lv_at hl 6 rfl) ?_
  refine lv_iconst (v := 0) C.1 C.2.1 dL_law_376 (by decide) ?_
  refine x_outld hm C hW dL_law_377 ?_
  refine lv_iload C.1 C.2.1 dL_law_378 (lv_at hl 0 rfl) ?_
  refine lv_i2l C.1 C.2.1 dL_law_380 rfl ?_
  rcases Classical.em (u1.2 145 0 = u1.1) with q | q
  case inr => have hf := (if_neg q).symm.trans hf; cases hf
  have hf := (if_pos q).symm.trans hf
  refine W.lcmp C.1 C.2.1 dL_law_381 ?_
  rw [q, lgc_eq]
  refine lv_if_eq (tgt := 387) C.1 C.2.1 dL_law_382 (by decide) (fun _ => ?_) (fun q => absurd rfl q)
  refine lv_goto (tgt := 2151) C.1 C.2.1 dL_law_387 (by decide) ?_
  obtain rfl := Option.some.inj hf
  exact kk ls H locs hW (lv_sub hl [2, 3, 4, 5, 6] rfl)
set_option maxRecDepth 20000 in
set_option maxHeartbeats 1000000 in
theorem k_case3 {p : Program} {l : Launch} {e : Env} {s : State} {m : MethodId} {b : Nat} {below : List Frame} {meth : Method} {c : Code} {H : Heap} {locs : List Loc} {cells slots : Nat} {Q : State → Prop} {ls : Array Slot} {Z : ZT} {h g : Hp} {L : Nat} {xs : Nat → Int32} {i : Int32} (hm : Z.2.2.2.2 1000 = 1) (hlt : l.stackTraces = false) (C : CX p s m #[.ref b] meth c cL_law RL 7 ret Z) (hX : va_X b L xs s s.heap) (hbl : b < s.heap.size) (hbA : ¬ FR Z b) (hi : ∀ k : Int32, 0 ≤ k → k ≤ 5 → vp_in (i + k) L) (hcs : cells + 8 ≤ 601024 ∧ slots + 48 ≤ 7293034) (hW : XW Z h g s.heap H locs) (hl : lv_has ls 7 [(4, .int i), (0, .ref b), (1, .ref (Z.1 0)), (2, .ref (Z.1 125)), (3, .ref (Z.1 145))]) {out : Hp × Hp} (hf : A_3 h g = some out) (kk : ∀ (ls : Array Slot) (H : Heap) (locs : List Loc), XW Z out.1 out.2 s.heap H locs → lv_has ls 7 [(4, .int i), (0, .ref b), (1, .ref (Z.1 0)), (2, .ref (Z.1 125)), (3, .ref (Z.1 145))] → W p l e room_1 s m #[Value.ref b] below meth c H locs (cells + 8) (slots + 48) Q (F0 m 2151 ls [])) : W p l e room_1 s m #[Value.ref b] below meth c H locs cells slots Q (F0 m 390 ls []) := by
  unfold A_3 at hf
  refine lv_aload_n C.1 C.2.1 dL_law_390 rfl (lv_at hl 2 rfl) ?_
  refine lv_aload_n C.1 C.2.1 dL_law_391 rfl (lv_at hl 4 rfl) ?_
  obtain ⟨u0, hcu0, hf⟩ := bnd_t hf
  refine x_callX hW (x_runSW C hW hl (c_L_loadScript hlt hm hcu0) cX_L_loadScript ct_L_loadScript cwL_109 ⟨rfl, rfl, by decide, by decide⟩ hcs (As := [.ref (Z.1 0), .ref (Z.1 145)]) rfl rfl (Nat.le_of_ble_eq_true rfl) dL_law_392) (fun H locs hW => ?_)
  refine lv_istore (lv' := [(5, .int u0.1), (4, .int i), (0, .ref b), (1, .ref (Z.1 0)), (2, .ref (Z.1 125)), (3, .ref (Z.1 145))]) C.1 C.2.1 dL_law_395 hl (by decide) rfl (fun ls hl => ?_)
  refine lv_aload_n C.1 C.2.1 dL_law_397 rfl (lv_at hl 4 rfl) ?_
  obtain ⟨u1, hcu1, hf⟩ := bnd_t hf
  refine x_calli hW (x_runV C hW hl (wk9 k_125) rfl rfl (c_X11_loadScript hcu1) cw_L_111 ci_X11_loadScript cs_X11_loadScript ⟨rfl, rfl, by decide, by decide⟩ ⟨Nat.le_trans (by omega) hcs.1, Nat.le_trans (by omega) hcs.2⟩ (As := []) rfl rfl (Nat.le_of_ble_eq_true rfl) dL_law_398) (fun H locs hW => ?_)
  refine lv_istore (lv' := [(6, .int u1.1), (5, .int u0.1), (4, .int i), (0, .ref b), (1, .ref (Z.1 0)), (2, .ref (Z.1 125)), (3, .ref (Z.1 145))]) C.1 C.2.1 dL_law_401 hl (by decide) rfl (fun ls hl => ?_)
  refine lv_aload_n C.1 C.2.1 dL_law_403 rfl (lv_at hl 5 rfl) ?_
  obtain ⟨u2, hcu2, hf⟩ := bnd_t hf
  refine x_calli hW (x_runV C hW hl (wk9 k_125) rfl rfl (c_X11_thrown hcu2) cw_L_106 ci_X11_thrown cs_X11_thrown ⟨rfl, rfl, by decide, by decide⟩ ⟨Nat.le_trans (by omega) hcs.1, Nat.le_trans (by omega) hcs.2⟩ (As := []) rfl rfl (Nat.le_of_ble_eq_true rfl) dL_law_404) (fun H locs hW => ?_)
  refine lv_iload C.1 C.2.1 dL_law_407 (lv_at hl 1 rfl) ?_
  refine x_cmpeq (tgt := 414) C hf dL_law_409 (by decide) (fun hf => ?_) (fun hf => by cases hf)
  refine lv_iload C.1 C.2.1 dL_law_414 (lv_at hl 1 rfl) ?_
  refine x_ifne (tgt := 431) C hf dL_law_416 (by decide) (fun hf => ?_) (fun hf => ?_)
  · obtain rfl := Option.some.inj hf
    refine lv_goto (tgt := 2151) C.1 C.2.1 dL_law_431 (by decide) ?_
    exact kk ls H locs hW (lv_sub hl [2, 3, 4, 5, 6] rfl)
  refine lv_aload_n C.1 C.2.1 dL_law_419 rfl (lv_at hl 6 rfl) ?_
  refine lv_iconst (v := 0) C.1 C.2.1 dL_law_420 (by decide) ?_
  refine x_outld hm C hW dL_law_421 ?_
  refine lv_iload C.1 C.2.1 dL_law_422 (lv_at hl 0 rfl) ?_
  refine lv_i2l C.1 C.2.1 dL_law_424 rfl ?_
  rcases Classical.em (u1.2 145 0 = u1.1) with q | q
  case inr => have hf := (if_neg q).symm.trans hf; cases hf
  have hf := (if_pos q).symm.trans hf
  refine W.lcmp C.1 C.2.1 dL_law_425 ?_
  rw [q, lgc_eq]
  refine lv_if_eq (tgt := 431) C.1 C.2.1 dL_law_426 (by decide) (fun _ => ?_) (fun q => absurd rfl q)
  refine lv_goto (tgt := 2151) C.1 C.2.1 dL_law_431 (by decide) ?_
  obtain rfl := Option.some.inj hf
  exact kk ls H locs hW (lv_sub hl [2, 3, 4, 5, 6] rfl)
set_option maxRecDepth 20000 in
set_option maxHeartbeats 1000000 in
theorem k_case4 {p : Program} {l : Launch} {e : Env} {s : State} {m : MethodId} {b : Nat} {below : List Frame} {meth : Method} {c : Code} {H : Heap} {locs : List Loc} {cells slots : Nat} {Q : State → Prop} {ls : Array Slot} {Z : ZT} {h g : Hp} {L : Nat} {xs : Nat → Int32} {i : Int32} (hm : Z.2.2.2.2 1000 = 1) (hlt : l.stackTraces = false) (C : CX p s m #[.ref b] meth c cL_law RL 7 ret Z) (hX : va_X b L xs s s.heap) (hbl : b < s.heap.size) (hbA : ¬ FR Z b) (hi : ∀ k : Int32, 0 ≤ k → k ≤ 5 → vp_in (i + k) L) (hcs : cells + 8 ≤ 601024 ∧ slots + 48 ≤ 7293034) (hW : XW Z h g s.heap H locs) (hl : lv_has ls 7 [(4, .int i), (0, .ref b), (1, .ref (Z.1 0)), (2, .ref (Z.1 125)), (3, .ref (Z.1 145))]) {out : Hp × Hp} (hf : A_4 h g = some out) (kk : ∀ (ls : Array Slot) (H : Heap) (locs : List Loc), XW Z out.1 out.2 s.heap H locs → lv_has ls 7 [(4, .int i), (0, .ref b), (1, .ref (Z.1 0)), (2, .ref (Z.1 125)), (3, .ref (Z.1 145))] → W p l e room_1 s m #[Value.ref b] below meth c H locs (cells + 8) (slots + 48) Q (F0 m 2151 ls [])) : W p l e room_1 s m #[Value.ref b] below meth c H locs cells slots Q (F0 m 434 ls []) := by
  unfold A_4 at hf
  refine lv_aload_n C.1 C.2.1 dL_law_434 rfl (lv_at hl 2 rfl) ?_
  obtain ⟨u0, hcu0, hf⟩ := bnd_t hf
  refine x_calli hW (x_runV C hW hl (wk8 k_0) rfl rfl (c_X10_errorOffset hcu0) cw_L_112 ci_X10_errorOffset cs_X10_errorOffset ⟨rfl, rfl, by decide, by decide⟩ ⟨Nat.le_trans (by omega) hcs.1, Nat.le_trans (by omega) hcs.2⟩ (As := []) rfl rfl (Nat.le_of_ble_eq_true rfl) dL_law_435) (fun H locs hW => ?_)
  refine lv_aload_n C.1 C.2.1 dL_law_438 rfl (lv_at hl 3 rfl) ?_
  obtain ⟨u1, hcu1, hf⟩ := bnd_t hf
  refine x_calli hW (x_runV C hW hl (wk9 k_125) rfl rfl (c_X11_errorOffset hcu1) cw_L_115 ci_X11_errorOffset cs_X11_errorOffset ⟨rfl, rfl, by decide, by decide⟩ ⟨Nat.le_trans (by omega) hcs.1, Nat.le_trans (by omega) hcs.2⟩ (As := []) rfl rfl (Nat.le_of_ble_eq_true rfl) dL_law_439) (fun H locs hW => ?_)
  refine x_cmpeq (tgt := 2151) C hf dL_law_442 (by decide) (fun hf => ?_) (fun hf => by cases hf)
  obtain rfl := Option.some.inj hf
  refine W.widen (k := cells + 8) (n := slots + 48) (by omega) (by omega) ?_
  exact kk ls H locs hW (lv_sub hl [0, 1, 2, 3, 4] rfl)
set_option maxRecDepth 20000 in
set_option maxHeartbeats 1000000 in
theorem k_case5 {p : Program} {l : Launch} {e : Env} {s : State} {m : MethodId} {b : Nat} {below : List Frame} {meth : Method} {c : Code} {H : Heap} {locs : List Loc} {cells slots : Nat} {Q : State → Prop} {ls : Array Slot} {Z : ZT} {h g : Hp} {L : Nat} {xs : Nat → Int32} {i : Int32} (hm : Z.2.2.2.2 1000 = 1) (hlt : l.stackTraces = false) (C : CX p s m #[.ref b] meth c cL_law RL 7 ret Z) (hX : va_X b L xs s s.heap) (hbl : b < s.heap.size) (hbA : ¬ FR Z b) (hi : ∀ k : Int32, 0 ≤ k → k ≤ 5 → vp_in (i + k) L) (hcs : cells + 8 ≤ 601024 ∧ slots + 48 ≤ 7293034) (hW : XW Z h g s.heap H locs) (hl : lv_has ls 7 [(4, .int i), (0, .ref b), (1, .ref (Z.1 0)), (2, .ref (Z.1 125)), (3, .ref (Z.1 145))]) {out : Hp × Hp} (hf : A_5 h g = some out) (kk : ∀ (ls : Array Slot) (H : Heap) (locs : List Loc), XW Z out.1 out.2 s.heap H locs → lv_has ls 7 [(4, .int i), (0, .ref b), (1, .ref (Z.1 0)), (2, .ref (Z.1 125)), (3, .ref (Z.1 145))] → W p l e room_1 s m #[Value.ref b] below meth c H locs (cells + 8) (slots + 48) Q (F0 m 2151 ls [])) : W p l e room_1 s m #[Value.ref b] below meth c H locs cells slots Q (F0 m 447 ls []) := by
  unfold A_5 at hf
  refine lv_aload_n C.1 C.2.1 dL_law_447 rfl (lv_at hl 2 rfl) ?_
  obtain ⟨u0, hcu0, hf⟩ := bnd_t hf
  refine x_calli hW (x_runV C hW hl (wk8 k_0) rfl rfl (c_X10_errorKind hcu0) cw_L_116 ci_X10_errorKind cs_X10_errorKind ⟨rfl, rfl, by decide, by decide⟩ ⟨Nat.le_trans (by omega) hcs.1, Nat.le_trans (by omega) hcs.2⟩ (As := []) rfl rfl (Nat.le_of_ble_eq_true rfl) dL_law_448) (fun H locs hW => ?_)
  refine lv_aload_n C.1 C.2.1 dL_law_451 rfl (lv_at hl 3 rfl) ?_
  obtain ⟨u1, hcu1, hf⟩ := bnd_t hf
  refine x_calli hW (x_runV C hW hl (wk9 k_125) rfl rfl (c_X11_errorKind hcu1) cw_L_119 ci_X11_errorKind cs_X11_errorKind ⟨rfl, rfl, by decide, by decide⟩ ⟨Nat.le_trans (by omega) hcs.1, Nat.le_trans (by omega) hcs.2⟩ (As := []) rfl rfl (Nat.le_of_ble_eq_true rfl) dL_law_452) (fun H locs hW => ?_)
  refine x_cmpeq (tgt := 2151) C hf dL_law_455 (by decide) (fun hf => ?_) (fun hf => by cases hf)
  obtain rfl := Option.some.inj hf
  refine W.widen (k := cells + 8) (n := slots + 48) (by omega) (by omega) ?_
  exact kk ls H locs hW (lv_sub hl [0, 1, 2, 3, 4] rfl)
set_option maxRecDepth 20000 in
set_option maxHeartbeats 1000000 in
theorem k_case6 {p : Program} {l : Launch} {e : Env} {s : State} {m : MethodId} {b : Nat} {below : List Frame} {meth : Method} {c : Code} {H : Heap} {locs : List Loc} {cells slots : Nat} {Q : State → Prop} {ls : Array Slot} {Z : ZT} {h g : Hp} {L : Nat} {xs : Nat → Int32} {i : Int32} (hm : Z.2.2.2.2 1000 = 1) (hlt : l.stackTraces = false) (C : CX p s m #[.ref b] meth c cL_law RL 7 ret Z) (hX : va_X b L xs s s.heap) (hbl : b < s.heap.size) (hbA : ¬ FR Z b) (hi : ∀ k : Int32, 0 ≤ k → k ≤ 5 → vp_in (i + k) L) (hcs : cells + 8 ≤ 601024 ∧ slots + 48 ≤ 7293034) (hW : XW Z h g s.heap H locs) (hl : lv_has ls 7 [(4, .int i), (0, .ref b), (1, .ref (Z.1 0)), (2, .ref (Z.1 125)), (3, .ref (Z.1 145))]) {out : Hp × Hp} (hf : A_6 h g (xs (ix (i + 1))) = some out) (kk : ∀ (ls : Array Slot) (H : Heap) (locs : List Loc), XW Z out.1 out.2 s.heap H locs → lv_has ls 7 [(4, .int i), (0, .ref b), (1, .ref (Z.1 0)), (2, .ref (Z.1 125)), (3, .ref (Z.1 145))] → W p l e room_1 s m #[Value.ref b] below meth c H locs (cells + 8) (slots + 48) Q (F0 m 2151 ls [])) : W p l e room_1 s m #[Value.ref b] below meth c H locs cells slots Q (F0 m 460 ls []) := by
  unfold A_6 at hf
  refine lv_aload_n C.1 C.2.1 dL_law_460 rfl (lv_at hl 2 rfl) ?_
  refine lv_aload_n C.1 C.2.1 dL_law_461 rfl (lv_at hl 1 rfl) ?_
  refine lv_iload C.1 C.2.1 dL_law_462 (lv_at hl 0 rfl) ?_
  refine lv_iconst (v := 1) C.1 C.2.1 dL_law_464 (by decide) ?_
  refine lv_iadd C.1 C.2.1 dL_law_465 ?_
  refine va_sld C.1 C.2.1 hX hbl hbA hW.2 (hi 1 (by decide) (by decide)) dL_law_466 ?_
  obtain ⟨u0, hcu0, hf⟩ := bnd_t hf
  refine x_calli hW (x_runV C hW hl (wk8 k_0) rfl rfl (c_X10_count hcu0) cw_L_120 ci_X10_count cs_X10_count ⟨rfl, rfl, by decide, by decide⟩ ⟨Nat.le_trans (by omega) hcs.1, Nat.le_trans (by omega) hcs.2⟩ (As := [.int (xs (ix (i + 1)))]) rfl rfl (Nat.le_of_ble_eq_true rfl) dL_law_467) (fun H locs hW => ?_)
  refine lv_aload_n C.1 C.2.1 dL_law_470 rfl (lv_at hl 3 rfl) ?_
  refine lv_aload_n C.1 C.2.1 dL_law_471 rfl (lv_at hl 1 rfl) ?_
  refine lv_iload C.1 C.2.1 dL_law_472 (lv_at hl 0 rfl) ?_
  refine lv_iconst (v := 1) C.1 C.2.1 dL_law_474 (by decide) ?_
  refine lv_iadd C.1 C.2.1 dL_law_475 ?_
  refine va_sld C.1 C.2.1 hX hbl hbA hW.2 (hi 1 (by decide) (by decide)) dL_law_476 ?_
  obtain ⟨u1, hcu1, hf⟩ := bnd_t hf
  refine x_calli hW (x_runV C hW hl (wk9 k_125) rfl rfl (c_X11_count hcu1) cw_L_123 ci_X11_count cs_X11_count ⟨rfl, rfl, by decide, by decide⟩ ⟨Nat.le_trans (by omega) hcs.1, Nat.le_trans (by omega) hcs.2⟩ (As := [.int (xs (ix (i + 1)))]) rfl rfl (Nat.le_of_ble_eq_true rfl) dL_law_477) (fun H locs hW => ?_)
  refine x_cmpeq (tgt := 2151) C hf dL_law_480 (by decide) (fun hf => ?_) (fun hf => by cases hf)
  obtain rfl := Option.some.inj hf
  refine W.widen (k := cells + 8) (n := slots + 48) (by omega) (by omega) ?_
  exact kk ls H locs hW (lv_sub hl [0, 1, 2, 3, 4] rfl)
set_option maxRecDepth 20000 in
set_option maxHeartbeats 1000000 in
theorem k_case7 {p : Program} {l : Launch} {e : Env} {s : State} {m : MethodId} {b : Nat} {below : List Frame} {meth : Method} {c : Code} {H : Heap} {locs : List Loc} {cells slots : Nat} {Q : State → Prop} {ls : Array Slot} {Z : ZT} {h g : Hp} {L : Nat} {xs : Nat → Int32} {i : Int32} (hm : Z.2.2.2.2 1000 = 1) (hlt : l.stackTraces = false) (C : CX p s m #[.ref b] meth c cL_law RL 7 ret Z) (hX : va_X b L xs s s.heap) (hbl : b < s.heap.size) (hbA : ¬ FR Z b) (hi : ∀ k : Int32, 0 ≤ k → k ≤ 5 → vp_in (i + k) L) (hcs : cells + 8 ≤ 601024 ∧ slots + 48 ≤ 7293034) (hW : XW Z h g s.heap H locs) (hl : lv_has ls 7 [(4, .int i), (0, .ref b), (1, .ref (Z.1 0)), (2, .ref (Z.1 125)), (3, .ref (Z.1 145))]) {out : Hp × Hp} (hf : A_7 h g (xs (ix (i + 1))) (xs (ix (i + 2))) = some out) (kk : ∀ (ls : Array Slot) (H : Heap) (locs : List Loc), XW Z out.1 out.2 s.heap H locs → lv_has ls 7 [(4, .int i), (0, .ref b), (1, .ref (Z.1 0)), (2, .ref (Z.1 125)), (3, .ref (Z.1 145))] → W p l e room_1 s m #[Value.ref b] below meth c H locs (cells + 8) (slots + 48) Q (F0 m 2151 ls [])) : W p l e room_1 s m #[Value.ref b] below meth c H locs cells slots Q (F0 m 485 ls []) := by
  unfold A_7 at hf
  refine lv_aload_n C.1 C.2.1 dL_law_485 rfl (lv_at hl 2 rfl) ?_
  refine lv_aload_n C.1 C.2.1 dL_law_486 rfl (lv_at hl 1 rfl) ?_
  refine lv_iload C.1 C.2.1 dL_law_487 (lv_at hl 0 rfl) ?_
  refine lv_iconst (v := 1) C.1 C.2.1 dL_law_489 (by decide) ?_
  refine lv_iadd C.1 C.2.1 dL_law_490 ?_
  refine va_sld C.1 C.2.1 hX hbl hbA hW.2 (hi 1 (by decide) (by decide)) dL_law_491 ?_
  refine lv_aload_n C.1 C.2.1 dL_law_492 rfl (lv_at hl 1 rfl) ?_
  refine lv_iload C.1 C.2.1 dL_law_493 (lv_at hl 0 rfl) ?_
  refine lv_iconst (v := 2) C.1 C.2.1 dL_law_495 (by decide) ?_
  refine lv_iadd C.1 C.2.1 dL_law_496 ?_
  refine va_sld C.1 C.2.1 hX hbl hbA hW.2 (hi 2 (by decide) (by decide)) dL_law_497 ?_
  refine lv_aload_n C.1 C.2.1 dL_law_498 rfl (lv_at hl 4 rfl) ?_
  obtain ⟨u0, hcu0, hf⟩ := bnd_t hf
  refine x_callX hW (x_runSW C hW hl (c_L_wordField hlt hm hcu0) cX_L_wordField ct_L_wordField cwL_124 ⟨rfl, rfl, by decide, by decide⟩ hcs (As := [.ref (Z.1 0), .int (xs (ix (i + 1))), .int (xs (ix (i + 2))), .ref (Z.1 145)]) rfl rfl (Nat.le_of_ble_eq_true rfl) dL_law_499) (fun H locs hW => ?_)
  refine lv_istore (lv' := [(5, .int u0.1), (4, .int i), (0, .ref b), (1, .ref (Z.1 0)), (2, .ref (Z.1 125)), (3, .ref (Z.1 145))]) C.1 C.2.1 dL_law_502 hl (by decide) rfl (fun ls hl => ?_)
  refine lv_aload_n C.1 C.2.1 dL_law_504 rfl (lv_at hl 4 rfl) ?_
  refine lv_aload_n C.1 C.2.1 dL_law_505 rfl (lv_at hl 2 rfl) ?_
  refine lv_iload C.1 C.2.1 dL_law_506 (lv_at hl 1 rfl) ?_
  refine lv_iconst (v := 1) C.1 C.2.1 dL_law_508 (by decide) ?_
  refine lv_iadd C.1 C.2.1 dL_law_509 ?_
  refine va_sld C.1 C.2.1 hX hbl hbA hW.2 (hi 1 (by decide) (by decide)) dL_law_510 ?_
  refine lv_aload_n C.1 C.2.1 dL_law_511 rfl (lv_at hl 2 rfl) ?_
  refine lv_iload C.1 C.2.1 dL_law_512 (lv_at hl 1 rfl) ?_
  refine lv_iconst (v := 2) C.1 C.2.1 dL_law_514 (by decide) ?_
  refine lv_iadd C.1 C.2.1 dL_law_515 ?_
  refine va_sld C.1 C.2.1 hX hbl hbA hW.2 (hi 2 (by decide) (by decide)) dL_law_516 ?_
  obtain ⟨u1, hcu1, hf⟩ := bnd_t hf
  refine x_calli hW (x_runV C hW hl (wk9 k_125) rfl rfl (c_X11_wordField hcu1) cw_L_127 ci_X11_wordField cs_X11_wordField ⟨rfl, rfl, by decide, by decide⟩ ⟨Nat.le_trans (by omega) hcs.1, Nat.le_trans (by omega) hcs.2⟩ (As := [.int (xs (ix (i + 1))), .int (xs (ix (i + 2)))]) rfl rfl (Nat.le_of_ble_eq_true rfl) dL_law_517) (fun H locs hW => ?_)
  refine lv_istore (lv' := [(6, .int u1.1), (5, .int u0.1), (4, .int i), (0, .ref b), (1, .ref (Z.1 0)), (2, .ref (Z.1 125)), (3, .ref (Z.1 145))]) C.1 C.2.1 dL_law_520 hl (by decide) rfl (fun ls hl => ?_)
  refine lv_aload_n C.1 C.2.1 dL_law_522 rfl (lv_at hl 5 rfl) ?_
  obtain ⟨u2, hcu2, hf⟩ := bnd_t hf
  refine x_calli hW (x_runV C hW hl (wk9 k_125) rfl rfl (c_X11_thrown hcu2) cw_L_106 ci_X11_thrown cs_X11_thrown ⟨rfl, rfl, by decide, by decide⟩ ⟨Nat.le_trans (by omega) hcs.1, Nat.le_trans (by omega) hcs.2⟩ (As := []) rfl rfl (Nat.le_of_ble_eq_true rfl) dL_law_523) (fun H locs hW => ?_)
  refine lv_iload C.1 C.2.1 dL_law_526 (lv_at hl 1 rfl) ?_
  refine x_cmpeq (tgt := 533) C hf dL_law_528 (by decide) (fun hf => ?_) (fun hf => by cases hf)
  refine lv_iload C.1 C.2.1 dL_law_533 (lv_at hl 1 rfl) ?_
  refine x_ifne (tgt := 550) C hf dL_law_535 (by decide) (fun hf => ?_) (fun hf => ?_)
  · obtain rfl := Option.some.inj hf
    refine lv_goto (tgt := 2151) C.1 C.2.1 dL_law_550 (by decide) ?_
    exact kk ls H locs hW (lv_sub hl [2, 3, 4, 5, 6] rfl)
  refine lv_aload_n C.1 C.2.1 dL_law_538 rfl (lv_at hl 6 rfl) ?_
  refine lv_iconst (v := 0) C.1 C.2.1 dL_law_539 (by decide) ?_
  refine x_outld hm C hW dL_law_540 ?_
  refine lv_iload C.1 C.2.1 dL_law_541 (lv_at hl 0 rfl) ?_
  refine lv_i2l C.1 C.2.1 dL_law_543 rfl ?_
  rcases Classical.em (u1.2 145 0 = u1.1) with q | q
  case inr => have hf := (if_neg q).symm.trans hf; cases hf
  have hf := (if_pos q).symm.trans hf
  refine W.lcmp C.1 C.2.1 dL_law_544 ?_
  rw [q, lgc_eq]
  refine lv_if_eq (tgt := 550) C.1 C.2.1 dL_law_545 (by decide) (fun _ => ?_) (fun q => absurd rfl q)
  refine lv_goto (tgt := 2151) C.1 C.2.1 dL_law_550 (by decide) ?_
  obtain rfl := Option.some.inj hf
  exact kk ls H locs hW (lv_sub hl [2, 3, 4, 5, 6] rfl)
set_option maxRecDepth 20000 in
set_option maxHeartbeats 1000000 in
theorem k_case8 {p : Program} {l : Launch} {e : Env} {s : State} {m : MethodId} {b : Nat} {below : List Frame} {meth : Method} {c : Code} {H : Heap} {locs : List Loc} {cells slots : Nat} {Q : State → Prop} {ls : Array Slot} {Z : ZT} {h g : Hp} {L : Nat} {xs : Nat → Int32} {i : Int32} (hm : Z.2.2.2.2 1000 = 1) (hlt : l.stackTraces = false) (C : CX p s m #[.ref b] meth c cL_law RL 7 ret Z) (hX : va_X b L xs s s.heap) (hbl : b < s.heap.size) (hbA : ¬ FR Z b) (hi : ∀ k : Int32, 0 ≤ k → k ≤ 5 → vp_in (i + k) L) (hcs : cells + 8 ≤ 601024 ∧ slots + 48 ≤ 7293034) (hW : XW Z h g s.heap H locs) (hl : lv_has ls 7 [(4, .int i), (0, .ref b), (1, .ref (Z.1 0)), (2, .ref (Z.1 125)), (3, .ref (Z.1 145))]) {out : Hp × Hp} (hf : A_8 h g (xs (ix (i + 1))) (xs (ix (i + 2))) = some out) (kk : ∀ (ls : Array Slot) (H : Heap) (locs : List Loc), XW Z out.1 out.2 s.heap H locs → lv_has ls 7 [(4, .int i), (0, .ref b), (1, .ref (Z.1 0)), (2, .ref (Z.1 125)), (3, .ref (Z.1 145))] → W p l e room_1 s m #[Value.ref b] below meth c H locs (cells + 8) (slots + 48) Q (F0 m 2151 ls [])) : W p l e room_1 s m #[Value.ref b] below meth c H locs cells slots Q (F0 m 553 ls []) := by
  unfold A_8 at hf
  refine lv_aload_n C.1 C.2.1 dL_law_553 rfl (lv_at hl 2 rfl) ?_
  refine lv_aload_n C.1 C.2.1 dL_law_554 rfl (lv_at hl 1 rfl) ?_
  refine lv_iload C.1 C.2.1 dL_law_555 (lv_at hl 0 rfl) ?_
  refine lv_iconst (v := 1) C.1 C.2.1 dL_law_557 (by decide) ?_
  refine lv_iadd C.1 C.2.1 dL_law_558 ?_
  refine va_sld C.1 C.2.1 hX hbl hbA hW.2 (hi 1 (by decide) (by decide)) dL_law_559 ?_
  refine lv_aload_n C.1 C.2.1 dL_law_560 rfl (lv_at hl 1 rfl) ?_
  refine lv_iload C.1 C.2.1 dL_law_561 (lv_at hl 0 rfl) ?_
  refine lv_iconst (v := 2) C.1 C.2.1 dL_law_563 (by decide) ?_
  refine lv_iadd C.1 C.2.1 dL_law_564 ?_
  refine va_sld C.1 C.2.1 hX hbl hbA hW.2 (hi 2 (by decide) (by decide)) dL_law_565 ?_
  refine lv_aload_n C.1 C.2.1 dL_law_566 rfl (lv_at hl 4 rfl) ?_
  obtain ⟨u0, hcu0, hf⟩ := bnd_t hf
  refine x_callX hW (x_runSW C hW hl (c_L_isSameText hlt hm hcu0) cX_L_isSameText ct_L_isSameText cwL_128 ⟨rfl, rfl, by decide, by decide⟩ hcs (As := [.ref (Z.1 0), .int (xs (ix (i + 1))), .int (xs (ix (i + 2))), .ref (Z.1 145)]) rfl rfl (Nat.le_of_ble_eq_true rfl) dL_law_567) (fun H locs hW => ?_)
  refine lv_istore (lv' := [(5, .int u0.1), (4, .int i), (0, .ref b), (1, .ref (Z.1 0)), (2, .ref (Z.1 125)), (3, .ref (Z.1 145))]) C.1 C.2.1 dL_law_570 hl (by decide) rfl (fun ls hl => ?_)
  refine lv_aload_n C.1 C.2.1 dL_law_572 rfl (lv_at hl 4 rfl) ?_
  refine lv_aload_n C.1 C.2.1 dL_law_573 rfl (lv_at hl 2 rfl) ?_
  refine lv_iload C.1 C.2.1 dL_law_574 (lv_at hl 1 rfl) ?_
  refine lv_iconst (v := 1) C.1 C.2.1 dL_law_576 (by decide) ?_
  refine lv_iadd C.1 C.2.1 dL_law_577 ?_
  refine va_sld C.1 C.2.1 hX hbl hbA hW.2 (hi 1 (by decide) (by decide)) dL_law_578 ?_
  refine lv_aload_n C.1 C.2.1 dL_law_579 rfl (lv_at hl 2 rfl) ?_
  refine lv_iload C.1 C.2.1 dL_law_580 (lv_at hl 1 rfl) ?_
  refine lv_iconst (v := 2) C.1 C.2.1 dL_law_582 (by decide) ?_
  refine lv_iadd C.1 C.2.1 dL_law_583 ?_
  refine va_sld C.1 C.2.1 hX hbl hbA hW.2 (hi 2 (by decide) (by decide)) dL_law_584 ?_
  obtain ⟨u1, hcu1, hf⟩ := bnd_t hf
  refine x_calli hW (x_runV C hW hl (wk9 k_125) rfl rfl (c_X11_isSameText hcu1) cw_L_130 ci_X11_isSameText cs_X11_isSameText ⟨rfl, rfl, by decide, by decide⟩ ⟨Nat.le_trans (by omega) hcs.1, Nat.le_trans (by omega) hcs.2⟩ (As := [.int (xs (ix (i + 1))), .int (xs (ix (i + 2)))]) rfl rfl (Nat.le_of_ble_eq_true rfl) dL_law_585) (fun H locs hW => ?_)
  refine lv_istore (lv' := [(6, .int u1.1), (5, .int u0.1), (4, .int i), (0, .ref b), (1, .ref (Z.1 0)), (2, .ref (Z.1 125)), (3, .ref (Z.1 145))]) C.1 C.2.1 dL_law_588 hl (by decide) rfl (fun ls hl => ?_)
  refine lv_aload_n C.1 C.2.1 dL_law_590 rfl (lv_at hl 5 rfl) ?_
  obtain ⟨u2, hcu2, hf⟩ := bnd_t hf
  refine x_calli hW (x_runV C hW hl (wk9 k_125) rfl rfl (c_X11_thrown hcu2) cw_L_106 ci_X11_thrown cs_X11_thrown ⟨rfl, rfl, by decide, by decide⟩ ⟨Nat.le_trans (by omega) hcs.1, Nat.le_trans (by omega) hcs.2⟩ (As := []) rfl rfl (Nat.le_of_ble_eq_true rfl) dL_law_591) (fun H locs hW => ?_)
  refine lv_iload C.1 C.2.1 dL_law_594 (lv_at hl 1 rfl) ?_
  refine x_cmpeq (tgt := 601) C hf dL_law_596 (by decide) (fun hf => ?_) (fun hf => by cases hf)
  refine lv_iload C.1 C.2.1 dL_law_601 (lv_at hl 1 rfl) ?_
  refine x_ifne (tgt := 625) C hf dL_law_603 (by decide) (fun hf => ?_) (fun hf => ?_)
  · obtain rfl := Option.some.inj hf
    refine lv_goto (tgt := 2151) C.1 C.2.1 dL_law_625 (by decide) ?_
    exact kk ls H locs hW (lv_sub hl [2, 3, 4, 5, 6] rfl)
  refine lv_aload_n C.1 C.2.1 dL_law_606 rfl (lv_at hl 6 rfl) ?_
  refine lv_iconst (v := 0) C.1 C.2.1 dL_law_607 (by decide) ?_
  refine x_outld hm C hW dL_law_608 ?_
  refine lv_iload C.1 C.2.1 dL_law_609 (lv_at hl 0 rfl) ?_
  refine x_ifeq (tgt := 618) C hf dL_law_611 (by decide) (fun hf => ?_) (fun hf => ?_)
  · refine lv_lconst (v := 0) C.1 C.2.1 dL_law_618 rfl ?_
    refine W.lcmp C.1 C.2.1 dL_law_619 ?_
    rcases Classical.em (u1.2 145 0 = 0) with q | q
    · have hf := (if_pos q).symm.trans hf
      obtain rfl := Option.some.inj hf
      refine lv_if_eq (tgt := 625) C.1 C.2.1 dL_law_620 (by decide) (fun _ => ?_) (fun z => absurd (by rw [q]; exact lgc_eq) z)
      refine lv_goto (tgt := 2151) C.1 C.2.1 dL_law_625 (by decide) ?_
      exact kk ls H locs hW (lv_sub hl [2, 3, 4, 5, 6] rfl)
    · have hf := (if_neg q).symm.trans hf
      cases hf
  · refine lv_lconst (v := 1) C.1 C.2.1 dL_law_614 rfl ?_
    refine lv_goto (tgt := 619) C.1 C.2.1 dL_law_615 (by decide) ?_
    refine W.lcmp C.1 C.2.1 dL_law_619 ?_
    rcases Classical.em (u1.2 145 0 = 1) with q | q
    · have hf := (if_pos q).symm.trans hf
      obtain rfl := Option.some.inj hf
      refine lv_if_eq (tgt := 625) C.1 C.2.1 dL_law_620 (by decide) (fun _ => ?_) (fun z => absurd (by rw [q]; exact lgc_eq) z)
      refine lv_goto (tgt := 2151) C.1 C.2.1 dL_law_625 (by decide) ?_
      exact kk ls H locs hW (lv_sub hl [2, 3, 4, 5, 6] rfl)
    · have hf := (if_neg q).symm.trans hf
      cases hf
set_option maxRecDepth 20000 in
set_option maxHeartbeats 1000000 in
theorem k_case9 {p : Program} {l : Launch} {e : Env} {s : State} {m : MethodId} {b : Nat} {below : List Frame} {meth : Method} {c : Code} {H : Heap} {locs : List Loc} {cells slots : Nat} {Q : State → Prop} {ls : Array Slot} {Z : ZT} {h g : Hp} {L : Nat} {xs : Nat → Int32} {i : Int32} (hm : Z.2.2.2.2 1000 = 1) (hlt : l.stackTraces = false) (C : CX p s m #[.ref b] meth c cL_law RL 7 ret Z) (hX : va_X b L xs s s.heap) (hbl : b < s.heap.size) (hbA : ¬ FR Z b) (hi : ∀ k : Int32, 0 ≤ k → k ≤ 5 → vp_in (i + k) L) (hcs : cells + 8 ≤ 601024 ∧ slots + 48 ≤ 7293034) (hW : XW Z h g s.heap H locs) (hl : lv_has ls 7 [(4, .int i), (0, .ref b), (1, .ref (Z.1 0)), (2, .ref (Z.1 125)), (3, .ref (Z.1 145))]) {out : Hp × Hp} (hf : A_9 h g (xs (ix (i + 1))) (xs (ix (i + 2))) = some out) (kk : ∀ (ls : Array Slot) (H : Heap) (locs : List Loc), XW Z out.1 out.2 s.heap H locs → lv_has ls 7 [(4, .int i), (0, .ref b), (1, .ref (Z.1 0)), (2, .ref (Z.1 125)), (3, .ref (Z.1 145))] → W p l e room_1 s m #[Value.ref b] below meth c H locs (cells + 8) (slots + 48) Q (F0 m 2151 ls [])) : W p l e room_1 s m #[Value.ref b] below meth c H locs cells slots Q (F0 m 628 ls []) := by
  unfold A_9 at hf
  refine lv_aload_n C.1 C.2.1 dL_law_628 rfl (lv_at hl 2 rfl) ?_
  refine lv_aload_n C.1 C.2.1 dL_law_629 rfl (lv_at hl 1 rfl) ?_
  refine lv_iload C.1 C.2.1 dL_law_630 (lv_at hl 0 rfl) ?_
  refine lv_iconst (v := 1) C.1 C.2.1 dL_law_632 (by decide) ?_
  refine lv_iadd C.1 C.2.1 dL_law_633 ?_
  refine va_sld C.1 C.2.1 hX hbl hbA hW.2 (hi 1 (by decide) (by decide)) dL_law_634 ?_
  refine lv_aload_n C.1 C.2.1 dL_law_635 rfl (lv_at hl 1 rfl) ?_
  refine lv_iload C.1 C.2.1 dL_law_636 (lv_at hl 0 rfl) ?_
  refine lv_iconst (v := 2) C.1 C.2.1 dL_law_638 (by decide) ?_
  refine lv_iadd C.1 C.2.1 dL_law_639 ?_
  refine va_sld C.1 C.2.1 hX hbl hbA hW.2 (hi 2 (by decide) (by decide)) dL_law_640 ?_
  refine lv_aload_n C.1 C.2.1 dL_law_641 rfl (lv_at hl 4 rfl) ?_
  obtain ⟨u0, hcu0, hf⟩ := bnd_t hf
  refine x_callX hW (x_runSW C hW hl (c_L_overlap hlt hm hcu0) cX_L_overlap ct_L_overlap cwL_131 ⟨rfl, rfl, by decide, by decide⟩ hcs (As := [.ref (Z.1 0), .int (xs (ix (i + 1))), .int (xs (ix (i + 2))), .ref (Z.1 145)]) rfl rfl (Nat.le_of_ble_eq_true rfl) dL_law_642) (fun H locs hW => ?_)
  refine lv_istore (lv' := [(5, .int u0.1), (4, .int i), (0, .ref b), (1, .ref (Z.1 0)), (2, .ref (Z.1 125)), (3, .ref (Z.1 145))]) C.1 C.2.1 dL_law_645 hl (by decide) rfl (fun ls hl => ?_)
  refine lv_aload_n C.1 C.2.1 dL_law_647 rfl (lv_at hl 4 rfl) ?_
  refine lv_aload_n C.1 C.2.1 dL_law_648 rfl (lv_at hl 2 rfl) ?_
  refine lv_iload C.1 C.2.1 dL_law_649 (lv_at hl 1 rfl) ?_
  refine lv_iconst (v := 1) C.1 C.2.1 dL_law_651 (by decide) ?_
  refine lv_iadd C.1 C.2.1 dL_law_652 ?_
  refine va_sld C.1 C.2.1 hX hbl hbA hW.2 (hi 1 (by decide) (by decide)) dL_law_653 ?_
  refine lv_aload_n C.1 C.2.1 dL_law_654 rfl (lv_at hl 2 rfl) ?_
  refine lv_iload C.1 C.2.1 dL_law_655 (lv_at hl 1 rfl) ?_
  refine lv_iconst (v := 2) C.1 C.2.1 dL_law_657 (by decide) ?_
  refine lv_iadd C.1 C.2.1 dL_law_658 ?_
  refine va_sld C.1 C.2.1 hX hbl hbA hW.2 (hi 2 (by decide) (by decide)) dL_law_659 ?_
  obtain ⟨u1, hcu1, hf⟩ := bnd_t hf
  refine x_calli hW (x_runV C hW hl (wk9 k_125) rfl rfl (c_X11_overlap hcu1) cw_L_133 ci_X11_overlap cs_X11_overlap ⟨rfl, rfl, by decide, by decide⟩ ⟨Nat.le_trans (by omega) hcs.1, Nat.le_trans (by omega) hcs.2⟩ (As := [.int (xs (ix (i + 1))), .int (xs (ix (i + 2)))]) rfl rfl (Nat.le_of_ble_eq_true rfl) dL_law_660) (fun H locs hW => ?_)
  refine lv_istore (lv' := [(6, .int u1.1), (5, .int u0.1), (4, .int i), (0, .ref b), (1, .ref (Z.1 0)), (2, .ref (Z.1 125)), (3, .ref (Z.1 145))]) C.1 C.2.1 dL_law_663 hl (by decide) rfl (fun ls hl => ?_)
  refine lv_aload_n C.1 C.2.1 dL_law_665 rfl (lv_at hl 5 rfl) ?_
  obtain ⟨u2, hcu2, hf⟩ := bnd_t hf
  refine x_calli hW (x_runV C hW hl (wk9 k_125) rfl rfl (c_X11_thrown hcu2) cw_L_106 ci_X11_thrown cs_X11_thrown ⟨rfl, rfl, by decide, by decide⟩ ⟨Nat.le_trans (by omega) hcs.1, Nat.le_trans (by omega) hcs.2⟩ (As := []) rfl rfl (Nat.le_of_ble_eq_true rfl) dL_law_666) (fun H locs hW => ?_)
  refine lv_iload C.1 C.2.1 dL_law_669 (lv_at hl 1 rfl) ?_
  refine x_cmpeq (tgt := 676) C hf dL_law_671 (by decide) (fun hf => ?_) (fun hf => by cases hf)
  refine lv_iload C.1 C.2.1 dL_law_676 (lv_at hl 1 rfl) ?_
  refine x_ifne (tgt := 700) C hf dL_law_678 (by decide) (fun hf => ?_) (fun hf => ?_)
  · obtain rfl := Option.some.inj hf
    refine lv_goto (tgt := 2151) C.1 C.2.1 dL_law_700 (by decide) ?_
    exact kk ls H locs hW (lv_sub hl [2, 3, 4, 5, 6] rfl)
  refine lv_aload_n C.1 C.2.1 dL_law_681 rfl (lv_at hl 6 rfl) ?_
  refine lv_iconst (v := 0) C.1 C.2.1 dL_law_682 (by decide) ?_
  refine x_outld hm C hW dL_law_683 ?_
  refine lv_iload C.1 C.2.1 dL_law_684 (lv_at hl 0 rfl) ?_
  refine x_ifeq (tgt := 693) C hf dL_law_686 (by decide) (fun hf => ?_) (fun hf => ?_)
  · refine lv_lconst (v := 0) C.1 C.2.1 dL_law_693 rfl ?_
    refine W.lcmp C.1 C.2.1 dL_law_694 ?_
    rcases Classical.em (u1.2 145 0 = 0) with q | q
    · have hf := (if_pos q).symm.trans hf
      obtain rfl := Option.some.inj hf
      refine lv_if_eq (tgt := 700) C.1 C.2.1 dL_law_695 (by decide) (fun _ => ?_) (fun z => absurd (by rw [q]; exact lgc_eq) z)
      refine lv_goto (tgt := 2151) C.1 C.2.1 dL_law_700 (by decide) ?_
      exact kk ls H locs hW (lv_sub hl [2, 3, 4, 5, 6] rfl)
    · have hf := (if_neg q).symm.trans hf
      cases hf
  · refine lv_lconst (v := 1) C.1 C.2.1 dL_law_689 rfl ?_
    refine lv_goto (tgt := 694) C.1 C.2.1 dL_law_690 (by decide) ?_
    refine W.lcmp C.1 C.2.1 dL_law_694 ?_
    rcases Classical.em (u1.2 145 0 = 1) with q | q
    · have hf := (if_pos q).symm.trans hf
      obtain rfl := Option.some.inj hf
      refine lv_if_eq (tgt := 700) C.1 C.2.1 dL_law_695 (by decide) (fun _ => ?_) (fun z => absurd (by rw [q]; exact lgc_eq) z)
      refine lv_goto (tgt := 2151) C.1 C.2.1 dL_law_700 (by decide) ?_
      exact kk ls H locs hW (lv_sub hl [2, 3, 4, 5, 6] rfl)
    · have hf := (if_neg q).symm.trans hf
      cases hf
set_option maxRecDepth 20000 in
set_option maxHeartbeats 1000000 in
theorem k_case10 {p : Program} {l : Launch} {e : Env} {s : State} {m : MethodId} {b : Nat} {below : List Frame} {meth : Method} {c : Code} {H : Heap} {locs : List Loc} {cells slots : Nat} {Q : State → Prop} {ls : Array Slot} {Z : ZT} {h g : Hp} {L : Nat} {xs : Nat → Int32} {i : Int32} (hm : Z.2.2.2.2 1000 = 1) (hlt : l.stackTraces = false) (C : CX p s m #[.ref b] meth c cL_law RL 7 ret Z) (hX : va_X b L xs s s.heap) (hbl : b < s.heap.size) (hbA : ¬ FR Z b) (hi : ∀ k : Int32, 0 ≤ k → k ≤ 5 → vp_in (i + k) L) (hcs : cells + 8 ≤ 601024 ∧ slots + 48 ≤ 7293034) (hW : XW Z h g s.heap H locs) (hl : lv_has ls 7 [(4, .int i), (0, .ref b), (1, .ref (Z.1 0)), (2, .ref (Z.1 125)), (3, .ref (Z.1 145))]) {out : Hp × Hp} (hf : A_10 h g = some out) (kk : ∀ (ls : Array Slot) (H : Heap) (locs : List Loc), XW Z out.1 out.2 s.heap H locs → lv_has ls 7 [(4, .int i), (0, .ref b), (1, .ref (Z.1 0)), (2, .ref (Z.1 125)), (3, .ref (Z.1 145))] → W p l e room_1 s m #[Value.ref b] below meth c H locs (cells + 8) (slots + 48) Q (F0 m 2151 ls [])) : W p l e room_1 s m #[Value.ref b] below meth c H locs cells slots Q (F0 m 703 ls []) := by
  unfold A_10 at hf
  refine lv_aload_n C.1 C.2.1 dL_law_703 rfl (lv_at hl 2 rfl) ?_
  obtain ⟨u0, hcu0, hf⟩ := bnd_t hf
  refine x_calli hW (x_runV C hW hl (wk8 k_0) rfl rfl (c_X10_differentTexts hcu0) cw_L_134 ci_X10_differentTexts cs_X10_differentTexts ⟨rfl, rfl, by decide, by decide⟩ ⟨Nat.le_trans (by omega) hcs.1, Nat.le_trans (by omega) hcs.2⟩ (As := []) rfl rfl (Nat.le_of_ble_eq_true rfl) dL_law_704) (fun H locs hW => ?_)
  refine lv_aload_n C.1 C.2.1 dL_law_707 rfl (lv_at hl 3 rfl) ?_
  obtain ⟨u1, hcu1, hf⟩ := bnd_t hf
  refine x_calli hW (x_runV C hW hl (wk9 k_125) rfl rfl (c_X11_differentTexts hcu1) cw_L_137 ci_X11_differentTexts cs_X11_differentTexts ⟨rfl, rfl, by decide, by decide⟩ ⟨Nat.le_trans (by omega) hcs.1, Nat.le_trans (by omega) hcs.2⟩ (As := []) rfl rfl (Nat.le_of_ble_eq_true rfl) dL_law_708) (fun H locs hW => ?_)
  refine x_cmpeq (tgt := 2151) C hf dL_law_711 (by decide) (fun hf => ?_) (fun hf => by cases hf)
  obtain rfl := Option.some.inj hf
  refine W.widen (k := cells + 8) (n := slots + 48) (by omega) (by omega) ?_
  exact kk ls H locs hW (lv_sub hl [0, 1, 2, 3, 4] rfl)
set_option maxRecDepth 20000 in
set_option maxHeartbeats 1000000 in
theorem k_case11 {p : Program} {l : Launch} {e : Env} {s : State} {m : MethodId} {b : Nat} {below : List Frame} {meth : Method} {c : Code} {H : Heap} {locs : List Loc} {cells slots : Nat} {Q : State → Prop} {ls : Array Slot} {Z : ZT} {h g : Hp} {L : Nat} {xs : Nat → Int32} {i : Int32} (hm : Z.2.2.2.2 1000 = 1) (hlt : l.stackTraces = false) (C : CX p s m #[.ref b] meth c cL_law RL 7 ret Z) (hX : va_X b L xs s s.heap) (hbl : b < s.heap.size) (hbA : ¬ FR Z b) (hi : ∀ k : Int32, 0 ≤ k → k ≤ 5 → vp_in (i + k) L) (hcs : cells + 8 ≤ 601024 ∧ slots + 48 ≤ 7293034) (hW : XW Z h g s.heap H locs) (hl : lv_has ls 7 [(4, .int i), (0, .ref b), (1, .ref (Z.1 0)), (2, .ref (Z.1 125)), (3, .ref (Z.1 145))]) {out : Hp × Hp} (hf : A_11 h g (xs (ix (i + 1))) (xs (ix (i + 2))) = some out) (kk : ∀ (ls : Array Slot) (H : Heap) (locs : List Loc), XW Z out.1 out.2 s.heap H locs → lv_has ls 7 [(4, .int i), (0, .ref b), (1, .ref (Z.1 0)), (2, .ref (Z.1 125)), (3, .ref (Z.1 145))] → W p l e room_1 s m #[Value.ref b] below meth c H locs (cells + 8) (slots + 48) Q (F0 m 2151 ls [])) : W p l e room_1 s m #[Value.ref b] below meth c H locs cells slots Q (F0 m 716 ls []) := by
  unfold A_11 at hf
  refine lv_aload_n C.1 C.2.1 dL_law_716 rfl (lv_at hl 2 rfl) ?_
  refine lv_aload_n C.1 C.2.1 dL_law_717 rfl (lv_at hl 1 rfl) ?_
  refine lv_iload C.1 C.2.1 dL_law_718 (lv_at hl 0 rfl) ?_
  refine lv_iconst (v := 1) C.1 C.2.1 dL_law_720 (by decide) ?_
  refine lv_iadd C.1 C.2.1 dL_law_721 ?_
  refine va_sld C.1 C.2.1 hX hbl hbA hW.2 (hi 1 (by decide) (by decide)) dL_law_722 ?_
  refine lv_aload_n C.1 C.2.1 dL_law_723 rfl (lv_at hl 1 rfl) ?_
  refine lv_iload C.1 C.2.1 dL_law_724 (lv_at hl 0 rfl) ?_
  refine lv_iconst (v := 2) C.1 C.2.1 dL_law_726 (by decide) ?_
  refine lv_iadd C.1 C.2.1 dL_law_727 ?_
  refine va_sld C.1 C.2.1 hX hbl hbA hW.2 (hi 2 (by decide) (by decide)) dL_law_728 ?_
  refine lv_aload_n C.1 C.2.1 dL_law_729 rfl (lv_at hl 4 rfl) ?_
  obtain ⟨u0, hcu0, hf⟩ := bnd_t hf
  refine x_callX hW (x_runSW C hW hl (c_L_blockField hlt hm hcu0) cX_L_blockField ct_L_blockField cwL_138 ⟨rfl, rfl, by decide, by decide⟩ hcs (As := [.ref (Z.1 0), .int (xs (ix (i + 1))), .int (xs (ix (i + 2))), .ref (Z.1 145)]) rfl rfl (Nat.le_of_ble_eq_true rfl) dL_law_730) (fun H locs hW => ?_)
  refine lv_istore (lv' := [(5, .int u0.1), (4, .int i), (0, .ref b), (1, .ref (Z.1 0)), (2, .ref (Z.1 125)), (3, .ref (Z.1 145))]) C.1 C.2.1 dL_law_733 hl (by decide) rfl (fun ls hl => ?_)
  refine lv_aload_n C.1 C.2.1 dL_law_735 rfl (lv_at hl 4 rfl) ?_
  refine lv_aload_n C.1 C.2.1 dL_law_736 rfl (lv_at hl 2 rfl) ?_
  refine lv_iload C.1 C.2.1 dL_law_737 (lv_at hl 1 rfl) ?_
  refine lv_iconst (v := 1) C.1 C.2.1 dL_law_739 (by decide) ?_
  refine lv_iadd C.1 C.2.1 dL_law_740 ?_
  refine va_sld C.1 C.2.1 hX hbl hbA hW.2 (hi 1 (by decide) (by decide)) dL_law_741 ?_
  refine lv_aload_n C.1 C.2.1 dL_law_742 rfl (lv_at hl 2 rfl) ?_
  refine lv_iload C.1 C.2.1 dL_law_743 (lv_at hl 1 rfl) ?_
  refine lv_iconst (v := 2) C.1 C.2.1 dL_law_745 (by decide) ?_
  refine lv_iadd C.1 C.2.1 dL_law_746 ?_
  refine va_sld C.1 C.2.1 hX hbl hbA hW.2 (hi 2 (by decide) (by decide)) dL_law_747 ?_
  obtain ⟨u1, hcu1, hf⟩ := bnd_t hf
  refine x_calli hW (x_runV C hW hl (wk9 k_125) rfl rfl (c_X11_blockField hcu1) cw_L_140 ci_X11_blockField cs_X11_blockField ⟨rfl, rfl, by decide, by decide⟩ ⟨Nat.le_trans (by omega) hcs.1, Nat.le_trans (by omega) hcs.2⟩ (As := [.int (xs (ix (i + 1))), .int (xs (ix (i + 2)))]) rfl rfl (Nat.le_of_ble_eq_true rfl) dL_law_748) (fun H locs hW => ?_)
  refine lv_istore (lv' := [(6, .int u1.1), (5, .int u0.1), (4, .int i), (0, .ref b), (1, .ref (Z.1 0)), (2, .ref (Z.1 125)), (3, .ref (Z.1 145))]) C.1 C.2.1 dL_law_751 hl (by decide) rfl (fun ls hl => ?_)
  refine lv_aload_n C.1 C.2.1 dL_law_753 rfl (lv_at hl 5 rfl) ?_
  obtain ⟨u2, hcu2, hf⟩ := bnd_t hf
  refine x_calli hW (x_runV C hW hl (wk9 k_125) rfl rfl (c_X11_thrown hcu2) cw_L_106 ci_X11_thrown cs_X11_thrown ⟨rfl, rfl, by decide, by decide⟩ ⟨Nat.le_trans (by omega) hcs.1, Nat.le_trans (by omega) hcs.2⟩ (As := []) rfl rfl (Nat.le_of_ble_eq_true rfl) dL_law_754) (fun H locs hW => ?_)
  refine lv_iload C.1 C.2.1 dL_law_757 (lv_at hl 1 rfl) ?_
  refine x_cmpeq (tgt := 764) C hf dL_law_759 (by decide) (fun hf => ?_) (fun hf => by cases hf)
  refine lv_iload C.1 C.2.1 dL_law_764 (lv_at hl 1 rfl) ?_
  refine x_ifne (tgt := 781) C hf dL_law_766 (by decide) (fun hf => ?_) (fun hf => ?_)
  · obtain rfl := Option.some.inj hf
    refine lv_goto (tgt := 2151) C.1 C.2.1 dL_law_781 (by decide) ?_
    exact kk ls H locs hW (lv_sub hl [2, 3, 4, 5, 6] rfl)
  refine lv_aload_n C.1 C.2.1 dL_law_769 rfl (lv_at hl 6 rfl) ?_
  refine lv_iconst (v := 0) C.1 C.2.1 dL_law_770 (by decide) ?_
  refine x_outld hm C hW dL_law_771 ?_
  refine lv_iload C.1 C.2.1 dL_law_772 (lv_at hl 0 rfl) ?_
  refine lv_i2l C.1 C.2.1 dL_law_774 rfl ?_
  rcases Classical.em (u1.2 145 0 = u1.1) with q | q
  case inr => have hf := (if_neg q).symm.trans hf; cases hf
  have hf := (if_pos q).symm.trans hf
  refine W.lcmp C.1 C.2.1 dL_law_775 ?_
  rw [q, lgc_eq]
  refine lv_if_eq (tgt := 781) C.1 C.2.1 dL_law_776 (by decide) (fun _ => ?_) (fun q => absurd rfl q)
  refine lv_goto (tgt := 2151) C.1 C.2.1 dL_law_781 (by decide) ?_
  obtain rfl := Option.some.inj hf
  exact kk ls H locs hW (lv_sub hl [2, 3, 4, 5, 6] rfl)
set_option maxRecDepth 20000 in
set_option maxHeartbeats 1000000 in
theorem k_case12 {p : Program} {l : Launch} {e : Env} {s : State} {m : MethodId} {b : Nat} {below : List Frame} {meth : Method} {c : Code} {H : Heap} {locs : List Loc} {cells slots : Nat} {Q : State → Prop} {ls : Array Slot} {Z : ZT} {h g : Hp} {L : Nat} {xs : Nat → Int32} {i : Int32} (hm : Z.2.2.2.2 1000 = 1) (hlt : l.stackTraces = false) (C : CX p s m #[.ref b] meth c cL_law RL 7 ret Z) (hX : va_X b L xs s s.heap) (hbl : b < s.heap.size) (hbA : ¬ FR Z b) (hi : ∀ k : Int32, 0 ≤ k → k ≤ 5 → vp_in (i + k) L) (hcs : cells + 8 ≤ 601024 ∧ slots + 48 ≤ 7293034) (hW : XW Z h g s.heap H locs) (hl : lv_has ls 7 [(4, .int i), (0, .ref b), (1, .ref (Z.1 0)), (2, .ref (Z.1 125)), (3, .ref (Z.1 145))]) {out : Hp × Hp} (hf : A_12 h g (xs (ix (i + 1))) = some out) (kk : ∀ (ls : Array Slot) (H : Heap) (locs : List Loc), XW Z out.1 out.2 s.heap H locs → lv_has ls 7 [(4, .int i), (0, .ref b), (1, .ref (Z.1 0)), (2, .ref (Z.1 125)), (3, .ref (Z.1 145))] → W p l e room_1 s m #[Value.ref b] below meth c H locs (cells + 8) (slots + 48) Q (F0 m 2151 ls [])) : W p l e room_1 s m #[Value.ref b] below meth c H locs cells slots Q (F0 m 784 ls []) := by
  unfold A_12 at hf
  refine lv_aload_n C.1 C.2.1 dL_law_784 rfl (lv_at hl 2 rfl) ?_
  refine lv_aload_n C.1 C.2.1 dL_law_785 rfl (lv_at hl 1 rfl) ?_
  refine lv_iload C.1 C.2.1 dL_law_786 (lv_at hl 0 rfl) ?_
  refine lv_iconst (v := 1) C.1 C.2.1 dL_law_788 (by decide) ?_
  refine lv_iadd C.1 C.2.1 dL_law_789 ?_
  refine va_sld C.1 C.2.1 hX hbl hbA hW.2 (hi 1 (by decide) (by decide)) dL_law_790 ?_
  obtain ⟨u0, hcu0, hf⟩ := bnd_t hf
  refine x_calli hW (x_runV C hW hl (wk8 k_0) rfl rfl (c_X10_blockAt hcu0) cw_L_141 ci_X10_blockAt cs_X10_blockAt ⟨rfl, rfl, by decide, by decide⟩ ⟨Nat.le_trans (by omega) hcs.1, Nat.le_trans (by omega) hcs.2⟩ (As := [.int (xs (ix (i + 1)))]) rfl rfl (Nat.le_of_ble_eq_true rfl) dL_law_791) (fun H locs hW => ?_)
  refine lv_aload_n C.1 C.2.1 dL_law_794 rfl (lv_at hl 3 rfl) ?_
  refine lv_aload_n C.1 C.2.1 dL_law_795 rfl (lv_at hl 1 rfl) ?_
  refine lv_iload C.1 C.2.1 dL_law_796 (lv_at hl 0 rfl) ?_
  refine lv_iconst (v := 1) C.1 C.2.1 dL_law_798 (by decide) ?_
  refine lv_iadd C.1 C.2.1 dL_law_799 ?_
  refine va_sld C.1 C.2.1 hX hbl hbA hW.2 (hi 1 (by decide) (by decide)) dL_law_800 ?_
  obtain ⟨u1, hcu1, hf⟩ := bnd_t hf
  refine x_calli hW (x_runV C hW hl (wk9 k_125) rfl rfl (c_X11_blockAt hcu1) cw_L_144 ci_X11_blockAt cs_X11_blockAt ⟨rfl, rfl, by decide, by decide⟩ ⟨Nat.le_trans (by omega) hcs.1, Nat.le_trans (by omega) hcs.2⟩ (As := [.int (xs (ix (i + 1)))]) rfl rfl (Nat.le_of_ble_eq_true rfl) dL_law_801) (fun H locs hW => ?_)
  refine x_cmpeq (tgt := 2151) C hf dL_law_804 (by decide) (fun hf => ?_) (fun hf => by cases hf)
  obtain rfl := Option.some.inj hf
  refine W.widen (k := cells + 8) (n := slots + 48) (by omega) (by omega) ?_
  exact kk ls H locs hW (lv_sub hl [0, 1, 2, 3, 4] rfl)
set_option maxRecDepth 20000 in
set_option maxHeartbeats 1000000 in
theorem k_case13 {p : Program} {l : Launch} {e : Env} {s : State} {m : MethodId} {b : Nat} {below : List Frame} {meth : Method} {c : Code} {H : Heap} {locs : List Loc} {cells slots : Nat} {Q : State → Prop} {ls : Array Slot} {Z : ZT} {h g : Hp} {L : Nat} {xs : Nat → Int32} {i : Int32} (hm : Z.2.2.2.2 1000 = 1) (hlt : l.stackTraces = false) (C : CX p s m #[.ref b] meth c cL_law RL 7 ret Z) (hX : va_X b L xs s s.heap) (hbl : b < s.heap.size) (hbA : ¬ FR Z b) (hi : ∀ k : Int32, 0 ≤ k → k ≤ 5 → vp_in (i + k) L) (hcs : cells + 8 ≤ 601024 ∧ slots + 48 ≤ 7293034) (hW : XW Z h g s.heap H locs) (hl : lv_has ls 7 [(4, .int i), (0, .ref b), (1, .ref (Z.1 0)), (2, .ref (Z.1 125)), (3, .ref (Z.1 145))]) {out : Hp × Hp} (hf : A_13 h g (xs (ix (i + 1))) = some out) (kk : ∀ (ls : Array Slot) (H : Heap) (locs : List Loc), XW Z out.1 out.2 s.heap H locs → lv_has ls 7 [(4, .int i), (0, .ref b), (1, .ref (Z.1 0)), (2, .ref (Z.1 125)), (3, .ref (Z.1 145))] → W p l e room_1 s m #[Value.ref b] below meth c H locs (cells + 8) (slots + 48) Q (F0 m 2151 ls [])) : W p l e room_1 s m #[Value.ref b] below meth c H locs cells slots Q (F0 m 809 ls []) := by
  unfold A_13 at hf
  refine lv_aload_n C.1 C.2.1 dL_law_809 rfl (lv_at hl 2 rfl) ?_
  refine lv_aload_n C.1 C.2.1 dL_law_810 rfl (lv_at hl 1 rfl) ?_
  refine lv_iload C.1 C.2.1 dL_law_811 (lv_at hl 0 rfl) ?_
  refine lv_iconst (v := 1) C.1 C.2.1 dL_law_813 (by decide) ?_
  refine lv_iadd C.1 C.2.1 dL_law_814 ?_
  refine va_sld C.1 C.2.1 hX hbl hbA hW.2 (hi 1 (by decide) (by decide)) dL_law_815 ?_
  refine lv_aload_n C.1 C.2.1 dL_law_816 rfl (lv_at hl 4 rfl) ?_
  obtain ⟨u0, hcu0, hf⟩ := bnd_t hf
  refine x_callX hW (x_runSW C hW hl (c_L_isSnapped hlt hm hcu0) cX_L_isSnapped ct_L_isSnapped cwL_145 ⟨rfl, rfl, by decide, by decide⟩ hcs (As := [.ref (Z.1 0), .int (xs (ix (i + 1))), .ref (Z.1 145)]) rfl rfl (Nat.le_of_ble_eq_true rfl) dL_law_817) (fun H locs hW => ?_)
  refine lv_istore (lv' := [(5, .int u0.1), (4, .int i), (0, .ref b), (1, .ref (Z.1 0)), (2, .ref (Z.1 125)), (3, .ref (Z.1 145))]) C.1 C.2.1 dL_law_820 hl (by decide) rfl (fun ls hl => ?_)
  refine lv_aload_n C.1 C.2.1 dL_law_822 rfl (lv_at hl 4 rfl) ?_
  refine lv_aload_n C.1 C.2.1 dL_law_823 rfl (lv_at hl 2 rfl) ?_
  refine lv_iload C.1 C.2.1 dL_law_824 (lv_at hl 1 rfl) ?_
  refine lv_iconst (v := 1) C.1 C.2.1 dL_law_826 (by decide) ?_
  refine lv_iadd C.1 C.2.1 dL_law_827 ?_
  refine va_sld C.1 C.2.1 hX hbl hbA hW.2 (hi 1 (by decide) (by decide)) dL_law_828 ?_
  obtain ⟨u1, hcu1, hf⟩ := bnd_t hf
  refine x_calli hW (x_runV C hW hl (wk9 k_125) rfl rfl (c_X11_isSnapped hcu1) cw_L_148 ci_X11_isSnapped cs_X11_isSnapped ⟨rfl, rfl, by decide, by decide⟩ ⟨Nat.le_trans (by omega) hcs.1, Nat.le_trans (by omega) hcs.2⟩ (As := [.int (xs (ix (i + 1)))]) rfl rfl (Nat.le_of_ble_eq_true rfl) dL_law_829) (fun H locs hW => ?_)
  refine lv_istore (lv' := [(6, .int u1.1), (5, .int u0.1), (4, .int i), (0, .ref b), (1, .ref (Z.1 0)), (2, .ref (Z.1 125)), (3, .ref (Z.1 145))]) C.1 C.2.1 dL_law_832 hl (by decide) rfl (fun ls hl => ?_)
  refine lv_aload_n C.1 C.2.1 dL_law_834 rfl (lv_at hl 5 rfl) ?_
  obtain ⟨u2, hcu2, hf⟩ := bnd_t hf
  refine x_calli hW (x_runV C hW hl (wk9 k_125) rfl rfl (c_X11_thrown hcu2) cw_L_106 ci_X11_thrown cs_X11_thrown ⟨rfl, rfl, by decide, by decide⟩ ⟨Nat.le_trans (by omega) hcs.1, Nat.le_trans (by omega) hcs.2⟩ (As := []) rfl rfl (Nat.le_of_ble_eq_true rfl) dL_law_835) (fun H locs hW => ?_)
  refine lv_iload C.1 C.2.1 dL_law_838 (lv_at hl 1 rfl) ?_
  refine x_cmpeq (tgt := 845) C hf dL_law_840 (by decide) (fun hf => ?_) (fun hf => by cases hf)
  refine lv_iload C.1 C.2.1 dL_law_845 (lv_at hl 1 rfl) ?_
  refine x_ifne (tgt := 869) C hf dL_law_847 (by decide) (fun hf => ?_) (fun hf => ?_)
  · obtain rfl := Option.some.inj hf
    refine lv_goto (tgt := 2151) C.1 C.2.1 dL_law_869 (by decide) ?_
    exact kk ls H locs hW (lv_sub hl [2, 3, 4, 5, 6] rfl)
  refine lv_aload_n C.1 C.2.1 dL_law_850 rfl (lv_at hl 6 rfl) ?_
  refine lv_iconst (v := 0) C.1 C.2.1 dL_law_851 (by decide) ?_
  refine x_outld hm C hW dL_law_852 ?_
  refine lv_iload C.1 C.2.1 dL_law_853 (lv_at hl 0 rfl) ?_
  refine x_ifeq (tgt := 862) C hf dL_law_855 (by decide) (fun hf => ?_) (fun hf => ?_)
  · refine lv_lconst (v := 0) C.1 C.2.1 dL_law_862 rfl ?_
    refine W.lcmp C.1 C.2.1 dL_law_863 ?_
    rcases Classical.em (u1.2 145 0 = 0) with q | q
    · have hf := (if_pos q).symm.trans hf
      obtain rfl := Option.some.inj hf
      refine lv_if_eq (tgt := 869) C.1 C.2.1 dL_law_864 (by decide) (fun _ => ?_) (fun z => absurd (by rw [q]; exact lgc_eq) z)
      refine lv_goto (tgt := 2151) C.1 C.2.1 dL_law_869 (by decide) ?_
      exact kk ls H locs hW (lv_sub hl [2, 3, 4, 5, 6] rfl)
    · have hf := (if_neg q).symm.trans hf
      cases hf
  · refine lv_lconst (v := 1) C.1 C.2.1 dL_law_858 rfl ?_
    refine lv_goto (tgt := 863) C.1 C.2.1 dL_law_859 (by decide) ?_
    refine W.lcmp C.1 C.2.1 dL_law_863 ?_
    rcases Classical.em (u1.2 145 0 = 1) with q | q
    · have hf := (if_pos q).symm.trans hf
      obtain rfl := Option.some.inj hf
      refine lv_if_eq (tgt := 869) C.1 C.2.1 dL_law_864 (by decide) (fun _ => ?_) (fun z => absurd (by rw [q]; exact lgc_eq) z)
      refine lv_goto (tgt := 2151) C.1 C.2.1 dL_law_869 (by decide) ?_
      exact kk ls H locs hW (lv_sub hl [2, 3, 4, 5, 6] rfl)
    · have hf := (if_neg q).symm.trans hf
      cases hf
set_option maxRecDepth 20000 in
set_option maxHeartbeats 1000000 in
theorem k_case14 {p : Program} {l : Launch} {e : Env} {s : State} {m : MethodId} {b : Nat} {below : List Frame} {meth : Method} {c : Code} {H : Heap} {locs : List Loc} {cells slots : Nat} {Q : State → Prop} {ls : Array Slot} {Z : ZT} {h g : Hp} {L : Nat} {xs : Nat → Int32} {i : Int32} (hm : Z.2.2.2.2 1000 = 1) (hlt : l.stackTraces = false) (C : CX p s m #[.ref b] meth c cL_law RL 7 ret Z) (hX : va_X b L xs s s.heap) (hbl : b < s.heap.size) (hbA : ¬ FR Z b) (hi : ∀ k : Int32, 0 ≤ k → k ≤ 5 → vp_in (i + k) L) (hcs : cells + 8 ≤ 601024 ∧ slots + 48 ≤ 7293034) (hW : XW Z h g s.heap H locs) (hl : lv_has ls 7 [(4, .int i), (0, .ref b), (1, .ref (Z.1 0)), (2, .ref (Z.1 125)), (3, .ref (Z.1 145))]) {out : Hp × Hp} (hf : A_14 h g (xs (ix (i + 1))) = some out) (kk : ∀ (ls : Array Slot) (H : Heap) (locs : List Loc), XW Z out.1 out.2 s.heap H locs → lv_has ls 7 [(4, .int i), (0, .ref b), (1, .ref (Z.1 0)), (2, .ref (Z.1 125)), (3, .ref (Z.1 145))] → W p l e room_1 s m #[Value.ref b] below meth c H locs (cells + 8) (slots + 48) Q (F0 m 2151 ls [])) : W p l e room_1 s m #[Value.ref b] below meth c H locs cells slots Q (F0 m 872 ls []) := by
  unfold A_14 at hf
  refine lv_aload_n C.1 C.2.1 dL_law_872 rfl (lv_at hl 2 rfl) ?_
  refine lv_aload_n C.1 C.2.1 dL_law_873 rfl (lv_at hl 1 rfl) ?_
  refine lv_iload C.1 C.2.1 dL_law_874 (lv_at hl 0 rfl) ?_
  refine lv_iconst (v := 1) C.1 C.2.1 dL_law_876 (by decide) ?_
  refine lv_iadd C.1 C.2.1 dL_law_877 ?_
  refine va_sld C.1 C.2.1 hX hbl hbA hW.2 (hi 1 (by decide) (by decide)) dL_law_878 ?_
  obtain ⟨u0, hcu0, hf⟩ := bnd_t hf
  refine x_calli hW (x_runV C hW hl (wk8 k_0) rfl rfl (c_X10_speakersAt hcu0) cw_L_149 ci_X10_speakersAt cs_X10_speakersAt ⟨rfl, rfl, by decide, by decide⟩ ⟨Nat.le_trans (by omega) hcs.1, Nat.le_trans (by omega) hcs.2⟩ (As := [.int (xs (ix (i + 1)))]) rfl rfl (Nat.le_of_ble_eq_true rfl) dL_law_879) (fun H locs hW => ?_)
  refine lv_aload_n C.1 C.2.1 dL_law_882 rfl (lv_at hl 3 rfl) ?_
  refine lv_aload_n C.1 C.2.1 dL_law_883 rfl (lv_at hl 1 rfl) ?_
  refine lv_iload C.1 C.2.1 dL_law_884 (lv_at hl 0 rfl) ?_
  refine lv_iconst (v := 1) C.1 C.2.1 dL_law_886 (by decide) ?_
  refine lv_iadd C.1 C.2.1 dL_law_887 ?_
  refine va_sld C.1 C.2.1 hX hbl hbA hW.2 (hi 1 (by decide) (by decide)) dL_law_888 ?_
  obtain ⟨u1, hcu1, hf⟩ := bnd_t hf
  refine x_calli hW (x_runV C hW hl (wk9 k_125) rfl rfl (c_X11_speakersAt hcu1) cw_L_152 ci_X11_speakersAt cs_X11_speakersAt ⟨rfl, rfl, by decide, by decide⟩ ⟨Nat.le_trans (by omega) hcs.1, Nat.le_trans (by omega) hcs.2⟩ (As := [.int (xs (ix (i + 1)))]) rfl rfl (Nat.le_of_ble_eq_true rfl) dL_law_889) (fun H locs hW => ?_)
  refine x_cmpeq (tgt := 2151) C hf dL_law_892 (by decide) (fun hf => ?_) (fun hf => by cases hf)
  obtain rfl := Option.some.inj hf
  refine W.widen (k := cells + 8) (n := slots + 48) (by omega) (by omega) ?_
  exact kk ls H locs hW (lv_sub hl [0, 1, 2, 3, 4] rfl)
set_option maxRecDepth 20000 in
set_option maxHeartbeats 1000000 in
theorem k_case15 {p : Program} {l : Launch} {e : Env} {s : State} {m : MethodId} {b : Nat} {below : List Frame} {meth : Method} {c : Code} {H : Heap} {locs : List Loc} {cells slots : Nat} {Q : State → Prop} {ls : Array Slot} {Z : ZT} {h g : Hp} {L : Nat} {xs : Nat → Int32} {i : Int32} (hm : Z.2.2.2.2 1000 = 1) (hlt : l.stackTraces = false) (C : CX p s m #[.ref b] meth c cL_law RL 7 ret Z) (hX : va_X b L xs s s.heap) (hbl : b < s.heap.size) (hbA : ¬ FR Z b) (hi : ∀ k : Int32, 0 ≤ k → k ≤ 5 → vp_in (i + k) L) (hcs : cells + 8 ≤ 601024 ∧ slots + 48 ≤ 7293034) (hW : XW Z h g s.heap H locs) (hl : lv_has ls 7 [(4, .int i), (0, .ref b), (1, .ref (Z.1 0)), (2, .ref (Z.1 125)), (3, .ref (Z.1 145))]) {out : Hp × Hp} (hf : A_15 h g = some out) (kk : ∀ (ls : Array Slot) (H : Heap) (locs : List Loc), XW Z out.1 out.2 s.heap H locs → lv_has ls 7 [(4, .int i), (0, .ref b), (1, .ref (Z.1 0)), (2, .ref (Z.1 125)), (3, .ref (Z.1 145))] → W p l e room_1 s m #[Value.ref b] below meth c H locs (cells + 8) (slots + 48) Q (F0 m 2151 ls [])) : W p l e room_1 s m #[Value.ref b] below meth c H locs cells slots Q (F0 m 897 ls []) := by
  unfold A_15 at hf
  refine lv_aload_n C.1 C.2.1 dL_law_897 rfl (lv_at hl 2 rfl) ?_
  obtain ⟨u0, hcu0, hf⟩ := bnd_t hf
  refine x_calli hW (x_runV C hW hl (wk8 k_0) rfl rfl (c_X10_shots hcu0) cw_L_153 ci_X10_shots cs_X10_shots ⟨rfl, rfl, by decide, by decide⟩ ⟨Nat.le_trans (by omega) hcs.1, Nat.le_trans (by omega) hcs.2⟩ (As := []) rfl rfl (Nat.le_of_ble_eq_true rfl) dL_law_898) (fun H locs hW => ?_)
  refine lv_aload_n C.1 C.2.1 dL_law_901 rfl (lv_at hl 3 rfl) ?_
  obtain ⟨u1, hcu1, hf⟩ := bnd_t hf
  refine x_calli hW (x_runV C hW hl (wk9 k_125) rfl rfl (c_X11_shots hcu1) cw_L_156 ci_X11_shots cs_X11_shots ⟨rfl, rfl, by decide, by decide⟩ ⟨Nat.le_trans (by omega) hcs.1, Nat.le_trans (by omega) hcs.2⟩ (As := []) rfl rfl (Nat.le_of_ble_eq_true rfl) dL_law_902) (fun H locs hW => ?_)
  refine x_cmpeq (tgt := 2151) C hf dL_law_905 (by decide) (fun hf => ?_) (fun hf => by cases hf)
  obtain rfl := Option.some.inj hf
  refine W.widen (k := cells + 8) (n := slots + 48) (by omega) (by omega) ?_
  exact kk ls H locs hW (lv_sub hl [0, 1, 2, 3, 4] rfl)
set_option maxRecDepth 20000 in
set_option maxHeartbeats 1000000 in
theorem k_case16 {p : Program} {l : Launch} {e : Env} {s : State} {m : MethodId} {b : Nat} {below : List Frame} {meth : Method} {c : Code} {H : Heap} {locs : List Loc} {cells slots : Nat} {Q : State → Prop} {ls : Array Slot} {Z : ZT} {h g : Hp} {L : Nat} {xs : Nat → Int32} {i : Int32} (hm : Z.2.2.2.2 1000 = 1) (hlt : l.stackTraces = false) (C : CX p s m #[.ref b] meth c cL_law RL 7 ret Z) (hX : va_X b L xs s s.heap) (hbl : b < s.heap.size) (hbA : ¬ FR Z b) (hi : ∀ k : Int32, 0 ≤ k → k ≤ 5 → vp_in (i + k) L) (hcs : cells + 8 ≤ 601024 ∧ slots + 48 ≤ 7293034) (hW : XW Z h g s.heap H locs) (hl : lv_has ls 7 [(4, .int i), (0, .ref b), (1, .ref (Z.1 0)), (2, .ref (Z.1 125)), (3, .ref (Z.1 145))]) {out : Hp × Hp} (hf : A_16 h g (xs (ix (i + 1))) = some out) (kk : ∀ (ls : Array Slot) (H : Heap) (locs : List Loc), XW Z out.1 out.2 s.heap H locs → lv_has ls 7 [(4, .int i), (0, .ref b), (1, .ref (Z.1 0)), (2, .ref (Z.1 125)), (3, .ref (Z.1 145))] → W p l e room_1 s m #[Value.ref b] below meth c H locs (cells + 8) (slots + 48) Q (F0 m 2151 ls [])) : W p l e room_1 s m #[Value.ref b] below meth c H locs cells slots Q (F0 m 910 ls []) := by
  unfold A_16 at hf
  refine lv_aload_n C.1 C.2.1 dL_law_910 rfl (lv_at hl 2 rfl) ?_
  refine lv_aload_n C.1 C.2.1 dL_law_911 rfl (lv_at hl 1 rfl) ?_
  refine lv_iload C.1 C.2.1 dL_law_912 (lv_at hl 0 rfl) ?_
  refine lv_iconst (v := 1) C.1 C.2.1 dL_law_914 (by decide) ?_
  refine lv_iadd C.1 C.2.1 dL_law_915 ?_
  refine va_sld C.1 C.2.1 hX hbl hbA hW.2 (hi 1 (by decide) (by decide)) dL_law_916 ?_
  refine lv_aload_n C.1 C.2.1 dL_law_917 rfl (lv_at hl 4 rfl) ?_
  obtain ⟨u0, hcu0, hf⟩ := bnd_t hf
  refine x_callX hW (x_runSW C hW hl (c_L_blockOf hlt hm hcu0) cX_L_blockOf ct_L_blockOf cwL_157 ⟨rfl, rfl, by decide, by decide⟩ hcs (As := [.ref (Z.1 0), .int (xs (ix (i + 1))), .ref (Z.1 145)]) rfl rfl (Nat.le_of_ble_eq_true rfl) dL_law_918) (fun H locs hW => ?_)
  refine lv_istore (lv' := [(5, .int u0.1), (4, .int i), (0, .ref b), (1, .ref (Z.1 0)), (2, .ref (Z.1 125)), (3, .ref (Z.1 145))]) C.1 C.2.1 dL_law_921 hl (by decide) rfl (fun ls hl => ?_)
  refine lv_aload_n C.1 C.2.1 dL_law_923 rfl (lv_at hl 4 rfl) ?_
  refine lv_aload_n C.1 C.2.1 dL_law_924 rfl (lv_at hl 2 rfl) ?_
  refine lv_iload C.1 C.2.1 dL_law_925 (lv_at hl 1 rfl) ?_
  refine lv_iconst (v := 1) C.1 C.2.1 dL_law_927 (by decide) ?_
  refine lv_iadd C.1 C.2.1 dL_law_928 ?_
  refine va_sld C.1 C.2.1 hX hbl hbA hW.2 (hi 1 (by decide) (by decide)) dL_law_929 ?_
  obtain ⟨u1, hcu1, hf⟩ := bnd_t hf
  refine x_calli hW (x_runV C hW hl (wk9 k_125) rfl rfl (c_X11_blockOf hcu1) cw_L_159 ci_X11_blockOf cs_X11_blockOf ⟨rfl, rfl, by decide, by decide⟩ ⟨Nat.le_trans (by omega) hcs.1, Nat.le_trans (by omega) hcs.2⟩ (As := [.int (xs (ix (i + 1)))]) rfl rfl (Nat.le_of_ble_eq_true rfl) dL_law_930) (fun H locs hW => ?_)
  refine lv_istore (lv' := [(6, .int u1.1), (5, .int u0.1), (4, .int i), (0, .ref b), (1, .ref (Z.1 0)), (2, .ref (Z.1 125)), (3, .ref (Z.1 145))]) C.1 C.2.1 dL_law_933 hl (by decide) rfl (fun ls hl => ?_)
  refine lv_aload_n C.1 C.2.1 dL_law_935 rfl (lv_at hl 5 rfl) ?_
  obtain ⟨u2, hcu2, hf⟩ := bnd_t hf
  refine x_calli hW (x_runV C hW hl (wk9 k_125) rfl rfl (c_X11_thrown hcu2) cw_L_106 ci_X11_thrown cs_X11_thrown ⟨rfl, rfl, by decide, by decide⟩ ⟨Nat.le_trans (by omega) hcs.1, Nat.le_trans (by omega) hcs.2⟩ (As := []) rfl rfl (Nat.le_of_ble_eq_true rfl) dL_law_936) (fun H locs hW => ?_)
  refine lv_iload C.1 C.2.1 dL_law_939 (lv_at hl 1 rfl) ?_
  refine x_cmpeq (tgt := 946) C hf dL_law_941 (by decide) (fun hf => ?_) (fun hf => by cases hf)
  refine lv_iload C.1 C.2.1 dL_law_946 (lv_at hl 1 rfl) ?_
  refine x_ifne (tgt := 963) C hf dL_law_948 (by decide) (fun hf => ?_) (fun hf => ?_)
  · obtain rfl := Option.some.inj hf
    refine lv_goto (tgt := 2151) C.1 C.2.1 dL_law_963 (by decide) ?_
    exact kk ls H locs hW (lv_sub hl [2, 3, 4, 5, 6] rfl)
  refine lv_aload_n C.1 C.2.1 dL_law_951 rfl (lv_at hl 6 rfl) ?_
  refine lv_iconst (v := 0) C.1 C.2.1 dL_law_952 (by decide) ?_
  refine x_outld hm C hW dL_law_953 ?_
  refine lv_iload C.1 C.2.1 dL_law_954 (lv_at hl 0 rfl) ?_
  refine lv_i2l C.1 C.2.1 dL_law_956 rfl ?_
  rcases Classical.em (u1.2 145 0 = u1.1) with q | q
  case inr => have hf := (if_neg q).symm.trans hf; cases hf
  have hf := (if_pos q).symm.trans hf
  refine W.lcmp C.1 C.2.1 dL_law_957 ?_
  rw [q, lgc_eq]
  refine lv_if_eq (tgt := 963) C.1 C.2.1 dL_law_958 (by decide) (fun _ => ?_) (fun q => absurd rfl q)
  refine lv_goto (tgt := 2151) C.1 C.2.1 dL_law_963 (by decide) ?_
  obtain rfl := Option.some.inj hf
  exact kk ls H locs hW (lv_sub hl [2, 3, 4, 5, 6] rfl)
set_option maxRecDepth 20000 in
set_option maxHeartbeats 1000000 in
theorem k_case17 {p : Program} {l : Launch} {e : Env} {s : State} {m : MethodId} {b : Nat} {below : List Frame} {meth : Method} {c : Code} {H : Heap} {locs : List Loc} {cells slots : Nat} {Q : State → Prop} {ls : Array Slot} {Z : ZT} {h g : Hp} {L : Nat} {xs : Nat → Int32} {i : Int32} (hm : Z.2.2.2.2 1000 = 1) (hlt : l.stackTraces = false) (C : CX p s m #[.ref b] meth c cL_law RL 7 ret Z) (hX : va_X b L xs s s.heap) (hbl : b < s.heap.size) (hbA : ¬ FR Z b) (hi : ∀ k : Int32, 0 ≤ k → k ≤ 5 → vp_in (i + k) L) (hcs : cells + 8 ≤ 601024 ∧ slots + 48 ≤ 7293034) (hW : XW Z h g s.heap H locs) (hl : lv_has ls 7 [(4, .int i), (0, .ref b), (1, .ref (Z.1 0)), (2, .ref (Z.1 125)), (3, .ref (Z.1 145))]) {out : Hp × Hp} (hf : A_17 h g (xs (ix (i + 1))) (xs (ix (i + 2))) = some out) (kk : ∀ (ls : Array Slot) (H : Heap) (locs : List Loc), XW Z out.1 out.2 s.heap H locs → lv_has ls 7 [(4, .int i), (0, .ref b), (1, .ref (Z.1 0)), (2, .ref (Z.1 125)), (3, .ref (Z.1 145))] → W p l e room_1 s m #[Value.ref b] below meth c H locs (cells + 8) (slots + 48) Q (F0 m 2151 ls [])) : W p l e room_1 s m #[Value.ref b] below meth c H locs cells slots Q (F0 m 966 ls []) := by
  unfold A_17 at hf
  refine lv_aload_n C.1 C.2.1 dL_law_966 rfl (lv_at hl 2 rfl) ?_
  refine lv_aload_n C.1 C.2.1 dL_law_967 rfl (lv_at hl 1 rfl) ?_
  refine lv_iload C.1 C.2.1 dL_law_968 (lv_at hl 0 rfl) ?_
  refine lv_iconst (v := 1) C.1 C.2.1 dL_law_970 (by decide) ?_
  refine lv_iadd C.1 C.2.1 dL_law_971 ?_
  refine va_sld C.1 C.2.1 hX hbl hbA hW.2 (hi 1 (by decide) (by decide)) dL_law_972 ?_
  refine lv_aload_n C.1 C.2.1 dL_law_973 rfl (lv_at hl 1 rfl) ?_
  refine lv_iload C.1 C.2.1 dL_law_974 (lv_at hl 0 rfl) ?_
  refine lv_iconst (v := 2) C.1 C.2.1 dL_law_976 (by decide) ?_
  refine lv_iadd C.1 C.2.1 dL_law_977 ?_
  refine va_sld C.1 C.2.1 hX hbl hbA hW.2 (hi 2 (by decide) (by decide)) dL_law_978 ?_
  refine lv_aload_n C.1 C.2.1 dL_law_979 rfl (lv_at hl 4 rfl) ?_
  obtain ⟨u0, hcu0, hf⟩ := bnd_t hf
  refine x_callX hW (x_runSW C hW hl (c_L_shotField hlt hm hcu0) cX_L_shotField ct_L_shotField cwL_160 ⟨rfl, rfl, by decide, by decide⟩ hcs (As := [.ref (Z.1 0), .int (xs (ix (i + 1))), .int (xs (ix (i + 2))), .ref (Z.1 145)]) rfl rfl (Nat.le_of_ble_eq_true rfl) dL_law_980) (fun H locs hW => ?_)
  refine lv_istore (lv' := [(5, .int u0.1), (4, .int i), (0, .ref b), (1, .ref (Z.1 0)), (2, .ref (Z.1 125)), (3, .ref (Z.1 145))]) C.1 C.2.1 dL_law_983 hl (by decide) rfl (fun ls hl => ?_)
  refine lv_aload_n C.1 C.2.1 dL_law_985 rfl (lv_at hl 4 rfl) ?_
  refine lv_aload_n C.1 C.2.1 dL_law_986 rfl (lv_at hl 2 rfl) ?_
  refine lv_iload C.1 C.2.1 dL_law_987 (lv_at hl 1 rfl) ?_
  refine lv_iconst (v := 1) C.1 C.2.1 dL_law_989 (by decide) ?_
  refine lv_iadd C.1 C.2.1 dL_law_990 ?_
  refine va_sld C.1 C.2.1 hX hbl hbA hW.2 (hi 1 (by decide) (by decide)) dL_law_991 ?_
  refine lv_aload_n C.1 C.2.1 dL_law_992 rfl (lv_at hl 2 rfl) ?_
  refine lv_iload C.1 C.2.1 dL_law_993 (lv_at hl 1 rfl) ?_
  refine lv_iconst (v := 2) C.1 C.2.1 dL_law_995 (by decide) ?_
  refine lv_iadd C.1 C.2.1 dL_law_996 ?_
  refine va_sld C.1 C.2.1 hX hbl hbA hW.2 (hi 2 (by decide) (by decide)) dL_law_997 ?_
  obtain ⟨u1, hcu1, hf⟩ := bnd_t hf
  refine x_calli hW (x_runV C hW hl (wk9 k_125) rfl rfl (c_X11_shotField hcu1) cw_L_162 ci_X11_shotField cs_X11_shotField ⟨rfl, rfl, by decide, by decide⟩ ⟨Nat.le_trans (by omega) hcs.1, Nat.le_trans (by omega) hcs.2⟩ (As := [.int (xs (ix (i + 1))), .int (xs (ix (i + 2)))]) rfl rfl (Nat.le_of_ble_eq_true rfl) dL_law_998) (fun H locs hW => ?_)
  refine lv_istore (lv' := [(6, .int u1.1), (5, .int u0.1), (4, .int i), (0, .ref b), (1, .ref (Z.1 0)), (2, .ref (Z.1 125)), (3, .ref (Z.1 145))]) C.1 C.2.1 dL_law_1001 hl (by decide) rfl (fun ls hl => ?_)
  refine lv_aload_n C.1 C.2.1 dL_law_1003 rfl (lv_at hl 5 rfl) ?_
  obtain ⟨u2, hcu2, hf⟩ := bnd_t hf
  refine x_calli hW (x_runV C hW hl (wk9 k_125) rfl rfl (c_X11_thrown hcu2) cw_L_106 ci_X11_thrown cs_X11_thrown ⟨rfl, rfl, by decide, by decide⟩ ⟨Nat.le_trans (by omega) hcs.1, Nat.le_trans (by omega) hcs.2⟩ (As := []) rfl rfl (Nat.le_of_ble_eq_true rfl) dL_law_1004) (fun H locs hW => ?_)
  refine lv_iload C.1 C.2.1 dL_law_1007 (lv_at hl 1 rfl) ?_
  refine x_cmpeq (tgt := 1014) C hf dL_law_1009 (by decide) (fun hf => ?_) (fun hf => by cases hf)
  refine lv_iload C.1 C.2.1 dL_law_1014 (lv_at hl 1 rfl) ?_
  refine x_ifne (tgt := 1031) C hf dL_law_1016 (by decide) (fun hf => ?_) (fun hf => ?_)
  · obtain rfl := Option.some.inj hf
    refine lv_goto (tgt := 2151) C.1 C.2.1 dL_law_1031 (by decide) ?_
    exact kk ls H locs hW (lv_sub hl [2, 3, 4, 5, 6] rfl)
  refine lv_aload_n C.1 C.2.1 dL_law_1019 rfl (lv_at hl 6 rfl) ?_
  refine lv_iconst (v := 0) C.1 C.2.1 dL_law_1020 (by decide) ?_
  refine x_outld hm C hW dL_law_1021 ?_
  refine lv_iload C.1 C.2.1 dL_law_1022 (lv_at hl 0 rfl) ?_
  refine lv_i2l C.1 C.2.1 dL_law_1024 rfl ?_
  rcases Classical.em (u1.2 145 0 = u1.1) with q | q
  case inr => have hf := (if_neg q).symm.trans hf; cases hf
  have hf := (if_pos q).symm.trans hf
  refine W.lcmp C.1 C.2.1 dL_law_1025 ?_
  rw [q, lgc_eq]
  refine lv_if_eq (tgt := 1031) C.1 C.2.1 dL_law_1026 (by decide) (fun _ => ?_) (fun q => absurd rfl q)
  refine lv_goto (tgt := 2151) C.1 C.2.1 dL_law_1031 (by decide) ?_
  obtain rfl := Option.some.inj hf
  exact kk ls H locs hW (lv_sub hl [2, 3, 4, 5, 6] rfl)
set_option maxRecDepth 20000 in
set_option maxHeartbeats 1000000 in
theorem k_case18 {p : Program} {l : Launch} {e : Env} {s : State} {m : MethodId} {b : Nat} {below : List Frame} {meth : Method} {c : Code} {H : Heap} {locs : List Loc} {cells slots : Nat} {Q : State → Prop} {ls : Array Slot} {Z : ZT} {h g : Hp} {L : Nat} {xs : Nat → Int32} {i : Int32} (hm : Z.2.2.2.2 1000 = 1) (hlt : l.stackTraces = false) (C : CX p s m #[.ref b] meth c cL_law RL 7 ret Z) (hX : va_X b L xs s s.heap) (hbl : b < s.heap.size) (hbA : ¬ FR Z b) (hi : ∀ k : Int32, 0 ≤ k → k ≤ 5 → vp_in (i + k) L) (hcs : cells + 8 ≤ 601024 ∧ slots + 48 ≤ 7293034) (hW : XW Z h g s.heap H locs) (hl : lv_has ls 7 [(4, .int i), (0, .ref b), (1, .ref (Z.1 0)), (2, .ref (Z.1 125)), (3, .ref (Z.1 145))]) {out : Hp × Hp} (hf : A_18 h g = some out) (kk : ∀ (ls : Array Slot) (H : Heap) (locs : List Loc), XW Z out.1 out.2 s.heap H locs → lv_has ls 7 [(4, .int i), (0, .ref b), (1, .ref (Z.1 0)), (2, .ref (Z.1 125)), (3, .ref (Z.1 145))] → W p l e room_1 s m #[Value.ref b] below meth c H locs (cells + 8) (slots + 48) Q (F0 m 2151 ls [])) : W p l e room_1 s m #[Value.ref b] below meth c H locs cells slots Q (F0 m 1034 ls []) := by
  unfold A_18 at hf
  refine lv_aload_n C.1 C.2.1 dL_law_1034 rfl (lv_at hl 2 rfl) ?_
  obtain ⟨u0, hcu0, hf⟩ := bnd_t hf
  refine x_calli hW (x_runV C hW hl (wk8 k_0) rfl rfl (c_X10_filmLength hcu0) cw_L_163 ci_X10_filmLength cs_X10_filmLength ⟨rfl, rfl, by decide, by decide⟩ ⟨Nat.le_trans (by omega) hcs.1, Nat.le_trans (by omega) hcs.2⟩ (As := []) rfl rfl (Nat.le_of_ble_eq_true rfl) dL_law_1035) (fun H locs hW => ?_)
  refine lv_aload_n C.1 C.2.1 dL_law_1038 rfl (lv_at hl 3 rfl) ?_
  obtain ⟨u1, hcu1, hf⟩ := bnd_t hf
  refine x_calli hW (x_runV C hW hl (wk9 k_125) rfl rfl (c_X11_filmLength hcu1) cw_L_166 ci_X11_filmLength cs_X11_filmLength ⟨rfl, rfl, by decide, by decide⟩ ⟨Nat.le_trans (by omega) hcs.1, Nat.le_trans (by omega) hcs.2⟩ (As := []) rfl rfl (Nat.le_of_ble_eq_true rfl) dL_law_1039) (fun H locs hW => ?_)
  refine x_cmpeq (tgt := 2151) C hf dL_law_1042 (by decide) (fun hf => ?_) (fun hf => by cases hf)
  obtain rfl := Option.some.inj hf
  refine W.widen (k := cells + 8) (n := slots + 48) (by omega) (by omega) ?_
  exact kk ls H locs hW (lv_sub hl [0, 1, 2, 3, 4] rfl)
set_option maxRecDepth 20000 in
set_option maxHeartbeats 1000000 in
theorem k_case19 {p : Program} {l : Launch} {e : Env} {s : State} {m : MethodId} {b : Nat} {below : List Frame} {meth : Method} {c : Code} {H : Heap} {locs : List Loc} {cells slots : Nat} {Q : State → Prop} {ls : Array Slot} {Z : ZT} {h g : Hp} {L : Nat} {xs : Nat → Int32} {i : Int32} (hm : Z.2.2.2.2 1000 = 1) (hlt : l.stackTraces = false) (C : CX p s m #[.ref b] meth c cL_law RL 7 ret Z) (hX : va_X b L xs s s.heap) (hbl : b < s.heap.size) (hbA : ¬ FR Z b) (hi : ∀ k : Int32, 0 ≤ k → k ≤ 5 → vp_in (i + k) L) (hcs : cells + 8 ≤ 601024 ∧ slots + 48 ≤ 7293034) (hW : XW Z h g s.heap H locs) (hl : lv_has ls 7 [(4, .int i), (0, .ref b), (1, .ref (Z.1 0)), (2, .ref (Z.1 125)), (3, .ref (Z.1 145))]) {out : Hp × Hp} (hf : A_19 h g = some out) (kk : ∀ (ls : Array Slot) (H : Heap) (locs : List Loc), XW Z out.1 out.2 s.heap H locs → lv_has ls 7 [(4, .int i), (0, .ref b), (1, .ref (Z.1 0)), (2, .ref (Z.1 125)), (3, .ref (Z.1 145))] → W p l e room_1 s m #[Value.ref b] below meth c H locs (cells + 8) (slots + 48) Q (F0 m 2151 ls [])) : W p l e room_1 s m #[Value.ref b] below meth c H locs cells slots Q (F0 m 1047 ls []) := by
  unfold A_19 at hf
  refine lv_aload_n C.1 C.2.1 dL_law_1047 rfl (lv_at hl 2 rfl) ?_
  obtain ⟨u0, hcu0, hf⟩ := bnd_t hf
  refine x_calli hW (x_runV C hW hl (wk8 k_0) rfl rfl (c_X10_clips hcu0) cw_L_167 ci_X10_clips cs_X10_clips ⟨rfl, rfl, by decide, by decide⟩ ⟨Nat.le_trans (by omega) hcs.1, Nat.le_trans (by omega) hcs.2⟩ (As := []) rfl rfl (Nat.le_of_ble_eq_true rfl) dL_law_1048) (fun H locs hW => ?_)
  refine lv_aload_n C.1 C.2.1 dL_law_1051 rfl (lv_at hl 3 rfl) ?_
  obtain ⟨u1, hcu1, hf⟩ := bnd_t hf
  refine x_calli hW (x_runV C hW hl (wk9 k_125) rfl rfl (c_X11_clips hcu1) cw_L_170 ci_X11_clips cs_X11_clips ⟨rfl, rfl, by decide, by decide⟩ ⟨Nat.le_trans (by omega) hcs.1, Nat.le_trans (by omega) hcs.2⟩ (As := []) rfl rfl (Nat.le_of_ble_eq_true rfl) dL_law_1052) (fun H locs hW => ?_)
  refine x_cmpeq (tgt := 2151) C hf dL_law_1055 (by decide) (fun hf => ?_) (fun hf => by cases hf)
  obtain rfl := Option.some.inj hf
  refine W.widen (k := cells + 8) (n := slots + 48) (by omega) (by omega) ?_
  exact kk ls H locs hW (lv_sub hl [0, 1, 2, 3, 4] rfl)
set_option maxRecDepth 20000 in
set_option maxHeartbeats 1000000 in
theorem k_case20 {p : Program} {l : Launch} {e : Env} {s : State} {m : MethodId} {b : Nat} {below : List Frame} {meth : Method} {c : Code} {H : Heap} {locs : List Loc} {cells slots : Nat} {Q : State → Prop} {ls : Array Slot} {Z : ZT} {h g : Hp} {L : Nat} {xs : Nat → Int32} {i : Int32} (hm : Z.2.2.2.2 1000 = 1) (hlt : l.stackTraces = false) (C : CX p s m #[.ref b] meth c cL_law RL 7 ret Z) (hX : va_X b L xs s s.heap) (hbl : b < s.heap.size) (hbA : ¬ FR Z b) (hi : ∀ k : Int32, 0 ≤ k → k ≤ 5 → vp_in (i + k) L) (hcs : cells + 8 ≤ 601024 ∧ slots + 48 ≤ 7293034) (hW : XW Z h g s.heap H locs) (hl : lv_has ls 7 [(4, .int i), (0, .ref b), (1, .ref (Z.1 0)), (2, .ref (Z.1 125)), (3, .ref (Z.1 145))]) {out : Hp × Hp} (hf : A_20 h g (xs (ix (i + 1))) (xs (ix (i + 2))) = some out) (kk : ∀ (ls : Array Slot) (H : Heap) (locs : List Loc), XW Z out.1 out.2 s.heap H locs → lv_has ls 7 [(4, .int i), (0, .ref b), (1, .ref (Z.1 0)), (2, .ref (Z.1 125)), (3, .ref (Z.1 145))] → W p l e room_1 s m #[Value.ref b] below meth c H locs (cells + 8) (slots + 48) Q (F0 m 2151 ls [])) : W p l e room_1 s m #[Value.ref b] below meth c H locs cells slots Q (F0 m 1060 ls []) := by
  unfold A_20 at hf
  refine lv_aload_n C.1 C.2.1 dL_law_1060 rfl (lv_at hl 2 rfl) ?_
  refine lv_aload_n C.1 C.2.1 dL_law_1061 rfl (lv_at hl 1 rfl) ?_
  refine lv_iload C.1 C.2.1 dL_law_1062 (lv_at hl 0 rfl) ?_
  refine lv_iconst (v := 1) C.1 C.2.1 dL_law_1064 (by decide) ?_
  refine lv_iadd C.1 C.2.1 dL_law_1065 ?_
  refine va_sld C.1 C.2.1 hX hbl hbA hW.2 (hi 1 (by decide) (by decide)) dL_law_1066 ?_
  refine lv_aload_n C.1 C.2.1 dL_law_1067 rfl (lv_at hl 1 rfl) ?_
  refine lv_iload C.1 C.2.1 dL_law_1068 (lv_at hl 0 rfl) ?_
  refine lv_iconst (v := 2) C.1 C.2.1 dL_law_1070 (by decide) ?_
  refine lv_iadd C.1 C.2.1 dL_law_1071 ?_
  refine va_sld C.1 C.2.1 hX hbl hbA hW.2 (hi 2 (by decide) (by decide)) dL_law_1072 ?_
  obtain ⟨u0, hcu0, hf⟩ := bnd_t hf
  refine x_calli hW (x_runV C hW hl (wk8 k_0) rfl rfl (c_X10_clipField hcu0) cw_L_171 ci_X10_clipField cs_X10_clipField ⟨rfl, rfl, by decide, by decide⟩ ⟨Nat.le_trans (by omega) hcs.1, Nat.le_trans (by omega) hcs.2⟩ (As := [.int (xs (ix (i + 1))), .int (xs (ix (i + 2)))]) rfl rfl (Nat.le_of_ble_eq_true rfl) dL_law_1073) (fun H locs hW => ?_)
  refine lv_aload_n C.1 C.2.1 dL_law_1076 rfl (lv_at hl 3 rfl) ?_
  refine lv_aload_n C.1 C.2.1 dL_law_1077 rfl (lv_at hl 1 rfl) ?_
  refine lv_iload C.1 C.2.1 dL_law_1078 (lv_at hl 0 rfl) ?_
  refine lv_iconst (v := 1) C.1 C.2.1 dL_law_1080 (by decide) ?_
  refine lv_iadd C.1 C.2.1 dL_law_1081 ?_
  refine va_sld C.1 C.2.1 hX hbl hbA hW.2 (hi 1 (by decide) (by decide)) dL_law_1082 ?_
  refine lv_aload_n C.1 C.2.1 dL_law_1083 rfl (lv_at hl 1 rfl) ?_
  refine lv_iload C.1 C.2.1 dL_law_1084 (lv_at hl 0 rfl) ?_
  refine lv_iconst (v := 2) C.1 C.2.1 dL_law_1086 (by decide) ?_
  refine lv_iadd C.1 C.2.1 dL_law_1087 ?_
  refine va_sld C.1 C.2.1 hX hbl hbA hW.2 (hi 2 (by decide) (by decide)) dL_law_1088 ?_
  obtain ⟨u1, hcu1, hf⟩ := bnd_t hf
  refine x_calli hW (x_runV C hW hl (wk9 k_125) rfl rfl (c_X11_clipField hcu1) cw_L_174 ci_X11_clipField cs_X11_clipField ⟨rfl, rfl, by decide, by decide⟩ ⟨Nat.le_trans (by omega) hcs.1, Nat.le_trans (by omega) hcs.2⟩ (As := [.int (xs (ix (i + 1))), .int (xs (ix (i + 2)))]) rfl rfl (Nat.le_of_ble_eq_true rfl) dL_law_1089) (fun H locs hW => ?_)
  refine x_cmpeq (tgt := 2151) C hf dL_law_1092 (by decide) (fun hf => ?_) (fun hf => by cases hf)
  obtain rfl := Option.some.inj hf
  refine W.widen (k := cells + 8) (n := slots + 48) (by omega) (by omega) ?_
  exact kk ls H locs hW (lv_sub hl [0, 1, 2, 3, 4] rfl)
set_option maxRecDepth 20000 in
set_option maxHeartbeats 1000000 in
theorem k_case21 {p : Program} {l : Launch} {e : Env} {s : State} {m : MethodId} {b : Nat} {below : List Frame} {meth : Method} {c : Code} {H : Heap} {locs : List Loc} {cells slots : Nat} {Q : State → Prop} {ls : Array Slot} {Z : ZT} {h g : Hp} {L : Nat} {xs : Nat → Int32} {i : Int32} (hm : Z.2.2.2.2 1000 = 1) (hlt : l.stackTraces = false) (C : CX p s m #[.ref b] meth c cL_law RL 7 ret Z) (hX : va_X b L xs s s.heap) (hbl : b < s.heap.size) (hbA : ¬ FR Z b) (hi : ∀ k : Int32, 0 ≤ k → k ≤ 5 → vp_in (i + k) L) (hcs : cells + 8 ≤ 601024 ∧ slots + 48 ≤ 7293034) (hW : XW Z h g s.heap H locs) (hl : lv_has ls 7 [(4, .int i), (0, .ref b), (1, .ref (Z.1 0)), (2, .ref (Z.1 125)), (3, .ref (Z.1 145))]) {out : Hp × Hp} (hf : A_21 h g (xs (ix (i + 1))) = some out) (kk : ∀ (ls : Array Slot) (H : Heap) (locs : List Loc), XW Z out.1 out.2 s.heap H locs → lv_has ls 7 [(4, .int i), (0, .ref b), (1, .ref (Z.1 0)), (2, .ref (Z.1 125)), (3, .ref (Z.1 145))] → W p l e room_1 s m #[Value.ref b] below meth c H locs (cells + 8) (slots + 48) Q (F0 m 2151 ls [])) : W p l e room_1 s m #[Value.ref b] below meth c H locs cells slots Q (F0 m 1097 ls []) := by
  unfold A_21 at hf
  refine lv_aload_n C.1 C.2.1 dL_law_1097 rfl (lv_at hl 2 rfl) ?_
  refine lv_aload_n C.1 C.2.1 dL_law_1098 rfl (lv_at hl 1 rfl) ?_
  refine lv_iload C.1 C.2.1 dL_law_1099 (lv_at hl 0 rfl) ?_
  refine lv_iconst (v := 1) C.1 C.2.1 dL_law_1101 (by decide) ?_
  refine lv_iadd C.1 C.2.1 dL_law_1102 ?_
  refine va_sld C.1 C.2.1 hX hbl hbA hW.2 (hi 1 (by decide) (by decide)) dL_law_1103 ?_
  obtain ⟨u0, hcu0, hf⟩ := bnd_t hf
  refine x_calli hW (x_runV C hW hl (wk8 k_0) rfl rfl (c_X10_sourceOf hcu0) cw_L_175 ci_X10_sourceOf cs_X10_sourceOf ⟨rfl, rfl, by decide, by decide⟩ ⟨Nat.le_trans (by omega) hcs.1, Nat.le_trans (by omega) hcs.2⟩ (As := [.int (xs (ix (i + 1)))]) rfl rfl (Nat.le_of_ble_eq_true rfl) dL_law_1104) (fun H locs hW => ?_)
  refine lv_aload_n C.1 C.2.1 dL_law_1107 rfl (lv_at hl 3 rfl) ?_
  refine lv_aload_n C.1 C.2.1 dL_law_1108 rfl (lv_at hl 1 rfl) ?_
  refine lv_iload C.1 C.2.1 dL_law_1109 (lv_at hl 0 rfl) ?_
  refine lv_iconst (v := 1) C.1 C.2.1 dL_law_1111 (by decide) ?_
  refine lv_iadd C.1 C.2.1 dL_law_1112 ?_
  refine va_sld C.1 C.2.1 hX hbl hbA hW.2 (hi 1 (by decide) (by decide)) dL_law_1113 ?_
  obtain ⟨u1, hcu1, hf⟩ := bnd_t hf
  refine x_calli hW (x_runV C hW hl (wk9 k_125) rfl rfl (c_X11_sourceOf hcu1) cw_L_178 ci_X11_sourceOf cs_X11_sourceOf ⟨rfl, rfl, by decide, by decide⟩ ⟨Nat.le_trans (by omega) hcs.1, Nat.le_trans (by omega) hcs.2⟩ (As := [.int (xs (ix (i + 1)))]) rfl rfl (Nat.le_of_ble_eq_true rfl) dL_law_1114) (fun H locs hW => ?_)
  refine x_cmpeq (tgt := 2151) C hf dL_law_1117 (by decide) (fun hf => ?_) (fun hf => by cases hf)
  obtain rfl := Option.some.inj hf
  refine W.widen (k := cells + 8) (n := slots + 48) (by omega) (by omega) ?_
  exact kk ls H locs hW (lv_sub hl [0, 1, 2, 3, 4] rfl)
set_option maxRecDepth 20000 in
set_option maxHeartbeats 1000000 in
theorem k_case22 {p : Program} {l : Launch} {e : Env} {s : State} {m : MethodId} {b : Nat} {below : List Frame} {meth : Method} {c : Code} {H : Heap} {locs : List Loc} {cells slots : Nat} {Q : State → Prop} {ls : Array Slot} {Z : ZT} {h g : Hp} {L : Nat} {xs : Nat → Int32} {i : Int32} (hm : Z.2.2.2.2 1000 = 1) (hlt : l.stackTraces = false) (C : CX p s m #[.ref b] meth c cL_law RL 7 ret Z) (hX : va_X b L xs s s.heap) (hbl : b < s.heap.size) (hbA : ¬ FR Z b) (hi : ∀ k : Int32, 0 ≤ k → k ≤ 5 → vp_in (i + k) L) (hcs : cells + 8 ≤ 601024 ∧ slots + 48 ≤ 7293034) (hW : XW Z h g s.heap H locs) (hl : lv_has ls 7 [(4, .int i), (0, .ref b), (1, .ref (Z.1 0)), (2, .ref (Z.1 125)), (3, .ref (Z.1 145))]) {out : Hp × Hp} (hf : A_22 h g (xs (ix (i + 1))) (xs (ix (i + 2))) = some out) (kk : ∀ (ls : Array Slot) (H : Heap) (locs : List Loc), XW Z out.1 out.2 s.heap H locs → lv_has ls 7 [(4, .int i), (0, .ref b), (1, .ref (Z.1 0)), (2, .ref (Z.1 125)), (3, .ref (Z.1 145))] → W p l e room_1 s m #[Value.ref b] below meth c H locs (cells + 8) (slots + 48) Q (F0 m 2151 ls [])) : W p l e room_1 s m #[Value.ref b] below meth c H locs cells slots Q (F0 m 1122 ls []) := by
  unfold A_22 at hf
  refine lv_aload_n C.1 C.2.1 dL_law_1122 rfl (lv_at hl 2 rfl) ?_
  refine lv_aload_n C.1 C.2.1 dL_law_1123 rfl (lv_at hl 1 rfl) ?_
  refine lv_iload C.1 C.2.1 dL_law_1124 (lv_at hl 0 rfl) ?_
  refine lv_iconst (v := 1) C.1 C.2.1 dL_law_1126 (by decide) ?_
  refine lv_iadd C.1 C.2.1 dL_law_1127 ?_
  refine va_sld C.1 C.2.1 hX hbl hbA hW.2 (hi 1 (by decide) (by decide)) dL_law_1128 ?_
  refine lv_aload_n C.1 C.2.1 dL_law_1129 rfl (lv_at hl 1 rfl) ?_
  refine lv_iload C.1 C.2.1 dL_law_1130 (lv_at hl 0 rfl) ?_
  refine lv_iconst (v := 2) C.1 C.2.1 dL_law_1132 (by decide) ?_
  refine lv_iadd C.1 C.2.1 dL_law_1133 ?_
  refine va_sld C.1 C.2.1 hX hbl hbA hW.2 (hi 2 (by decide) (by decide)) dL_law_1134 ?_
  refine lv_aload_n C.1 C.2.1 dL_law_1135 rfl (lv_at hl 4 rfl) ?_
  obtain ⟨u0, hcu0, hf⟩ := bnd_t hf
  refine x_callX hW (x_runSW C hW hl (c_L_heard hlt hm hcu0) cX_L_heard ct_L_heard cwL_179 ⟨rfl, rfl, by decide, by decide⟩ hcs (As := [.ref (Z.1 0), .int (xs (ix (i + 1))), .int (xs (ix (i + 2))), .ref (Z.1 145)]) rfl rfl (Nat.le_of_ble_eq_true rfl) dL_law_1136) (fun H locs hW => ?_)
  refine lv_istore (lv' := [(5, .int u0.1), (4, .int i), (0, .ref b), (1, .ref (Z.1 0)), (2, .ref (Z.1 125)), (3, .ref (Z.1 145))]) C.1 C.2.1 dL_law_1139 hl (by decide) rfl (fun ls hl => ?_)
  refine lv_aload_n C.1 C.2.1 dL_law_1141 rfl (lv_at hl 4 rfl) ?_
  refine lv_aload_n C.1 C.2.1 dL_law_1142 rfl (lv_at hl 2 rfl) ?_
  refine lv_iload C.1 C.2.1 dL_law_1143 (lv_at hl 1 rfl) ?_
  refine lv_iconst (v := 1) C.1 C.2.1 dL_law_1145 (by decide) ?_
  refine lv_iadd C.1 C.2.1 dL_law_1146 ?_
  refine va_sld C.1 C.2.1 hX hbl hbA hW.2 (hi 1 (by decide) (by decide)) dL_law_1147 ?_
  refine lv_aload_n C.1 C.2.1 dL_law_1148 rfl (lv_at hl 2 rfl) ?_
  refine lv_iload C.1 C.2.1 dL_law_1149 (lv_at hl 1 rfl) ?_
  refine lv_iconst (v := 2) C.1 C.2.1 dL_law_1151 (by decide) ?_
  refine lv_iadd C.1 C.2.1 dL_law_1152 ?_
  refine va_sld C.1 C.2.1 hX hbl hbA hW.2 (hi 2 (by decide) (by decide)) dL_law_1153 ?_
  obtain ⟨u1, hcu1, hf⟩ := bnd_t hf
  refine x_calli hW (x_runV C hW hl (wk9 k_125) rfl rfl (c_X11_heard hcu1) cw_L_181 ci_X11_heard cs_X11_heard ⟨rfl, rfl, by decide, by decide⟩ ⟨Nat.le_trans (by omega) hcs.1, Nat.le_trans (by omega) hcs.2⟩ (As := [.int (xs (ix (i + 1))), .int (xs (ix (i + 2)))]) rfl rfl (Nat.le_of_ble_eq_true rfl) dL_law_1154) (fun H locs hW => ?_)
  refine lv_istore (lv' := [(6, .int u1.1), (5, .int u0.1), (4, .int i), (0, .ref b), (1, .ref (Z.1 0)), (2, .ref (Z.1 125)), (3, .ref (Z.1 145))]) C.1 C.2.1 dL_law_1157 hl (by decide) rfl (fun ls hl => ?_)
  refine lv_aload_n C.1 C.2.1 dL_law_1159 rfl (lv_at hl 5 rfl) ?_
  obtain ⟨u2, hcu2, hf⟩ := bnd_t hf
  refine x_calli hW (x_runV C hW hl (wk9 k_125) rfl rfl (c_X11_thrown hcu2) cw_L_106 ci_X11_thrown cs_X11_thrown ⟨rfl, rfl, by decide, by decide⟩ ⟨Nat.le_trans (by omega) hcs.1, Nat.le_trans (by omega) hcs.2⟩ (As := []) rfl rfl (Nat.le_of_ble_eq_true rfl) dL_law_1160) (fun H locs hW => ?_)
  refine lv_iload C.1 C.2.1 dL_law_1163 (lv_at hl 1 rfl) ?_
  refine x_cmpeq (tgt := 1170) C hf dL_law_1165 (by decide) (fun hf => ?_) (fun hf => by cases hf)
  refine lv_iload C.1 C.2.1 dL_law_1170 (lv_at hl 1 rfl) ?_
  refine x_ifne (tgt := 1187) C hf dL_law_1172 (by decide) (fun hf => ?_) (fun hf => ?_)
  · obtain rfl := Option.some.inj hf
    refine lv_goto (tgt := 2151) C.1 C.2.1 dL_law_1187 (by decide) ?_
    exact kk ls H locs hW (lv_sub hl [2, 3, 4, 5, 6] rfl)
  refine lv_aload_n C.1 C.2.1 dL_law_1175 rfl (lv_at hl 6 rfl) ?_
  refine lv_iconst (v := 0) C.1 C.2.1 dL_law_1176 (by decide) ?_
  refine x_outld hm C hW dL_law_1177 ?_
  refine lv_iload C.1 C.2.1 dL_law_1178 (lv_at hl 0 rfl) ?_
  refine lv_i2l C.1 C.2.1 dL_law_1180 rfl ?_
  rcases Classical.em (u1.2 145 0 = u1.1) with q | q
  case inr => have hf := (if_neg q).symm.trans hf; cases hf
  have hf := (if_pos q).symm.trans hf
  refine W.lcmp C.1 C.2.1 dL_law_1181 ?_
  rw [q, lgc_eq]
  refine lv_if_eq (tgt := 1187) C.1 C.2.1 dL_law_1182 (by decide) (fun _ => ?_) (fun q => absurd rfl q)
  refine lv_goto (tgt := 2151) C.1 C.2.1 dL_law_1187 (by decide) ?_
  obtain rfl := Option.some.inj hf
  exact kk ls H locs hW (lv_sub hl [2, 3, 4, 5, 6] rfl)
set_option maxRecDepth 20000 in
set_option maxHeartbeats 1000000 in
theorem k_case23 {p : Program} {l : Launch} {e : Env} {s : State} {m : MethodId} {b : Nat} {below : List Frame} {meth : Method} {c : Code} {H : Heap} {locs : List Loc} {cells slots : Nat} {Q : State → Prop} {ls : Array Slot} {Z : ZT} {h g : Hp} {L : Nat} {xs : Nat → Int32} {i : Int32} (hm : Z.2.2.2.2 1000 = 1) (hlt : l.stackTraces = false) (C : CX p s m #[.ref b] meth c cL_law RL 7 ret Z) (hX : va_X b L xs s s.heap) (hbl : b < s.heap.size) (hbA : ¬ FR Z b) (hi : ∀ k : Int32, 0 ≤ k → k ≤ 5 → vp_in (i + k) L) (hcs : cells + 8 ≤ 601024 ∧ slots + 48 ≤ 7293034) (hW : XW Z h g s.heap H locs) (hl : lv_has ls 7 [(4, .int i), (0, .ref b), (1, .ref (Z.1 0)), (2, .ref (Z.1 125)), (3, .ref (Z.1 145))]) {out : Hp × Hp} (hf : A_23 h g = some out) (kk : ∀ (ls : Array Slot) (H : Heap) (locs : List Loc), XW Z out.1 out.2 s.heap H locs → lv_has ls 7 [(4, .int i), (0, .ref b), (1, .ref (Z.1 0)), (2, .ref (Z.1 125)), (3, .ref (Z.1 145))] → W p l e room_1 s m #[Value.ref b] below meth c H locs (cells + 8) (slots + 48) Q (F0 m 2151 ls [])) : W p l e room_1 s m #[Value.ref b] below meth c H locs cells slots Q (F0 m 1190 ls []) := by
  unfold A_23 at hf
  refine lv_aload_n C.1 C.2.1 dL_law_1190 rfl (lv_at hl 2 rfl) ?_
  obtain ⟨u0, hcu0, hf⟩ := bnd_t hf
  refine x_calli hW (x_runV C hW hl (wk8 k_0) rfl rfl (c_X10_silence hcu0) cw_L_182 ci_X10_silence cs_X10_silence ⟨rfl, rfl, by decide, by decide⟩ ⟨Nat.le_trans (by omega) hcs.1, Nat.le_trans (by omega) hcs.2⟩ (As := []) rfl rfl (Nat.le_of_ble_eq_true rfl) dL_law_1191) (fun H locs hW => ?_)
  refine lv_aload_n C.1 C.2.1 dL_law_1194 rfl (lv_at hl 3 rfl) ?_
  obtain ⟨u1, hcu1, hf⟩ := bnd_t hf
  refine x_calli hW (x_runV C hW hl (wk9 k_125) rfl rfl (c_X11_silence hcu1) cw_L_185 ci_X11_silence cs_X11_silence ⟨rfl, rfl, by decide, by decide⟩ ⟨Nat.le_trans (by omega) hcs.1, Nat.le_trans (by omega) hcs.2⟩ (As := []) rfl rfl (Nat.le_of_ble_eq_true rfl) dL_law_1195) (fun H locs hW => ?_)
  refine x_cmpeq (tgt := 2151) C hf dL_law_1198 (by decide) (fun hf => ?_) (fun hf => by cases hf)
  obtain rfl := Option.some.inj hf
  refine W.widen (k := cells + 8) (n := slots + 48) (by omega) (by omega) ?_
  exact kk ls H locs hW (lv_sub hl [0, 1, 2, 3, 4] rfl)
set_option maxRecDepth 20000 in
set_option maxHeartbeats 1000000 in
theorem k_case24 {p : Program} {l : Launch} {e : Env} {s : State} {m : MethodId} {b : Nat} {below : List Frame} {meth : Method} {c : Code} {H : Heap} {locs : List Loc} {cells slots : Nat} {Q : State → Prop} {ls : Array Slot} {Z : ZT} {h g : Hp} {L : Nat} {xs : Nat → Int32} {i : Int32} (hm : Z.2.2.2.2 1000 = 1) (hlt : l.stackTraces = false) (C : CX p s m #[.ref b] meth c cL_law RL 7 ret Z) (hX : va_X b L xs s s.heap) (hbl : b < s.heap.size) (hbA : ¬ FR Z b) (hi : ∀ k : Int32, 0 ≤ k → k ≤ 5 → vp_in (i + k) L) (hcs : cells + 8 ≤ 601024 ∧ slots + 48 ≤ 7293034) (hW : XW Z h g s.heap H locs) (hl : lv_has ls 7 [(4, .int i), (0, .ref b), (1, .ref (Z.1 0)), (2, .ref (Z.1 125)), (3, .ref (Z.1 145))]) {out : Hp × Hp} (hf : A_24 h g = some out) (kk : ∀ (ls : Array Slot) (H : Heap) (locs : List Loc), XW Z out.1 out.2 s.heap H locs → lv_has ls 7 [(4, .int i), (0, .ref b), (1, .ref (Z.1 0)), (2, .ref (Z.1 125)), (3, .ref (Z.1 145))] → W p l e room_1 s m #[Value.ref b] below meth c H locs (cells + 8) (slots + 48) Q (F0 m 2151 ls [])) : W p l e room_1 s m #[Value.ref b] below meth c H locs cells slots Q (F0 m 1203 ls []) := by
  unfold A_24 at hf
  refine lv_aload_n C.1 C.2.1 dL_law_1203 rfl (lv_at hl 2 rfl) ?_
  obtain ⟨u0, hcu0, hf⟩ := bnd_t hf
  refine x_calli hW (x_runV C hW hl (wk8 k_0) rfl rfl (c_X10_longestSilence hcu0) cw_L_186 ci_X10_longestSilence cs_X10_longestSilence ⟨rfl, rfl, by decide, by decide⟩ ⟨Nat.le_trans (by omega) hcs.1, Nat.le_trans (by omega) hcs.2⟩ (As := []) rfl rfl (Nat.le_of_ble_eq_true rfl) dL_law_1204) (fun H locs hW => ?_)
  refine lv_aload_n C.1 C.2.1 dL_law_1207 rfl (lv_at hl 3 rfl) ?_
  obtain ⟨u1, hcu1, hf⟩ := bnd_t hf
  refine x_calli hW (x_runV C hW hl (wk9 k_125) rfl rfl (c_X11_longestSilence hcu1) cw_L_189 ci_X11_longestSilence cs_X11_longestSilence ⟨rfl, rfl, by decide, by decide⟩ ⟨Nat.le_trans (by omega) hcs.1, Nat.le_trans (by omega) hcs.2⟩ (As := []) rfl rfl (Nat.le_of_ble_eq_true rfl) dL_law_1208) (fun H locs hW => ?_)
  refine x_cmpeq (tgt := 2151) C hf dL_law_1211 (by decide) (fun hf => ?_) (fun hf => by cases hf)
  obtain rfl := Option.some.inj hf
  refine W.widen (k := cells + 8) (n := slots + 48) (by omega) (by omega) ?_
  exact kk ls H locs hW (lv_sub hl [0, 1, 2, 3, 4] rfl)
set_option maxRecDepth 20000 in
set_option maxHeartbeats 1000000 in
theorem k_case25 {p : Program} {l : Launch} {e : Env} {s : State} {m : MethodId} {b : Nat} {below : List Frame} {meth : Method} {c : Code} {H : Heap} {locs : List Loc} {cells slots : Nat} {Q : State → Prop} {ls : Array Slot} {Z : ZT} {h g : Hp} {L : Nat} {xs : Nat → Int32} {i : Int32} (hm : Z.2.2.2.2 1000 = 1) (hlt : l.stackTraces = false) (C : CX p s m #[.ref b] meth c cL_law RL 7 ret Z) (hX : va_X b L xs s s.heap) (hbl : b < s.heap.size) (hbA : ¬ FR Z b) (hi : ∀ k : Int32, 0 ≤ k → k ≤ 5 → vp_in (i + k) L) (hcs : cells + 8 ≤ 601024 ∧ slots + 48 ≤ 7293034) (hW : XW Z h g s.heap H locs) (hl : lv_has ls 7 [(4, .int i), (0, .ref b), (1, .ref (Z.1 0)), (2, .ref (Z.1 125)), (3, .ref (Z.1 145))]) {out : Hp × Hp} (hf : A_25 h g (xs (ix (i + 1))) = some out) (kk : ∀ (ls : Array Slot) (H : Heap) (locs : List Loc), XW Z out.1 out.2 s.heap H locs → lv_has ls 7 [(4, .int i), (0, .ref b), (1, .ref (Z.1 0)), (2, .ref (Z.1 125)), (3, .ref (Z.1 145))] → W p l e room_1 s m #[Value.ref b] below meth c H locs (cells + 8) (slots + 48) Q (F0 m 2151 ls [])) : W p l e room_1 s m #[Value.ref b] below meth c H locs cells slots Q (F0 m 1216 ls []) := by
  unfold A_25 at hf
  refine lv_aload_n C.1 C.2.1 dL_law_1216 rfl (lv_at hl 2 rfl) ?_
  refine lv_aload_n C.1 C.2.1 dL_law_1217 rfl (lv_at hl 1 rfl) ?_
  refine lv_iload C.1 C.2.1 dL_law_1218 (lv_at hl 0 rfl) ?_
  refine lv_iconst (v := 1) C.1 C.2.1 dL_law_1220 (by decide) ?_
  refine lv_iadd C.1 C.2.1 dL_law_1221 ?_
  refine va_sld C.1 C.2.1 hX hbl hbA hW.2 (hi 1 (by decide) (by decide)) dL_law_1222 ?_
  refine lv_aload_n C.1 C.2.1 dL_law_1223 rfl (lv_at hl 4 rfl) ?_
  obtain ⟨u0, hcu0, hf⟩ := bnd_t hf
  refine x_callX hW (x_runSW C hW hl (c_L_speakingTime hlt hm hcu0) cX_L_speakingTime ct_L_speakingTime cwL_190 ⟨rfl, rfl, by decide, by decide⟩ hcs (As := [.ref (Z.1 0), .int (xs (ix (i + 1))), .ref (Z.1 145)]) rfl rfl (Nat.le_of_ble_eq_true rfl) dL_law_1224) (fun H locs hW => ?_)
  refine lv_istore (lv' := [(5, .int u0.1), (4, .int i), (0, .ref b), (1, .ref (Z.1 0)), (2, .ref (Z.1 125)), (3, .ref (Z.1 145))]) C.1 C.2.1 dL_law_1227 hl (by decide) rfl (fun ls hl => ?_)
  refine lv_aload_n C.1 C.2.1 dL_law_1229 rfl (lv_at hl 4 rfl) ?_
  refine lv_aload_n C.1 C.2.1 dL_law_1230 rfl (lv_at hl 2 rfl) ?_
  refine lv_iload C.1 C.2.1 dL_law_1231 (lv_at hl 1 rfl) ?_
  refine lv_iconst (v := 1) C.1 C.2.1 dL_law_1233 (by decide) ?_
  refine lv_iadd C.1 C.2.1 dL_law_1234 ?_
  refine va_sld C.1 C.2.1 hX hbl hbA hW.2 (hi 1 (by decide) (by decide)) dL_law_1235 ?_
  obtain ⟨u1, hcu1, hf⟩ := bnd_t hf
  refine x_calli hW (x_runV C hW hl (wk9 k_125) rfl rfl (c_X11_speakingTime hcu1) cw_L_192 ci_X11_speakingTime cs_X11_speakingTime ⟨rfl, rfl, by decide, by decide⟩ ⟨Nat.le_trans (by omega) hcs.1, Nat.le_trans (by omega) hcs.2⟩ (As := [.int (xs (ix (i + 1)))]) rfl rfl (Nat.le_of_ble_eq_true rfl) dL_law_1236) (fun H locs hW => ?_)
  refine lv_istore (lv' := [(6, .int u1.1), (5, .int u0.1), (4, .int i), (0, .ref b), (1, .ref (Z.1 0)), (2, .ref (Z.1 125)), (3, .ref (Z.1 145))]) C.1 C.2.1 dL_law_1239 hl (by decide) rfl (fun ls hl => ?_)
  refine lv_aload_n C.1 C.2.1 dL_law_1241 rfl (lv_at hl 5 rfl) ?_
  obtain ⟨u2, hcu2, hf⟩ := bnd_t hf
  refine x_calli hW (x_runV C hW hl (wk9 k_125) rfl rfl (c_X11_thrown hcu2) cw_L_106 ci_X11_thrown cs_X11_thrown ⟨rfl, rfl, by decide, by decide⟩ ⟨Nat.le_trans (by omega) hcs.1, Nat.le_trans (by omega) hcs.2⟩ (As := []) rfl rfl (Nat.le_of_ble_eq_true rfl) dL_law_1242) (fun H locs hW => ?_)
  refine lv_iload C.1 C.2.1 dL_law_1245 (lv_at hl 1 rfl) ?_
  refine x_cmpeq (tgt := 1252) C hf dL_law_1247 (by decide) (fun hf => ?_) (fun hf => by cases hf)
  refine lv_iload C.1 C.2.1 dL_law_1252 (lv_at hl 1 rfl) ?_
  refine x_ifne (tgt := 1269) C hf dL_law_1254 (by decide) (fun hf => ?_) (fun hf => ?_)
  · obtain rfl := Option.some.inj hf
    refine lv_goto (tgt := 2151) C.1 C.2.1 dL_law_1269 (by decide) ?_
    exact kk ls H locs hW (lv_sub hl [2, 3, 4, 5, 6] rfl)
  refine lv_aload_n C.1 C.2.1 dL_law_1257 rfl (lv_at hl 6 rfl) ?_
  refine lv_iconst (v := 0) C.1 C.2.1 dL_law_1258 (by decide) ?_
  refine x_outld hm C hW dL_law_1259 ?_
  refine lv_iload C.1 C.2.1 dL_law_1260 (lv_at hl 0 rfl) ?_
  refine lv_i2l C.1 C.2.1 dL_law_1262 rfl ?_
  rcases Classical.em (u1.2 145 0 = u1.1) with q | q
  case inr => have hf := (if_neg q).symm.trans hf; cases hf
  have hf := (if_pos q).symm.trans hf
  refine W.lcmp C.1 C.2.1 dL_law_1263 ?_
  rw [q, lgc_eq]
  refine lv_if_eq (tgt := 1269) C.1 C.2.1 dL_law_1264 (by decide) (fun _ => ?_) (fun q => absurd rfl q)
  refine lv_goto (tgt := 2151) C.1 C.2.1 dL_law_1269 (by decide) ?_
  obtain rfl := Option.some.inj hf
  exact kk ls H locs hW (lv_sub hl [2, 3, 4, 5, 6] rfl)
set_option maxRecDepth 20000 in
set_option maxHeartbeats 1000000 in
theorem k_case26 {p : Program} {l : Launch} {e : Env} {s : State} {m : MethodId} {b : Nat} {below : List Frame} {meth : Method} {c : Code} {H : Heap} {locs : List Loc} {cells slots : Nat} {Q : State → Prop} {ls : Array Slot} {Z : ZT} {h g : Hp} {L : Nat} {xs : Nat → Int32} {i : Int32} (hm : Z.2.2.2.2 1000 = 1) (hlt : l.stackTraces = false) (C : CX p s m #[.ref b] meth c cL_law RL 7 ret Z) (hX : va_X b L xs s s.heap) (hbl : b < s.heap.size) (hbA : ¬ FR Z b) (hi : ∀ k : Int32, 0 ≤ k → k ≤ 5 → vp_in (i + k) L) (hcs : cells + 8 ≤ 601024 ∧ slots + 48 ≤ 7293034) (hW : XW Z h g s.heap H locs) (hl : lv_has ls 7 [(4, .int i), (0, .ref b), (1, .ref (Z.1 0)), (2, .ref (Z.1 125)), (3, .ref (Z.1 145))]) {out : Hp × Hp} (hf : A_26 h g = some out) (kk : ∀ (ls : Array Slot) (H : Heap) (locs : List Loc), XW Z out.1 out.2 s.heap H locs → lv_has ls 7 [(4, .int i), (0, .ref b), (1, .ref (Z.1 0)), (2, .ref (Z.1 125)), (3, .ref (Z.1 145))] → W p l e room_1 s m #[Value.ref b] below meth c H locs (cells + 8) (slots + 48) Q (F0 m 2151 ls [])) : W p l e room_1 s m #[Value.ref b] below meth c H locs cells slots Q (F0 m 1272 ls []) := by
  unfold A_26 at hf
  refine lv_aload_n C.1 C.2.1 dL_law_1272 rfl (lv_at hl 2 rfl) ?_
  obtain ⟨u0, hcu0, hf⟩ := bnd_t hf
  refine x_calli hW (x_runV C hW hl (wk8 k_0) rfl rfl (c_X10_transcriptSize hcu0) cw_L_193 ci_X10_transcriptSize cs_X10_transcriptSize ⟨rfl, rfl, by decide, by decide⟩ ⟨Nat.le_trans (by omega) hcs.1, Nat.le_trans (by omega) hcs.2⟩ (As := []) rfl rfl (Nat.le_of_ble_eq_true rfl) dL_law_1273) (fun H locs hW => ?_)
  refine lv_aload_n C.1 C.2.1 dL_law_1276 rfl (lv_at hl 3 rfl) ?_
  obtain ⟨u1, hcu1, hf⟩ := bnd_t hf
  refine x_calli hW (x_runV C hW hl (wk9 k_125) rfl rfl (c_X11_transcriptSize hcu1) cw_L_196 ci_X11_transcriptSize cs_X11_transcriptSize ⟨rfl, rfl, by decide, by decide⟩ ⟨Nat.le_trans (by omega) hcs.1, Nat.le_trans (by omega) hcs.2⟩ (As := []) rfl rfl (Nat.le_of_ble_eq_true rfl) dL_law_1277) (fun H locs hW => ?_)
  refine x_cmpeq (tgt := 2151) C hf dL_law_1280 (by decide) (fun hf => ?_) (fun hf => by cases hf)
  obtain rfl := Option.some.inj hf
  refine W.widen (k := cells + 8) (n := slots + 48) (by omega) (by omega) ?_
  exact kk ls H locs hW (lv_sub hl [0, 1, 2, 3, 4] rfl)
set_option maxRecDepth 20000 in
set_option maxHeartbeats 1000000 in
theorem k_case27 {p : Program} {l : Launch} {e : Env} {s : State} {m : MethodId} {b : Nat} {below : List Frame} {meth : Method} {c : Code} {H : Heap} {locs : List Loc} {cells slots : Nat} {Q : State → Prop} {ls : Array Slot} {Z : ZT} {h g : Hp} {L : Nat} {xs : Nat → Int32} {i : Int32} (hm : Z.2.2.2.2 1000 = 1) (hlt : l.stackTraces = false) (C : CX p s m #[.ref b] meth c cL_law RL 7 ret Z) (hX : va_X b L xs s s.heap) (hbl : b < s.heap.size) (hbA : ¬ FR Z b) (hi : ∀ k : Int32, 0 ≤ k → k ≤ 5 → vp_in (i + k) L) (hcs : cells + 8 ≤ 601024 ∧ slots + 48 ≤ 7293034) (hW : XW Z h g s.heap H locs) (hl : lv_has ls 7 [(4, .int i), (0, .ref b), (1, .ref (Z.1 0)), (2, .ref (Z.1 125)), (3, .ref (Z.1 145))]) {out : Hp × Hp} (hf : A_27 h g (xs (ix (i + 1))) = some out) (kk : ∀ (ls : Array Slot) (H : Heap) (locs : List Loc), XW Z out.1 out.2 s.heap H locs → lv_has ls 7 [(4, .int i), (0, .ref b), (1, .ref (Z.1 0)), (2, .ref (Z.1 125)), (3, .ref (Z.1 145))] → W p l e room_1 s m #[Value.ref b] below meth c H locs (cells + 8) (slots + 48) Q (F0 m 2151 ls [])) : W p l e room_1 s m #[Value.ref b] below meth c H locs cells slots Q (F0 m 1285 ls []) := by
  unfold A_27 at hf
  refine lv_aload_n C.1 C.2.1 dL_law_1285 rfl (lv_at hl 2 rfl) ?_
  refine lv_aload_n C.1 C.2.1 dL_law_1286 rfl (lv_at hl 1 rfl) ?_
  refine lv_iload C.1 C.2.1 dL_law_1287 (lv_at hl 0 rfl) ?_
  refine lv_iconst (v := 1) C.1 C.2.1 dL_law_1289 (by decide) ?_
  refine lv_iadd C.1 C.2.1 dL_law_1290 ?_
  refine va_sld C.1 C.2.1 hX hbl hbA hW.2 (hi 1 (by decide) (by decide)) dL_law_1291 ?_
  obtain ⟨u0, hcu0, hf⟩ := bnd_t hf
  refine x_calli hW (x_runV C hW hl (wk8 k_0) rfl rfl (c_X10_transcriptWord hcu0) cw_L_197 ci_X10_transcriptWord cs_X10_transcriptWord ⟨rfl, rfl, by decide, by decide⟩ ⟨Nat.le_trans (by omega) hcs.1, Nat.le_trans (by omega) hcs.2⟩ (As := [.int (xs (ix (i + 1)))]) rfl rfl (Nat.le_of_ble_eq_true rfl) dL_law_1292) (fun H locs hW => ?_)
  refine lv_aload_n C.1 C.2.1 dL_law_1295 rfl (lv_at hl 3 rfl) ?_
  refine lv_aload_n C.1 C.2.1 dL_law_1296 rfl (lv_at hl 1 rfl) ?_
  refine lv_iload C.1 C.2.1 dL_law_1297 (lv_at hl 0 rfl) ?_
  refine lv_iconst (v := 1) C.1 C.2.1 dL_law_1299 (by decide) ?_
  refine lv_iadd C.1 C.2.1 dL_law_1300 ?_
  refine va_sld C.1 C.2.1 hX hbl hbA hW.2 (hi 1 (by decide) (by decide)) dL_law_1301 ?_
  obtain ⟨u1, hcu1, hf⟩ := bnd_t hf
  refine x_calli hW (x_runV C hW hl (wk9 k_125) rfl rfl (c_X11_transcriptWord hcu1) cw_L_200 ci_X11_transcriptWord cs_X11_transcriptWord ⟨rfl, rfl, by decide, by decide⟩ ⟨Nat.le_trans (by omega) hcs.1, Nat.le_trans (by omega) hcs.2⟩ (As := [.int (xs (ix (i + 1)))]) rfl rfl (Nat.le_of_ble_eq_true rfl) dL_law_1302) (fun H locs hW => ?_)
  refine x_cmpeq (tgt := 2151) C hf dL_law_1305 (by decide) (fun hf => ?_) (fun hf => by cases hf)
  obtain rfl := Option.some.inj hf
  refine W.widen (k := cells + 8) (n := slots + 48) (by omega) (by omega) ?_
  exact kk ls H locs hW (lv_sub hl [0, 1, 2, 3, 4] rfl)
set_option maxRecDepth 20000 in
set_option maxHeartbeats 1000000 in
theorem k_case28 {p : Program} {l : Launch} {e : Env} {s : State} {m : MethodId} {b : Nat} {below : List Frame} {meth : Method} {c : Code} {H : Heap} {locs : List Loc} {cells slots : Nat} {Q : State → Prop} {ls : Array Slot} {Z : ZT} {h g : Hp} {L : Nat} {xs : Nat → Int32} {i : Int32} (hm : Z.2.2.2.2 1000 = 1) (hlt : l.stackTraces = false) (C : CX p s m #[.ref b] meth c cL_law RL 7 ret Z) (hX : va_X b L xs s s.heap) (hbl : b < s.heap.size) (hbA : ¬ FR Z b) (hi : ∀ k : Int32, 0 ≤ k → k ≤ 5 → vp_in (i + k) L) (hcs : cells + 8 ≤ 601024 ∧ slots + 48 ≤ 7293034) (hW : XW Z h g s.heap H locs) (hl : lv_has ls 7 [(4, .int i), (0, .ref b), (1, .ref (Z.1 0)), (2, .ref (Z.1 125)), (3, .ref (Z.1 145))]) {out : Hp × Hp} (hf : A_28 h g (xs (ix (i + 1))) = some out) (kk : ∀ (ls : Array Slot) (H : Heap) (locs : List Loc), XW Z out.1 out.2 s.heap H locs → lv_has ls 7 [(4, .int i), (0, .ref b), (1, .ref (Z.1 0)), (2, .ref (Z.1 125)), (3, .ref (Z.1 145))] → W p l e room_1 s m #[Value.ref b] below meth c H locs (cells + 8) (slots + 48) Q (F0 m 2151 ls [])) : W p l e room_1 s m #[Value.ref b] below meth c H locs cells slots Q (F0 m 1310 ls []) := by
  unfold A_28 at hf
  refine lv_aload_n C.1 C.2.1 dL_law_1310 rfl (lv_at hl 2 rfl) ?_
  refine lv_aload_n C.1 C.2.1 dL_law_1311 rfl (lv_at hl 1 rfl) ?_
  refine lv_iload C.1 C.2.1 dL_law_1312 (lv_at hl 0 rfl) ?_
  refine lv_iconst (v := 1) C.1 C.2.1 dL_law_1314 (by decide) ?_
  refine lv_iadd C.1 C.2.1 dL_law_1315 ?_
  refine va_sld C.1 C.2.1 hX hbl hbA hW.2 (hi 1 (by decide) (by decide)) dL_law_1316 ?_
  refine lv_aload_n C.1 C.2.1 dL_law_1317 rfl (lv_at hl 4 rfl) ?_
  obtain ⟨u0, hcu0, hf⟩ := bnd_t hf
  refine x_callX hW (x_runSW C hW hl (c_L_placeOf hlt hm hcu0) cX_L_placeOf ct_L_placeOf cwL_201 ⟨rfl, rfl, by decide, by decide⟩ hcs (As := [.ref (Z.1 0), .int (xs (ix (i + 1))), .ref (Z.1 145)]) rfl rfl (Nat.le_of_ble_eq_true rfl) dL_law_1318) (fun H locs hW => ?_)
  refine lv_istore (lv' := [(5, .int u0.1), (4, .int i), (0, .ref b), (1, .ref (Z.1 0)), (2, .ref (Z.1 125)), (3, .ref (Z.1 145))]) C.1 C.2.1 dL_law_1321 hl (by decide) rfl (fun ls hl => ?_)
  refine lv_aload_n C.1 C.2.1 dL_law_1323 rfl (lv_at hl 4 rfl) ?_
  refine lv_aload_n C.1 C.2.1 dL_law_1324 rfl (lv_at hl 2 rfl) ?_
  refine lv_iload C.1 C.2.1 dL_law_1325 (lv_at hl 1 rfl) ?_
  refine lv_iconst (v := 1) C.1 C.2.1 dL_law_1327 (by decide) ?_
  refine lv_iadd C.1 C.2.1 dL_law_1328 ?_
  refine va_sld C.1 C.2.1 hX hbl hbA hW.2 (hi 1 (by decide) (by decide)) dL_law_1329 ?_
  obtain ⟨u1, hcu1, hf⟩ := bnd_t hf
  refine x_calli hW (x_runV C hW hl (wk9 k_125) rfl rfl (c_X11_placeOf hcu1) cw_L_203 ci_X11_placeOf cs_X11_placeOf ⟨rfl, rfl, by decide, by decide⟩ ⟨Nat.le_trans (by omega) hcs.1, Nat.le_trans (by omega) hcs.2⟩ (As := [.int (xs (ix (i + 1)))]) rfl rfl (Nat.le_of_ble_eq_true rfl) dL_law_1330) (fun H locs hW => ?_)
  refine lv_istore (lv' := [(6, .int u1.1), (5, .int u0.1), (4, .int i), (0, .ref b), (1, .ref (Z.1 0)), (2, .ref (Z.1 125)), (3, .ref (Z.1 145))]) C.1 C.2.1 dL_law_1333 hl (by decide) rfl (fun ls hl => ?_)
  refine lv_aload_n C.1 C.2.1 dL_law_1335 rfl (lv_at hl 5 rfl) ?_
  obtain ⟨u2, hcu2, hf⟩ := bnd_t hf
  refine x_calli hW (x_runV C hW hl (wk9 k_125) rfl rfl (c_X11_thrown hcu2) cw_L_106 ci_X11_thrown cs_X11_thrown ⟨rfl, rfl, by decide, by decide⟩ ⟨Nat.le_trans (by omega) hcs.1, Nat.le_trans (by omega) hcs.2⟩ (As := []) rfl rfl (Nat.le_of_ble_eq_true rfl) dL_law_1336) (fun H locs hW => ?_)
  refine lv_iload C.1 C.2.1 dL_law_1339 (lv_at hl 1 rfl) ?_
  refine x_cmpeq (tgt := 1346) C hf dL_law_1341 (by decide) (fun hf => ?_) (fun hf => by cases hf)
  refine lv_iload C.1 C.2.1 dL_law_1346 (lv_at hl 1 rfl) ?_
  refine x_ifne (tgt := 1363) C hf dL_law_1348 (by decide) (fun hf => ?_) (fun hf => ?_)
  · obtain rfl := Option.some.inj hf
    refine lv_goto (tgt := 2151) C.1 C.2.1 dL_law_1363 (by decide) ?_
    exact kk ls H locs hW (lv_sub hl [2, 3, 4, 5, 6] rfl)
  refine lv_aload_n C.1 C.2.1 dL_law_1351 rfl (lv_at hl 6 rfl) ?_
  refine lv_iconst (v := 0) C.1 C.2.1 dL_law_1352 (by decide) ?_
  refine x_outld hm C hW dL_law_1353 ?_
  refine lv_iload C.1 C.2.1 dL_law_1354 (lv_at hl 0 rfl) ?_
  refine lv_i2l C.1 C.2.1 dL_law_1356 rfl ?_
  rcases Classical.em (u1.2 145 0 = u1.1) with q | q
  case inr => have hf := (if_neg q).symm.trans hf; cases hf
  have hf := (if_pos q).symm.trans hf
  refine W.lcmp C.1 C.2.1 dL_law_1357 ?_
  rw [q, lgc_eq]
  refine lv_if_eq (tgt := 1363) C.1 C.2.1 dL_law_1358 (by decide) (fun _ => ?_) (fun q => absurd rfl q)
  refine lv_goto (tgt := 2151) C.1 C.2.1 dL_law_1363 (by decide) ?_
  obtain rfl := Option.some.inj hf
  exact kk ls H locs hW (lv_sub hl [2, 3, 4, 5, 6] rfl)
set_option maxRecDepth 20000 in
set_option maxHeartbeats 1000000 in
theorem k_case29 {p : Program} {l : Launch} {e : Env} {s : State} {m : MethodId} {b : Nat} {below : List Frame} {meth : Method} {c : Code} {H : Heap} {locs : List Loc} {cells slots : Nat} {Q : State → Prop} {ls : Array Slot} {Z : ZT} {h g : Hp} {L : Nat} {xs : Nat → Int32} {i : Int32} (hm : Z.2.2.2.2 1000 = 1) (hlt : l.stackTraces = false) (C : CX p s m #[.ref b] meth c cL_law RL 7 ret Z) (hX : va_X b L xs s s.heap) (hbl : b < s.heap.size) (hbA : ¬ FR Z b) (hi : ∀ k : Int32, 0 ≤ k → k ≤ 5 → vp_in (i + k) L) (hcs : cells + 8 ≤ 601024 ∧ slots + 48 ≤ 7293034) (hW : XW Z h g s.heap H locs) (hl : lv_has ls 7 [(4, .int i), (0, .ref b), (1, .ref (Z.1 0)), (2, .ref (Z.1 125)), (3, .ref (Z.1 145))]) {out : Hp × Hp} (hf : A_29 h g (xs (ix (i + 1))) = some out) (kk : ∀ (ls : Array Slot) (H : Heap) (locs : List Loc), XW Z out.1 out.2 s.heap H locs → lv_has ls 7 [(4, .int i), (0, .ref b), (1, .ref (Z.1 0)), (2, .ref (Z.1 125)), (3, .ref (Z.1 145))] → W p l e room_1 s m #[Value.ref b] below meth c H locs (cells + 8) (slots + 48) Q (F0 m 2151 ls [])) : W p l e room_1 s m #[Value.ref b] below meth c H locs cells slots Q (F0 m 1366 ls []) := by
  unfold A_29 at hf
  refine lv_aload_n C.1 C.2.1 dL_law_1366 rfl (lv_at hl 2 rfl) ?_
  refine lv_aload_n C.1 C.2.1 dL_law_1367 rfl (lv_at hl 1 rfl) ?_
  refine lv_iload C.1 C.2.1 dL_law_1368 (lv_at hl 0 rfl) ?_
  refine lv_iconst (v := 1) C.1 C.2.1 dL_law_1370 (by decide) ?_
  refine lv_iadd C.1 C.2.1 dL_law_1371 ?_
  refine va_sld C.1 C.2.1 hX hbl hbA hW.2 (hi 1 (by decide) (by decide)) dL_law_1372 ?_
  refine lv_aload_n C.1 C.2.1 dL_law_1373 rfl (lv_at hl 4 rfl) ?_
  obtain ⟨u0, hcu0, hf⟩ := bnd_t hf
  refine x_callX hW (x_runSW C hW hl (c_L_startInFilm hlt hm hcu0) cX_L_startInFilm ct_L_startInFilm cwL_204 ⟨rfl, rfl, by decide, by decide⟩ hcs (As := [.ref (Z.1 0), .int (xs (ix (i + 1))), .ref (Z.1 145)]) rfl rfl (Nat.le_of_ble_eq_true rfl) dL_law_1374) (fun H locs hW => ?_)
  refine lv_istore (lv' := [(5, .int u0.1), (4, .int i), (0, .ref b), (1, .ref (Z.1 0)), (2, .ref (Z.1 125)), (3, .ref (Z.1 145))]) C.1 C.2.1 dL_law_1377 hl (by decide) rfl (fun ls hl => ?_)
  refine lv_aload_n C.1 C.2.1 dL_law_1379 rfl (lv_at hl 4 rfl) ?_
  refine lv_aload_n C.1 C.2.1 dL_law_1380 rfl (lv_at hl 2 rfl) ?_
  refine lv_iload C.1 C.2.1 dL_law_1381 (lv_at hl 1 rfl) ?_
  refine lv_iconst (v := 1) C.1 C.2.1 dL_law_1383 (by decide) ?_
  refine lv_iadd C.1 C.2.1 dL_law_1384 ?_
  refine va_sld C.1 C.2.1 hX hbl hbA hW.2 (hi 1 (by decide) (by decide)) dL_law_1385 ?_
  obtain ⟨u1, hcu1, hf⟩ := bnd_t hf
  refine x_calli hW (x_runV C hW hl (wk9 k_125) rfl rfl (c_X11_startInFilm hcu1) cw_L_206 ci_X11_startInFilm cs_X11_startInFilm ⟨rfl, rfl, by decide, by decide⟩ ⟨Nat.le_trans (by omega) hcs.1, Nat.le_trans (by omega) hcs.2⟩ (As := [.int (xs (ix (i + 1)))]) rfl rfl (Nat.le_of_ble_eq_true rfl) dL_law_1386) (fun H locs hW => ?_)
  refine lv_istore (lv' := [(6, .int u1.1), (5, .int u0.1), (4, .int i), (0, .ref b), (1, .ref (Z.1 0)), (2, .ref (Z.1 125)), (3, .ref (Z.1 145))]) C.1 C.2.1 dL_law_1389 hl (by decide) rfl (fun ls hl => ?_)
  refine lv_aload_n C.1 C.2.1 dL_law_1391 rfl (lv_at hl 5 rfl) ?_
  obtain ⟨u2, hcu2, hf⟩ := bnd_t hf
  refine x_calli hW (x_runV C hW hl (wk9 k_125) rfl rfl (c_X11_thrown hcu2) cw_L_106 ci_X11_thrown cs_X11_thrown ⟨rfl, rfl, by decide, by decide⟩ ⟨Nat.le_trans (by omega) hcs.1, Nat.le_trans (by omega) hcs.2⟩ (As := []) rfl rfl (Nat.le_of_ble_eq_true rfl) dL_law_1392) (fun H locs hW => ?_)
  refine lv_iload C.1 C.2.1 dL_law_1395 (lv_at hl 1 rfl) ?_
  refine x_cmpeq (tgt := 1402) C hf dL_law_1397 (by decide) (fun hf => ?_) (fun hf => by cases hf)
  refine lv_iload C.1 C.2.1 dL_law_1402 (lv_at hl 1 rfl) ?_
  refine x_ifne (tgt := 1419) C hf dL_law_1404 (by decide) (fun hf => ?_) (fun hf => ?_)
  · obtain rfl := Option.some.inj hf
    refine lv_goto (tgt := 2151) C.1 C.2.1 dL_law_1419 (by decide) ?_
    exact kk ls H locs hW (lv_sub hl [2, 3, 4, 5, 6] rfl)
  refine lv_aload_n C.1 C.2.1 dL_law_1407 rfl (lv_at hl 6 rfl) ?_
  refine lv_iconst (v := 0) C.1 C.2.1 dL_law_1408 (by decide) ?_
  refine x_outld hm C hW dL_law_1409 ?_
  refine lv_iload C.1 C.2.1 dL_law_1410 (lv_at hl 0 rfl) ?_
  refine lv_i2l C.1 C.2.1 dL_law_1412 rfl ?_
  rcases Classical.em (u1.2 145 0 = u1.1) with q | q
  case inr => have hf := (if_neg q).symm.trans hf; cases hf
  have hf := (if_pos q).symm.trans hf
  refine W.lcmp C.1 C.2.1 dL_law_1413 ?_
  rw [q, lgc_eq]
  refine lv_if_eq (tgt := 1419) C.1 C.2.1 dL_law_1414 (by decide) (fun _ => ?_) (fun q => absurd rfl q)
  refine lv_goto (tgt := 2151) C.1 C.2.1 dL_law_1419 (by decide) ?_
  obtain rfl := Option.some.inj hf
  exact kk ls H locs hW (lv_sub hl [2, 3, 4, 5, 6] rfl)
set_option maxRecDepth 20000 in
set_option maxHeartbeats 1000000 in
theorem k_case30 {p : Program} {l : Launch} {e : Env} {s : State} {m : MethodId} {b : Nat} {below : List Frame} {meth : Method} {c : Code} {H : Heap} {locs : List Loc} {cells slots : Nat} {Q : State → Prop} {ls : Array Slot} {Z : ZT} {h g : Hp} {L : Nat} {xs : Nat → Int32} {i : Int32} (hm : Z.2.2.2.2 1000 = 1) (hlt : l.stackTraces = false) (C : CX p s m #[.ref b] meth c cL_law RL 7 ret Z) (hX : va_X b L xs s s.heap) (hbl : b < s.heap.size) (hbA : ¬ FR Z b) (hi : ∀ k : Int32, 0 ≤ k → k ≤ 5 → vp_in (i + k) L) (hcs : cells + 8 ≤ 601024 ∧ slots + 48 ≤ 7293034) (hW : XW Z h g s.heap H locs) (hl : lv_has ls 7 [(4, .int i), (0, .ref b), (1, .ref (Z.1 0)), (2, .ref (Z.1 125)), (3, .ref (Z.1 145))]) {out : Hp × Hp} (hf : A_30 h g (xs (ix (i + 1))) = some out) (kk : ∀ (ls : Array Slot) (H : Heap) (locs : List Loc), XW Z out.1 out.2 s.heap H locs → lv_has ls 7 [(4, .int i), (0, .ref b), (1, .ref (Z.1 0)), (2, .ref (Z.1 125)), (3, .ref (Z.1 145))] → W p l e room_1 s m #[Value.ref b] below meth c H locs (cells + 8) (slots + 48) Q (F0 m 2151 ls [])) : W p l e room_1 s m #[Value.ref b] below meth c H locs cells slots Q (F0 m 1422 ls []) := by
  unfold A_30 at hf
  refine lv_aload_n C.1 C.2.1 dL_law_1422 rfl (lv_at hl 2 rfl) ?_
  refine lv_aload_n C.1 C.2.1 dL_law_1423 rfl (lv_at hl 1 rfl) ?_
  refine lv_iload C.1 C.2.1 dL_law_1424 (lv_at hl 0 rfl) ?_
  refine lv_iconst (v := 1) C.1 C.2.1 dL_law_1426 (by decide) ?_
  refine lv_iadd C.1 C.2.1 dL_law_1427 ?_
  refine va_sld C.1 C.2.1 hX hbl hbA hW.2 (hi 1 (by decide) (by decide)) dL_law_1428 ?_
  refine lv_aload_n C.1 C.2.1 dL_law_1429 rfl (lv_at hl 4 rfl) ?_
  obtain ⟨u0, hcu0, hf⟩ := bnd_t hf
  refine x_callX hW (x_runSW C hW hl (c_L_occurrences hlt hm hcu0) cX_L_occurrences ct_L_occurrences cwL_207 ⟨rfl, rfl, by decide, by decide⟩ hcs (As := [.ref (Z.1 0), .int (xs (ix (i + 1))), .ref (Z.1 145)]) rfl rfl (Nat.le_of_ble_eq_true rfl) dL_law_1430) (fun H locs hW => ?_)
  refine lv_istore (lv' := [(5, .int u0.1), (4, .int i), (0, .ref b), (1, .ref (Z.1 0)), (2, .ref (Z.1 125)), (3, .ref (Z.1 145))]) C.1 C.2.1 dL_law_1433 hl (by decide) rfl (fun ls hl => ?_)
  refine lv_aload_n C.1 C.2.1 dL_law_1435 rfl (lv_at hl 4 rfl) ?_
  refine lv_aload_n C.1 C.2.1 dL_law_1436 rfl (lv_at hl 2 rfl) ?_
  refine lv_iload C.1 C.2.1 dL_law_1437 (lv_at hl 1 rfl) ?_
  refine lv_iconst (v := 1) C.1 C.2.1 dL_law_1439 (by decide) ?_
  refine lv_iadd C.1 C.2.1 dL_law_1440 ?_
  refine va_sld C.1 C.2.1 hX hbl hbA hW.2 (hi 1 (by decide) (by decide)) dL_law_1441 ?_
  obtain ⟨u1, hcu1, hf⟩ := bnd_t hf
  refine x_calli hW (x_runV C hW hl (wk9 k_125) rfl rfl (c_X11_occurrences hcu1) cw_L_209 ci_X11_occurrences cs_X11_occurrences ⟨rfl, rfl, by decide, by decide⟩ ⟨Nat.le_trans (by omega) hcs.1, Nat.le_trans (by omega) hcs.2⟩ (As := [.int (xs (ix (i + 1)))]) rfl rfl (Nat.le_of_ble_eq_true rfl) dL_law_1442) (fun H locs hW => ?_)
  refine lv_istore (lv' := [(6, .int u1.1), (5, .int u0.1), (4, .int i), (0, .ref b), (1, .ref (Z.1 0)), (2, .ref (Z.1 125)), (3, .ref (Z.1 145))]) C.1 C.2.1 dL_law_1445 hl (by decide) rfl (fun ls hl => ?_)
  refine lv_aload_n C.1 C.2.1 dL_law_1447 rfl (lv_at hl 5 rfl) ?_
  obtain ⟨u2, hcu2, hf⟩ := bnd_t hf
  refine x_calli hW (x_runV C hW hl (wk9 k_125) rfl rfl (c_X11_thrown hcu2) cw_L_106 ci_X11_thrown cs_X11_thrown ⟨rfl, rfl, by decide, by decide⟩ ⟨Nat.le_trans (by omega) hcs.1, Nat.le_trans (by omega) hcs.2⟩ (As := []) rfl rfl (Nat.le_of_ble_eq_true rfl) dL_law_1448) (fun H locs hW => ?_)
  refine lv_iload C.1 C.2.1 dL_law_1451 (lv_at hl 1 rfl) ?_
  refine x_cmpeq (tgt := 1458) C hf dL_law_1453 (by decide) (fun hf => ?_) (fun hf => by cases hf)
  refine lv_iload C.1 C.2.1 dL_law_1458 (lv_at hl 1 rfl) ?_
  refine x_ifne (tgt := 1475) C hf dL_law_1460 (by decide) (fun hf => ?_) (fun hf => ?_)
  · obtain rfl := Option.some.inj hf
    refine lv_goto (tgt := 2151) C.1 C.2.1 dL_law_1475 (by decide) ?_
    exact kk ls H locs hW (lv_sub hl [2, 3, 4, 5, 6] rfl)
  refine lv_aload_n C.1 C.2.1 dL_law_1463 rfl (lv_at hl 6 rfl) ?_
  refine lv_iconst (v := 0) C.1 C.2.1 dL_law_1464 (by decide) ?_
  refine x_outld hm C hW dL_law_1465 ?_
  refine lv_iload C.1 C.2.1 dL_law_1466 (lv_at hl 0 rfl) ?_
  refine lv_i2l C.1 C.2.1 dL_law_1468 rfl ?_
  rcases Classical.em (u1.2 145 0 = u1.1) with q | q
  case inr => have hf := (if_neg q).symm.trans hf; cases hf
  have hf := (if_pos q).symm.trans hf
  refine W.lcmp C.1 C.2.1 dL_law_1469 ?_
  rw [q, lgc_eq]
  refine lv_if_eq (tgt := 1475) C.1 C.2.1 dL_law_1470 (by decide) (fun _ => ?_) (fun q => absurd rfl q)
  refine lv_goto (tgt := 2151) C.1 C.2.1 dL_law_1475 (by decide) ?_
  obtain rfl := Option.some.inj hf
  exact kk ls H locs hW (lv_sub hl [2, 3, 4, 5, 6] rfl)
set_option maxRecDepth 20000 in
set_option maxHeartbeats 1000000 in
theorem k_case31 {p : Program} {l : Launch} {e : Env} {s : State} {m : MethodId} {b : Nat} {below : List Frame} {meth : Method} {c : Code} {H : Heap} {locs : List Loc} {cells slots : Nat} {Q : State → Prop} {ls : Array Slot} {Z : ZT} {h g : Hp} {L : Nat} {xs : Nat → Int32} {i : Int32} (hm : Z.2.2.2.2 1000 = 1) (hlt : l.stackTraces = false) (C : CX p s m #[.ref b] meth c cL_law RL 7 ret Z) (hX : va_X b L xs s s.heap) (hbl : b < s.heap.size) (hbA : ¬ FR Z b) (hi : ∀ k : Int32, 0 ≤ k → k ≤ 5 → vp_in (i + k) L) (hcs : cells + 8 ≤ 601024 ∧ slots + 48 ≤ 7293034) (hW : XW Z h g s.heap H locs) (hl : lv_has ls 7 [(4, .int i), (0, .ref b), (1, .ref (Z.1 0)), (2, .ref (Z.1 125)), (3, .ref (Z.1 145))]) {out : Hp × Hp} (hf : A_31 h g = some out) (kk : ∀ (ls : Array Slot) (H : Heap) (locs : List Loc), XW Z out.1 out.2 s.heap H locs → lv_has ls 7 [(4, .int i), (0, .ref b), (1, .ref (Z.1 0)), (2, .ref (Z.1 125)), (3, .ref (Z.1 145))] → W p l e room_1 s m #[Value.ref b] below meth c H locs (cells + 8) (slots + 48) Q (F0 m 2151 ls [])) : W p l e room_1 s m #[Value.ref b] below meth c H locs cells slots Q (F0 m 1478 ls []) := by
  unfold A_31 at hf
  refine lv_aload_n C.1 C.2.1 dL_law_1478 rfl (lv_at hl 2 rfl) ?_
  obtain ⟨u0, hcu0, hf⟩ := bnd_t hf
  refine x_calli hW (x_runV C hW hl (wk8 k_0) rfl rfl (c_X10_stutters hcu0) cw_L_210 ci_X10_stutters cs_X10_stutters ⟨rfl, rfl, by decide, by decide⟩ ⟨Nat.le_trans (by omega) hcs.1, Nat.le_trans (by omega) hcs.2⟩ (As := []) rfl rfl (Nat.le_of_ble_eq_true rfl) dL_law_1479) (fun H locs hW => ?_)
  refine lv_aload_n C.1 C.2.1 dL_law_1482 rfl (lv_at hl 3 rfl) ?_
  obtain ⟨u1, hcu1, hf⟩ := bnd_t hf
  refine x_calli hW (x_runV C hW hl (wk9 k_125) rfl rfl (c_X11_stutters hcu1) cw_L_213 ci_X11_stutters cs_X11_stutters ⟨rfl, rfl, by decide, by decide⟩ ⟨Nat.le_trans (by omega) hcs.1, Nat.le_trans (by omega) hcs.2⟩ (As := []) rfl rfl (Nat.le_of_ble_eq_true rfl) dL_law_1483) (fun H locs hW => ?_)
  refine x_cmpeq (tgt := 2151) C hf dL_law_1486 (by decide) (fun hf => ?_) (fun hf => by cases hf)
  obtain rfl := Option.some.inj hf
  refine W.widen (k := cells + 8) (n := slots + 48) (by omega) (by omega) ?_
  exact kk ls H locs hW (lv_sub hl [0, 1, 2, 3, 4] rfl)
set_option maxRecDepth 20000 in
set_option maxHeartbeats 1000000 in
theorem k_case32 {p : Program} {l : Launch} {e : Env} {s : State} {m : MethodId} {b : Nat} {below : List Frame} {meth : Method} {c : Code} {H : Heap} {locs : List Loc} {cells slots : Nat} {Q : State → Prop} {ls : Array Slot} {Z : ZT} {h g : Hp} {L : Nat} {xs : Nat → Int32} {i : Int32} (hm : Z.2.2.2.2 1000 = 1) (hlt : l.stackTraces = false) (C : CX p s m #[.ref b] meth c cL_law RL 7 ret Z) (hX : va_X b L xs s s.heap) (hbl : b < s.heap.size) (hbA : ¬ FR Z b) (hi : ∀ k : Int32, 0 ≤ k → k ≤ 5 → vp_in (i + k) L) (hcs : cells + 8 ≤ 601024 ∧ slots + 48 ≤ 7293034) (hW : XW Z h g s.heap H locs) (hl : lv_has ls 7 [(4, .int i), (0, .ref b), (1, .ref (Z.1 0)), (2, .ref (Z.1 125)), (3, .ref (Z.1 145))]) {out : Hp × Hp} (hf : A_32 h g (xs (ix (i + 1))) (xs (ix (i + 2))) = some out) (kk : ∀ (ls : Array Slot) (H : Heap) (locs : List Loc), XW Z out.1 out.2 s.heap H locs → lv_has ls 7 [(4, .int i), (0, .ref b), (1, .ref (Z.1 0)), (2, .ref (Z.1 125)), (3, .ref (Z.1 145))] → W p l e room_1 s m #[Value.ref b] below meth c H locs (cells + 8) (slots + 48) Q (F0 m 2151 ls [])) : W p l e room_1 s m #[Value.ref b] below meth c H locs cells slots Q (F0 m 1491 ls []) := by
  unfold A_32 at hf
  refine lv_aload_n C.1 C.2.1 dL_law_1491 rfl (lv_at hl 2 rfl) ?_
  refine lv_aload_n C.1 C.2.1 dL_law_1492 rfl (lv_at hl 1 rfl) ?_
  refine lv_iload C.1 C.2.1 dL_law_1493 (lv_at hl 0 rfl) ?_
  refine lv_iconst (v := 1) C.1 C.2.1 dL_law_1495 (by decide) ?_
  refine lv_iadd C.1 C.2.1 dL_law_1496 ?_
  refine va_sld C.1 C.2.1 hX hbl hbA hW.2 (hi 1 (by decide) (by decide)) dL_law_1497 ?_
  refine lv_aload_n C.1 C.2.1 dL_law_1498 rfl (lv_at hl 1 rfl) ?_
  refine lv_iload C.1 C.2.1 dL_law_1499 (lv_at hl 0 rfl) ?_
  refine lv_iconst (v := 2) C.1 C.2.1 dL_law_1501 (by decide) ?_
  refine lv_iadd C.1 C.2.1 dL_law_1502 ?_
  refine va_sld C.1 C.2.1 hX hbl hbA hW.2 (hi 2 (by decide) (by decide)) dL_law_1503 ?_
  refine lv_aload_n C.1 C.2.1 dL_law_1504 rfl (lv_at hl 4 rfl) ?_
  obtain ⟨u0, hcu0, hf⟩ := bnd_t hf
  refine x_callX hW (x_runSW C hW hl (c_L_lengthIfCut hlt hm hcu0) cX_L_lengthIfCut ct_L_lengthIfCut cwL_214 ⟨rfl, rfl, by decide, by decide⟩ hcs (As := [.ref (Z.1 0), .int (xs (ix (i + 1))), .int (xs (ix (i + 2))), .ref (Z.1 145)]) rfl rfl (Nat.le_of_ble_eq_true rfl) dL_law_1505) (fun H locs hW => ?_)
  refine lv_istore (lv' := [(5, .int u0.1), (4, .int i), (0, .ref b), (1, .ref (Z.1 0)), (2, .ref (Z.1 125)), (3, .ref (Z.1 145))]) C.1 C.2.1 dL_law_1508 hl (by decide) rfl (fun ls hl => ?_)
  refine lv_aload_n C.1 C.2.1 dL_law_1510 rfl (lv_at hl 4 rfl) ?_
  refine lv_aload_n C.1 C.2.1 dL_law_1511 rfl (lv_at hl 2 rfl) ?_
  refine lv_iload C.1 C.2.1 dL_law_1512 (lv_at hl 1 rfl) ?_
  refine lv_iconst (v := 1) C.1 C.2.1 dL_law_1514 (by decide) ?_
  refine lv_iadd C.1 C.2.1 dL_law_1515 ?_
  refine va_sld C.1 C.2.1 hX hbl hbA hW.2 (hi 1 (by decide) (by decide)) dL_law_1516 ?_
  refine lv_aload_n C.1 C.2.1 dL_law_1517 rfl (lv_at hl 2 rfl) ?_
  refine lv_iload C.1 C.2.1 dL_law_1518 (lv_at hl 1 rfl) ?_
  refine lv_iconst (v := 2) C.1 C.2.1 dL_law_1520 (by decide) ?_
  refine lv_iadd C.1 C.2.1 dL_law_1521 ?_
  refine va_sld C.1 C.2.1 hX hbl hbA hW.2 (hi 2 (by decide) (by decide)) dL_law_1522 ?_
  obtain ⟨u1, hcu1, hf⟩ := bnd_t hf
  refine x_calli hW (x_runV C hW hl (wk9 k_125) rfl rfl (c_X11_lengthIfCut hcu1) cw_L_216 ci_X11_lengthIfCut cs_X11_lengthIfCut ⟨rfl, rfl, by decide, by decide⟩ ⟨Nat.le_trans (by omega) hcs.1, Nat.le_trans (by omega) hcs.2⟩ (As := [.int (xs (ix (i + 1))), .int (xs (ix (i + 2)))]) rfl rfl (Nat.le_of_ble_eq_true rfl) dL_law_1523) (fun H locs hW => ?_)
  refine lv_istore (lv' := [(6, .int u1.1), (5, .int u0.1), (4, .int i), (0, .ref b), (1, .ref (Z.1 0)), (2, .ref (Z.1 125)), (3, .ref (Z.1 145))]) C.1 C.2.1 dL_law_1526 hl (by decide) rfl (fun ls hl => ?_)
  refine lv_aload_n C.1 C.2.1 dL_law_1528 rfl (lv_at hl 5 rfl) ?_
  obtain ⟨u2, hcu2, hf⟩ := bnd_t hf
  refine x_calli hW (x_runV C hW hl (wk9 k_125) rfl rfl (c_X11_thrown hcu2) cw_L_106 ci_X11_thrown cs_X11_thrown ⟨rfl, rfl, by decide, by decide⟩ ⟨Nat.le_trans (by omega) hcs.1, Nat.le_trans (by omega) hcs.2⟩ (As := []) rfl rfl (Nat.le_of_ble_eq_true rfl) dL_law_1529) (fun H locs hW => ?_)
  refine lv_iload C.1 C.2.1 dL_law_1532 (lv_at hl 1 rfl) ?_
  refine x_cmpeq (tgt := 1539) C hf dL_law_1534 (by decide) (fun hf => ?_) (fun hf => by cases hf)
  refine lv_iload C.1 C.2.1 dL_law_1539 (lv_at hl 1 rfl) ?_
  refine x_ifne (tgt := 1556) C hf dL_law_1541 (by decide) (fun hf => ?_) (fun hf => ?_)
  · obtain rfl := Option.some.inj hf
    refine lv_goto (tgt := 2151) C.1 C.2.1 dL_law_1556 (by decide) ?_
    exact kk ls H locs hW (lv_sub hl [2, 3, 4, 5, 6] rfl)
  refine lv_aload_n C.1 C.2.1 dL_law_1544 rfl (lv_at hl 6 rfl) ?_
  refine lv_iconst (v := 0) C.1 C.2.1 dL_law_1545 (by decide) ?_
  refine x_outld hm C hW dL_law_1546 ?_
  refine lv_iload C.1 C.2.1 dL_law_1547 (lv_at hl 0 rfl) ?_
  refine lv_i2l C.1 C.2.1 dL_law_1549 rfl ?_
  rcases Classical.em (u1.2 145 0 = u1.1) with q | q
  case inr => have hf := (if_neg q).symm.trans hf; cases hf
  have hf := (if_pos q).symm.trans hf
  refine W.lcmp C.1 C.2.1 dL_law_1550 ?_
  rw [q, lgc_eq]
  refine lv_if_eq (tgt := 1556) C.1 C.2.1 dL_law_1551 (by decide) (fun _ => ?_) (fun q => absurd rfl q)
  refine lv_goto (tgt := 2151) C.1 C.2.1 dL_law_1556 (by decide) ?_
  obtain rfl := Option.some.inj hf
  exact kk ls H locs hW (lv_sub hl [2, 3, 4, 5, 6] rfl)
set_option maxRecDepth 20000 in
set_option maxHeartbeats 1000000 in
theorem k_case33 {p : Program} {l : Launch} {e : Env} {s : State} {m : MethodId} {b : Nat} {below : List Frame} {meth : Method} {c : Code} {H : Heap} {locs : List Loc} {cells slots : Nat} {Q : State → Prop} {ls : Array Slot} {Z : ZT} {h g : Hp} {L : Nat} {xs : Nat → Int32} {i : Int32} (hm : Z.2.2.2.2 1000 = 1) (hlt : l.stackTraces = false) (C : CX p s m #[.ref b] meth c cL_law RL 7 ret Z) (hX : va_X b L xs s s.heap) (hbl : b < s.heap.size) (hbA : ¬ FR Z b) (hi : ∀ k : Int32, 0 ≤ k → k ≤ 5 → vp_in (i + k) L) (hcs : cells + 8 ≤ 601024 ∧ slots + 48 ≤ 7293034) (hW : XW Z h g s.heap H locs) (hl : lv_has ls 7 [(4, .int i), (0, .ref b), (1, .ref (Z.1 0)), (2, .ref (Z.1 125)), (3, .ref (Z.1 145))]) {out : Hp × Hp} (hf : A_33 h g (xs (ix (i + 1))) = some out) (kk : ∀ (ls : Array Slot) (H : Heap) (locs : List Loc), XW Z out.1 out.2 s.heap H locs → lv_has ls 7 [(4, .int i), (0, .ref b), (1, .ref (Z.1 0)), (2, .ref (Z.1 125)), (3, .ref (Z.1 145))] → W p l e room_1 s m #[Value.ref b] below meth c H locs (cells + 8) (slots + 48) Q (F0 m 2151 ls [])) : W p l e room_1 s m #[Value.ref b] below meth c H locs cells slots Q (F0 m 1559 ls []) := by
  unfold A_33 at hf
  refine lv_aload_n C.1 C.2.1 dL_law_1559 rfl (lv_at hl 2 rfl) ?_
  refine lv_aload_n C.1 C.2.1 dL_law_1560 rfl (lv_at hl 1 rfl) ?_
  refine lv_iload C.1 C.2.1 dL_law_1561 (lv_at hl 0 rfl) ?_
  refine lv_iconst (v := 1) C.1 C.2.1 dL_law_1563 (by decide) ?_
  refine lv_iadd C.1 C.2.1 dL_law_1564 ?_
  refine va_sld C.1 C.2.1 hX hbl hbA hW.2 (hi 1 (by decide) (by decide)) dL_law_1565 ?_
  refine lv_aload_n C.1 C.2.1 dL_law_1566 rfl (lv_at hl 4 rfl) ?_
  obtain ⟨u0, hcu0, hf⟩ := bnd_t hf
  refine x_callX hW (x_runSW C hW hl (c_L_lengthIfRestored hlt hm hcu0) cX_L_lengthIfRestored ct_L_lengthIfRestored cwL_217 ⟨rfl, rfl, by decide, by decide⟩ hcs (As := [.ref (Z.1 0), .int (xs (ix (i + 1))), .ref (Z.1 145)]) rfl rfl (Nat.le_of_ble_eq_true rfl) dL_law_1567) (fun H locs hW => ?_)
  refine lv_istore (lv' := [(5, .int u0.1), (4, .int i), (0, .ref b), (1, .ref (Z.1 0)), (2, .ref (Z.1 125)), (3, .ref (Z.1 145))]) C.1 C.2.1 dL_law_1570 hl (by decide) rfl (fun ls hl => ?_)
  refine lv_aload_n C.1 C.2.1 dL_law_1572 rfl (lv_at hl 4 rfl) ?_
  refine lv_aload_n C.1 C.2.1 dL_law_1573 rfl (lv_at hl 2 rfl) ?_
  refine lv_iload C.1 C.2.1 dL_law_1574 (lv_at hl 1 rfl) ?_
  refine lv_iconst (v := 1) C.1 C.2.1 dL_law_1576 (by decide) ?_
  refine lv_iadd C.1 C.2.1 dL_law_1577 ?_
  refine va_sld C.1 C.2.1 hX hbl hbA hW.2 (hi 1 (by decide) (by decide)) dL_law_1578 ?_
  obtain ⟨u1, hcu1, hf⟩ := bnd_t hf
  refine x_calli hW (x_runV C hW hl (wk9 k_125) rfl rfl (c_X11_lengthIfRestored hcu1) cw_L_219 ci_X11_lengthIfRestored cs_X11_lengthIfRestored ⟨rfl, rfl, by decide, by decide⟩ ⟨Nat.le_trans (by omega) hcs.1, Nat.le_trans (by omega) hcs.2⟩ (As := [.int (xs (ix (i + 1)))]) rfl rfl (Nat.le_of_ble_eq_true rfl) dL_law_1579) (fun H locs hW => ?_)
  refine lv_istore (lv' := [(6, .int u1.1), (5, .int u0.1), (4, .int i), (0, .ref b), (1, .ref (Z.1 0)), (2, .ref (Z.1 125)), (3, .ref (Z.1 145))]) C.1 C.2.1 dL_law_1582 hl (by decide) rfl (fun ls hl => ?_)
  refine lv_aload_n C.1 C.2.1 dL_law_1584 rfl (lv_at hl 5 rfl) ?_
  obtain ⟨u2, hcu2, hf⟩ := bnd_t hf
  refine x_calli hW (x_runV C hW hl (wk9 k_125) rfl rfl (c_X11_thrown hcu2) cw_L_106 ci_X11_thrown cs_X11_thrown ⟨rfl, rfl, by decide, by decide⟩ ⟨Nat.le_trans (by omega) hcs.1, Nat.le_trans (by omega) hcs.2⟩ (As := []) rfl rfl (Nat.le_of_ble_eq_true rfl) dL_law_1585) (fun H locs hW => ?_)
  refine lv_iload C.1 C.2.1 dL_law_1588 (lv_at hl 1 rfl) ?_
  refine x_cmpeq (tgt := 1595) C hf dL_law_1590 (by decide) (fun hf => ?_) (fun hf => by cases hf)
  refine lv_iload C.1 C.2.1 dL_law_1595 (lv_at hl 1 rfl) ?_
  refine x_ifne (tgt := 1612) C hf dL_law_1597 (by decide) (fun hf => ?_) (fun hf => ?_)
  · obtain rfl := Option.some.inj hf
    refine lv_goto (tgt := 2151) C.1 C.2.1 dL_law_1612 (by decide) ?_
    exact kk ls H locs hW (lv_sub hl [2, 3, 4, 5, 6] rfl)
  refine lv_aload_n C.1 C.2.1 dL_law_1600 rfl (lv_at hl 6 rfl) ?_
  refine lv_iconst (v := 0) C.1 C.2.1 dL_law_1601 (by decide) ?_
  refine x_outld hm C hW dL_law_1602 ?_
  refine lv_iload C.1 C.2.1 dL_law_1603 (lv_at hl 0 rfl) ?_
  refine lv_i2l C.1 C.2.1 dL_law_1605 rfl ?_
  rcases Classical.em (u1.2 145 0 = u1.1) with q | q
  case inr => have hf := (if_neg q).symm.trans hf; cases hf
  have hf := (if_pos q).symm.trans hf
  refine W.lcmp C.1 C.2.1 dL_law_1606 ?_
  rw [q, lgc_eq]
  refine lv_if_eq (tgt := 1612) C.1 C.2.1 dL_law_1607 (by decide) (fun _ => ?_) (fun q => absurd rfl q)
  refine lv_goto (tgt := 2151) C.1 C.2.1 dL_law_1612 (by decide) ?_
  obtain rfl := Option.some.inj hf
  exact kk ls H locs hW (lv_sub hl [2, 3, 4, 5, 6] rfl)
set_option maxRecDepth 20000 in
set_option maxHeartbeats 1000000 in
theorem k_case34 {p : Program} {l : Launch} {e : Env} {s : State} {m : MethodId} {b : Nat} {below : List Frame} {meth : Method} {c : Code} {H : Heap} {locs : List Loc} {cells slots : Nat} {Q : State → Prop} {ls : Array Slot} {Z : ZT} {h g : Hp} {L : Nat} {xs : Nat → Int32} {i : Int32} (hm : Z.2.2.2.2 1000 = 1) (hlt : l.stackTraces = false) (C : CX p s m #[.ref b] meth c cL_law RL 7 ret Z) (hX : va_X b L xs s s.heap) (hbl : b < s.heap.size) (hbA : ¬ FR Z b) (hi : ∀ k : Int32, 0 ≤ k → k ≤ 5 → vp_in (i + k) L) (hcs : cells + 8 ≤ 601024 ∧ slots + 48 ≤ 7293034) (hW : XW Z h g s.heap H locs) (hl : lv_has ls 7 [(4, .int i), (0, .ref b), (1, .ref (Z.1 0)), (2, .ref (Z.1 125)), (3, .ref (Z.1 145))]) {out : Hp × Hp} (hf : A_34 h g (xs (ix (i + 1))) = some out) (kk : ∀ (ls : Array Slot) (H : Heap) (locs : List Loc), XW Z out.1 out.2 s.heap H locs → lv_has ls 7 [(4, .int i), (0, .ref b), (1, .ref (Z.1 0)), (2, .ref (Z.1 125)), (3, .ref (Z.1 145))] → W p l e room_1 s m #[Value.ref b] below meth c H locs (cells + 8) (slots + 48) Q (F0 m 2151 ls [])) : W p l e room_1 s m #[Value.ref b] below meth c H locs cells slots Q (F0 m 1615 ls []) := by
  unfold A_34 at hf
  refine lv_aload_n C.1 C.2.1 dL_law_1615 rfl (lv_at hl 2 rfl) ?_
  refine lv_aload_n C.1 C.2.1 dL_law_1616 rfl (lv_at hl 1 rfl) ?_
  refine lv_iload C.1 C.2.1 dL_law_1617 (lv_at hl 0 rfl) ?_
  refine lv_iconst (v := 1) C.1 C.2.1 dL_law_1619 (by decide) ?_
  refine lv_iadd C.1 C.2.1 dL_law_1620 ?_
  refine va_sld C.1 C.2.1 hX hbl hbA hW.2 (hi 1 (by decide) (by decide)) dL_law_1621 ?_
  obtain ⟨u0, hcu0, hf⟩ := bnd_t hf
  refine x_calli hW (x_runV C hW hl (wk8 k_0) rfl rfl (c_X10_shotsToCut hcu0) cw_L_220 ci_X10_shotsToCut cs_X10_shotsToCut ⟨rfl, rfl, by decide, by decide⟩ ⟨Nat.le_trans (by omega) hcs.1, Nat.le_trans (by omega) hcs.2⟩ (As := [.int (xs (ix (i + 1)))]) rfl rfl (Nat.le_of_ble_eq_true rfl) dL_law_1622) (fun H locs hW => ?_)
  refine lv_aload_n C.1 C.2.1 dL_law_1625 rfl (lv_at hl 3 rfl) ?_
  refine lv_aload_n C.1 C.2.1 dL_law_1626 rfl (lv_at hl 1 rfl) ?_
  refine lv_iload C.1 C.2.1 dL_law_1627 (lv_at hl 0 rfl) ?_
  refine lv_iconst (v := 1) C.1 C.2.1 dL_law_1629 (by decide) ?_
  refine lv_iadd C.1 C.2.1 dL_law_1630 ?_
  refine va_sld C.1 C.2.1 hX hbl hbA hW.2 (hi 1 (by decide) (by decide)) dL_law_1631 ?_
  obtain ⟨u1, hcu1, hf⟩ := bnd_t hf
  refine x_calli hW (x_runV C hW hl (wk9 k_125) rfl rfl (c_X11_shotsToCut hcu1) cw_L_223 ci_X11_shotsToCut cs_X11_shotsToCut ⟨rfl, rfl, by decide, by decide⟩ ⟨Nat.le_trans (by omega) hcs.1, Nat.le_trans (by omega) hcs.2⟩ (As := [.int (xs (ix (i + 1)))]) rfl rfl (Nat.le_of_ble_eq_true rfl) dL_law_1632) (fun H locs hW => ?_)
  refine x_cmpeq (tgt := 2151) C hf dL_law_1635 (by decide) (fun hf => ?_) (fun hf => by cases hf)
  obtain rfl := Option.some.inj hf
  refine W.widen (k := cells + 8) (n := slots + 48) (by omega) (by omega) ?_
  exact kk ls H locs hW (lv_sub hl [0, 1, 2, 3, 4] rfl)
set_option maxRecDepth 20000 in
set_option maxHeartbeats 1000000 in
theorem k_case35 {p : Program} {l : Launch} {e : Env} {s : State} {m : MethodId} {b : Nat} {below : List Frame} {meth : Method} {c : Code} {H : Heap} {locs : List Loc} {cells slots : Nat} {Q : State → Prop} {ls : Array Slot} {Z : ZT} {h g : Hp} {L : Nat} {xs : Nat → Int32} {i : Int32} (hm : Z.2.2.2.2 1000 = 1) (hlt : l.stackTraces = false) (C : CX p s m #[.ref b] meth c cL_law RL 7 ret Z) (hX : va_X b L xs s s.heap) (hbl : b < s.heap.size) (hbA : ¬ FR Z b) (hi : ∀ k : Int32, 0 ≤ k → k ≤ 5 → vp_in (i + k) L) (hcs : cells + 8 ≤ 601024 ∧ slots + 48 ≤ 7293034) (hW : XW Z h g s.heap H locs) (hl : lv_has ls 7 [(4, .int i), (0, .ref b), (1, .ref (Z.1 0)), (2, .ref (Z.1 125)), (3, .ref (Z.1 145))]) {out : Hp × Hp} (hf : A_35 h g (xs (ix (i + 1))) (xs (ix (i + 2))) = some out) (kk : ∀ (ls : Array Slot) (H : Heap) (locs : List Loc), XW Z out.1 out.2 s.heap H locs → lv_has ls 7 [(4, .int i), (0, .ref b), (1, .ref (Z.1 0)), (2, .ref (Z.1 125)), (3, .ref (Z.1 145))] → W p l e room_1 s m #[Value.ref b] below meth c H locs (cells + 8) (slots + 48) Q (F0 m 2151 ls [])) : W p l e room_1 s m #[Value.ref b] below meth c H locs cells slots Q (F0 m 1640 ls []) := by
  unfold A_35 at hf
  refine lv_aload_n C.1 C.2.1 dL_law_1640 rfl (lv_at hl 2 rfl) ?_
  refine lv_aload_n C.1 C.2.1 dL_law_1641 rfl (lv_at hl 1 rfl) ?_
  refine lv_iload C.1 C.2.1 dL_law_1642 (lv_at hl 0 rfl) ?_
  refine lv_iconst (v := 1) C.1 C.2.1 dL_law_1644 (by decide) ?_
  refine lv_iadd C.1 C.2.1 dL_law_1645 ?_
  refine va_sld C.1 C.2.1 hX hbl hbA hW.2 (hi 1 (by decide) (by decide)) dL_law_1646 ?_
  refine lv_aload_n C.1 C.2.1 dL_law_1647 rfl (lv_at hl 1 rfl) ?_
  refine lv_iload C.1 C.2.1 dL_law_1648 (lv_at hl 0 rfl) ?_
  refine lv_iconst (v := 2) C.1 C.2.1 dL_law_1650 (by decide) ?_
  refine lv_iadd C.1 C.2.1 dL_law_1651 ?_
  refine va_sld C.1 C.2.1 hX hbl hbA hW.2 (hi 2 (by decide) (by decide)) dL_law_1652 ?_
  refine lv_aload_n C.1 C.2.1 dL_law_1653 rfl (lv_at hl 4 rfl) ?_
  obtain ⟨u0, hcu0, hf⟩ := bnd_t hf
  refine x_callX hW (x_runSW C hW hl (c_L_cut hlt hm hcu0) cX_L_cut ct_L_cut cwL_224 ⟨rfl, rfl, by decide, by decide⟩ hcs (As := [.ref (Z.1 0), .int (xs (ix (i + 1))), .int (xs (ix (i + 2))), .ref (Z.1 145)]) rfl rfl (Nat.le_of_ble_eq_true rfl) dL_law_1654) (fun H locs hW => ?_)
  refine lv_istore (lv' := [(5, .int u0.1), (4, .int i), (0, .ref b), (1, .ref (Z.1 0)), (2, .ref (Z.1 125)), (3, .ref (Z.1 145))]) C.1 C.2.1 dL_law_1657 hl (by decide) rfl (fun ls hl => ?_)
  refine lv_aload_n C.1 C.2.1 dL_law_1659 rfl (lv_at hl 4 rfl) ?_
  refine lv_aload_n C.1 C.2.1 dL_law_1660 rfl (lv_at hl 2 rfl) ?_
  refine lv_iload C.1 C.2.1 dL_law_1661 (lv_at hl 1 rfl) ?_
  refine lv_iconst (v := 1) C.1 C.2.1 dL_law_1663 (by decide) ?_
  refine lv_iadd C.1 C.2.1 dL_law_1664 ?_
  refine va_sld C.1 C.2.1 hX hbl hbA hW.2 (hi 1 (by decide) (by decide)) dL_law_1665 ?_
  refine lv_aload_n C.1 C.2.1 dL_law_1666 rfl (lv_at hl 2 rfl) ?_
  refine lv_iload C.1 C.2.1 dL_law_1667 (lv_at hl 1 rfl) ?_
  refine lv_iconst (v := 2) C.1 C.2.1 dL_law_1669 (by decide) ?_
  refine lv_iadd C.1 C.2.1 dL_law_1670 ?_
  refine va_sld C.1 C.2.1 hX hbl hbA hW.2 (hi 2 (by decide) (by decide)) dL_law_1671 ?_
  obtain ⟨u1, hcu1, hf⟩ := bnd_t hf
  refine x_calli hW (x_runV C hW hl (wk9 k_125) rfl rfl (c_X11_cut hcu1) cw_L_226 ci_X11_cut cs_X11_cut ⟨rfl, rfl, by decide, by decide⟩ ⟨Nat.le_trans (by omega) hcs.1, Nat.le_trans (by omega) hcs.2⟩ (As := [.int (xs (ix (i + 1))), .int (xs (ix (i + 2)))]) rfl rfl (Nat.le_of_ble_eq_true rfl) dL_law_1672) (fun H locs hW => ?_)
  refine lv_istore (lv' := [(6, .int u1.1), (5, .int u0.1), (4, .int i), (0, .ref b), (1, .ref (Z.1 0)), (2, .ref (Z.1 125)), (3, .ref (Z.1 145))]) C.1 C.2.1 dL_law_1675 hl (by decide) rfl (fun ls hl => ?_)
  refine lv_aload_n C.1 C.2.1 dL_law_1677 rfl (lv_at hl 5 rfl) ?_
  obtain ⟨u2, hcu2, hf⟩ := bnd_t hf
  refine x_calli hW (x_runV C hW hl (wk9 k_125) rfl rfl (c_X11_thrown hcu2) cw_L_106 ci_X11_thrown cs_X11_thrown ⟨rfl, rfl, by decide, by decide⟩ ⟨Nat.le_trans (by omega) hcs.1, Nat.le_trans (by omega) hcs.2⟩ (As := []) rfl rfl (Nat.le_of_ble_eq_true rfl) dL_law_1678) (fun H locs hW => ?_)
  refine lv_iload C.1 C.2.1 dL_law_1681 (lv_at hl 1 rfl) ?_
  refine x_cmpeq (tgt := 1688) C hf dL_law_1683 (by decide) (fun hf => ?_) (fun hf => by cases hf)
  refine lv_iload C.1 C.2.1 dL_law_1688 (lv_at hl 1 rfl) ?_
  refine x_ifne (tgt := 1705) C hf dL_law_1690 (by decide) (fun hf => ?_) (fun hf => ?_)
  · obtain rfl := Option.some.inj hf
    refine lv_goto (tgt := 2151) C.1 C.2.1 dL_law_1705 (by decide) ?_
    exact kk ls H locs hW (lv_sub hl [2, 3, 4, 5, 6] rfl)
  refine lv_aload_n C.1 C.2.1 dL_law_1693 rfl (lv_at hl 6 rfl) ?_
  refine lv_iconst (v := 0) C.1 C.2.1 dL_law_1694 (by decide) ?_
  refine x_outld hm C hW dL_law_1695 ?_
  refine lv_iload C.1 C.2.1 dL_law_1696 (lv_at hl 0 rfl) ?_
  refine lv_i2l C.1 C.2.1 dL_law_1698 rfl ?_
  rcases Classical.em (u1.2 145 0 = u1.1) with q | q
  case inr => have hf := (if_neg q).symm.trans hf; cases hf
  have hf := (if_pos q).symm.trans hf
  refine W.lcmp C.1 C.2.1 dL_law_1699 ?_
  rw [q, lgc_eq]
  refine lv_if_eq (tgt := 1705) C.1 C.2.1 dL_law_1700 (by decide) (fun _ => ?_) (fun q => absurd rfl q)
  refine lv_goto (tgt := 2151) C.1 C.2.1 dL_law_1705 (by decide) ?_
  obtain rfl := Option.some.inj hf
  exact kk ls H locs hW (lv_sub hl [2, 3, 4, 5, 6] rfl)
set_option maxRecDepth 20000 in
set_option maxHeartbeats 1000000 in
theorem k_case36 {p : Program} {l : Launch} {e : Env} {s : State} {m : MethodId} {b : Nat} {below : List Frame} {meth : Method} {c : Code} {H : Heap} {locs : List Loc} {cells slots : Nat} {Q : State → Prop} {ls : Array Slot} {Z : ZT} {h g : Hp} {L : Nat} {xs : Nat → Int32} {i : Int32} (hm : Z.2.2.2.2 1000 = 1) (hlt : l.stackTraces = false) (C : CX p s m #[.ref b] meth c cL_law RL 7 ret Z) (hX : va_X b L xs s s.heap) (hbl : b < s.heap.size) (hbA : ¬ FR Z b) (hi : ∀ k : Int32, 0 ≤ k → k ≤ 5 → vp_in (i + k) L) (hcs : cells + 8 ≤ 601024 ∧ slots + 48 ≤ 7293034) (hW : XW Z h g s.heap H locs) (hl : lv_has ls 7 [(4, .int i), (0, .ref b), (1, .ref (Z.1 0)), (2, .ref (Z.1 125)), (3, .ref (Z.1 145))]) {out : Hp × Hp} (hf : A_36 h g (xs (ix (i + 1))) = some out) (kk : ∀ (ls : Array Slot) (H : Heap) (locs : List Loc), XW Z out.1 out.2 s.heap H locs → lv_has ls 7 [(4, .int i), (0, .ref b), (1, .ref (Z.1 0)), (2, .ref (Z.1 125)), (3, .ref (Z.1 145))] → W p l e room_1 s m #[Value.ref b] below meth c H locs (cells + 8) (slots + 48) Q (F0 m 2151 ls [])) : W p l e room_1 s m #[Value.ref b] below meth c H locs cells slots Q (F0 m 1708 ls []) := by
  unfold A_36 at hf
  refine lv_aload_n C.1 C.2.1 dL_law_1708 rfl (lv_at hl 2 rfl) ?_
  refine lv_aload_n C.1 C.2.1 dL_law_1709 rfl (lv_at hl 1 rfl) ?_
  refine lv_iload C.1 C.2.1 dL_law_1710 (lv_at hl 0 rfl) ?_
  refine lv_iconst (v := 1) C.1 C.2.1 dL_law_1712 (by decide) ?_
  refine lv_iadd C.1 C.2.1 dL_law_1713 ?_
  refine va_sld C.1 C.2.1 hX hbl hbA hW.2 (hi 1 (by decide) (by decide)) dL_law_1714 ?_
  refine lv_aload_n C.1 C.2.1 dL_law_1715 rfl (lv_at hl 4 rfl) ?_
  obtain ⟨u0, hcu0, hf⟩ := bnd_t hf
  refine x_callX hW (x_runSW C hW hl (c_L_cutWord hlt hm hcu0) cX_L_cutWord ct_L_cutWord cwL_227 ⟨rfl, rfl, by decide, by decide⟩ hcs (As := [.ref (Z.1 0), .int (xs (ix (i + 1))), .ref (Z.1 145)]) rfl rfl (Nat.le_of_ble_eq_true rfl) dL_law_1716) (fun H locs hW => ?_)
  refine lv_istore (lv' := [(5, .int u0.1), (4, .int i), (0, .ref b), (1, .ref (Z.1 0)), (2, .ref (Z.1 125)), (3, .ref (Z.1 145))]) C.1 C.2.1 dL_law_1719 hl (by decide) rfl (fun ls hl => ?_)
  refine lv_aload_n C.1 C.2.1 dL_law_1721 rfl (lv_at hl 4 rfl) ?_
  refine lv_aload_n C.1 C.2.1 dL_law_1722 rfl (lv_at hl 2 rfl) ?_
  refine lv_iload C.1 C.2.1 dL_law_1723 (lv_at hl 1 rfl) ?_
  refine lv_iconst (v := 1) C.1 C.2.1 dL_law_1725 (by decide) ?_
  refine lv_iadd C.1 C.2.1 dL_law_1726 ?_
  refine va_sld C.1 C.2.1 hX hbl hbA hW.2 (hi 1 (by decide) (by decide)) dL_law_1727 ?_
  obtain ⟨u1, hcu1, hf⟩ := bnd_t hf
  refine x_calli hW (x_runV C hW hl (wk9 k_125) rfl rfl (c_X11_cutWord hcu1) cw_L_229 ci_X11_cutWord cs_X11_cutWord ⟨rfl, rfl, by decide, by decide⟩ ⟨Nat.le_trans (by omega) hcs.1, Nat.le_trans (by omega) hcs.2⟩ (As := [.int (xs (ix (i + 1)))]) rfl rfl (Nat.le_of_ble_eq_true rfl) dL_law_1728) (fun H locs hW => ?_)
  refine lv_istore (lv' := [(6, .int u1.1), (5, .int u0.1), (4, .int i), (0, .ref b), (1, .ref (Z.1 0)), (2, .ref (Z.1 125)), (3, .ref (Z.1 145))]) C.1 C.2.1 dL_law_1731 hl (by decide) rfl (fun ls hl => ?_)
  refine lv_aload_n C.1 C.2.1 dL_law_1733 rfl (lv_at hl 5 rfl) ?_
  obtain ⟨u2, hcu2, hf⟩ := bnd_t hf
  refine x_calli hW (x_runV C hW hl (wk9 k_125) rfl rfl (c_X11_thrown hcu2) cw_L_106 ci_X11_thrown cs_X11_thrown ⟨rfl, rfl, by decide, by decide⟩ ⟨Nat.le_trans (by omega) hcs.1, Nat.le_trans (by omega) hcs.2⟩ (As := []) rfl rfl (Nat.le_of_ble_eq_true rfl) dL_law_1734) (fun H locs hW => ?_)
  refine lv_iload C.1 C.2.1 dL_law_1737 (lv_at hl 1 rfl) ?_
  refine x_cmpeq (tgt := 1744) C hf dL_law_1739 (by decide) (fun hf => ?_) (fun hf => by cases hf)
  refine lv_iload C.1 C.2.1 dL_law_1744 (lv_at hl 1 rfl) ?_
  refine x_ifne (tgt := 1761) C hf dL_law_1746 (by decide) (fun hf => ?_) (fun hf => ?_)
  · obtain rfl := Option.some.inj hf
    refine lv_goto (tgt := 2151) C.1 C.2.1 dL_law_1761 (by decide) ?_
    exact kk ls H locs hW (lv_sub hl [2, 3, 4, 5, 6] rfl)
  refine lv_aload_n C.1 C.2.1 dL_law_1749 rfl (lv_at hl 6 rfl) ?_
  refine lv_iconst (v := 0) C.1 C.2.1 dL_law_1750 (by decide) ?_
  refine x_outld hm C hW dL_law_1751 ?_
  refine lv_iload C.1 C.2.1 dL_law_1752 (lv_at hl 0 rfl) ?_
  refine lv_i2l C.1 C.2.1 dL_law_1754 rfl ?_
  rcases Classical.em (u1.2 145 0 = u1.1) with q | q
  case inr => have hf := (if_neg q).symm.trans hf; cases hf
  have hf := (if_pos q).symm.trans hf
  refine W.lcmp C.1 C.2.1 dL_law_1755 ?_
  rw [q, lgc_eq]
  refine lv_if_eq (tgt := 1761) C.1 C.2.1 dL_law_1756 (by decide) (fun _ => ?_) (fun q => absurd rfl q)
  refine lv_goto (tgt := 2151) C.1 C.2.1 dL_law_1761 (by decide) ?_
  obtain rfl := Option.some.inj hf
  exact kk ls H locs hW (lv_sub hl [2, 3, 4, 5, 6] rfl)
set_option maxRecDepth 20000 in
set_option maxHeartbeats 1000000 in
theorem k_case37 {p : Program} {l : Launch} {e : Env} {s : State} {m : MethodId} {b : Nat} {below : List Frame} {meth : Method} {c : Code} {H : Heap} {locs : List Loc} {cells slots : Nat} {Q : State → Prop} {ls : Array Slot} {Z : ZT} {h g : Hp} {L : Nat} {xs : Nat → Int32} {i : Int32} (hm : Z.2.2.2.2 1000 = 1) (hlt : l.stackTraces = false) (C : CX p s m #[.ref b] meth c cL_law RL 7 ret Z) (hX : va_X b L xs s s.heap) (hbl : b < s.heap.size) (hbA : ¬ FR Z b) (hi : ∀ k : Int32, 0 ≤ k → k ≤ 5 → vp_in (i + k) L) (hcs : cells + 8 ≤ 601024 ∧ slots + 48 ≤ 7293034) (hW : XW Z h g s.heap H locs) (hl : lv_has ls 7 [(4, .int i), (0, .ref b), (1, .ref (Z.1 0)), (2, .ref (Z.1 125)), (3, .ref (Z.1 145))]) {out : Hp × Hp} (hf : A_37 h g (xs (ix (i + 1))) (xs (ix (i + 2))) = some out) (kk : ∀ (ls : Array Slot) (H : Heap) (locs : List Loc), XW Z out.1 out.2 s.heap H locs → lv_has ls 7 [(4, .int i), (0, .ref b), (1, .ref (Z.1 0)), (2, .ref (Z.1 125)), (3, .ref (Z.1 145))] → W p l e room_1 s m #[Value.ref b] below meth c H locs (cells + 8) (slots + 48) Q (F0 m 2151 ls [])) : W p l e room_1 s m #[Value.ref b] below meth c H locs cells slots Q (F0 m 1764 ls []) := by
  unfold A_37 at hf
  refine lv_aload_n C.1 C.2.1 dL_law_1764 rfl (lv_at hl 2 rfl) ?_
  refine lv_aload_n C.1 C.2.1 dL_law_1765 rfl (lv_at hl 1 rfl) ?_
  refine lv_iload C.1 C.2.1 dL_law_1766 (lv_at hl 0 rfl) ?_
  refine lv_iconst (v := 1) C.1 C.2.1 dL_law_1768 (by decide) ?_
  refine lv_iadd C.1 C.2.1 dL_law_1769 ?_
  refine va_sld C.1 C.2.1 hX hbl hbA hW.2 (hi 1 (by decide) (by decide)) dL_law_1770 ?_
  refine lv_aload_n C.1 C.2.1 dL_law_1771 rfl (lv_at hl 1 rfl) ?_
  refine lv_iload C.1 C.2.1 dL_law_1772 (lv_at hl 0 rfl) ?_
  refine lv_iconst (v := 2) C.1 C.2.1 dL_law_1774 (by decide) ?_
  refine lv_iadd C.1 C.2.1 dL_law_1775 ?_
  refine va_sld C.1 C.2.1 hX hbl hbA hW.2 (hi 2 (by decide) (by decide)) dL_law_1776 ?_
  refine lv_aload_n C.1 C.2.1 dL_law_1777 rfl (lv_at hl 4 rfl) ?_
  obtain ⟨u0, hcu0, hf⟩ := bnd_t hf
  refine x_callX hW (x_runSW C hW hl (c_L_restore hlt hm hcu0) cX_L_restore ct_L_restore cwL_230 ⟨rfl, rfl, by decide, by decide⟩ hcs (As := [.ref (Z.1 0), .int (xs (ix (i + 1))), .int (xs (ix (i + 2))), .ref (Z.1 145)]) rfl rfl (Nat.le_of_ble_eq_true rfl) dL_law_1778) (fun H locs hW => ?_)
  refine lv_istore (lv' := [(5, .int u0.1), (4, .int i), (0, .ref b), (1, .ref (Z.1 0)), (2, .ref (Z.1 125)), (3, .ref (Z.1 145))]) C.1 C.2.1 dL_law_1781 hl (by decide) rfl (fun ls hl => ?_)
  refine lv_aload_n C.1 C.2.1 dL_law_1783 rfl (lv_at hl 4 rfl) ?_
  refine lv_aload_n C.1 C.2.1 dL_law_1784 rfl (lv_at hl 2 rfl) ?_
  refine lv_iload C.1 C.2.1 dL_law_1785 (lv_at hl 1 rfl) ?_
  refine lv_iconst (v := 1) C.1 C.2.1 dL_law_1787 (by decide) ?_
  refine lv_iadd C.1 C.2.1 dL_law_1788 ?_
  refine va_sld C.1 C.2.1 hX hbl hbA hW.2 (hi 1 (by decide) (by decide)) dL_law_1789 ?_
  refine lv_aload_n C.1 C.2.1 dL_law_1790 rfl (lv_at hl 2 rfl) ?_
  refine lv_iload C.1 C.2.1 dL_law_1791 (lv_at hl 1 rfl) ?_
  refine lv_iconst (v := 2) C.1 C.2.1 dL_law_1793 (by decide) ?_
  refine lv_iadd C.1 C.2.1 dL_law_1794 ?_
  refine va_sld C.1 C.2.1 hX hbl hbA hW.2 (hi 2 (by decide) (by decide)) dL_law_1795 ?_
  obtain ⟨u1, hcu1, hf⟩ := bnd_t hf
  refine x_calli hW (x_runV C hW hl (wk9 k_125) rfl rfl (c_X11_restore hcu1) cw_L_232 ci_X11_restore cs_X11_restore ⟨rfl, rfl, by decide, by decide⟩ ⟨Nat.le_trans (by omega) hcs.1, Nat.le_trans (by omega) hcs.2⟩ (As := [.int (xs (ix (i + 1))), .int (xs (ix (i + 2)))]) rfl rfl (Nat.le_of_ble_eq_true rfl) dL_law_1796) (fun H locs hW => ?_)
  refine lv_istore (lv' := [(6, .int u1.1), (5, .int u0.1), (4, .int i), (0, .ref b), (1, .ref (Z.1 0)), (2, .ref (Z.1 125)), (3, .ref (Z.1 145))]) C.1 C.2.1 dL_law_1799 hl (by decide) rfl (fun ls hl => ?_)
  refine lv_aload_n C.1 C.2.1 dL_law_1801 rfl (lv_at hl 5 rfl) ?_
  obtain ⟨u2, hcu2, hf⟩ := bnd_t hf
  refine x_calli hW (x_runV C hW hl (wk9 k_125) rfl rfl (c_X11_thrown hcu2) cw_L_106 ci_X11_thrown cs_X11_thrown ⟨rfl, rfl, by decide, by decide⟩ ⟨Nat.le_trans (by omega) hcs.1, Nat.le_trans (by omega) hcs.2⟩ (As := []) rfl rfl (Nat.le_of_ble_eq_true rfl) dL_law_1802) (fun H locs hW => ?_)
  refine lv_iload C.1 C.2.1 dL_law_1805 (lv_at hl 1 rfl) ?_
  refine x_cmpeq (tgt := 1812) C hf dL_law_1807 (by decide) (fun hf => ?_) (fun hf => by cases hf)
  refine lv_iload C.1 C.2.1 dL_law_1812 (lv_at hl 1 rfl) ?_
  refine x_ifne (tgt := 1829) C hf dL_law_1814 (by decide) (fun hf => ?_) (fun hf => ?_)
  · obtain rfl := Option.some.inj hf
    refine lv_goto (tgt := 2151) C.1 C.2.1 dL_law_1829 (by decide) ?_
    exact kk ls H locs hW (lv_sub hl [2, 3, 4, 5, 6] rfl)
  refine lv_aload_n C.1 C.2.1 dL_law_1817 rfl (lv_at hl 6 rfl) ?_
  refine lv_iconst (v := 0) C.1 C.2.1 dL_law_1818 (by decide) ?_
  refine x_outld hm C hW dL_law_1819 ?_
  refine lv_iload C.1 C.2.1 dL_law_1820 (lv_at hl 0 rfl) ?_
  refine lv_i2l C.1 C.2.1 dL_law_1822 rfl ?_
  rcases Classical.em (u1.2 145 0 = u1.1) with q | q
  case inr => have hf := (if_neg q).symm.trans hf; cases hf
  have hf := (if_pos q).symm.trans hf
  refine W.lcmp C.1 C.2.1 dL_law_1823 ?_
  rw [q, lgc_eq]
  refine lv_if_eq (tgt := 1829) C.1 C.2.1 dL_law_1824 (by decide) (fun _ => ?_) (fun q => absurd rfl q)
  refine lv_goto (tgt := 2151) C.1 C.2.1 dL_law_1829 (by decide) ?_
  obtain rfl := Option.some.inj hf
  exact kk ls H locs hW (lv_sub hl [2, 3, 4, 5, 6] rfl)
set_option maxRecDepth 20000 in
set_option maxHeartbeats 1000000 in
theorem k_case38 {p : Program} {l : Launch} {e : Env} {s : State} {m : MethodId} {b : Nat} {below : List Frame} {meth : Method} {c : Code} {H : Heap} {locs : List Loc} {cells slots : Nat} {Q : State → Prop} {ls : Array Slot} {Z : ZT} {h g : Hp} {L : Nat} {xs : Nat → Int32} {i : Int32} (hm : Z.2.2.2.2 1000 = 1) (hlt : l.stackTraces = false) (C : CX p s m #[.ref b] meth c cL_law RL 7 ret Z) (hX : va_X b L xs s s.heap) (hbl : b < s.heap.size) (hbA : ¬ FR Z b) (hi : ∀ k : Int32, 0 ≤ k → k ≤ 5 → vp_in (i + k) L) (hcs : cells + 8 ≤ 601024 ∧ slots + 48 ≤ 7293034) (hW : XW Z h g s.heap H locs) (hl : lv_has ls 7 [(4, .int i), (0, .ref b), (1, .ref (Z.1 0)), (2, .ref (Z.1 125)), (3, .ref (Z.1 145))]) {out : Hp × Hp} (hf : A_38 h g (xs (ix (i + 1))) (xs (ix (i + 2))) (xs (ix (i + 3))) = some out) (kk : ∀ (ls : Array Slot) (H : Heap) (locs : List Loc), XW Z out.1 out.2 s.heap H locs → lv_has ls 7 [(4, .int i), (0, .ref b), (1, .ref (Z.1 0)), (2, .ref (Z.1 125)), (3, .ref (Z.1 145))] → W p l e room_1 s m #[Value.ref b] below meth c H locs (cells + 8) (slots + 48) Q (F0 m 2151 ls [])) : W p l e room_1 s m #[Value.ref b] below meth c H locs cells slots Q (F0 m 1832 ls []) := by
  unfold A_38 at hf
  refine lv_aload_n C.1 C.2.1 dL_law_1832 rfl (lv_at hl 2 rfl) ?_
  refine lv_aload_n C.1 C.2.1 dL_law_1833 rfl (lv_at hl 1 rfl) ?_
  refine lv_iload C.1 C.2.1 dL_law_1834 (lv_at hl 0 rfl) ?_
  refine lv_iconst (v := 1) C.1 C.2.1 dL_law_1836 (by decide) ?_
  refine lv_iadd C.1 C.2.1 dL_law_1837 ?_
  refine va_sld C.1 C.2.1 hX hbl hbA hW.2 (hi 1 (by decide) (by decide)) dL_law_1838 ?_
  refine lv_aload_n C.1 C.2.1 dL_law_1839 rfl (lv_at hl 1 rfl) ?_
  refine lv_iload C.1 C.2.1 dL_law_1840 (lv_at hl 0 rfl) ?_
  refine lv_iconst (v := 2) C.1 C.2.1 dL_law_1842 (by decide) ?_
  refine lv_iadd C.1 C.2.1 dL_law_1843 ?_
  refine va_sld C.1 C.2.1 hX hbl hbA hW.2 (hi 2 (by decide) (by decide)) dL_law_1844 ?_
  refine lv_aload_n C.1 C.2.1 dL_law_1845 rfl (lv_at hl 1 rfl) ?_
  refine lv_iload C.1 C.2.1 dL_law_1846 (lv_at hl 0 rfl) ?_
  refine lv_iconst (v := 3) C.1 C.2.1 dL_law_1848 (by decide) ?_
  refine lv_iadd C.1 C.2.1 dL_law_1849 ?_
  refine va_sld C.1 C.2.1 hX hbl hbA hW.2 (hi 3 (by decide) (by decide)) dL_law_1850 ?_
  refine lv_aload_n C.1 C.2.1 dL_law_1851 rfl (lv_at hl 4 rfl) ?_
  obtain ⟨u0, hcu0, hf⟩ := bnd_t hf
  refine x_callX hW (x_runSW C hW hl (c_L_move hlt hm hcu0) cX_L_move ct_L_move cwL_233 ⟨rfl, rfl, by decide, by decide⟩ hcs (As := [.ref (Z.1 0), .int (xs (ix (i + 1))), .int (xs (ix (i + 2))), .int (xs (ix (i + 3))), .ref (Z.1 145)]) rfl rfl (Nat.le_of_ble_eq_true rfl) dL_law_1852) (fun H locs hW => ?_)
  refine lv_istore (lv' := [(5, .int u0.1), (4, .int i), (0, .ref b), (1, .ref (Z.1 0)), (2, .ref (Z.1 125)), (3, .ref (Z.1 145))]) C.1 C.2.1 dL_law_1855 hl (by decide) rfl (fun ls hl => ?_)
  refine lv_aload_n C.1 C.2.1 dL_law_1857 rfl (lv_at hl 4 rfl) ?_
  refine lv_aload_n C.1 C.2.1 dL_law_1858 rfl (lv_at hl 2 rfl) ?_
  refine lv_iload C.1 C.2.1 dL_law_1859 (lv_at hl 1 rfl) ?_
  refine lv_iconst (v := 1) C.1 C.2.1 dL_law_1861 (by decide) ?_
  refine lv_iadd C.1 C.2.1 dL_law_1862 ?_
  refine va_sld C.1 C.2.1 hX hbl hbA hW.2 (hi 1 (by decide) (by decide)) dL_law_1863 ?_
  refine lv_aload_n C.1 C.2.1 dL_law_1864 rfl (lv_at hl 2 rfl) ?_
  refine lv_iload C.1 C.2.1 dL_law_1865 (lv_at hl 1 rfl) ?_
  refine lv_iconst (v := 2) C.1 C.2.1 dL_law_1867 (by decide) ?_
  refine lv_iadd C.1 C.2.1 dL_law_1868 ?_
  refine va_sld C.1 C.2.1 hX hbl hbA hW.2 (hi 2 (by decide) (by decide)) dL_law_1869 ?_
  refine lv_aload_n C.1 C.2.1 dL_law_1870 rfl (lv_at hl 2 rfl) ?_
  refine lv_iload C.1 C.2.1 dL_law_1871 (lv_at hl 1 rfl) ?_
  refine lv_iconst (v := 3) C.1 C.2.1 dL_law_1873 (by decide) ?_
  refine lv_iadd C.1 C.2.1 dL_law_1874 ?_
  refine va_sld C.1 C.2.1 hX hbl hbA hW.2 (hi 3 (by decide) (by decide)) dL_law_1875 ?_
  obtain ⟨u1, hcu1, hf⟩ := bnd_t hf
  refine x_calli hW (x_runV C hW hl (wk9 k_125) rfl rfl (c_X11_move hcu1) cw_L_236 ci_X11_move cs_X11_move ⟨rfl, rfl, by decide, by decide⟩ ⟨Nat.le_trans (by omega) hcs.1, Nat.le_trans (by omega) hcs.2⟩ (As := [.int (xs (ix (i + 1))), .int (xs (ix (i + 2))), .int (xs (ix (i + 3)))]) rfl rfl (Nat.le_of_ble_eq_true rfl) dL_law_1876) (fun H locs hW => ?_)
  refine lv_istore (lv' := [(6, .int u1.1), (5, .int u0.1), (4, .int i), (0, .ref b), (1, .ref (Z.1 0)), (2, .ref (Z.1 125)), (3, .ref (Z.1 145))]) C.1 C.2.1 dL_law_1879 hl (by decide) rfl (fun ls hl => ?_)
  refine lv_aload_n C.1 C.2.1 dL_law_1881 rfl (lv_at hl 5 rfl) ?_
  obtain ⟨u2, hcu2, hf⟩ := bnd_t hf
  refine x_calli hW (x_runV C hW hl (wk9 k_125) rfl rfl (c_X11_thrown hcu2) cw_L_106 ci_X11_thrown cs_X11_thrown ⟨rfl, rfl, by decide, by decide⟩ ⟨Nat.le_trans (by omega) hcs.1, Nat.le_trans (by omega) hcs.2⟩ (As := []) rfl rfl (Nat.le_of_ble_eq_true rfl) dL_law_1882) (fun H locs hW => ?_)
  refine lv_iload C.1 C.2.1 dL_law_1885 (lv_at hl 1 rfl) ?_
  refine x_cmpeq (tgt := 1892) C hf dL_law_1887 (by decide) (fun hf => ?_) (fun hf => by cases hf)
  refine lv_iload C.1 C.2.1 dL_law_1892 (lv_at hl 1 rfl) ?_
  refine x_ifne (tgt := 1909) C hf dL_law_1894 (by decide) (fun hf => ?_) (fun hf => ?_)
  · obtain rfl := Option.some.inj hf
    refine lv_goto (tgt := 2151) C.1 C.2.1 dL_law_1909 (by decide) ?_
    exact kk ls H locs hW (lv_sub hl [2, 3, 4, 5, 6] rfl)
  refine lv_aload_n C.1 C.2.1 dL_law_1897 rfl (lv_at hl 6 rfl) ?_
  refine lv_iconst (v := 0) C.1 C.2.1 dL_law_1898 (by decide) ?_
  refine x_outld hm C hW dL_law_1899 ?_
  refine lv_iload C.1 C.2.1 dL_law_1900 (lv_at hl 0 rfl) ?_
  refine lv_i2l C.1 C.2.1 dL_law_1902 rfl ?_
  rcases Classical.em (u1.2 145 0 = u1.1) with q | q
  case inr => have hf := (if_neg q).symm.trans hf; cases hf
  have hf := (if_pos q).symm.trans hf
  refine W.lcmp C.1 C.2.1 dL_law_1903 ?_
  rw [q, lgc_eq]
  refine lv_if_eq (tgt := 1909) C.1 C.2.1 dL_law_1904 (by decide) (fun _ => ?_) (fun q => absurd rfl q)
  refine lv_goto (tgt := 2151) C.1 C.2.1 dL_law_1909 (by decide) ?_
  obtain rfl := Option.some.inj hf
  exact kk ls H locs hW (lv_sub hl [2, 3, 4, 5, 6] rfl)
set_option maxRecDepth 20000 in
set_option maxHeartbeats 1000000 in
theorem k_case39 {p : Program} {l : Launch} {e : Env} {s : State} {m : MethodId} {b : Nat} {below : List Frame} {meth : Method} {c : Code} {H : Heap} {locs : List Loc} {cells slots : Nat} {Q : State → Prop} {ls : Array Slot} {Z : ZT} {h g : Hp} {L : Nat} {xs : Nat → Int32} {i : Int32} (hm : Z.2.2.2.2 1000 = 1) (hlt : l.stackTraces = false) (C : CX p s m #[.ref b] meth c cL_law RL 7 ret Z) (hX : va_X b L xs s s.heap) (hbl : b < s.heap.size) (hbA : ¬ FR Z b) (hi : ∀ k : Int32, 0 ≤ k → k ≤ 5 → vp_in (i + k) L) (hcs : cells + 8 ≤ 601024 ∧ slots + 48 ≤ 7293034) (hW : XW Z h g s.heap H locs) (hl : lv_has ls 7 [(4, .int i), (0, .ref b), (1, .ref (Z.1 0)), (2, .ref (Z.1 125)), (3, .ref (Z.1 145))]) {out : Hp × Hp} (hf : A_39 h g (xs (ix (i + 1))) (xs (ix (i + 2))) (xs (ix (i + 3))) = some out) (kk : ∀ (ls : Array Slot) (H : Heap) (locs : List Loc), XW Z out.1 out.2 s.heap H locs → lv_has ls 7 [(4, .int i), (0, .ref b), (1, .ref (Z.1 0)), (2, .ref (Z.1 125)), (3, .ref (Z.1 145))] → W p l e room_1 s m #[Value.ref b] below meth c H locs (cells + 8) (slots + 48) Q (F0 m 2151 ls [])) : W p l e room_1 s m #[Value.ref b] below meth c H locs cells slots Q (F0 m 1912 ls []) := by
  unfold A_39 at hf
  refine lv_aload_n C.1 C.2.1 dL_law_1912 rfl (lv_at hl 2 rfl) ?_
  refine lv_aload_n C.1 C.2.1 dL_law_1913 rfl (lv_at hl 1 rfl) ?_
  refine lv_iload C.1 C.2.1 dL_law_1914 (lv_at hl 0 rfl) ?_
  refine lv_iconst (v := 1) C.1 C.2.1 dL_law_1916 (by decide) ?_
  refine lv_iadd C.1 C.2.1 dL_law_1917 ?_
  refine va_sld C.1 C.2.1 hX hbl hbA hW.2 (hi 1 (by decide) (by decide)) dL_law_1918 ?_
  refine lv_aload_n C.1 C.2.1 dL_law_1919 rfl (lv_at hl 1 rfl) ?_
  refine lv_iload C.1 C.2.1 dL_law_1920 (lv_at hl 0 rfl) ?_
  refine lv_iconst (v := 2) C.1 C.2.1 dL_law_1922 (by decide) ?_
  refine lv_iadd C.1 C.2.1 dL_law_1923 ?_
  refine va_sld C.1 C.2.1 hX hbl hbA hW.2 (hi 2 (by decide) (by decide)) dL_law_1924 ?_
  refine lv_aload_n C.1 C.2.1 dL_law_1925 rfl (lv_at hl 1 rfl) ?_
  refine lv_iload C.1 C.2.1 dL_law_1926 (lv_at hl 0 rfl) ?_
  refine lv_iconst (v := 3) C.1 C.2.1 dL_law_1928 (by decide) ?_
  refine lv_iadd C.1 C.2.1 dL_law_1929 ?_
  refine va_sld C.1 C.2.1 hX hbl hbA hW.2 (hi 3 (by decide) (by decide)) dL_law_1930 ?_
  refine lv_aload_n C.1 C.2.1 dL_law_1931 rfl (lv_at hl 4 rfl) ?_
  obtain ⟨u0, hcu0, hf⟩ := bnd_t hf
  refine x_callX hW (x_runSW C hW hl (c_L_setHandles hlt hm hcu0) cX_L_setHandles ct_L_setHandles cwL_237 ⟨rfl, rfl, by decide, by decide⟩ hcs (As := [.ref (Z.1 0), .int (xs (ix (i + 1))), .int (xs (ix (i + 2))), .int (xs (ix (i + 3))), .ref (Z.1 145)]) rfl rfl (Nat.le_of_ble_eq_true rfl) dL_law_1932) (fun H locs hW => ?_)
  refine lv_istore (lv' := [(5, .int u0.1), (4, .int i), (0, .ref b), (1, .ref (Z.1 0)), (2, .ref (Z.1 125)), (3, .ref (Z.1 145))]) C.1 C.2.1 dL_law_1935 hl (by decide) rfl (fun ls hl => ?_)
  refine lv_aload_n C.1 C.2.1 dL_law_1937 rfl (lv_at hl 4 rfl) ?_
  refine lv_aload_n C.1 C.2.1 dL_law_1938 rfl (lv_at hl 2 rfl) ?_
  refine lv_iload C.1 C.2.1 dL_law_1939 (lv_at hl 1 rfl) ?_
  refine lv_iconst (v := 1) C.1 C.2.1 dL_law_1941 (by decide) ?_
  refine lv_iadd C.1 C.2.1 dL_law_1942 ?_
  refine va_sld C.1 C.2.1 hX hbl hbA hW.2 (hi 1 (by decide) (by decide)) dL_law_1943 ?_
  refine lv_aload_n C.1 C.2.1 dL_law_1944 rfl (lv_at hl 2 rfl) ?_
  refine lv_iload C.1 C.2.1 dL_law_1945 (lv_at hl 1 rfl) ?_
  refine lv_iconst (v := 2) C.1 C.2.1 dL_law_1947 (by decide) ?_
  refine lv_iadd C.1 C.2.1 dL_law_1948 ?_
  refine va_sld C.1 C.2.1 hX hbl hbA hW.2 (hi 2 (by decide) (by decide)) dL_law_1949 ?_
  refine lv_aload_n C.1 C.2.1 dL_law_1950 rfl (lv_at hl 2 rfl) ?_
  refine lv_iload C.1 C.2.1 dL_law_1951 (lv_at hl 1 rfl) ?_
  refine lv_iconst (v := 3) C.1 C.2.1 dL_law_1953 (by decide) ?_
  refine lv_iadd C.1 C.2.1 dL_law_1954 ?_
  refine va_sld C.1 C.2.1 hX hbl hbA hW.2 (hi 3 (by decide) (by decide)) dL_law_1955 ?_
  obtain ⟨u1, hcu1, hf⟩ := bnd_t hf
  refine x_calli hW (x_runV C hW hl (wk9 k_125) rfl rfl (c_X11_setHandles hcu1) cw_L_239 ci_X11_setHandles cs_X11_setHandles ⟨rfl, rfl, by decide, by decide⟩ ⟨Nat.le_trans (by omega) hcs.1, Nat.le_trans (by omega) hcs.2⟩ (As := [.int (xs (ix (i + 1))), .int (xs (ix (i + 2))), .int (xs (ix (i + 3)))]) rfl rfl (Nat.le_of_ble_eq_true rfl) dL_law_1956) (fun H locs hW => ?_)
  refine lv_istore (lv' := [(6, .int u1.1), (5, .int u0.1), (4, .int i), (0, .ref b), (1, .ref (Z.1 0)), (2, .ref (Z.1 125)), (3, .ref (Z.1 145))]) C.1 C.2.1 dL_law_1959 hl (by decide) rfl (fun ls hl => ?_)
  refine lv_aload_n C.1 C.2.1 dL_law_1961 rfl (lv_at hl 5 rfl) ?_
  obtain ⟨u2, hcu2, hf⟩ := bnd_t hf
  refine x_calli hW (x_runV C hW hl (wk9 k_125) rfl rfl (c_X11_thrown hcu2) cw_L_106 ci_X11_thrown cs_X11_thrown ⟨rfl, rfl, by decide, by decide⟩ ⟨Nat.le_trans (by omega) hcs.1, Nat.le_trans (by omega) hcs.2⟩ (As := []) rfl rfl (Nat.le_of_ble_eq_true rfl) dL_law_1962) (fun H locs hW => ?_)
  refine lv_iload C.1 C.2.1 dL_law_1965 (lv_at hl 1 rfl) ?_
  refine x_cmpeq (tgt := 1972) C hf dL_law_1967 (by decide) (fun hf => ?_) (fun hf => by cases hf)
  refine lv_iload C.1 C.2.1 dL_law_1972 (lv_at hl 1 rfl) ?_
  refine x_ifne (tgt := 1989) C hf dL_law_1974 (by decide) (fun hf => ?_) (fun hf => ?_)
  · obtain rfl := Option.some.inj hf
    refine lv_goto (tgt := 2151) C.1 C.2.1 dL_law_1989 (by decide) ?_
    exact kk ls H locs hW (lv_sub hl [2, 3, 4, 5, 6] rfl)
  refine lv_aload_n C.1 C.2.1 dL_law_1977 rfl (lv_at hl 6 rfl) ?_
  refine lv_iconst (v := 0) C.1 C.2.1 dL_law_1978 (by decide) ?_
  refine x_outld hm C hW dL_law_1979 ?_
  refine lv_iload C.1 C.2.1 dL_law_1980 (lv_at hl 0 rfl) ?_
  refine lv_i2l C.1 C.2.1 dL_law_1982 rfl ?_
  rcases Classical.em (u1.2 145 0 = u1.1) with q | q
  case inr => have hf := (if_neg q).symm.trans hf; cases hf
  have hf := (if_pos q).symm.trans hf
  refine W.lcmp C.1 C.2.1 dL_law_1983 ?_
  rw [q, lgc_eq]
  refine lv_if_eq (tgt := 1989) C.1 C.2.1 dL_law_1984 (by decide) (fun _ => ?_) (fun q => absurd rfl q)
  refine lv_goto (tgt := 2151) C.1 C.2.1 dL_law_1989 (by decide) ?_
  obtain rfl := Option.some.inj hf
  exact kk ls H locs hW (lv_sub hl [2, 3, 4, 5, 6] rfl)
set_option maxRecDepth 20000 in
set_option maxHeartbeats 1000000 in
theorem k_case40 {p : Program} {l : Launch} {e : Env} {s : State} {m : MethodId} {b : Nat} {below : List Frame} {meth : Method} {c : Code} {H : Heap} {locs : List Loc} {cells slots : Nat} {Q : State → Prop} {ls : Array Slot} {Z : ZT} {h g : Hp} {L : Nat} {xs : Nat → Int32} {i : Int32} (hm : Z.2.2.2.2 1000 = 1) (hlt : l.stackTraces = false) (C : CX p s m #[.ref b] meth c cL_law RL 7 ret Z) (hX : va_X b L xs s s.heap) (hbl : b < s.heap.size) (hbA : ¬ FR Z b) (hi : ∀ k : Int32, 0 ≤ k → k ≤ 5 → vp_in (i + k) L) (hcs : cells + 8 ≤ 601024 ∧ slots + 48 ≤ 7293034) (hW : XW Z h g s.heap H locs) (hl : lv_has ls 7 [(4, .int i), (0, .ref b), (1, .ref (Z.1 0)), (2, .ref (Z.1 125)), (3, .ref (Z.1 145))]) {out : Hp × Hp} (hf : A_40 h g = some out) (kk : ∀ (ls : Array Slot) (H : Heap) (locs : List Loc), XW Z out.1 out.2 s.heap H locs → lv_has ls 7 [(4, .int i), (0, .ref b), (1, .ref (Z.1 0)), (2, .ref (Z.1 125)), (3, .ref (Z.1 145))] → W p l e room_1 s m #[Value.ref b] below meth c H locs (cells + 8) (slots + 48) Q (F0 m 2151 ls [])) : W p l e room_1 s m #[Value.ref b] below meth c H locs cells slots Q (F0 m 1992 ls []) := by
  unfold A_40 at hf
  refine lv_aload_n C.1 C.2.1 dL_law_1992 rfl (lv_at hl 2 rfl) ?_
  obtain ⟨u0, hcu0, hf⟩ := bnd_t hf
  refine x_calli hW (x_runV C hW hl (wk8 k_0) rfl rfl (c_X10_runScript hcu0) cw_L_240 ci_X10_runScript cs_X10_runScript ⟨rfl, rfl, by decide, by decide⟩ ⟨Nat.le_trans (by omega) hcs.1, Nat.le_trans (by omega) hcs.2⟩ (As := []) rfl rfl (Nat.le_of_ble_eq_true rfl) dL_law_1993) (fun H locs hW => ?_)
  refine lv_aload_n C.1 C.2.1 dL_law_1996 rfl (lv_at hl 3 rfl) ?_
  obtain ⟨u1, hcu1, hf⟩ := bnd_t hf
  refine x_calli hW (x_runV C hW hl (wk9 k_125) rfl rfl (c_X11_runScript hcu1) cw_L_243 ci_X11_runScript cs_X11_runScript ⟨rfl, rfl, by decide, by decide⟩ ⟨Nat.le_trans (by omega) hcs.1, Nat.le_trans (by omega) hcs.2⟩ (As := []) rfl rfl (Nat.le_of_ble_eq_true rfl) dL_law_1997) (fun H locs hW => ?_)
  refine x_cmpeq (tgt := 2151) C hf dL_law_2000 (by decide) (fun hf => ?_) (fun hf => by cases hf)
  obtain rfl := Option.some.inj hf
  refine W.widen (k := cells + 8) (n := slots + 48) (by omega) (by omega) ?_
  exact kk ls H locs hW (lv_sub hl [0, 1, 2, 3, 4] rfl)
set_option maxRecDepth 20000 in
set_option maxHeartbeats 1000000 in
theorem k_case41 {p : Program} {l : Launch} {e : Env} {s : State} {m : MethodId} {b : Nat} {below : List Frame} {meth : Method} {c : Code} {H : Heap} {locs : List Loc} {cells slots : Nat} {Q : State → Prop} {ls : Array Slot} {Z : ZT} {h g : Hp} {L : Nat} {xs : Nat → Int32} {i : Int32} (hm : Z.2.2.2.2 1000 = 1) (hlt : l.stackTraces = false) (C : CX p s m #[.ref b] meth c cL_law RL 7 ret Z) (hX : va_X b L xs s s.heap) (hbl : b < s.heap.size) (hbA : ¬ FR Z b) (hi : ∀ k : Int32, 0 ≤ k → k ≤ 5 → vp_in (i + k) L) (hcs : cells + 8 ≤ 601024 ∧ slots + 48 ≤ 7293034) (hW : XW Z h g s.heap H locs) (hl : lv_has ls 7 [(4, .int i), (0, .ref b), (1, .ref (Z.1 0)), (2, .ref (Z.1 125)), (3, .ref (Z.1 145))]) {out : Hp × Hp} (hf : A_41 h g = some out) (kk : ∀ (ls : Array Slot) (H : Heap) (locs : List Loc), XW Z out.1 out.2 s.heap H locs → lv_has ls 7 [(4, .int i), (0, .ref b), (1, .ref (Z.1 0)), (2, .ref (Z.1 125)), (3, .ref (Z.1 145))] → W p l e room_1 s m #[Value.ref b] below meth c H locs (cells + 8) (slots + 48) Q (F0 m 2151 ls [])) : W p l e room_1 s m #[Value.ref b] below meth c H locs cells slots Q (F0 m 2005 ls []) := by
  unfold A_41 at hf
  refine lv_aload_n C.1 C.2.1 dL_law_2005 rfl (lv_at hl 2 rfl) ?_
  obtain ⟨u0, hcu0, hf⟩ := bnd_t hf
  refine x_calli hW (x_runV C hW hl (wk8 k_0) rfl rfl (c_X10_failed hcu0) cw_L_244 ci_X10_failed cs_X10_failed ⟨rfl, rfl, by decide, by decide⟩ ⟨Nat.le_trans (by omega) hcs.1, Nat.le_trans (by omega) hcs.2⟩ (As := []) rfl rfl (Nat.le_of_ble_eq_true rfl) dL_law_2006) (fun H locs hW => ?_)
  refine lv_aload_n C.1 C.2.1 dL_law_2009 rfl (lv_at hl 3 rfl) ?_
  obtain ⟨u1, hcu1, hf⟩ := bnd_t hf
  refine x_calli hW (x_runV C hW hl (wk9 k_125) rfl rfl (c_X11_failed hcu1) cw_L_247 ci_X11_failed cs_X11_failed ⟨rfl, rfl, by decide, by decide⟩ ⟨Nat.le_trans (by omega) hcs.1, Nat.le_trans (by omega) hcs.2⟩ (As := []) rfl rfl (Nat.le_of_ble_eq_true rfl) dL_law_2010) (fun H locs hW => ?_)
  refine x_cmpeq (tgt := 2151) C hf dL_law_2013 (by decide) (fun hf => ?_) (fun hf => by cases hf)
  obtain rfl := Option.some.inj hf
  refine W.widen (k := cells + 8) (n := slots + 48) (by omega) (by omega) ?_
  exact kk ls H locs hW (lv_sub hl [0, 1, 2, 3, 4] rfl)
set_option maxRecDepth 20000 in
set_option maxHeartbeats 1000000 in
theorem k_case42 {p : Program} {l : Launch} {e : Env} {s : State} {m : MethodId} {b : Nat} {below : List Frame} {meth : Method} {c : Code} {H : Heap} {locs : List Loc} {cells slots : Nat} {Q : State → Prop} {ls : Array Slot} {Z : ZT} {h g : Hp} {L : Nat} {xs : Nat → Int32} {i : Int32} (hm : Z.2.2.2.2 1000 = 1) (hlt : l.stackTraces = false) (C : CX p s m #[.ref b] meth c cL_law RL 7 ret Z) (hX : va_X b L xs s s.heap) (hbl : b < s.heap.size) (hbA : ¬ FR Z b) (hi : ∀ k : Int32, 0 ≤ k → k ≤ 5 → vp_in (i + k) L) (hcs : cells + 8 ≤ 601024 ∧ slots + 48 ≤ 7293034) (hW : XW Z h g s.heap H locs) (hl : lv_has ls 7 [(4, .int i), (0, .ref b), (1, .ref (Z.1 0)), (2, .ref (Z.1 125)), (3, .ref (Z.1 145))]) {out : Hp × Hp} (hf : A_42 h g = some out) (kk : ∀ (ls : Array Slot) (H : Heap) (locs : List Loc), XW Z out.1 out.2 s.heap H locs → lv_has ls 7 [(4, .int i), (0, .ref b), (1, .ref (Z.1 0)), (2, .ref (Z.1 125)), (3, .ref (Z.1 145))] → W p l e room_1 s m #[Value.ref b] below meth c H locs (cells + 8) (slots + 48) Q (F0 m 2151 ls [])) : W p l e room_1 s m #[Value.ref b] below meth c H locs cells slots Q (F0 m 2018 ls []) := by
  unfold A_42 at hf
  refine lv_aload_n C.1 C.2.1 dL_law_2018 rfl (lv_at hl 2 rfl) ?_
  obtain ⟨u0, hcu0, hf⟩ := bnd_t hf
  refine x_calli hW (x_runV C hW hl (wk8 k_0) rfl rfl (c_X10_wasStopped hcu0) cw_L_248 ci_X10_wasStopped cs_X10_wasStopped ⟨rfl, rfl, by decide, by decide⟩ ⟨Nat.le_trans (by omega) hcs.1, Nat.le_trans (by omega) hcs.2⟩ (As := []) rfl rfl (Nat.le_of_ble_eq_true rfl) dL_law_2019) (fun H locs hW => ?_)
  refine lv_aload_n C.1 C.2.1 dL_law_2022 rfl (lv_at hl 3 rfl) ?_
  obtain ⟨u1, hcu1, hf⟩ := bnd_t hf
  refine x_calli hW (x_runV C hW hl (wk9 k_125) rfl rfl (c_X11_wasStopped hcu1) cw_L_252 ci_X11_wasStopped cs_X11_wasStopped ⟨rfl, rfl, by decide, by decide⟩ ⟨Nat.le_trans (by omega) hcs.1, Nat.le_trans (by omega) hcs.2⟩ (As := []) rfl rfl (Nat.le_of_ble_eq_true rfl) dL_law_2023) (fun H locs hW => ?_)
  refine x_cmpeq (tgt := 2151) C hf dL_law_2026 (by decide) (fun hf => ?_) (fun hf => by cases hf)
  obtain rfl := Option.some.inj hf
  refine W.widen (k := cells + 8) (n := slots + 48) (by omega) (by omega) ?_
  exact kk ls H locs hW (lv_sub hl [0, 1, 2, 3, 4] rfl)
set_option maxRecDepth 20000 in
set_option maxHeartbeats 1000000 in
theorem k_case43 {p : Program} {l : Launch} {e : Env} {s : State} {m : MethodId} {b : Nat} {below : List Frame} {meth : Method} {c : Code} {H : Heap} {locs : List Loc} {cells slots : Nat} {Q : State → Prop} {ls : Array Slot} {Z : ZT} {h g : Hp} {L : Nat} {xs : Nat → Int32} {i : Int32} (hm : Z.2.2.2.2 1000 = 1) (hlt : l.stackTraces = false) (C : CX p s m #[.ref b] meth c cL_law RL 7 ret Z) (hX : va_X b L xs s s.heap) (hbl : b < s.heap.size) (hbA : ¬ FR Z b) (hi : ∀ k : Int32, 0 ≤ k → k ≤ 5 → vp_in (i + k) L) (hcs : cells + 8 ≤ 601024 ∧ slots + 48 ≤ 7293034) (hW : XW Z h g s.heap H locs) (hl : lv_has ls 7 [(4, .int i), (0, .ref b), (1, .ref (Z.1 0)), (2, .ref (Z.1 125)), (3, .ref (Z.1 145))]) {out : Hp × Hp} (hf : A_43 h g = some out) (kk : ∀ (ls : Array Slot) (H : Heap) (locs : List Loc), XW Z out.1 out.2 s.heap H locs → lv_has ls 7 [(4, .int i), (0, .ref b), (1, .ref (Z.1 0)), (2, .ref (Z.1 125)), (3, .ref (Z.1 145))] → W p l e room_1 s m #[Value.ref b] below meth c H locs (cells + 8) (slots + 48) Q (F0 m 2151 ls [])) : W p l e room_1 s m #[Value.ref b] below meth c H locs cells slots Q (F0 m 2031 ls []) := by
  unfold A_43 at hf
  refine lv_aload_n C.1 C.2.1 dL_law_2031 rfl (lv_at hl 2 rfl) ?_
  obtain ⟨u0, hcu0, hf⟩ := bnd_t hf
  refine x_calli hW (x_runV C hW hl (wk8 k_0) rfl rfl (c_X10_undo hcu0) cw_L_253 ci_X10_undo cs_X10_undo ⟨rfl, rfl, by decide, by decide⟩ ⟨Nat.le_trans (by omega) hcs.1, Nat.le_trans (by omega) hcs.2⟩ (As := []) rfl rfl (Nat.le_of_ble_eq_true rfl) dL_law_2032) (fun H locs hW => ?_)
  refine lv_aload_n C.1 C.2.1 dL_law_2035 rfl (lv_at hl 3 rfl) ?_
  obtain ⟨u1, hcu1, hf⟩ := bnd_t hf
  refine x_calli hW (x_runV C hW hl (wk9 k_125) rfl rfl (c_X11_undo hcu1) cw_L_256 ci_X11_undo cs_X11_undo ⟨rfl, rfl, by decide, by decide⟩ ⟨Nat.le_trans (by omega) hcs.1, Nat.le_trans (by omega) hcs.2⟩ (As := []) rfl rfl (Nat.le_of_ble_eq_true rfl) dL_law_2036) (fun H locs hW => ?_)
  refine x_cmpeq (tgt := 2151) C hf dL_law_2039 (by decide) (fun hf => ?_) (fun hf => by cases hf)
  obtain rfl := Option.some.inj hf
  refine W.widen (k := cells + 8) (n := slots + 48) (by omega) (by omega) ?_
  exact kk ls H locs hW (lv_sub hl [0, 1, 2, 3, 4] rfl)
set_option maxRecDepth 20000 in
set_option maxHeartbeats 1000000 in
theorem k_case44 {p : Program} {l : Launch} {e : Env} {s : State} {m : MethodId} {b : Nat} {below : List Frame} {meth : Method} {c : Code} {H : Heap} {locs : List Loc} {cells slots : Nat} {Q : State → Prop} {ls : Array Slot} {Z : ZT} {h g : Hp} {L : Nat} {xs : Nat → Int32} {i : Int32} (hm : Z.2.2.2.2 1000 = 1) (hlt : l.stackTraces = false) (C : CX p s m #[.ref b] meth c cL_law RL 7 ret Z) (hX : va_X b L xs s s.heap) (hbl : b < s.heap.size) (hbA : ¬ FR Z b) (hi : ∀ k : Int32, 0 ≤ k → k ≤ 5 → vp_in (i + k) L) (hcs : cells + 8 ≤ 601024 ∧ slots + 48 ≤ 7293034) (hW : XW Z h g s.heap H locs) (hl : lv_has ls 7 [(4, .int i), (0, .ref b), (1, .ref (Z.1 0)), (2, .ref (Z.1 125)), (3, .ref (Z.1 145))]) {out : Hp × Hp} (hf : A_44 h g = some out) (kk : ∀ (ls : Array Slot) (H : Heap) (locs : List Loc), XW Z out.1 out.2 s.heap H locs → lv_has ls 7 [(4, .int i), (0, .ref b), (1, .ref (Z.1 0)), (2, .ref (Z.1 125)), (3, .ref (Z.1 145))] → W p l e room_1 s m #[Value.ref b] below meth c H locs (cells + 8) (slots + 48) Q (F0 m 2151 ls [])) : W p l e room_1 s m #[Value.ref b] below meth c H locs cells slots Q (F0 m 2044 ls []) := by
  unfold A_44 at hf
  refine lv_aload_n C.1 C.2.1 dL_law_2044 rfl (lv_at hl 2 rfl) ?_
  obtain ⟨u0, hcu0, hf⟩ := bnd_t hf
  refine x_calli hW (x_runV C hW hl (wk8 k_0) rfl rfl (c_X10_undoDepth hcu0) cw_L_257 ci_X10_undoDepth cs_X10_undoDepth ⟨rfl, rfl, by decide, by decide⟩ ⟨Nat.le_trans (by omega) hcs.1, Nat.le_trans (by omega) hcs.2⟩ (As := []) rfl rfl (Nat.le_of_ble_eq_true rfl) dL_law_2045) (fun H locs hW => ?_)
  refine lv_aload_n C.1 C.2.1 dL_law_2048 rfl (lv_at hl 3 rfl) ?_
  obtain ⟨u1, hcu1, hf⟩ := bnd_t hf
  refine x_calli hW (x_runV C hW hl (wk9 k_125) rfl rfl (c_X11_undoDepth hcu1) cw_L_260 ci_X11_undoDepth cs_X11_undoDepth ⟨rfl, rfl, by decide, by decide⟩ ⟨Nat.le_trans (by omega) hcs.1, Nat.le_trans (by omega) hcs.2⟩ (As := []) rfl rfl (Nat.le_of_ble_eq_true rfl) dL_law_2049) (fun H locs hW => ?_)
  refine x_cmpeq (tgt := 2151) C hf dL_law_2052 (by decide) (fun hf => ?_) (fun hf => by cases hf)
  obtain rfl := Option.some.inj hf
  refine W.widen (k := cells + 8) (n := slots + 48) (by omega) (by omega) ?_
  exact kk ls H locs hW (lv_sub hl [0, 1, 2, 3, 4] rfl)
set_option maxRecDepth 20000 in
set_option maxHeartbeats 1000000 in
theorem k_case45 {p : Program} {l : Launch} {e : Env} {s : State} {m : MethodId} {b : Nat} {below : List Frame} {meth : Method} {c : Code} {H : Heap} {locs : List Loc} {cells slots : Nat} {Q : State → Prop} {ls : Array Slot} {Z : ZT} {h g : Hp} {L : Nat} {xs : Nat → Int32} {i : Int32} (hm : Z.2.2.2.2 1000 = 1) (hlt : l.stackTraces = false) (C : CX p s m #[.ref b] meth c cL_law RL 7 ret Z) (hX : va_X b L xs s s.heap) (hbl : b < s.heap.size) (hbA : ¬ FR Z b) (hi : ∀ k : Int32, 0 ≤ k → k ≤ 5 → vp_in (i + k) L) (hcs : cells + 8 ≤ 601024 ∧ slots + 48 ≤ 7293034) (hW : XW Z h g s.heap H locs) (hl : lv_has ls 7 [(4, .int i), (0, .ref b), (1, .ref (Z.1 0)), (2, .ref (Z.1 125)), (3, .ref (Z.1 145))]) {out : Hp × Hp} (hf : A_45 h g = some out) (kk : ∀ (ls : Array Slot) (H : Heap) (locs : List Loc), XW Z out.1 out.2 s.heap H locs → lv_has ls 7 [(4, .int i), (0, .ref b), (1, .ref (Z.1 0)), (2, .ref (Z.1 125)), (3, .ref (Z.1 145))] → W p l e room_1 s m #[Value.ref b] below meth c H locs (cells + 8) (slots + 48) Q (F0 m 2151 ls [])) : W p l e room_1 s m #[Value.ref b] below meth c H locs cells slots Q (F0 m 2057 ls []) := by
  unfold A_45 at hf
  refine lv_aload_n C.1 C.2.1 dL_law_2057 rfl (lv_at hl 2 rfl) ?_
  obtain ⟨u0, hcu0, hf⟩ := bnd_t hf
  refine x_calli hW (x_runV C hW hl (wk8 k_0) rfl rfl (c_X10_formatTranscript hcu0) cw_L_261 ci_X10_formatTranscript cs_X10_formatTranscript ⟨rfl, rfl, by decide, by decide⟩ ⟨Nat.le_trans (by omega) hcs.1, Nat.le_trans (by omega) hcs.2⟩ (As := []) rfl rfl (Nat.le_of_ble_eq_true rfl) dL_law_2058) (fun H locs hW => ?_)
  refine lv_aload_n C.1 C.2.1 dL_law_2061 rfl (lv_at hl 3 rfl) ?_
  obtain ⟨u1, hcu1, hf⟩ := bnd_t hf
  refine x_calli hW (x_runV C hW hl (wk9 k_125) rfl rfl (c_X11_formatTranscript hcu1) cw_L_264 ci_X11_formatTranscript cs_X11_formatTranscript ⟨rfl, rfl, by decide, by decide⟩ ⟨Nat.le_trans (by omega) hcs.1, Nat.le_trans (by omega) hcs.2⟩ (As := []) rfl rfl (Nat.le_of_ble_eq_true rfl) dL_law_2062) (fun H locs hW => ?_)
  refine x_cmpeq (tgt := 2151) C hf dL_law_2065 (by decide) (fun hf => ?_) (fun hf => by cases hf)
  obtain rfl := Option.some.inj hf
  refine W.widen (k := cells + 8) (n := slots + 48) (by omega) (by omega) ?_
  exact kk ls H locs hW (lv_sub hl [0, 1, 2, 3, 4] rfl)
set_option maxRecDepth 20000 in
set_option maxHeartbeats 1000000 in
theorem k_case46 {p : Program} {l : Launch} {e : Env} {s : State} {m : MethodId} {b : Nat} {below : List Frame} {meth : Method} {c : Code} {H : Heap} {locs : List Loc} {cells slots : Nat} {Q : State → Prop} {ls : Array Slot} {Z : ZT} {h g : Hp} {L : Nat} {xs : Nat → Int32} {i : Int32} (hm : Z.2.2.2.2 1000 = 1) (hlt : l.stackTraces = false) (C : CX p s m #[.ref b] meth c cL_law RL 7 ret Z) (hX : va_X b L xs s s.heap) (hbl : b < s.heap.size) (hbA : ¬ FR Z b) (hi : ∀ k : Int32, 0 ≤ k → k ≤ 5 → vp_in (i + k) L) (hcs : cells + 8 ≤ 601024 ∧ slots + 48 ≤ 7293034) (hW : XW Z h g s.heap H locs) (hl : lv_has ls 7 [(4, .int i), (0, .ref b), (1, .ref (Z.1 0)), (2, .ref (Z.1 125)), (3, .ref (Z.1 145))]) {out : Hp × Hp} (hf : A_46 h g (xs (ix (i + 1))) = some out) (kk : ∀ (ls : Array Slot) (H : Heap) (locs : List Loc), XW Z out.1 out.2 s.heap H locs → lv_has ls 7 [(4, .int i), (0, .ref b), (1, .ref (Z.1 0)), (2, .ref (Z.1 125)), (3, .ref (Z.1 145))] → W p l e room_1 s m #[Value.ref b] below meth c H locs (cells + 8) (slots + 48) Q (F0 m 2151 ls [])) : W p l e room_1 s m #[Value.ref b] below meth c H locs cells slots Q (F0 m 2070 ls []) := by
  unfold A_46 at hf
  refine lv_aload_n C.1 C.2.1 dL_law_2070 rfl (lv_at hl 2 rfl) ?_
  refine lv_aload_n C.1 C.2.1 dL_law_2071 rfl (lv_at hl 1 rfl) ?_
  refine lv_iload C.1 C.2.1 dL_law_2072 (lv_at hl 0 rfl) ?_
  refine lv_iconst (v := 1) C.1 C.2.1 dL_law_2074 (by decide) ?_
  refine lv_iadd C.1 C.2.1 dL_law_2075 ?_
  refine va_sld C.1 C.2.1 hX hbl hbA hW.2 (hi 1 (by decide) (by decide)) dL_law_2076 ?_
  refine lv_aload_n C.1 C.2.1 dL_law_2077 rfl (lv_at hl 4 rfl) ?_
  obtain ⟨u0, hcu0, hf⟩ := bnd_t hf
  refine x_callX hW (x_runSW C hW hl (c_L_formatShot hlt hm hcu0) cX_L_formatShot ct_L_formatShot cwL_265 ⟨rfl, rfl, by decide, by decide⟩ hcs (As := [.ref (Z.1 0), .int (xs (ix (i + 1))), .ref (Z.1 145)]) rfl rfl (Nat.le_of_ble_eq_true rfl) dL_law_2078) (fun H locs hW => ?_)
  refine lv_istore (lv' := [(5, .int u0.1), (4, .int i), (0, .ref b), (1, .ref (Z.1 0)), (2, .ref (Z.1 125)), (3, .ref (Z.1 145))]) C.1 C.2.1 dL_law_2081 hl (by decide) rfl (fun ls hl => ?_)
  refine lv_aload_n C.1 C.2.1 dL_law_2083 rfl (lv_at hl 4 rfl) ?_
  refine lv_aload_n C.1 C.2.1 dL_law_2084 rfl (lv_at hl 2 rfl) ?_
  refine lv_iload C.1 C.2.1 dL_law_2085 (lv_at hl 1 rfl) ?_
  refine lv_iconst (v := 1) C.1 C.2.1 dL_law_2087 (by decide) ?_
  refine lv_iadd C.1 C.2.1 dL_law_2088 ?_
  refine va_sld C.1 C.2.1 hX hbl hbA hW.2 (hi 1 (by decide) (by decide)) dL_law_2089 ?_
  obtain ⟨u1, hcu1, hf⟩ := bnd_t hf
  refine x_calli hW (x_runV C hW hl (wk9 k_125) rfl rfl (c_X11_formatShot hcu1) cw_L_267 ci_X11_formatShot cs_X11_formatShot ⟨rfl, rfl, by decide, by decide⟩ ⟨Nat.le_trans (by omega) hcs.1, Nat.le_trans (by omega) hcs.2⟩ (As := [.int (xs (ix (i + 1)))]) rfl rfl (Nat.le_of_ble_eq_true rfl) dL_law_2090) (fun H locs hW => ?_)
  refine lv_istore (lv' := [(6, .int u1.1), (5, .int u0.1), (4, .int i), (0, .ref b), (1, .ref (Z.1 0)), (2, .ref (Z.1 125)), (3, .ref (Z.1 145))]) C.1 C.2.1 dL_law_2093 hl (by decide) rfl (fun ls hl => ?_)
  refine lv_aload_n C.1 C.2.1 dL_law_2095 rfl (lv_at hl 5 rfl) ?_
  obtain ⟨u2, hcu2, hf⟩ := bnd_t hf
  refine x_calli hW (x_runV C hW hl (wk9 k_125) rfl rfl (c_X11_thrown hcu2) cw_L_106 ci_X11_thrown cs_X11_thrown ⟨rfl, rfl, by decide, by decide⟩ ⟨Nat.le_trans (by omega) hcs.1, Nat.le_trans (by omega) hcs.2⟩ (As := []) rfl rfl (Nat.le_of_ble_eq_true rfl) dL_law_2096) (fun H locs hW => ?_)
  refine lv_iload C.1 C.2.1 dL_law_2099 (lv_at hl 1 rfl) ?_
  refine x_cmpeq (tgt := 2106) C hf dL_law_2101 (by decide) (fun hf => ?_) (fun hf => by cases hf)
  refine lv_iload C.1 C.2.1 dL_law_2106 (lv_at hl 1 rfl) ?_
  refine x_ifne (tgt := 2123) C hf dL_law_2108 (by decide) (fun hf => ?_) (fun hf => ?_)
  · obtain rfl := Option.some.inj hf
    refine lv_goto (tgt := 2151) C.1 C.2.1 dL_law_2123 (by decide) ?_
    exact kk ls H locs hW (lv_sub hl [2, 3, 4, 5, 6] rfl)
  refine lv_aload_n C.1 C.2.1 dL_law_2111 rfl (lv_at hl 6 rfl) ?_
  refine lv_iconst (v := 0) C.1 C.2.1 dL_law_2112 (by decide) ?_
  refine x_outld hm C hW dL_law_2113 ?_
  refine lv_iload C.1 C.2.1 dL_law_2114 (lv_at hl 0 rfl) ?_
  refine lv_i2l C.1 C.2.1 dL_law_2116 rfl ?_
  rcases Classical.em (u1.2 145 0 = u1.1) with q | q
  case inr => have hf := (if_neg q).symm.trans hf; cases hf
  have hf := (if_pos q).symm.trans hf
  refine W.lcmp C.1 C.2.1 dL_law_2117 ?_
  rw [q, lgc_eq]
  refine lv_if_eq (tgt := 2123) C.1 C.2.1 dL_law_2118 (by decide) (fun _ => ?_) (fun q => absurd rfl q)
  refine lv_goto (tgt := 2151) C.1 C.2.1 dL_law_2123 (by decide) ?_
  obtain rfl := Option.some.inj hf
  exact kk ls H locs hW (lv_sub hl [2, 3, 4, 5, 6] rfl)
set_option maxRecDepth 20000 in
set_option maxHeartbeats 1000000 in
theorem k_case47 {p : Program} {l : Launch} {e : Env} {s : State} {m : MethodId} {b : Nat} {below : List Frame} {meth : Method} {c : Code} {H : Heap} {locs : List Loc} {cells slots : Nat} {Q : State → Prop} {ls : Array Slot} {Z : ZT} {h g : Hp} {L : Nat} {xs : Nat → Int32} {i : Int32} (hm : Z.2.2.2.2 1000 = 1) (hlt : l.stackTraces = false) (C : CX p s m #[.ref b] meth c cL_law RL 7 ret Z) (hX : va_X b L xs s s.heap) (hbl : b < s.heap.size) (hbA : ¬ FR Z b) (hi : ∀ k : Int32, 0 ≤ k → k ≤ 5 → vp_in (i + k) L) (hcs : cells + 8 ≤ 601024 ∧ slots + 48 ≤ 7293034) (hW : XW Z h g s.heap H locs) (hl : lv_has ls 7 [(4, .int i), (0, .ref b), (1, .ref (Z.1 0)), (2, .ref (Z.1 125)), (3, .ref (Z.1 145))]) {out : Hp × Hp} (hf : A_47 h g (xs (ix (i + 1))) = some out) (kk : ∀ (ls : Array Slot) (H : Heap) (locs : List Loc), XW Z out.1 out.2 s.heap H locs → lv_has ls 7 [(4, .int i), (0, .ref b), (1, .ref (Z.1 0)), (2, .ref (Z.1 125)), (3, .ref (Z.1 145))] → W p l e room_1 s m #[Value.ref b] below meth c H locs (cells + 8) (slots + 48) Q (F0 m 2151 ls [])) : W p l e room_1 s m #[Value.ref b] below meth c H locs cells slots Q (F0 m 2126 ls []) := by
  unfold A_47 at hf
  refine lv_aload_n C.1 C.2.1 dL_law_2126 rfl (lv_at hl 2 rfl) ?_
  refine lv_aload_n C.1 C.2.1 dL_law_2127 rfl (lv_at hl 1 rfl) ?_
  refine lv_iload C.1 C.2.1 dL_law_2128 (lv_at hl 0 rfl) ?_
  refine lv_iconst (v := 1) C.1 C.2.1 dL_law_2130 (by decide) ?_
  refine lv_iadd C.1 C.2.1 dL_law_2131 ?_
  refine va_sld C.1 C.2.1 hX hbl hbA hW.2 (hi 1 (by decide) (by decide)) dL_law_2132 ?_
  obtain ⟨u0, hcu0, hf⟩ := bnd_t hf
  refine x_calli hW (x_runV C hW hl (wk8 k_0) rfl rfl (c_X10_formattedByte hcu0) cw_L_268 ci_X10_formattedByte cs_X10_formattedByte ⟨rfl, rfl, by decide, by decide⟩ ⟨Nat.le_trans (by omega) hcs.1, Nat.le_trans (by omega) hcs.2⟩ (As := [.int (xs (ix (i + 1)))]) rfl rfl (Nat.le_of_ble_eq_true rfl) dL_law_2133) (fun H locs hW => ?_)
  refine lv_aload_n C.1 C.2.1 dL_law_2136 rfl (lv_at hl 3 rfl) ?_
  refine lv_aload_n C.1 C.2.1 dL_law_2137 rfl (lv_at hl 1 rfl) ?_
  refine lv_iload C.1 C.2.1 dL_law_2138 (lv_at hl 0 rfl) ?_
  refine lv_iconst (v := 1) C.1 C.2.1 dL_law_2140 (by decide) ?_
  refine lv_iadd C.1 C.2.1 dL_law_2141 ?_
  refine va_sld C.1 C.2.1 hX hbl hbA hW.2 (hi 1 (by decide) (by decide)) dL_law_2142 ?_
  obtain ⟨u1, hcu1, hf⟩ := bnd_t hf
  refine x_calli hW (x_runV C hW hl (wk9 k_125) rfl rfl (c_X11_formattedByte hcu1) cw_L_271 ci_X11_formattedByte cs_X11_formattedByte ⟨rfl, rfl, by decide, by decide⟩ ⟨Nat.le_trans (by omega) hcs.1, Nat.le_trans (by omega) hcs.2⟩ (As := [.int (xs (ix (i + 1)))]) rfl rfl (Nat.le_of_ble_eq_true rfl) dL_law_2143) (fun H locs hW => ?_)
  refine x_cmpeq (tgt := 2151) C hf dL_law_2146 (by decide) (fun hf => ?_) (fun hf => by cases hf)
  obtain rfl := Option.some.inj hf
  refine W.widen (k := cells + 8) (n := slots + 48) (by omega) (by omega) ?_
  exact kk ls H locs hW (lv_sub hl [0, 1, 2, 3, 4] rfl)
