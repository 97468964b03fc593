theorem dL_law_0 : decode cL_law 0 = .ok (.new 8, 3) := by decide +kernel
theorem dL_law_3 : decode cL_law 3 = .ok (.dup, 1) := by decide +kernel
theorem dL_law_4 : decode cL_law 4 = .ok (.invokespecial 97, 3) := by decide +kernel
theorem dL_law_7 : decode cL_law 7 = .ok (.astore_n 1, 1) := by decide +kernel
theorem dL_law_8 : decode cL_law 8 = .ok (.new 98, 3) := by decide +kernel
theorem dL_law_11 : decode cL_law 11 = .ok (.dup, 1) := by decide +kernel
theorem dL_law_12 : decode cL_law 12 = .ok (.invokespecial 100, 3) := by decide +kernel
theorem dL_law_15 : decode cL_law 15 = .ok (.astore_n 2, 1) := by decide +kernel
theorem dL_law_16 : decode cL_law 16 = .ok (.iconst 1, 1) := by decide +kernel
theorem dL_law_17 : decode cL_law 17 = .ok (.newarray .long, 2) := by decide +kernel
theorem dL_law_19 : decode cL_law 19 = .ok (.astore_n 3, 1) := by decide +kernel
theorem dL_law_20 : decode cL_law 20 = .ok (.iconst 0, 1) := by decide +kernel
theorem dL_law_21 : decode cL_law 21 = .ok (.istore 4, 2) := by decide +kernel
theorem dL_law_23 : decode cL_law 23 = .ok (.iload 4, 2) := by decide +kernel
theorem dL_law_25 : decode cL_law 25 = .ok (.aload_n 0, 1) := by decide +kernel
theorem dL_law_26 : decode cL_law 26 = .ok (.arraylength, 1) := by decide +kernel
theorem dL_law_27 : decode cL_law 27 = .ok (.bipush 6, 2) := by decide +kernel
theorem dL_law_29 : decode cL_law 29 = .ok (.isub, 1) := by decide +kernel
theorem dL_law_30 : decode cL_law 30 = .ok (.if_icmp .gt 2740, 3) := by decide +kernel
theorem dL_law_33 : decode cL_law 33 = .ok (.aload_n 0, 1) := by decide +kernel
theorem dL_law_34 : decode cL_law 34 = .ok (.iload 4, 2) := by decide +kernel
theorem dL_law_36 : decode cL_law 36 = .ok (.iaload, 1) := by decide +kernel
theorem dL_law_37 : decode cL_law 37 = .ok (.bipush 63, 2) := by decide +kernel
theorem dL_law_39 : decode cL_law 39 = .ok (.iand, 1) := by decide +kernel
theorem dL_law_40 : decode cL_law 40 = .ok (.tableswitch 2724 0 61 #[264, 337, 362, 375, 388, 401, 414, 427, 440, 465, 490, 515, 571, 639, 695, 763, 843, 911, 967, 1023, 1079, 1135, 1202, 1258, 1314, 1370, 1426, 1439, 1507, 1575, 1643, 1656, 1669, 1682, 1750, 1806, 1862, 1918, 1931, 1944, 1957, 2013, 2081, 2136, 2149, 2162, 2217, 2272, 2285, 2298, 2312, 2325, 2338, 2375, 2400, 2461, 2534, 2587, 2624, 2649, 2674, 2711], 264) := by decide +kernel
theorem dL_law_304 : decode cL_law 304 = .ok (.aload_n 1, 1) := by decide +kernel
theorem dL_law_305 : decode cL_law 305 = .ok (.aload_n 0, 1) := by decide +kernel
theorem dL_law_306 : decode cL_law 306 = .ok (.iload 4, 2) := by decide +kernel
theorem dL_law_308 : decode cL_law 308 = .ok (.iconst 1, 1) := by decide +kernel
theorem dL_law_309 : decode cL_law 309 = .ok (.iadd, 1) := by decide +kernel
theorem dL_law_310 : decode cL_law 310 = .ok (.iaload, 1) := by decide +kernel
theorem dL_law_311 : decode cL_law 311 = .ok (.aload_n 0, 1) := by decide +kernel
theorem dL_law_312 : decode cL_law 312 = .ok (.iload 4, 2) := by decide +kernel
theorem dL_law_314 : decode cL_law 314 = .ok (.iconst 2, 1) := by decide +kernel
theorem dL_law_315 : decode cL_law 315 = .ok (.iadd, 1) := by decide +kernel
theorem dL_law_316 : decode cL_law 316 = .ok (.iaload, 1) := by decide +kernel
theorem dL_law_317 : decode cL_law 317 = .ok (.aload_n 0, 1) := by decide +kernel
theorem dL_law_318 : decode cL_law 318 = .ok (.iload 4, 2) := by decide +kernel
theorem dL_law_320 : decode cL_law 320 = .ok (.iconst 3, 1) := by decide +kernel
theorem dL_law_321 : decode cL_law 321 = .ok (.iadd, 1) := by decide +kernel
theorem dL_law_322 : decode cL_law 322 = .ok (.iaload, 1) := by decide +kernel
theorem dL_law_323 : decode cL_law 323 = .ok (.aload_n 0, 1) := by decide +kernel
theorem dL_law_324 : decode cL_law 324 = .ok (.iload 4, 2) := by decide +kernel
theorem dL_law_326 : decode cL_law 326 = .ok (.iconst 4, 1) := by decide +kernel
theorem dL_law_327 : decode cL_law 327 = .ok (.iadd, 1) := by decide +kernel
theorem dL_law_328 : decode cL_law 328 = .ok (.iaload, 1) := by decide +kernel
theorem dL_law_329 : decode cL_law 329 = .ok (.aload_n 0, 1) := by decide +kernel
theorem dL_law_330 : decode cL_law 330 = .ok (.iload 4, 2) := by decide +kernel
theorem dL_law_332 : decode cL_law 332 = .ok (.iconst 5, 1) := by decide +kernel
theorem dL_law_333 : decode cL_law 333 = .ok (.iadd, 1) := by decide +kernel
theorem dL_law_334 : decode cL_law 334 = .ok (.iaload, 1) := by decide +kernel
theorem dL_law_335 : decode cL_law 335 = .ok (.invokevirtual 101, 3) := by decide +kernel
theorem dL_law_338 : decode cL_law 338 = .ok (.aload_n 2, 1) := by decide +kernel
theorem dL_law_339 : decode cL_law 339 = .ok (.aload_n 0, 1) := by decide +kernel
theorem dL_law_340 : decode cL_law 340 = .ok (.iload 4, 2) := by decide +kernel
theorem dL_law_342 : decode cL_law 342 = .ok (.iconst 1, 1) := by decide +kernel
theorem dL_law_343 : decode cL_law 343 = .ok (.iadd, 1) := by decide +kernel
theorem dL_law_344 : decode cL_law 344 = .ok (.iaload, 1) := by decide +kernel
theorem dL_law_345 : decode cL_law 345 = .ok (.aload_n 0, 1) := by decide +kernel
theorem dL_law_346 : decode cL_law 346 = .ok (.iload 4, 2) := by decide +kernel
theorem dL_law_348 : decode cL_law 348 = .ok (.iconst 2, 1) := by decide +kernel
theorem dL_law_349 : decode cL_law 349 = .ok (.iadd, 1) := by decide +kernel
theorem dL_law_350 : decode cL_law 350 = .ok (.iaload, 1) := by decide +kernel
theorem dL_law_351 : decode cL_law 351 = .ok (.aload_n 0, 1) := by decide +kernel
theorem dL_law_352 : decode cL_law 352 = .ok (.iload 4, 2) := by decide +kernel
theorem dL_law_354 : decode cL_law 354 = .ok (.iconst 3, 1) := by decide +kernel
theorem dL_law_355 : decode cL_law 355 = .ok (.iadd, 1) := by decide +kernel
theorem dL_law_356 : decode cL_law 356 = .ok (.iaload, 1) := by decide +kernel
theorem dL_law_357 : decode cL_law 357 = .ok (.aload_n 0, 1) := by decide +kernel
theorem dL_law_358 : decode cL_law 358 = .ok (.iload 4, 2) := by decide +kernel
theorem dL_law_360 : decode cL_law 360 = .ok (.iconst 4, 1) := by decide +kernel
theorem dL_law_361 : decode cL_law 361 = .ok (.iadd, 1) := by decide +kernel
theorem dL_law_362 : decode cL_law 362 = .ok (.iaload, 1) := by decide +kernel
theorem dL_law_363 : decode cL_law 363 = .ok (.aload_n 0, 1) := by decide +kernel
theorem dL_law_364 : decode cL_law 364 = .ok (.iload 4, 2) := by decide +kernel
theorem dL_law_366 : decode cL_law 366 = .ok (.iconst 5, 1) := by decide +kernel
theorem dL_law_367 : decode cL_law 367 = .ok (.iadd, 1) := by decide +kernel
theorem dL_law_368 : decode cL_law 368 = .ok (.iaload, 1) := by decide +kernel
theorem dL_law_369 : decode cL_law 369 = .ok (.invokevirtual 105, 3) := by decide +kernel
theorem dL_law_372 : decode cL_law 372 = .ok (.if_icmp .eq 2392, 3) := by decide +kernel
theorem dL_law_375 : decode cL_law 375 = .ok (.iconst 0, 1) := by decide +kernel
theorem dL_law_376 : decode cL_law 376 = .ok (.ireturn, 1) := by decide +kernel
theorem dL_law_377 : decode cL_law 377 = .ok (.aload_n 1, 1) := by decide +kernel
theorem dL_law_378 : decode cL_law 378 = .ok (.aload_n 0, 1) := by decide +kernel
theorem dL_law_379 : decode cL_law 379 = .ok (.iload 4, 2) := by decide +kernel
theorem dL_law_381 : decode cL_law 381 = .ok (.iconst 1, 1) := by decide +kernel
theorem dL_law_382 : decode cL_law 382 = .ok (.iadd, 1) := by decide +kernel
theorem dL_law_383 : decode cL_law 383 = .ok (.iaload, 1) := by decide +kernel
theorem dL_law_384 : decode cL_law 384 = .ok (.invokevirtual 106, 3) := by decide +kernel
theorem dL_law_387 : decode cL_law 387 = .ok (.aload_n 2, 1) := by decide +kernel
theorem dL_law_388 : decode cL_law 388 = .ok (.aload_n 0, 1) := by decide +kernel
theorem dL_law_389 : decode cL_law 389 = .ok (.iload 4, 2) := by decide +kernel
theorem dL_law_391 : decode cL_law 391 = .ok (.iconst 1, 1) := by decide +kernel
theorem dL_law_392 : decode cL_law 392 = .ok (.iadd, 1) := by decide +kernel
theorem dL_law_393 : decode cL_law 393 = .ok (.iaload, 1) := by decide +kernel
theorem dL_law_394 : decode cL_law 394 = .ok (.invokevirtual 109, 3) := by decide +kernel
theorem dL_law_397 : decode cL_law 397 = .ok (.if_icmp .eq 2367, 3) := by decide +kernel
theorem dL_law_400 : decode cL_law 400 = .ok (.iconst 0, 1) := by decide +kernel
theorem dL_law_401 : decode cL_law 401 = .ok (.ireturn, 1) := by decide +kernel
theorem dL_law_402 : decode cL_law 402 = .ok (.aload_n 1, 1) := by decide +kernel
theorem dL_law_403 : decode cL_law 403 = .ok (.invokevirtual 110, 3) := by decide +kernel
theorem dL_law_406 : decode cL_law 406 = .ok (.aload_n 2, 1) := by decide +kernel
theorem dL_law_407 : decode cL_law 407 = .ok (.invokevirtual 114, 3) := by decide +kernel
theorem dL_law_410 : decode cL_law 410 = .ok (.if_icmp .eq 2354, 3) := by decide +kernel
theorem dL_law_413 : decode cL_law 413 = .ok (.iconst 0, 1) := by decide +kernel
theorem dL_law_414 : decode cL_law 414 = .ok (.ireturn, 1) := by decide +kernel
theorem dL_law_415 : decode cL_law 415 = .ok (.aload_n 1, 1) := by decide +kernel
theorem dL_law_416 : decode cL_law 416 = .ok (.invokevirtual 115, 3) := by decide +kernel
theorem dL_law_419 : decode cL_law 419 = .ok (.aload_n 2, 1) := by decide +kernel
theorem dL_law_420 : decode cL_law 420 = .ok (.invokevirtual 118, 3) := by decide +kernel
theorem dL_law_423 : decode cL_law 423 = .ok (.if_icmp .eq 2341, 3) := by decide +kernel
theorem dL_law_426 : decode cL_law 426 = .ok (.iconst 0, 1) := by decide +kernel
theorem dL_law_427 : decode cL_law 427 = .ok (.ireturn, 1) := by decide +kernel
theorem dL_law_428 : decode cL_law 428 = .ok (.aload_n 1, 1) := by decide +kernel
theorem dL_law_429 : decode cL_law 429 = .ok (.invokevirtual 119, 3) := by decide +kernel
theorem dL_law_432 : decode cL_law 432 = .ok (.aload_n 2, 1) := by decide +kernel
theorem dL_law_433 : decode cL_law 433 = .ok (.invokevirtual 122, 3) := by decide +kernel
theorem dL_law_436 : decode cL_law 436 = .ok (.if_icmp .eq 2328, 3) := by decide +kernel
theorem dL_law_439 : decode cL_law 439 = .ok (.iconst 0, 1) := by decide +kernel
theorem dL_law_440 : decode cL_law 440 = .ok (.ireturn, 1) := by decide +kernel
theorem dL_law_441 : decode cL_law 441 = .ok (.aload_n 1, 1) := by decide +kernel
theorem dL_law_442 : decode cL_law 442 = .ok (.invokevirtual 123, 3) := by decide +kernel
theorem dL_law_445 : decode cL_law 445 = .ok (.aload_n 2, 1) := by decide +kernel
theorem dL_law_446 : decode cL_law 446 = .ok (.invokevirtual 126, 3) := by decide +kernel
theorem dL_law_449 : decode cL_law 449 = .ok (.if_icmp .eq 2315, 3) := by decide +kernel
theorem dL_law_452 : decode cL_law 452 = .ok (.iconst 0, 1) := by decide +kernel
theorem dL_law_453 : decode cL_law 453 = .ok (.ireturn, 1) := by decide +kernel
theorem dL_law_454 : decode cL_law 454 = .ok (.aload_n 1, 1) := by decide +kernel
theorem dL_law_455 : decode cL_law 455 = .ok (.invokevirtual 127, 3) := by decide +kernel
theorem dL_law_458 : decode cL_law 458 = .ok (.aload_n 2, 1) := by decide +kernel
theorem dL_law_459 : decode cL_law 459 = .ok (.invokevirtual 130, 3) := by decide +kernel
theorem dL_law_462 : decode cL_law 462 = .ok (.if_icmp .eq 2302, 3) := by decide +kernel
theorem dL_law_465 : decode cL_law 465 = .ok (.iconst 0, 1) := by decide +kernel
theorem dL_law_466 : decode cL_law 466 = .ok (.ireturn, 1) := by decide +kernel
theorem dL_law_467 : decode cL_law 467 = .ok (.aload_n 1, 1) := by decide +kernel
theorem dL_law_468 : decode cL_law 468 = .ok (.invokevirtual 131, 3) := by decide +kernel
theorem dL_law_471 : decode cL_law 471 = .ok (.aload_n 2, 1) := by decide +kernel
theorem dL_law_472 : decode cL_law 472 = .ok (.invokevirtual 134, 3) := by decide +kernel
theorem dL_law_475 : decode cL_law 475 = .ok (.if_icmp .eq 2289, 3) := by decide +kernel
theorem dL_law_478 : decode cL_law 478 = .ok (.iconst 0, 1) := by decide +kernel
theorem dL_law_479 : decode cL_law 479 = .ok (.ireturn, 1) := by decide +kernel
theorem dL_law_480 : decode cL_law 480 = .ok (.aload_n 1, 1) := by decide +kernel
theorem dL_law_481 : decode cL_law 481 = .ok (.aload_n 0, 1) := by decide +kernel
theorem dL_law_482 : decode cL_law 482 = .ok (.iload 4, 2) := by decide +kernel
theorem dL_law_484 : decode cL_law 484 = .ok (.iconst 1, 1) := by decide +kernel
theorem dL_law_485 : decode cL_law 485 = .ok (.iadd, 1) := by decide +kernel
theorem dL_law_486 : decode cL_law 486 = .ok (.iaload, 1) := by decide +kernel
theorem dL_law_487 : decode cL_law 487 = .ok (.invokevirtual 135, 3) := by decide +kernel
theorem dL_law_490 : decode cL_law 490 = .ok (.aload_n 2, 1) := by decide +kernel
theorem dL_law_491 : decode cL_law 491 = .ok (.aload_n 0, 1) := by decide +kernel
theorem dL_law_492 : decode cL_law 492 = .ok (.iload 4, 2) := by decide +kernel
theorem dL_law_494 : decode cL_law 494 = .ok (.iconst 1, 1) := by decide +kernel
theorem dL_law_495 : decode cL_law 495 = .ok (.iadd, 1) := by decide +kernel
theorem dL_law_496 : decode cL_law 496 = .ok (.iaload, 1) := by decide +kernel
theorem dL_law_497 : decode cL_law 497 = .ok (.invokevirtual 138, 3) := by decide +kernel
theorem dL_law_500 : decode cL_law 500 = .ok (.if_icmp .eq 2264, 3) := by decide +kernel
theorem dL_law_503 : decode cL_law 503 = .ok (.iconst 0, 1) := by decide +kernel
theorem dL_law_504 : decode cL_law 504 = .ok (.ireturn, 1) := by decide +kernel
theorem dL_law_505 : decode cL_law 505 = .ok (.aload_n 1, 1) := by decide +kernel
theorem dL_law_506 : decode cL_law 506 = .ok (.aload_n 0, 1) := by decide +kernel
theorem dL_law_507 : decode cL_law 507 = .ok (.iload 4, 2) := by decide +kernel
theorem dL_law_509 : decode cL_law 509 = .ok (.iconst 1, 1) := by decide +kernel
theorem dL_law_510 : decode cL_law 510 = .ok (.iadd, 1) := by decide +kernel
theorem dL_law_511 : decode cL_law 511 = .ok (.iaload, 1) := by decide +kernel
theorem dL_law_512 : decode cL_law 512 = .ok (.invokevirtual 139, 3) := by decide +kernel
theorem dL_law_515 : decode cL_law 515 = .ok (.aload_n 2, 1) := by decide +kernel
theorem dL_law_516 : decode cL_law 516 = .ok (.aload_n 0, 1) := by decide +kernel
theorem dL_law_517 : decode cL_law 517 = .ok (.iload 4, 2) := by decide +kernel
theorem dL_law_519 : decode cL_law 519 = .ok (.iconst 1, 1) := by decide +kernel
theorem dL_law_520 : decode cL_law 520 = .ok (.iadd, 1) := by decide +kernel
theorem dL_law_521 : decode cL_law 521 = .ok (.iaload, 1) := by decide +kernel
theorem dL_law_522 : decode cL_law 522 = .ok (.invokevirtual 142, 3) := by decide +kernel
theorem dL_law_525 : decode cL_law 525 = .ok (.if_icmp .eq 2239, 3) := by decide +kernel
theorem dL_law_528 : decode cL_law 528 = .ok (.iconst 0, 1) := by decide +kernel
theorem dL_law_529 : decode cL_law 529 = .ok (.ireturn, 1) := by decide +kernel
theorem dL_law_530 : decode cL_law 530 = .ok (.aload_n 1, 1) := by decide +kernel
theorem dL_law_531 : decode cL_law 531 = .ok (.aload_n 0, 1) := by decide +kernel
theorem dL_law_532 : decode cL_law 532 = .ok (.iload 4, 2) := by decide +kernel
theorem dL_law_534 : decode cL_law 534 = .ok (.iconst 1, 1) := by decide +kernel
theorem dL_law_535 : decode cL_law 535 = .ok (.iadd, 1) := by decide +kernel
theorem dL_law_536 : decode cL_law 536 = .ok (.iaload, 1) := by decide +kernel
theorem dL_law_537 : decode cL_law 537 = .ok (.invokevirtual 143, 3) := by decide +kernel
theorem dL_law_540 : decode cL_law 540 = .ok (.aload_n 2, 1) := by decide +kernel
theorem dL_law_541 : decode cL_law 541 = .ok (.aload_n 0, 1) := by decide +kernel
theorem dL_law_542 : decode cL_law 542 = .ok (.iload 4, 2) := by decide +kernel
theorem dL_law_544 : decode cL_law 544 = .ok (.iconst 1, 1) := by decide +kernel
theorem dL_law_545 : decode cL_law 545 = .ok (.iadd, 1) := by decide +kernel
theorem dL_law_546 : decode cL_law 546 = .ok (.iaload, 1) := by decide +kernel
theorem dL_law_547 : decode cL_law 547 = .ok (.invokevirtual 146, 3) := by decide +kernel
theorem dL_law_550 : decode cL_law 550 = .ok (.if_icmp .eq 2214, 3) := by decide +kernel
theorem dL_law_553 : decode cL_law 553 = .ok (.iconst 0, 1) := by decide +kernel
theorem dL_law_554 : decode cL_law 554 = .ok (.ireturn, 1) := by decide +kernel
theorem dL_law_555 : decode cL_law 555 = .ok (.aload_n 1, 1) := by decide +kernel
theorem dL_law_556 : decode cL_law 556 = .ok (.aload_n 0, 1) := by decide +kernel
theorem dL_law_557 : decode cL_law 557 = .ok (.iload 4, 2) := by decide +kernel
theorem dL_law_559 : decode cL_law 559 = .ok (.iconst 1, 1) := by decide +kernel
theorem dL_law_560 : decode cL_law 560 = .ok (.iadd, 1) := by decide +kernel
theorem dL_law_561 : decode cL_law 561 = .ok (.iaload, 1) := by decide +kernel
theorem dL_law_562 : decode cL_law 562 = .ok (.aload_n 3, 1) := by decide +kernel
theorem dL_law_563 : decode cL_law 563 = .ok (.invokestatic 147, 3) := by decide +kernel
theorem dL_law_566 : decode cL_law 566 = .ok (.istore 5, 2) := by decide +kernel
theorem dL_law_568 : decode cL_law 568 = .ok (.aload_n 2, 1) := by decide +kernel
theorem dL_law_569 : decode cL_law 569 = .ok (.aload_n 0, 1) := by decide +kernel
theorem dL_law_570 : decode cL_law 570 = .ok (.iload 4, 2) := by decide +kernel
theorem dL_law_572 : decode cL_law 572 = .ok (.iconst 1, 1) := by decide +kernel
theorem dL_law_573 : decode cL_law 573 = .ok (.iadd, 1) := by decide +kernel
theorem dL_law_574 : decode cL_law 574 = .ok (.iaload, 1) := by decide +kernel
theorem dL_law_575 : decode cL_law 575 = .ok (.invokevirtual 152, 3) := by decide +kernel
theorem dL_law_578 : decode cL_law 578 = .ok (.istore 6, 2) := by decide +kernel
theorem dL_law_580 : decode cL_law 580 = .ok (.aload_n 2, 1) := by decide +kernel
theorem dL_law_581 : decode cL_law 581 = .ok (.invokevirtual 153, 3) := by decide +kernel
theorem dL_law_584 : decode cL_law 584 = .ok (.iload 5, 2) := by decide +kernel
theorem dL_law_586 : decode cL_law 586 = .ok (.if_icmp .eq 5, 3) := by decide +kernel
theorem dL_law_589 : decode cL_law 589 = .ok (.iconst 0, 1) := by decide +kernel
theorem dL_law_590 : decode cL_law 590 = .ok (.ireturn, 1) := by decide +kernel
theorem dL_law_591 : decode cL_law 591 = .ok (.iload 5, 2) := by decide +kernel
theorem dL_law_593 : decode cL_law 593 = .ok (.ifCond .ne 15, 3) := by decide +kernel
theorem dL_law_596 : decode cL_law 596 = .ok (.aload_n 3, 1) := by decide +kernel
theorem dL_law_597 : decode cL_law 597 = .ok (.iconst 0, 1) := by decide +kernel
theorem dL_law_598 : decode cL_law 598 = .ok (.laload, 1) := by decide +kernel
theorem dL_law_599 : decode cL_law 599 = .ok (.iload 6, 2) := by decide +kernel
theorem dL_law_601 : decode cL_law 601 = .ok (.i2l, 1) := by decide +kernel
theorem dL_law_602 : decode cL_law 602 = .ok (.lcmp, 1) := by decide +kernel
theorem dL_law_603 : decode cL_law 603 = .ok (.ifCond .eq 5, 3) := by decide +kernel
theorem dL_law_606 : decode cL_law 606 = .ok (.iconst 0, 1) := by decide +kernel
theorem dL_law_607 : decode cL_law 607 = .ok (.ireturn, 1) := by decide +kernel
theorem dL_law_608 : decode cL_law 608 = .ok (.goto 2156, 3) := by decide +kernel
theorem dL_law_611 : decode cL_law 611 = .ok (.aload_n 1, 1) := by decide +kernel
theorem dL_law_612 : decode cL_law 612 = .ok (.aload_n 0, 1) := by decide +kernel
theorem dL_law_613 : decode cL_law 613 = .ok (.iload 4, 2) := by decide +kernel
theorem dL_law_615 : decode cL_law 615 = .ok (.iconst 1, 1) := by decide +kernel
theorem dL_law_616 : decode cL_law 616 = .ok (.iadd, 1) := by decide +kernel
theorem dL_law_617 : decode cL_law 617 = .ok (.iaload, 1) := by decide +kernel
theorem dL_law_618 : decode cL_law 618 = .ok (.aload_n 0, 1) := by decide +kernel
theorem dL_law_619 : decode cL_law 619 = .ok (.iload 4, 2) := by decide +kernel
theorem dL_law_621 : decode cL_law 621 = .ok (.iconst 2, 1) := by decide +kernel
theorem dL_law_622 : decode cL_law 622 = .ok (.iadd, 1) := by decide +kernel
theorem dL_law_623 : decode cL_law 623 = .ok (.iaload, 1) := by decide +kernel
theorem dL_law_624 : decode cL_law 624 = .ok (.aload_n 3, 1) := by decide +kernel
theorem dL_law_625 : decode cL_law 625 = .ok (.invokestatic 156, 3) := by decide +kernel
theorem dL_law_628 : decode cL_law 628 = .ok (.istore 5, 2) := by decide +kernel
theorem dL_law_630 : decode cL_law 630 = .ok (.aload_n 2, 1) := by decide +kernel
theorem dL_law_631 : decode cL_law 631 = .ok (.aload_n 0, 1) := by decide +kernel
theorem dL_law_632 : decode cL_law 632 = .ok (.iload 4, 2) := by decide +kernel
theorem dL_law_634 : decode cL_law 634 = .ok (.iconst 1, 1) := by decide +kernel
theorem dL_law_635 : decode cL_law 635 = .ok (.iadd, 1) := by decide +kernel
theorem dL_law_636 : decode cL_law 636 = .ok (.iaload, 1) := by decide +kernel
theorem dL_law_637 : decode cL_law 637 = .ok (.aload_n 0, 1) := by decide +kernel
theorem dL_law_638 : decode cL_law 638 = .ok (.iload 4, 2) := by decide +kernel
theorem dL_law_640 : decode cL_law 640 = .ok (.iconst 2, 1) := by decide +kernel
theorem dL_law_641 : decode cL_law 641 = .ok (.iadd, 1) := by decide +kernel
theorem dL_law_642 : decode cL_law 642 = .ok (.iaload, 1) := by decide +kernel
theorem dL_law_643 : decode cL_law 643 = .ok (.invokevirtual 159, 3) := by decide +kernel
theorem dL_law_646 : decode cL_law 646 = .ok (.istore 6, 2) := by decide +kernel
theorem dL_law_648 : decode cL_law 648 = .ok (.aload_n 2, 1) := by decide +kernel
theorem dL_law_649 : decode cL_law 649 = .ok (.invokevirtual 153, 3) := by decide +kernel
theorem dL_law_652 : decode cL_law 652 = .ok (.iload 5, 2) := by decide +kernel
theorem dL_law_654 : decode cL_law 654 = .ok (.if_icmp .eq 5, 3) := by decide +kernel
theorem dL_law_657 : decode cL_law 657 = .ok (.iconst 0, 1) := by decide +kernel
theorem dL_law_658 : decode cL_law 658 = .ok (.ireturn, 1) := by decide +kernel
theorem dL_law_659 : decode cL_law 659 = .ok (.iload 5, 2) := by decide +kernel
theorem dL_law_661 : decode cL_law 661 = .ok (.ifCond .ne 15, 3) := by decide +kernel
theorem dL_law_664 : decode cL_law 664 = .ok (.aload_n 3, 1) := by decide +kernel
theorem dL_law_665 : decode cL_law 665 = .ok (.iconst 0, 1) := by decide +kernel
theorem dL_law_666 : decode cL_law 666 = .ok (.laload, 1) := by decide +kernel
theorem dL_law_667 : decode cL_law 667 = .ok (.iload 6, 2) := by decide +kernel
theorem dL_law_669 : decode cL_law 669 = .ok (.i2l, 1) := by decide +kernel
theorem dL_law_670 : decode cL_law 670 = .ok (.lcmp, 1) := by decide +kernel
theorem dL_law_671 : decode cL_law 671 = .ok (.ifCond .eq 5, 3) := by decide +kernel
theorem dL_law_674 : decode cL_law 674 = .ok (.iconst 0, 1) := by decide +kernel
theorem dL_law_675 : decode cL_law 675 = .ok (.ireturn, 1) := by decide +kernel
theorem dL_law_676 : decode cL_law 676 = .ok (.goto 2088, 3) := by decide +kernel
theorem dL_law_679 : decode cL_law 679 = .ok (.aload_n 1, 1) := by decide +kernel
theorem dL_law_680 : decode cL_law 680 = .ok (.aload_n 0, 1) := by decide +kernel
theorem dL_law_681 : decode cL_law 681 = .ok (.iload 4, 2) := by decide +kernel
theorem dL_law_683 : decode cL_law 683 = .ok (.iconst 1, 1) := by decide +kernel
theorem dL_law_684 : decode cL_law 684 = .ok (.iadd, 1) := by decide +kernel
theorem dL_law_685 : decode cL_law 685 = .ok (.iaload, 1) := by decide +kernel
theorem dL_law_686 : decode cL_law 686 = .ok (.aload_n 3, 1) := by decide +kernel
theorem dL_law_687 : decode cL_law 687 = .ok (.invokestatic 160, 3) := by decide +kernel
theorem dL_law_690 : decode cL_law 690 = .ok (.istore 5, 2) := by decide +kernel
theorem dL_law_692 : decode cL_law 692 = .ok (.aload_n 2, 1) := by decide +kernel
theorem dL_law_693 : decode cL_law 693 = .ok (.aload_n 0, 1) := by decide +kernel
theorem dL_law_694 : decode cL_law 694 = .ok (.iload 4, 2) := by decide +kernel
theorem dL_law_696 : decode cL_law 696 = .ok (.iconst 1, 1) := by decide +kernel
theorem dL_law_697 : decode cL_law 697 = .ok (.iadd, 1) := by decide +kernel
theorem dL_law_698 : decode cL_law 698 = .ok (.iaload, 1) := by decide +kernel
theorem dL_law_699 : decode cL_law 699 = .ok (.invokevirtual 162, 3) := by decide +kernel
theorem dL_law_702 : decode cL_law 702 = .ok (.istore 6, 2) := by decide +kernel
theorem dL_law_704 : decode cL_law 704 = .ok (.aload_n 2, 1) := by decide +kernel
theorem dL_law_705 : decode cL_law 705 = .ok (.invokevirtual 153, 3) := by decide +kernel
theorem dL_law_708 : decode cL_law 708 = .ok (.iload 5, 2) := by decide +kernel
theorem dL_law_710 : decode cL_law 710 = .ok (.if_icmp .eq 5, 3) := by decide +kernel
theorem dL_law_713 : decode cL_law 713 = .ok (.iconst 0, 1) := by decide +kernel
theorem dL_law_714 : decode cL_law 714 = .ok (.ireturn, 1) := by decide +kernel
theorem dL_law_715 : decode cL_law 715 = .ok (.iload 5, 2) := by decide +kernel
theorem dL_law_717 : decode cL_law 717 = .ok (.ifCond .ne 15, 3) := by decide +kernel
theorem dL_law_720 : decode cL_law 720 = .ok (.aload_n 3, 1) := by decide +kernel
theorem dL_law_721 : decode cL_law 721 = .ok (.iconst 0, 1) := by decide +kernel
theorem dL_law_722 : decode cL_law 722 = .ok (.laload, 1) := by decide +kernel
theorem dL_law_723 : decode cL_law 723 = .ok (.iload 6, 2) := by decide +kernel
theorem dL_law_725 : decode cL_law 725 = .ok (.i2l, 1) := by decide +kernel
theorem dL_law_726 : decode cL_law 726 = .ok (.lcmp, 1) := by decide +kernel
theorem dL_law_727 : decode cL_law 727 = .ok (.ifCond .eq 5, 3) := by decide +kernel
theorem dL_law_730 : decode cL_law 730 = .ok (.iconst 0, 1) := by decide +kernel
theorem dL_law_731 : decode cL_law 731 = .ok (.ireturn, 1) := by decide +kernel
theorem dL_law_732 : decode cL_law 732 = .ok (.goto 2032, 3) := by decide +kernel
theorem dL_law_735 : decode cL_law 735 = .ok (.aload_n 1, 1) := by decide +kernel
theorem dL_law_736 : decode cL_law 736 = .ok (.aload_n 0, 1) := by decide +kernel
theorem dL_law_737 : decode cL_law 737 = .ok (.iload 4, 2) := by decide +kernel
theorem dL_law_739 : decode cL_law 739 = .ok (.iconst 1, 1) := by decide +kernel
theorem dL_law_740 : decode cL_law 740 = .ok (.iadd, 1) := by decide +kernel
theorem dL_law_741 : decode cL_law 741 = .ok (.iaload, 1) := by decide +kernel
theorem dL_law_742 : decode cL_law 742 = .ok (.aload_n 0, 1) := by decide +kernel
theorem dL_law_743 : decode cL_law 743 = .ok (.iload 4, 2) := by decide +kernel
theorem dL_law_745 : decode cL_law 745 = .ok (.iconst 2, 1) := by decide +kernel
theorem dL_law_746 : decode cL_law 746 = .ok (.iadd, 1) := by decide +kernel
theorem dL_law_747 : decode cL_law 747 = .ok (.iaload, 1) := by decide +kernel
theorem dL_law_748 : decode cL_law 748 = .ok (.aload_n 3, 1) := by decide +kernel
theorem dL_law_749 : decode cL_law 749 = .ok (.invokestatic 163, 3) := by decide +kernel
theorem dL_law_752 : decode cL_law 752 = .ok (.istore 5, 2) := by decide +kernel
theorem dL_law_754 : decode cL_law 754 = .ok (.aload_n 2, 1) := by decide +kernel
theorem dL_law_755 : decode cL_law 755 = .ok (.aload_n 0, 1) := by decide +kernel
theorem dL_law_756 : decode cL_law 756 = .ok (.iload 4, 2) := by decide +kernel
theorem dL_law_758 : decode cL_law 758 = .ok (.iconst 1, 1) := by decide +kernel
theorem dL_law_759 : decode cL_law 759 = .ok (.iadd, 1) := by decide +kernel
theorem dL_law_760 : decode cL_law 760 = .ok (.iaload, 1) := by decide +kernel
theorem dL_law_761 : decode cL_law 761 = .ok (.aload_n 0, 1) := by decide +kernel
theorem dL_law_762 : decode cL_law 762 = .ok (.iload 4, 2) := by decide +kernel
theorem dL_law_764 : decode cL_law 764 = .ok (.iconst 2, 1) := by decide +kernel
theorem dL_law_765 : decode cL_law 765 = .ok (.iadd, 1) := by decide +kernel
theorem dL_law_766 : decode cL_law 766 = .ok (.iaload, 1) := by decide +kernel
theorem dL_law_767 : decode cL_law 767 = .ok (.invokevirtual 165, 3) := by decide +kernel
theorem dL_law_770 : decode cL_law 770 = .ok (.istore 6, 2) := by decide +kernel
theorem dL_law_772 : decode cL_law 772 = .ok (.aload_n 2, 1) := by decide +kernel
theorem dL_law_773 : decode cL_law 773 = .ok (.invokevirtual 153, 3) := by decide +kernel
theorem dL_law_776 : decode cL_law 776 = .ok (.iload 5, 2) := by decide +kernel
theorem dL_law_778 : decode cL_law 778 = .ok (.if_icmp .eq 5, 3) := by decide +kernel
theorem dL_law_781 : decode cL_law 781 = .ok (.iconst 0, 1) := by decide +kernel
theorem dL_law_782 : decode cL_law 782 = .ok (.ireturn, 1) := by decide +kernel
theorem dL_law_783 : decode cL_law 783 = .ok (.iload 5, 2) := by decide +kernel
theorem dL_law_785 : decode cL_law 785 = .ok (.ifCond .ne 15, 3) := by decide +kernel
theorem dL_law_788 : decode cL_law 788 = .ok (.aload_n 3, 1) := by decide +kernel
theorem dL_law_789 : decode cL_law 789 = .ok (.iconst 0, 1) := by decide +kernel
theorem dL_law_790 : decode cL_law 790 = .ok (.laload, 1) := by decide +kernel
theorem dL_law_791 : decode cL_law 791 = .ok (.iload 6, 2) := by decide +kernel
theorem dL_law_793 : decode cL_law 793 = .ok (.i2l, 1) := by decide +kernel
theorem dL_law_794 : decode cL_law 794 = .ok (.lcmp, 1) := by decide +kernel
theorem dL_law_795 : decode cL_law 795 = .ok (.ifCond .eq 5, 3) := by decide +kernel
theorem dL_law_798 : decode cL_law 798 = .ok (.iconst 0, 1) := by decide +kernel
theorem dL_law_799 : decode cL_law 799 = .ok (.ireturn, 1) := by decide +kernel
theorem dL_law_800 : decode cL_law 800 = .ok (.goto 1964, 3) := by decide +kernel
theorem dL_law_803 : decode cL_law 803 = .ok (.aload_n 1, 1) := by decide +kernel
theorem dL_law_804 : decode cL_law 804 = .ok (.aload_n 0, 1) := by decide +kernel
theorem dL_law_805 : decode cL_law 805 = .ok (.iload 4, 2) := by decide +kernel
theorem dL_law_807 : decode cL_law 807 = .ok (.iconst 1, 1) := by decide +kernel
theorem dL_law_808 : decode cL_law 808 = .ok (.iadd, 1) := by decide +kernel
theorem dL_law_809 : decode cL_law 809 = .ok (.iaload, 1) := by decide +kernel
theorem dL_law_810 : decode cL_law 810 = .ok (.aload_n 0, 1) := by decide +kernel
theorem dL_law_811 : decode cL_law 811 = .ok (.iload 4, 2) := by decide +kernel
theorem dL_law_813 : decode cL_law 813 = .ok (.iconst 2, 1) := by decide +kernel
theorem dL_law_814 : decode cL_law 814 = .ok (.iadd, 1) := by decide +kernel
theorem dL_law_815 : decode cL_law 815 = .ok (.iaload, 1) := by decide +kernel
theorem dL_law_816 : decode cL_law 816 = .ok (.aload_n 0, 1) := by decide +kernel
theorem dL_law_817 : decode cL_law 817 = .ok (.iload 4, 2) := by decide +kernel
theorem dL_law_819 : decode cL_law 819 = .ok (.iconst 3, 1) := by decide +kernel
theorem dL_law_820 : decode cL_law 820 = .ok (.iadd, 1) := by decide +kernel
theorem dL_law_821 : decode cL_law 821 = .ok (.iaload, 1) := by decide +kernel
theorem dL_law_822 : decode cL_law 822 = .ok (.aload_n 3, 1) := by decide +kernel
theorem dL_law_823 : decode cL_law 823 = .ok (.invokestatic 166, 3) := by decide +kernel
theorem dL_law_826 : decode cL_law 826 = .ok (.istore 5, 2) := by decide +kernel
theorem dL_law_828 : decode cL_law 828 = .ok (.aload_n 2, 1) := by decide +kernel
theorem dL_law_829 : decode cL_law 829 = .ok (.aload_n 0, 1) := by decide +kernel
theorem dL_law_830 : decode cL_law 830 = .ok (.iload 4, 2) := by decide +kernel
theorem dL_law_832 : decode cL_law 832 = .ok (.iconst 1, 1) := by decide +kernel
theorem dL_law_833 : decode cL_law 833 = .ok (.iadd, 1) := by decide +kernel
theorem dL_law_834 : decode cL_law 834 = .ok (.iaload, 1) := by decide +kernel
theorem dL_law_835 : decode cL_law 835 = .ok (.aload_n 0, 1) := by decide +kernel
theorem dL_law_836 : decode cL_law 836 = .ok (.iload 4, 2) := by decide +kernel
theorem dL_law_838 : decode cL_law 838 = .ok (.iconst 2, 1) := by decide +kernel
theorem dL_law_839 : decode cL_law 839 = .ok (.iadd, 1) := by decide +kernel
theorem dL_law_840 : decode cL_law 840 = .ok (.iaload, 1) := by decide +kernel
theorem dL_law_841 : decode cL_law 841 = .ok (.aload_n 0, 1) := by decide +kernel
theorem dL_law_842 : decode cL_law 842 = .ok (.iload 4, 2) := by decide +kernel
theorem dL_law_844 : decode cL_law 844 = .ok (.iconst 3, 1) := by decide +kernel
theorem dL_law_845 : decode cL_law 845 = .ok (.iadd, 1) := by decide +kernel
theorem dL_law_846 : decode cL_law 846 = .ok (.iaload, 1) := by decide +kernel
theorem dL_law_847 : decode cL_law 847 = .ok (.invokevirtual 169, 3) := by decide +kernel
theorem dL_law_850 : decode cL_law 850 = .ok (.istore 6, 2) := by decide +kernel
theorem dL_law_852 : decode cL_law 852 = .ok (.aload_n 2, 1) := by decide +kernel
theorem dL_law_853 : decode cL_law 853 = .ok (.invokevirtual 153, 3) := by decide +kernel
theorem dL_law_856 : decode cL_law 856 = .ok (.iload 5, 2) := by decide +kernel
theorem dL_law_858 : decode cL_law 858 = .ok (.if_icmp .eq 5, 3) := by decide +kernel
theorem dL_law_861 : decode cL_law 861 = .ok (.iconst 0, 1) := by decide +kernel
theorem dL_law_862 : decode cL_law 862 = .ok (.ireturn, 1) := by decide +kernel
theorem dL_law_863 : decode cL_law 863 = .ok (.iload 5, 2) := by decide +kernel
theorem dL_law_865 : decode cL_law 865 = .ok (.ifCond .ne 15, 3) := by decide +kernel
theorem dL_law_868 : decode cL_law 868 = .ok (.aload_n 3, 1) := by decide +kernel
theorem dL_law_869 : decode cL_law 869 = .ok (.iconst 0, 1) := by decide +kernel
theorem dL_law_870 : decode cL_law 870 = .ok (.laload, 1) := by decide +kernel
theorem dL_law_871 : decode cL_law 871 = .ok (.iload 6, 2) := by decide +kernel
theorem dL_law_873 : decode cL_law 873 = .ok (.i2l, 1) := by decide +kernel
theorem dL_law_874 : decode cL_law 874 = .ok (.lcmp, 1) := by decide +kernel
theorem dL_law_875 : decode cL_law 875 = .ok (.ifCond .eq 5, 3) := by decide +kernel
theorem dL_law_878 : decode cL_law 878 = .ok (.iconst 0, 1) := by decide +kernel
theorem dL_law_879 : decode cL_law 879 = .ok (.ireturn, 1) := by decide +kernel
theorem dL_law_880 : decode cL_law 880 = .ok (.goto 1884, 3) := by decide +kernel
theorem dL_law_883 : decode cL_law 883 = .ok (.aload_n 1, 1) := by decide +kernel
theorem dL_law_884 : decode cL_law 884 = .ok (.aload_n 0, 1) := by decide +kernel
theorem dL_law_885 : decode cL_law 885 = .ok (.iload 4, 2) := by decide +kernel
theorem dL_law_887 : decode cL_law 887 = .ok (.iconst 1, 1) := by decide +kernel
theorem dL_law_888 : decode cL_law 888 = .ok (.iadd, 1) := by decide +kernel
theorem dL_law_889 : decode cL_law 889 = .ok (.iaload, 1) := by decide +kernel
theorem dL_law_890 : decode cL_law 890 = .ok (.aload_n 0, 1) := by decide +kernel
theorem dL_law_891 : decode cL_law 891 = .ok (.iload 4, 2) := by decide +kernel
theorem dL_law_893 : decode cL_law 893 = .ok (.iconst 2, 1) := by decide +kernel
theorem dL_law_894 : decode cL_law 894 = .ok (.iadd, 1) := by decide +kernel
theorem dL_law_895 : decode cL_law 895 = .ok (.iaload, 1) := by decide +kernel
theorem dL_law_896 : decode cL_law 896 = .ok (.aload_n 3, 1) := by decide +kernel
theorem dL_law_897 : decode cL_law 897 = .ok (.invokestatic 170, 3) := by decide +kernel
theorem dL_law_900 : decode cL_law 900 = .ok (.istore 5, 2) := by decide +kernel
theorem dL_law_902 : decode cL_law 902 = .ok (.aload_n 2, 1) := by decide +kernel
theorem dL_law_903 : decode cL_law 903 = .ok (.aload_n 0, 1) := by decide +kernel
theorem dL_law_904 : decode cL_law 904 = .ok (.iload 4, 2) := by decide +kernel
theorem dL_law_906 : decode cL_law 906 = .ok (.iconst 1, 1) := by decide +kernel
theorem dL_law_907 : decode cL_law 907 = .ok (.iadd, 1) := by decide +kernel
theorem dL_law_908 : decode cL_law 908 = .ok (.iaload, 1) := by decide +kernel
theorem dL_law_909 : decode cL_law 909 = .ok (.aload_n 0, 1) := by decide +kernel
theorem dL_law_910 : decode cL_law 910 = .ok (.iload 4, 2) := by decide +kernel
theorem dL_law_912 : decode cL_law 912 = .ok (.iconst 2, 1) := by decide +kernel
theorem dL_law_913 : decode cL_law 913 = .ok (.iadd, 1) := by decide +kernel
theorem dL_law_914 : decode cL_law 914 = .ok (.iaload, 1) := by decide +kernel
theorem dL_law_915 : decode cL_law 915 = .ok (.invokevirtual 172, 3) := by decide +kernel
theorem dL_law_918 : decode cL_law 918 = .ok (.istore 6, 2) := by decide +kernel
theorem dL_law_920 : decode cL_law 920 = .ok (.aload_n 2, 1) := by decide +kernel
theorem dL_law_921 : decode cL_law 921 = .ok (.invokevirtual 153, 3) := by decide +kernel
theorem dL_law_924 : decode cL_law 924 = .ok (.iload 5, 2) := by decide +kernel
theorem dL_law_926 : decode cL_law 926 = .ok (.if_icmp .eq 5, 3) := by decide +kernel
theorem dL_law_929 : decode cL_law 929 = .ok (.iconst 0, 1) := by decide +kernel
theorem dL_law_930 : decode cL_law 930 = .ok (.ireturn, 1) := by decide +kernel
theorem dL_law_931 : decode cL_law 931 = .ok (.iload 5, 2) := by decide +kernel
theorem dL_law_933 : decode cL_law 933 = .ok (.ifCond .ne 15, 3) := by decide +kernel
theorem dL_law_936 : decode cL_law 936 = .ok (.aload_n 3, 1) := by decide +kernel
theorem dL_law_937 : decode cL_law 937 = .ok (.iconst 0, 1) := by decide +kernel
theorem dL_law_938 : decode cL_law 938 = .ok (.laload, 1) := by decide +kernel
theorem dL_law_939 : decode cL_law 939 = .ok (.iload 6, 2) := by decide +kernel
theorem dL_law_941 : decode cL_law 941 = .ok (.i2l, 1) := by decide +kernel
theorem dL_law_942 : decode cL_law 942 = .ok (.lcmp, 1) := by decide +kernel
theorem dL_law_943 : decode cL_law 943 = .ok (.ifCond .eq 5, 3) := by decide +kernel
theorem dL_law_946 : decode cL_law 946 = .ok (.iconst 0, 1) := by decide +kernel
theorem dL_law_947 : decode cL_law 947 = .ok (.ireturn, 1) := by decide +kernel
theorem dL_law_948 : decode cL_law 948 = .ok (.goto 1816, 3) := by decide +kernel
theorem dL_law_951 : decode cL_law 951 = .ok (.aload_n 1, 1) := by decide +kernel
theorem dL_law_952 : decode cL_law 952 = .ok (.aload_n 0, 1) := by decide +kernel
theorem dL_law_953 : decode cL_law 953 = .ok (.iload 4, 2) := by decide +kernel
theorem dL_law_955 : decode cL_law 955 = .ok (.iconst 1, 1) := by decide +kernel
theorem dL_law_956 : decode cL_law 956 = .ok (.iadd, 1) := by decide +kernel
theorem dL_law_957 : decode cL_law 957 = .ok (.iaload, 1) := by decide +kernel
theorem dL_law_958 : decode cL_law 958 = .ok (.aload_n 3, 1) := by decide +kernel
theorem dL_law_959 : decode cL_law 959 = .ok (.invokestatic 173, 3) := by decide +kernel
theorem dL_law_962 : decode cL_law 962 = .ok (.istore 5, 2) := by decide +kernel
theorem dL_law_964 : decode cL_law 964 = .ok (.aload_n 2, 1) := by decide +kernel
theorem dL_law_965 : decode cL_law 965 = .ok (.aload_n 0, 1) := by decide +kernel
theorem dL_law_966 : decode cL_law 966 = .ok (.iload 4, 2) := by decide +kernel
theorem dL_law_968 : decode cL_law 968 = .ok (.iconst 1, 1) := by decide +kernel
theorem dL_law_969 : decode cL_law 969 = .ok (.iadd, 1) := by decide +kernel
theorem dL_law_970 : decode cL_law 970 = .ok (.iaload, 1) := by decide +kernel
theorem dL_law_971 : decode cL_law 971 = .ok (.invokevirtual 175, 3) := by decide +kernel
theorem dL_law_974 : decode cL_law 974 = .ok (.istore 6, 2) := by decide +kernel
theorem dL_law_976 : decode cL_law 976 = .ok (.aload_n 2, 1) := by decide +kernel
theorem dL_law_977 : decode cL_law 977 = .ok (.invokevirtual 153, 3) := by decide +kernel
theorem dL_law_980 : decode cL_law 980 = .ok (.iload 5, 2) := by decide +kernel
theorem dL_law_982 : decode cL_law 982 = .ok (.if_icmp .eq 5, 3) := by decide +kernel
theorem dL_law_985 : decode cL_law 985 = .ok (.iconst 0, 1) := by decide +kernel
theorem dL_law_986 : decode cL_law 986 = .ok (.ireturn, 1) := by decide +kernel
theorem dL_law_987 : decode cL_law 987 = .ok (.iload 5, 2) := by decide +kernel
theorem dL_law_989 : decode cL_law 989 = .ok (.ifCond .ne 15, 3) := by decide +kernel
theorem dL_law_992 : decode cL_law 992 = .ok (.aload_n 3, 1) := by decide +kernel
theorem dL_law_993 : decode cL_law 993 = .ok (.iconst 0, 1) := by decide +kernel
theorem dL_law_994 : decode cL_law 994 = .ok (.laload, 1) := by decide +kernel
theorem dL_law_995 : decode cL_law 995 = .ok (.iload 6, 2) := by decide +kernel
theorem dL_law_997 : decode cL_law 997 = .ok (.i2l, 1) := by decide +kernel
theorem dL_law_998 : decode cL_law 998 = .ok (.lcmp, 1) := by decide +kernel
theorem dL_law_999 : decode cL_law 999 = .ok (.ifCond .eq 5, 3) := by decide +kernel
theorem dL_law_1002 : decode cL_law 1002 = .ok (.iconst 0, 1) := by decide +kernel
theorem dL_law_1003 : decode cL_law 1003 = .ok (.ireturn, 1) := by decide +kernel
theorem dL_law_1004 : decode cL_law 1004 = .ok (.goto 1760, 3) := by decide +kernel
theorem dL_law_1007 : decode cL_law 1007 = .ok (.aload_n 1, 1) := by decide +kernel
theorem dL_law_1008 : decode cL_law 1008 = .ok (.aload_n 0, 1) := by decide +kernel
theorem dL_law_1009 : decode cL_law 1009 = .ok (.iload 4, 2) := by decide +kernel
theorem dL_law_1011 : decode cL_law 1011 = .ok (.iconst 1, 1) := by decide +kernel
theorem dL_law_1012 : decode cL_law 1012 = .ok (.iadd, 1) := by decide +kernel
theorem dL_law_1013 : decode cL_law 1013 = .ok (.iaload, 1) := by decide +kernel
theorem dL_law_1014 : decode cL_law 1014 = .ok (.aload_n 3, 1) := by decide +kernel
theorem dL_law_1015 : decode cL_law 1015 = .ok (.invokestatic 176, 3) := by decide +kernel
theorem dL_law_1018 : decode cL_law 1018 = .ok (.istore 5, 2) := by decide +kernel
theorem dL_law_1020 : decode cL_law 1020 = .ok (.aload_n 2, 1) := by decide +kernel
theorem dL_law_1021 : decode cL_law 1021 = .ok (.aload_n 0, 1) := by decide +kernel
theorem dL_law_1022 : decode cL_law 1022 = .ok (.iload 4, 2) := by decide +kernel
theorem dL_law_1024 : decode cL_law 1024 = .ok (.iconst 1, 1) := by decide +kernel
theorem dL_law_1025 : decode cL_law 1025 = .ok (.iadd, 1) := by decide +kernel
theorem dL_law_1026 : decode cL_law 1026 = .ok (.iaload, 1) := by decide +kernel
theorem dL_law_1027 : decode cL_law 1027 = .ok (.invokevirtual 178, 3) := by decide +kernel
theorem dL_law_1030 : decode cL_law 1030 = .ok (.istore 6, 2) := by decide +kernel
theorem dL_law_1032 : decode cL_law 1032 = .ok (.aload_n 2, 1) := by decide +kernel
theorem dL_law_1033 : decode cL_law 1033 = .ok (.invokevirtual 153, 3) := by decide +kernel
theorem dL_law_1036 : decode cL_law 1036 = .ok (.iload 5, 2) := by decide +kernel
theorem dL_law_1038 : decode cL_law 1038 = .ok (.if_icmp .eq 5, 3) := by decide +kernel
theorem dL_law_1041 : decode cL_law 1041 = .ok (.iconst 0, 1) := by decide +kernel
theorem dL_law_1042 : decode cL_law 1042 = .ok (.ireturn, 1) := by decide +kernel
theorem dL_law_1043 : decode cL_law 1043 = .ok (.iload 5, 2) := by decide +kernel
theorem dL_law_1045 : decode cL_law 1045 = .ok (.ifCond .ne 15, 3) := by decide +kernel
theorem dL_law_1048 : decode cL_law 1048 = .ok (.aload_n 3, 1) := by decide +kernel
theorem dL_law_1049 : decode cL_law 1049 = .ok (.iconst 0, 1) := by decide +kernel
theorem dL_law_1050 : decode cL_law 1050 = .ok (.laload, 1) := by decide +kernel
theorem dL_law_1051 : decode cL_law 1051 = .ok (.iload 6, 2) := by decide +kernel
theorem dL_law_1053 : decode cL_law 1053 = .ok (.i2l, 1) := by decide +kernel
theorem dL_law_1054 : decode cL_law 1054 = .ok (.lcmp, 1) := by decide +kernel
theorem dL_law_1055 : decode cL_law 1055 = .ok (.ifCond .eq 5, 3) := by decide +kernel
theorem dL_law_1058 : decode cL_law 1058 = .ok (.iconst 0, 1) := by decide +kernel
theorem dL_law_1059 : decode cL_law 1059 = .ok (.ireturn, 1) := by decide +kernel
theorem dL_law_1060 : decode cL_law 1060 = .ok (.goto 1704, 3) := by decide +kernel
theorem dL_law_1063 : decode cL_law 1063 = .ok (.aload_n 1, 1) := by decide +kernel
theorem dL_law_1064 : decode cL_law 1064 = .ok (.aload_n 0, 1) := by decide +kernel
theorem dL_law_1065 : decode cL_law 1065 = .ok (.iload 4, 2) := by decide +kernel
theorem dL_law_1067 : decode cL_law 1067 = .ok (.iconst 1, 1) := by decide +kernel
theorem dL_law_1068 : decode cL_law 1068 = .ok (.iadd, 1) := by decide +kernel
theorem dL_law_1069 : decode cL_law 1069 = .ok (.iaload, 1) := by decide +kernel
theorem dL_law_1070 : decode cL_law 1070 = .ok (.aload_n 3, 1) := by decide +kernel
theorem dL_law_1071 : decode cL_law 1071 = .ok (.invokestatic 179, 3) := by decide +kernel
theorem dL_law_1074 : decode cL_law 1074 = .ok (.istore 5, 2) := by decide +kernel
theorem dL_law_1076 : decode cL_law 1076 = .ok (.aload_n 2, 1) := by decide +kernel
theorem dL_law_1077 : decode cL_law 1077 = .ok (.aload_n 0, 1) := by decide +kernel
theorem dL_law_1078 : decode cL_law 1078 = .ok (.iload 4, 2) := by decide +kernel
theorem dL_law_1080 : decode cL_law 1080 = .ok (.iconst 1, 1) := by decide +kernel
theorem dL_law_1081 : decode cL_law 1081 = .ok (.iadd, 1) := by decide +kernel
theorem dL_law_1082 : decode cL_law 1082 = .ok (.iaload, 1) := by decide +kernel
theorem dL_law_1083 : decode cL_law 1083 = .ok (.invokevirtual 181, 3) := by decide +kernel
theorem dL_law_1086 : decode cL_law 1086 = .ok (.istore 6, 2) := by decide +kernel
theorem dL_law_1088 : decode cL_law 1088 = .ok (.aload_n 2, 1) := by decide +kernel
theorem dL_law_1089 : decode cL_law 1089 = .ok (.invokevirtual 153, 3) := by decide +kernel
theorem dL_law_1092 : decode cL_law 1092 = .ok (.iload 5, 2) := by decide +kernel
theorem dL_law_1094 : decode cL_law 1094 = .ok (.if_icmp .eq 5, 3) := by decide +kernel
theorem dL_law_1097 : decode cL_law 1097 = .ok (.iconst 0, 1) := by decide +kernel
theorem dL_law_1098 : decode cL_law 1098 = .ok (.ireturn, 1) := by decide +kernel
theorem dL_law_1099 : decode cL_law 1099 = .ok (.iload 5, 2) := by decide +kernel
theorem dL_law_1101 : decode cL_law 1101 = .ok (.ifCond .ne 15, 3) := by decide +kernel
theorem dL_law_1104 : decode cL_law 1104 = .ok (.aload_n 3, 1) := by decide +kernel
theorem dL_law_1105 : decode cL_law 1105 = .ok (.iconst 0, 1) := by decide +kernel
theorem dL_law_1106 : decode cL_law 1106 = .ok (.laload, 1) := by decide +kernel
theorem dL_law_1107 : decode cL_law 1107 = .ok (.iload 6, 2) := by decide +kernel
theorem dL_law_1109 : decode cL_law 1109 = .ok (.i2l, 1) := by decide +kernel
theorem dL_law_1110 : decode cL_law 1110 = .ok (.lcmp, 1) := by decide +kernel
theorem dL_law_1111 : decode cL_law 1111 = .ok (.ifCond .eq 5, 3) := by decide +kernel
theorem dL_law_1114 : decode cL_law 1114 = .ok (.iconst 0, 1) := by decide +kernel
theorem dL_law_1115 : decode cL_law 1115 = .ok (.ireturn, 1) := by decide +kernel
theorem dL_law_1116 : decode cL_law 1116 = .ok (.goto 1648, 3) := by decide +kernel
theorem dL_law_1119 : decode cL_law 1119 = .ok (.aload_n 1, 1) := by decide +kernel
theorem dL_law_1120 : decode cL_law 1120 = .ok (.aload_n 0, 1) := by decide +kernel
theorem dL_law_1121 : decode cL_law 1121 = .ok (.iload 4, 2) := by decide +kernel
theorem dL_law_1123 : decode cL_law 1123 = .ok (.iconst 1, 1) := by decide +kernel
theorem dL_law_1124 : decode cL_law 1124 = .ok (.iadd, 1) := by decide +kernel
theorem dL_law_1125 : decode cL_law 1125 = .ok (.iaload, 1) := by decide +kernel
theorem dL_law_1126 : decode cL_law 1126 = .ok (.aload_n 3, 1) := by decide +kernel
theorem dL_law_1127 : decode cL_law 1127 = .ok (.invokestatic 182, 3) := by decide +kernel
theorem dL_law_1130 : decode cL_law 1130 = .ok (.istore 5, 2) := by decide +kernel
theorem dL_law_1132 : decode cL_law 1132 = .ok (.aload_n 2, 1) := by decide +kernel
theorem dL_law_1133 : decode cL_law 1133 = .ok (.aload_n 0, 1) := by decide +kernel
theorem dL_law_1134 : decode cL_law 1134 = .ok (.iload 4, 2) := by decide +kernel
theorem dL_law_1136 : decode cL_law 1136 = .ok (.iconst 1, 1) := by decide +kernel
theorem dL_law_1137 : decode cL_law 1137 = .ok (.iadd, 1) := by decide +kernel
theorem dL_law_1138 : decode cL_law 1138 = .ok (.iaload, 1) := by decide +kernel
theorem dL_law_1139 : decode cL_law 1139 = .ok (.invokevirtual 184, 3) := by decide +kernel
theorem dL_law_1142 : decode cL_law 1142 = .ok (.istore 6, 2) := by decide +kernel
theorem dL_law_1144 : decode cL_law 1144 = .ok (.aload_n 2, 1) := by decide +kernel
theorem dL_law_1145 : decode cL_law 1145 = .ok (.invokevirtual 153, 3) := by decide +kernel
theorem dL_law_1148 : decode cL_law 1148 = .ok (.iload 5, 2) := by decide +kernel
theorem dL_law_1150 : decode cL_law 1150 = .ok (.if_icmp .eq 5, 3) := by decide +kernel
theorem dL_law_1153 : decode cL_law 1153 = .ok (.iconst 0, 1) := by decide +kernel
theorem dL_law_1154 : decode cL_law 1154 = .ok (.ireturn, 1) := by decide +kernel
theorem dL_law_1155 : decode cL_law 1155 = .ok (.iload 5, 2) := by decide +kernel
theorem dL_law_1157 : decode cL_law 1157 = .ok (.ifCond .ne 15, 3) := by decide +kernel
theorem dL_law_1160 : decode cL_law 1160 = .ok (.aload_n 3, 1) := by decide +kernel
theorem dL_law_1161 : decode cL_law 1161 = .ok (.iconst 0, 1) := by decide +kernel
theorem dL_law_1162 : decode cL_law 1162 = .ok (.laload, 1) := by decide +kernel
theorem dL_law_1163 : decode cL_law 1163 = .ok (.iload 6, 2) := by decide +kernel
theorem dL_law_1165 : decode cL_law 1165 = .ok (.i2l, 1) := by decide +kernel
theorem dL_law_1166 : decode cL_law 1166 = .ok (.lcmp, 1) := by decide +kernel
theorem dL_law_1167 : decode cL_law 1167 = .ok (.ifCond .eq 5, 3) := by decide +kernel
theorem dL_law_1170 : decode cL_law 1170 = .ok (.iconst 0, 1) := by decide +kernel
theorem dL_law_1171 : decode cL_law 1171 = .ok (.ireturn, 1) := by decide +kernel
theorem dL_law_1172 : decode cL_law 1172 = .ok (.goto 1592, 3) := by decide +kernel
theorem dL_law_1175 : decode cL_law 1175 = .ok (.aload_n 1, 1) := by decide +kernel
theorem dL_law_1176 : decode cL_law 1176 = .ok (.aload_n 0, 1) := by decide +kernel
theorem dL_law_1177 : decode cL_law 1177 = .ok (.iload 4, 2) := by decide +kernel
theorem dL_law_1179 : decode cL_law 1179 = .ok (.iconst 1, 1) := by decide +kernel
theorem dL_law_1180 : decode cL_law 1180 = .ok (.iadd, 1) := by decide +kernel
theorem dL_law_1181 : decode cL_law 1181 = .ok (.iaload, 1) := by decide +kernel
theorem dL_law_1182 : decode cL_law 1182 = .ok (.aload_n 0, 1) := by decide +kernel
theorem dL_law_1183 : decode cL_law 1183 = .ok (.iload 4, 2) := by decide +kernel
theorem dL_law_1185 : decode cL_law 1185 = .ok (.iconst 2, 1) := by decide +kernel
theorem dL_law_1186 : decode cL_law 1186 = .ok (.iadd, 1) := by decide +kernel
theorem dL_law_1187 : decode cL_law 1187 = .ok (.iaload, 1) := by decide +kernel
theorem dL_law_1188 : decode cL_law 1188 = .ok (.aload_n 3, 1) := by decide +kernel
theorem dL_law_1189 : decode cL_law 1189 = .ok (.invokestatic 185, 3) := by decide +kernel
theorem dL_law_1192 : decode cL_law 1192 = .ok (.istore 5, 2) := by decide +kernel
theorem dL_law_1194 : decode cL_law 1194 = .ok (.aload_n 2, 1) := by decide +kernel
theorem dL_law_1195 : decode cL_law 1195 = .ok (.aload_n 0, 1) := by decide +kernel
theorem dL_law_1196 : decode cL_law 1196 = .ok (.iload 4, 2) := by decide +kernel
theorem dL_law_1198 : decode cL_law 1198 = .ok (.iconst 1, 1) := by decide +kernel
theorem dL_law_1199 : decode cL_law 1199 = .ok (.iadd, 1) := by decide +kernel
theorem dL_law_1200 : decode cL_law 1200 = .ok (.iaload, 1) := by decide +kernel
theorem dL_law_1201 : decode cL_law 1201 = .ok (.aload_n 0, 1) := by decide +kernel
theorem dL_law_1202 : decode cL_law 1202 = .ok (.iload 4, 2) := by decide +kernel
theorem dL_law_1204 : decode cL_law 1204 = .ok (.iconst 2, 1) := by decide +kernel
theorem dL_law_1205 : decode cL_law 1205 = .ok (.iadd, 1) := by decide +kernel
theorem dL_law_1206 : decode cL_law 1206 = .ok (.iaload, 1) := by decide +kernel
theorem dL_law_1207 : decode cL_law 1207 = .ok (.invokevirtual 187, 3) := by decide +kernel
theorem dL_law_1210 : decode cL_law 1210 = .ok (.lstore 6, 2) := by decide +kernel
theorem dL_law_1212 : decode cL_law 1212 = .ok (.aload_n 2, 1) := by decide +kernel
theorem dL_law_1213 : decode cL_law 1213 = .ok (.invokevirtual 153, 3) := by decide +kernel
theorem dL_law_1216 : decode cL_law 1216 = .ok (.iload 5, 2) := by decide +kernel
theorem dL_law_1218 : decode cL_law 1218 = .ok (.if_icmp .eq 5, 3) := by decide +kernel
theorem dL_law_1221 : decode cL_law 1221 = .ok (.iconst 0, 1) := by decide +kernel
theorem dL_law_1222 : decode cL_law 1222 = .ok (.ireturn, 1) := by decide +kernel
theorem dL_law_1223 : decode cL_law 1223 = .ok (.iload 5, 2) := by decide +kernel
theorem dL_law_1225 : decode cL_law 1225 = .ok (.ifCond .ne 14, 3) := by decide +kernel
theorem dL_law_1228 : decode cL_law 1228 = .ok (.aload_n 3, 1) := by decide +kernel
theorem dL_law_1229 : decode cL_law 1229 = .ok (.iconst 0, 1) := by decide +kernel
theorem dL_law_1230 : decode cL_law 1230 = .ok (.laload, 1) := by decide +kernel
theorem dL_law_1231 : decode cL_law 1231 = .ok (.lload 6, 2) := by decide +kernel
theorem dL_law_1233 : decode cL_law 1233 = .ok (.lcmp, 1) := by decide +kernel
theorem dL_law_1234 : decode cL_law 1234 = .ok (.ifCond .eq 5, 3) := by decide +kernel
theorem dL_law_1237 : decode cL_law 1237 = .ok (.iconst 0, 1) := by decide +kernel
theorem dL_law_1238 : decode cL_law 1238 = .ok (.ireturn, 1) := by decide +kernel
theorem dL_law_1239 : decode cL_law 1239 = .ok (.goto 1525, 3) := by decide +kernel
theorem dL_law_1242 : decode cL_law 1242 = .ok (.aload_n 1, 1) := by decide +kernel
theorem dL_law_1243 : decode cL_law 1243 = .ok (.aload_n 0, 1) := by decide +kernel
theorem dL_law_1244 : decode cL_law 1244 = .ok (.iload 4, 2) := by decide +kernel
theorem dL_law_1246 : decode cL_law 1246 = .ok (.iconst 1, 1) := by decide +kernel
theorem dL_law_1247 : decode cL_law 1247 = .ok (.iadd, 1) := by decide +kernel
theorem dL_law_1248 : decode cL_law 1248 = .ok (.iaload, 1) := by decide +kernel
theorem dL_law_1249 : decode cL_law 1249 = .ok (.aload_n 3, 1) := by decide +kernel
theorem dL_law_1250 : decode cL_law 1250 = .ok (.invokestatic 188, 3) := by decide +kernel
theorem dL_law_1253 : decode cL_law 1253 = .ok (.istore 5, 2) := by decide +kernel
theorem dL_law_1255 : decode cL_law 1255 = .ok (.aload_n 2, 1) := by decide +kernel
theorem dL_law_1256 : decode cL_law 1256 = .ok (.aload_n 0, 1) := by decide +kernel
theorem dL_law_1257 : decode cL_law 1257 = .ok (.iload 4, 2) := by decide +kernel
theorem dL_law_1259 : decode cL_law 1259 = .ok (.iconst 1, 1) := by decide +kernel
theorem dL_law_1260 : decode cL_law 1260 = .ok (.iadd, 1) := by decide +kernel
theorem dL_law_1261 : decode cL_law 1261 = .ok (.iaload, 1) := by decide +kernel
theorem dL_law_1262 : decode cL_law 1262 = .ok (.invokevirtual 190, 3) := by decide +kernel
theorem dL_law_1265 : decode cL_law 1265 = .ok (.istore 6, 2) := by decide +kernel
theorem dL_law_1267 : decode cL_law 1267 = .ok (.aload_n 2, 1) := by decide +kernel
theorem dL_law_1268 : decode cL_law 1268 = .ok (.invokevirtual 153, 3) := by decide +kernel
theorem dL_law_1271 : decode cL_law 1271 = .ok (.iload 5, 2) := by decide +kernel
theorem dL_law_1273 : decode cL_law 1273 = .ok (.if_icmp .eq 5, 3) := by decide +kernel
theorem dL_law_1276 : decode cL_law 1276 = .ok (.iconst 0, 1) := by decide +kernel
theorem dL_law_1277 : decode cL_law 1277 = .ok (.ireturn, 1) := by decide +kernel
theorem dL_law_1278 : decode cL_law 1278 = .ok (.iload 5, 2) := by decide +kernel
theorem dL_law_1280 : decode cL_law 1280 = .ok (.ifCond .ne 15, 3) := by decide +kernel
theorem dL_law_1283 : decode cL_law 1283 = .ok (.aload_n 3, 1) := by decide +kernel
theorem dL_law_1284 : decode cL_law 1284 = .ok (.iconst 0, 1) := by decide +kernel
theorem dL_law_1285 : decode cL_law 1285 = .ok (.laload, 1) := by decide +kernel
theorem dL_law_1286 : decode cL_law 1286 = .ok (.iload 6, 2) := by decide +kernel
theorem dL_law_1288 : decode cL_law 1288 = .ok (.i2l, 1) := by decide +kernel
theorem dL_law_1289 : decode cL_law 1289 = .ok (.lcmp, 1) := by decide +kernel
theorem dL_law_1290 : decode cL_law 1290 = .ok (.ifCond .eq 5, 3) := by decide +kernel
theorem dL_law_1293 : decode cL_law 1293 = .ok (.iconst 0, 1) := by decide +kernel
theorem dL_law_1294 : decode cL_law 1294 = .ok (.ireturn, 1) := by decide +kernel
theorem dL_law_1295 : decode cL_law 1295 = .ok (.goto 1469, 3) := by decide +kernel
theorem dL_law_1298 : decode cL_law 1298 = .ok (.aload_n 1, 1) := by decide +kernel
theorem dL_law_1299 : decode cL_law 1299 = .ok (.aload_n 0, 1) := by decide +kernel
theorem dL_law_1300 : decode cL_law 1300 = .ok (.iload 4, 2) := by decide +kernel
theorem dL_law_1302 : decode cL_law 1302 = .ok (.iconst 1, 1) := by decide +kernel
theorem dL_law_1303 : decode cL_law 1303 = .ok (.iadd, 1) := by decide +kernel
theorem dL_law_1304 : decode cL_law 1304 = .ok (.iaload, 1) := by decide +kernel
theorem dL_law_1305 : decode cL_law 1305 = .ok (.aload_n 3, 1) := by decide +kernel
theorem dL_law_1306 : decode cL_law 1306 = .ok (.invokestatic 191, 3) := by decide +kernel
theorem dL_law_1309 : decode cL_law 1309 = .ok (.istore 5, 2) := by decide +kernel
theorem dL_law_1311 : decode cL_law 1311 = .ok (.aload_n 2, 1) := by decide +kernel
theorem dL_law_1312 : decode cL_law 1312 = .ok (.aload_n 0, 1) := by decide +kernel
theorem dL_law_1313 : decode cL_law 1313 = .ok (.iload 4, 2) := by decide +kernel
theorem dL_law_1315 : decode cL_law 1315 = .ok (.iconst 1, 1) := by decide +kernel
theorem dL_law_1316 : decode cL_law 1316 = .ok (.iadd, 1) := by decide +kernel
theorem dL_law_1317 : decode cL_law 1317 = .ok (.iaload, 1) := by decide +kernel
theorem dL_law_1318 : decode cL_law 1318 = .ok (.invokevirtual 193, 3) := by decide +kernel
theorem dL_law_1321 : decode cL_law 1321 = .ok (.istore 6, 2) := by decide +kernel
theorem dL_law_1323 : decode cL_law 1323 = .ok (.aload_n 2, 1) := by decide +kernel
theorem dL_law_1324 : decode cL_law 1324 = .ok (.invokevirtual 153, 3) := by decide +kernel
theorem dL_law_1327 : decode cL_law 1327 = .ok (.iload 5, 2) := by decide +kernel
theorem dL_law_1329 : decode cL_law 1329 = .ok (.if_icmp .eq 5, 3) := by decide +kernel
theorem dL_law_1332 : decode cL_law 1332 = .ok (.iconst 0, 1) := by decide +kernel
theorem dL_law_1333 : decode cL_law 1333 = .ok (.ireturn, 1) := by decide +kernel
theorem dL_law_1334 : decode cL_law 1334 = .ok (.iload 5, 2) := by decide +kernel
theorem dL_law_1336 : decode cL_law 1336 = .ok (.ifCond .ne 15, 3) := by decide +kernel
theorem dL_law_1339 : decode cL_law 1339 = .ok (.aload_n 3, 1) := by decide +kernel
theorem dL_law_1340 : decode cL_law 1340 = .ok (.iconst 0, 1) := by decide +kernel
theorem dL_law_1341 : decode cL_law 1341 = .ok (.laload, 1) := by decide +kernel
theorem dL_law_1342 : decode cL_law 1342 = .ok (.iload 6, 2) := by decide +kernel
theorem dL_law_1344 : decode cL_law 1344 = .ok (.i2l, 1) := by decide +kernel
theorem dL_law_1345 : decode cL_law 1345 = .ok (.lcmp, 1) := by decide +kernel
theorem dL_law_1346 : decode cL_law 1346 = .ok (.ifCond .eq 5, 3) := by decide +kernel
theorem dL_law_1349 : decode cL_law 1349 = .ok (.iconst 0, 1) := by decide +kernel
theorem dL_law_1350 : decode cL_law 1350 = .ok (.ireturn, 1) := by decide +kernel
theorem dL_law_1351 : decode cL_law 1351 = .ok (.goto 1413, 3) := by decide +kernel
theorem dL_law_1354 : decode cL_law 1354 = .ok (.aload_n 1, 1) := by decide +kernel
theorem dL_law_1355 : decode cL_law 1355 = .ok (.aload_n 0, 1) := by decide +kernel
theorem dL_law_1356 : decode cL_law 1356 = .ok (.iload 4, 2) := by decide +kernel
theorem dL_law_1358 : decode cL_law 1358 = .ok (.iconst 1, 1) := by decide +kernel
theorem dL_law_1359 : decode cL_law 1359 = .ok (.iadd, 1) := by decide +kernel
theorem dL_law_1360 : decode cL_law 1360 = .ok (.iaload, 1) := by decide +kernel
theorem dL_law_1361 : decode cL_law 1361 = .ok (.aload_n 3, 1) := by decide +kernel
theorem dL_law_1362 : decode cL_law 1362 = .ok (.invokestatic 194, 3) := by decide +kernel
theorem dL_law_1365 : decode cL_law 1365 = .ok (.istore 5, 2) := by decide +kernel
theorem dL_law_1367 : decode cL_law 1367 = .ok (.aload_n 2, 1) := by decide +kernel
theorem dL_law_1368 : decode cL_law 1368 = .ok (.aload_n 0, 1) := by decide +kernel
theorem dL_law_1369 : decode cL_law 1369 = .ok (.iload 4, 2) := by decide +kernel
theorem dL_law_1371 : decode cL_law 1371 = .ok (.iconst 1, 1) := by decide +kernel
theorem dL_law_1372 : decode cL_law 1372 = .ok (.iadd, 1) := by decide +kernel
theorem dL_law_1373 : decode cL_law 1373 = .ok (.iaload, 1) := by decide +kernel
theorem dL_law_1374 : decode cL_law 1374 = .ok (.invokevirtual 196, 3) := by decide +kernel
theorem dL_law_1377 : decode cL_law 1377 = .ok (.istore 6, 2) := by decide +kernel
theorem dL_law_1379 : decode cL_law 1379 = .ok (.aload_n 2, 1) := by decide +kernel
theorem dL_law_1380 : decode cL_law 1380 = .ok (.invokevirtual 153, 3) := by decide +kernel
theorem dL_law_1383 : decode cL_law 1383 = .ok (.iload 5, 2) := by decide +kernel
theorem dL_law_1385 : decode cL_law 1385 = .ok (.if_icmp .eq 5, 3) := by decide +kernel
theorem dL_law_1388 : decode cL_law 1388 = .ok (.iconst 0, 1) := by decide +kernel
theorem dL_law_1389 : decode cL_law 1389 = .ok (.ireturn, 1) := by decide +kernel
theorem dL_law_1390 : decode cL_law 1390 = .ok (.iload 5, 2) := by decide +kernel
theorem dL_law_1392 : decode cL_law 1392 = .ok (.ifCond .ne 15, 3) := by decide +kernel
theorem dL_law_1395 : decode cL_law 1395 = .ok (.aload_n 3, 1) := by decide +kernel
theorem dL_law_1396 : decode cL_law 1396 = .ok (.iconst 0, 1) := by decide +kernel
theorem dL_law_1397 : decode cL_law 1397 = .ok (.laload, 1) := by decide +kernel
theorem dL_law_1398 : decode cL_law 1398 = .ok (.iload 6, 2) := by decide +kernel
theorem dL_law_1400 : decode cL_law 1400 = .ok (.i2l, 1) := by decide +kernel
theorem dL_law_1401 : decode cL_law 1401 = .ok (.lcmp, 1) := by decide +kernel
theorem dL_law_1402 : decode cL_law 1402 = .ok (.ifCond .eq 5, 3) := by decide +kernel
theorem dL_law_1405 : decode cL_law 1405 = .ok (.iconst 0, 1) := by decide +kernel
theorem dL_law_1406 : decode cL_law 1406 = .ok (.ireturn, 1) := by decide +kernel
theorem dL_law_1407 : decode cL_law 1407 = .ok (.goto 1357, 3) := by decide +kernel
theorem dL_law_1410 : decode cL_law 1410 = .ok (.aload_n 1, 1) := by decide +kernel
theorem dL_law_1411 : decode cL_law 1411 = .ok (.aload_n 0, 1) := by decide +kernel
theorem dL_law_1412 : decode cL_law 1412 = .ok (.iload 4, 2) := by decide +kernel
theorem dL_law_1414 : decode cL_law 1414 = .ok (.iconst 1, 1) := by decide +kernel
theorem dL_law_1415 : decode cL_law 1415 = .ok (.iadd, 1) := by decide +kernel
theorem dL_law_1416 : decode cL_law 1416 = .ok (.iaload, 1) := by decide +kernel
theorem dL_law_1417 : decode cL_law 1417 = .ok (.aload_n 3, 1) := by decide +kernel
theorem dL_law_1418 : decode cL_law 1418 = .ok (.invokestatic 197, 3) := by decide +kernel
theorem dL_law_1421 : decode cL_law 1421 = .ok (.istore 5, 2) := by decide +kernel
theorem dL_law_1423 : decode cL_law 1423 = .ok (.aload_n 2, 1) := by decide +kernel
theorem dL_law_1424 : decode cL_law 1424 = .ok (.aload_n 0, 1) := by decide +kernel
theorem dL_law_1425 : decode cL_law 1425 = .ok (.iload 4, 2) := by decide +kernel
theorem dL_law_1427 : decode cL_law 1427 = .ok (.iconst 1, 1) := by decide +kernel
theorem dL_law_1428 : decode cL_law 1428 = .ok (.iadd, 1) := by decide +kernel
theorem dL_law_1429 : decode cL_law 1429 = .ok (.iaload, 1) := by decide +kernel
theorem dL_law_1430 : decode cL_law 1430 = .ok (.invokevirtual 199, 3) := by decide +kernel
theorem dL_law_1433 : decode cL_law 1433 = .ok (.istore 6, 2) := by decide +kernel
theorem dL_law_1435 : decode cL_law 1435 = .ok (.aload_n 2, 1) := by decide +kernel
theorem dL_law_1436 : decode cL_law 1436 = .ok (.invokevirtual 153, 3) := by decide +kernel
theorem dL_law_1439 : decode cL_law 1439 = .ok (.iload 5, 2) := by decide +kernel
theorem dL_law_1441 : decode cL_law 1441 = .ok (.if_icmp .eq 5, 3) := by decide +kernel
theorem dL_law_1444 : decode cL_law 1444 = .ok (.iconst 0, 1) := by decide +kernel
theorem dL_law_1445 : decode cL_law 1445 = .ok (.ireturn, 1) := by decide +kernel
theorem dL_law_1446 : decode cL_law 1446 = .ok (.iload 5, 2) := by decide +kernel
theorem dL_law_1448 : decode cL_law 1448 = .ok (.ifCond .ne 15, 3) := by decide +kernel
theorem dL_law_1451 : decode cL_law 1451 = .ok (.aload_n 3, 1) := by decide +kernel
theorem dL_law_1452 : decode cL_law 1452 = .ok (.iconst 0, 1) := by decide +kernel
theorem dL_law_1453 : decode cL_law 1453 = .ok (.laload, 1) := by decide +kernel
theorem dL_law_1454 : decode cL_law 1454 = .ok (.iload 6, 2) := by decide +kernel
theorem dL_law_1456 : decode cL_law 1456 = .ok (.i2l, 1) := by decide +kernel
theorem dL_law_1457 : decode cL_law 1457 = .ok (.lcmp, 1) := by decide +kernel
theorem dL_law_1458 : decode cL_law 1458 = .ok (.ifCond .eq 5, 3) := by decide +kernel
theorem dL_law_1461 : decode cL_law 1461 = .ok (.iconst 0, 1) := by decide +kernel
theorem dL_law_1462 : decode cL_law 1462 = .ok (.ireturn, 1) := by decide +kernel
theorem dL_law_1463 : decode cL_law 1463 = .ok (.goto 1301, 3) := by decide +kernel
theorem dL_law_1466 : decode cL_law 1466 = .ok (.aload_n 1, 1) := by decide +kernel
theorem dL_law_1467 : decode cL_law 1467 = .ok (.invokevirtual 200, 3) := by decide +kernel
theorem dL_law_1470 : decode cL_law 1470 = .ok (.aload_n 2, 1) := by decide +kernel
theorem dL_law_1471 : decode cL_law 1471 = .ok (.invokevirtual 203, 3) := by decide +kernel
theorem dL_law_1474 : decode cL_law 1474 = .ok (.if_icmp .eq 1290, 3) := by decide +kernel
theorem dL_law_1477 : decode cL_law 1477 = .ok (.iconst 0, 1) := by decide +kernel
theorem dL_law_1478 : decode cL_law 1478 = .ok (.ireturn, 1) := by decide +kernel
theorem dL_law_1479 : decode cL_law 1479 = .ok (.aload_n 1, 1) := by decide +kernel
theorem dL_law_1480 : decode cL_law 1480 = .ok (.aload_n 0, 1) := by decide +kernel
theorem dL_law_1481 : decode cL_law 1481 = .ok (.iload 4, 2) := by decide +kernel
theorem dL_law_1483 : decode cL_law 1483 = .ok (.iconst 1, 1) := by decide +kernel
theorem dL_law_1484 : decode cL_law 1484 = .ok (.iadd, 1) := by decide +kernel
theorem dL_law_1485 : decode cL_law 1485 = .ok (.iaload, 1) := by decide +kernel
theorem dL_law_1486 : decode cL_law 1486 = .ok (.aload_n 0, 1) := by decide +kernel
theorem dL_law_1487 : decode cL_law 1487 = .ok (.iload 4, 2) := by decide +kernel
theorem dL_law_1489 : decode cL_law 1489 = .ok (.iconst 2, 1) := by decide +kernel
theorem dL_law_1490 : decode cL_law 1490 = .ok (.iadd, 1) := by decide +kernel
theorem dL_law_1491 : decode cL_law 1491 = .ok (.iaload, 1) := by decide +kernel
theorem dL_law_1492 : decode cL_law 1492 = .ok (.aload_n 3, 1) := by decide +kernel
theorem dL_law_1493 : decode cL_law 1493 = .ok (.invokestatic 204, 3) := by decide +kernel
theorem dL_law_1496 : decode cL_law 1496 = .ok (.istore 5, 2) := by decide +kernel
theorem dL_law_1498 : decode cL_law 1498 = .ok (.aload_n 2, 1) := by decide +kernel
theorem dL_law_1499 : decode cL_law 1499 = .ok (.aload_n 0, 1) := by decide +kernel
theorem dL_law_1500 : decode cL_law 1500 = .ok (.iload 4, 2) := by decide +kernel
theorem dL_law_1502 : decode cL_law 1502 = .ok (.iconst 1, 1) := by decide +kernel
theorem dL_law_1503 : decode cL_law 1503 = .ok (.iadd, 1) := by decide +kernel
theorem dL_law_1504 : decode cL_law 1504 = .ok (.iaload, 1) := by decide +kernel
theorem dL_law_1505 : decode cL_law 1505 = .ok (.aload_n 0, 1) := by decide +kernel
theorem dL_law_1506 : decode cL_law 1506 = .ok (.iload 4, 2) := by decide +kernel
theorem dL_law_1508 : decode cL_law 1508 = .ok (.iconst 2, 1) := by decide +kernel
theorem dL_law_1509 : decode cL_law 1509 = .ok (.iadd, 1) := by decide +kernel
theorem dL_law_1510 : decode cL_law 1510 = .ok (.iaload, 1) := by decide +kernel
theorem dL_law_1511 : decode cL_law 1511 = .ok (.invokevirtual 206, 3) := by decide +kernel
theorem dL_law_1514 : decode cL_law 1514 = .ok (.istore 6, 2) := by decide +kernel
theorem dL_law_1516 : decode cL_law 1516 = .ok (.aload_n 2, 1) := by decide +kernel
theorem dL_law_1517 : decode cL_law 1517 = .ok (.invokevirtual 153, 3) := by decide +kernel
theorem dL_law_1520 : decode cL_law 1520 = .ok (.iload 5, 2) := by decide +kernel
theorem dL_law_1522 : decode cL_law 1522 = .ok (.if_icmp .eq 5, 3) := by decide +kernel
theorem dL_law_1525 : decode cL_law 1525 = .ok (.iconst 0, 1) := by decide +kernel
theorem dL_law_1526 : decode cL_law 1526 = .ok (.ireturn, 1) := by decide +kernel
theorem dL_law_1527 : decode cL_law 1527 = .ok (.iload 5, 2) := by decide +kernel
theorem dL_law_1529 : decode cL_law 1529 = .ok (.ifCond .ne 15, 3) := by decide +kernel
theorem dL_law_1532 : decode cL_law 1532 = .ok (.aload_n 3, 1) := by decide +kernel
theorem dL_law_1533 : decode cL_law 1533 = .ok (.iconst 0, 1) := by decide +kernel
theorem dL_law_1534 : decode cL_law 1534 = .ok (.laload, 1) := by decide +kernel
theorem dL_law_1535 : decode cL_law 1535 = .ok (.iload 6, 2) := by decide +kernel
theorem dL_law_1537 : decode cL_law 1537 = .ok (.i2l, 1) := by decide +kernel
theorem dL_law_1538 : decode cL_law 1538 = .ok (.lcmp, 1) := by decide +kernel
theorem dL_law_1539 : decode cL_law 1539 = .ok (.ifCond .eq 5, 3) := by decide +kernel
theorem dL_law_1542 : decode cL_law 1542 = .ok (.iconst 0, 1) := by decide +kernel
theorem dL_law_1543 : decode cL_law 1543 = .ok (.ireturn, 1) := by decide +kernel
theorem dL_law_1544 : decode cL_law 1544 = .ok (.goto 1220, 3) := by decide +kernel
theorem dL_law_1547 : decode cL_law 1547 = .ok (.aload_n 1, 1) := by decide +kernel
theorem dL_law_1548 : decode cL_law 1548 = .ok (.aload_n 0, 1) := by decide +kernel
theorem dL_law_1549 : decode cL_law 1549 = .ok (.iload 4, 2) := by decide +kernel
theorem dL_law_1551 : decode cL_law 1551 = .ok (.iconst 1, 1) := by decide +kernel
theorem dL_law_1552 : decode cL_law 1552 = .ok (.iadd, 1) := by decide +kernel
theorem dL_law_1553 : decode cL_law 1553 = .ok (.iaload, 1) := by decide +kernel
theorem dL_law_1554 : decode cL_law 1554 = .ok (.aload_n 0, 1) := by decide +kernel
theorem dL_law_1555 : decode cL_law 1555 = .ok (.iload 4, 2) := by decide +kernel
theorem dL_law_1557 : decode cL_law 1557 = .ok (.iconst 2, 1) := by decide +kernel
theorem dL_law_1558 : decode cL_law 1558 = .ok (.iadd, 1) := by decide +kernel
theorem dL_law_1559 : decode cL_law 1559 = .ok (.iaload, 1) := by decide +kernel
theorem dL_law_1560 : decode cL_law 1560 = .ok (.aload_n 3, 1) := by decide +kernel
theorem dL_law_1561 : decode cL_law 1561 = .ok (.invokestatic 207, 3) := by decide +kernel
theorem dL_law_1564 : decode cL_law 1564 = .ok (.istore 5, 2) := by decide +kernel
theorem dL_law_1566 : decode cL_law 1566 = .ok (.aload_n 2, 1) := by decide +kernel
theorem dL_law_1567 : decode cL_law 1567 = .ok (.aload_n 0, 1) := by decide +kernel
theorem dL_law_1568 : decode cL_law 1568 = .ok (.iload 4, 2) := by decide +kernel
theorem dL_law_1570 : decode cL_law 1570 = .ok (.iconst 1, 1) := by decide +kernel
theorem dL_law_1571 : decode cL_law 1571 = .ok (.iadd, 1) := by decide +kernel
theorem dL_law_1572 : decode cL_law 1572 = .ok (.iaload, 1) := by decide +kernel
theorem dL_law_1573 : decode cL_law 1573 = .ok (.aload_n 0, 1) := by decide +kernel
theorem dL_law_1574 : decode cL_law 1574 = .ok (.iload 4, 2) := by decide +kernel
theorem dL_law_1576 : decode cL_law 1576 = .ok (.iconst 2, 1) := by decide +kernel
theorem dL_law_1577 : decode cL_law 1577 = .ok (.iadd, 1) := by decide +kernel
theorem dL_law_1578 : decode cL_law 1578 = .ok (.iaload, 1) := by decide +kernel
theorem dL_law_1579 : decode cL_law 1579 = .ok (.invokevirtual 209, 3) := by decide +kernel
theorem dL_law_1582 : decode cL_law 1582 = .ok (.istore 6, 2) := by decide +kernel
theorem dL_law_1584 : decode cL_law 1584 = .ok (.aload_n 2, 1) := by decide +kernel
theorem dL_law_1585 : decode cL_law 1585 = .ok (.invokevirtual 153, 3) := by decide +kernel
theorem dL_law_1588 : decode cL_law 1588 = .ok (.iload 5, 2) := by decide +kernel
theorem dL_law_1590 : decode cL_law 1590 = .ok (.if_icmp .eq 5, 3) := by decide +kernel
theorem dL_law_1593 : decode cL_law 1593 = .ok (.iconst 0, 1) := by decide +kernel
theorem dL_law_1594 : decode cL_law 1594 = .ok (.ireturn, 1) := by decide +kernel
theorem dL_law_1595 : decode cL_law 1595 = .ok (.iload 5, 2) := by decide +kernel
theorem dL_law_1597 : decode cL_law 1597 = .ok (.ifCond .ne 15, 3) := by decide +kernel
theorem dL_law_1600 : decode cL_law 1600 = .ok (.aload_n 3, 1) := by decide +kernel
theorem dL_law_1601 : decode cL_law 1601 = .ok (.iconst 0, 1) := by decide +kernel
theorem dL_law_1602 : decode cL_law 1602 = .ok (.laload, 1) := by decide +kernel
theorem dL_law_1603 : decode cL_law 1603 = .ok (.iload 6, 2) := by decide +kernel
theorem dL_law_1605 : decode cL_law 1605 = .ok (.i2l, 1) := by decide +kernel
theorem dL_law_1606 : decode cL_law 1606 = .ok (.lcmp, 1) := by decide +kernel
theorem dL_law_1607 : decode cL_law 1607 = .ok (.ifCond .eq 5, 3) := by decide +kernel
theorem dL_law_1610 : decode cL_law 1610 = .ok (.iconst 0, 1) := by decide +kernel
theorem dL_law_1611 : decode cL_law 1611 = .ok (.ireturn, 1) := by decide +kernel
theorem dL_law_1612 : decode cL_law 1612 = .ok (.goto 1152, 3) := by decide +kernel
theorem dL_law_1615 : decode cL_law 1615 = .ok (.aload_n 1, 1) := by decide +kernel
theorem dL_law_1616 : decode cL_law 1616 = .ok (.aload_n 0, 1) := by decide +kernel
theorem dL_law_1617 : decode cL_law 1617 = .ok (.iload 4, 2) := by decide +kernel
theorem dL_law_1619 : decode cL_law 1619 = .ok (.iconst 1, 1) := by decide +kernel
theorem dL_law_1620 : decode cL_law 1620 = .ok (.iadd, 1) := by decide +kernel
theorem dL_law_1621 : decode cL_law 1621 = .ok (.iaload, 1) := by decide +kernel
theorem dL_law_1622 : decode cL_law 1622 = .ok (.aload_n 0, 1) := by decide +kernel
theorem dL_law_1623 : decode cL_law 1623 = .ok (.iload 4, 2) := by decide +kernel
theorem dL_law_1625 : decode cL_law 1625 = .ok (.iconst 2, 1) := by decide +kernel
theorem dL_law_1626 : decode cL_law 1626 = .ok (.iadd, 1) := by decide +kernel
theorem dL_law_1627 : decode cL_law 1627 = .ok (.iaload, 1) := by decide +kernel
theorem dL_law_1628 : decode cL_law 1628 = .ok (.aload_n 3, 1) := by decide +kernel
theorem dL_law_1629 : decode cL_law 1629 = .ok (.invokestatic 210, 3) := by decide +kernel
theorem dL_law_1632 : decode cL_law 1632 = .ok (.istore 5, 2) := by decide +kernel
theorem dL_law_1634 : decode cL_law 1634 = .ok (.aload_n 2, 1) := by decide +kernel
theorem dL_law_1635 : decode cL_law 1635 = .ok (.aload_n 0, 1) := by decide +kernel
theorem dL_law_1636 : decode cL_law 1636 = .ok (.iload 4, 2) := by decide +kernel
theorem dL_law_1638 : decode cL_law 1638 = .ok (.iconst 1, 1) := by decide +kernel
theorem dL_law_1639 : decode cL_law 1639 = .ok (.iadd, 1) := by decide +kernel
theorem dL_law_1640 : decode cL_law 1640 = .ok (.iaload, 1) := by decide +kernel
theorem dL_law_1641 : decode cL_law 1641 = .ok (.aload_n 0, 1) := by decide +kernel
theorem dL_law_1642 : decode cL_law 1642 = .ok (.iload 4, 2) := by decide +kernel
theorem dL_law_1644 : decode cL_law 1644 = .ok (.iconst 2, 1) := by decide +kernel
theorem dL_law_1645 : decode cL_law 1645 = .ok (.iadd, 1) := by decide +kernel
theorem dL_law_1646 : decode cL_law 1646 = .ok (.iaload, 1) := by decide +kernel
theorem dL_law_1647 : decode cL_law 1647 = .ok (.invokevirtual 212, 3) := by decide +kernel
theorem dL_law_1650 : decode cL_law 1650 = .ok (.istore 6, 2) := by decide +kernel
theorem dL_law_1652 : decode cL_law 1652 = .ok (.aload_n 2, 1) := by decide +kernel
theorem dL_law_1653 : decode cL_law 1653 = .ok (.invokevirtual 153, 3) := by decide +kernel
theorem dL_law_1656 : decode cL_law 1656 = .ok (.iload 5, 2) := by decide +kernel
theorem dL_law_1658 : decode cL_law 1658 = .ok (.if_icmp .eq 5, 3) := by decide +kernel
theorem dL_law_1661 : decode cL_law 1661 = .ok (.iconst 0, 1) := by decide +kernel
theorem dL_law_1662 : decode cL_law 1662 = .ok (.ireturn, 1) := by decide +kernel
theorem dL_law_1663 : decode cL_law 1663 = .ok (.iload 5, 2) := by decide +kernel
theorem dL_law_1665 : decode cL_law 1665 = .ok (.ifCond .ne 15, 3) := by decide +kernel
theorem dL_law_1668 : decode cL_law 1668 = .ok (.aload_n 3, 1) := by decide +kernel
theorem dL_law_1669 : decode cL_law 1669 = .ok (.iconst 0, 1) := by decide +kernel
theorem dL_law_1670 : decode cL_law 1670 = .ok (.laload, 1) := by decide +kernel
theorem dL_law_1671 : decode cL_law 1671 = .ok (.iload 6, 2) := by decide +kernel
theorem dL_law_1673 : decode cL_law 1673 = .ok (.i2l, 1) := by decide +kernel
theorem dL_law_1674 : decode cL_law 1674 = .ok (.lcmp, 1) := by decide +kernel
theorem dL_law_1675 : decode cL_law 1675 = .ok (.ifCond .eq 5, 3) := by decide +kernel
theorem dL_law_1678 : decode cL_law 1678 = .ok (.iconst 0, 1) := by decide +kernel
theorem dL_law_1679 : decode cL_law 1679 = .ok (.ireturn, 1) := by decide +kernel
theorem dL_law_1680 : decode cL_law 1680 = .ok (.goto 1084, 3) := by decide +kernel
theorem dL_law_1683 : decode cL_law 1683 = .ok (.aload_n 1, 1) := by decide +kernel
theorem dL_law_1684 : decode cL_law 1684 = .ok (.invokevirtual 213, 3) := by decide +kernel
theorem dL_law_1687 : decode cL_law 1687 = .ok (.aload_n 2, 1) := by decide +kernel
theorem dL_law_1688 : decode cL_law 1688 = .ok (.invokevirtual 216, 3) := by decide +kernel
theorem dL_law_1691 : decode cL_law 1691 = .ok (.if_icmp .eq 1073, 3) := by decide +kernel
theorem dL_law_1694 : decode cL_law 1694 = .ok (.iconst 0, 1) := by decide +kernel
theorem dL_law_1695 : decode cL_law 1695 = .ok (.ireturn, 1) := by decide +kernel
theorem dL_law_1696 : decode cL_law 1696 = .ok (.aload_n 1, 1) := by decide +kernel
theorem dL_law_1697 : decode cL_law 1697 = .ok (.invokevirtual 217, 3) := by decide +kernel
theorem dL_law_1700 : decode cL_law 1700 = .ok (.aload_n 2, 1) := by decide +kernel
theorem dL_law_1701 : decode cL_law 1701 = .ok (.invokevirtual 220, 3) := by decide +kernel
theorem dL_law_1704 : decode cL_law 1704 = .ok (.if_icmp .eq 1060, 3) := by decide +kernel
theorem dL_law_1707 : decode cL_law 1707 = .ok (.iconst 0, 1) := by decide +kernel
theorem dL_law_1708 : decode cL_law 1708 = .ok (.ireturn, 1) := by decide +kernel
theorem dL_law_1709 : decode cL_law 1709 = .ok (.aload_n 1, 1) := by decide +kernel
theorem dL_law_1710 : decode cL_law 1710 = .ok (.invokevirtual 221, 3) := by decide +kernel
theorem dL_law_1713 : decode cL_law 1713 = .ok (.aload_n 2, 1) := by decide +kernel
theorem dL_law_1714 : decode cL_law 1714 = .ok (.invokevirtual 224, 3) := by decide +kernel
theorem dL_law_1717 : decode cL_law 1717 = .ok (.if_icmp .eq 1047, 3) := by decide +kernel
theorem dL_law_1720 : decode cL_law 1720 = .ok (.iconst 0, 1) := by decide +kernel
theorem dL_law_1721 : decode cL_law 1721 = .ok (.ireturn, 1) := by decide +kernel
theorem dL_law_1722 : decode cL_law 1722 = .ok (.aload_n 1, 1) := by decide +kernel
theorem dL_law_1723 : decode cL_law 1723 = .ok (.aload_n 0, 1) := by decide +kernel
theorem dL_law_1724 : decode cL_law 1724 = .ok (.iload 4, 2) := by decide +kernel
theorem dL_law_1726 : decode cL_law 1726 = .ok (.iconst 1, 1) := by decide +kernel
theorem dL_law_1727 : decode cL_law 1727 = .ok (.iadd, 1) := by decide +kernel
theorem dL_law_1728 : decode cL_law 1728 = .ok (.iaload, 1) := by decide +kernel
theorem dL_law_1729 : decode cL_law 1729 = .ok (.aload_n 0, 1) := by decide +kernel
theorem dL_law_1730 : decode cL_law 1730 = .ok (.iload 4, 2) := by decide +kernel
theorem dL_law_1732 : decode cL_law 1732 = .ok (.iconst 2, 1) := by decide +kernel
theorem dL_law_1733 : decode cL_law 1733 = .ok (.iadd, 1) := by decide +kernel
theorem dL_law_1734 : decode cL_law 1734 = .ok (.iaload, 1) := by decide +kernel
theorem dL_law_1735 : decode cL_law 1735 = .ok (.aload_n 3, 1) := by decide +kernel
theorem dL_law_1736 : decode cL_law 1736 = .ok (.invokestatic 225, 3) := by decide +kernel
theorem dL_law_1739 : decode cL_law 1739 = .ok (.istore 5, 2) := by decide +kernel
theorem dL_law_1741 : decode cL_law 1741 = .ok (.aload_n 2, 1) := by decide +kernel
theorem dL_law_1742 : decode cL_law 1742 = .ok (.aload_n 0, 1) := by decide +kernel
theorem dL_law_1743 : decode cL_law 1743 = .ok (.iload 4, 2) := by decide +kernel
theorem dL_law_1745 : decode cL_law 1745 = .ok (.iconst 1, 1) := by decide +kernel
theorem dL_law_1746 : decode cL_law 1746 = .ok (.iadd, 1) := by decide +kernel
theorem dL_law_1747 : decode cL_law 1747 = .ok (.iaload, 1) := by decide +kernel
theorem dL_law_1748 : decode cL_law 1748 = .ok (.aload_n 0, 1) := by decide +kernel
theorem dL_law_1749 : decode cL_law 1749 = .ok (.iload 4, 2) := by decide +kernel
theorem dL_law_1751 : decode cL_law 1751 = .ok (.iconst 2, 1) := by decide +kernel
theorem dL_law_1752 : decode cL_law 1752 = .ok (.iadd, 1) := by decide +kernel
theorem dL_law_1753 : decode cL_law 1753 = .ok (.iaload, 1) := by decide +kernel
theorem dL_law_1754 : decode cL_law 1754 = .ok (.invokevirtual 227, 3) := by decide +kernel
theorem dL_law_1757 : decode cL_law 1757 = .ok (.istore 6, 2) := by decide +kernel
theorem dL_law_1759 : decode cL_law 1759 = .ok (.aload_n 2, 1) := by decide +kernel
theorem dL_law_1760 : decode cL_law 1760 = .ok (.invokevirtual 153, 3) := by decide +kernel
theorem dL_law_1763 : decode cL_law 1763 = .ok (.iload 5, 2) := by decide +kernel
theorem dL_law_1765 : decode cL_law 1765 = .ok (.if_icmp .eq 5, 3) := by decide +kernel
theorem dL_law_1768 : decode cL_law 1768 = .ok (.iconst 0, 1) := by decide +kernel
theorem dL_law_1769 : decode cL_law 1769 = .ok (.ireturn, 1) := by decide +kernel
theorem dL_law_1770 : decode cL_law 1770 = .ok (.iload 5, 2) := by decide +kernel
theorem dL_law_1772 : decode cL_law 1772 = .ok (.ifCond .ne 15, 3) := by decide +kernel
theorem dL_law_1775 : decode cL_law 1775 = .ok (.aload_n 3, 1) := by decide +kernel
theorem dL_law_1776 : decode cL_law 1776 = .ok (.iconst 0, 1) := by decide +kernel
theorem dL_law_1777 : decode cL_law 1777 = .ok (.laload, 1) := by decide +kernel
theorem dL_law_1778 : decode cL_law 1778 = .ok (.iload 6, 2) := by decide +kernel
theorem dL_law_1780 : decode cL_law 1780 = .ok (.i2l, 1) := by decide +kernel
theorem dL_law_1781 : decode cL_law 1781 = .ok (.lcmp, 1) := by decide +kernel
theorem dL_law_1782 : decode cL_law 1782 = .ok (.ifCond .eq 5, 3) := by decide +kernel
theorem dL_law_1785 : decode cL_law 1785 = .ok (.iconst 0, 1) := by decide +kernel
theorem dL_law_1786 : decode cL_law 1786 = .ok (.ireturn, 1) := by decide +kernel
theorem dL_law_1787 : decode cL_law 1787 = .ok (.goto 977, 3) := by decide +kernel
theorem dL_law_1790 : decode cL_law 1790 = .ok (.aload_n 1, 1) := by decide +kernel
theorem dL_law_1791 : decode cL_law 1791 = .ok (.aload_n 0, 1) := by decide +kernel
theorem dL_law_1792 : decode cL_law 1792 = .ok (.iload 4, 2) := by decide +kernel
theorem dL_law_1794 : decode cL_law 1794 = .ok (.iconst 1, 1) := by decide +kernel
theorem dL_law_1795 : decode cL_law 1795 = .ok (.iadd, 1) := by decide +kernel
theorem dL_law_1796 : decode cL_law 1796 = .ok (.iaload, 1) := by decide +kernel
theorem dL_law_1797 : decode cL_law 1797 = .ok (.aload_n 3, 1) := by decide +kernel
theorem dL_law_1798 : decode cL_law 1798 = .ok (.invokestatic 228, 3) := by decide +kernel
theorem dL_law_1801 : decode cL_law 1801 = .ok (.istore 5, 2) := by decide +kernel
theorem dL_law_1803 : decode cL_law 1803 = .ok (.aload_n 2, 1) := by decide +kernel
theorem dL_law_1804 : decode cL_law 1804 = .ok (.aload_n 0, 1) := by decide +kernel
theorem dL_law_1805 : decode cL_law 1805 = .ok (.iload 4, 2) := by decide +kernel
theorem dL_law_1807 : decode cL_law 1807 = .ok (.iconst 1, 1) := by decide +kernel
theorem dL_law_1808 : decode cL_law 1808 = .ok (.iadd, 1) := by decide +kernel
theorem dL_law_1809 : decode cL_law 1809 = .ok (.iaload, 1) := by decide +kernel
theorem dL_law_1810 : decode cL_law 1810 = .ok (.invokevirtual 230, 3) := by decide +kernel
theorem dL_law_1813 : decode cL_law 1813 = .ok (.istore 6, 2) := by decide +kernel
theorem dL_law_1815 : decode cL_law 1815 = .ok (.aload_n 2, 1) := by decide +kernel
theorem dL_law_1816 : decode cL_law 1816 = .ok (.invokevirtual 153, 3) := by decide +kernel
theorem dL_law_1819 : decode cL_law 1819 = .ok (.iload 5, 2) := by decide +kernel
theorem dL_law_1821 : decode cL_law 1821 = .ok (.if_icmp .eq 5, 3) := by decide +kernel
theorem dL_law_1824 : decode cL_law 1824 = .ok (.iconst 0, 1) := by decide +kernel
theorem dL_law_1825 : decode cL_law 1825 = .ok (.ireturn, 1) := by decide +kernel
theorem dL_law_1826 : decode cL_law 1826 = .ok (.iload 5, 2) := by decide +kernel
theorem dL_law_1828 : decode cL_law 1828 = .ok (.ifCond .ne 15, 3) := by decide +kernel
theorem dL_law_1831 : decode cL_law 1831 = .ok (.aload_n 3, 1) := by decide +kernel
theorem dL_law_1832 : decode cL_law 1832 = .ok (.iconst 0, 1) := by decide +kernel
theorem dL_law_1833 : decode cL_law 1833 = .ok (.laload, 1) := by decide +kernel
theorem dL_law_1834 : decode cL_law 1834 = .ok (.iload 6, 2) := by decide +kernel
theorem dL_law_1836 : decode cL_law 1836 = .ok (.i2l, 1) := by decide +kernel
theorem dL_law_1837 : decode cL_law 1837 = .ok (.lcmp, 1) := by decide +kernel
theorem dL_law_1838 : decode cL_law 1838 = .ok (.ifCond .eq 5, 3) := by decide +kernel
theorem dL_law_1841 : decode cL_law 1841 = .ok (.iconst 0, 1) := by decide +kernel
theorem dL_law_1842 : decode cL_law 1842 = .ok (.ireturn, 1) := by decide +kernel
theorem dL_law_1843 : decode cL_law 1843 = .ok (.goto 921, 3) := by decide +kernel
theorem dL_law_1846 : decode cL_law 1846 = .ok (.aload_n 1, 1) := by decide +kernel
theorem dL_law_1847 : decode cL_law 1847 = .ok (.aload_n 0, 1) := by decide +kernel
theorem dL_law_1848 : decode cL_law 1848 = .ok (.iload 4, 2) := by decide +kernel
theorem dL_law_1850 : decode cL_law 1850 = .ok (.iconst 1, 1) := by decide +kernel
theorem dL_law_1851 : decode cL_law 1851 = .ok (.iadd, 1) := by decide +kernel
theorem dL_law_1852 : decode cL_law 1852 = .ok (.iaload, 1) := by decide +kernel
theorem dL_law_1853 : decode cL_law 1853 = .ok (.aload_n 3, 1) := by decide +kernel
theorem dL_law_1854 : decode cL_law 1854 = .ok (.invokestatic 231, 3) := by decide +kernel
theorem dL_law_1857 : decode cL_law 1857 = .ok (.istore 5, 2) := by decide +kernel
theorem dL_law_1859 : decode cL_law 1859 = .ok (.aload_n 2, 1) := by decide +kernel
theorem dL_law_1860 : decode cL_law 1860 = .ok (.aload_n 0, 1) := by decide +kernel
theorem dL_law_1861 : decode cL_law 1861 = .ok (.iload 4, 2) := by decide +kernel
theorem dL_law_1863 : decode cL_law 1863 = .ok (.iconst 1, 1) := by decide +kernel
theorem dL_law_1864 : decode cL_law 1864 = .ok (.iadd, 1) := by decide +kernel
theorem dL_law_1865 : decode cL_law 1865 = .ok (.iaload, 1) := by decide +kernel
theorem dL_law_1866 : decode cL_law 1866 = .ok (.invokevirtual 233, 3) := by decide +kernel
theorem dL_law_1869 : decode cL_law 1869 = .ok (.istore 6, 2) := by decide +kernel
theorem dL_law_1871 : decode cL_law 1871 = .ok (.aload_n 2, 1) := by decide +kernel
theorem dL_law_1872 : decode cL_law 1872 = .ok (.invokevirtual 153, 3) := by decide +kernel
theorem dL_law_1875 : decode cL_law 1875 = .ok (.iload 5, 2) := by decide +kernel
theorem dL_law_1877 : decode cL_law 1877 = .ok (.if_icmp .eq 5, 3) := by decide +kernel
theorem dL_law_1880 : decode cL_law 1880 = .ok (.iconst 0, 1) := by decide +kernel
theorem dL_law_1881 : decode cL_law 1881 = .ok (.ireturn, 1) := by decide +kernel
theorem dL_law_1882 : decode cL_law 1882 = .ok (.iload 5, 2) := by decide +kernel
theorem dL_law_1884 : decode cL_law 1884 = .ok (.ifCond .ne 15, 3) := by decide +kernel
theorem dL_law_1887 : decode cL_law 1887 = .ok (.aload_n 3, 1) := by decide +kernel
theorem dL_law_1888 : decode cL_law 1888 = .ok (.iconst 0, 1) := by decide +kernel
theorem dL_law_1889 : decode cL_law 1889 = .ok (.laload, 1) := by decide +kernel
theorem dL_law_1890 : decode cL_law 1890 = .ok (.iload 6, 2) := by decide +kernel
theorem dL_law_1892 : decode cL_law 1892 = .ok (.i2l, 1) := by decide +kernel
theorem dL_law_1893 : decode cL_law 1893 = .ok (.lcmp, 1) := by decide +kernel
theorem dL_law_1894 : decode cL_law 1894 = .ok (.ifCond .eq 5, 3) := by decide +kernel
theorem dL_law_1897 : decode cL_law 1897 = .ok (.iconst 0, 1) := by decide +kernel
theorem dL_law_1898 : decode cL_law 1898 = .ok (.ireturn, 1) := by decide +kernel
theorem dL_law_1899 : decode cL_law 1899 = .ok (.goto 865, 3) := by decide +kernel
theorem dL_law_1902 : decode cL_law 1902 = .ok (.aload_n 1, 1) := by decide +kernel
theorem dL_law_1903 : decode cL_law 1903 = .ok (.aload_n 0, 1) := by decide +kernel
theorem dL_law_1904 : decode cL_law 1904 = .ok (.iload 4, 2) := by decide +kernel
theorem dL_law_1906 : decode cL_law 1906 = .ok (.iconst 1, 1) := by decide +kernel
theorem dL_law_1907 : decode cL_law 1907 = .ok (.iadd, 1) := by decide +kernel
theorem dL_law_1908 : decode cL_law 1908 = .ok (.iaload, 1) := by decide +kernel
theorem dL_law_1909 : decode cL_law 1909 = .ok (.aload_n 3, 1) := by decide +kernel
theorem dL_law_1910 : decode cL_law 1910 = .ok (.invokestatic 234, 3) := by decide +kernel
theorem dL_law_1913 : decode cL_law 1913 = .ok (.istore 5, 2) := by decide +kernel
theorem dL_law_1915 : decode cL_law 1915 = .ok (.aload_n 2, 1) := by decide +kernel
theorem dL_law_1916 : decode cL_law 1916 = .ok (.aload_n 0, 1) := by decide +kernel
theorem dL_law_1917 : decode cL_law 1917 = .ok (.iload 4, 2) := by decide +kernel
theorem dL_law_1919 : decode cL_law 1919 = .ok (.iconst 1, 1) := by decide +kernel
theorem dL_law_1920 : decode cL_law 1920 = .ok (.iadd, 1) := by decide +kernel
theorem dL_law_1921 : decode cL_law 1921 = .ok (.iaload, 1) := by decide +kernel
theorem dL_law_1922 : decode cL_law 1922 = .ok (.invokevirtual 236, 3) := by decide +kernel
theorem dL_law_1925 : decode cL_law 1925 = .ok (.istore 6, 2) := by decide +kernel
theorem dL_law_1927 : decode cL_law 1927 = .ok (.aload_n 2, 1) := by decide +kernel
theorem dL_law_1928 : decode cL_law 1928 = .ok (.invokevirtual 153, 3) := by decide +kernel
theorem dL_law_1931 : decode cL_law 1931 = .ok (.iload 5, 2) := by decide +kernel
theorem dL_law_1933 : decode cL_law 1933 = .ok (.if_icmp .eq 5, 3) := by decide +kernel
theorem dL_law_1936 : decode cL_law 1936 = .ok (.iconst 0, 1) := by decide +kernel
theorem dL_law_1937 : decode cL_law 1937 = .ok (.ireturn, 1) := by decide +kernel
theorem dL_law_1938 : decode cL_law 1938 = .ok (.iload 5, 2) := by decide +kernel
theorem dL_law_1940 : decode cL_law 1940 = .ok (.ifCond .ne 15, 3) := by decide +kernel
theorem dL_law_1943 : decode cL_law 1943 = .ok (.aload_n 3, 1) := by decide +kernel
theorem dL_law_1944 : decode cL_law 1944 = .ok (.iconst 0, 1) := by decide +kernel
theorem dL_law_1945 : decode cL_law 1945 = .ok (.laload, 1) := by decide +kernel
theorem dL_law_1946 : decode cL_law 1946 = .ok (.iload 6, 2) := by decide +kernel
theorem dL_law_1948 : decode cL_law 1948 = .ok (.i2l, 1) := by decide +kernel
theorem dL_law_1949 : decode cL_law 1949 = .ok (.lcmp, 1) := by decide +kernel
theorem dL_law_1950 : decode cL_law 1950 = .ok (.ifCond .eq 5, 3) := by decide +kernel
theorem dL_law_1953 : decode cL_law 1953 = .ok (.iconst 0, 1) := by decide +kernel
theorem dL_law_1954 : decode cL_law 1954 = .ok (.ireturn, 1) := by decide +kernel
theorem dL_law_1955 : decode cL_law 1955 = .ok (.goto 809, 3) := by decide +kernel
theorem dL_law_1958 : decode cL_law 1958 = .ok (.aload_n 1, 1) := by decide +kernel
theorem dL_law_1959 : decode cL_law 1959 = .ok (.invokevirtual 237, 3) := by decide +kernel
theorem dL_law_1962 : decode cL_law 1962 = .ok (.aload_n 2, 1) := by decide +kernel
theorem dL_law_1963 : decode cL_law 1963 = .ok (.invokevirtual 240, 3) := by decide +kernel
theorem dL_law_1966 : decode cL_law 1966 = .ok (.if_icmp .eq 798, 3) := by decide +kernel
theorem dL_law_1969 : decode cL_law 1969 = .ok (.iconst 0, 1) := by decide +kernel
theorem dL_law_1970 : decode cL_law 1970 = .ok (.ireturn, 1) := by decide +kernel
theorem dL_law_1971 : decode cL_law 1971 = .ok (.aload_n 1, 1) := by decide +kernel
theorem dL_law_1972 : decode cL_law 1972 = .ok (.invokevirtual 241, 3) := by decide +kernel
theorem dL_law_1975 : decode cL_law 1975 = .ok (.aload_n 2, 1) := by decide +kernel
theorem dL_law_1976 : decode cL_law 1976 = .ok (.invokevirtual 244, 3) := by decide +kernel
theorem dL_law_1979 : decode cL_law 1979 = .ok (.if_icmp .eq 785, 3) := by decide +kernel
theorem dL_law_1982 : decode cL_law 1982 = .ok (.iconst 0, 1) := by decide +kernel
theorem dL_law_1983 : decode cL_law 1983 = .ok (.ireturn, 1) := by decide +kernel
theorem dL_law_1984 : decode cL_law 1984 = .ok (.aload_n 1, 1) := by decide +kernel
theorem dL_law_1985 : decode cL_law 1985 = .ok (.invokevirtual 245, 3) := by decide +kernel
theorem dL_law_1988 : decode cL_law 1988 = .ok (.aload_n 2, 1) := by decide +kernel
theorem dL_law_1989 : decode cL_law 1989 = .ok (.invokevirtual 248, 3) := by decide +kernel
theorem dL_law_1992 : decode cL_law 1992 = .ok (.if_icmp .eq 772, 3) := by decide +kernel
theorem dL_law_1995 : decode cL_law 1995 = .ok (.iconst 0, 1) := by decide +kernel
theorem dL_law_1996 : decode cL_law 1996 = .ok (.ireturn, 1) := by decide +kernel
theorem dL_law_1997 : decode cL_law 1997 = .ok (.aload_n 1, 1) := by decide +kernel
theorem dL_law_1998 : decode cL_law 1998 = .ok (.aload_n 0, 1) := by decide +kernel
theorem dL_law_1999 : decode cL_law 1999 = .ok (.iload 4, 2) := by decide +kernel
theorem dL_law_2001 : decode cL_law 2001 = .ok (.iconst 1, 1) := by decide +kernel
theorem dL_law_2002 : decode cL_law 2002 = .ok (.iadd, 1) := by decide +kernel
theorem dL_law_2003 : decode cL_law 2003 = .ok (.iaload, 1) := by decide +kernel
theorem dL_law_2004 : decode cL_law 2004 = .ok (.aload_n 3, 1) := by decide +kernel
theorem dL_law_2005 : decode cL_law 2005 = .ok (.invokestatic 249, 3) := by decide +kernel
theorem dL_law_2008 : decode cL_law 2008 = .ok (.istore 5, 2) := by decide +kernel
theorem dL_law_2010 : decode cL_law 2010 = .ok (.aload_n 2, 1) := by decide +kernel
theorem dL_law_2011 : decode cL_law 2011 = .ok (.aload_n 0, 1) := by decide +kernel
theorem dL_law_2012 : decode cL_law 2012 = .ok (.iload 4, 2) := by decide +kernel
theorem dL_law_2014 : decode cL_law 2014 = .ok (.iconst 1, 1) := by decide +kernel
theorem dL_law_2015 : decode cL_law 2015 = .ok (.iadd, 1) := by decide +kernel
theorem dL_law_2016 : decode cL_law 2016 = .ok (.iaload, 1) := by decide +kernel
theorem dL_law_2017 : decode cL_law 2017 = .ok (.invokevirtual 251, 3) := by decide +kernel
theorem dL_law_2020 : decode cL_law 2020 = .ok (.istore 6, 2) := by decide +kernel
theorem dL_law_2022 : decode cL_law 2022 = .ok (.aload_n 2, 1) := by decide +kernel
theorem dL_law_2023 : decode cL_law 2023 = .ok (.invokevirtual 153, 3) := by decide +kernel
theorem dL_law_2026 : decode cL_law 2026 = .ok (.iload 5, 2) := by decide +kernel
theorem dL_law_2028 : decode cL_law 2028 = .ok (.if_icmp .eq 5, 3) := by decide +kernel
theorem dL_law_2031 : decode cL_law 2031 = .ok (.iconst 0, 1) := by decide +kernel
theorem dL_law_2032 : decode cL_law 2032 = .ok (.ireturn, 1) := by decide +kernel
theorem dL_law_2033 : decode cL_law 2033 = .ok (.iload 5, 2) := by decide +kernel
theorem dL_law_2035 : decode cL_law 2035 = .ok (.ifCond .ne 15, 3) := by decide +kernel
theorem dL_law_2038 : decode cL_law 2038 = .ok (.aload_n 3, 1) := by decide +kernel
theorem dL_law_2039 : decode cL_law 2039 = .ok (.iconst 0, 1) := by decide +kernel
theorem dL_law_2040 : decode cL_law 2040 = .ok (.laload, 1) := by decide +kernel
theorem dL_law_2041 : decode cL_law 2041 = .ok (.iload 6, 2) := by decide +kernel
theorem dL_law_2043 : decode cL_law 2043 = .ok (.i2l, 1) := by decide +kernel
theorem dL_law_2044 : decode cL_law 2044 = .ok (.lcmp, 1) := by decide +kernel
theorem dL_law_2045 : decode cL_law 2045 = .ok (.ifCond .eq 5, 3) := by decide +kernel
theorem dL_law_2048 : decode cL_law 2048 = .ok (.iconst 0, 1) := by decide +kernel
theorem dL_law_2049 : decode cL_law 2049 = .ok (.ireturn, 1) := by decide +kernel
theorem dL_law_2050 : decode cL_law 2050 = .ok (.goto 714, 3) := by decide +kernel
theorem dL_law_2053 : decode cL_law 2053 = .ok (.aload_n 1, 1) := by decide +kernel
theorem dL_law_2054 : decode cL_law 2054 = .ok (.aload_n 0, 1) := by decide +kernel
theorem dL_law_2055 : decode cL_law 2055 = .ok (.iload 4, 2) := by decide +kernel
theorem dL_law_2057 : decode cL_law 2057 = .ok (.iconst 1, 1) := by decide +kernel
theorem dL_law_2058 : decode cL_law 2058 = .ok (.iadd, 1) := by decide +kernel
theorem dL_law_2059 : decode cL_law 2059 = .ok (.iaload, 1) := by decide +kernel
theorem dL_law_2060 : decode cL_law 2060 = .ok (.aload_n 0, 1) := by decide +kernel
theorem dL_law_2061 : decode cL_law 2061 = .ok (.iload 4, 2) := by decide +kernel
theorem dL_law_2063 : decode cL_law 2063 = .ok (.iconst 2, 1) := by decide +kernel
theorem dL_law_2064 : decode cL_law 2064 = .ok (.iadd, 1) := by decide +kernel
theorem dL_law_2065 : decode cL_law 2065 = .ok (.iaload, 1) := by decide +kernel
theorem dL_law_2066 : decode cL_law 2066 = .ok (.aload_n 3, 1) := by decide +kernel
theorem dL_law_2067 : decode cL_law 2067 = .ok (.invokestatic 252, 3) := by decide +kernel
theorem dL_law_2070 : decode cL_law 2070 = .ok (.istore 5, 2) := by decide +kernel
theorem dL_law_2072 : decode cL_law 2072 = .ok (.aload_n 2, 1) := by decide +kernel
theorem dL_law_2073 : decode cL_law 2073 = .ok (.aload_n 0, 1) := by decide +kernel
theorem dL_law_2074 : decode cL_law 2074 = .ok (.iload 4, 2) := by decide +kernel
theorem dL_law_2076 : decode cL_law 2076 = .ok (.iconst 1, 1) := by decide +kernel
theorem dL_law_2077 : decode cL_law 2077 = .ok (.iadd, 1) := by decide +kernel
theorem dL_law_2078 : decode cL_law 2078 = .ok (.iaload, 1) := by decide +kernel
theorem dL_law_2079 : decode cL_law 2079 = .ok (.aload_n 0, 1) := by decide +kernel
theorem dL_law_2080 : decode cL_law 2080 = .ok (.iload 4, 2) := by decide +kernel
theorem dL_law_2082 : decode cL_law 2082 = .ok (.iconst 2, 1) := by decide +kernel
theorem dL_law_2083 : decode cL_law 2083 = .ok (.iadd, 1) := by decide +kernel
theorem dL_law_2084 : decode cL_law 2084 = .ok (.iaload, 1) := by decide +kernel
theorem dL_law_2085 : decode cL_law 2085 = .ok (.invokevirtual 254, 3) := by decide +kernel
theorem dL_law_2088 : decode cL_law 2088 = .ok (.istore 6, 2) := by decide +kernel
theorem dL_law_2090 : decode cL_law 2090 = .ok (.aload_n 2, 1) := by decide +kernel
theorem dL_law_2091 : decode cL_law 2091 = .ok (.invokevirtual 153, 3) := by decide +kernel
theorem dL_law_2094 : decode cL_law 2094 = .ok (.iload 5, 2) := by decide +kernel
theorem dL_law_2096 : decode cL_law 2096 = .ok (.if_icmp .eq 5, 3) := by decide +kernel
theorem dL_law_2099 : decode cL_law 2099 = .ok (.iconst 0, 1) := by decide +kernel
theorem dL_law_2100 : decode cL_law 2100 = .ok (.ireturn, 1) := by decide +kernel
theorem dL_law_2101 : decode cL_law 2101 = .ok (.iload 5, 2) := by decide +kernel
theorem dL_law_2103 : decode cL_law 2103 = .ok (.ifCond .ne 15, 3) := by decide +kernel
theorem dL_law_2106 : decode cL_law 2106 = .ok (.aload_n 3, 1) := by decide +kernel
theorem dL_law_2107 : decode cL_law 2107 = .ok (.iconst 0, 1) := by decide +kernel
theorem dL_law_2108 : decode cL_law 2108 = .ok (.laload, 1) := by decide +kernel
theorem dL_law_2109 : decode cL_law 2109 = .ok (.iload 6, 2) := by decide +kernel
theorem dL_law_2111 : decode cL_law 2111 = .ok (.i2l, 1) := by decide +kernel
theorem dL_law_2112 : decode cL_law 2112 = .ok (.lcmp, 1) := by decide +kernel
theorem dL_law_2113 : decode cL_law 2113 = .ok (.ifCond .eq 5, 3) := by decide +kernel
theorem dL_law_2116 : decode cL_law 2116 = .ok (.iconst 0, 1) := by decide +kernel
theorem dL_law_2117 : decode cL_law 2117 = .ok (.ireturn, 1) := by decide +kernel
theorem dL_law_2118 : decode cL_law 2118 = .ok (.goto 646, 3) := by decide +kernel
theorem dL_law_2121 : decode cL_law 2121 = .ok (.aload_n 1, 1) := by decide +kernel
theorem dL_law_2122 : decode cL_law 2122 = .ok (.aload_n 0, 1) := by decide +kernel
theorem dL_law_2123 : decode cL_law 2123 = .ok (.iload 4, 2) := by decide +kernel
theorem dL_law_2125 : decode cL_law 2125 = .ok (.iconst 1, 1) := by decide +kernel
theorem dL_law_2126 : decode cL_law 2126 = .ok (.iadd, 1) := by decide +kernel
theorem dL_law_2127 : decode cL_law 2127 = .ok (.iaload, 1) := by decide +kernel
theorem dL_law_2128 : decode cL_law 2128 = .ok (.aload_n 3, 1) := by decide +kernel
theorem dL_law_2129 : decode cL_law 2129 = .ok (.invokestatic 255, 3) := by decide +kernel
theorem dL_law_2132 : decode cL_law 2132 = .ok (.istore 5, 2) := by decide +kernel
theorem dL_law_2134 : decode cL_law 2134 = .ok (.aload_n 2, 1) := by decide +kernel
theorem dL_law_2135 : decode cL_law 2135 = .ok (.aload_n 0, 1) := by decide +kernel
theorem dL_law_2136 : decode cL_law 2136 = .ok (.iload 4, 2) := by decide +kernel
theorem dL_law_2138 : decode cL_law 2138 = .ok (.iconst 1, 1) := by decide +kernel
theorem dL_law_2139 : decode cL_law 2139 = .ok (.iadd, 1) := by decide +kernel
theorem dL_law_2140 : decode cL_law 2140 = .ok (.iaload, 1) := by decide +kernel
theorem dL_law_2141 : decode cL_law 2141 = .ok (.invokevirtual 257, 3) := by decide +kernel
theorem dL_law_2144 : decode cL_law 2144 = .ok (.lstore 6, 2) := by decide +kernel
theorem dL_law_2146 : decode cL_law 2146 = .ok (.aload_n 2, 1) := by decide +kernel
theorem dL_law_2147 : decode cL_law 2147 = .ok (.invokevirtual 153, 3) := by decide +kernel
theorem dL_law_2150 : decode cL_law 2150 = .ok (.iload 5, 2) := by decide +kernel
theorem dL_law_2152 : decode cL_law 2152 = .ok (.if_icmp .eq 5, 3) := by decide +kernel
theorem dL_law_2155 : decode cL_law 2155 = .ok (.iconst 0, 1) := by decide +kernel
theorem dL_law_2156 : decode cL_law 2156 = .ok (.ireturn, 1) := by decide +kernel
theorem dL_law_2157 : decode cL_law 2157 = .ok (.iload 5, 2) := by decide +kernel
theorem dL_law_2159 : decode cL_law 2159 = .ok (.ifCond .ne 14, 3) := by decide +kernel
theorem dL_law_2162 : decode cL_law 2162 = .ok (.aload_n 3, 1) := by decide +kernel
theorem dL_law_2163 : decode cL_law 2163 = .ok (.iconst 0, 1) := by decide +kernel
theorem dL_law_2164 : decode cL_law 2164 = .ok (.laload, 1) := by decide +kernel
theorem dL_law_2165 : decode cL_law 2165 = .ok (.lload 6, 2) := by decide +kernel
theorem dL_law_2167 : decode cL_law 2167 = .ok (.lcmp, 1) := by decide +kernel
theorem dL_law_2168 : decode cL_law 2168 = .ok (.ifCond .eq 5, 3) := by decide +kernel
theorem dL_law_2171 : decode cL_law 2171 = .ok (.iconst 0, 1) := by decide +kernel
theorem dL_law_2172 : decode cL_law 2172 = .ok (.ireturn, 1) := by decide +kernel
theorem dL_law_2173 : decode cL_law 2173 = .ok (.goto 591, 3) := by decide +kernel
theorem dL_law_2176 : decode cL_law 2176 = .ok (.aload_n 1, 1) := by decide +kernel
theorem dL_law_2177 : decode cL_law 2177 = .ok (.invokevirtual 258, 3) := by decide +kernel
theorem dL_law_2180 : decode cL_law 2180 = .ok (.aload_n 2, 1) := by decide +kernel
theorem dL_law_2181 : decode cL_law 2181 = .ok (.invokevirtual 261, 3) := by decide +kernel
theorem dL_law_2184 : decode cL_law 2184 = .ok (.if_icmp .eq 580, 3) := by decide +kernel
theorem dL_law_2187 : decode cL_law 2187 = .ok (.iconst 0, 1) := by decide +kernel
theorem dL_law_2188 : decode cL_law 2188 = .ok (.ireturn, 1) := by decide +kernel
theorem dL_law_2189 : decode cL_law 2189 = .ok (.aload_n 1, 1) := by decide +kernel
theorem dL_law_2190 : decode cL_law 2190 = .ok (.invokevirtual 262, 3) := by decide +kernel
theorem dL_law_2193 : decode cL_law 2193 = .ok (.aload_n 2, 1) := by decide +kernel
theorem dL_law_2194 : decode cL_law 2194 = .ok (.invokevirtual 266, 3) := by decide +kernel
theorem dL_law_2197 : decode cL_law 2197 = .ok (.if_icmp .eq 567, 3) := by decide +kernel
theorem dL_law_2200 : decode cL_law 2200 = .ok (.iconst 0, 1) := by decide +kernel
theorem dL_law_2201 : decode cL_law 2201 = .ok (.ireturn, 1) := by decide +kernel
theorem dL_law_2202 : decode cL_law 2202 = .ok (.aload_n 1, 1) := by decide +kernel
theorem dL_law_2203 : decode cL_law 2203 = .ok (.aload_n 0, 1) := by decide +kernel
theorem dL_law_2204 : decode cL_law 2204 = .ok (.iload 4, 2) := by decide +kernel
theorem dL_law_2206 : decode cL_law 2206 = .ok (.iconst 1, 1) := by decide +kernel
theorem dL_law_2207 : decode cL_law 2207 = .ok (.iadd, 1) := by decide +kernel
theorem dL_law_2208 : decode cL_law 2208 = .ok (.iaload, 1) := by decide +kernel
theorem dL_law_2209 : decode cL_law 2209 = .ok (.aload_n 3, 1) := by decide +kernel
theorem dL_law_2210 : decode cL_law 2210 = .ok (.invokestatic 267, 3) := by decide +kernel
theorem dL_law_2213 : decode cL_law 2213 = .ok (.istore 5, 2) := by decide +kernel
theorem dL_law_2215 : decode cL_law 2215 = .ok (.aload_n 2, 1) := by decide +kernel
theorem dL_law_2216 : decode cL_law 2216 = .ok (.aload_n 0, 1) := by decide +kernel
theorem dL_law_2217 : decode cL_law 2217 = .ok (.iload 4, 2) := by decide +kernel
theorem dL_law_2219 : decode cL_law 2219 = .ok (.iconst 1, 1) := by decide +kernel
theorem dL_law_2220 : decode cL_law 2220 = .ok (.iadd, 1) := by decide +kernel
theorem dL_law_2221 : decode cL_law 2221 = .ok (.iaload, 1) := by decide +kernel
theorem dL_law_2222 : decode cL_law 2222 = .ok (.invokevirtual 269, 3) := by decide +kernel
theorem dL_law_2225 : decode cL_law 2225 = .ok (.lstore 6, 2) := by decide +kernel
theorem dL_law_2227 : decode cL_law 2227 = .ok (.aload_n 2, 1) := by decide +kernel
theorem dL_law_2228 : decode cL_law 2228 = .ok (.invokevirtual 153, 3) := by decide +kernel
theorem dL_law_2231 : decode cL_law 2231 = .ok (.iload 5, 2) := by decide +kernel
theorem dL_law_2233 : decode cL_law 2233 = .ok (.if_icmp .eq 5, 3) := by decide +kernel
theorem dL_law_2236 : decode cL_law 2236 = .ok (.iconst 0, 1) := by decide +kernel
theorem dL_law_2237 : decode cL_law 2237 = .ok (.ireturn, 1) := by decide +kernel
theorem dL_law_2238 : decode cL_law 2238 = .ok (.iload 5, 2) := by decide +kernel
theorem dL_law_2240 : decode cL_law 2240 = .ok (.ifCond .ne 14, 3) := by decide +kernel
theorem dL_law_2243 : decode cL_law 2243 = .ok (.aload_n 3, 1) := by decide +kernel
theorem dL_law_2244 : decode cL_law 2244 = .ok (.iconst 0, 1) := by decide +kernel
theorem dL_law_2245 : decode cL_law 2245 = .ok (.laload, 1) := by decide +kernel
theorem dL_law_2246 : decode cL_law 2246 = .ok (.lload 6, 2) := by decide +kernel
theorem dL_law_2248 : decode cL_law 2248 = .ok (.lcmp, 1) := by decide +kernel
theorem dL_law_2249 : decode cL_law 2249 = .ok (.ifCond .eq 5, 3) := by decide +kernel
theorem dL_law_2252 : decode cL_law 2252 = .ok (.iconst 0, 1) := by decide +kernel
theorem dL_law_2253 : decode cL_law 2253 = .ok (.ireturn, 1) := by decide +kernel
theorem dL_law_2254 : decode cL_law 2254 = .ok (.goto 510, 3) := by decide +kernel
theorem dL_law_2257 : decode cL_law 2257 = .ok (.aload_n 1, 1) := by decide +kernel
theorem dL_law_2258 : decode cL_law 2258 = .ok (.aload_n 0, 1) := by decide +kernel
theorem dL_law_2259 : decode cL_law 2259 = .ok (.iload 4, 2) := by decide +kernel
theorem dL_law_2261 : decode cL_law 2261 = .ok (.iconst 1, 1) := by decide +kernel
theorem dL_law_2262 : decode cL_law 2262 = .ok (.iadd, 1) := by decide +kernel
theorem dL_law_2263 : decode cL_law 2263 = .ok (.iaload, 1) := by decide +kernel
theorem dL_law_2264 : decode cL_law 2264 = .ok (.aload_n 3, 1) := by decide +kernel
theorem dL_law_2265 : decode cL_law 2265 = .ok (.invokestatic 270, 3) := by decide +kernel
theorem dL_law_2268 : decode cL_law 2268 = .ok (.istore 5, 2) := by decide +kernel
theorem dL_law_2270 : decode cL_law 2270 = .ok (.aload_n 2, 1) := by decide +kernel
theorem dL_law_2271 : decode cL_law 2271 = .ok (.aload_n 0, 1) := by decide +kernel
theorem dL_law_2272 : decode cL_law 2272 = .ok (.iload 4, 2) := by decide +kernel
theorem dL_law_2274 : decode cL_law 2274 = .ok (.iconst 1, 1) := by decide +kernel
theorem dL_law_2275 : decode cL_law 2275 = .ok (.iadd, 1) := by decide +kernel
theorem dL_law_2276 : decode cL_law 2276 = .ok (.iaload, 1) := by decide +kernel
theorem dL_law_2277 : decode cL_law 2277 = .ok (.invokevirtual 272, 3) := by decide +kernel
theorem dL_law_2280 : decode cL_law 2280 = .ok (.lstore 6, 2) := by decide +kernel
theorem dL_law_2282 : decode cL_law 2282 = .ok (.aload_n 2, 1) := by decide +kernel
theorem dL_law_2283 : decode cL_law 2283 = .ok (.invokevirtual 153, 3) := by decide +kernel
theorem dL_law_2286 : decode cL_law 2286 = .ok (.iload 5, 2) := by decide +kernel
theorem dL_law_2288 : decode cL_law 2288 = .ok (.if_icmp .eq 5, 3) := by decide +kernel
theorem dL_law_2291 : decode cL_law 2291 = .ok (.iconst 0, 1) := by decide +kernel
theorem dL_law_2292 : decode cL_law 2292 = .ok (.ireturn, 1) := by decide +kernel
theorem dL_law_2293 : decode cL_law 2293 = .ok (.iload 5, 2) := by decide +kernel
theorem dL_law_2295 : decode cL_law 2295 = .ok (.ifCond .ne 14, 3) := by decide +kernel
theorem dL_law_2298 : decode cL_law 2298 = .ok (.aload_n 3, 1) := by decide +kernel
theorem dL_law_2299 : decode cL_law 2299 = .ok (.iconst 0, 1) := by decide +kernel
theorem dL_law_2300 : decode cL_law 2300 = .ok (.laload, 1) := by decide +kernel
theorem dL_law_2301 : decode cL_law 2301 = .ok (.lload 6, 2) := by decide +kernel
theorem dL_law_2303 : decode cL_law 2303 = .ok (.lcmp, 1) := by decide +kernel
theorem dL_law_2304 : decode cL_law 2304 = .ok (.ifCond .eq 5, 3) := by decide +kernel
theorem dL_law_2307 : decode cL_law 2307 = .ok (.iconst 0, 1) := by decide +kernel
theorem dL_law_2308 : decode cL_law 2308 = .ok (.ireturn, 1) := by decide +kernel
theorem dL_law_2309 : decode cL_law 2309 = .ok (.goto 455, 3) := by decide +kernel
theorem dL_law_2312 : decode cL_law 2312 = .ok (.aload_n 1, 1) := by decide +kernel
theorem dL_law_2313 : decode cL_law 2313 = .ok (.invokevirtual 273, 3) := by decide +kernel
theorem dL_law_2316 : decode cL_law 2316 = .ok (.aload_n 2, 1) := by decide +kernel
theorem dL_law_2317 : decode cL_law 2317 = .ok (.invokevirtual 276, 3) := by decide +kernel
theorem dL_law_2320 : decode cL_law 2320 = .ok (.if_icmp .eq 444, 3) := by decide +kernel
theorem dL_law_2323 : decode cL_law 2323 = .ok (.iconst 0, 1) := by decide +kernel
theorem dL_law_2324 : decode cL_law 2324 = .ok (.ireturn, 1) := by decide +kernel
theorem dL_law_2325 : decode cL_law 2325 = .ok (.aload_n 1, 1) := by decide +kernel
theorem dL_law_2326 : decode cL_law 2326 = .ok (.invokevirtual 277, 3) := by decide +kernel
theorem dL_law_2329 : decode cL_law 2329 = .ok (.aload_n 2, 1) := by decide +kernel
theorem dL_law_2330 : decode cL_law 2330 = .ok (.invokevirtual 280, 3) := by decide +kernel
theorem dL_law_2333 : decode cL_law 2333 = .ok (.if_icmp .eq 431, 3) := by decide +kernel
theorem dL_law_2336 : decode cL_law 2336 = .ok (.iconst 0, 1) := by decide +kernel
theorem dL_law_2337 : decode cL_law 2337 = .ok (.ireturn, 1) := by decide +kernel
theorem dL_law_2338 : decode cL_law 2338 = .ok (.aload_n 1, 1) := by decide +kernel
theorem dL_law_2339 : decode cL_law 2339 = .ok (.invokevirtual 281, 3) := by decide +kernel
theorem dL_law_2342 : decode cL_law 2342 = .ok (.aload_n 2, 1) := by decide +kernel
theorem dL_law_2343 : decode cL_law 2343 = .ok (.invokevirtual 285, 3) := by decide +kernel
theorem dL_law_2346 : decode cL_law 2346 = .ok (.lcmp, 1) := by decide +kernel
theorem dL_law_2347 : decode cL_law 2347 = .ok (.ifCond .eq 417, 3) := by decide +kernel
theorem dL_law_2350 : decode cL_law 2350 = .ok (.iconst 0, 1) := by decide +kernel
theorem dL_law_2351 : decode cL_law 2351 = .ok (.ireturn, 1) := by decide +kernel
theorem dL_law_2352 : decode cL_law 2352 = .ok (.aload_n 1, 1) := by decide +kernel
theorem dL_law_2353 : decode cL_law 2353 = .ok (.invokevirtual 286, 3) := by decide +kernel
theorem dL_law_2356 : decode cL_law 2356 = .ok (.aload_n 2, 1) := by decide +kernel
theorem dL_law_2357 : decode cL_law 2357 = .ok (.invokevirtual 289, 3) := by decide +kernel
theorem dL_law_2360 : decode cL_law 2360 = .ok (.if_icmp .eq 404, 3) := by decide +kernel
theorem dL_law_2363 : decode cL_law 2363 = .ok (.iconst 0, 1) := by decide +kernel
theorem dL_law_2364 : decode cL_law 2364 = .ok (.ireturn, 1) := by decide +kernel
theorem dL_law_2365 : decode cL_law 2365 = .ok (.aload_n 1, 1) := by decide +kernel
theorem dL_law_2366 : decode cL_law 2366 = .ok (.invokevirtual 290, 3) := by decide +kernel
theorem dL_law_2369 : decode cL_law 2369 = .ok (.aload_n 2, 1) := by decide +kernel
theorem dL_law_2370 : decode cL_law 2370 = .ok (.invokevirtual 293, 3) := by decide +kernel
theorem dL_law_2373 : decode cL_law 2373 = .ok (.if_icmp .eq 391, 3) := by decide +kernel
theorem dL_law_2376 : decode cL_law 2376 = .ok (.iconst 0, 1) := by decide +kernel
theorem dL_law_2377 : decode cL_law 2377 = .ok (.ireturn, 1) := by decide +kernel
theorem dL_law_2378 : decode cL_law 2378 = .ok (.aload_n 1, 1) := by decide +kernel
theorem dL_law_2379 : decode cL_law 2379 = .ok (.aload_n 0, 1) := by decide +kernel
theorem dL_law_2380 : decode cL_law 2380 = .ok (.iload 4, 2) := by decide +kernel
theorem dL_law_2382 : decode cL_law 2382 = .ok (.iconst 1, 1) := by decide +kernel
theorem dL_law_2383 : decode cL_law 2383 = .ok (.iadd, 1) := by decide +kernel
theorem dL_law_2384 : decode cL_law 2384 = .ok (.iaload, 1) := by decide +kernel
theorem dL_law_2385 : decode cL_law 2385 = .ok (.aload_n 0, 1) := by decide +kernel
theorem dL_law_2386 : decode cL_law 2386 = .ok (.iload 4, 2) := by decide +kernel
theorem dL_law_2388 : decode cL_law 2388 = .ok (.iconst 2, 1) := by decide +kernel
theorem dL_law_2389 : decode cL_law 2389 = .ok (.iadd, 1) := by decide +kernel
theorem dL_law_2390 : decode cL_law 2390 = .ok (.iaload, 1) := by decide +kernel
theorem dL_law_2391 : decode cL_law 2391 = .ok (.invokevirtual 294, 3) := by decide +kernel
theorem dL_law_2394 : decode cL_law 2394 = .ok (.aload_n 2, 1) := by decide +kernel
theorem dL_law_2395 : decode cL_law 2395 = .ok (.aload_n 0, 1) := by decide +kernel
theorem dL_law_2396 : decode cL_law 2396 = .ok (.iload 4, 2) := by decide +kernel
theorem dL_law_2398 : decode cL_law 2398 = .ok (.iconst 1, 1) := by decide +kernel
theorem dL_law_2399 : decode cL_law 2399 = .ok (.iadd, 1) := by decide +kernel
theorem dL_law_2400 : decode cL_law 2400 = .ok (.iaload, 1) := by decide +kernel
theorem dL_law_2401 : decode cL_law 2401 = .ok (.aload_n 0, 1) := by decide +kernel
theorem dL_law_2402 : decode cL_law 2402 = .ok (.iload 4, 2) := by decide +kernel
theorem dL_law_2404 : decode cL_law 2404 = .ok (.iconst 2, 1) := by decide +kernel
theorem dL_law_2405 : decode cL_law 2405 = .ok (.iadd, 1) := by decide +kernel
theorem dL_law_2406 : decode cL_law 2406 = .ok (.iaload, 1) := by decide +kernel
theorem dL_law_2407 : decode cL_law 2407 = .ok (.invokevirtual 297, 3) := by decide +kernel
theorem dL_law_2410 : decode cL_law 2410 = .ok (.if_icmp .eq 354, 3) := by decide +kernel
theorem dL_law_2413 : decode cL_law 2413 = .ok (.iconst 0, 1) := by decide +kernel
theorem dL_law_2414 : decode cL_law 2414 = .ok (.ireturn, 1) := by decide +kernel
theorem dL_law_2415 : decode cL_law 2415 = .ok (.aload_n 1, 1) := by decide +kernel
theorem dL_law_2416 : decode cL_law 2416 = .ok (.aload_n 0, 1) := by decide +kernel
theorem dL_law_2417 : decode cL_law 2417 = .ok (.iload 4, 2) := by decide +kernel
theorem dL_law_2419 : decode cL_law 2419 = .ok (.iconst 1, 1) := by decide +kernel
theorem dL_law_2420 : decode cL_law 2420 = .ok (.iadd, 1) := by decide +kernel
theorem dL_law_2421 : decode cL_law 2421 = .ok (.iaload, 1) := by decide +kernel
theorem dL_law_2422 : decode cL_law 2422 = .ok (.invokevirtual 298, 3) := by decide +kernel
theorem dL_law_2425 : decode cL_law 2425 = .ok (.aload_n 2, 1) := by decide +kernel
theorem dL_law_2426 : decode cL_law 2426 = .ok (.aload_n 0, 1) := by decide +kernel
theorem dL_law_2427 : decode cL_law 2427 = .ok (.iload 4, 2) := by decide +kernel
theorem dL_law_2429 : decode cL_law 2429 = .ok (.iconst 1, 1) := by decide +kernel
theorem dL_law_2430 : decode cL_law 2430 = .ok (.iadd, 1) := by decide +kernel
theorem dL_law_2431 : decode cL_law 2431 = .ok (.iaload, 1) := by decide +kernel
theorem dL_law_2432 : decode cL_law 2432 = .ok (.invokevirtual 301, 3) := by decide +kernel
theorem dL_law_2435 : decode cL_law 2435 = .ok (.if_icmp .eq 329, 3) := by decide +kernel
theorem dL_law_2438 : decode cL_law 2438 = .ok (.iconst 0, 1) := by decide +kernel
theorem dL_law_2439 : decode cL_law 2439 = .ok (.ireturn, 1) := by decide +kernel
theorem dL_law_2440 : decode cL_law 2440 = .ok (.aload_n 1, 1) := by decide +kernel
theorem dL_law_2441 : decode cL_law 2441 = .ok (.aload_n 0, 1) := by decide +kernel
theorem dL_law_2442 : decode cL_law 2442 = .ok (.iload 4, 2) := by decide +kernel
theorem dL_law_2444 : decode cL_law 2444 = .ok (.iconst 1, 1) := by decide +kernel
theorem dL_law_2445 : decode cL_law 2445 = .ok (.iadd, 1) := by decide +kernel
theorem dL_law_2446 : decode cL_law 2446 = .ok (.iaload, 1) := by decide +kernel
theorem dL_law_2447 : decode cL_law 2447 = .ok (.aload_n 0, 1) := by decide +kernel
theorem dL_law_2448 : decode cL_law 2448 = .ok (.iload 4, 2) := by decide +kernel
theorem dL_law_2450 : decode cL_law 2450 = .ok (.iconst 2, 1) := by decide +kernel
theorem dL_law_2451 : decode cL_law 2451 = .ok (.iadd, 1) := by decide +kernel
theorem dL_law_2452 : decode cL_law 2452 = .ok (.iaload, 1) := by decide +kernel
theorem dL_law_2453 : decode cL_law 2453 = .ok (.aload_n 0, 1) := by decide +kernel
theorem dL_law_2454 : decode cL_law 2454 = .ok (.iload 4, 2) := by decide +kernel
theorem dL_law_2456 : decode cL_law 2456 = .ok (.iconst 3, 1) := by decide +kernel
theorem dL_law_2457 : decode cL_law 2457 = .ok (.iadd, 1) := by decide +kernel
theorem dL_law_2458 : decode cL_law 2458 = .ok (.iaload, 1) := by decide +kernel
theorem dL_law_2459 : decode cL_law 2459 = .ok (.aload_n 0, 1) := by decide +kernel
theorem dL_law_2460 : decode cL_law 2460 = .ok (.iload 4, 2) := by decide +kernel
theorem dL_law_2462 : decode cL_law 2462 = .ok (.iconst 4, 1) := by decide +kernel
theorem dL_law_2463 : decode cL_law 2463 = .ok (.iadd, 1) := by decide +kernel
theorem dL_law_2464 : decode cL_law 2464 = .ok (.iaload, 1) := by decide +kernel
theorem dL_law_2465 : decode cL_law 2465 = .ok (.invokevirtual 302, 3) := by decide +kernel
theorem dL_law_2468 : decode cL_law 2468 = .ok (.aload_n 2, 1) := by decide +kernel
theorem dL_law_2469 : decode cL_law 2469 = .ok (.aload_n 0, 1) := by decide +kernel
theorem dL_law_2470 : decode cL_law 2470 = .ok (.iload 4, 2) := by decide +kernel
theorem dL_law_2472 : decode cL_law 2472 = .ok (.iconst 1, 1) := by decide +kernel
theorem dL_law_2473 : decode cL_law 2473 = .ok (.iadd, 1) := by decide +kernel
theorem dL_law_2474 : decode cL_law 2474 = .ok (.iaload, 1) := by decide +kernel
theorem dL_law_2475 : decode cL_law 2475 = .ok (.aload_n 0, 1) := by decide +kernel
theorem dL_law_2476 : decode cL_law 2476 = .ok (.iload 4, 2) := by decide +kernel
theorem dL_law_2478 : decode cL_law 2478 = .ok (.iconst 2, 1) := by decide +kernel
theorem dL_law_2479 : decode cL_law 2479 = .ok (.iadd, 1) := by decide +kernel
theorem dL_law_2480 : decode cL_law 2480 = .ok (.iaload, 1) := by decide +kernel
theorem dL_law_2481 : decode cL_law 2481 = .ok (.aload_n 0, 1) := by decide +kernel
theorem dL_law_2482 : decode cL_law 2482 = .ok (.iload 4, 2) := by decide +kernel
theorem dL_law_2484 : decode cL_law 2484 = .ok (.iconst 3, 1) := by decide +kernel
theorem dL_law_2485 : decode cL_law 2485 = .ok (.iadd, 1) := by decide +kernel
theorem dL_law_2486 : decode cL_law 2486 = .ok (.iaload, 1) := by decide +kernel
theorem dL_law_2487 : decode cL_law 2487 = .ok (.aload_n 0, 1) := by decide +kernel
theorem dL_law_2488 : decode cL_law 2488 = .ok (.iload 4, 2) := by decide +kernel
theorem dL_law_2490 : decode cL_law 2490 = .ok (.iconst 4, 1) := by decide +kernel
theorem dL_law_2491 : decode cL_law 2491 = .ok (.iadd, 1) := by decide +kernel
theorem dL_law_2492 : decode cL_law 2492 = .ok (.iaload, 1) := by decide +kernel
theorem dL_law_2493 : decode cL_law 2493 = .ok (.invokevirtual 306, 3) := by decide +kernel
theorem dL_law_2496 : decode cL_law 2496 = .ok (.if_icmp .eq 268, 3) := by decide +kernel
theorem dL_law_2499 : decode cL_law 2499 = .ok (.iconst 0, 1) := by decide +kernel
theorem dL_law_2500 : decode cL_law 2500 = .ok (.ireturn, 1) := by decide +kernel
theorem dL_law_2501 : decode cL_law 2501 = .ok (.aload_n 1, 1) := by decide +kernel
theorem dL_law_2502 : decode cL_law 2502 = .ok (.aload_n 0, 1) := by decide +kernel
theorem dL_law_2503 : decode cL_law 2503 = .ok (.iload 4, 2) := by decide +kernel
theorem dL_law_2505 : decode cL_law 2505 = .ok (.iconst 1, 1) := by decide +kernel
theorem dL_law_2506 : decode cL_law 2506 = .ok (.iadd, 1) := by decide +kernel
theorem dL_law_2507 : decode cL_law 2507 = .ok (.iaload, 1) := by decide +kernel
theorem dL_law_2508 : decode cL_law 2508 = .ok (.aload_n 0, 1) := by decide +kernel
theorem dL_law_2509 : decode cL_law 2509 = .ok (.iload 4, 2) := by decide +kernel
theorem dL_law_2511 : decode cL_law 2511 = .ok (.iconst 2, 1) := by decide +kernel
theorem dL_law_2512 : decode cL_law 2512 = .ok (.iadd, 1) := by decide +kernel
theorem dL_law_2513 : decode cL_law 2513 = .ok (.iaload, 1) := by decide +kernel
theorem dL_law_2514 : decode cL_law 2514 = .ok (.aload_n 0, 1) := by decide +kernel
theorem dL_law_2515 : decode cL_law 2515 = .ok (.iload 4, 2) := by decide +kernel
theorem dL_law_2517 : decode cL_law 2517 = .ok (.iconst 3, 1) := by decide +kernel
theorem dL_law_2518 : decode cL_law 2518 = .ok (.iadd, 1) := by decide +kernel
theorem dL_law_2519 : decode cL_law 2519 = .ok (.iaload, 1) := by decide +kernel
theorem dL_law_2520 : decode cL_law 2520 = .ok (.aload_n 0, 1) := by decide +kernel
theorem dL_law_2521 : decode cL_law 2521 = .ok (.iload 4, 2) := by decide +kernel
theorem dL_law_2523 : decode cL_law 2523 = .ok (.iconst 4, 1) := by decide +kernel
theorem dL_law_2524 : decode cL_law 2524 = .ok (.iadd, 1) := by decide +kernel
theorem dL_law_2525 : decode cL_law 2525 = .ok (.iaload, 1) := by decide +kernel
theorem dL_law_2526 : decode cL_law 2526 = .ok (.aload_n 0, 1) := by decide +kernel
theorem dL_law_2527 : decode cL_law 2527 = .ok (.iload 4, 2) := by decide +kernel
theorem dL_law_2529 : decode cL_law 2529 = .ok (.iconst 5, 1) := by decide +kernel
theorem dL_law_2530 : decode cL_law 2530 = .ok (.iadd, 1) := by decide +kernel
theorem dL_law_2531 : decode cL_law 2531 = .ok (.iaload, 1) := by decide +kernel
theorem dL_law_2532 : decode cL_law 2532 = .ok (.invokevirtual 307, 3) := by decide +kernel
theorem dL_law_2535 : decode cL_law 2535 = .ok (.aload_n 2, 1) := by decide +kernel
theorem dL_law_2536 : decode cL_law 2536 = .ok (.aload_n 0, 1) := by decide +kernel
theorem dL_law_2537 : decode cL_law 2537 = .ok (.iload 4, 2) := by decide +kernel
theorem dL_law_2539 : decode cL_law 2539 = .ok (.iconst 1, 1) := by decide +kernel
theorem dL_law_2540 : decode cL_law 2540 = .ok (.iadd, 1) := by decide +kernel
theorem dL_law_2541 : decode cL_law 2541 = .ok (.iaload, 1) := by decide +kernel
theorem dL_law_2542 : decode cL_law 2542 = .ok (.aload_n 0, 1) := by decide +kernel
theorem dL_law_2543 : decode cL_law 2543 = .ok (.iload 4, 2) := by decide +kernel
theorem dL_law_2545 : decode cL_law 2545 = .ok (.iconst 2, 1) := by decide +kernel
theorem dL_law_2546 : decode cL_law 2546 = .ok (.iadd, 1) := by decide +kernel
theorem dL_law_2547 : decode cL_law 2547 = .ok (.iaload, 1) := by decide +kernel
theorem dL_law_2548 : decode cL_law 2548 = .ok (.aload_n 0, 1) := by decide +kernel
theorem dL_law_2549 : decode cL_law 2549 = .ok (.iload 4, 2) := by decide +kernel
theorem dL_law_2551 : decode cL_law 2551 = .ok (.iconst 3, 1) := by decide +kernel
theorem dL_law_2552 : decode cL_law 2552 = .ok (.iadd, 1) := by decide +kernel
theorem dL_law_2553 : decode cL_law 2553 = .ok (.iaload, 1) := by decide +kernel
theorem dL_law_2554 : decode cL_law 2554 = .ok (.aload_n 0, 1) := by decide +kernel
theorem dL_law_2555 : decode cL_law 2555 = .ok (.iload 4, 2) := by decide +kernel
theorem dL_law_2557 : decode cL_law 2557 = .ok (.iconst 4, 1) := by decide +kernel
theorem dL_law_2558 : decode cL_law 2558 = .ok (.iadd, 1) := by decide +kernel
theorem dL_law_2559 : decode cL_law 2559 = .ok (.iaload, 1) := by decide +kernel
theorem dL_law_2560 : decode cL_law 2560 = .ok (.aload_n 0, 1) := by decide +kernel
theorem dL_law_2561 : decode cL_law 2561 = .ok (.iload 4, 2) := by decide +kernel
theorem dL_law_2563 : decode cL_law 2563 = .ok (.iconst 5, 1) := by decide +kernel
theorem dL_law_2564 : decode cL_law 2564 = .ok (.iadd, 1) := by decide +kernel
theorem dL_law_2565 : decode cL_law 2565 = .ok (.iaload, 1) := by decide +kernel
theorem dL_law_2566 : decode cL_law 2566 = .ok (.invokevirtual 310, 3) := by decide +kernel
theorem dL_law_2569 : decode cL_law 2569 = .ok (.if_icmp .eq 195, 3) := by decide +kernel
theorem dL_law_2572 : decode cL_law 2572 = .ok (.iconst 0, 1) := by decide +kernel
theorem dL_law_2573 : decode cL_law 2573 = .ok (.ireturn, 1) := by decide +kernel
theorem dL_law_2574 : decode cL_law 2574 = .ok (.aload_n 1, 1) := by decide +kernel
theorem dL_law_2575 : decode cL_law 2575 = .ok (.aload_n 0, 1) := by decide +kernel
theorem dL_law_2576 : decode cL_law 2576 = .ok (.iload 4, 2) := by decide +kernel
theorem dL_law_2578 : decode cL_law 2578 = .ok (.iconst 1, 1) := by decide +kernel
theorem dL_law_2579 : decode cL_law 2579 = .ok (.iadd, 1) := by decide +kernel
theorem dL_law_2580 : decode cL_law 2580 = .ok (.iaload, 1) := by decide +kernel
theorem dL_law_2581 : decode cL_law 2581 = .ok (.aload_n 0, 1) := by decide +kernel
theorem dL_law_2582 : decode cL_law 2582 = .ok (.iload 4, 2) := by decide +kernel
theorem dL_law_2584 : decode cL_law 2584 = .ok (.iconst 2, 1) := by decide +kernel
theorem dL_law_2585 : decode cL_law 2585 = .ok (.iadd, 1) := by decide +kernel
theorem dL_law_2586 : decode cL_law 2586 = .ok (.iaload, 1) := by decide +kernel
theorem dL_law_2587 : decode cL_law 2587 = .ok (.ifCond .eq 7, 3) := by decide +kernel
theorem dL_law_2590 : decode cL_law 2590 = .ok (.iconst 1, 1) := by decide +kernel
theorem dL_law_2591 : decode cL_law 2591 = .ok (.goto 4, 3) := by decide +kernel
theorem dL_law_2594 : decode cL_law 2594 = .ok (.iconst 0, 1) := by decide +kernel
theorem dL_law_2595 : decode cL_law 2595 = .ok (.invokevirtual 311, 3) := by decide +kernel
theorem dL_law_2598 : decode cL_law 2598 = .ok (.aload_n 2, 1) := by decide +kernel
theorem dL_law_2599 : decode cL_law 2599 = .ok (.aload_n 0, 1) := by decide +kernel
theorem dL_law_2600 : decode cL_law 2600 = .ok (.iload 4, 2) := by decide +kernel
theorem dL_law_2602 : decode cL_law 2602 = .ok (.iconst 1, 1) := by decide +kernel
theorem dL_law_2603 : decode cL_law 2603 = .ok (.iadd, 1) := by decide +kernel
theorem dL_law_2604 : decode cL_law 2604 = .ok (.iaload, 1) := by decide +kernel
theorem dL_law_2605 : decode cL_law 2605 = .ok (.aload_n 0, 1) := by decide +kernel
theorem dL_law_2606 : decode cL_law 2606 = .ok (.iload 4, 2) := by decide +kernel
theorem dL_law_2608 : decode cL_law 2608 = .ok (.iconst 2, 1) := by decide +kernel
theorem dL_law_2609 : decode cL_law 2609 = .ok (.iadd, 1) := by decide +kernel
theorem dL_law_2610 : decode cL_law 2610 = .ok (.iaload, 1) := by decide +kernel
theorem dL_law_2611 : decode cL_law 2611 = .ok (.ifCond .eq 7, 3) := by decide +kernel
theorem dL_law_2614 : decode cL_law 2614 = .ok (.iconst 1, 1) := by decide +kernel
theorem dL_law_2615 : decode cL_law 2615 = .ok (.goto 4, 3) := by decide +kernel
theorem dL_law_2618 : decode cL_law 2618 = .ok (.iconst 0, 1) := by decide +kernel
theorem dL_law_2619 : decode cL_law 2619 = .ok (.invokevirtual 315, 3) := by decide +kernel
theorem dL_law_2622 : decode cL_law 2622 = .ok (.if_icmp .eq 142, 3) := by decide +kernel
theorem dL_law_2625 : decode cL_law 2625 = .ok (.iconst 0, 1) := by decide +kernel
theorem dL_law_2626 : decode cL_law 2626 = .ok (.ireturn, 1) := by decide +kernel
theorem dL_law_2627 : decode cL_law 2627 = .ok (.aload_n 1, 1) := by decide +kernel
theorem dL_law_2628 : decode cL_law 2628 = .ok (.aload_n 0, 1) := by decide +kernel
theorem dL_law_2629 : decode cL_law 2629 = .ok (.iload 4, 2) := by decide +kernel
theorem dL_law_2631 : decode cL_law 2631 = .ok (.iconst 1, 1) := by decide +kernel
theorem dL_law_2632 : decode cL_law 2632 = .ok (.iadd, 1) := by decide +kernel
theorem dL_law_2633 : decode cL_law 2633 = .ok (.iaload, 1) := by decide +kernel
theorem dL_law_2634 : decode cL_law 2634 = .ok (.aload_n 0, 1) := by decide +kernel
theorem dL_law_2635 : decode cL_law 2635 = .ok (.iload 4, 2) := by decide +kernel
theorem dL_law_2637 : decode cL_law 2637 = .ok (.iconst 2, 1) := by decide +kernel
theorem dL_law_2638 : decode cL_law 2638 = .ok (.iadd, 1) := by decide +kernel
theorem dL_law_2639 : decode cL_law 2639 = .ok (.iaload, 1) := by decide +kernel
theorem dL_law_2640 : decode cL_law 2640 = .ok (.invokevirtual 316, 3) := by decide +kernel
theorem dL_law_2643 : decode cL_law 2643 = .ok (.aload_n 2, 1) := by decide +kernel
theorem dL_law_2644 : decode cL_law 2644 = .ok (.aload_n 0, 1) := by decide +kernel
theorem dL_law_2645 : decode cL_law 2645 = .ok (.iload 4, 2) := by decide +kernel
theorem dL_law_2647 : decode cL_law 2647 = .ok (.iconst 1, 1) := by decide +kernel
theorem dL_law_2648 : decode cL_law 2648 = .ok (.iadd, 1) := by decide +kernel
theorem dL_law_2649 : decode cL_law 2649 = .ok (.iaload, 1) := by decide +kernel
theorem dL_law_2650 : decode cL_law 2650 = .ok (.aload_n 0, 1) := by decide +kernel
theorem dL_law_2651 : decode cL_law 2651 = .ok (.iload 4, 2) := by decide +kernel
theorem dL_law_2653 : decode cL_law 2653 = .ok (.iconst 2, 1) := by decide +kernel
theorem dL_law_2654 : decode cL_law 2654 = .ok (.iadd, 1) := by decide +kernel
theorem dL_law_2655 : decode cL_law 2655 = .ok (.iaload, 1) := by decide +kernel
theorem dL_law_2656 : decode cL_law 2656 = .ok (.invokevirtual 319, 3) := by decide +kernel
theorem dL_law_2659 : decode cL_law 2659 = .ok (.if_icmp .eq 105, 3) := by decide +kernel
theorem dL_law_2662 : decode cL_law 2662 = .ok (.iconst 0, 1) := by decide +kernel
theorem dL_law_2663 : decode cL_law 2663 = .ok (.ireturn, 1) := by decide +kernel
theorem dL_law_2664 : decode cL_law 2664 = .ok (.aload_n 1, 1) := by decide +kernel
theorem dL_law_2665 : decode cL_law 2665 = .ok (.aload_n 0, 1) := by decide +kernel
theorem dL_law_2666 : decode cL_law 2666 = .ok (.iload 4, 2) := by decide +kernel
theorem dL_law_2668 : decode cL_law 2668 = .ok (.iconst 1, 1) := by decide +kernel
theorem dL_law_2669 : decode cL_law 2669 = .ok (.iadd, 1) := by decide +kernel
theorem dL_law_2670 : decode cL_law 2670 = .ok (.iaload, 1) := by decide +kernel
theorem dL_law_2671 : decode cL_law 2671 = .ok (.invokevirtual 320, 3) := by decide +kernel
theorem dL_law_2674 : decode cL_law 2674 = .ok (.aload_n 2, 1) := by decide +kernel
theorem dL_law_2675 : decode cL_law 2675 = .ok (.aload_n 0, 1) := by decide +kernel
theorem dL_law_2676 : decode cL_law 2676 = .ok (.iload 4, 2) := by decide +kernel
theorem dL_law_2678 : decode cL_law 2678 = .ok (.iconst 1, 1) := by decide +kernel
theorem dL_law_2679 : decode cL_law 2679 = .ok (.iadd, 1) := by decide +kernel
theorem dL_law_2680 : decode cL_law 2680 = .ok (.iaload, 1) := by decide +kernel
theorem dL_law_2681 : decode cL_law 2681 = .ok (.invokevirtual 323, 3) := by decide +kernel
theorem dL_law_2684 : decode cL_law 2684 = .ok (.if_icmp .eq 80, 3) := by decide +kernel
theorem dL_law_2687 : decode cL_law 2687 = .ok (.iconst 0, 1) := by decide +kernel
theorem dL_law_2688 : decode cL_law 2688 = .ok (.ireturn, 1) := by decide +kernel
theorem dL_law_2689 : decode cL_law 2689 = .ok (.aload_n 1, 1) := by decide +kernel
theorem dL_law_2690 : decode cL_law 2690 = .ok (.aload_n 0, 1) := by decide +kernel
theorem dL_law_2691 : decode cL_law 2691 = .ok (.iload 4, 2) := by decide +kernel
theorem dL_law_2693 : decode cL_law 2693 = .ok (.iconst 1, 1) := by decide +kernel
theorem dL_law_2694 : decode cL_law 2694 = .ok (.iadd, 1) := by decide +kernel
theorem dL_law_2695 : decode cL_law 2695 = .ok (.iaload, 1) := by decide +kernel
theorem dL_law_2696 : decode cL_law 2696 = .ok (.invokevirtual 324, 3) := by decide +kernel
theorem dL_law_2699 : decode cL_law 2699 = .ok (.aload_n 2, 1) := by decide +kernel
theorem dL_law_2700 : decode cL_law 2700 = .ok (.aload_n 0, 1) := by decide +kernel
theorem dL_law_2701 : decode cL_law 2701 = .ok (.iload 4, 2) := by decide +kernel
theorem dL_law_2703 : decode cL_law 2703 = .ok (.iconst 1, 1) := by decide +kernel
theorem dL_law_2704 : decode cL_law 2704 = .ok (.iadd, 1) := by decide +kernel
theorem dL_law_2705 : decode cL_law 2705 = .ok (.iaload, 1) := by decide +kernel
theorem dL_law_2706 : decode cL_law 2706 = .ok (.invokevirtual 327, 3) := by decide +kernel
theorem dL_law_2709 : decode cL_law 2709 = .ok (.if_icmp .eq 55, 3) := by decide +kernel
theorem dL_law_2712 : decode cL_law 2712 = .ok (.iconst 0, 1) := by decide +kernel
theorem dL_law_2713 : decode cL_law 2713 = .ok (.ireturn, 1) := by decide +kernel
theorem dL_law_2714 : decode cL_law 2714 = .ok (.aload_n 1, 1) := by decide +kernel
theorem dL_law_2715 : decode cL_law 2715 = .ok (.aload_n 0, 1) := by decide +kernel
theorem dL_law_2716 : decode cL_law 2716 = .ok (.iload 4, 2) := by decide +kernel
theorem dL_law_2718 : decode cL_law 2718 = .ok (.iconst 1, 1) := by decide +kernel
theorem dL_law_2719 : decode cL_law 2719 = .ok (.iadd, 1) := by decide +kernel
theorem dL_law_2720 : decode cL_law 2720 = .ok (.iaload, 1) := by decide +kernel
theorem dL_law_2721 : decode cL_law 2721 = .ok (.aload_n 0, 1) := by decide +kernel
theorem dL_law_2722 : decode cL_law 2722 = .ok (.iload 4, 2) := by decide +kernel
theorem dL_law_2724 : decode cL_law 2724 = .ok (.iconst 2, 1) := by decide +kernel
theorem dL_law_2725 : decode cL_law 2725 = .ok (.iadd, 1) := by decide +kernel
theorem dL_law_2726 : decode cL_law 2726 = .ok (.iaload, 1) := by decide +kernel
theorem dL_law_2727 : decode cL_law 2727 = .ok (.invokevirtual 328, 3) := by decide +kernel
theorem dL_law_2730 : decode cL_law 2730 = .ok (.aload_n 2, 1) := by decide +kernel
theorem dL_law_2731 : decode cL_law 2731 = .ok (.aload_n 0, 1) := by decide +kernel
theorem dL_law_2732 : decode cL_law 2732 = .ok (.iload 4, 2) := by decide +kernel
theorem dL_law_2734 : decode cL_law 2734 = .ok (.iconst 1, 1) := by decide +kernel
theorem dL_law_2735 : decode cL_law 2735 = .ok (.iadd, 1) := by decide +kernel
theorem dL_law_2736 : decode cL_law 2736 = .ok (.iaload, 1) := by decide +kernel
theorem dL_law_2737 : decode cL_law 2737 = .ok (.aload_n 0, 1) := by decide +kernel
theorem dL_law_2738 : decode cL_law 2738 = .ok (.iload 4, 2) := by decide +kernel
theorem dL_law_2740 : decode cL_law 2740 = .ok (.iconst 2, 1) := by decide +kernel
theorem dL_law_2741 : decode cL_law 2741 = .ok (.iadd, 1) := by decide +kernel
theorem dL_law_2742 : decode cL_law 2742 = .ok (.iaload, 1) := by decide +kernel
theorem dL_law_2743 : decode cL_law 2743 = .ok (.invokevirtual 331, 3) := by decide +kernel
theorem dL_law_2746 : decode cL_law 2746 = .ok (.if_icmp .eq 18, 3) := by decide +kernel
theorem dL_law_2749 : decode cL_law 2749 = .ok (.iconst 0, 1) := by decide +kernel
theorem dL_law_2750 : decode cL_law 2750 = .ok (.ireturn, 1) := by decide +kernel
theorem dL_law_2751 : decode cL_law 2751 = .ok (.aload_n 1, 1) := by decide +kernel
theorem dL_law_2752 : decode cL_law 2752 = .ok (.invokevirtual 332, 3) := by decide +kernel
theorem dL_law_2755 : decode cL_law 2755 = .ok (.aload_n 2, 1) := by decide +kernel
theorem dL_law_2756 : decode cL_law 2756 = .ok (.invokevirtual 335, 3) := by decide +kernel
theorem dL_law_2759 : decode cL_law 2759 = .ok (.if_icmp .eq 5, 3) := by decide +kernel
theorem dL_law_2762 : decode cL_law 2762 = .ok (.iconst 0, 1) := by decide +kernel
theorem dL_law_2763 : decode cL_law 2763 = .ok (.ireturn, 1) := by decide +kernel
theorem dL_law_2764 : decode cL_law 2764 = .ok (.iinc 4 6, 3) := by decide +kernel
theorem dL_law_2767 : decode cL_law 2767 = .ok (.goto (-2744), 3) := by decide +kernel
theorem dL_law_2770 : decode cL_law 2770 = .ok (.iconst 1, 1) := by decide +kernel
theorem dL_law_2771 : decode cL_law 2771 = .ok (.ireturn, 1) := by decide +kernel
theorem hyw_L_allowed : gYW yL_allowed cL_allowed 4 (some .int) [(0, 9, 12, 13)] 3 := ⟨kw_1193, kw_105, kw_1192, gN_L, by decide +kernel⟩
theorem hyw_L_badWithout : gYW yL_badWithout cL_badWithout 4 (some .int) [(0, 9, 12, 13)] 3 := ⟨kw_1200, kw_105, kw_1199, gN_L, by decide +kernel⟩
theorem hyw_L_benchGap : gYW yL_benchGap cL_benchGap 5 (some .int) [(0, 10, 13, 13)] 4 := ⟨kw_1207, kw_105, kw_1206, gN_L, by decide +kernel⟩
theorem hyw_L_collimation : gYW yL_collimation cL_collimation 4 (some .int) [(0, 9, 12, 13)] 3 := ⟨kw_929, kw_105, kw_928, gN_L, by decide +kernel⟩
theorem hyw_L_collimationEffect : gYW yL_collimationEffect cL_collimationEffect 4 (some .int) [(0, 9, 12, 13)] 3 := ⟨kw_1050, kw_105, kw_1049, gN_L, by decide +kernel⟩
theorem hyw_L_discrepancy : gYW yL_discrepancy cL_discrepancy 4 (some .int) [(0, 9, 12, 13)] 3 := ⟨kw_1098, kw_105, kw_1097, gN_L, by decide +kernel⟩
theorem hyw_L_distance : gYW yL_distance cL_distance 5 (some .int) [(0, 10, 13, 13)] 4 := ⟨kw_1121, kw_105, kw_1120, gN_L, by decide +kernel⟩
theorem hyw_L_faultsOf : gYW yL_faultsOf cL_faultsOf 4 (some .int) [(0, 9, 12, 13)] 3 := ⟨kw_1068, kw_105, kw_1067, gN_L, by decide +kernel⟩
theorem hyw_L_heightOf : gYW yL_heightOf cL_heightOf 4 (some .int) [(0, 8, 11, 13)] 3 := ⟨kw_1221, kw_105, kw_1220, gN_L, by decide +kernel⟩
theorem hyw_L_heldAt : gYW yL_heldAt cL_heldAt 4 (some .int) [(0, 9, 12, 13)] 3 := ⟨kw_1013, kw_105, kw_1012, gN_L, by decide +kernel⟩
theorem hyw_L_imbalance : gYW yL_imbalance cL_imbalance 4 (some .int) [(0, 9, 12, 13)] 3 := ⟨kw_1061, kw_105, kw_1060, gN_L, by decide +kernel⟩
theorem hyw_L_lineProperty : gYW yL_lineProperty cL_lineProperty 5 (some .int) [(0, 10, 13, 13)] 4 := ⟨kw_1020, kw_105, kw_1019, gN_L, by decide +kernel⟩
theorem hyw_L_linesAt : gYW yL_linesAt cL_linesAt 4 (some .int) [(0, 9, 12, 13)] 3 := ⟨kw_1106, kw_105, kw_1105, gN_L, by decide +kernel⟩
theorem hyw_L_loopLength : gYW yL_loopLength cL_loopLength 4 (some .int) [(0, 9, 12, 13)] 3 := ⟨kw_1179, kw_105, kw_1178, gN_L, by decide +kernel⟩
theorem hyw_L_loopLine : gYW yL_loopLine cL_loopLine 5 (some .int) [(0, 10, 13, 13)] 4 := ⟨kw_1167, kw_105, kw_1166, gN_L, by decide +kernel⟩
theorem hyw_L_misclosure : gYW yL_misclosure cL_misclosure 4 (some .int) [(0, 9, 12, 13)] 3 := ⟨kw_1186, kw_105, kw_1185, gN_L, by decide +kernel⟩
theorem hyw_L_pairOf : gYW yL_pairOf cL_pairOf 4 (some .int) [(0, 9, 12, 13)] 3 := ⟨kw_1087, kw_105, kw_1086, gN_L, by decide +kernel⟩
theorem hyw_L_provisional : gYW yL_provisional cL_provisional 4 (some .int) [(0, 8, 11, 13)] 3 := ⟨kw_1214, kw_105, kw_1213, gN_L, by decide +kernel⟩
theorem hyw_L_reading : gYW yL_reading cL_reading 6 (some .int) [(0, 12, 15, 13)] 5 := ⟨kw_1027, kw_105, kw_1026, gN_L, by decide +kernel⟩
theorem hyw_L_residual : gYW yL_residual cL_residual 4 (some .int) [(0, 8, 11, 13)] 3 := ⟨kw_1228, kw_105, kw_1227, gN_L, by decide +kernel⟩
theorem hyw_L_riseBetween : gYW yL_riseBetween cL_riseBetween 5 (some .int) [(0, 10, 13, 13)] 4 := ⟨kw_1142, kw_105, kw_1141, gN_L, by decide +kernel⟩
theorem hyw_L_riseOf : gYW yL_riseOf cL_riseOf 4 (some .int) [(0, 9, 12, 13)] 3 := ⟨kw_1042, kw_105, kw_1041, gN_L, by decide +kernel⟩
theorem hyw_L_rootOf : gYW yL_rootOf cL_rootOf 4 (some .int) [(0, 9, 12, 13)] 3 := ⟨kw_1114, kw_105, kw_1113, gN_L, by decide +kernel⟩
theorem hyw_L_stepOf : gYW yL_stepOf cL_stepOf 5 (some .int) [(0, 10, 13, 13)] 4 := ⟨kw_1034, kw_105, kw_1033, gN_L, by decide +kernel⟩
theorem hyw_L_testNumber : gYW yL_testNumber cL_testNumber 5 (some .int) [(0, 10, 13, 13)] 4 := ⟨kw_1005, kw_105, kw_1004, gN_L, by decide +kernel⟩
theorem hyw_L_turningHeight : gYW yL_turningHeight cL_turningHeight 5 (some .int) [(0, 9, 12, 13)] 4 := ⟨kw_1080, kw_105, kw_1079, gN_L, by decide +kernel⟩
theorem hyw_L_wayBetween : gYW yL_wayBetween cL_wayBetween 5 (some .int) [(0, 10, 13, 13)] 4 := ⟨kw_1160, kw_105, kw_1159, gN_L, by decide +kernel⟩
section LAWC
variable {p : Program} {l : Launch} {e : Env} {s : State} {m : MethodId} {args : Array Value} {below : List Frame} {meth : Method} {c : Code} {H : Heap} {locs : List Loc} {cells slots : Nat} {Q : State → Prop} {D : va_G} {cy : Nat → ClassId} {ad : Nat → Nat} {base b L : Nat} {xs : Nat → Int32}
def f_case_0 (s1 : Int32) (s2 : Int32) (s3 : Int32) (s4 : Int32) (s5 : Int32) (μ : gM) : Option gM :=
  Option.bind (f_X7_feed s1 s2 s3 s4 s5 μ) (fun q6 => Option.bind (f_X8_feed s1 s2 s3 s4 s5 q6.2) (fun q12 => if (q6.1 = q12.1) then some q12.2 else none))
set_option maxHeartbeats 4000000 in
set_option maxRecDepth 100000 in
theorem w_case_0 {s1 : Int32} {s2 : Int32} {s3 : Int32} {s4 : Int32} {s5 : Int32} {x4 : Int32} {μ μ2 : gM} (h : f_case_0 s1 s2 s3 s4 s5 μ = some μ2) (hx : p.tables.exec = Jvm.exec) (hb : c.code = cL_law) (hml : c.maxLocals = 8) (hown : s.vm.findClass RL = some m.cls) (hX : va_X b L xs s s.heap) (hbl : b < s.heap.size) (hbA : ¬ gA base b) (h1 : scrAt L xs x4 1 s1) (h2 : scrAt L xs x4 2 s2) (h3 : scrAt L xs x4 3 s3) (h4 : scrAt L xs x4 4 s4) (h5 : scrAt L xs x4 5 s5) (E : gEnv l D cy ad base s) (hM : gW gFull D cy ad base μ H) (hS : va_S (gA base) s.heap H locs) (hc : cells + 2 ≤ room_1.cells) (hs : slots + 12 ≤ room_1.slots) {ls : Array Slot} (hl : lv_has ls 8 [(0, .ref b), (1, .ref (ad 0)), (2, .ref (ad 60)), (3, .ref (ad 77)), (4, .int x4)]) (kc : ∀ {ad : Nat → Nat} {H : Heap} {locs : List Loc} {ls : Array Slot}, gEnv l D cy ad base s → gW gFull D cy ad base μ2 H → va_S (gA base) s.heap H locs → lv_has ls 8 [(0, .ref b), (1, .ref (ad 0)), (2, .ref (ad 60)), (3, .ref (ad 77)), (4, .int x4)] → W p l e room_1 s m args below meth c H locs (cells + 2) (slots + 12) Q (F0 m 2764 ls [])) : W p l e room_1 s m args below meth c H locs cells slots Q (F0 m 304 ls []) := by
  unfold f_case_0 at h
  refine lv_aload_n hx hb dL_law_304 rfl (lv_at hl 1 rfl) ?_
  refine lv_aload_n hx hb dL_law_305 rfl (lv_at hl 0 rfl) ?_
  refine lv_iload hx hb dL_law_306 (lv_at hl 4 rfl) ?_
  refine lv_iconst (v := (1 : Int32)) hx hb dL_law_308 (by decide) ?_
  refine lv_iadd hx hb dL_law_309 ?_
  refine g_scr hx hb hX hbl hbA hS h1 dL_law_310 ?_
  refine lv_aload_n hx hb dL_law_311 rfl (lv_at hl 0 rfl) ?_
  refine lv_iload hx hb dL_law_312 (lv_at hl 4 rfl) ?_
  refine lv_iconst (v := (2 : Int32)) hx hb dL_law_314 (by decide) ?_
  refine lv_iadd hx hb dL_law_315 ?_
  refine g_scr hx hb hX hbl hbA hS h2 dL_law_316 ?_
  refine lv_aload_n hx hb dL_law_317 rfl (lv_at hl 0 rfl) ?_
  refine lv_iload hx hb dL_law_318 (lv_at hl 4 rfl) ?_
  refine lv_iconst (v := (3 : Int32)) hx hb dL_law_320 (by decide) ?_
  refine lv_iadd hx hb dL_law_321 ?_
  refine g_scr hx hb hX hbl hbA hS h3 dL_law_322 ?_
  refine lv_aload_n hx hb dL_law_323 rfl (lv_at hl 0 rfl) ?_
  refine lv_iload hx hb dL_law_324 (lv_at hl 4 rfl) ?_
  refine lv_iconst (v := (4 : Int32)) hx hb dL_law_326 (by decide) ?_
  refine lv_iadd hx hb dL_law_327 ?_
  refine g_scr hx hb hX hbl hbA hS h4 dL_law_328 ?_
  refine lv_aload_n hx hb dL_law_329 rfl (lv_at hl 0 rfl) ?_
  refine lv_iload hx hb dL_law_330 (lv_at hl 4 rfl) ?_
  refine lv_iconst (v := (5 : Int32)) hx hb dL_law_332 (by decide) ?_
  refine lv_iadd hx hb dL_law_333 ?_
  refine g_scr hx hb hX hbl hbA hS h5 dL_law_334 ?_
  obtain ⟨q6, hq6, h⟩ := gbind_e h
  refine g_callV (As := [.int s1, .int s2, .int s3, .int s4, .int s5]) (rest := []) hx hb (hml.trans hl.1.symm) hown E hM hS hy_X7_feed kw_483 (c_X7_feed hq6) hk_0 dd_0 rfl rfl rfl (Nat.le_of_ble_eq_true rfl) ⟨Nat.le_of_ble_eq_true rfl, Nat.le_of_ble_eq_true rfl⟩ ⟨by omega, by omega⟩ dL_law_335 (fun H locs hM hS => ?_)
  refine lv_aload_n hx hb dL_law_338 rfl (lv_at hl 2 rfl) ?_
  refine lv_aload_n hx hb dL_law_339 rfl (lv_at hl 0 rfl) ?_
  refine lv_iload hx hb dL_law_340 (lv_at hl 4 rfl) ?_
  refine lv_iconst (v := (1 : Int32)) hx hb dL_law_342 (by decide) ?_
  refine lv_iadd hx hb dL_law_343 ?_
  refine g_scr hx hb hX hbl hbA hS h1 dL_law_344 ?_
  refine lv_aload_n hx hb dL_law_345 rfl (lv_at hl 0 rfl) ?_
  refine lv_iload hx hb dL_law_346 (lv_at hl 4 rfl) ?_
  refine lv_iconst (v := (2 : Int32)) hx hb dL_law_348 (by decide) ?_
  refine lv_iadd hx hb dL_law_349 ?_
  refine g_scr hx hb hX hbl hbA hS h2 dL_law_350 ?_
  refine lv_aload_n hx hb dL_law_351 rfl (lv_at hl 0 rfl) ?_
  refine lv_iload hx hb dL_law_352 (lv_at hl 4 rfl) ?_
  refine lv_iconst (v := (3 : Int32)) hx hb dL_law_354 (by decide) ?_
  refine lv_iadd hx hb dL_law_355 ?_
  refine g_scr hx hb hX hbl hbA hS h3 dL_law_356 ?_
  refine lv_aload_n hx hb dL_law_357 rfl (lv_at hl 0 rfl) ?_
  refine lv_iload hx hb dL_law_358 (lv_at hl 4 rfl) ?_
  refine lv_iconst (v := (4 : Int32)) hx hb dL_law_360 (by decide) ?_
  refine lv_iadd hx hb dL_law_361 ?_
  refine g_scr hx hb hX hbl hbA hS h4 dL_law_362 ?_
  refine lv_aload_n hx hb dL_law_363 rfl (lv_at hl 0 rfl) ?_
  refine lv_iload hx hb dL_law_364 (lv_at hl 4 rfl) ?_
  refine lv_iconst (v := (5 : Int32)) hx hb dL_law_366 (by decide) ?_
  refine lv_iadd hx hb dL_law_367 ?_
  refine g_scr hx hb hX hbl hbA hS h5 dL_law_368 ?_
  obtain ⟨q12, hq12, h⟩ := gbind_e h
  refine g_callV (As := [.int s1, .int s2, .int s3, .int s4, .int s5]) (rest := [.int q6.1]) hx hb (hml.trans hl.1.symm) hown E hM hS hy_X8_feed kw_1363 (c_X8_feed hq12) hk_60 dd_60 rfl rfl rfl (Nat.le_of_ble_eq_true rfl) ⟨Nat.le_of_ble_eq_true rfl, Nat.le_of_ble_eq_true rfl⟩ ⟨by omega, by omega⟩ dL_law_369 (fun H locs hM hS => ?_)
  refine lv_icmp_eq (tgt := 2764) hx hb dL_law_372 (by decide) (fun c13 => ?_) (fun c13 => ?_)
  · replace h := gif_t c13 h
    refine W.widen (k := cells + 2) (n := slots + 12) (by omega) (by omega) ?_
    exact kc E (show gW gFull D cy _ base _ _ from (Option.some.inj h) ▸ hM) hS hl
  · replace h := gif_f c13 h
    refine lv_iconst (v := (0 : Int32)) hx hb dL_law_375 (by decide) ?_
    cases h
def f_case_1 (s1 : Int32) (μ : gM) : Option gM :=
  Option.bind (f_X7_load s1 μ) (fun q2 => Option.bind (f_X8_load s1 q2.2) (fun q4 => if (q2.1 = q4.1) then some q4.2 else none))
set_option maxHeartbeats 4000000 in
set_option maxRecDepth 100000 in
theorem w_case_1 {s1 : Int32} {x4 : Int32} {μ μ2 : gM} (h : f_case_1 s1 μ = some μ2) (hx : p.tables.exec = Jvm.exec) (hb : c.code = cL_law) (hml : c.maxLocals = 8) (hown : s.vm.findClass RL = some m.cls) (hX : va_X b L xs s s.heap) (hbl : b < s.heap.size) (hbA : ¬ gA base b) (h1 : scrAt L xs x4 1 s1) (E : gEnv l D cy ad base s) (hM : gW gFull D cy ad base μ H) (hS : va_S (gA base) s.heap H locs) (hc : cells + 2 ≤ room_1.cells) (hs : slots + 12 ≤ room_1.slots) {ls : Array Slot} (hl : lv_has ls 8 [(0, .ref b), (1, .ref (ad 0)), (2, .ref (ad 60)), (3, .ref (ad 77)), (4, .int x4)]) (kc : ∀ {ad : Nat → Nat} {H : Heap} {locs : List Loc} {ls : Array Slot}, gEnv l D cy ad base s → gW gFull D cy ad base μ2 H → va_S (gA base) s.heap H locs → lv_has ls 8 [(0, .ref b), (1, .ref (ad 0)), (2, .ref (ad 60)), (3, .ref (ad 77)), (4, .int x4)] → W p l e room_1 s m args below meth c H locs (cells + 2) (slots + 12) Q (F0 m 2764 ls [])) : W p l e room_1 s m args below meth c H locs cells slots Q (F0 m 377 ls []) := by
  unfold f_case_1 at h
  refine lv_aload_n hx hb dL_law_377 rfl (lv_at hl 1 rfl) ?_
  refine lv_aload_n hx hb dL_law_378 rfl (lv_at hl 0 rfl) ?_
  refine lv_iload hx hb dL_law_379 (lv_at hl 4 rfl) ?_
  refine lv_iconst (v := (1 : Int32)) hx hb dL_law_381 (by decide) ?_
  refine lv_iadd hx hb dL_law_382 ?_
  refine g_scr hx hb hX hbl hbA hS h1 dL_law_383 ?_
  obtain ⟨q2, hq2, h⟩ := gbind_e h
  refine g_callVL (As := [.int s1]) (rest := []) hx hb (hml.trans hl.1.symm) hown E hM hS hy_X7_load kw_491 (c_X7_load hq2) hk_0 dd_0 rfl rfl rfl (Nat.le_of_ble_eq_true rfl) ⟨Nat.le_of_ble_eq_true rfl, Nat.le_of_ble_eq_true rfl⟩ ⟨by omega, by omega⟩ dL_law_384 (fun ad2 H locs had hM hS => ?_)
  replace E := E.sw had
  have hl : lv_has ls 8 [(0, .ref b), (1, .ref (ad2 0)), (2, .ref (ad2 60)), (3, .ref (ad2 77)), (4, .int x4)] := by rw [had 0 (by omega), had 60 (by omega), had 77 (by omega)]; exact hl
  refine lv_aload_n hx hb dL_law_387 rfl (lv_at hl 2 rfl) ?_
  refine lv_aload_n hx hb dL_law_388 rfl (lv_at hl 0 rfl) ?_
  refine lv_iload hx hb dL_law_389 (lv_at hl 4 rfl) ?_
  refine lv_iconst (v := (1 : Int32)) hx hb dL_law_391 (by decide) ?_
  refine lv_iadd hx hb dL_law_392 ?_
  refine g_scr hx hb hX hbl hbA hS h1 dL_law_393 ?_
  obtain ⟨q4, hq4, h⟩ := gbind_e h
  refine g_callV (As := [.int s1]) (rest := [.int q2.1]) hx hb (hml.trans hl.1.symm) hown E hM hS hy_X8_load kw_1375 (c_X8_load hq4) hk_60 dd_60 rfl rfl rfl (Nat.le_of_ble_eq_true rfl) ⟨Nat.le_of_ble_eq_true rfl, Nat.le_of_ble_eq_true rfl⟩ ⟨by omega, by omega⟩ dL_law_394 (fun H locs hM hS => ?_)
  refine lv_icmp_eq (tgt := 2764) hx hb dL_law_397 (by decide) (fun c5 => ?_) (fun c5 => ?_)
  · replace h := gif_t c5 h
    refine W.widen (k := cells + 2) (n := slots + 12) (by omega) (by omega) ?_
    exact kc E (show gW gFull D cy _ base _ _ from (Option.some.inj h) ▸ hM) hS hl
  · replace h := gif_f c5 h
    refine lv_iconst (v := (0 : Int32)) hx hb dL_law_400 (by decide) ?_
    cases h
def f_case_2 (μ : gM) : Option gM :=
  Option.bind (f_X7_errorPosition  μ) (fun q1 => Option.bind (f_X8_errorPosition  μ) (fun q2 => if (q1 = q2.1) then some q2.2 else none))
set_option maxHeartbeats 4000000 in
set_option maxRecDepth 100000 in
theorem w_case_2 {x4 : Int32} {μ μ2 : gM} (h : f_case_2  μ = some μ2) (hx : p.tables.exec = Jvm.exec) (hb : c.code = cL_law) (hml : c.maxLocals = 8) (hown : s.vm.findClass RL = some m.cls) (hX : va_X b L xs s s.heap) (hbl : b < s.heap.size) (hbA : ¬ gA base b) (E : gEnv l D cy ad base s) (hM : gW gFull D cy ad base μ H) (hS : va_S (gA base) s.heap H locs) (hc : cells + 2 ≤ room_1.cells) (hs : slots + 12 ≤ room_1.slots) {ls : Array Slot} (hl : lv_has ls 8 [(0, .ref b), (1, .ref (ad 0)), (2, .ref (ad 60)), (3, .ref (ad 77)), (4, .int x4)]) (kc : ∀ {ad : Nat → Nat} {H : Heap} {locs : List Loc} {ls : Array Slot}, gEnv l D cy ad base s → gW gFull D cy ad base μ2 H → va_S (gA base) s.heap H locs → lv_has ls 8 [(0, .ref b), (1, .ref (ad 0)), (2, .ref (ad 60)), (3, .ref (ad 77)), (4, .int x4)] → W p l e room_1 s m args below meth c H locs (cells + 2) (slots + 12) Q (F0 m 2764 ls [])) : W p l e room_1 s m args below meth c H locs cells slots Q (F0 m 402 ls []) := by
  unfold f_case_2 at h
  refine lv_aload_n hx hb dL_law_402 rfl (lv_at hl 1 rfl) ?_
  obtain ⟨q1, hq1, h⟩ := gbind_e h
  refine g_callV (As := []) (rest := []) hx hb (hml.trans hl.1.symm) hown E hM hS hy_X7_errorPosition kw_607 (c_X7_errorPosition hq1) hk_0 dd_0 rfl rfl rfl (Nat.le_of_ble_eq_true rfl) ⟨Nat.le_of_ble_eq_true rfl, Nat.le_of_ble_eq_true rfl⟩ ⟨by omega, by omega⟩ dL_law_403 (fun H locs hM hS => ?_)
  refine lv_aload_n hx hb dL_law_406 rfl (lv_at hl 2 rfl) ?_
  obtain ⟨q2, hq2, h⟩ := gbind_e h
  refine g_callV (As := []) (rest := [.int q1]) hx hb (hml.trans hl.1.symm) hown E hM hS hy_X8_errorPosition kw_1371 (c_X8_errorPosition hq2) hk_60 dd_60 rfl rfl rfl (Nat.le_of_ble_eq_true rfl) ⟨Nat.le_of_ble_eq_true rfl, Nat.le_of_ble_eq_true rfl⟩ ⟨by omega, by omega⟩ dL_law_407 (fun H locs hM hS => ?_)
  refine lv_icmp_eq (tgt := 2764) hx hb dL_law_410 (by decide) (fun c3 => ?_) (fun c3 => ?_)
  · replace h := gif_t c3 h
    refine W.widen (k := cells + 2) (n := slots + 12) (by omega) (by omega) ?_
    exact kc E (show gW gFull D cy _ base _ _ from (Option.some.inj h) ▸ hM) hS hl
  · replace h := gif_f c3 h
    refine lv_iconst (v := (0 : Int32)) hx hb dL_law_413 (by decide) ?_
    cases h
def f_case_3 (μ : gM) : Option gM :=
  Option.bind (f_X7_levelCount  μ) (fun q1 => Option.bind (f_X8_levelCount  μ) (fun q2 => if (q1 = q2.1) then some q2.2 else none))
set_option maxHeartbeats 4000000 in
set_option maxRecDepth 100000 in
theorem w_case_3 {x4 : Int32} {μ μ2 : gM} (h : f_case_3  μ = some μ2) (hx : p.tables.exec = Jvm.exec) (hb : c.code = cL_law) (hml : c.maxLocals = 8) (hown : s.vm.findClass RL = some m.cls) (hX : va_X b L xs s s.heap) (hbl : b < s.heap.size) (hbA : ¬ gA base b) (E : gEnv l D cy ad base s) (hM : gW gFull D cy ad base μ H) (hS : va_S (gA base) s.heap H locs) (hc : cells + 2 ≤ room_1.cells) (hs : slots + 12 ≤ room_1.slots) {ls : Array Slot} (hl : lv_has ls 8 [(0, .ref b), (1, .ref (ad 0)), (2, .ref (ad 60)), (3, .ref (ad 77)), (4, .int x4)]) (kc : ∀ {ad : Nat → Nat} {H : Heap} {locs : List Loc} {ls : Array Slot}, gEnv l D cy ad base s → gW gFull D cy ad base μ2 H → va_S (gA base) s.heap H locs → lv_has ls 8 [(0, .ref b), (1, .ref (ad 0)), (2, .ref (ad 60)), (3, .ref (ad 77)), (4, .int x4)] → W p l e room_1 s m args below meth c H locs (cells + 2) (slots + 12) Q (F0 m 2764 ls [])) : W p l e room_1 s m args below meth c H locs cells slots Q (F0 m 415 ls []) := by
  unfold f_case_3 at h
  refine lv_aload_n hx hb dL_law_415 rfl (lv_at hl 1 rfl) ?_
  obtain ⟨q1, hq1, h⟩ := gbind_e h
  refine g_callV (As := []) (rest := []) hx hb (hml.trans hl.1.symm) hown E hM hS hy_X7_levelCount kw_611 (c_X7_levelCount hq1) hk_0 dd_0 rfl rfl rfl (Nat.le_of_ble_eq_true rfl) ⟨Nat.le_of_ble_eq_true rfl, Nat.le_of_ble_eq_true rfl⟩ ⟨by omega, by omega⟩ dL_law_416 (fun H locs hM hS => ?_)
  refine lv_aload_n hx hb dL_law_419 rfl (lv_at hl 2 rfl) ?_
  obtain ⟨q2, hq2, h⟩ := gbind_e h
  refine g_callV (As := []) (rest := [.int q1]) hx hb (hml.trans hl.1.symm) hown E hM hS hy_X8_levelCount kw_1494 (c_X8_levelCount hq2) hk_60 dd_60 rfl rfl rfl (Nat.le_of_ble_eq_true rfl) ⟨Nat.le_of_ble_eq_true rfl, Nat.le_of_ble_eq_true rfl⟩ ⟨by omega, by omega⟩ dL_law_420 (fun H locs hM hS => ?_)
  refine lv_icmp_eq (tgt := 2764) hx hb dL_law_423 (by decide) (fun c3 => ?_) (fun c3 => ?_)
  · replace h := gif_t c3 h
    refine W.widen (k := cells + 2) (n := slots + 12) (by omega) (by omega) ?_
    exact kc E (show gW gFull D cy _ base _ _ from (Option.some.inj h) ▸ hM) hS hl
  · replace h := gif_f c3 h
    refine lv_iconst (v := (0 : Int32)) hx hb dL_law_426 (by decide) ?_
    cases h
def f_case_4 (μ : gM) : Option gM :=
  Option.bind (f_X7_pointCount  μ) (fun q1 => Option.bind (f_X8_pointCount  μ) (fun q2 => if (q1 = q2.1) then some q2.2 else none))
set_option maxHeartbeats 4000000 in
set_option maxRecDepth 100000 in
theorem w_case_4 {x4 : Int32} {μ μ2 : gM} (h : f_case_4  μ = some μ2) (hx : p.tables.exec = Jvm.exec) (hb : c.code = cL_law) (hml : c.maxLocals = 8) (hown : s.vm.findClass RL = some m.cls) (hX : va_X b L xs s s.heap) (hbl : b < s.heap.size) (hbA : ¬ gA base b) (E : gEnv l D cy ad base s) (hM : gW gFull D cy ad base μ H) (hS : va_S (gA base) s.heap H locs) (hc : cells + 2 ≤ room_1.cells) (hs : slots + 12 ≤ room_1.slots) {ls : Array Slot} (hl : lv_has ls 8 [(0, .ref b), (1, .ref (ad 0)), (2, .ref (ad 60)), (3, .ref (ad 77)), (4, .int x4)]) (kc : ∀ {ad : Nat → Nat} {H : Heap} {locs : List Loc} {ls : Array Slot}, gEnv l D cy ad base s → gW gFull D cy ad base μ2 H → va_S (gA base) s.heap H locs → lv_has ls 8 [(0, .ref b), (1, .ref (ad 0)), (2, .ref (ad 60)), (3, .ref (ad 77)), (4, .int x4)] → W p l e room_1 s m args below meth c H locs (cells + 2) (slots + 12) Q (F0 m 2764 ls [])) : W p l e room_1 s m args below meth c H locs cells slots Q (F0 m 428 ls []) := by
  unfold f_case_4 at h
  refine lv_aload_n hx hb dL_law_428 rfl (lv_at hl 1 rfl) ?_
  obtain ⟨q1, hq1, h⟩ := gbind_e h
  refine g_callV (As := []) (rest := []) hx hb (hml.trans hl.1.symm) hown E hM hS hy_X7_pointCount kw_615 (c_X7_pointCount hq1) hk_0 dd_0 rfl rfl rfl (Nat.le_of_ble_eq_true rfl) ⟨Nat.le_of_ble_eq_true rfl, Nat.le_of_ble_eq_true rfl⟩ ⟨by omega, by omega⟩ dL_law_429 (fun H locs hM hS => ?_)
  refine lv_aload_n hx hb dL_law_432 rfl (lv_at hl 2 rfl) ?_
  obtain ⟨q2, hq2, h⟩ := gbind_e h
  refine g_callV (As := []) (rest := [.int q1]) hx hb (hml.trans hl.1.symm) hown E hM hS hy_X8_pointCount kw_1502 (c_X8_pointCount hq2) hk_60 dd_60 rfl rfl rfl (Nat.le_of_ble_eq_true rfl) ⟨Nat.le_of_ble_eq_true rfl, Nat.le_of_ble_eq_true rfl⟩ ⟨by omega, by omega⟩ dL_law_433 (fun H locs hM hS => ?_)
  refine lv_icmp_eq (tgt := 2764) hx hb dL_law_436 (by decide) (fun c3 => ?_) (fun c3 => ?_)
  · replace h := gif_t c3 h
    refine W.widen (k := cells + 2) (n := slots + 12) (by omega) (by omega) ?_
    exact kc E (show gW gFull D cy _ base _ _ from (Option.some.inj h) ▸ hM) hS hl
  · replace h := gif_f c3 h
    refine lv_iconst (v := (0 : Int32)) hx hb dL_law_439 (by decide) ?_
    cases h
def f_case_5 (μ : gM) : Option gM :=
  Option.bind (f_X7_lineCount  μ) (fun q1 => Option.bind (f_X8_lineCount  μ) (fun q2 => if (q1 = q2.1) then some q2.2 else none))
set_option maxHeartbeats 4000000 in
set_option maxRecDepth 100000 in
theorem w_case_5 {x4 : Int32} {μ μ2 : gM} (h : f_case_5  μ = some μ2) (hx : p.tables.exec = Jvm.exec) (hb : c.code = cL_law) (hml : c.maxLocals = 8) (hown : s.vm.findClass RL = some m.cls) (hX : va_X b L xs s s.heap) (hbl : b < s.heap.size) (hbA : ¬ gA base b) (E : gEnv l D cy ad base s) (hM : gW gFull D cy ad base μ H) (hS : va_S (gA base) s.heap H locs) (hc : cells + 2 ≤ room_1.cells) (hs : slots + 12 ≤ room_1.slots) {ls : Array Slot} (hl : lv_has ls 8 [(0, .ref b), (1, .ref (ad 0)), (2, .ref (ad 60)), (3, .ref (ad 77)), (4, .int x4)]) (kc : ∀ {ad : Nat → Nat} {H : Heap} {locs : List Loc} {ls : Array Slot}, gEnv l D cy ad base s → gW gFull D cy ad base μ2 H → va_S (gA base) s.heap H locs → lv_has ls 8 [(0, .ref b), (1, .ref (ad 0)), (2, .ref (ad 60)), (3, .ref (ad 77)), (4, .int x4)] → W p l e room_1 s m args below meth c H locs (cells + 2) (slots + 12) Q (F0 m 2764 ls [])) : W p l e room_1 s m args below meth c H locs cells slots Q (F0 m 441 ls []) := by
  unfold f_case_5 at h
  refine lv_aload_n hx hb dL_law_441 rfl (lv_at hl 1 rfl) ?_
  obtain ⟨q1, hq1, h⟩ := gbind_e h
  refine g_callV (As := []) (rest := []) hx hb (hml.trans hl.1.symm) hown E hM hS hy_X7_lineCount kw_619 (c_X7_lineCount hq1) hk_0 dd_0 rfl rfl rfl (Nat.le_of_ble_eq_true rfl) ⟨Nat.le_of_ble_eq_true rfl, Nat.le_of_ble_eq_true rfl⟩ ⟨by omega, by omega⟩ dL_law_442 (fun H locs hM hS => ?_)
  refine lv_aload_n hx hb dL_law_445 rfl (lv_at hl 2 rfl) ?_
  obtain ⟨q2, hq2, h⟩ := gbind_e h
  refine g_callV (As := []) (rest := [.int q1]) hx hb (hml.trans hl.1.symm) hown E hM hS hy_X8_lineCount kw_1506 (c_X8_lineCount hq2) hk_60 dd_60 rfl rfl rfl (Nat.le_of_ble_eq_true rfl) ⟨Nat.le_of_ble_eq_true rfl, Nat.le_of_ble_eq_true rfl⟩ ⟨by omega, by omega⟩ dL_law_446 (fun H locs hM hS => ?_)
  refine lv_icmp_eq (tgt := 2764) hx hb dL_law_449 (by decide) (fun c3 => ?_) (fun c3 => ?_)
  · replace h := gif_t c3 h
    refine W.widen (k := cells + 2) (n := slots + 12) (by omega) (by omega) ?_
    exact kc E (show gW gFull D cy _ base _ _ from (Option.some.inj h) ▸ hM) hS hl
  · replace h := gif_f c3 h
    refine lv_iconst (v := (0 : Int32)) hx hb dL_law_452 (by decide) ?_
    cases h
def f_case_6 (μ : gM) : Option gM :=
  Option.bind (f_X7_testCount  μ) (fun q1 => Option.bind (f_X8_testCount  μ) (fun q2 => if (q1 = q2.1) then some q2.2 else none))
set_option maxHeartbeats 4000000 in
set_option maxRecDepth 100000 in
theorem w_case_6 {x4 : Int32} {μ μ2 : gM} (h : f_case_6  μ = some μ2) (hx : p.tables.exec = Jvm.exec) (hb : c.code = cL_law) (hml : c.maxLocals = 8) (hown : s.vm.findClass RL = some m.cls) (hX : va_X b L xs s s.heap) (hbl : b < s.heap.size) (hbA : ¬ gA base b) (E : gEnv l D cy ad base s) (hM : gW gFull D cy ad base μ H) (hS : va_S (gA base) s.heap H locs) (hc : cells + 2 ≤ room_1.cells) (hs : slots + 12 ≤ room_1.slots) {ls : Array Slot} (hl : lv_has ls 8 [(0, .ref b), (1, .ref (ad 0)), (2, .ref (ad 60)), (3, .ref (ad 77)), (4, .int x4)]) (kc : ∀ {ad : Nat → Nat} {H : Heap} {locs : List Loc} {ls : Array Slot}, gEnv l D cy ad base s → gW gFull D cy ad base μ2 H → va_S (gA base) s.heap H locs → lv_has ls 8 [(0, .ref b), (1, .ref (ad 0)), (2, .ref (ad 60)), (3, .ref (ad 77)), (4, .int x4)] → W p l e room_1 s m args below meth c H locs (cells + 2) (slots + 12) Q (F0 m 2764 ls [])) : W p l e room_1 s m args below meth c H locs cells slots Q (F0 m 454 ls []) := by
  unfold f_case_6 at h
  refine lv_aload_n hx hb dL_law_454 rfl (lv_at hl 1 rfl) ?_
  obtain ⟨q1, hq1, h⟩ := gbind_e h
  refine g_callV (As := []) (rest := []) hx hb (hml.trans hl.1.symm) hown E hM hS hy_X7_testCount kw_623 (c_X7_testCount hq1) hk_0 dd_0 rfl rfl rfl (Nat.le_of_ble_eq_true rfl) ⟨Nat.le_of_ble_eq_true rfl, Nat.le_of_ble_eq_true rfl⟩ ⟨by omega, by omega⟩ dL_law_455 (fun H locs hM hS => ?_)
  refine lv_aload_n hx hb dL_law_458 rfl (lv_at hl 2 rfl) ?_
  obtain ⟨q2, hq2, h⟩ := gbind_e h
  refine g_callV (As := []) (rest := [.int q1]) hx hb (hml.trans hl.1.symm) hown E hM hS hy_X8_testCount kw_1510 (c_X8_testCount hq2) hk_60 dd_60 rfl rfl rfl (Nat.le_of_ble_eq_true rfl) ⟨Nat.le_of_ble_eq_true rfl, Nat.le_of_ble_eq_true rfl⟩ ⟨by omega, by omega⟩ dL_law_459 (fun H locs hM hS => ?_)
  refine lv_icmp_eq (tgt := 2764) hx hb dL_law_462 (by decide) (fun c3 => ?_) (fun c3 => ?_)
  · replace h := gif_t c3 h
    refine W.widen (k := cells + 2) (n := slots + 12) (by omega) (by omega) ?_
    exact kc E (show gW gFull D cy _ base _ _ from (Option.some.inj h) ▸ hM) hS hl
  · replace h := gif_f c3 h
    refine lv_iconst (v := (0 : Int32)) hx hb dL_law_465 (by decide) ?_
    cases h
def f_case_7 (μ : gM) : Option gM :=
  Option.bind (f_X7_undoCount  μ) (fun q1 => Option.bind (f_X8_undoCount  μ) (fun q2 => if (q1 = q2.1) then some q2.2 else none))
set_option maxHeartbeats 4000000 in
set_option maxRecDepth 100000 in
theorem w_case_7 {x4 : Int32} {μ μ2 : gM} (h : f_case_7  μ = some μ2) (hx : p.tables.exec = Jvm.exec) (hb : c.code = cL_law) (hml : c.maxLocals = 8) (hown : s.vm.findClass RL = some m.cls) (hX : va_X b L xs s s.heap) (hbl : b < s.heap.size) (hbA : ¬ gA base b) (E : gEnv l D cy ad base s) (hM : gW gFull D cy ad base μ H) (hS : va_S (gA base) s.heap H locs) (hc : cells + 2 ≤ room_1.cells) (hs : slots + 12 ≤ room_1.slots) {ls : Array Slot} (hl : lv_has ls 8 [(0, .ref b), (1, .ref (ad 0)), (2, .ref (ad 60)), (3, .ref (ad 77)), (4, .int x4)]) (kc : ∀ {ad : Nat → Nat} {H : Heap} {locs : List Loc} {ls : Array Slot}, gEnv l D cy ad base s → gW gFull D cy ad base μ2 H → va_S (gA base) s.heap H locs → lv_has ls 8 [(0, .ref b), (1, .ref (ad 0)), (2, .ref (ad 60)), (3, .ref (ad 77)), (4, .int x4)] → W p l e room_1 s m args below meth c H locs (cells + 2) (slots + 12) Q (F0 m 2764 ls [])) : W p l e room_1 s m args below meth c H locs cells slots Q (F0 m 467 ls []) := by
  unfold f_case_7 at h
  refine lv_aload_n hx hb dL_law_467 rfl (lv_at hl 1 rfl) ?_
  obtain ⟨q1, hq1, h⟩ := gbind_e h
  refine g_callV (As := []) (rest := []) hx hb (hml.trans hl.1.symm) hown E hM hS hy_X7_undoCount kw_627 (c_X7_undoCount hq1) hk_0 dd_0 rfl rfl rfl (Nat.le_of_ble_eq_true rfl) ⟨Nat.le_of_ble_eq_true rfl, Nat.le_of_ble_eq_true rfl⟩ ⟨by omega, by omega⟩ dL_law_468 (fun H locs hM hS => ?_)
  refine lv_aload_n hx hb dL_law_471 rfl (lv_at hl 2 rfl) ?_
  obtain ⟨q2, hq2, h⟩ := gbind_e h
  refine g_callV (As := []) (rest := [.int q1]) hx hb (hml.trans hl.1.symm) hown E hM hS hy_X8_undoCount kw_1359 (c_X8_undoCount hq2) hk_60 dd_60 rfl rfl rfl (Nat.le_of_ble_eq_true rfl) ⟨Nat.le_of_ble_eq_true rfl, Nat.le_of_ble_eq_true rfl⟩ ⟨by omega, by omega⟩ dL_law_472 (fun H locs hM hS => ?_)
  refine lv_icmp_eq (tgt := 2764) hx hb dL_law_475 (by decide) (fun c3 => ?_) (fun c3 => ?_)
  · replace h := gif_t c3 h
    refine W.widen (k := cells + 2) (n := slots + 12) (by omega) (by omega) ?_
    exact kc E (show gW gFull D cy _ base _ _ from (Option.some.inj h) ▸ hM) hS hl
  · replace h := gif_f c3 h
    refine lv_iconst (v := (0 : Int32)) hx hb dL_law_478 (by decide) ?_
    cases h
def f_case_8 (s1 : Int32) (μ : gM) : Option gM :=
  Option.bind (f_X7_levelNamed s1 μ) (fun q2 => Option.bind (f_X8_levelNamed s1 μ) (fun q4 => if (q2 = q4.1) then some q4.2 else none))
set_option maxHeartbeats 4000000 in
set_option maxRecDepth 100000 in
theorem w_case_8 {s1 : Int32} {x4 : Int32} {μ μ2 : gM} (h : f_case_8 s1 μ = some μ2) (hx : p.tables.exec = Jvm.exec) (hb : c.code = cL_law) (hml : c.maxLocals = 8) (hown : s.vm.findClass RL = some m.cls) (hX : va_X b L xs s s.heap) (hbl : b < s.heap.size) (hbA : ¬ gA base b) (h1 : scrAt L xs x4 1 s1) (E : gEnv l D cy ad base s) (hM : gW gFull D cy ad base μ H) (hS : va_S (gA base) s.heap H locs) (hc : cells + 2 ≤ room_1.cells) (hs : slots + 12 ≤ room_1.slots) {ls : Array Slot} (hl : lv_has ls 8 [(0, .ref b), (1, .ref (ad 0)), (2, .ref (ad 60)), (3, .ref (ad 77)), (4, .int x4)]) (kc : ∀ {ad : Nat → Nat} {H : Heap} {locs : List Loc} {ls : Array Slot}, gEnv l D cy ad base s → gW gFull D cy ad base μ2 H → va_S (gA base) s.heap H locs → lv_has ls 8 [(0, .ref b), (1, .ref (ad 0)), (2, .ref (ad 60)), (3, .ref (ad 77)), (4, .int x4)] → W p l e room_1 s m args below meth c H locs (cells + 2) (slots + 12) Q (F0 m 2764 ls [])) : W p l e room_1 s m args below meth c H locs cells slots Q (F0 m 480 ls []) := by
  unfold f_case_8 at h
  refine lv_aload_n hx hb dL_law_480 rfl (lv_at hl 1 rfl) ?_
  refine lv_aload_n hx hb dL_law_481 rfl (lv_at hl 0 rfl) ?_
  refine lv_iload hx hb dL_law_482 (lv_at hl 4 rfl) ?_
  refine lv_iconst (v := (1 : Int32)) hx hb dL_law_484 (by decide) ?_
  refine lv_iadd hx hb dL_law_485 ?_
  refine g_scr hx hb hX hbl hbA hS h1 dL_law_486 ?_
  obtain ⟨q2, hq2, h⟩ := gbind_e h
  refine g_callV (As := [.int s1]) (rest := []) hx hb (hml.trans hl.1.symm) hown E hM hS hy_X7_levelNamed kw_631 (c_X7_levelNamed hq2) hk_0 dd_0 rfl rfl rfl (Nat.le_of_ble_eq_true rfl) ⟨Nat.le_of_ble_eq_true rfl, Nat.le_of_ble_eq_true rfl⟩ ⟨by omega, by omega⟩ dL_law_487 (fun H locs hM hS => ?_)
  refine lv_aload_n hx hb dL_law_490 rfl (lv_at hl 2 rfl) ?_
  refine lv_aload_n hx hb dL_law_491 rfl (lv_at hl 0 rfl) ?_
  refine lv_iload hx hb dL_law_492 (lv_at hl 4 rfl) ?_
  refine lv_iconst (v := (1 : Int32)) hx hb dL_law_494 (by decide) ?_
  refine lv_iadd hx hb dL_law_495 ?_
  refine g_scr hx hb hX hbl hbA hS h1 dL_law_496 ?_
  obtain ⟨q4, hq4, h⟩ := gbind_e h
  refine g_callV (As := [.int s1]) (rest := [.int q2]) hx hb (hml.trans hl.1.symm) hown E hM hS hy_X8_levelNamed kw_1514 (c_X8_levelNamed hq4) hk_60 dd_60 rfl rfl rfl (Nat.le_of_ble_eq_true rfl) ⟨Nat.le_of_ble_eq_true rfl, Nat.le_of_ble_eq_true rfl⟩ ⟨by omega, by omega⟩ dL_law_497 (fun H locs hM hS => ?_)
  refine lv_icmp_eq (tgt := 2764) hx hb dL_law_500 (by decide) (fun c5 => ?_) (fun c5 => ?_)
  · replace h := gif_t c5 h
    refine W.widen (k := cells + 2) (n := slots + 12) (by omega) (by omega) ?_
    exact kc E (show gW gFull D cy _ base _ _ from (Option.some.inj h) ▸ hM) hS hl
  · replace h := gif_f c5 h
    refine lv_iconst (v := (0 : Int32)) hx hb dL_law_503 (by decide) ?_
    cases h
def f_case_9 (s1 : Int32) (μ : gM) : Option gM :=
  Option.bind (f_X7_pointNamed s1 μ) (fun q2 => Option.bind (f_X8_pointNamed s1 μ) (fun q4 => if (q2 = q4.1) then some q4.2 else none))
set_option maxHeartbeats 4000000 in
set_option maxRecDepth 100000 in
theorem w_case_9 {s1 : Int32} {x4 : Int32} {μ μ2 : gM} (h : f_case_9 s1 μ = some μ2) (hx : p.tables.exec = Jvm.exec) (hb : c.code = cL_law) (hml : c.maxLocals = 8) (hown : s.vm.findClass RL = some m.cls) (hX : va_X b L xs s s.heap) (hbl : b < s.heap.size) (hbA : ¬ gA base b) (h1 : scrAt L xs x4 1 s1) (E : gEnv l D cy ad base s) (hM : gW gFull D cy ad base μ H) (hS : va_S (gA base) s.heap H locs) (hc : cells + 2 ≤ room_1.cells) (hs : slots + 12 ≤ room_1.slots) {ls : Array Slot} (hl : lv_has ls 8 [(0, .ref b), (1, .ref (ad 0)), (2, .ref (ad 60)), (3, .ref (ad 77)), (4, .int x4)]) (kc : ∀ {ad : Nat → Nat} {H : Heap} {locs : List Loc} {ls : Array Slot}, gEnv l D cy ad base s → gW gFull D cy ad base μ2 H → va_S (gA base) s.heap H locs → lv_has ls 8 [(0, .ref b), (1, .ref (ad 0)), (2, .ref (ad 60)), (3, .ref (ad 77)), (4, .int x4)] → W p l e room_1 s m args below meth c H locs (cells + 2) (slots + 12) Q (F0 m 2764 ls [])) : W p l e room_1 s m args below meth c H locs cells slots Q (F0 m 505 ls []) := by
  unfold f_case_9 at h
  refine lv_aload_n hx hb dL_law_505 rfl (lv_at hl 1 rfl) ?_
  refine lv_aload_n hx hb dL_law_506 rfl (lv_at hl 0 rfl) ?_
  refine lv_iload hx hb dL_law_507 (lv_at hl 4 rfl) ?_
  refine lv_iconst (v := (1 : Int32)) hx hb dL_law_509 (by decide) ?_
  refine lv_iadd hx hb dL_law_510 ?_
  refine g_scr hx hb hX hbl hbA hS h1 dL_law_511 ?_
  obtain ⟨q2, hq2, h⟩ := gbind_e h
  refine g_callV (As := [.int s1]) (rest := []) hx hb (hml.trans hl.1.symm) hown E hM hS hy_X7_pointNamed kw_636 (c_X7_pointNamed hq2) hk_0 dd_0 rfl rfl rfl (Nat.le_of_ble_eq_true rfl) ⟨Nat.le_of_ble_eq_true rfl, Nat.le_of_ble_eq_true rfl⟩ ⟨by omega, by omega⟩ dL_law_512 (fun H locs hM hS => ?_)
  refine lv_aload_n hx hb dL_law_515 rfl (lv_at hl 2 rfl) ?_
  refine lv_aload_n hx hb dL_law_516 rfl (lv_at hl 0 rfl) ?_
  refine lv_iload hx hb dL_law_517 (lv_at hl 4 rfl) ?_
  refine lv_iconst (v := (1 : Int32)) hx hb dL_law_519 (by decide) ?_
  refine lv_iadd hx hb dL_law_520 ?_
  refine g_scr hx hb hX hbl hbA hS h1 dL_law_521 ?_
  obtain ⟨q4, hq4, h⟩ := gbind_e h
  refine g_callV (As := [.int s1]) (rest := [.int q2]) hx hb (hml.trans hl.1.symm) hown E hM hS hy_X8_pointNamed kw_1518 (c_X8_pointNamed hq4) hk_60 dd_60 rfl rfl rfl (Nat.le_of_ble_eq_true rfl) ⟨Nat.le_of_ble_eq_true rfl, Nat.le_of_ble_eq_true rfl⟩ ⟨by omega, by omega⟩ dL_law_522 (fun H locs hM hS => ?_)
  refine lv_icmp_eq (tgt := 2764) hx hb dL_law_525 (by decide) (fun c5 => ?_) (fun c5 => ?_)
  · replace h := gif_t c5 h
    refine W.widen (k := cells + 2) (n := slots + 12) (by omega) (by omega) ?_
    exact kc E (show gW gFull D cy _ base _ _ from (Option.some.inj h) ▸ hM) hS hl
  · replace h := gif_f c5 h
    refine lv_iconst (v := (0 : Int32)) hx hb dL_law_528 (by decide) ?_
    cases h
def f_case_10 (s1 : Int32) (μ : gM) : Option gM :=
  Option.bind (f_X7_getSetting s1 μ) (fun q2 => Option.bind (f_X8_getSetting s1 μ) (fun q4 => if (q2 = q4.1) then some q4.2 else none))
set_option maxHeartbeats 4000000 in
set_option maxRecDepth 100000 in
theorem w_case_10 {s1 : Int32} {x4 : Int32} {μ μ2 : gM} (h : f_case_10 s1 μ = some μ2) (hx : p.tables.exec = Jvm.exec) (hb : c.code = cL_law) (hml : c.maxLocals = 8) (hown : s.vm.findClass RL = some m.cls) (hX : va_X b L xs s s.heap) (hbl : b < s.heap.size) (hbA : ¬ gA base b) (h1 : scrAt L xs x4 1 s1) (E : gEnv l D cy ad base s) (hM : gW gFull D cy ad base μ H) (hS : va_S (gA base) s.heap H locs) (hc : cells + 2 ≤ room_1.cells) (hs : slots + 12 ≤ room_1.slots) {ls : Array Slot} (hl : lv_has ls 8 [(0, .ref b), (1, .ref (ad 0)), (2, .ref (ad 60)), (3, .ref (ad 77)), (4, .int x4)]) (kc : ∀ {ad : Nat → Nat} {H : Heap} {locs : List Loc} {ls : Array Slot}, gEnv l D cy ad base s → gW gFull D cy ad base μ2 H → va_S (gA base) s.heap H locs → lv_has ls 8 [(0, .ref b), (1, .ref (ad 0)), (2, .ref (ad 60)), (3, .ref (ad 77)), (4, .int x4)] → W p l e room_1 s m args below meth c H locs (cells + 2) (slots + 12) Q (F0 m 2764 ls [])) : W p l e room_1 s m args below meth c H locs cells slots Q (F0 m 530 ls []) := by
  unfold f_case_10 at h
  refine lv_aload_n hx hb dL_law_530 rfl (lv_at hl 1 rfl) ?_
  refine lv_aload_n hx hb dL_law_531 rfl (lv_at hl 0 rfl) ?_
  refine lv_iload hx hb dL_law_532 (lv_at hl 4 rfl) ?_
  refine lv_iconst (v := (1 : Int32)) hx hb dL_law_534 (by decide) ?_
  refine lv_iadd hx hb dL_law_535 ?_
  refine g_scr hx hb hX hbl hbA hS h1 dL_law_536 ?_
  obtain ⟨q2, hq2, h⟩ := gbind_e h
  refine g_callV (As := [.int s1]) (rest := []) hx hb (hml.trans hl.1.symm) hown E hM hS hy_X7_getSetting kw_641 (c_X7_getSetting hq2) hk_0 dd_0 rfl rfl rfl (Nat.le_of_ble_eq_true rfl) ⟨Nat.le_of_ble_eq_true rfl, Nat.le_of_ble_eq_true rfl⟩ ⟨by omega, by omega⟩ dL_law_537 (fun H locs hM hS => ?_)
  refine lv_aload_n hx hb dL_law_540 rfl (lv_at hl 2 rfl) ?_
  refine lv_aload_n hx hb dL_law_541 rfl (lv_at hl 0 rfl) ?_
  refine lv_iload hx hb dL_law_542 (lv_at hl 4 rfl) ?_
  refine lv_iconst (v := (1 : Int32)) hx hb dL_law_544 (by decide) ?_
  refine lv_iadd hx hb dL_law_545 ?_
  refine g_scr hx hb hX hbl hbA hS h1 dL_law_546 ?_
  obtain ⟨q4, hq4, h⟩ := gbind_e h
  refine g_callV (As := [.int s1]) (rest := [.int q2]) hx hb (hml.trans hl.1.symm) hown E hM hS hy_X8_getSetting kw_1522 (c_X8_getSetting hq4) hk_60 dd_60 rfl rfl rfl (Nat.le_of_ble_eq_true rfl) ⟨Nat.le_of_ble_eq_true rfl, Nat.le_of_ble_eq_true rfl⟩ ⟨by omega, by omega⟩ dL_law_547 (fun H locs hM hS => ?_)
  refine lv_icmp_eq (tgt := 2764) hx hb dL_law_550 (by decide) (fun c5 => ?_) (fun c5 => ?_)
  · replace h := gif_t c5 h
    refine W.widen (k := cells + 2) (n := slots + 12) (by omega) (by omega) ?_
    exact kc E (show gW gFull D cy _ base _ _ from (Option.some.inj h) ▸ hM) hS hl
  · replace h := gif_f c5 h
    refine lv_iconst (v := (0 : Int32)) hx hb dL_law_553 (by decide) ?_
    cases h
def f_case_11 (s1 : Int32) (μ : gM) : Option gM :=
  Option.bind (f_L_collimation s1 μ) (fun q2 => Option.bind (f_X8_collimation s1 q2.2) (fun q4 => Option.bind (f_X8_thrown  q4.2) (fun q5 => if (q5 = q2.1) then if (q2.1 = 0) then gchk (gIn (0 : Int32) 1) (if ((gl q4.2 77 (0 : Int32).toNatClampNeg) = q4.1.toInt64) then some q4.2 else none) else some q4.2 else none)))
set_option maxHeartbeats 4000000 in
set_option maxRecDepth 100000 in
theorem w_case_11 {s1 : Int32} {x4 : Int32} {μ μ2 : gM} (h : f_case_11 s1 μ = some μ2) (hx : p.tables.exec = Jvm.exec) (hb : c.code = cL_law) (hml : c.maxLocals = 8) (hown : s.vm.findClass RL = some m.cls) (hX : va_X b L xs s s.heap) (hbl : b < s.heap.size) (hbA : ¬ gA base b) (h1 : scrAt L xs x4 1 s1) (E : gEnv l D cy ad base s) (hM : gW gFull D cy ad base μ H) (hS : va_S (gA base) s.heap H locs) (hc : cells + 2 ≤ room_1.cells) (hs : slots + 12 ≤ room_1.slots) {ls : Array Slot} (hl : lv_has ls 8 [(0, .ref b), (1, .ref (ad 0)), (2, .ref (ad 60)), (3, .ref (ad 77)), (4, .int x4)]) (kc : ∀ {ad : Nat → Nat} {H : Heap} {locs : List Loc} {ls : Array Slot}, gEnv l D cy ad base s → gW gFull D cy ad base μ2 H → va_S (gA base) s.heap H locs → lv_has ls 8 [(0, .ref b), (1, .ref (ad 0)), (2, .ref (ad 60)), (3, .ref (ad 77)), (4, .int x4)] → W p l e room_1 s m args below meth c H locs (cells + 2) (slots + 12) Q (F0 m 2764 ls [])) : W p l e room_1 s m args below meth c H locs cells slots Q (F0 m 555 ls []) := by
  unfold f_case_11 at h
  refine lv_aload_n hx hb dL_law_555 rfl (lv_at hl 1 rfl) ?_
  refine lv_aload_n hx hb dL_law_556 rfl (lv_at hl 0 rfl) ?_
  refine lv_iload hx hb dL_law_557 (lv_at hl 4 rfl) ?_
  refine lv_iconst (v := (1 : Int32)) hx hb dL_law_559 (by decide) ?_
  refine lv_iadd hx hb dL_law_560 ?_
  refine g_scr hx hb hX hbl hbA hS h1 dL_law_561 ?_
  refine lv_aload_n hx hb dL_law_562 rfl (lv_at hl 3 rfl) ?_
  obtain ⟨q2, hq2, h⟩ := gbind_e h
  refine g_callSW (As := [.ref (ad 0), .int s1, .ref (ad 77)]) (rest := []) hx hb (hml.trans hl.1.symm) hown E hM hS hyw_L_collimation kw_927 (c_L_collimation hq2) rfl rfl (Nat.le_of_ble_eq_true rfl) ⟨Nat.le_of_ble_eq_true rfl, Nat.le_of_ble_eq_true rfl⟩ ⟨by omega, by omega⟩ dL_law_563 (fun H locs hM hS => ?_)
  refine lv_istore (lv' := [(5, .int q2.1), (0, .ref b), (1, .ref (ad 0)), (2, .ref (ad 60)), (3, .ref (ad 77)), (4, .int x4)]) hx hb dL_law_566 hl (by decide) rfl (fun ls hl => ?_)
  refine lv_aload_n hx hb dL_law_568 rfl (lv_at hl 3 rfl) ?_
  refine lv_aload_n hx hb dL_law_569 rfl (lv_at hl 1 rfl) ?_
  refine lv_iload hx hb dL_law_570 (lv_at hl 5 rfl) ?_
  refine lv_iconst (v := (1 : Int32)) hx hb dL_law_572 (by decide) ?_
  refine lv_iadd hx hb dL_law_573 ?_
  refine g_scr hx hb hX hbl hbA hS h1 dL_law_574 ?_
  obtain ⟨q4, hq4, h⟩ := gbind_e h
  refine g_callV (As := [.int s1]) (rest := []) hx hb (hml.trans hl.1.symm) hown E hM hS hy_X8_collimation kw_1526 (c_X8_collimation hq4) hk_60 dd_60 rfl rfl rfl (Nat.le_of_ble_eq_true rfl) ⟨Nat.le_of_ble_eq_true rfl, Nat.le_of_ble_eq_true rfl⟩ ⟨by omega, by omega⟩ dL_law_575 (fun H locs hM hS => ?_)
  refine lv_istore (lv' := [(6, .int q4.1), (5, .int q2.1), (0, .ref b), (1, .ref (ad 0)), (2, .ref (ad 60)), (3, .ref (ad 77)), (4, .int x4)]) hx hb dL_law_578 hl (by decide) rfl (fun ls hl => ?_)
  refine lv_aload_n hx hb dL_law_580 rfl (lv_at hl 4 rfl) ?_
  obtain ⟨q5, hq5, h⟩ := gbind_e h
  refine g_callV (As := []) (rest := []) hx hb (hml.trans hl.1.symm) hown E hM hS hy_X8_thrown kw_1351 (c_X8_thrown hq5) hk_60 dd_60 rfl rfl rfl (Nat.le_of_ble_eq_true rfl) ⟨Nat.le_of_ble_eq_true rfl, Nat.le_of_ble_eq_true rfl⟩ ⟨by omega, by omega⟩ dL_law_581 (fun H locs hM hS => ?_)
  refine lv_iload hx hb dL_law_584 (lv_at hl 1 rfl) ?_
  refine lv_icmp_eq (tgt := 591) hx hb dL_law_586 (by decide) (fun c6 => ?_) (fun c6 => ?_)
  · replace h := gif_t c6 h
    refine lv_iload hx hb dL_law_591 (lv_at hl 1 rfl) ?_
    refine lv_if_ne (tgt := 608) hx hb dL_law_593 (by decide) (fun c7 => ?_) (fun c7 => ?_)
    · replace h := gif_f c7 h
      refine lv_goto (tgt := 2764) hx hb dL_law_608 (by decide) ?_
      refine W.widen (k := cells + 2) (n := slots + 12) (by omega) (by omega) ?_
      exact kc E (show gW gFull D cy _ base _ _ from (Option.some.inj h) ▸ hM) hS (lv_sub hl [2, 3, 4, 5, 6] rfl)
    · replace h := gif_t c7 h
      refine lv_aload_n hx hb dL_law_596 rfl (lv_at hl 5 rfl) ?_
      refine lv_iconst (v := (0 : Int32)) hx hb dL_law_597 (by decide) ?_
      obtain ⟨c8, h⟩ := gchk_e h
      refine g_lald hx hb E hM hk_77 dd_77 c8 dL_law_598 ?_
      refine lv_iload hx hb dL_law_599 (lv_at hl 0 rfl) ?_
      refine lv_i2l (v := q4.1.toInt64) hx hb dL_law_601 rfl ?_
      refine W.lcmp hx hb dL_law_602 ?_
      refine lv_if_eq (tgt := 608) hx hb dL_law_603 (by decide) (fun c9 => ?_) (fun c9 => ?_)
      · replace c9 := (lg_cmp_eq _ _).mp c9
        replace h := gif_t c9 h
        refine lv_goto (tgt := 2764) hx hb dL_law_608 (by decide) ?_
        refine W.widen (k := cells + 2) (n := slots + 12) (by omega) (by omega) ?_
        exact kc E (show gW gFull D cy _ base _ _ from (Option.some.inj h) ▸ hM) hS (lv_sub hl [2, 3, 4, 5, 6] rfl)
      · replace c9 := fun w => c9 ((lg_cmp_eq _ _).mpr w)
        replace h := gif_f c9 h
        refine lv_iconst (v := (0 : Int32)) hx hb dL_law_606 (by decide) ?_
        cases h
  · replace h := gif_f c6 h
    refine lv_iconst (v := (0 : Int32)) hx hb dL_law_589 (by decide) ?_
    cases h
def f_case_12 (s1 : Int32) (s2 : Int32) (μ : gM) : Option gM :=
  Option.bind (f_L_testNumber s1 s2 μ) (fun q3 => Option.bind (f_X8_testNumber s1 s2 q3.2) (fun q6 => Option.bind (f_X8_thrown  q6.2) (fun q7 => if (q7 = q3.1) then if (q3.1 = 0) then gchk (gIn (0 : Int32) 1) (if ((gl q6.2 77 (0 : Int32).toNatClampNeg) = q6.1.toInt64) then some q6.2 else none) else some q6.2 else none)))
set_option maxHeartbeats 4000000 in
set_option maxRecDepth 100000 in
theorem w_case_12 {s1 : Int32} {s2 : Int32} {x4 : Int32} {μ μ2 : gM} (h : f_case_12 s1 s2 μ = some μ2) (hx : p.tables.exec = Jvm.exec) (hb : c.code = cL_law) (hml : c.maxLocals = 8) (hown : s.vm.findClass RL = some m.cls) (hX : va_X b L xs s s.heap) (hbl : b < s.heap.size) (hbA : ¬ gA base b) (h1 : scrAt L xs x4 1 s1) (h2 : scrAt L xs x4 2 s2) (E : gEnv l D cy ad base s) (hM : gW gFull D cy ad base μ H) (hS : va_S (gA base) s.heap H locs) (hc : cells + 2 ≤ room_1.cells) (hs : slots + 12 ≤ room_1.slots) {ls : Array Slot} (hl : lv_has ls 8 [(0, .ref b), (1, .ref (ad 0)), (2, .ref (ad 60)), (3, .ref (ad 77)), (4, .int x4)]) (kc : ∀ {ad : Nat → Nat} {H : Heap} {locs : List Loc} {ls : Array Slot}, gEnv l D cy ad base s → gW gFull D cy ad base μ2 H → va_S (gA base) s.heap H locs → lv_has ls 8 [(0, .ref b), (1, .ref (ad 0)), (2, .ref (ad 60)), (3, .ref (ad 77)), (4, .int x4)] → W p l e room_1 s m args below meth c H locs (cells + 2) (slots + 12) Q (F0 m 2764 ls [])) : W p l e room_1 s m args below meth c H locs cells slots Q (F0 m 611 ls []) := by
  unfold f_case_12 at h
  refine lv_aload_n hx hb dL_law_611 rfl (lv_at hl 1 rfl) ?_
  refine lv_aload_n hx hb dL_law_612 rfl (lv_at hl 0 rfl) ?_
  refine lv_iload hx hb dL_law_613 (lv_at hl 4 rfl) ?_
  refine lv_iconst (v := (1 : Int32)) hx hb dL_law_615 (by decide) ?_
  refine lv_iadd hx hb dL_law_616 ?_
  refine g_scr hx hb hX hbl hbA hS h1 dL_law_617 ?_
  refine lv_aload_n hx hb dL_law_618 rfl (lv_at hl 0 rfl) ?_
  refine lv_iload hx hb dL_law_619 (lv_at hl 4 rfl) ?_
  refine lv_iconst (v := (2 : Int32)) hx hb dL_law_621 (by decide) ?_
  refine lv_iadd hx hb dL_law_622 ?_
  refine g_scr hx hb hX hbl hbA hS h2 dL_law_623 ?_
  refine lv_aload_n hx hb dL_law_624 rfl (lv_at hl 3 rfl) ?_
  obtain ⟨q3, hq3, h⟩ := gbind_e h
  refine g_callSW (As := [.ref (ad 0), .int s1, .int s2, .ref (ad 77)]) (rest := []) hx hb (hml.trans hl.1.symm) hown E hM hS hyw_L_testNumber kw_1003 (c_L_testNumber hq3) rfl rfl (Nat.le_of_ble_eq_true rfl) ⟨Nat.le_of_ble_eq_true rfl, Nat.le_of_ble_eq_true rfl⟩ ⟨by omega, by omega⟩ dL_law_625 (fun H locs hM hS => ?_)
  refine lv_istore (lv' := [(5, .int q3.1), (0, .ref b), (1, .ref (ad 0)), (2, .ref (ad 60)), (3, .ref (ad 77)), (4, .int x4)]) hx hb dL_law_628 hl (by decide) rfl (fun ls hl => ?_)
  refine lv_aload_n hx hb dL_law_630 rfl (lv_at hl 3 rfl) ?_
  refine lv_aload_n hx hb dL_law_631 rfl (lv_at hl 1 rfl) ?_
  refine lv_iload hx hb dL_law_632 (lv_at hl 5 rfl) ?_
  refine lv_iconst (v := (1 : Int32)) hx hb dL_law_634 (by decide) ?_
  refine lv_iadd hx hb dL_law_635 ?_
  refine g_scr hx hb hX hbl hbA hS h1 dL_law_636 ?_
  refine lv_aload_n hx hb dL_law_637 rfl (lv_at hl 1 rfl) ?_
  refine lv_iload hx hb dL_law_638 (lv_at hl 5 rfl) ?_
  refine lv_iconst (v := (2 : Int32)) hx hb dL_law_640 (by decide) ?_
  refine lv_iadd hx hb dL_law_641 ?_
  refine g_scr hx hb hX hbl hbA hS h2 dL_law_642 ?_
  obtain ⟨q6, hq6, h⟩ := gbind_e h
  refine g_callV (As := [.int s1, .int s2]) (rest := []) hx hb (hml.trans hl.1.symm) hown E hM hS hy_X8_testNumber kw_1538 (c_X8_testNumber hq6) hk_60 dd_60 rfl rfl rfl (Nat.le_of_ble_eq_true rfl) ⟨Nat.le_of_ble_eq_true rfl, Nat.le_of_ble_eq_true rfl⟩ ⟨by omega, by omega⟩ dL_law_643 (fun H locs hM hS => ?_)
  refine lv_istore (lv' := [(6, .int q6.1), (5, .int q3.1), (0, .ref b), (1, .ref (ad 0)), (2, .ref (ad 60)), (3, .ref (ad 77)), (4, .int x4)]) hx hb dL_law_646 hl (by decide) rfl (fun ls hl => ?_)
  refine lv_aload_n hx hb dL_law_648 rfl (lv_at hl 4 rfl) ?_
  obtain ⟨q7, hq7, h⟩ := gbind_e h
  refine g_callV (As := []) (rest := []) hx hb (hml.trans hl.1.symm) hown E hM hS hy_X8_thrown kw_1351 (c_X8_thrown hq7) hk_60 dd_60 rfl rfl rfl (Nat.le_of_ble_eq_true rfl) ⟨Nat.le_of_ble_eq_true rfl, Nat.le_of_ble_eq_true rfl⟩ ⟨by omega, by omega⟩ dL_law_649 (fun H locs hM hS => ?_)
  refine lv_iload hx hb dL_law_652 (lv_at hl 1 rfl) ?_
  refine lv_icmp_eq (tgt := 659) hx hb dL_law_654 (by decide) (fun c8 => ?_) (fun c8 => ?_)
  · replace h := gif_t c8 h
    refine lv_iload hx hb dL_law_659 (lv_at hl 1 rfl) ?_
    refine lv_if_ne (tgt := 676) hx hb dL_law_661 (by decide) (fun c9 => ?_) (fun c9 => ?_)
    · replace h := gif_f c9 h
      refine lv_goto (tgt := 2764) hx hb dL_law_676 (by decide) ?_
      refine W.widen (k := cells + 2) (n := slots + 12) (by omega) (by omega) ?_
      exact kc E (show gW gFull D cy _ base _ _ from (Option.some.inj h) ▸ hM) hS (lv_sub hl [2, 3, 4, 5, 6] rfl)
    · replace h := gif_t c9 h
      refine lv_aload_n hx hb dL_law_664 rfl (lv_at hl 5 rfl) ?_
      refine lv_iconst (v := (0 : Int32)) hx hb dL_law_665 (by decide) ?_
      obtain ⟨c10, h⟩ := gchk_e h
      refine g_lald hx hb E hM hk_77 dd_77 c10 dL_law_666 ?_
      refine lv_iload hx hb dL_law_667 (lv_at hl 0 rfl) ?_
      refine lv_i2l (v := q6.1.toInt64) hx hb dL_law_669 rfl ?_
      refine W.lcmp hx hb dL_law_670 ?_
      refine lv_if_eq (tgt := 676) hx hb dL_law_671 (by decide) (fun c11 => ?_) (fun c11 => ?_)
      · replace c11 := (lg_cmp_eq _ _).mp c11
        replace h := gif_t c11 h
        refine lv_goto (tgt := 2764) hx hb dL_law_676 (by decide) ?_
        refine W.widen (k := cells + 2) (n := slots + 12) (by omega) (by omega) ?_
        exact kc E (show gW gFull D cy _ base _ _ from (Option.some.inj h) ▸ hM) hS (lv_sub hl [2, 3, 4, 5, 6] rfl)
      · replace c11 := fun w => c11 ((lg_cmp_eq _ _).mpr w)
        replace h := gif_f c11 h
        refine lv_iconst (v := (0 : Int32)) hx hb dL_law_674 (by decide) ?_
        cases h
  · replace h := gif_f c8 h
    refine lv_iconst (v := (0 : Int32)) hx hb dL_law_657 (by decide) ?_
    cases h
def f_case_13 (s1 : Int32) (μ : gM) : Option gM :=
  Option.bind (f_L_heldAt s1 μ) (fun q2 => Option.bind (f_X8_heldAt s1 q2.2) (fun q4 => Option.bind (f_X8_thrown  q4.2) (fun q5 => if (q5 = q2.1) then if (q2.1 = 0) then gchk (gIn (0 : Int32) 1) (if ((gl q4.2 77 (0 : Int32).toNatClampNeg) = q4.1.toInt64) then some q4.2 else none) else some q4.2 else none)))
set_option maxHeartbeats 4000000 in
set_option maxRecDepth 100000 in
theorem w_case_13 {s1 : Int32} {x4 : Int32} {μ μ2 : gM} (h : f_case_13 s1 μ = some μ2) (hx : p.tables.exec = Jvm.exec) (hb : c.code = cL_law) (hml : c.maxLocals = 8) (hown : s.vm.findClass RL = some m.cls) (hX : va_X b L xs s s.heap) (hbl : b < s.heap.size) (hbA : ¬ gA base b) (h1 : scrAt L xs x4 1 s1) (E : gEnv l D cy ad base s) (hM : gW gFull D cy ad base μ H) (hS : va_S (gA base) s.heap H locs) (hc : cells + 2 ≤ room_1.cells) (hs : slots + 12 ≤ room_1.slots) {ls : Array Slot} (hl : lv_has ls 8 [(0, .ref b), (1, .ref (ad 0)), (2, .ref (ad 60)), (3, .ref (ad 77)), (4, .int x4)]) (kc : ∀ {ad : Nat → Nat} {H : Heap} {locs : List Loc} {ls : Array Slot}, gEnv l D cy ad base s → gW gFull D cy ad base μ2 H → va_S (gA base) s.heap H locs → lv_has ls 8 [(0, .ref b), (1, .ref (ad 0)), (2, .ref (ad 60)), (3, .ref (ad 77)), (4, .int x4)] → W p l e room_1 s m args below meth c H locs (cells + 2) (slots + 12) Q (F0 m 2764 ls [])) : W p l e room_1 s m args below meth c H locs cells slots Q (F0 m 679 ls []) := by
  unfold f_case_13 at h
  refine lv_aload_n hx hb dL_law_679 rfl (lv_at hl 1 rfl) ?_
  refine lv_aload_n hx hb dL_law_680 rfl (lv_at hl 0 rfl) ?_
  refine lv_iload hx hb dL_law_681 (lv_at hl 4 rfl) ?_
  refine lv_iconst (v := (1 : Int32)) hx hb dL_law_683 (by decide) ?_
  refine lv_iadd hx hb dL_law_684 ?_
  refine g_scr hx hb hX hbl hbA hS h1 dL_law_685 ?_
  refine lv_aload_n hx hb dL_law_686 rfl (lv_at hl 3 rfl) ?_
  obtain ⟨q2, hq2, h⟩ := gbind_e h
  refine g_callSW (As := [.ref (ad 0), .int s1, .ref (ad 77)]) (rest := []) hx hb (hml.trans hl.1.symm) hown E hM hS hyw_L_heldAt kw_1011 (c_L_heldAt hq2) rfl rfl (Nat.le_of_ble_eq_true rfl) ⟨Nat.le_of_ble_eq_true rfl, Nat.le_of_ble_eq_true rfl⟩ ⟨by omega, by omega⟩ dL_law_687 (fun H locs hM hS => ?_)
  refine lv_istore (lv' := [(5, .int q2.1), (0, .ref b), (1, .ref (ad 0)), (2, .ref (ad 60)), (3, .ref (ad 77)), (4, .int x4)]) hx hb dL_law_690 hl (by decide) rfl (fun ls hl => ?_)
  refine lv_aload_n hx hb dL_law_692 rfl (lv_at hl 3 rfl) ?_
  refine lv_aload_n hx hb dL_law_693 rfl (lv_at hl 1 rfl) ?_
  refine lv_iload hx hb dL_law_694 (lv_at hl 5 rfl) ?_
  refine lv_iconst (v := (1 : Int32)) hx hb dL_law_696 (by decide) ?_
  refine lv_iadd hx hb dL_law_697 ?_
  refine g_scr hx hb hX hbl hbA hS h1 dL_law_698 ?_
  obtain ⟨q4, hq4, h⟩ := gbind_e h
  refine g_callV (As := [.int s1]) (rest := []) hx hb (hml.trans hl.1.symm) hown E hM hS hy_X8_heldAt kw_1559 (c_X8_heldAt hq4) hk_60 dd_60 rfl rfl rfl (Nat.le_of_ble_eq_true rfl) ⟨Nat.le_of_ble_eq_true rfl, Nat.le_of_ble_eq_true rfl⟩ ⟨by omega, by omega⟩ dL_law_699 (fun H locs hM hS => ?_)
  refine lv_istore (lv' := [(6, .int q4.1), (5, .int q2.1), (0, .ref b), (1, .ref (ad 0)), (2, .ref (ad 60)), (3, .ref (ad 77)), (4, .int x4)]) hx hb dL_law_702 hl (by decide) rfl (fun ls hl => ?_)
  refine lv_aload_n hx hb dL_law_704 rfl (lv_at hl 4 rfl) ?_
  obtain ⟨q5, hq5, h⟩ := gbind_e h
  refine g_callV (As := []) (rest := []) hx hb (hml.trans hl.1.symm) hown E hM hS hy_X8_thrown kw_1351 (c_X8_thrown hq5) hk_60 dd_60 rfl rfl rfl (Nat.le_of_ble_eq_true rfl) ⟨Nat.le_of_ble_eq_true rfl, Nat.le_of_ble_eq_true rfl⟩ ⟨by omega, by omega⟩ dL_law_705 (fun H locs hM hS => ?_)
  refine lv_iload hx hb dL_law_708 (lv_at hl 1 rfl) ?_
  refine lv_icmp_eq (tgt := 715) hx hb dL_law_710 (by decide) (fun c6 => ?_) (fun c6 => ?_)
  · replace h := gif_t c6 h
    refine lv_iload hx hb dL_law_715 (lv_at hl 1 rfl) ?_
    refine lv_if_ne (tgt := 732) hx hb dL_law_717 (by decide) (fun c7 => ?_) (fun c7 => ?_)
    · replace h := gif_f c7 h
      refine lv_goto (tgt := 2764) hx hb dL_law_732 (by decide) ?_
      refine W.widen (k := cells + 2) (n := slots + 12) (by omega) (by omega) ?_
      exact kc E (show gW gFull D cy _ base _ _ from (Option.some.inj h) ▸ hM) hS (lv_sub hl [2, 3, 4, 5, 6] rfl)
    · replace h := gif_t c7 h
      refine lv_aload_n hx hb dL_law_720 rfl (lv_at hl 5 rfl) ?_
      refine lv_iconst (v := (0 : Int32)) hx hb dL_law_721 (by decide) ?_
      obtain ⟨c8, h⟩ := gchk_e h
      refine g_lald hx hb E hM hk_77 dd_77 c8 dL_law_722 ?_
      refine lv_iload hx hb dL_law_723 (lv_at hl 0 rfl) ?_
      refine lv_i2l (v := q4.1.toInt64) hx hb dL_law_725 rfl ?_
      refine W.lcmp hx hb dL_law_726 ?_
      refine lv_if_eq (tgt := 732) hx hb dL_law_727 (by decide) (fun c9 => ?_) (fun c9 => ?_)
      · replace c9 := (lg_cmp_eq _ _).mp c9
        replace h := gif_t c9 h
        refine lv_goto (tgt := 2764) hx hb dL_law_732 (by decide) ?_
        refine W.widen (k := cells + 2) (n := slots + 12) (by omega) (by omega) ?_
        exact kc E (show gW gFull D cy _ base _ _ from (Option.some.inj h) ▸ hM) hS (lv_sub hl [2, 3, 4, 5, 6] rfl)
      · replace c9 := fun w => c9 ((lg_cmp_eq _ _).mpr w)
        replace h := gif_f c9 h
        refine lv_iconst (v := (0 : Int32)) hx hb dL_law_730 (by decide) ?_
        cases h
  · replace h := gif_f c6 h
    refine lv_iconst (v := (0 : Int32)) hx hb dL_law_713 (by decide) ?_
    cases h
def f_case_14 (s1 : Int32) (s2 : Int32) (μ : gM) : Option gM :=
  Option.bind (f_L_lineProperty s1 s2 μ) (fun q3 => Option.bind (f_X8_lineProperty s1 s2 q3.2) (fun q6 => Option.bind (f_X8_thrown  q6.2) (fun q7 => if (q7 = q3.1) then if (q3.1 = 0) then gchk (gIn (0 : Int32) 1) (if ((gl q6.2 77 (0 : Int32).toNatClampNeg) = q6.1.toInt64) then some q6.2 else none) else some q6.2 else none)))
set_option maxHeartbeats 4000000 in
set_option maxRecDepth 100000 in
theorem w_case_14 {s1 : Int32} {s2 : Int32} {x4 : Int32} {μ μ2 : gM} (h : f_case_14 s1 s2 μ = some μ2) (hx : p.tables.exec = Jvm.exec) (hb : c.code = cL_law) (hml : c.maxLocals = 8) (hown : s.vm.findClass RL = some m.cls) (hX : va_X b L xs s s.heap) (hbl : b < s.heap.size) (hbA : ¬ gA base b) (h1 : scrAt L xs x4 1 s1) (h2 : scrAt L xs x4 2 s2) (E : gEnv l D cy ad base s) (hM : gW gFull D cy ad base μ H) (hS : va_S (gA base) s.heap H locs) (hc : cells + 2 ≤ room_1.cells) (hs : slots + 12 ≤ room_1.slots) {ls : Array Slot} (hl : lv_has ls 8 [(0, .ref b), (1, .ref (ad 0)), (2, .ref (ad 60)), (3, .ref (ad 77)), (4, .int x4)]) (kc : ∀ {ad : Nat → Nat} {H : Heap} {locs : List Loc} {ls : Array Slot}, gEnv l D cy ad base s → gW gFull D cy ad base μ2 H → va_S (gA base) s.heap H locs → lv_has ls 8 [(0, .ref b), (1, .ref (ad 0)), (2, .ref (ad 60)), (3, .ref (ad 77)), (4, .int x4)] → W p l e room_1 s m args below meth c H locs (cells + 2) (slots + 12) Q (F0 m 2764 ls [])) : W p l e room_1 s m args below meth c H locs cells slots Q (F0 m 735 ls []) := by
  unfold f_case_14 at h
  refine lv_aload_n hx hb dL_law_735 rfl (lv_at hl 1 rfl) ?_
  refine lv_aload_n hx hb dL_law_736 rfl (lv_at hl 0 rfl) ?_
  refine lv_iload hx hb dL_law_737 (lv_at hl 4 rfl) ?_
  refine lv_iconst (v := (1 : Int32)) hx hb dL_law_739 (by decide) ?_
  refine lv_iadd hx hb dL_law_740 ?_
  refine g_scr hx hb hX hbl hbA hS h1 dL_law_741 ?_
  refine lv_aload_n hx hb dL_law_742 rfl (lv_at hl 0 rfl) ?_
  refine lv_iload hx hb dL_law_743 (lv_at hl 4 rfl) ?_
  refine lv_iconst (v := (2 : Int32)) hx hb dL_law_745 (by decide) ?_
  refine lv_iadd hx hb dL_law_746 ?_
  refine g_scr hx hb hX hbl hbA hS h2 dL_law_747 ?_
  refine lv_aload_n hx hb dL_law_748 rfl (lv_at hl 3 rfl) ?_
  obtain ⟨q3, hq3, h⟩ := gbind_e h
  refine g_callSW (As := [.ref (ad 0), .int s1, .int s2, .ref (ad 77)]) (rest := []) hx hb (hml.trans hl.1.symm) hown E hM hS hyw_L_lineProperty kw_1018 (c_L_lineProperty hq3) rfl rfl (Nat.le_of_ble_eq_true rfl) ⟨Nat.le_of_ble_eq_true rfl, Nat.le_of_ble_eq_true rfl⟩ ⟨by omega, by omega⟩ dL_law_749 (fun H locs hM hS => ?_)
  refine lv_istore (lv' := [(5, .int q3.1), (0, .ref b), (1, .ref (ad 0)), (2, .ref (ad 60)), (3, .ref (ad 77)), (4, .int x4)]) hx hb dL_law_752 hl (by decide) rfl (fun ls hl => ?_)
  refine lv_aload_n hx hb dL_law_754 rfl (lv_at hl 3 rfl) ?_
  refine lv_aload_n hx hb dL_law_755 rfl (lv_at hl 1 rfl) ?_
  refine lv_iload hx hb dL_law_756 (lv_at hl 5 rfl) ?_
  refine lv_iconst (v := (1 : Int32)) hx hb dL_law_758 (by decide) ?_
  refine lv_iadd hx hb dL_law_759 ?_
  refine g_scr hx hb hX hbl hbA hS h1 dL_law_760 ?_
  refine lv_aload_n hx hb dL_law_761 rfl (lv_at hl 1 rfl) ?_
  refine lv_iload hx hb dL_law_762 (lv_at hl 5 rfl) ?_
  refine lv_iconst (v := (2 : Int32)) hx hb dL_law_764 (by decide) ?_
  refine lv_iadd hx hb dL_law_765 ?_
  refine g_scr hx hb hX hbl hbA hS h2 dL_law_766 ?_
  obtain ⟨q6, hq6, h⟩ := gbind_e h
  refine g_callV (As := [.int s1, .int s2]) (rest := []) hx hb (hml.trans hl.1.symm) hown E hM hS hy_X8_lineProperty kw_1567 (c_X8_lineProperty hq6) hk_60 dd_60 rfl rfl rfl (Nat.le_of_ble_eq_true rfl) ⟨Nat.le_of_ble_eq_true rfl, Nat.le_of_ble_eq_true rfl⟩ ⟨by omega, by omega⟩ dL_law_767 (fun H locs hM hS => ?_)
  refine lv_istore (lv' := [(6, .int q6.1), (5, .int q3.1), (0, .ref b), (1, .ref (ad 0)), (2, .ref (ad 60)), (3, .ref (ad 77)), (4, .int x4)]) hx hb dL_law_770 hl (by decide) rfl (fun ls hl => ?_)
  refine lv_aload_n hx hb dL_law_772 rfl (lv_at hl 4 rfl) ?_
  obtain ⟨q7, hq7, h⟩ := gbind_e h
  refine g_callV (As := []) (rest := []) hx hb (hml.trans hl.1.symm) hown E hM hS hy_X8_thrown kw_1351 (c_X8_thrown hq7) hk_60 dd_60 rfl rfl rfl (Nat.le_of_ble_eq_true rfl) ⟨Nat.le_of_ble_eq_true rfl, Nat.le_of_ble_eq_true rfl⟩ ⟨by omega, by omega⟩ dL_law_773 (fun H locs hM hS => ?_)
  refine lv_iload hx hb dL_law_776 (lv_at hl 1 rfl) ?_
  refine lv_icmp_eq (tgt := 783) hx hb dL_law_778 (by decide) (fun c8 => ?_) (fun c8 => ?_)
  · replace h := gif_t c8 h
    refine lv_iload hx hb dL_law_783 (lv_at hl 1 rfl) ?_
    refine lv_if_ne (tgt := 800) hx hb dL_law_785 (by decide) (fun c9 => ?_) (fun c9 => ?_)
    · replace h := gif_f c9 h
      refine lv_goto (tgt := 2764) hx hb dL_law_800 (by decide) ?_
      refine W.widen (k := cells + 2) (n := slots + 12) (by omega) (by omega) ?_
      exact kc E (show gW gFull D cy _ base _ _ from (Option.some.inj h) ▸ hM) hS (lv_sub hl [2, 3, 4, 5, 6] rfl)
    · replace h := gif_t c9 h
      refine lv_aload_n hx hb dL_law_788 rfl (lv_at hl 5 rfl) ?_
      refine lv_iconst (v := (0 : Int32)) hx hb dL_law_789 (by decide) ?_
      obtain ⟨c10, h⟩ := gchk_e h
      refine g_lald hx hb E hM hk_77 dd_77 c10 dL_law_790 ?_
      refine lv_iload hx hb dL_law_791 (lv_at hl 0 rfl) ?_
      refine lv_i2l (v := q6.1.toInt64) hx hb dL_law_793 rfl ?_
      refine W.lcmp hx hb dL_law_794 ?_
      refine lv_if_eq (tgt := 800) hx hb dL_law_795 (by decide) (fun c11 => ?_) (fun c11 => ?_)
      · replace c11 := (lg_cmp_eq _ _).mp c11
        replace h := gif_t c11 h
        refine lv_goto (tgt := 2764) hx hb dL_law_800 (by decide) ?_
        refine W.widen (k := cells + 2) (n := slots + 12) (by omega) (by omega) ?_
        exact kc E (show gW gFull D cy _ base _ _ from (Option.some.inj h) ▸ hM) hS (lv_sub hl [2, 3, 4, 5, 6] rfl)
      · replace c11 := fun w => c11 ((lg_cmp_eq _ _).mpr w)
        replace h := gif_f c11 h
        refine lv_iconst (v := (0 : Int32)) hx hb dL_law_798 (by decide) ?_
        cases h
  · replace h := gif_f c8 h
    refine lv_iconst (v := (0 : Int32)) hx hb dL_law_781 (by decide) ?_
    cases h
def f_case_15 (s1 : Int32) (s2 : Int32) (s3 : Int32) (μ : gM) : Option gM :=
  Option.bind (f_L_reading s1 s2 s3 μ) (fun q4 => Option.bind (f_X8_reading s1 s2 s3 q4.2) (fun q8 => Option.bind (f_X8_thrown  q8.2) (fun q9 => if (q9 = q4.1) then if (q4.1 = 0) then gchk (gIn (0 : Int32) 1) (if ((gl q8.2 77 (0 : Int32).toNatClampNeg) = q8.1.toInt64) then some q8.2 else none) else some q8.2 else none)))
set_option maxHeartbeats 4000000 in
set_option maxRecDepth 100000 in
theorem w_case_15 {s1 : Int32} {s2 : Int32} {s3 : Int32} {x4 : Int32} {μ μ2 : gM} (h : f_case_15 s1 s2 s3 μ = some μ2) (hx : p.tables.exec = Jvm.exec) (hb : c.code = cL_law) (hml : c.maxLocals = 8) (hown : s.vm.findClass RL = some m.cls) (hX : va_X b L xs s s.heap) (hbl : b < s.heap.size) (hbA : ¬ gA base b) (h1 : scrAt L xs x4 1 s1) (h2 : scrAt L xs x4 2 s2) (h3 : scrAt L xs x4 3 s3) (E : gEnv l D cy ad base s) (hM : gW gFull D cy ad base μ H) (hS : va_S (gA base) s.heap H locs) (hc : cells + 2 ≤ room_1.cells) (hs : slots + 12 ≤ room_1.slots) {ls : Array Slot} (hl : lv_has ls 8 [(0, .ref b), (1, .ref (ad 0)), (2, .ref (ad 60)), (3, .ref (ad 77)), (4, .int x4)]) (kc : ∀ {ad : Nat → Nat} {H : Heap} {locs : List Loc} {ls : Array Slot}, gEnv l D cy ad base s → gW gFull D cy ad base μ2 H → va_S (gA base) s.heap H locs → lv_has ls 8 [(0, .ref b), (1, .ref (ad 0)), (2, .ref (ad 60)), (3, .ref (ad 77)), (4, .int x4)] → W p l e room_1 s m args below meth c H locs (cells + 2) (slots + 12) Q (F0 m 2764 ls [])) : W p l e room_1 s m args below meth c H locs cells slots Q (F0 m 803 ls []) := by
  unfold f_case_15 at h
  refine lv_aload_n hx hb dL_law_803 rfl (lv_at hl 1 rfl) ?_
  refine lv_aload_n hx hb dL_law_804 rfl (lv_at hl 0 rfl) ?_
  refine lv_iload hx hb dL_law_805 (lv_at hl 4 rfl) ?_
  refine lv_iconst (v := (1 : Int32)) hx hb dL_law_807 (by decide) ?_
  refine lv_iadd hx hb dL_law_808 ?_
  refine g_scr hx hb hX hbl hbA hS h1 dL_law_809 ?_
  refine lv_aload_n hx hb dL_law_810 rfl (lv_at hl 0 rfl) ?_
  refine lv_iload hx hb dL_law_811 (lv_at hl 4 rfl) ?_
  refine lv_iconst (v := (2 : Int32)) hx hb dL_law_813 (by decide) ?_
  refine lv_iadd hx hb dL_law_814 ?_
  refine g_scr hx hb hX hbl hbA hS h2 dL_law_815 ?_
  refine lv_aload_n hx hb dL_law_816 rfl (lv_at hl 0 rfl) ?_
  refine lv_iload hx hb dL_law_817 (lv_at hl 4 rfl) ?_
  refine lv_iconst (v := (3 : Int32)) hx hb dL_law_819 (by decide) ?_
  refine lv_iadd hx hb dL_law_820 ?_
  refine g_scr hx hb hX hbl hbA hS h3 dL_law_821 ?_
  refine lv_aload_n hx hb dL_law_822 rfl (lv_at hl 3 rfl) ?_
  obtain ⟨q4, hq4, h⟩ := gbind_e h
  refine g_callSW (As := [.ref (ad 0), .int s1, .int s2, .int s3, .ref (ad 77)]) (rest := []) hx hb (hml.trans hl.1.symm) hown E hM hS hyw_L_reading kw_1025 (c_L_reading hq4) rfl rfl (Nat.le_of_ble_eq_true rfl) ⟨Nat.le_of_ble_eq_true rfl, Nat.le_of_ble_eq_true rfl⟩ ⟨by omega, by omega⟩ dL_law_823 (fun H locs hM hS => ?_)
  refine lv_istore (lv' := [(5, .int q4.1), (0, .ref b), (1, .ref (ad 0)), (2, .ref (ad 60)), (3, .ref (ad 77)), (4, .int x4)]) hx hb dL_law_826 hl (by decide) rfl (fun ls hl => ?_)
  refine lv_aload_n hx hb dL_law_828 rfl (lv_at hl 3 rfl) ?_
  refine lv_aload_n hx hb dL_law_829 rfl (lv_at hl 1 rfl) ?_
  refine lv_iload hx hb dL_law_830 (lv_at hl 5 rfl) ?_
  refine lv_iconst (v := (1 : Int32)) hx hb dL_law_832 (by decide) ?_
  refine lv_iadd hx hb dL_law_833 ?_
  refine g_scr hx hb hX hbl hbA hS h1 dL_law_834 ?_
  refine lv_aload_n hx hb dL_law_835 rfl (lv_at hl 1 rfl) ?_
  refine lv_iload hx hb dL_law_836 (lv_at hl 5 rfl) ?_
  refine lv_iconst (v := (2 : Int32)) hx hb dL_law_838 (by decide) ?_
  refine lv_iadd hx hb dL_law_839 ?_
  refine g_scr hx hb hX hbl hbA hS h2 dL_law_840 ?_
  refine lv_aload_n hx hb dL_law_841 rfl (lv_at hl 1 rfl) ?_
  refine lv_iload hx hb dL_law_842 (lv_at hl 5 rfl) ?_
  refine lv_iconst (v := (3 : Int32)) hx hb dL_law_844 (by decide) ?_
  refine lv_iadd hx hb dL_law_845 ?_
  refine g_scr hx hb hX hbl hbA hS h3 dL_law_846 ?_
  obtain ⟨q8, hq8, h⟩ := gbind_e h
  refine g_callV (As := [.int s1, .int s2, .int s3]) (rest := []) hx hb (hml.trans hl.1.symm) hown E hM hS hy_X8_reading kw_1604 (c_X8_reading hq8) hk_60 dd_60 rfl rfl rfl (Nat.le_of_ble_eq_true rfl) ⟨Nat.le_of_ble_eq_true rfl, Nat.le_of_ble_eq_true rfl⟩ ⟨by omega, by omega⟩ dL_law_847 (fun H locs hM hS => ?_)
  refine lv_istore (lv' := [(6, .int q8.1), (5, .int q4.1), (0, .ref b), (1, .ref (ad 0)), (2, .ref (ad 60)), (3, .ref (ad 77)), (4, .int x4)]) hx hb dL_law_850 hl (by decide) rfl (fun ls hl => ?_)
  refine lv_aload_n hx hb dL_law_852 rfl (lv_at hl 4 rfl) ?_
  obtain ⟨q9, hq9, h⟩ := gbind_e h
  refine g_callV (As := []) (rest := []) hx hb (hml.trans hl.1.symm) hown E hM hS hy_X8_thrown kw_1351 (c_X8_thrown hq9) hk_60 dd_60 rfl rfl rfl (Nat.le_of_ble_eq_true rfl) ⟨Nat.le_of_ble_eq_true rfl, Nat.le_of_ble_eq_true rfl⟩ ⟨by omega, by omega⟩ dL_law_853 (fun H locs hM hS => ?_)
  refine lv_iload hx hb dL_law_856 (lv_at hl 1 rfl) ?_
  refine lv_icmp_eq (tgt := 863) hx hb dL_law_858 (by decide) (fun c10 => ?_) (fun c10 => ?_)
  · replace h := gif_t c10 h
    refine lv_iload hx hb dL_law_863 (lv_at hl 1 rfl) ?_
    refine lv_if_ne (tgt := 880) hx hb dL_law_865 (by decide) (fun c11 => ?_) (fun c11 => ?_)
    · replace h := gif_f c11 h
      refine lv_goto (tgt := 2764) hx hb dL_law_880 (by decide) ?_
      refine W.widen (k := cells + 2) (n := slots + 12) (by omega) (by omega) ?_
      exact kc E (show gW gFull D cy _ base _ _ from (Option.some.inj h) ▸ hM) hS (lv_sub hl [2, 3, 4, 5, 6] rfl)
    · replace h := gif_t c11 h
      refine lv_aload_n hx hb dL_law_868 rfl (lv_at hl 5 rfl) ?_
      refine lv_iconst (v := (0 : Int32)) hx hb dL_law_869 (by decide) ?_
      obtain ⟨c12, h⟩ := gchk_e h
      refine g_lald hx hb E hM hk_77 dd_77 c12 dL_law_870 ?_
      refine lv_iload hx hb dL_law_871 (lv_at hl 0 rfl) ?_
      refine lv_i2l (v := q8.1.toInt64) hx hb dL_law_873 rfl ?_
      refine W.lcmp hx hb dL_law_874 ?_
      refine lv_if_eq (tgt := 880) hx hb dL_law_875 (by decide) (fun c13 => ?_) (fun c13 => ?_)
      · replace c13 := (lg_cmp_eq _ _).mp c13
        replace h := gif_t c13 h
        refine lv_goto (tgt := 2764) hx hb dL_law_880 (by decide) ?_
        refine W.widen (k := cells + 2) (n := slots + 12) (by omega) (by omega) ?_
        exact kc E (show gW gFull D cy _ base _ _ from (Option.some.inj h) ▸ hM) hS (lv_sub hl [2, 3, 4, 5, 6] rfl)
      · replace c13 := fun w => c13 ((lg_cmp_eq _ _).mpr w)
        replace h := gif_f c13 h
        refine lv_iconst (v := (0 : Int32)) hx hb dL_law_878 (by decide) ?_
        cases h
  · replace h := gif_f c10 h
    refine lv_iconst (v := (0 : Int32)) hx hb dL_law_861 (by decide) ?_
    cases h
def f_case_16 (s1 : Int32) (s2 : Int32) (μ : gM) : Option gM :=
  Option.bind (f_L_stepOf s1 s2 μ) (fun q3 => Option.bind (f_X8_stepOf s1 s2 q3.2) (fun q6 => Option.bind (f_X8_thrown  q6.2) (fun q7 => if (q7 = q3.1) then if (q3.1 = 0) then gchk (gIn (0 : Int32) 1) (if ((gl q6.2 77 (0 : Int32).toNatClampNeg) = q6.1.toInt64) then some q6.2 else none) else some q6.2 else none)))
set_option maxHeartbeats 4000000 in
set_option maxRecDepth 100000 in
theorem w_case_16 {s1 : Int32} {s2 : Int32} {x4 : Int32} {μ μ2 : gM} (h : f_case_16 s1 s2 μ = some μ2) (hx : p.tables.exec = Jvm.exec) (hb : c.code = cL_law) (hml : c.maxLocals = 8) (hown : s.vm.findClass RL = some m.cls) (hX : va_X b L xs s s.heap) (hbl : b < s.heap.size) (hbA : ¬ gA base b) (h1 : scrAt L xs x4 1 s1) (h2 : scrAt L xs x4 2 s2) (E : gEnv l D cy ad base s) (hM : gW gFull D cy ad base μ H) (hS : va_S (gA base) s.heap H locs) (hc : cells + 2 ≤ room_1.cells) (hs : slots + 12 ≤ room_1.slots) {ls : Array Slot} (hl : lv_has ls 8 [(0, .ref b), (1, .ref (ad 0)), (2, .ref (ad 60)), (3, .ref (ad 77)), (4, .int x4)]) (kc : ∀ {ad : Nat → Nat} {H : Heap} {locs : List Loc} {ls : Array Slot}, gEnv l D cy ad base s → gW gFull D cy ad base μ2 H → va_S (gA base) s.heap H locs → lv_has ls 8 [(0, .ref b), (1, .ref (ad 0)), (2, .ref (ad 60)), (3, .ref (ad 77)), (4, .int x4)] → W p l e room_1 s m args below meth c H locs (cells + 2) (slots + 12) Q (F0 m 2764 ls [])) : W p l e room_1 s m args below meth c H locs cells slots Q (F0 m 883 ls []) := by
  unfold f_case_16 at h
  refine lv_aload_n hx hb dL_law_883 rfl (lv_at hl 1 rfl) ?_
  refine lv_aload_n hx hb dL_law_884 rfl (lv_at hl 0 rfl) ?_
  refine lv_iload hx hb dL_law_885 (lv_at hl 4 rfl) ?_
  refine lv_iconst (v := (1 : Int32)) hx hb dL_law_887 (by decide) ?_
  refine lv_iadd hx hb dL_law_888 ?_
  refine g_scr hx hb hX hbl hbA hS h1 dL_law_889 ?_
  refine lv_aload_n hx hb dL_law_890 rfl (lv_at hl 0 rfl) ?_
  refine lv_iload hx hb dL_law_891 (lv_at hl 4 rfl) ?_
  refine lv_iconst (v := (2 : Int32)) hx hb dL_law_893 (by decide) ?_
  refine lv_iadd hx hb dL_law_894 ?_
  refine g_scr hx hb hX hbl hbA hS h2 dL_law_895 ?_
  refine lv_aload_n hx hb dL_law_896 rfl (lv_at hl 3 rfl) ?_
  obtain ⟨q3, hq3, h⟩ := gbind_e h
  refine g_callSW (As := [.ref (ad 0), .int s1, .int s2, .ref (ad 77)]) (rest := []) hx hb (hml.trans hl.1.symm) hown E hM hS hyw_L_stepOf kw_1032 (c_L_stepOf hq3) rfl rfl (Nat.le_of_ble_eq_true rfl) ⟨Nat.le_of_ble_eq_true rfl, Nat.le_of_ble_eq_true rfl⟩ ⟨by omega, by omega⟩ dL_law_897 (fun H locs hM hS => ?_)
  refine lv_istore (lv' := [(5, .int q3.1), (0, .ref b), (1, .ref (ad 0)), (2, .ref (ad 60)), (3, .ref (ad 77)), (4, .int x4)]) hx hb dL_law_900 hl (by decide) rfl (fun ls hl => ?_)
  refine lv_aload_n hx hb dL_law_902 rfl (lv_at hl 3 rfl) ?_
  refine lv_aload_n hx hb dL_law_903 rfl (lv_at hl 1 rfl) ?_
  refine lv_iload hx hb dL_law_904 (lv_at hl 5 rfl) ?_
  refine lv_iconst (v := (1 : Int32)) hx hb dL_law_906 (by decide) ?_
  refine lv_iadd hx hb dL_law_907 ?_
  refine g_scr hx hb hX hbl hbA hS h1 dL_law_908 ?_
  refine lv_aload_n hx hb dL_law_909 rfl (lv_at hl 1 rfl) ?_
  refine lv_iload hx hb dL_law_910 (lv_at hl 5 rfl) ?_
  refine lv_iconst (v := (2 : Int32)) hx hb dL_law_912 (by decide) ?_
  refine lv_iadd hx hb dL_law_913 ?_
  refine g_scr hx hb hX hbl hbA hS h2 dL_law_914 ?_
  obtain ⟨q6, hq6, h⟩ := gbind_e h
  refine g_callV (As := [.int s1, .int s2]) (rest := []) hx hb (hml.trans hl.1.symm) hown E hM hS hy_X8_stepOf kw_1608 (c_X8_stepOf hq6) hk_60 dd_60 rfl rfl rfl (Nat.le_of_ble_eq_true rfl) ⟨Nat.le_of_ble_eq_true rfl, Nat.le_of_ble_eq_true rfl⟩ ⟨by omega, by omega⟩ dL_law_915 (fun H locs hM hS => ?_)
  refine lv_istore (lv' := [(6, .int q6.1), (5, .int q3.1), (0, .ref b), (1, .ref (ad 0)), (2, .ref (ad 60)), (3, .ref (ad 77)), (4, .int x4)]) hx hb dL_law_918 hl (by decide) rfl (fun ls hl => ?_)
  refine lv_aload_n hx hb dL_law_920 rfl (lv_at hl 4 rfl) ?_
  obtain ⟨q7, hq7, h⟩ := gbind_e h
  refine g_callV (As := []) (rest := []) hx hb (hml.trans hl.1.symm) hown E hM hS hy_X8_thrown kw_1351 (c_X8_thrown hq7) hk_60 dd_60 rfl rfl rfl (Nat.le_of_ble_eq_true rfl) ⟨Nat.le_of_ble_eq_true rfl, Nat.le_of_ble_eq_true rfl⟩ ⟨by omega, by omega⟩ dL_law_921 (fun H locs hM hS => ?_)
  refine lv_iload hx hb dL_law_924 (lv_at hl 1 rfl) ?_
  refine lv_icmp_eq (tgt := 931) hx hb dL_law_926 (by decide) (fun c8 => ?_) (fun c8 => ?_)
  · replace h := gif_t c8 h
    refine lv_iload hx hb dL_law_931 (lv_at hl 1 rfl) ?_
    refine lv_if_ne (tgt := 948) hx hb dL_law_933 (by decide) (fun c9 => ?_) (fun c9 => ?_)
    · replace h := gif_f c9 h
      refine lv_goto (tgt := 2764) hx hb dL_law_948 (by decide) ?_
      refine W.widen (k := cells + 2) (n := slots + 12) (by omega) (by omega) ?_
      exact kc E (show gW gFull D cy _ base _ _ from (Option.some.inj h) ▸ hM) hS (lv_sub hl [2, 3, 4, 5, 6] rfl)
    · replace h := gif_t c9 h
      refine lv_aload_n hx hb dL_law_936 rfl (lv_at hl 5 rfl) ?_
      refine lv_iconst (v := (0 : Int32)) hx hb dL_law_937 (by decide) ?_
      obtain ⟨c10, h⟩ := gchk_e h
      refine g_lald hx hb E hM hk_77 dd_77 c10 dL_law_938 ?_
      refine lv_iload hx hb dL_law_939 (lv_at hl 0 rfl) ?_
      refine lv_i2l (v := q6.1.toInt64) hx hb dL_law_941 rfl ?_
      refine W.lcmp hx hb dL_law_942 ?_
      refine lv_if_eq (tgt := 948) hx hb dL_law_943 (by decide) (fun c11 => ?_) (fun c11 => ?_)
      · replace c11 := (lg_cmp_eq _ _).mp c11
        replace h := gif_t c11 h
        refine lv_goto (tgt := 2764) hx hb dL_law_948 (by decide) ?_
        refine W.widen (k := cells + 2) (n := slots + 12) (by omega) (by omega) ?_
        exact kc E (show gW gFull D cy _ base _ _ from (Option.some.inj h) ▸ hM) hS (lv_sub hl [2, 3, 4, 5, 6] rfl)
      · replace c11 := fun w => c11 ((lg_cmp_eq _ _).mpr w)
        replace h := gif_f c11 h
        refine lv_iconst (v := (0 : Int32)) hx hb dL_law_946 (by decide) ?_
        cases h
  · replace h := gif_f c8 h
    refine lv_iconst (v := (0 : Int32)) hx hb dL_law_929 (by decide) ?_
    cases h
def f_case_17 (s1 : Int32) (μ : gM) : Option gM :=
  Option.bind (f_L_riseOf s1 μ) (fun q2 => Option.bind (f_X8_riseOf s1 q2.2) (fun q4 => Option.bind (f_X8_thrown  q4.2) (fun q5 => if (q5 = q2.1) then if (q2.1 = 0) then gchk (gIn (0 : Int32) 1) (if ((gl q4.2 77 (0 : Int32).toNatClampNeg) = q4.1.toInt64) then some q4.2 else none) else some q4.2 else none)))
set_option maxHeartbeats 4000000 in
set_option maxRecDepth 100000 in
theorem w_case_17 {s1 : Int32} {x4 : Int32} {μ μ2 : gM} (h : f_case_17 s1 μ = some μ2) (hx : p.tables.exec = Jvm.exec) (hb : c.code = cL_law) (hml : c.maxLocals = 8) (hown : s.vm.findClass RL = some m.cls) (hX : va_X b L xs s s.heap) (hbl : b < s.heap.size) (hbA : ¬ gA base b) (h1 : scrAt L xs x4 1 s1) (E : gEnv l D cy ad base s) (hM : gW gFull D cy ad base μ H) (hS : va_S (gA base) s.heap H locs) (hc : cells + 2 ≤ room_1.cells) (hs : slots + 12 ≤ room_1.slots) {ls : Array Slot} (hl : lv_has ls 8 [(0, .ref b), (1, .ref (ad 0)), (2, .ref (ad 60)), (3, .ref (ad 77)), (4, .int x4)]) (kc : ∀ {ad : Nat → Nat} {H : Heap} {locs : List Loc} {ls : Array Slot}, gEnv l D cy ad base s → gW gFull D cy ad base μ2 H → va_S (gA base) s.heap H locs → lv_has ls 8 [(0, .ref b), (1, .ref (ad 0)), (2, .ref (ad 60)), (3, .ref (ad 77)), (4, .int x4)] → W p l e room_1 s m args below meth c H locs (cells + 2) (slots + 12) Q (F0 m 2764 ls [])) : W p l e room_1 s m args below meth c H locs cells slots Q (F0 m 951 ls []) := by
  unfold f_case_17 at h
  refine lv_aload_n hx hb dL_law_951 rfl (lv_at hl 1 rfl) ?_
  refine lv_aload_n hx hb dL_law_952 rfl (lv_at hl 0 rfl) ?_
  refine lv_iload hx hb dL_law_953 (lv_at hl 4 rfl) ?_
  refine lv_iconst (v := (1 : Int32)) hx hb dL_law_955 (by decide) ?_
  refine lv_iadd hx hb dL_law_956 ?_
  refine g_scr hx hb hX hbl hbA hS h1 dL_law_957 ?_
  refine lv_aload_n hx hb dL_law_958 rfl (lv_at hl 3 rfl) ?_
  obtain ⟨q2, hq2, h⟩ := gbind_e h
  refine g_callSW (As := [.ref (ad 0), .int s1, .ref (ad 77)]) (rest := []) hx hb (hml.trans hl.1.symm) hown E hM hS hyw_L_riseOf kw_1040 (c_L_riseOf hq2) rfl rfl (Nat.le_of_ble_eq_true rfl) ⟨Nat.le_of_ble_eq_true rfl, Nat.le_of_ble_eq_true rfl⟩ ⟨by omega, by omega⟩ dL_law_959 (fun H locs hM hS => ?_)
  refine lv_istore (lv' := [(5, .int q2.1), (0, .ref b), (1, .ref (ad 0)), (2, .ref (ad 60)), (3, .ref (ad 77)), (4, .int x4)]) hx hb dL_law_962 hl (by decide) rfl (fun ls hl => ?_)
  refine lv_aload_n hx hb dL_law_964 rfl (lv_at hl 3 rfl) ?_
  refine lv_aload_n hx hb dL_law_965 rfl (lv_at hl 1 rfl) ?_
  refine lv_iload hx hb dL_law_966 (lv_at hl 5 rfl) ?_
  refine lv_iconst (v := (1 : Int32)) hx hb dL_law_968 (by decide) ?_
  refine lv_iadd hx hb dL_law_969 ?_
  refine g_scr hx hb hX hbl hbA hS h1 dL_law_970 ?_
  obtain ⟨q4, hq4, h⟩ := gbind_e h
  refine g_callV (As := [.int s1]) (rest := []) hx hb (hml.trans hl.1.symm) hown E hM hS hy_X8_riseOf kw_1620 (c_X8_riseOf hq4) hk_60 dd_60 rfl rfl rfl (Nat.le_of_ble_eq_true rfl) ⟨Nat.le_of_ble_eq_true rfl, Nat.le_of_ble_eq_true rfl⟩ ⟨by omega, by omega⟩ dL_law_971 (fun H locs hM hS => ?_)
  refine lv_istore (lv' := [(6, .int q4.1), (5, .int q2.1), (0, .ref b), (1, .ref (ad 0)), (2, .ref (ad 60)), (3, .ref (ad 77)), (4, .int x4)]) hx hb dL_law_974 hl (by decide) rfl (fun ls hl => ?_)
  refine lv_aload_n hx hb dL_law_976 rfl (lv_at hl 4 rfl) ?_
  obtain ⟨q5, hq5, h⟩ := gbind_e h
  refine g_callV (As := []) (rest := []) hx hb (hml.trans hl.1.symm) hown E hM hS hy_X8_thrown kw_1351 (c_X8_thrown hq5) hk_60 dd_60 rfl rfl rfl (Nat.le_of_ble_eq_true rfl) ⟨Nat.le_of_ble_eq_true rfl, Nat.le_of_ble_eq_true rfl⟩ ⟨by omega, by omega⟩ dL_law_977 (fun H locs hM hS => ?_)
  refine lv_iload hx hb dL_law_980 (lv_at hl 1 rfl) ?_
  refine lv_icmp_eq (tgt := 987) hx hb dL_law_982 (by decide) (fun c6 => ?_) (fun c6 => ?_)
  · replace h := gif_t c6 h
    refine lv_iload hx hb dL_law_987 (lv_at hl 1 rfl) ?_
    refine lv_if_ne (tgt := 1004) hx hb dL_law_989 (by decide) (fun c7 => ?_) (fun c7 => ?_)
    · replace h := gif_f c7 h
      refine lv_goto (tgt := 2764) hx hb dL_law_1004 (by decide) ?_
      refine W.widen (k := cells + 2) (n := slots + 12) (by omega) (by omega) ?_
      exact kc E (show gW gFull D cy _ base _ _ from (Option.some.inj h) ▸ hM) hS (lv_sub hl [2, 3, 4, 5, 6] rfl)
    · replace h := gif_t c7 h
      refine lv_aload_n hx hb dL_law_992 rfl (lv_at hl 5 rfl) ?_
      refine lv_iconst (v := (0 : Int32)) hx hb dL_law_993 (by decide) ?_
      obtain ⟨c8, h⟩ := gchk_e h
      refine g_lald hx hb E hM hk_77 dd_77 c8 dL_law_994 ?_
      refine lv_iload hx hb dL_law_995 (lv_at hl 0 rfl) ?_
      refine lv_i2l (v := q4.1.toInt64) hx hb dL_law_997 rfl ?_
      refine W.lcmp hx hb dL_law_998 ?_
      refine lv_if_eq (tgt := 1004) hx hb dL_law_999 (by decide) (fun c9 => ?_) (fun c9 => ?_)
      · replace c9 := (lg_cmp_eq _ _).mp c9
        replace h := gif_t c9 h
        refine lv_goto (tgt := 2764) hx hb dL_law_1004 (by decide) ?_
        refine W.widen (k := cells + 2) (n := slots + 12) (by omega) (by omega) ?_
        exact kc E (show gW gFull D cy _ base _ _ from (Option.some.inj h) ▸ hM) hS (lv_sub hl [2, 3, 4, 5, 6] rfl)
      · replace c9 := fun w => c9 ((lg_cmp_eq _ _).mpr w)
        replace h := gif_f c9 h
        refine lv_iconst (v := (0 : Int32)) hx hb dL_law_1002 (by decide) ?_
        cases h
  · replace h := gif_f c6 h
    refine lv_iconst (v := (0 : Int32)) hx hb dL_law_985 (by decide) ?_
    cases h
def f_case_18 (s1 : Int32) (μ : gM) : Option gM :=
  Option.bind (f_L_collimationEffect s1 μ) (fun q2 => Option.bind (f_X8_collimationEffect s1 q2.2) (fun q4 => Option.bind (f_X8_thrown  q4.2) (fun q5 => if (q5 = q2.1) then if (q2.1 = 0) then gchk (gIn (0 : Int32) 1) (if ((gl q4.2 77 (0 : Int32).toNatClampNeg) = q4.1.toInt64) then some q4.2 else none) else some q4.2 else none)))
set_option maxHeartbeats 4000000 in
set_option maxRecDepth 100000 in
theorem w_case_18 {s1 : Int32} {x4 : Int32} {μ μ2 : gM} (h : f_case_18 s1 μ = some μ2) (hx : p.tables.exec = Jvm.exec) (hb : c.code = cL_law) (hml : c.maxLocals = 8) (hown : s.vm.findClass RL = some m.cls) (hX : va_X b L xs s s.heap) (hbl : b < s.heap.size) (hbA : ¬ gA base b) (h1 : scrAt L xs x4 1 s1) (E : gEnv l D cy ad base s) (hM : gW gFull D cy ad base μ H) (hS : va_S (gA base) s.heap H locs) (hc : cells + 2 ≤ room_1.cells) (hs : slots + 12 ≤ room_1.slots) {ls : Array Slot} (hl : lv_has ls 8 [(0, .ref b), (1, .ref (ad 0)), (2, .ref (ad 60)), (3, .ref (ad 77)), (4, .int x4)]) (kc : ∀ {ad : Nat → Nat} {H : Heap} {locs : List Loc} {ls : Array Slot}, gEnv l D cy ad base s → gW gFull D cy ad base μ2 H → va_S (gA base) s.heap H locs → lv_has ls 8 [(0, .ref b), (1, .ref (ad 0)), (2, .ref (ad 60)), (3, .ref (ad 77)), (4, .int x4)] → W p l e room_1 s m args below meth c H locs (cells + 2) (slots + 12) Q (F0 m 2764 ls [])) : W p l e room_1 s m args below meth c H locs cells slots Q (F0 m 1007 ls []) := by
  unfold f_case_18 at h
  refine lv_aload_n hx hb dL_law_1007 rfl (lv_at hl 1 rfl) ?_
  refine lv_aload_n hx hb dL_law_1008 rfl (lv_at hl 0 rfl) ?_
  refine lv_iload hx hb dL_law_1009 (lv_at hl 4 rfl) ?_
  refine lv_iconst (v := (1 : Int32)) hx hb dL_law_1011 (by decide) ?_
  refine lv_iadd hx hb dL_law_1012 ?_
  refine g_scr hx hb hX hbl hbA hS h1 dL_law_1013 ?_
  refine lv_aload_n hx hb dL_law_1014 rfl (lv_at hl 3 rfl) ?_
  obtain ⟨q2, hq2, h⟩ := gbind_e h
  refine g_callSW (As := [.ref (ad 0), .int s1, .ref (ad 77)]) (rest := []) hx hb (hml.trans hl.1.symm) hown E hM hS hyw_L_collimationEffect kw_1048 (c_L_collimationEffect hq2) rfl rfl (Nat.le_of_ble_eq_true rfl) ⟨Nat.le_of_ble_eq_true rfl, Nat.le_of_ble_eq_true rfl⟩ ⟨by omega, by omega⟩ dL_law_1015 (fun H locs hM hS => ?_)
  refine lv_istore (lv' := [(5, .int q2.1), (0, .ref b), (1, .ref (ad 0)), (2, .ref (ad 60)), (3, .ref (ad 77)), (4, .int x4)]) hx hb dL_law_1018 hl (by decide) rfl (fun ls hl => ?_)
  refine lv_aload_n hx hb dL_law_1020 rfl (lv_at hl 3 rfl) ?_
  refine lv_aload_n hx hb dL_law_1021 rfl (lv_at hl 1 rfl) ?_
  refine lv_iload hx hb dL_law_1022 (lv_at hl 5 rfl) ?_
  refine lv_iconst (v := (1 : Int32)) hx hb dL_law_1024 (by decide) ?_
  refine lv_iadd hx hb dL_law_1025 ?_
  refine g_scr hx hb hX hbl hbA hS h1 dL_law_1026 ?_
  obtain ⟨q4, hq4, h⟩ := gbind_e h
  refine g_callV (As := [.int s1]) (rest := []) hx hb (hml.trans hl.1.symm) hown E hM hS hy_X8_collimationEffect kw_1628 (c_X8_collimationEffect hq4) hk_60 dd_60 rfl rfl rfl (Nat.le_of_ble_eq_true rfl) ⟨Nat.le_of_ble_eq_true rfl, Nat.le_of_ble_eq_true rfl⟩ ⟨by omega, by omega⟩ dL_law_1027 (fun H locs hM hS => ?_)
  refine lv_istore (lv' := [(6, .int q4.1), (5, .int q2.1), (0, .ref b), (1, .ref (ad 0)), (2, .ref (ad 60)), (3, .ref (ad 77)), (4, .int x4)]) hx hb dL_law_1030 hl (by decide) rfl (fun ls hl => ?_)
  refine lv_aload_n hx hb dL_law_1032 rfl (lv_at hl 4 rfl) ?_
  obtain ⟨q5, hq5, h⟩ := gbind_e h
  refine g_callV (As := []) (rest := []) hx hb (hml.trans hl.1.symm) hown E hM hS hy_X8_thrown kw_1351 (c_X8_thrown hq5) hk_60 dd_60 rfl rfl rfl (Nat.le_of_ble_eq_true rfl) ⟨Nat.le_of_ble_eq_true rfl, Nat.le_of_ble_eq_true rfl⟩ ⟨by omega, by omega⟩ dL_law_1033 (fun H locs hM hS => ?_)
  refine lv_iload hx hb dL_law_1036 (lv_at hl 1 rfl) ?_
  refine lv_icmp_eq (tgt := 1043) hx hb dL_law_1038 (by decide) (fun c6 => ?_) (fun c6 => ?_)
  · replace h := gif_t c6 h
    refine lv_iload hx hb dL_law_1043 (lv_at hl 1 rfl) ?_
    refine lv_if_ne (tgt := 1060) hx hb dL_law_1045 (by decide) (fun c7 => ?_) (fun c7 => ?_)
    · replace h := gif_f c7 h
      refine lv_goto (tgt := 2764) hx hb dL_law_1060 (by decide) ?_
      refine W.widen (k := cells + 2) (n := slots + 12) (by omega) (by omega) ?_
      exact kc E (show gW gFull D cy _ base _ _ from (Option.some.inj h) ▸ hM) hS (lv_sub hl [2, 3, 4, 5, 6] rfl)
    · replace h := gif_t c7 h
      refine lv_aload_n hx hb dL_law_1048 rfl (lv_at hl 5 rfl) ?_
      refine lv_iconst (v := (0 : Int32)) hx hb dL_law_1049 (by decide) ?_
      obtain ⟨c8, h⟩ := gchk_e h
      refine g_lald hx hb E hM hk_77 dd_77 c8 dL_law_1050 ?_
      refine lv_iload hx hb dL_law_1051 (lv_at hl 0 rfl) ?_
      refine lv_i2l (v := q4.1.toInt64) hx hb dL_law_1053 rfl ?_
      refine W.lcmp hx hb dL_law_1054 ?_
      refine lv_if_eq (tgt := 1060) hx hb dL_law_1055 (by decide) (fun c9 => ?_) (fun c9 => ?_)
      · replace c9 := (lg_cmp_eq _ _).mp c9
        replace h := gif_t c9 h
        refine lv_goto (tgt := 2764) hx hb dL_law_1060 (by decide) ?_
        refine W.widen (k := cells + 2) (n := slots + 12) (by omega) (by omega) ?_
        exact kc E (show gW gFull D cy _ base _ _ from (Option.some.inj h) ▸ hM) hS (lv_sub hl [2, 3, 4, 5, 6] rfl)
      · replace c9 := fun w => c9 ((lg_cmp_eq _ _).mpr w)
        replace h := gif_f c9 h
        refine lv_iconst (v := (0 : Int32)) hx hb dL_law_1058 (by decide) ?_
        cases h
  · replace h := gif_f c6 h
    refine lv_iconst (v := (0 : Int32)) hx hb dL_law_1041 (by decide) ?_
    cases h
def f_case_19 (s1 : Int32) (μ : gM) : Option gM :=
  Option.bind (f_L_imbalance s1 μ) (fun q2 => Option.bind (f_X8_imbalance s1 q2.2) (fun q4 => Option.bind (f_X8_thrown  q4.2) (fun q5 => if (q5 = q2.1) then if (q2.1 = 0) then gchk (gIn (0 : Int32) 1) (if ((gl q4.2 77 (0 : Int32).toNatClampNeg) = q4.1.toInt64) then some q4.2 else none) else some q4.2 else none)))
set_option maxHeartbeats 4000000 in
set_option maxRecDepth 100000 in
theorem w_case_19 {s1 : Int32} {x4 : Int32} {μ μ2 : gM} (h : f_case_19 s1 μ = some μ2) (hx : p.tables.exec = Jvm.exec) (hb : c.code = cL_law) (hml : c.maxLocals = 8) (hown : s.vm.findClass RL = some m.cls) (hX : va_X b L xs s s.heap) (hbl : b < s.heap.size) (hbA : ¬ gA base b) (h1 : scrAt L xs x4 1 s1) (E : gEnv l D cy ad base s) (hM : gW gFull D cy ad base μ H) (hS : va_S (gA base) s.heap H locs) (hc : cells + 2 ≤ room_1.cells) (hs : slots + 12 ≤ room_1.slots) {ls : Array Slot} (hl : lv_has ls 8 [(0, .ref b), (1, .ref (ad 0)), (2, .ref (ad 60)), (3, .ref (ad 77)), (4, .int x4)]) (kc : ∀ {ad : Nat → Nat} {H : Heap} {locs : List Loc} {ls : Array Slot}, gEnv l D cy ad base s → gW gFull D cy ad base μ2 H → va_S (gA base) s.heap H locs → lv_has ls 8 [(0, .ref b), (1, .ref (ad 0)), (2, .ref (ad 60)), (3, .ref (ad 77)), (4, .int x4)] → W p l e room_1 s m args below meth c H locs (cells + 2) (slots + 12) Q (F0 m 2764 ls [])) : W p l e room_1 s m args below meth c H locs cells slots Q (F0 m 1063 ls []) := by
  unfold f_case_19 at h
  refine lv_aload_n hx hb dL_law_1063 rfl (lv_at hl 1 rfl) ?_
  refine lv_aload_n hx hb dL_law_1064 rfl (lv_at hl 0 rfl) ?_
  refine lv_iload hx hb dL_law_1065 (lv_at hl 4 rfl) ?_
  refine lv_iconst (v := (1 : Int32)) hx hb dL_law_1067 (by decide) ?_
  refine lv_iadd hx hb dL_law_1068 ?_
  refine g_scr hx hb hX hbl hbA hS h1 dL_law_1069 ?_
  refine lv_aload_n hx hb dL_law_1070 rfl (lv_at hl 3 rfl) ?_
  obtain ⟨q2, hq2, h⟩ := gbind_e h
  refine g_callSW (As := [.ref (ad 0), .int s1, .ref (ad 77)]) (rest := []) hx hb (hml.trans hl.1.symm) hown E hM hS hyw_L_imbalance kw_1059 (c_L_imbalance hq2) rfl rfl (Nat.le_of_ble_eq_true rfl) ⟨Nat.le_of_ble_eq_true rfl, Nat.le_of_ble_eq_true rfl⟩ ⟨by omega, by omega⟩ dL_law_1071 (fun H locs hM hS => ?_)
  refine lv_istore (lv' := [(5, .int q2.1), (0, .ref b), (1, .ref (ad 0)), (2, .ref (ad 60)), (3, .ref (ad 77)), (4, .int x4)]) hx hb dL_law_1074 hl (by decide) rfl (fun ls hl => ?_)
  refine lv_aload_n hx hb dL_law_1076 rfl (lv_at hl 3 rfl) ?_
  refine lv_aload_n hx hb dL_law_1077 rfl (lv_at hl 1 rfl) ?_
  refine lv_iload hx hb dL_law_1078 (lv_at hl 5 rfl) ?_
  refine lv_iconst (v := (1 : Int32)) hx hb dL_law_1080 (by decide) ?_
  refine lv_iadd hx hb dL_law_1081 ?_
  refine g_scr hx hb hX hbl hbA hS h1 dL_law_1082 ?_
  obtain ⟨q4, hq4, h⟩ := gbind_e h
  refine g_callV (As := [.int s1]) (rest := []) hx hb (hml.trans hl.1.symm) hown E hM hS hy_X8_imbalance kw_1636 (c_X8_imbalance hq4) hk_60 dd_60 rfl rfl rfl (Nat.le_of_ble_eq_true rfl) ⟨Nat.le_of_ble_eq_true rfl, Nat.le_of_ble_eq_true rfl⟩ ⟨by omega, by omega⟩ dL_law_1083 (fun H locs hM hS => ?_)
  refine lv_istore (lv' := [(6, .int q4.1), (5, .int q2.1), (0, .ref b), (1, .ref (ad 0)), (2, .ref (ad 60)), (3, .ref (ad 77)), (4, .int x4)]) hx hb dL_law_1086 hl (by decide) rfl (fun ls hl => ?_)
  refine lv_aload_n hx hb dL_law_1088 rfl (lv_at hl 4 rfl) ?_
  obtain ⟨q5, hq5, h⟩ := gbind_e h
  refine g_callV (As := []) (rest := []) hx hb (hml.trans hl.1.symm) hown E hM hS hy_X8_thrown kw_1351 (c_X8_thrown hq5) hk_60 dd_60 rfl rfl rfl (Nat.le_of_ble_eq_true rfl) ⟨Nat.le_of_ble_eq_true rfl, Nat.le_of_ble_eq_true rfl⟩ ⟨by omega, by omega⟩ dL_law_1089 (fun H locs hM hS => ?_)
  refine lv_iload hx hb dL_law_1092 (lv_at hl 1 rfl) ?_
  refine lv_icmp_eq (tgt := 1099) hx hb dL_law_1094 (by decide) (fun c6 => ?_) (fun c6 => ?_)
  · replace h := gif_t c6 h
    refine lv_iload hx hb dL_law_1099 (lv_at hl 1 rfl) ?_
    refine lv_if_ne (tgt := 1116) hx hb dL_law_1101 (by decide) (fun c7 => ?_) (fun c7 => ?_)
    · replace h := gif_f c7 h
      refine lv_goto (tgt := 2764) hx hb dL_law_1116 (by decide) ?_
      refine W.widen (k := cells + 2) (n := slots + 12) (by omega) (by omega) ?_
      exact kc E (show gW gFull D cy _ base _ _ from (Option.some.inj h) ▸ hM) hS (lv_sub hl [2, 3, 4, 5, 6] rfl)
    · replace h := gif_t c7 h
      refine lv_aload_n hx hb dL_law_1104 rfl (lv_at hl 5 rfl) ?_
      refine lv_iconst (v := (0 : Int32)) hx hb dL_law_1105 (by decide) ?_
      obtain ⟨c8, h⟩ := gchk_e h
      refine g_lald hx hb E hM hk_77 dd_77 c8 dL_law_1106 ?_
      refine lv_iload hx hb dL_law_1107 (lv_at hl 0 rfl) ?_
      refine lv_i2l (v := q4.1.toInt64) hx hb dL_law_1109 rfl ?_
      refine W.lcmp hx hb dL_law_1110 ?_
      refine lv_if_eq (tgt := 1116) hx hb dL_law_1111 (by decide) (fun c9 => ?_) (fun c9 => ?_)
      · replace c9 := (lg_cmp_eq _ _).mp c9
        replace h := gif_t c9 h
        refine lv_goto (tgt := 2764) hx hb dL_law_1116 (by decide) ?_
        refine W.widen (k := cells + 2) (n := slots + 12) (by omega) (by omega) ?_
        exact kc E (show gW gFull D cy _ base _ _ from (Option.some.inj h) ▸ hM) hS (lv_sub hl [2, 3, 4, 5, 6] rfl)
      · replace c9 := fun w => c9 ((lg_cmp_eq _ _).mpr w)
        replace h := gif_f c9 h
        refine lv_iconst (v := (0 : Int32)) hx hb dL_law_1114 (by decide) ?_
        cases h
  · replace h := gif_f c6 h
    refine lv_iconst (v := (0 : Int32)) hx hb dL_law_1097 (by decide) ?_
    cases h
def f_case_20 (s1 : Int32) (μ : gM) : Option gM :=
  Option.bind (f_L_faultsOf s1 μ) (fun q2 => Option.bind (f_X8_faultsOf s1 q2.2) (fun q4 => Option.bind (f_X8_thrown  q4.2) (fun q5 => if (q5 = q2.1) then if (q2.1 = 0) then gchk (gIn (0 : Int32) 1) (if ((gl q4.2 77 (0 : Int32).toNatClampNeg) = q4.1.toInt64) then some q4.2 else none) else some q4.2 else none)))
set_option maxHeartbeats 4000000 in
set_option maxRecDepth 100000 in
theorem w_case_20 {s1 : Int32} {x4 : Int32} {μ μ2 : gM} (h : f_case_20 s1 μ = some μ2) (hx : p.tables.exec = Jvm.exec) (hb : c.code = cL_law) (hml : c.maxLocals = 8) (hown : s.vm.findClass RL = some m.cls) (hX : va_X b L xs s s.heap) (hbl : b < s.heap.size) (hbA : ¬ gA base b) (h1 : scrAt L xs x4 1 s1) (E : gEnv l D cy ad base s) (hM : gW gFull D cy ad base μ H) (hS : va_S (gA base) s.heap H locs) (hc : cells + 2 ≤ room_1.cells) (hs : slots + 12 ≤ room_1.slots) {ls : Array Slot} (hl : lv_has ls 8 [(0, .ref b), (1, .ref (ad 0)), (2, .ref (ad 60)), (3, .ref (ad 77)), (4, .int x4)]) (kc : ∀ {ad : Nat → Nat} {H : Heap} {locs : List Loc} {ls : Array Slot}, gEnv l D cy ad base s → gW gFull D cy ad base μ2 H → va_S (gA base) s.heap H locs → lv_has ls 8 [(0, .ref b), (1, .ref (ad 0)), (2, .ref (ad 60)), (3, .ref (ad 77)), (4, .int x4)] → W p l e room_1 s m args below meth c H locs (cells + 2) (slots + 12) Q (F0 m 2764 ls [])) : W p l e room_1 s m args below meth c H locs cells slots Q (F0 m 1119 ls []) := by
  unfold f_case_20 at h
  refine lv_aload_n hx hb dL_law_1119 rfl (lv_at hl 1 rfl) ?_
  refine lv_aload_n hx hb dL_law_1120 rfl (lv_at hl 0 rfl) ?_
  refine lv_iload hx hb dL_law_1121 (lv_at hl 4 rfl) ?_
  refine lv_iconst (v := (1 : Int32)) hx hb dL_law_1123 (by decide) ?_
  refine lv_iadd hx hb dL_law_1124 ?_
  refine g_scr hx hb hX hbl hbA hS h1 dL_law_1125 ?_
  refine lv_aload_n hx hb dL_law_1126 rfl (lv_at hl 3 rfl) ?_
  obtain ⟨q2, hq2, h⟩ := gbind_e h
  refine g_callSW (As := [.ref (ad 0), .int s1, .ref (ad 77)]) (rest := []) hx hb (hml.trans hl.1.symm) hown E hM hS hyw_L_faultsOf kw_1066 (c_L_faultsOf hq2) rfl rfl (Nat.le_of_ble_eq_true rfl) ⟨Nat.le_of_ble_eq_true rfl, Nat.le_of_ble_eq_true rfl⟩ ⟨by omega, by omega⟩ dL_law_1127 (fun H locs hM hS => ?_)
  refine lv_istore (lv' := [(5, .int q2.1), (0, .ref b), (1, .ref (ad 0)), (2, .ref (ad 60)), (3, .ref (ad 77)), (4, .int x4)]) hx hb dL_law_1130 hl (by decide) rfl (fun ls hl => ?_)
  refine lv_aload_n hx hb dL_law_1132 rfl (lv_at hl 3 rfl) ?_
  refine lv_aload_n hx hb dL_law_1133 rfl (lv_at hl 1 rfl) ?_
  refine lv_iload hx hb dL_law_1134 (lv_at hl 5 rfl) ?_
  refine lv_iconst (v := (1 : Int32)) hx hb dL_law_1136 (by decide) ?_
  refine lv_iadd hx hb dL_law_1137 ?_
  refine g_scr hx hb hX hbl hbA hS h1 dL_law_1138 ?_
  obtain ⟨q4, hq4, h⟩ := gbind_e h
  refine g_callV (As := [.int s1]) (rest := []) hx hb (hml.trans hl.1.symm) hown E hM hS hy_X8_faultsOf kw_1640 (c_X8_faultsOf hq4) hk_60 dd_60 rfl rfl rfl (Nat.le_of_ble_eq_true rfl) ⟨Nat.le_of_ble_eq_true rfl, Nat.le_of_ble_eq_true rfl⟩ ⟨by omega, by omega⟩ dL_law_1139 (fun H locs hM hS => ?_)
  refine lv_istore (lv' := [(6, .int q4.1), (5, .int q2.1), (0, .ref b), (1, .ref (ad 0)), (2, .ref (ad 60)), (3, .ref (ad 77)), (4, .int x4)]) hx hb dL_law_1142 hl (by decide) rfl (fun ls hl => ?_)
  refine lv_aload_n hx hb dL_law_1144 rfl (lv_at hl 4 rfl) ?_
  obtain ⟨q5, hq5, h⟩ := gbind_e h
  refine g_callV (As := []) (rest := []) hx hb (hml.trans hl.1.symm) hown E hM hS hy_X8_thrown kw_1351 (c_X8_thrown hq5) hk_60 dd_60 rfl rfl rfl (Nat.le_of_ble_eq_true rfl) ⟨Nat.le_of_ble_eq_true rfl, Nat.le_of_ble_eq_true rfl⟩ ⟨by omega, by omega⟩ dL_law_1145 (fun H locs hM hS => ?_)
  refine lv_iload hx hb dL_law_1148 (lv_at hl 1 rfl) ?_
  refine lv_icmp_eq (tgt := 1155) hx hb dL_law_1150 (by decide) (fun c6 => ?_) (fun c6 => ?_)
  · replace h := gif_t c6 h
    refine lv_iload hx hb dL_law_1155 (lv_at hl 1 rfl) ?_
    refine lv_if_ne (tgt := 1172) hx hb dL_law_1157 (by decide) (fun c7 => ?_) (fun c7 => ?_)
    · replace h := gif_f c7 h
      refine lv_goto (tgt := 2764) hx hb dL_law_1172 (by decide) ?_
      refine W.widen (k := cells + 2) (n := slots + 12) (by omega) (by omega) ?_
      exact kc E (show gW gFull D cy _ base _ _ from (Option.some.inj h) ▸ hM) hS (lv_sub hl [2, 3, 4, 5, 6] rfl)
    · replace h := gif_t c7 h
      refine lv_aload_n hx hb dL_law_1160 rfl (lv_at hl 5 rfl) ?_
      refine lv_iconst (v := (0 : Int32)) hx hb dL_law_1161 (by decide) ?_
      obtain ⟨c8, h⟩ := gchk_e h
      refine g_lald hx hb E hM hk_77 dd_77 c8 dL_law_1162 ?_
      refine lv_iload hx hb dL_law_1163 (lv_at hl 0 rfl) ?_
      refine lv_i2l (v := q4.1.toInt64) hx hb dL_law_1165 rfl ?_
      refine W.lcmp hx hb dL_law_1166 ?_
      refine lv_if_eq (tgt := 1172) hx hb dL_law_1167 (by decide) (fun c9 => ?_) (fun c9 => ?_)
      · replace c9 := (lg_cmp_eq _ _).mp c9
        replace h := gif_t c9 h
        refine lv_goto (tgt := 2764) hx hb dL_law_1172 (by decide) ?_
        refine W.widen (k := cells + 2) (n := slots + 12) (by omega) (by omega) ?_
        exact kc E (show gW gFull D cy _ base _ _ from (Option.some.inj h) ▸ hM) hS (lv_sub hl [2, 3, 4, 5, 6] rfl)
      · replace c9 := fun w => c9 ((lg_cmp_eq _ _).mpr w)
        replace h := gif_f c9 h
        refine lv_iconst (v := (0 : Int32)) hx hb dL_law_1170 (by decide) ?_
        cases h
  · replace h := gif_f c6 h
    refine lv_iconst (v := (0 : Int32)) hx hb dL_law_1153 (by decide) ?_
    cases h
def f_case_21 (s1 : Int32) (s2 : Int32) (μ : gM) : Option gM :=
  Option.bind (f_L_turningHeight s1 s2 μ) (fun q3 => Option.bind (f_X8_turningHeight s1 s2 q3.2) (fun q6 => Option.bind (f_X8_thrown  q6.2) (fun q7 => if (q7 = q3.1) then if (q3.1 = 0) then gchk (gIn (0 : Int32) 1) (if ((gl q6.2 77 (0 : Int32).toNatClampNeg) = q6.1) then some q6.2 else none) else some q6.2 else none)))
set_option maxHeartbeats 4000000 in
set_option maxRecDepth 100000 in
theorem w_case_21 {s1 : Int32} {s2 : Int32} {x4 : Int32} {μ μ2 : gM} (h : f_case_21 s1 s2 μ = some μ2) (hx : p.tables.exec = Jvm.exec) (hb : c.code = cL_law) (hml : c.maxLocals = 8) (hown : s.vm.findClass RL = some m.cls) (hX : va_X b L xs s s.heap) (hbl : b < s.heap.size) (hbA : ¬ gA base b) (h1 : scrAt L xs x4 1 s1) (h2 : scrAt L xs x4 2 s2) (E : gEnv l D cy ad base s) (hM : gW gFull D cy ad base μ H) (hS : va_S (gA base) s.heap H locs) (hc : cells + 2 ≤ room_1.cells) (hs : slots + 12 ≤ room_1.slots) {ls : Array Slot} (hl : lv_has ls 8 [(0, .ref b), (1, .ref (ad 0)), (2, .ref (ad 60)), (3, .ref (ad 77)), (4, .int x4)]) (kc : ∀ {ad : Nat → Nat} {H : Heap} {locs : List Loc} {ls : Array Slot}, gEnv l D cy ad base s → gW gFull D cy ad base μ2 H → va_S (gA base) s.heap H locs → lv_has ls 8 [(0, .ref b), (1, .ref (ad 0)), (2, .ref (ad 60)), (3, .ref (ad 77)), (4, .int x4)] → W p l e room_1 s m args below meth c H locs (cells + 2) (slots + 12) Q (F0 m 2764 ls [])) : W p l e room_1 s m args below meth c H locs cells slots Q (F0 m 1175 ls []) := by
  unfold f_case_21 at h
  refine lv_aload_n hx hb dL_law_1175 rfl (lv_at hl 1 rfl) ?_
  refine lv_aload_n hx hb dL_law_1176 rfl (lv_at hl 0 rfl) ?_
  refine lv_iload hx hb dL_law_1177 (lv_at hl 4 rfl) ?_
  refine lv_iconst (v := (1 : Int32)) hx hb dL_law_1179 (by decide) ?_
  refine lv_iadd hx hb dL_law_1180 ?_
  refine g_scr hx hb hX hbl hbA hS h1 dL_law_1181 ?_
  refine lv_aload_n hx hb dL_law_1182 rfl (lv_at hl 0 rfl) ?_
  refine lv_iload hx hb dL_law_1183 (lv_at hl 4 rfl) ?_
  refine lv_iconst (v := (2 : Int32)) hx hb dL_law_1185 (by decide) ?_
  refine lv_iadd hx hb dL_law_1186 ?_
  refine g_scr hx hb hX hbl hbA hS h2 dL_law_1187 ?_
  refine lv_aload_n hx hb dL_law_1188 rfl (lv_at hl 3 rfl) ?_
  obtain ⟨q3, hq3, h⟩ := gbind_e h
  refine g_callSW (As := [.ref (ad 0), .int s1, .int s2, .ref (ad 77)]) (rest := []) hx hb (hml.trans hl.1.symm) hown E hM hS hyw_L_turningHeight kw_1078 (c_L_turningHeight hq3) rfl rfl (Nat.le_of_ble_eq_true rfl) ⟨Nat.le_of_ble_eq_true rfl, Nat.le_of_ble_eq_true rfl⟩ ⟨by omega, by omega⟩ dL_law_1189 (fun H locs hM hS => ?_)
  refine lv_istore (lv' := [(5, .int q3.1), (0, .ref b), (1, .ref (ad 0)), (2, .ref (ad 60)), (3, .ref (ad 77)), (4, .int x4)]) hx hb dL_law_1192 hl (by decide) rfl (fun ls hl => ?_)
  refine lv_aload_n hx hb dL_law_1194 rfl (lv_at hl 3 rfl) ?_
  refine lv_aload_n hx hb dL_law_1195 rfl (lv_at hl 1 rfl) ?_
  refine lv_iload hx hb dL_law_1196 (lv_at hl 5 rfl) ?_
  refine lv_iconst (v := (1 : Int32)) hx hb dL_law_1198 (by decide) ?_
  refine lv_iadd hx hb dL_law_1199 ?_
  refine g_scr hx hb hX hbl hbA hS h1 dL_law_1200 ?_
  refine lv_aload_n hx hb dL_law_1201 rfl (lv_at hl 1 rfl) ?_
  refine lv_iload hx hb dL_law_1202 (lv_at hl 5 rfl) ?_
  refine lv_iconst (v := (2 : Int32)) hx hb dL_law_1204 (by decide) ?_
  refine lv_iadd hx hb dL_law_1205 ?_
  refine g_scr hx hb hX hbl hbA hS h2 dL_law_1206 ?_
  obtain ⟨q6, hq6, h⟩ := gbind_e h
  refine g_callV (As := [.int s1, .int s2]) (rest := []) hx hb (hml.trans hl.1.symm) hown E hM hS hy_X8_turningHeight kw_1837 (c_X8_turningHeight hq6) hk_60 dd_60 rfl rfl rfl (Nat.le_of_ble_eq_true rfl) ⟨Nat.le_of_ble_eq_true rfl, Nat.le_of_ble_eq_true rfl⟩ ⟨by omega, by omega⟩ dL_law_1207 (fun H locs hM hS => ?_)
  refine lv_lstore (lv' := [(6, .long q6.1), (5, .int q3.1), (0, .ref b), (1, .ref (ad 0)), (2, .ref (ad 60)), (3, .ref (ad 77)), (4, .int x4)]) hx hb dL_law_1210 hl (by decide) rfl (fun ls hl => ?_)
  refine lv_aload_n hx hb dL_law_1212 rfl (lv_at hl 4 rfl) ?_
  obtain ⟨q7, hq7, h⟩ := gbind_e h
  refine g_callV (As := []) (rest := []) hx hb (hml.trans hl.1.symm) hown E hM hS hy_X8_thrown kw_1351 (c_X8_thrown hq7) hk_60 dd_60 rfl rfl rfl (Nat.le_of_ble_eq_true rfl) ⟨Nat.le_of_ble_eq_true rfl, Nat.le_of_ble_eq_true rfl⟩ ⟨by omega, by omega⟩ dL_law_1213 (fun H locs hM hS => ?_)
  refine lv_iload hx hb dL_law_1216 (lv_at hl 1 rfl) ?_
  refine lv_icmp_eq (tgt := 1223) hx hb dL_law_1218 (by decide) (fun c8 => ?_) (fun c8 => ?_)
  · replace h := gif_t c8 h
    refine lv_iload hx hb dL_law_1223 (lv_at hl 1 rfl) ?_
    refine lv_if_ne (tgt := 1239) hx hb dL_law_1225 (by decide) (fun c9 => ?_) (fun c9 => ?_)
    · replace h := gif_f c9 h
      refine lv_goto (tgt := 2764) hx hb dL_law_1239 (by decide) ?_
      refine W.widen (k := cells + 2) (n := slots + 12) (by omega) (by omega) ?_
      exact kc E (show gW gFull D cy _ base _ _ from (Option.some.inj h) ▸ hM) hS (lv_sub hl [2, 3, 4, 5, 6] rfl)
    · replace h := gif_t c9 h
      refine lv_aload_n hx hb dL_law_1228 rfl (lv_at hl 5 rfl) ?_
      refine lv_iconst (v := (0 : Int32)) hx hb dL_law_1229 (by decide) ?_
      obtain ⟨c10, h⟩ := gchk_e h
      refine g_lald hx hb E hM hk_77 dd_77 c10 dL_law_1230 ?_
      refine lv_lload hx hb dL_law_1231 (lv_at hl 0 rfl) ?_
      refine W.lcmp hx hb dL_law_1233 ?_
      refine lv_if_eq (tgt := 1239) hx hb dL_law_1234 (by decide) (fun c11 => ?_) (fun c11 => ?_)
      · replace c11 := (lg_cmp_eq _ _).mp c11
        replace h := gif_t c11 h
        refine lv_goto (tgt := 2764) hx hb dL_law_1239 (by decide) ?_
        refine W.widen (k := cells + 2) (n := slots + 12) (by omega) (by omega) ?_
        exact kc E (show gW gFull D cy _ base _ _ from (Option.some.inj h) ▸ hM) hS (lv_sub hl [2, 3, 4, 5, 6] rfl)
      · replace c11 := fun w => c11 ((lg_cmp_eq _ _).mpr w)
        replace h := gif_f c11 h
        refine lv_iconst (v := (0 : Int32)) hx hb dL_law_1237 (by decide) ?_
        cases h
  · replace h := gif_f c8 h
    refine lv_iconst (v := (0 : Int32)) hx hb dL_law_1221 (by decide) ?_
    cases h
def f_case_22 (s1 : Int32) (μ : gM) : Option gM :=
  Option.bind (f_L_pairOf s1 μ) (fun q2 => Option.bind (f_X8_pairOf s1 q2.2) (fun q4 => Option.bind (f_X8_thrown  q4.2) (fun q5 => if (q5 = q2.1) then if (q2.1 = 0) then gchk (gIn (0 : Int32) 1) (if ((gl q4.2 77 (0 : Int32).toNatClampNeg) = q4.1.toInt64) then some q4.2 else none) else some q4.2 else none)))
set_option maxHeartbeats 4000000 in
set_option maxRecDepth 100000 in
theorem w_case_22 {s1 : Int32} {x4 : Int32} {μ μ2 : gM} (h : f_case_22 s1 μ = some μ2) (hx : p.tables.exec = Jvm.exec) (hb : c.code = cL_law) (hml : c.maxLocals = 8) (hown : s.vm.findClass RL = some m.cls) (hX : va_X b L xs s s.heap) (hbl : b < s.heap.size) (hbA : ¬ gA base b) (h1 : scrAt L xs x4 1 s1) (E : gEnv l D cy ad base s) (hM : gW gFull D cy ad base μ H) (hS : va_S (gA base) s.heap H locs) (hc : cells + 2 ≤ room_1.cells) (hs : slots + 12 ≤ room_1.slots) {ls : Array Slot} (hl : lv_has ls 8 [(0, .ref b), (1, .ref (ad 0)), (2, .ref (ad 60)), (3, .ref (ad 77)), (4, .int x4)]) (kc : ∀ {ad : Nat → Nat} {H : Heap} {locs : List Loc} {ls : Array Slot}, gEnv l D cy ad base s → gW gFull D cy ad base μ2 H → va_S (gA base) s.heap H locs → lv_has ls 8 [(0, .ref b), (1, .ref (ad 0)), (2, .ref (ad 60)), (3, .ref (ad 77)), (4, .int x4)] → W p l e room_1 s m args below meth c H locs (cells + 2) (slots + 12) Q (F0 m 2764 ls [])) : W p l e room_1 s m args below meth c H locs cells slots Q (F0 m 1242 ls []) := by
  unfold f_case_22 at h
  refine lv_aload_n hx hb dL_law_1242 rfl (lv_at hl 1 rfl) ?_
  refine lv_aload_n hx hb dL_law_1243 rfl (lv_at hl 0 rfl) ?_
  refine lv_iload hx hb dL_law_1244 (lv_at hl 4 rfl) ?_
  refine lv_iconst (v := (1 : Int32)) hx hb dL_law_1246 (by decide) ?_
  refine lv_iadd hx hb dL_law_1247 ?_
  refine g_scr hx hb hX hbl hbA hS h1 dL_law_1248 ?_
  refine lv_aload_n hx hb dL_law_1249 rfl (lv_at hl 3 rfl) ?_
  obtain ⟨q2, hq2, h⟩ := gbind_e h
  refine g_callSW (As := [.ref (ad 0), .int s1, .ref (ad 77)]) (rest := []) hx hb (hml.trans hl.1.symm) hown E hM hS hyw_L_pairOf kw_1085 (c_L_pairOf hq2) rfl rfl (Nat.le_of_ble_eq_true rfl) ⟨Nat.le_of_ble_eq_true rfl, Nat.le_of_ble_eq_true rfl⟩ ⟨by omega, by omega⟩ dL_law_1250 (fun H locs hM hS => ?_)
  refine lv_istore (lv' := [(5, .int q2.1), (0, .ref b), (1, .ref (ad 0)), (2, .ref (ad 60)), (3, .ref (ad 77)), (4, .int x4)]) hx hb dL_law_1253 hl (by decide) rfl (fun ls hl => ?_)
  refine lv_aload_n hx hb dL_law_1255 rfl (lv_at hl 3 rfl) ?_
  refine lv_aload_n hx hb dL_law_1256 rfl (lv_at hl 1 rfl) ?_
  refine lv_iload hx hb dL_law_1257 (lv_at hl 5 rfl) ?_
  refine lv_iconst (v := (1 : Int32)) hx hb dL_law_1259 (by decide) ?_
  refine lv_iadd hx hb dL_law_1260 ?_
  refine g_scr hx hb hX hbl hbA hS h1 dL_law_1261 ?_
  obtain ⟨q4, hq4, h⟩ := gbind_e h
  refine g_callV (As := [.int s1]) (rest := []) hx hb (hml.trans hl.1.symm) hown E hM hS hy_X8_pairOf kw_1647 (c_X8_pairOf hq4) hk_60 dd_60 rfl rfl rfl (Nat.le_of_ble_eq_true rfl) ⟨Nat.le_of_ble_eq_true rfl, Nat.le_of_ble_eq_true rfl⟩ ⟨by omega, by omega⟩ dL_law_1262 (fun H locs hM hS => ?_)
  refine lv_istore (lv' := [(6, .int q4.1), (5, .int q2.1), (0, .ref b), (1, .ref (ad 0)), (2, .ref (ad 60)), (3, .ref (ad 77)), (4, .int x4)]) hx hb dL_law_1265 hl (by decide) rfl (fun ls hl => ?_)
  refine lv_aload_n hx hb dL_law_1267 rfl (lv_at hl 4 rfl) ?_
  obtain ⟨q5, hq5, h⟩ := gbind_e h
  refine g_callV (As := []) (rest := []) hx hb (hml.trans hl.1.symm) hown E hM hS hy_X8_thrown kw_1351 (c_X8_thrown hq5) hk_60 dd_60 rfl rfl rfl (Nat.le_of_ble_eq_true rfl) ⟨Nat.le_of_ble_eq_true rfl, Nat.le_of_ble_eq_true rfl⟩ ⟨by omega, by omega⟩ dL_law_1268 (fun H locs hM hS => ?_)
  refine lv_iload hx hb dL_law_1271 (lv_at hl 1 rfl) ?_
  refine lv_icmp_eq (tgt := 1278) hx hb dL_law_1273 (by decide) (fun c6 => ?_) (fun c6 => ?_)
  · replace h := gif_t c6 h
    refine lv_iload hx hb dL_law_1278 (lv_at hl 1 rfl) ?_
    refine lv_if_ne (tgt := 1295) hx hb dL_law_1280 (by decide) (fun c7 => ?_) (fun c7 => ?_)
    · replace h := gif_f c7 h
      refine lv_goto (tgt := 2764) hx hb dL_law_1295 (by decide) ?_
      refine W.widen (k := cells + 2) (n := slots + 12) (by omega) (by omega) ?_
      exact kc E (show gW gFull D cy _ base _ _ from (Option.some.inj h) ▸ hM) hS (lv_sub hl [2, 3, 4, 5, 6] rfl)
    · replace h := gif_t c7 h
      refine lv_aload_n hx hb dL_law_1283 rfl (lv_at hl 5 rfl) ?_
      refine lv_iconst (v := (0 : Int32)) hx hb dL_law_1284 (by decide) ?_
      obtain ⟨c8, h⟩ := gchk_e h
      refine g_lald hx hb E hM hk_77 dd_77 c8 dL_law_1285 ?_
      refine lv_iload hx hb dL_law_1286 (lv_at hl 0 rfl) ?_
      refine lv_i2l (v := q4.1.toInt64) hx hb dL_law_1288 rfl ?_
      refine W.lcmp hx hb dL_law_1289 ?_
      refine lv_if_eq (tgt := 1295) hx hb dL_law_1290 (by decide) (fun c9 => ?_) (fun c9 => ?_)
      · replace c9 := (lg_cmp_eq _ _).mp c9
        replace h := gif_t c9 h
        refine lv_goto (tgt := 2764) hx hb dL_law_1295 (by decide) ?_
        refine W.widen (k := cells + 2) (n := slots + 12) (by omega) (by omega) ?_
        exact kc E (show gW gFull D cy _ base _ _ from (Option.some.inj h) ▸ hM) hS (lv_sub hl [2, 3, 4, 5, 6] rfl)
      · replace c9 := fun w => c9 ((lg_cmp_eq _ _).mpr w)
        replace h := gif_f c9 h
        refine lv_iconst (v := (0 : Int32)) hx hb dL_law_1293 (by decide) ?_
        cases h
  · replace h := gif_f c6 h
    refine lv_iconst (v := (0 : Int32)) hx hb dL_law_1276 (by decide) ?_
    cases h
def f_case_23 (s1 : Int32) (μ : gM) : Option gM :=
  Option.bind (f_L_discrepancy s1 μ) (fun q2 => Option.bind (f_X8_discrepancy s1 q2.2) (fun q4 => Option.bind (f_X8_thrown  q4.2) (fun q5 => if (q5 = q2.1) then if (q2.1 = 0) then gchk (gIn (0 : Int32) 1) (if ((gl q4.2 77 (0 : Int32).toNatClampNeg) = q4.1.toInt64) then some q4.2 else none) else some q4.2 else none)))
set_option maxHeartbeats 4000000 in
set_option maxRecDepth 100000 in
theorem w_case_23 {s1 : Int32} {x4 : Int32} {μ μ2 : gM} (h : f_case_23 s1 μ = some μ2) (hx : p.tables.exec = Jvm.exec) (hb : c.code = cL_law) (hml : c.maxLocals = 8) (hown : s.vm.findClass RL = some m.cls) (hX : va_X b L xs s s.heap) (hbl : b < s.heap.size) (hbA : ¬ gA base b) (h1 : scrAt L xs x4 1 s1) (E : gEnv l D cy ad base s) (hM : gW gFull D cy ad base μ H) (hS : va_S (gA base) s.heap H locs) (hc : cells + 2 ≤ room_1.cells) (hs : slots + 12 ≤ room_1.slots) {ls : Array Slot} (hl : lv_has ls 8 [(0, .ref b), (1, .ref (ad 0)), (2, .ref (ad 60)), (3, .ref (ad 77)), (4, .int x4)]) (kc : ∀ {ad : Nat → Nat} {H : Heap} {locs : List Loc} {ls : Array Slot}, gEnv l D cy ad base s → gW gFull D cy ad base μ2 H → va_S (gA base) s.heap H locs → lv_has ls 8 [(0, .ref b), (1, .ref (ad 0)), (2, .ref (ad 60)), (3, .ref (ad 77)), (4, .int x4)] → W p l e room_1 s m args below meth c H locs (cells + 2) (slots + 12) Q (F0 m 2764 ls [])) : W p l e room_1 s m args below meth c H locs cells slots Q (F0 m 1298 ls []) := by
  unfold f_case_23 at h
  refine lv_aload_n hx hb dL_law_1298 rfl (lv_at hl 1 rfl) ?_
  refine lv_aload_n hx hb dL_law_1299 rfl (lv_at hl 0 rfl) ?_
  refine lv_iload hx hb dL_law_1300 (lv_at hl 4 rfl) ?_
  refine lv_iconst (v := (1 : Int32)) hx hb dL_law_1302 (by decide) ?_
  refine lv_iadd hx hb dL_law_1303 ?_
  refine g_scr hx hb hX hbl hbA hS h1 dL_law_1304 ?_
  refine lv_aload_n hx hb dL_law_1305 rfl (lv_at hl 3 rfl) ?_
  obtain ⟨q2, hq2, h⟩ := gbind_e h
  refine g_callSW (As := [.ref (ad 0), .int s1, .ref (ad 77)]) (rest := []) hx hb (hml.trans hl.1.symm) hown E hM hS hyw_L_discrepancy kw_1096 (c_L_discrepancy hq2) rfl rfl (Nat.le_of_ble_eq_true rfl) ⟨Nat.le_of_ble_eq_true rfl, Nat.le_of_ble_eq_true rfl⟩ ⟨by omega, by omega⟩ dL_law_1306 (fun H locs hM hS => ?_)
  refine lv_istore (lv' := [(5, .int q2.1), (0, .ref b), (1, .ref (ad 0)), (2, .ref (ad 60)), (3, .ref (ad 77)), (4, .int x4)]) hx hb dL_law_1309 hl (by decide) rfl (fun ls hl => ?_)
  refine lv_aload_n hx hb dL_law_1311 rfl (lv_at hl 3 rfl) ?_
  refine lv_aload_n hx hb dL_law_1312 rfl (lv_at hl 1 rfl) ?_
  refine lv_iload hx hb dL_law_1313 (lv_at hl 5 rfl) ?_
  refine lv_iconst (v := (1 : Int32)) hx hb dL_law_1315 (by decide) ?_
  refine lv_iadd hx hb dL_law_1316 ?_
  refine g_scr hx hb hX hbl hbA hS h1 dL_law_1317 ?_
  obtain ⟨q4, hq4, h⟩ := gbind_e h
  refine g_callV (As := [.int s1]) (rest := []) hx hb (hml.trans hl.1.symm) hown E hM hS hy_X8_discrepancy kw_1655 (c_X8_discrepancy hq4) hk_60 dd_60 rfl rfl rfl (Nat.le_of_ble_eq_true rfl) ⟨Nat.le_of_ble_eq_true rfl, Nat.le_of_ble_eq_true rfl⟩ ⟨by omega, by omega⟩ dL_law_1318 (fun H locs hM hS => ?_)
  refine lv_istore (lv' := [(6, .int q4.1), (5, .int q2.1), (0, .ref b), (1, .ref (ad 0)), (2, .ref (ad 60)), (3, .ref (ad 77)), (4, .int x4)]) hx hb dL_law_1321 hl (by decide) rfl (fun ls hl => ?_)
  refine lv_aload_n hx hb dL_law_1323 rfl (lv_at hl 4 rfl) ?_
  obtain ⟨q5, hq5, h⟩ := gbind_e h
  refine g_callV (As := []) (rest := []) hx hb (hml.trans hl.1.symm) hown E hM hS hy_X8_thrown kw_1351 (c_X8_thrown hq5) hk_60 dd_60 rfl rfl rfl (Nat.le_of_ble_eq_true rfl) ⟨Nat.le_of_ble_eq_true rfl, Nat.le_of_ble_eq_true rfl⟩ ⟨by omega, by omega⟩ dL_law_1324 (fun H locs hM hS => ?_)
  refine lv_iload hx hb dL_law_1327 (lv_at hl 1 rfl) ?_
  refine lv_icmp_eq (tgt := 1334) hx hb dL_law_1329 (by decide) (fun c6 => ?_) (fun c6 => ?_)
  · replace h := gif_t c6 h
    refine lv_iload hx hb dL_law_1334 (lv_at hl 1 rfl) ?_
    refine lv_if_ne (tgt := 1351) hx hb dL_law_1336 (by decide) (fun c7 => ?_) (fun c7 => ?_)
    · replace h := gif_f c7 h
      refine lv_goto (tgt := 2764) hx hb dL_law_1351 (by decide) ?_
      refine W.widen (k := cells + 2) (n := slots + 12) (by omega) (by omega) ?_
      exact kc E (show gW gFull D cy _ base _ _ from (Option.some.inj h) ▸ hM) hS (lv_sub hl [2, 3, 4, 5, 6] rfl)
    · replace h := gif_t c7 h
      refine lv_aload_n hx hb dL_law_1339 rfl (lv_at hl 5 rfl) ?_
      refine lv_iconst (v := (0 : Int32)) hx hb dL_law_1340 (by decide) ?_
      obtain ⟨c8, h⟩ := gchk_e h
      refine g_lald hx hb E hM hk_77 dd_77 c8 dL_law_1341 ?_
      refine lv_iload hx hb dL_law_1342 (lv_at hl 0 rfl) ?_
      refine lv_i2l (v := q4.1.toInt64) hx hb dL_law_1344 rfl ?_
      refine W.lcmp hx hb dL_law_1345 ?_
      refine lv_if_eq (tgt := 1351) hx hb dL_law_1346 (by decide) (fun c9 => ?_) (fun c9 => ?_)
      · replace c9 := (lg_cmp_eq _ _).mp c9
        replace h := gif_t c9 h
        refine lv_goto (tgt := 2764) hx hb dL_law_1351 (by decide) ?_
        refine W.widen (k := cells + 2) (n := slots + 12) (by omega) (by omega) ?_
        exact kc E (show gW gFull D cy _ base _ _ from (Option.some.inj h) ▸ hM) hS (lv_sub hl [2, 3, 4, 5, 6] rfl)
      · replace c9 := fun w => c9 ((lg_cmp_eq _ _).mpr w)
        replace h := gif_f c9 h
        refine lv_iconst (v := (0 : Int32)) hx hb dL_law_1349 (by decide) ?_
        cases h
  · replace h := gif_f c6 h
    refine lv_iconst (v := (0 : Int32)) hx hb dL_law_1332 (by decide) ?_
    cases h
def f_case_24 (s1 : Int32) (μ : gM) : Option gM :=
  Option.bind (f_L_linesAt s1 μ) (fun q2 => Option.bind (f_X8_linesAt s1 q2.2) (fun q4 => Option.bind (f_X8_thrown  q4.2) (fun q5 => if (q5 = q2.1) then if (q2.1 = 0) then gchk (gIn (0 : Int32) 1) (if ((gl q4.2 77 (0 : Int32).toNatClampNeg) = q4.1.toInt64) then some q4.2 else none) else some q4.2 else none)))
set_option maxHeartbeats 4000000 in
set_option maxRecDepth 100000 in
theorem w_case_24 {s1 : Int32} {x4 : Int32} {μ μ2 : gM} (h : f_case_24 s1 μ = some μ2) (hx : p.tables.exec = Jvm.exec) (hb : c.code = cL_law) (hml : c.maxLocals = 8) (hown : s.vm.findClass RL = some m.cls) (hX : va_X b L xs s s.heap) (hbl : b < s.heap.size) (hbA : ¬ gA base b) (h1 : scrAt L xs x4 1 s1) (E : gEnv l D cy ad base s) (hM : gW gFull D cy ad base μ H) (hS : va_S (gA base) s.heap H locs) (hc : cells + 2 ≤ room_1.cells) (hs : slots + 12 ≤ room_1.slots) {ls : Array Slot} (hl : lv_has ls 8 [(0, .ref b), (1, .ref (ad 0)), (2, .ref (ad 60)), (3, .ref (ad 77)), (4, .int x4)]) (kc : ∀ {ad : Nat → Nat} {H : Heap} {locs : List Loc} {ls : Array Slot}, gEnv l D cy ad base s → gW gFull D cy ad base μ2 H → va_S (gA base) s.heap H locs → lv_has ls 8 [(0, .ref b), (1, .ref (ad 0)), (2, .ref (ad 60)), (3, .ref (ad 77)), (4, .int x4)] → W p l e room_1 s m args below meth c H locs (cells + 2) (slots + 12) Q (F0 m 2764 ls [])) : W p l e room_1 s m args below meth c H locs cells slots Q (F0 m 1354 ls []) := by
  unfold f_case_24 at h
  refine lv_aload_n hx hb dL_law_1354 rfl (lv_at hl 1 rfl) ?_
  refine lv_aload_n hx hb dL_law_1355 rfl (lv_at hl 0 rfl) ?_
  refine lv_iload hx hb dL_law_1356 (lv_at hl 4 rfl) ?_
  refine lv_iconst (v := (1 : Int32)) hx hb dL_law_1358 (by decide) ?_
  refine lv_iadd hx hb dL_law_1359 ?_
  refine g_scr hx hb hX hbl hbA hS h1 dL_law_1360 ?_
  refine lv_aload_n hx hb dL_law_1361 rfl (lv_at hl 3 rfl) ?_
  obtain ⟨q2, hq2, h⟩ := gbind_e h
  refine g_callSW (As := [.ref (ad 0), .int s1, .ref (ad 77)]) (rest := []) hx hb (hml.trans hl.1.symm) hown E hM hS hyw_L_linesAt kw_1104 (c_L_linesAt hq2) rfl rfl (Nat.le_of_ble_eq_true rfl) ⟨Nat.le_of_ble_eq_true rfl, Nat.le_of_ble_eq_true rfl⟩ ⟨by omega, by omega⟩ dL_law_1362 (fun H locs hM hS => ?_)
  refine lv_istore (lv' := [(5, .int q2.1), (0, .ref b), (1, .ref (ad 0)), (2, .ref (ad 60)), (3, .ref (ad 77)), (4, .int x4)]) hx hb dL_law_1365 hl (by decide) rfl (fun ls hl => ?_)
  refine lv_aload_n hx hb dL_law_1367 rfl (lv_at hl 3 rfl) ?_
  refine lv_aload_n hx hb dL_law_1368 rfl (lv_at hl 1 rfl) ?_
  refine lv_iload hx hb dL_law_1369 (lv_at hl 5 rfl) ?_
  refine lv_iconst (v := (1 : Int32)) hx hb dL_law_1371 (by decide) ?_
  refine lv_iadd hx hb dL_law_1372 ?_
  refine g_scr hx hb hX hbl hbA hS h1 dL_law_1373 ?_
  obtain ⟨q4, hq4, h⟩ := gbind_e h
  refine g_callV (As := [.int s1]) (rest := []) hx hb (hml.trans hl.1.symm) hown E hM hS hy_X8_linesAt kw_1663 (c_X8_linesAt hq4) hk_60 dd_60 rfl rfl rfl (Nat.le_of_ble_eq_true rfl) ⟨Nat.le_of_ble_eq_true rfl, Nat.le_of_ble_eq_true rfl⟩ ⟨by omega, by omega⟩ dL_law_1374 (fun H locs hM hS => ?_)
  refine lv_istore (lv' := [(6, .int q4.1), (5, .int q2.1), (0, .ref b), (1, .ref (ad 0)), (2, .ref (ad 60)), (3, .ref (ad 77)), (4, .int x4)]) hx hb dL_law_1377 hl (by decide) rfl (fun ls hl => ?_)
  refine lv_aload_n hx hb dL_law_1379 rfl (lv_at hl 4 rfl) ?_
  obtain ⟨q5, hq5, h⟩ := gbind_e h
  refine g_callV (As := []) (rest := []) hx hb (hml.trans hl.1.symm) hown E hM hS hy_X8_thrown kw_1351 (c_X8_thrown hq5) hk_60 dd_60 rfl rfl rfl (Nat.le_of_ble_eq_true rfl) ⟨Nat.le_of_ble_eq_true rfl, Nat.le_of_ble_eq_true rfl⟩ ⟨by omega, by omega⟩ dL_law_1380 (fun H locs hM hS => ?_)
  refine lv_iload hx hb dL_law_1383 (lv_at hl 1 rfl) ?_
  refine lv_icmp_eq (tgt := 1390) hx hb dL_law_1385 (by decide) (fun c6 => ?_) (fun c6 => ?_)
  · replace h := gif_t c6 h
    refine lv_iload hx hb dL_law_1390 (lv_at hl 1 rfl) ?_
    refine lv_if_ne (tgt := 1407) hx hb dL_law_1392 (by decide) (fun c7 => ?_) (fun c7 => ?_)
    · replace h := gif_f c7 h
      refine lv_goto (tgt := 2764) hx hb dL_law_1407 (by decide) ?_
      refine W.widen (k := cells + 2) (n := slots + 12) (by omega) (by omega) ?_
      exact kc E (show gW gFull D cy _ base _ _ from (Option.some.inj h) ▸ hM) hS (lv_sub hl [2, 3, 4, 5, 6] rfl)
    · replace h := gif_t c7 h
      refine lv_aload_n hx hb dL_law_1395 rfl (lv_at hl 5 rfl) ?_
      refine lv_iconst (v := (0 : Int32)) hx hb dL_law_1396 (by decide) ?_
      obtain ⟨c8, h⟩ := gchk_e h
      refine g_lald hx hb E hM hk_77 dd_77 c8 dL_law_1397 ?_
      refine lv_iload hx hb dL_law_1398 (lv_at hl 0 rfl) ?_
      refine lv_i2l (v := q4.1.toInt64) hx hb dL_law_1400 rfl ?_
      refine W.lcmp hx hb dL_law_1401 ?_
      refine lv_if_eq (tgt := 1407) hx hb dL_law_1402 (by decide) (fun c9 => ?_) (fun c9 => ?_)
      · replace c9 := (lg_cmp_eq _ _).mp c9
        replace h := gif_t c9 h
        refine lv_goto (tgt := 2764) hx hb dL_law_1407 (by decide) ?_
        refine W.widen (k := cells + 2) (n := slots + 12) (by omega) (by omega) ?_
        exact kc E (show gW gFull D cy _ base _ _ from (Option.some.inj h) ▸ hM) hS (lv_sub hl [2, 3, 4, 5, 6] rfl)
      · replace c9 := fun w => c9 ((lg_cmp_eq _ _).mpr w)
        replace h := gif_f c9 h
        refine lv_iconst (v := (0 : Int32)) hx hb dL_law_1405 (by decide) ?_
        cases h
  · replace h := gif_f c6 h
    refine lv_iconst (v := (0 : Int32)) hx hb dL_law_1388 (by decide) ?_
    cases h
def f_case_25 (s1 : Int32) (μ : gM) : Option gM :=
  Option.bind (f_L_rootOf s1 μ) (fun q2 => Option.bind (f_X8_rootOf s1 q2.2) (fun q4 => Option.bind (f_X8_thrown  q4.2) (fun q5 => if (q5 = q2.1) then if (q2.1 = 0) then gchk (gIn (0 : Int32) 1) (if ((gl q4.2 77 (0 : Int32).toNatClampNeg) = q4.1.toInt64) then some q4.2 else none) else some q4.2 else none)))
set_option maxHeartbeats 4000000 in
set_option maxRecDepth 100000 in
theorem w_case_25 {s1 : Int32} {x4 : Int32} {μ μ2 : gM} (h : f_case_25 s1 μ = some μ2) (hx : p.tables.exec = Jvm.exec) (hb : c.code = cL_law) (hml : c.maxLocals = 8) (hown : s.vm.findClass RL = some m.cls) (hX : va_X b L xs s s.heap) (hbl : b < s.heap.size) (hbA : ¬ gA base b) (h1 : scrAt L xs x4 1 s1) (E : gEnv l D cy ad base s) (hM : gW gFull D cy ad base μ H) (hS : va_S (gA base) s.heap H locs) (hc : cells + 2 ≤ room_1.cells) (hs : slots + 12 ≤ room_1.slots) {ls : Array Slot} (hl : lv_has ls 8 [(0, .ref b), (1, .ref (ad 0)), (2, .ref (ad 60)), (3, .ref (ad 77)), (4, .int x4)]) (kc : ∀ {ad : Nat → Nat} {H : Heap} {locs : List Loc} {ls : Array Slot}, gEnv l D cy ad base s → gW gFull D cy ad base μ2 H → va_S (gA base) s.heap H locs → lv_has ls 8 [(0, .ref b), (1, .ref (ad 0)), (2, .ref (ad 60)), (3, .ref (ad 77)), (4, .int x4)] → W p l e room_1 s m args below meth c H locs (cells + 2) (slots + 12) Q (F0 m 2764 ls [])) : W p l e room_1 s m args below meth c H locs cells slots Q (F0 m 1410 ls []) := by
  unfold f_case_25 at h
  refine lv_aload_n hx hb dL_law_1410 rfl (lv_at hl 1 rfl) ?_
  refine lv_aload_n hx hb dL_law_1411 rfl (lv_at hl 0 rfl) ?_
  refine lv_iload hx hb dL_law_1412 (lv_at hl 4 rfl) ?_
  refine lv_iconst (v := (1 : Int32)) hx hb dL_law_1414 (by decide) ?_
  refine lv_iadd hx hb dL_law_1415 ?_
  refine g_scr hx hb hX hbl hbA hS h1 dL_law_1416 ?_
  refine lv_aload_n hx hb dL_law_1417 rfl (lv_at hl 3 rfl) ?_
  obtain ⟨q2, hq2, h⟩ := gbind_e h
  refine g_callSW (As := [.ref (ad 0), .int s1, .ref (ad 77)]) (rest := []) hx hb (hml.trans hl.1.symm) hown E hM hS hyw_L_rootOf kw_1112 (c_L_rootOf hq2) rfl rfl (Nat.le_of_ble_eq_true rfl) ⟨Nat.le_of_ble_eq_true rfl, Nat.le_of_ble_eq_true rfl⟩ ⟨by omega, by omega⟩ dL_law_1418 (fun H locs hM hS => ?_)
  refine lv_istore (lv' := [(5, .int q2.1), (0, .ref b), (1, .ref (ad 0)), (2, .ref (ad 60)), (3, .ref (ad 77)), (4, .int x4)]) hx hb dL_law_1421 hl (by decide) rfl (fun ls hl => ?_)
  refine lv_aload_n hx hb dL_law_1423 rfl (lv_at hl 3 rfl) ?_
  refine lv_aload_n hx hb dL_law_1424 rfl (lv_at hl 1 rfl) ?_
  refine lv_iload hx hb dL_law_1425 (lv_at hl 5 rfl) ?_
  refine lv_iconst (v := (1 : Int32)) hx hb dL_law_1427 (by decide) ?_
  refine lv_iadd hx hb dL_law_1428 ?_
  refine g_scr hx hb hX hbl hbA hS h1 dL_law_1429 ?_
  obtain ⟨q4, hq4, h⟩ := gbind_e h
  refine g_callV (As := [.int s1]) (rest := []) hx hb (hml.trans hl.1.symm) hown E hM hS hy_X8_rootOf kw_1679 (c_X8_rootOf hq4) hk_60 dd_60 rfl rfl rfl (Nat.le_of_ble_eq_true rfl) ⟨Nat.le_of_ble_eq_true rfl, Nat.le_of_ble_eq_true rfl⟩ ⟨by omega, by omega⟩ dL_law_1430 (fun H locs hM hS => ?_)
  refine lv_istore (lv' := [(6, .int q4.1), (5, .int q2.1), (0, .ref b), (1, .ref (ad 0)), (2, .ref (ad 60)), (3, .ref (ad 77)), (4, .int x4)]) hx hb dL_law_1433 hl (by decide) rfl (fun ls hl => ?_)
  refine lv_aload_n hx hb dL_law_1435 rfl (lv_at hl 4 rfl) ?_
  obtain ⟨q5, hq5, h⟩ := gbind_e h
  refine g_callV (As := []) (rest := []) hx hb (hml.trans hl.1.symm) hown E hM hS hy_X8_thrown kw_1351 (c_X8_thrown hq5) hk_60 dd_60 rfl rfl rfl (Nat.le_of_ble_eq_true rfl) ⟨Nat.le_of_ble_eq_true rfl, Nat.le_of_ble_eq_true rfl⟩ ⟨by omega, by omega⟩ dL_law_1436 (fun H locs hM hS => ?_)
  refine lv_iload hx hb dL_law_1439 (lv_at hl 1 rfl) ?_
  refine lv_icmp_eq (tgt := 1446) hx hb dL_law_1441 (by decide) (fun c6 => ?_) (fun c6 => ?_)
  · replace h := gif_t c6 h
    refine lv_iload hx hb dL_law_1446 (lv_at hl 1 rfl) ?_
    refine lv_if_ne (tgt := 1463) hx hb dL_law_1448 (by decide) (fun c7 => ?_) (fun c7 => ?_)
    · replace h := gif_f c7 h
      refine lv_goto (tgt := 2764) hx hb dL_law_1463 (by decide) ?_
      refine W.widen (k := cells + 2) (n := slots + 12) (by omega) (by omega) ?_
      exact kc E (show gW gFull D cy _ base _ _ from (Option.some.inj h) ▸ hM) hS (lv_sub hl [2, 3, 4, 5, 6] rfl)
    · replace h := gif_t c7 h
      refine lv_aload_n hx hb dL_law_1451 rfl (lv_at hl 5 rfl) ?_
      refine lv_iconst (v := (0 : Int32)) hx hb dL_law_1452 (by decide) ?_
      obtain ⟨c8, h⟩ := gchk_e h
      refine g_lald hx hb E hM hk_77 dd_77 c8 dL_law_1453 ?_
      refine lv_iload hx hb dL_law_1454 (lv_at hl 0 rfl) ?_
      refine lv_i2l (v := q4.1.toInt64) hx hb dL_law_1456 rfl ?_
      refine W.lcmp hx hb dL_law_1457 ?_
      refine lv_if_eq (tgt := 1463) hx hb dL_law_1458 (by decide) (fun c9 => ?_) (fun c9 => ?_)
      · replace c9 := (lg_cmp_eq _ _).mp c9
        replace h := gif_t c9 h
        refine lv_goto (tgt := 2764) hx hb dL_law_1463 (by decide) ?_
        refine W.widen (k := cells + 2) (n := slots + 12) (by omega) (by omega) ?_
        exact kc E (show gW gFull D cy _ base _ _ from (Option.some.inj h) ▸ hM) hS (lv_sub hl [2, 3, 4, 5, 6] rfl)
      · replace c9 := fun w => c9 ((lg_cmp_eq _ _).mpr w)
        replace h := gif_f c9 h
        refine lv_iconst (v := (0 : Int32)) hx hb dL_law_1461 (by decide) ?_
        cases h
  · replace h := gif_f c6 h
    refine lv_iconst (v := (0 : Int32)) hx hb dL_law_1444 (by decide) ?_
    cases h
def f_case_26 (μ : gM) : Option gM :=
  Option.bind (f_X7_partCount  μ) (fun q1 => Option.bind (f_X8_partCount  q1.2) (fun q2 => if (q1.1 = q2.1) then some q2.2 else none))
set_option maxHeartbeats 4000000 in
set_option maxRecDepth 100000 in
theorem w_case_26 {x4 : Int32} {μ μ2 : gM} (h : f_case_26  μ = some μ2) (hx : p.tables.exec = Jvm.exec) (hb : c.code = cL_law) (hml : c.maxLocals = 8) (hown : s.vm.findClass RL = some m.cls) (hX : va_X b L xs s s.heap) (hbl : b < s.heap.size) (hbA : ¬ gA base b) (E : gEnv l D cy ad base s) (hM : gW gFull D cy ad base μ H) (hS : va_S (gA base) s.heap H locs) (hc : cells + 2 ≤ room_1.cells) (hs : slots + 12 ≤ room_1.slots) {ls : Array Slot} (hl : lv_has ls 8 [(0, .ref b), (1, .ref (ad 0)), (2, .ref (ad 60)), (3, .ref (ad 77)), (4, .int x4)]) (kc : ∀ {ad : Nat → Nat} {H : Heap} {locs : List Loc} {ls : Array Slot}, gEnv l D cy ad base s → gW gFull D cy ad base μ2 H → va_S (gA base) s.heap H locs → lv_has ls 8 [(0, .ref b), (1, .ref (ad 0)), (2, .ref (ad 60)), (3, .ref (ad 77)), (4, .int x4)] → W p l e room_1 s m args below meth c H locs (cells + 2) (slots + 12) Q (F0 m 2764 ls [])) : W p l e room_1 s m args below meth c H locs cells slots Q (F0 m 1466 ls []) := by
  unfold f_case_26 at h
  refine lv_aload_n hx hb dL_law_1466 rfl (lv_at hl 1 rfl) ?_
  obtain ⟨q1, hq1, h⟩ := gbind_e h
  refine g_callV (As := []) (rest := []) hx hb (hml.trans hl.1.symm) hown E hM hS hy_X7_partCount kw_648 (c_X7_partCount hq1) hk_0 dd_0 rfl rfl rfl (Nat.le_of_ble_eq_true rfl) ⟨Nat.le_of_ble_eq_true rfl, Nat.le_of_ble_eq_true rfl⟩ ⟨by omega, by omega⟩ dL_law_1467 (fun H locs hM hS => ?_)
  refine lv_aload_n hx hb dL_law_1470 rfl (lv_at hl 2 rfl) ?_
  obtain ⟨q2, hq2, h⟩ := gbind_e h
  refine g_callV (As := []) (rest := [.int q1.1]) hx hb (hml.trans hl.1.symm) hown E hM hS hy_X8_partCount kw_1690 (c_X8_partCount hq2) hk_60 dd_60 rfl rfl rfl (Nat.le_of_ble_eq_true rfl) ⟨Nat.le_of_ble_eq_true rfl, Nat.le_of_ble_eq_true rfl⟩ ⟨by omega, by omega⟩ dL_law_1471 (fun H locs hM hS => ?_)
  refine lv_icmp_eq (tgt := 2764) hx hb dL_law_1474 (by decide) (fun c3 => ?_) (fun c3 => ?_)
  · replace h := gif_t c3 h
    refine W.widen (k := cells + 2) (n := slots + 12) (by omega) (by omega) ?_
    exact kc E (show gW gFull D cy _ base _ _ from (Option.some.inj h) ▸ hM) hS hl
  · replace h := gif_f c3 h
    refine lv_iconst (v := (0 : Int32)) hx hb dL_law_1477 (by decide) ?_
    cases h
def f_case_27 (s1 : Int32) (s2 : Int32) (μ : gM) : Option gM :=
  Option.bind (f_L_distance s1 s2 μ) (fun q3 => Option.bind (f_X8_distance s1 s2 q3.2) (fun q6 => Option.bind (f_X8_thrown  q6.2) (fun q7 => if (q7 = q3.1) then if (q3.1 = 0) then gchk (gIn (0 : Int32) 1) (if ((gl q6.2 77 (0 : Int32).toNatClampNeg) = q6.1.toInt64) then some q6.2 else none) else some q6.2 else none)))
set_option maxHeartbeats 4000000 in
set_option maxRecDepth 100000 in
theorem w_case_27 {s1 : Int32} {s2 : Int32} {x4 : Int32} {μ μ2 : gM} (h : f_case_27 s1 s2 μ = some μ2) (hx : p.tables.exec = Jvm.exec) (hb : c.code = cL_law) (hml : c.maxLocals = 8) (hown : s.vm.findClass RL = some m.cls) (hX : va_X b L xs s s.heap) (hbl : b < s.heap.size) (hbA : ¬ gA base b) (h1 : scrAt L xs x4 1 s1) (h2 : scrAt L xs x4 2 s2) (E : gEnv l D cy ad base s) (hM : gW gFull D cy ad base μ H) (hS : va_S (gA base) s.heap H locs) (hc : cells + 2 ≤ room_1.cells) (hs : slots + 12 ≤ room_1.slots) {ls : Array Slot} (hl : lv_has ls 8 [(0, .ref b), (1, .ref (ad 0)), (2, .ref (ad 60)), (3, .ref (ad 77)), (4, .int x4)]) (kc : ∀ {ad : Nat → Nat} {H : Heap} {locs : List Loc} {ls : Array Slot}, gEnv l D cy ad base s → gW gFull D cy ad base μ2 H → va_S (gA base) s.heap H locs → lv_has ls 8 [(0, .ref b), (1, .ref (ad 0)), (2, .ref (ad 60)), (3, .ref (ad 77)), (4, .int x4)] → W p l e room_1 s m args below meth c H locs (cells + 2) (slots + 12) Q (F0 m 2764 ls [])) : W p l e room_1 s m args below meth c H locs cells slots Q (F0 m 1479 ls []) := by
  unfold f_case_27 at h
  refine lv_aload_n hx hb dL_law_1479 rfl (lv_at hl 1 rfl) ?_
  refine lv_aload_n hx hb dL_law_1480 rfl (lv_at hl 0 rfl) ?_
  refine lv_iload hx hb dL_law_1481 (lv_at hl 4 rfl) ?_
  refine lv_iconst (v := (1 : Int32)) hx hb dL_law_1483 (by decide) ?_
  refine lv_iadd hx hb dL_law_1484 ?_
  refine g_scr hx hb hX hbl hbA hS h1 dL_law_1485 ?_
  refine lv_aload_n hx hb dL_law_1486 rfl (lv_at hl 0 rfl) ?_
  refine lv_iload hx hb dL_law_1487 (lv_at hl 4 rfl) ?_
  refine lv_iconst (v := (2 : Int32)) hx hb dL_law_1489 (by decide) ?_
  refine lv_iadd hx hb dL_law_1490 ?_
  refine g_scr hx hb hX hbl hbA hS h2 dL_law_1491 ?_
  refine lv_aload_n hx hb dL_law_1492 rfl (lv_at hl 3 rfl) ?_
  obtain ⟨q3, hq3, h⟩ := gbind_e h
  refine g_callSW (As := [.ref (ad 0), .int s1, .int s2, .ref (ad 77)]) (rest := []) hx hb (hml.trans hl.1.symm) hown E hM hS hyw_L_distance kw_1119 (c_L_distance hq3) rfl rfl (Nat.le_of_ble_eq_true rfl) ⟨Nat.le_of_ble_eq_true rfl, Nat.le_of_ble_eq_true rfl⟩ ⟨by omega, by omega⟩ dL_law_1493 (fun H locs hM hS => ?_)
  refine lv_istore (lv' := [(5, .int q3.1), (0, .ref b), (1, .ref (ad 0)), (2, .ref (ad 60)), (3, .ref (ad 77)), (4, .int x4)]) hx hb dL_law_1496 hl (by decide) rfl (fun ls hl => ?_)
  refine lv_aload_n hx hb dL_law_1498 rfl (lv_at hl 3 rfl) ?_
  refine lv_aload_n hx hb dL_law_1499 rfl (lv_at hl 1 rfl) ?_
  refine lv_iload hx hb dL_law_1500 (lv_at hl 5 rfl) ?_
  refine lv_iconst (v := (1 : Int32)) hx hb dL_law_1502 (by decide) ?_
  refine lv_iadd hx hb dL_law_1503 ?_
  refine g_scr hx hb hX hbl hbA hS h1 dL_law_1504 ?_
  refine lv_aload_n hx hb dL_law_1505 rfl (lv_at hl 1 rfl) ?_
  refine lv_iload hx hb dL_law_1506 (lv_at hl 5 rfl) ?_
  refine lv_iconst (v := (2 : Int32)) hx hb dL_law_1508 (by decide) ?_
  refine lv_iadd hx hb dL_law_1509 ?_
  refine g_scr hx hb hX hbl hbA hS h2 dL_law_1510 ?_
  obtain ⟨q6, hq6, h⟩ := gbind_e h
  refine g_callV (As := [.int s1, .int s2]) (rest := []) hx hb (hml.trans hl.1.symm) hown E hM hS hy_X8_distance kw_1698 (c_X8_distance hq6) hk_60 dd_60 rfl rfl rfl (Nat.le_of_ble_eq_true rfl) ⟨Nat.le_of_ble_eq_true rfl, Nat.le_of_ble_eq_true rfl⟩ ⟨by omega, by omega⟩ dL_law_1511 (fun H locs hM hS => ?_)
  refine lv_istore (lv' := [(6, .int q6.1), (5, .int q3.1), (0, .ref b), (1, .ref (ad 0)), (2, .ref (ad 60)), (3, .ref (ad 77)), (4, .int x4)]) hx hb dL_law_1514 hl (by decide) rfl (fun ls hl => ?_)
  refine lv_aload_n hx hb dL_law_1516 rfl (lv_at hl 4 rfl) ?_
  obtain ⟨q7, hq7, h⟩ := gbind_e h
  refine g_callV (As := []) (rest := []) hx hb (hml.trans hl.1.symm) hown E hM hS hy_X8_thrown kw_1351 (c_X8_thrown hq7) hk_60 dd_60 rfl rfl rfl (Nat.le_of_ble_eq_true rfl) ⟨Nat.le_of_ble_eq_true rfl, Nat.le_of_ble_eq_true rfl⟩ ⟨by omega, by omega⟩ dL_law_1517 (fun H locs hM hS => ?_)
  refine lv_iload hx hb dL_law_1520 (lv_at hl 1 rfl) ?_
  refine lv_icmp_eq (tgt := 1527) hx hb dL_law_1522 (by decide) (fun c8 => ?_) (fun c8 => ?_)
  · replace h := gif_t c8 h
    refine lv_iload hx hb dL_law_1527 (lv_at hl 1 rfl) ?_
    refine lv_if_ne (tgt := 1544) hx hb dL_law_1529 (by decide) (fun c9 => ?_) (fun c9 => ?_)
    · replace h := gif_f c9 h
      refine lv_goto (tgt := 2764) hx hb dL_law_1544 (by decide) ?_
      refine W.widen (k := cells + 2) (n := slots + 12) (by omega) (by omega) ?_
      exact kc E (show gW gFull D cy _ base _ _ from (Option.some.inj h) ▸ hM) hS (lv_sub hl [2, 3, 4, 5, 6] rfl)
    · replace h := gif_t c9 h
      refine lv_aload_n hx hb dL_law_1532 rfl (lv_at hl 5 rfl) ?_
      refine lv_iconst (v := (0 : Int32)) hx hb dL_law_1533 (by decide) ?_
      obtain ⟨c10, h⟩ := gchk_e h
      refine g_lald hx hb E hM hk_77 dd_77 c10 dL_law_1534 ?_
      refine lv_iload hx hb dL_law_1535 (lv_at hl 0 rfl) ?_
      refine lv_i2l (v := q6.1.toInt64) hx hb dL_law_1537 rfl ?_
      refine W.lcmp hx hb dL_law_1538 ?_
      refine lv_if_eq (tgt := 1544) hx hb dL_law_1539 (by decide) (fun c11 => ?_) (fun c11 => ?_)
      · replace c11 := (lg_cmp_eq _ _).mp c11
        replace h := gif_t c11 h
        refine lv_goto (tgt := 2764) hx hb dL_law_1544 (by decide) ?_
        refine W.widen (k := cells + 2) (n := slots + 12) (by omega) (by omega) ?_
        exact kc E (show gW gFull D cy _ base _ _ from (Option.some.inj h) ▸ hM) hS (lv_sub hl [2, 3, 4, 5, 6] rfl)
      · replace c11 := fun w => c11 ((lg_cmp_eq _ _).mpr w)
        replace h := gif_f c11 h
        refine lv_iconst (v := (0 : Int32)) hx hb dL_law_1542 (by decide) ?_
        cases h
  · replace h := gif_f c8 h
    refine lv_iconst (v := (0 : Int32)) hx hb dL_law_1525 (by decide) ?_
    cases h
def f_case_28 (s1 : Int32) (s2 : Int32) (μ : gM) : Option gM :=
  Option.bind (f_L_riseBetween s1 s2 μ) (fun q3 => Option.bind (f_X8_riseBetween s1 s2 q3.2) (fun q6 => Option.bind (f_X8_thrown  q6.2) (fun q7 => if (q7 = q3.1) then if (q3.1 = 0) then gchk (gIn (0 : Int32) 1) (if ((gl q6.2 77 (0 : Int32).toNatClampNeg) = q6.1.toInt64) then some q6.2 else none) else some q6.2 else none)))
set_option maxHeartbeats 4000000 in
set_option maxRecDepth 100000 in
theorem w_case_28 {s1 : Int32} {s2 : Int32} {x4 : Int32} {μ μ2 : gM} (h : f_case_28 s1 s2 μ = some μ2) (hx : p.tables.exec = Jvm.exec) (hb : c.code = cL_law) (hml : c.maxLocals = 8) (hown : s.vm.findClass RL = some m.cls) (hX : va_X b L xs s s.heap) (hbl : b < s.heap.size) (hbA : ¬ gA base b) (h1 : scrAt L xs x4 1 s1) (h2 : scrAt L xs x4 2 s2) (E : gEnv l D cy ad base s) (hM : gW gFull D cy ad base μ H) (hS : va_S (gA base) s.heap H locs) (hc : cells + 2 ≤ room_1.cells) (hs : slots + 12 ≤ room_1.slots) {ls : Array Slot} (hl : lv_has ls 8 [(0, .ref b), (1, .ref (ad 0)), (2, .ref (ad 60)), (3, .ref (ad 77)), (4, .int x4)]) (kc : ∀ {ad : Nat → Nat} {H : Heap} {locs : List Loc} {ls : Array Slot}, gEnv l D cy ad base s → gW gFull D cy ad base μ2 H → va_S (gA base) s.heap H locs → lv_has ls 8 [(0, .ref b), (1, .ref (ad 0)), (2, .ref (ad 60)), (3, .ref (ad 77)), (4, .int x4)] → W p l e room_1 s m args below meth c H locs (cells + 2) (slots + 12) Q (F0 m 2764 ls [])) : W p l e room_1 s m args below meth c H locs cells slots Q (F0 m 1547 ls []) := by
  unfold f_case_28 at h
  refine lv_aload_n hx hb dL_law_1547 rfl (lv_at hl 1 rfl) ?_
  refine lv_aload_n hx hb dL_law_1548 rfl (lv_at hl 0 rfl) ?_
  refine lv_iload hx hb dL_law_1549 (lv_at hl 4 rfl) ?_
  refine lv_iconst (v := (1 : Int32)) hx hb dL_law_1551 (by decide) ?_
  refine lv_iadd hx hb dL_law_1552 ?_
  refine g_scr hx hb hX hbl hbA hS h1 dL_law_1553 ?_
  refine lv_aload_n hx hb dL_law_1554 rfl (lv_at hl 0 rfl) ?_
  refine lv_iload hx hb dL_law_1555 (lv_at hl 4 rfl) ?_
  refine lv_iconst (v := (2 : Int32)) hx hb dL_law_1557 (by decide) ?_
  refine lv_iadd hx hb dL_law_1558 ?_
  refine g_scr hx hb hX hbl hbA hS h2 dL_law_1559 ?_
  refine lv_aload_n hx hb dL_law_1560 rfl (lv_at hl 3 rfl) ?_
  obtain ⟨q3, hq3, h⟩ := gbind_e h
  refine g_callSW (As := [.ref (ad 0), .int s1, .int s2, .ref (ad 77)]) (rest := []) hx hb (hml.trans hl.1.symm) hown E hM hS hyw_L_riseBetween kw_1140 (c_L_riseBetween hq3) rfl rfl (Nat.le_of_ble_eq_true rfl) ⟨Nat.le_of_ble_eq_true rfl, Nat.le_of_ble_eq_true rfl⟩ ⟨by omega, by omega⟩ dL_law_1561 (fun H locs hM hS => ?_)
  refine lv_istore (lv' := [(5, .int q3.1), (0, .ref b), (1, .ref (ad 0)), (2, .ref (ad 60)), (3, .ref (ad 77)), (4, .int x4)]) hx hb dL_law_1564 hl (by decide) rfl (fun ls hl => ?_)
  refine lv_aload_n hx hb dL_law_1566 rfl (lv_at hl 3 rfl) ?_
  refine lv_aload_n hx hb dL_law_1567 rfl (lv_at hl 1 rfl) ?_
  refine lv_iload hx hb dL_law_1568 (lv_at hl 5 rfl) ?_
  refine lv_iconst (v := (1 : Int32)) hx hb dL_law_1570 (by decide) ?_
  refine lv_iadd hx hb dL_law_1571 ?_
  refine g_scr hx hb hX hbl hbA hS h1 dL_law_1572 ?_
  refine lv_aload_n hx hb dL_law_1573 rfl (lv_at hl 1 rfl) ?_
  refine lv_iload hx hb dL_law_1574 (lv_at hl 5 rfl) ?_
  refine lv_iconst (v := (2 : Int32)) hx hb dL_law_1576 (by decide) ?_
  refine lv_iadd hx hb dL_law_1577 ?_
  refine g_scr hx hb hX hbl hbA hS h2 dL_law_1578 ?_
  obtain ⟨q6, hq6, h⟩ := gbind_e h
  refine g_callV (As := [.int s1, .int s2]) (rest := []) hx hb (hml.trans hl.1.symm) hown E hM hS hy_X8_riseBetween kw_1714 (c_X8_riseBetween hq6) hk_60 dd_60 rfl rfl rfl (Nat.le_of_ble_eq_true rfl) ⟨Nat.le_of_ble_eq_true rfl, Nat.le_of_ble_eq_true rfl⟩ ⟨by omega, by omega⟩ dL_law_1579 (fun H locs hM hS => ?_)
  refine lv_istore (lv' := [(6, .int q6.1), (5, .int q3.1), (0, .ref b), (1, .ref (ad 0)), (2, .ref (ad 60)), (3, .ref (ad 77)), (4, .int x4)]) hx hb dL_law_1582 hl (by decide) rfl (fun ls hl => ?_)
  refine lv_aload_n hx hb dL_law_1584 rfl (lv_at hl 4 rfl) ?_
  obtain ⟨q7, hq7, h⟩ := gbind_e h
  refine g_callV (As := []) (rest := []) hx hb (hml.trans hl.1.symm) hown E hM hS hy_X8_thrown kw_1351 (c_X8_thrown hq7) hk_60 dd_60 rfl rfl rfl (Nat.le_of_ble_eq_true rfl) ⟨Nat.le_of_ble_eq_true rfl, Nat.le_of_ble_eq_true rfl⟩ ⟨by omega, by omega⟩ dL_law_1585 (fun H locs hM hS => ?_)
  refine lv_iload hx hb dL_law_1588 (lv_at hl 1 rfl) ?_
  refine lv_icmp_eq (tgt := 1595) hx hb dL_law_1590 (by decide) (fun c8 => ?_) (fun c8 => ?_)
  · replace h := gif_t c8 h
    refine lv_iload hx hb dL_law_1595 (lv_at hl 1 rfl) ?_
    refine lv_if_ne (tgt := 1612) hx hb dL_law_1597 (by decide) (fun c9 => ?_) (fun c9 => ?_)
    · replace h := gif_f c9 h
      refine lv_goto (tgt := 2764) hx hb dL_law_1612 (by decide) ?_
      refine W.widen (k := cells + 2) (n := slots + 12) (by omega) (by omega) ?_
      exact kc E (show gW gFull D cy _ base _ _ from (Option.some.inj h) ▸ hM) hS (lv_sub hl [2, 3, 4, 5, 6] rfl)
    · replace h := gif_t c9 h
      refine lv_aload_n hx hb dL_law_1600 rfl (lv_at hl 5 rfl) ?_
      refine lv_iconst (v := (0 : Int32)) hx hb dL_law_1601 (by decide) ?_
      obtain ⟨c10, h⟩ := gchk_e h
      refine g_lald hx hb E hM hk_77 dd_77 c10 dL_law_1602 ?_
      refine lv_iload hx hb dL_law_1603 (lv_at hl 0 rfl) ?_
      refine lv_i2l (v := q6.1.toInt64) hx hb dL_law_1605 rfl ?_
      refine W.lcmp hx hb dL_law_1606 ?_
      refine lv_if_eq (tgt := 1612) hx hb dL_law_1607 (by decide) (fun c11 => ?_) (fun c11 => ?_)
      · replace c11 := (lg_cmp_eq _ _).mp c11
        replace h := gif_t c11 h
        refine lv_goto (tgt := 2764) hx hb dL_law_1612 (by decide) ?_
        refine W.widen (k := cells + 2) (n := slots + 12) (by omega) (by omega) ?_
        exact kc E (show gW gFull D cy _ base _ _ from (Option.some.inj h) ▸ hM) hS (lv_sub hl [2, 3, 4, 5, 6] rfl)
      · replace c11 := fun w => c11 ((lg_cmp_eq _ _).mpr w)
        replace h := gif_f c11 h
        refine lv_iconst (v := (0 : Int32)) hx hb dL_law_1610 (by decide) ?_
        cases h
  · replace h := gif_f c8 h
    refine lv_iconst (v := (0 : Int32)) hx hb dL_law_1593 (by decide) ?_
    cases h
def f_case_29 (s1 : Int32) (s2 : Int32) (μ : gM) : Option gM :=
  Option.bind (f_L_wayBetween s1 s2 μ) (fun q3 => Option.bind (f_X8_wayBetween s1 s2 q3.2) (fun q6 => Option.bind (f_X8_thrown  q6.2) (fun q7 => if (q7 = q3.1) then if (q3.1 = 0) then gchk (gIn (0 : Int32) 1) (if ((gl q6.2 77 (0 : Int32).toNatClampNeg) = q6.1.toInt64) then some q6.2 else none) else some q6.2 else none)))
set_option maxHeartbeats 4000000 in
set_option maxRecDepth 100000 in
theorem w_case_29 {s1 : Int32} {s2 : Int32} {x4 : Int32} {μ μ2 : gM} (h : f_case_29 s1 s2 μ = some μ2) (hx : p.tables.exec = Jvm.exec) (hb : c.code = cL_law) (hml : c.maxLocals = 8) (hown : s.vm.findClass RL = some m.cls) (hX : va_X b L xs s s.heap) (hbl : b < s.heap.size) (hbA : ¬ gA base b) (h1 : scrAt L xs x4 1 s1) (h2 : scrAt L xs x4 2 s2) (E : gEnv l D cy ad base s) (hM : gW gFull D cy ad base μ H) (hS : va_S (gA base) s.heap H locs) (hc : cells + 2 ≤ room_1.cells) (hs : slots + 12 ≤ room_1.slots) {ls : Array Slot} (hl : lv_has ls 8 [(0, .ref b), (1, .ref (ad 0)), (2, .ref (ad 60)), (3, .ref (ad 77)), (4, .int x4)]) (kc : ∀ {ad : Nat → Nat} {H : Heap} {locs : List Loc} {ls : Array Slot}, gEnv l D cy ad base s → gW gFull D cy ad base μ2 H → va_S (gA base) s.heap H locs → lv_has ls 8 [(0, .ref b), (1, .ref (ad 0)), (2, .ref (ad 60)), (3, .ref (ad 77)), (4, .int x4)] → W p l e room_1 s m args below meth c H locs (cells + 2) (slots + 12) Q (F0 m 2764 ls [])) : W p l e room_1 s m args below meth c H locs cells slots Q (F0 m 1615 ls []) := by
  unfold f_case_29 at h
  refine lv_aload_n hx hb dL_law_1615 rfl (lv_at hl 1 rfl) ?_
  refine lv_aload_n hx hb dL_law_1616 rfl (lv_at hl 0 rfl) ?_
  refine lv_iload hx hb dL_law_1617 (lv_at hl 4 rfl) ?_
  refine lv_iconst (v := (1 : Int32)) hx hb dL_law_1619 (by decide) ?_
  refine lv_iadd hx hb dL_law_1620 ?_
  refine g_scr hx hb hX hbl hbA hS h1 dL_law_1621 ?_
  refine lv_aload_n hx hb dL_law_1622 rfl (lv_at hl 0 rfl) ?_
  refine lv_iload hx hb dL_law_1623 (lv_at hl 4 rfl) ?_
  refine lv_iconst (v := (2 : Int32)) hx hb dL_law_1625 (by decide) ?_
  refine lv_iadd hx hb dL_law_1626 ?_
  refine g_scr hx hb hX hbl hbA hS h2 dL_law_1627 ?_
  refine lv_aload_n hx hb dL_law_1628 rfl (lv_at hl 3 rfl) ?_
  obtain ⟨q3, hq3, h⟩ := gbind_e h
  refine g_callSW (As := [.ref (ad 0), .int s1, .int s2, .ref (ad 77)]) (rest := []) hx hb (hml.trans hl.1.symm) hown E hM hS hyw_L_wayBetween kw_1158 (c_L_wayBetween hq3) rfl rfl (Nat.le_of_ble_eq_true rfl) ⟨Nat.le_of_ble_eq_true rfl, Nat.le_of_ble_eq_true rfl⟩ ⟨by omega, by omega⟩ dL_law_1629 (fun H locs hM hS => ?_)
  refine lv_istore (lv' := [(5, .int q3.1), (0, .ref b), (1, .ref (ad 0)), (2, .ref (ad 60)), (3, .ref (ad 77)), (4, .int x4)]) hx hb dL_law_1632 hl (by decide) rfl (fun ls hl => ?_)
  refine lv_aload_n hx hb dL_law_1634 rfl (lv_at hl 3 rfl) ?_
  refine lv_aload_n hx hb dL_law_1635 rfl (lv_at hl 1 rfl) ?_
  refine lv_iload hx hb dL_law_1636 (lv_at hl 5 rfl) ?_
  refine lv_iconst (v := (1 : Int32)) hx hb dL_law_1638 (by decide) ?_
  refine lv_iadd hx hb dL_law_1639 ?_
  refine g_scr hx hb hX hbl hbA hS h1 dL_law_1640 ?_
  refine lv_aload_n hx hb dL_law_1641 rfl (lv_at hl 1 rfl) ?_
  refine lv_iload hx hb dL_law_1642 (lv_at hl 5 rfl) ?_
  refine lv_iconst (v := (2 : Int32)) hx hb dL_law_1644 (by decide) ?_
  refine lv_iadd hx hb dL_law_1645 ?_
  refine g_scr hx hb hX hbl hbA hS h2 dL_law_1646 ?_
  obtain ⟨q6, hq6, h⟩ := gbind_e h
  refine g_callV (As := [.int s1, .int s2]) (rest := []) hx hb (hml.trans hl.1.symm) hown E hM hS hy_X8_wayBetween kw_1726 (c_X8_wayBetween hq6) hk_60 dd_60 rfl rfl rfl (Nat.le_of_ble_eq_true rfl) ⟨Nat.le_of_ble_eq_true rfl, Nat.le_of_ble_eq_true rfl⟩ ⟨by omega, by omega⟩ dL_law_1647 (fun H locs hM hS => ?_)
  refine lv_istore (lv' := [(6, .int q6.1), (5, .int q3.1), (0, .ref b), (1, .ref (ad 0)), (2, .ref (ad 60)), (3, .ref (ad 77)), (4, .int x4)]) hx hb dL_law_1650 hl (by decide) rfl (fun ls hl => ?_)
  refine lv_aload_n hx hb dL_law_1652 rfl (lv_at hl 4 rfl) ?_
  obtain ⟨q7, hq7, h⟩ := gbind_e h
  refine g_callV (As := []) (rest := []) hx hb (hml.trans hl.1.symm) hown E hM hS hy_X8_thrown kw_1351 (c_X8_thrown hq7) hk_60 dd_60 rfl rfl rfl (Nat.le_of_ble_eq_true rfl) ⟨Nat.le_of_ble_eq_true rfl, Nat.le_of_ble_eq_true rfl⟩ ⟨by omega, by omega⟩ dL_law_1653 (fun H locs hM hS => ?_)
  refine lv_iload hx hb dL_law_1656 (lv_at hl 1 rfl) ?_
  refine lv_icmp_eq (tgt := 1663) hx hb dL_law_1658 (by decide) (fun c8 => ?_) (fun c8 => ?_)
  · replace h := gif_t c8 h
    refine lv_iload hx hb dL_law_1663 (lv_at hl 1 rfl) ?_
    refine lv_if_ne (tgt := 1680) hx hb dL_law_1665 (by decide) (fun c9 => ?_) (fun c9 => ?_)
    · replace h := gif_f c9 h
      refine lv_goto (tgt := 2764) hx hb dL_law_1680 (by decide) ?_
      refine W.widen (k := cells + 2) (n := slots + 12) (by omega) (by omega) ?_
      exact kc E (show gW gFull D cy _ base _ _ from (Option.some.inj h) ▸ hM) hS (lv_sub hl [2, 3, 4, 5, 6] rfl)
    · replace h := gif_t c9 h
      refine lv_aload_n hx hb dL_law_1668 rfl (lv_at hl 5 rfl) ?_
      refine lv_iconst (v := (0 : Int32)) hx hb dL_law_1669 (by decide) ?_
      obtain ⟨c10, h⟩ := gchk_e h
      refine g_lald hx hb E hM hk_77 dd_77 c10 dL_law_1670 ?_
      refine lv_iload hx hb dL_law_1671 (lv_at hl 0 rfl) ?_
      refine lv_i2l (v := q6.1.toInt64) hx hb dL_law_1673 rfl ?_
      refine W.lcmp hx hb dL_law_1674 ?_
      refine lv_if_eq (tgt := 1680) hx hb dL_law_1675 (by decide) (fun c11 => ?_) (fun c11 => ?_)
      · replace c11 := (lg_cmp_eq _ _).mp c11
        replace h := gif_t c11 h
        refine lv_goto (tgt := 2764) hx hb dL_law_1680 (by decide) ?_
        refine W.widen (k := cells + 2) (n := slots + 12) (by omega) (by omega) ?_
        exact kc E (show gW gFull D cy _ base _ _ from (Option.some.inj h) ▸ hM) hS (lv_sub hl [2, 3, 4, 5, 6] rfl)
      · replace c11 := fun w => c11 ((lg_cmp_eq _ _).mpr w)
        replace h := gif_f c11 h
        refine lv_iconst (v := (0 : Int32)) hx hb dL_law_1678 (by decide) ?_
        cases h
  · replace h := gif_f c8 h
    refine lv_iconst (v := (0 : Int32)) hx hb dL_law_1661 (by decide) ?_
    cases h
def f_case_30 (μ : gM) : Option gM :=
  Option.bind (f_X7_bridges  μ) (fun q1 => Option.bind (f_X8_bridges  q1.2) (fun q2 => if (q1.1 = q2.1) then some q2.2 else none))
set_option maxHeartbeats 4000000 in
set_option maxRecDepth 100000 in
theorem w_case_30 {x4 : Int32} {μ μ2 : gM} (h : f_case_30  μ = some μ2) (hx : p.tables.exec = Jvm.exec) (hb : c.code = cL_law) (hml : c.maxLocals = 8) (hown : s.vm.findClass RL = some m.cls) (hX : va_X b L xs s s.heap) (hbl : b < s.heap.size) (hbA : ¬ gA base b) (E : gEnv l D cy ad base s) (hM : gW gFull D cy ad base μ H) (hS : va_S (gA base) s.heap H locs) (hc : cells + 2 ≤ room_1.cells) (hs : slots + 12 ≤ room_1.slots) {ls : Array Slot} (hl : lv_has ls 8 [(0, .ref b), (1, .ref (ad 0)), (2, .ref (ad 60)), (3, .ref (ad 77)), (4, .int x4)]) (kc : ∀ {ad : Nat → Nat} {H : Heap} {locs : List Loc} {ls : Array Slot}, gEnv l D cy ad base s → gW gFull D cy ad base μ2 H → va_S (gA base) s.heap H locs → lv_has ls 8 [(0, .ref b), (1, .ref (ad 0)), (2, .ref (ad 60)), (3, .ref (ad 77)), (4, .int x4)] → W p l e room_1 s m args below meth c H locs (cells + 2) (slots + 12) Q (F0 m 2764 ls [])) : W p l e room_1 s m args below meth c H locs cells slots Q (F0 m 1683 ls []) := by
  unfold f_case_30 at h
  refine lv_aload_n hx hb dL_law_1683 rfl (lv_at hl 1 rfl) ?_
  obtain ⟨q1, hq1, h⟩ := gbind_e h
  refine g_callV (As := []) (rest := []) hx hb (hml.trans hl.1.symm) hown E hM hS hy_X7_bridges kw_664 (c_X7_bridges hq1) hk_0 dd_0 rfl rfl rfl (Nat.le_of_ble_eq_true rfl) ⟨Nat.le_of_ble_eq_true rfl, Nat.le_of_ble_eq_true rfl⟩ ⟨by omega, by omega⟩ dL_law_1684 (fun H locs hM hS => ?_)
  refine lv_aload_n hx hb dL_law_1687 rfl (lv_at hl 2 rfl) ?_
  obtain ⟨q2, hq2, h⟩ := gbind_e h
  refine g_callV (As := []) (rest := [.int q1.1]) hx hb (hml.trans hl.1.symm) hown E hM hS hy_X8_bridges kw_1694 (c_X8_bridges hq2) hk_60 dd_60 rfl rfl rfl (Nat.le_of_ble_eq_true rfl) ⟨Nat.le_of_ble_eq_true rfl, Nat.le_of_ble_eq_true rfl⟩ ⟨by omega, by omega⟩ dL_law_1688 (fun H locs hM hS => ?_)
  refine lv_icmp_eq (tgt := 2764) hx hb dL_law_1691 (by decide) (fun c3 => ?_) (fun c3 => ?_)
  · replace h := gif_t c3 h
    refine W.widen (k := cells + 2) (n := slots + 12) (by omega) (by omega) ?_
    exact kc E (show gW gFull D cy _ base _ _ from (Option.some.inj h) ▸ hM) hS hl
  · replace h := gif_f c3 h
    refine lv_iconst (v := (0 : Int32)) hx hb dL_law_1694 (by decide) ?_
    cases h
def f_case_31 (μ : gM) : Option gM :=
  Option.bind (f_X7_treeLines  μ) (fun q1 => Option.bind (f_X8_treeLines  q1.2) (fun q2 => if (q1.1 = q2.1) then some q2.2 else none))
set_option maxHeartbeats 4000000 in
set_option maxRecDepth 100000 in
theorem w_case_31 {x4 : Int32} {μ μ2 : gM} (h : f_case_31  μ = some μ2) (hx : p.tables.exec = Jvm.exec) (hb : c.code = cL_law) (hml : c.maxLocals = 8) (hown : s.vm.findClass RL = some m.cls) (hX : va_X b L xs s s.heap) (hbl : b < s.heap.size) (hbA : ¬ gA base b) (E : gEnv l D cy ad base s) (hM : gW gFull D cy ad base μ H) (hS : va_S (gA base) s.heap H locs) (hc : cells + 2 ≤ room_1.cells) (hs : slots + 12 ≤ room_1.slots) {ls : Array Slot} (hl : lv_has ls 8 [(0, .ref b), (1, .ref (ad 0)), (2, .ref (ad 60)), (3, .ref (ad 77)), (4, .int x4)]) (kc : ∀ {ad : Nat → Nat} {H : Heap} {locs : List Loc} {ls : Array Slot}, gEnv l D cy ad base s → gW gFull D cy ad base μ2 H → va_S (gA base) s.heap H locs → lv_has ls 8 [(0, .ref b), (1, .ref (ad 0)), (2, .ref (ad 60)), (3, .ref (ad 77)), (4, .int x4)] → W p l e room_1 s m args below meth c H locs (cells + 2) (slots + 12) Q (F0 m 2764 ls [])) : W p l e room_1 s m args below meth c H locs cells slots Q (F0 m 1696 ls []) := by
  unfold f_case_31 at h
  refine lv_aload_n hx hb dL_law_1696 rfl (lv_at hl 1 rfl) ?_
  obtain ⟨q1, hq1, h⟩ := gbind_e h
  refine g_callV (As := []) (rest := []) hx hb (hml.trans hl.1.symm) hown E hM hS hy_X7_treeLines kw_703 (c_X7_treeLines hq1) hk_0 dd_0 rfl rfl rfl (Nat.le_of_ble_eq_true rfl) ⟨Nat.le_of_ble_eq_true rfl, Nat.le_of_ble_eq_true rfl⟩ ⟨by omega, by omega⟩ dL_law_1697 (fun H locs hM hS => ?_)
  refine lv_aload_n hx hb dL_law_1700 rfl (lv_at hl 2 rfl) ?_
  obtain ⟨q2, hq2, h⟩ := gbind_e h
  refine g_callV (As := []) (rest := [.int q1.1]) hx hb (hml.trans hl.1.symm) hown E hM hS hy_X8_treeLines kw_1734 (c_X8_treeLines hq2) hk_60 dd_60 rfl rfl rfl (Nat.le_of_ble_eq_true rfl) ⟨Nat.le_of_ble_eq_true rfl, Nat.le_of_ble_eq_true rfl⟩ ⟨by omega, by omega⟩ dL_law_1701 (fun H locs hM hS => ?_)
  refine lv_icmp_eq (tgt := 2764) hx hb dL_law_1704 (by decide) (fun c3 => ?_) (fun c3 => ?_)
  · replace h := gif_t c3 h
    refine W.widen (k := cells + 2) (n := slots + 12) (by omega) (by omega) ?_
    exact kc E (show gW gFull D cy _ base _ _ from (Option.some.inj h) ▸ hM) hS hl
  · replace h := gif_f c3 h
    refine lv_iconst (v := (0 : Int32)) hx hb dL_law_1707 (by decide) ?_
    cases h
def f_case_32 (μ : gM) : Option gM :=
  Option.bind (f_X7_loopCount  μ) (fun q1 => Option.bind (f_X8_loopCount  q1.2) (fun q2 => if (q1.1 = q2.1) then some q2.2 else none))
set_option maxHeartbeats 4000000 in
set_option maxRecDepth 100000 in
theorem w_case_32 {x4 : Int32} {μ μ2 : gM} (h : f_case_32  μ = some μ2) (hx : p.tables.exec = Jvm.exec) (hb : c.code = cL_law) (hml : c.maxLocals = 8) (hown : s.vm.findClass RL = some m.cls) (hX : va_X b L xs s s.heap) (hbl : b < s.heap.size) (hbA : ¬ gA base b) (E : gEnv l D cy ad base s) (hM : gW gFull D cy ad base μ H) (hS : va_S (gA base) s.heap H locs) (hc : cells + 2 ≤ room_1.cells) (hs : slots + 12 ≤ room_1.slots) {ls : Array Slot} (hl : lv_has ls 8 [(0, .ref b), (1, .ref (ad 0)), (2, .ref (ad 60)), (3, .ref (ad 77)), (4, .int x4)]) (kc : ∀ {ad : Nat → Nat} {H : Heap} {locs : List Loc} {ls : Array Slot}, gEnv l D cy ad base s → gW gFull D cy ad base μ2 H → va_S (gA base) s.heap H locs → lv_has ls 8 [(0, .ref b), (1, .ref (ad 0)), (2, .ref (ad 60)), (3, .ref (ad 77)), (4, .int x4)] → W p l e room_1 s m args below meth c H locs (cells + 2) (slots + 12) Q (F0 m 2764 ls [])) : W p l e room_1 s m args below meth c H locs cells slots Q (F0 m 1709 ls []) := by
  unfold f_case_32 at h
  refine lv_aload_n hx hb dL_law_1709 rfl (lv_at hl 1 rfl) ?_
  obtain ⟨q1, hq1, h⟩ := gbind_e h
  refine g_callV (As := []) (rest := []) hx hb (hml.trans hl.1.symm) hown E hM hS hy_X7_loopCount kw_707 (c_X7_loopCount hq1) hk_0 dd_0 rfl rfl rfl (Nat.le_of_ble_eq_true rfl) ⟨Nat.le_of_ble_eq_true rfl, Nat.le_of_ble_eq_true rfl⟩ ⟨by omega, by omega⟩ dL_law_1710 (fun H locs hM hS => ?_)
  refine lv_aload_n hx hb dL_law_1713 rfl (lv_at hl 2 rfl) ?_
  obtain ⟨q2, hq2, h⟩ := gbind_e h
  refine g_callV (As := []) (rest := [.int q1.1]) hx hb (hml.trans hl.1.symm) hown E hM hS hy_X8_loopCount kw_1746 (c_X8_loopCount hq2) hk_60 dd_60 rfl rfl rfl (Nat.le_of_ble_eq_true rfl) ⟨Nat.le_of_ble_eq_true rfl, Nat.le_of_ble_eq_true rfl⟩ ⟨by omega, by omega⟩ dL_law_1714 (fun H locs hM hS => ?_)
  refine lv_icmp_eq (tgt := 2764) hx hb dL_law_1717 (by decide) (fun c3 => ?_) (fun c3 => ?_)
  · replace h := gif_t c3 h
    refine W.widen (k := cells + 2) (n := slots + 12) (by omega) (by omega) ?_
    exact kc E (show gW gFull D cy _ base _ _ from (Option.some.inj h) ▸ hM) hS hl
  · replace h := gif_f c3 h
    refine lv_iconst (v := (0 : Int32)) hx hb dL_law_1720 (by decide) ?_
    cases h
def f_case_33 (s1 : Int32) (s2 : Int32) (μ : gM) : Option gM :=
  Option.bind (f_L_loopLine s1 s2 μ) (fun q3 => Option.bind (f_X8_loopLine s1 s2 q3.2) (fun q6 => Option.bind (f_X8_thrown  q6.2) (fun q7 => if (q7 = q3.1) then if (q3.1 = 0) then gchk (gIn (0 : Int32) 1) (if ((gl q6.2 77 (0 : Int32).toNatClampNeg) = q6.1.toInt64) then some q6.2 else none) else some q6.2 else none)))
set_option maxHeartbeats 4000000 in
set_option maxRecDepth 100000 in
theorem w_case_33 {s1 : Int32} {s2 : Int32} {x4 : Int32} {μ μ2 : gM} (h : f_case_33 s1 s2 μ = some μ2) (hx : p.tables.exec = Jvm.exec) (hb : c.code = cL_law) (hml : c.maxLocals = 8) (hown : s.vm.findClass RL = some m.cls) (hX : va_X b L xs s s.heap) (hbl : b < s.heap.size) (hbA : ¬ gA base b) (h1 : scrAt L xs x4 1 s1) (h2 : scrAt L xs x4 2 s2) (E : gEnv l D cy ad base s) (hM : gW gFull D cy ad base μ H) (hS : va_S (gA base) s.heap H locs) (hc : cells + 2 ≤ room_1.cells) (hs : slots + 12 ≤ room_1.slots) {ls : Array Slot} (hl : lv_has ls 8 [(0, .ref b), (1, .ref (ad 0)), (2, .ref (ad 60)), (3, .ref (ad 77)), (4, .int x4)]) (kc : ∀ {ad : Nat → Nat} {H : Heap} {locs : List Loc} {ls : Array Slot}, gEnv l D cy ad base s → gW gFull D cy ad base μ2 H → va_S (gA base) s.heap H locs → lv_has ls 8 [(0, .ref b), (1, .ref (ad 0)), (2, .ref (ad 60)), (3, .ref (ad 77)), (4, .int x4)] → W p l e room_1 s m args below meth c H locs (cells + 2) (slots + 12) Q (F0 m 2764 ls [])) : W p l e room_1 s m args below meth c H locs cells slots Q (F0 m 1722 ls []) := by
  unfold f_case_33 at h
  refine lv_aload_n hx hb dL_law_1722 rfl (lv_at hl 1 rfl) ?_
  refine lv_aload_n hx hb dL_law_1723 rfl (lv_at hl 0 rfl) ?_
  refine lv_iload hx hb dL_law_1724 (lv_at hl 4 rfl) ?_
  refine lv_iconst (v := (1 : Int32)) hx hb dL_law_1726 (by decide) ?_
  refine lv_iadd hx hb dL_law_1727 ?_
  refine g_scr hx hb hX hbl hbA hS h1 dL_law_1728 ?_
  refine lv_aload_n hx hb dL_law_1729 rfl (lv_at hl 0 rfl) ?_
  refine lv_iload hx hb dL_law_1730 (lv_at hl 4 rfl) ?_
  refine lv_iconst (v := (2 : Int32)) hx hb dL_law_1732 (by decide) ?_
  refine lv_iadd hx hb dL_law_1733 ?_
  refine g_scr hx hb hX hbl hbA hS h2 dL_law_1734 ?_
  refine lv_aload_n hx hb dL_law_1735 rfl (lv_at hl 3 rfl) ?_
  obtain ⟨q3, hq3, h⟩ := gbind_e h
  refine g_callSW (As := [.ref (ad 0), .int s1, .int s2, .ref (ad 77)]) (rest := []) hx hb (hml.trans hl.1.symm) hown E hM hS hyw_L_loopLine kw_1165 (c_L_loopLine hq3) rfl rfl (Nat.le_of_ble_eq_true rfl) ⟨Nat.le_of_ble_eq_true rfl, Nat.le_of_ble_eq_true rfl⟩ ⟨by omega, by omega⟩ dL_law_1736 (fun H locs hM hS => ?_)
  refine lv_istore (lv' := [(5, .int q3.1), (0, .ref b), (1, .ref (ad 0)), (2, .ref (ad 60)), (3, .ref (ad 77)), (4, .int x4)]) hx hb dL_law_1739 hl (by decide) rfl (fun ls hl => ?_)
  refine lv_aload_n hx hb dL_law_1741 rfl (lv_at hl 3 rfl) ?_
  refine lv_aload_n hx hb dL_law_1742 rfl (lv_at hl 1 rfl) ?_
  refine lv_iload hx hb dL_law_1743 (lv_at hl 5 rfl) ?_
  refine lv_iconst (v := (1 : Int32)) hx hb dL_law_1745 (by decide) ?_
  refine lv_iadd hx hb dL_law_1746 ?_
  refine g_scr hx hb hX hbl hbA hS h1 dL_law_1747 ?_
  refine lv_aload_n hx hb dL_law_1748 rfl (lv_at hl 1 rfl) ?_
  refine lv_iload hx hb dL_law_1749 (lv_at hl 5 rfl) ?_
  refine lv_iconst (v := (2 : Int32)) hx hb dL_law_1751 (by decide) ?_
  refine lv_iadd hx hb dL_law_1752 ?_
  refine g_scr hx hb hX hbl hbA hS h2 dL_law_1753 ?_
  obtain ⟨q6, hq6, h⟩ := gbind_e h
  refine g_callV (As := [.int s1, .int s2]) (rest := []) hx hb (hml.trans hl.1.symm) hown E hM hS hy_X8_loopLine kw_1754 (c_X8_loopLine hq6) hk_60 dd_60 rfl rfl rfl (Nat.le_of_ble_eq_true rfl) ⟨Nat.le_of_ble_eq_true rfl, Nat.le_of_ble_eq_true rfl⟩ ⟨by omega, by omega⟩ dL_law_1754 (fun H locs hM hS => ?_)
  refine lv_istore (lv' := [(6, .int q6.1), (5, .int q3.1), (0, .ref b), (1, .ref (ad 0)), (2, .ref (ad 60)), (3, .ref (ad 77)), (4, .int x4)]) hx hb dL_law_1757 hl (by decide) rfl (fun ls hl => ?_)
  refine lv_aload_n hx hb dL_law_1759 rfl (lv_at hl 4 rfl) ?_
  obtain ⟨q7, hq7, h⟩ := gbind_e h
  refine g_callV (As := []) (rest := []) hx hb (hml.trans hl.1.symm) hown E hM hS hy_X8_thrown kw_1351 (c_X8_thrown hq7) hk_60 dd_60 rfl rfl rfl (Nat.le_of_ble_eq_true rfl) ⟨Nat.le_of_ble_eq_true rfl, Nat.le_of_ble_eq_true rfl⟩ ⟨by omega, by omega⟩ dL_law_1760 (fun H locs hM hS => ?_)
  refine lv_iload hx hb dL_law_1763 (lv_at hl 1 rfl) ?_
  refine lv_icmp_eq (tgt := 1770) hx hb dL_law_1765 (by decide) (fun c8 => ?_) (fun c8 => ?_)
  · replace h := gif_t c8 h
    refine lv_iload hx hb dL_law_1770 (lv_at hl 1 rfl) ?_
    refine lv_if_ne (tgt := 1787) hx hb dL_law_1772 (by decide) (fun c9 => ?_) (fun c9 => ?_)
    · replace h := gif_f c9 h
      refine lv_goto (tgt := 2764) hx hb dL_law_1787 (by decide) ?_
      refine W.widen (k := cells + 2) (n := slots + 12) (by omega) (by omega) ?_
      exact kc E (show gW gFull D cy _ base _ _ from (Option.some.inj h) ▸ hM) hS (lv_sub hl [2, 3, 4, 5, 6] rfl)
    · replace h := gif_t c9 h
      refine lv_aload_n hx hb dL_law_1775 rfl (lv_at hl 5 rfl) ?_
      refine lv_iconst (v := (0 : Int32)) hx hb dL_law_1776 (by decide) ?_
      obtain ⟨c10, h⟩ := gchk_e h
      refine g_lald hx hb E hM hk_77 dd_77 c10 dL_law_1777 ?_
      refine lv_iload hx hb dL_law_1778 (lv_at hl 0 rfl) ?_
      refine lv_i2l (v := q6.1.toInt64) hx hb dL_law_1780 rfl ?_
      refine W.lcmp hx hb dL_law_1781 ?_
      refine lv_if_eq (tgt := 1787) hx hb dL_law_1782 (by decide) (fun c11 => ?_) (fun c11 => ?_)
      · replace c11 := (lg_cmp_eq _ _).mp c11
        replace h := gif_t c11 h
        refine lv_goto (tgt := 2764) hx hb dL_law_1787 (by decide) ?_
        refine W.widen (k := cells + 2) (n := slots + 12) (by omega) (by omega) ?_
        exact kc E (show gW gFull D cy _ base _ _ from (Option.some.inj h) ▸ hM) hS (lv_sub hl [2, 3, 4, 5, 6] rfl)
      · replace c11 := fun w => c11 ((lg_cmp_eq _ _).mpr w)
        replace h := gif_f c11 h
        refine lv_iconst (v := (0 : Int32)) hx hb dL_law_1785 (by decide) ?_
        cases h
  · replace h := gif_f c8 h
    refine lv_iconst (v := (0 : Int32)) hx hb dL_law_1768 (by decide) ?_
    cases h
def f_case_34 (s1 : Int32) (μ : gM) : Option gM :=
  Option.bind (f_L_loopLength s1 μ) (fun q2 => Option.bind (f_X8_loopLength s1 q2.2) (fun q4 => Option.bind (f_X8_thrown  q4.2) (fun q5 => if (q5 = q2.1) then if (q2.1 = 0) then gchk (gIn (0 : Int32) 1) (if ((gl q4.2 77 (0 : Int32).toNatClampNeg) = q4.1.toInt64) then some q4.2 else none) else some q4.2 else none)))
set_option maxHeartbeats 4000000 in
set_option maxRecDepth 100000 in
theorem w_case_34 {s1 : Int32} {x4 : Int32} {μ μ2 : gM} (h : f_case_34 s1 μ = some μ2) (hx : p.tables.exec = Jvm.exec) (hb : c.code = cL_law) (hml : c.maxLocals = 8) (hown : s.vm.findClass RL = some m.cls) (hX : va_X b L xs s s.heap) (hbl : b < s.heap.size) (hbA : ¬ gA base b) (h1 : scrAt L xs x4 1 s1) (E : gEnv l D cy ad base s) (hM : gW gFull D cy ad base μ H) (hS : va_S (gA base) s.heap H locs) (hc : cells + 2 ≤ room_1.cells) (hs : slots + 12 ≤ room_1.slots) {ls : Array Slot} (hl : lv_has ls 8 [(0, .ref b), (1, .ref (ad 0)), (2, .ref (ad 60)), (3, .ref (ad 77)), (4, .int x4)]) (kc : ∀ {ad : Nat → Nat} {H : Heap} {locs : List Loc} {ls : Array Slot}, gEnv l D cy ad base s → gW gFull D cy ad base μ2 H → va_S (gA base) s.heap H locs → lv_has ls 8 [(0, .ref b), (1, .ref (ad 0)), (2, .ref (ad 60)), (3, .ref (ad 77)), (4, .int x4)] → W p l e room_1 s m args below meth c H locs (cells + 2) (slots + 12) Q (F0 m 2764 ls [])) : W p l e room_1 s m args below meth c H locs cells slots Q (F0 m 1790 ls []) := by
  unfold f_case_34 at h
  refine lv_aload_n hx hb dL_law_1790 rfl (lv_at hl 1 rfl) ?_
  refine lv_aload_n hx hb dL_law_1791 rfl (lv_at hl 0 rfl) ?_
  refine lv_iload hx hb dL_law_1792 (lv_at hl 4 rfl) ?_
  refine lv_iconst (v := (1 : Int32)) hx hb dL_law_1794 (by decide) ?_
  refine lv_iadd hx hb dL_law_1795 ?_
  refine g_scr hx hb hX hbl hbA hS h1 dL_law_1796 ?_
  refine lv_aload_n hx hb dL_law_1797 rfl (lv_at hl 3 rfl) ?_
  obtain ⟨q2, hq2, h⟩ := gbind_e h
  refine g_callSW (As := [.ref (ad 0), .int s1, .ref (ad 77)]) (rest := []) hx hb (hml.trans hl.1.symm) hown E hM hS hyw_L_loopLength kw_1177 (c_L_loopLength hq2) rfl rfl (Nat.le_of_ble_eq_true rfl) ⟨Nat.le_of_ble_eq_true rfl, Nat.le_of_ble_eq_true rfl⟩ ⟨by omega, by omega⟩ dL_law_1798 (fun H locs hM hS => ?_)
  refine lv_istore (lv' := [(5, .int q2.1), (0, .ref b), (1, .ref (ad 0)), (2, .ref (ad 60)), (3, .ref (ad 77)), (4, .int x4)]) hx hb dL_law_1801 hl (by decide) rfl (fun ls hl => ?_)
  refine lv_aload_n hx hb dL_law_1803 rfl (lv_at hl 3 rfl) ?_
  refine lv_aload_n hx hb dL_law_1804 rfl (lv_at hl 1 rfl) ?_
  refine lv_iload hx hb dL_law_1805 (lv_at hl 5 rfl) ?_
  refine lv_iconst (v := (1 : Int32)) hx hb dL_law_1807 (by decide) ?_
  refine lv_iadd hx hb dL_law_1808 ?_
  refine g_scr hx hb hX hbl hbA hS h1 dL_law_1809 ?_
  obtain ⟨q4, hq4, h⟩ := gbind_e h
  refine g_callV (As := [.int s1]) (rest := []) hx hb (hml.trans hl.1.symm) hown E hM hS hy_X8_loopLength kw_1770 (c_X8_loopLength hq4) hk_60 dd_60 rfl rfl rfl (Nat.le_of_ble_eq_true rfl) ⟨Nat.le_of_ble_eq_true rfl, Nat.le_of_ble_eq_true rfl⟩ ⟨by omega, by omega⟩ dL_law_1810 (fun H locs hM hS => ?_)
  refine lv_istore (lv' := [(6, .int q4.1), (5, .int q2.1), (0, .ref b), (1, .ref (ad 0)), (2, .ref (ad 60)), (3, .ref (ad 77)), (4, .int x4)]) hx hb dL_law_1813 hl (by decide) rfl (fun ls hl => ?_)
  refine lv_aload_n hx hb dL_law_1815 rfl (lv_at hl 4 rfl) ?_
  obtain ⟨q5, hq5, h⟩ := gbind_e h
  refine g_callV (As := []) (rest := []) hx hb (hml.trans hl.1.symm) hown E hM hS hy_X8_thrown kw_1351 (c_X8_thrown hq5) hk_60 dd_60 rfl rfl rfl (Nat.le_of_ble_eq_true rfl) ⟨Nat.le_of_ble_eq_true rfl, Nat.le_of_ble_eq_true rfl⟩ ⟨by omega, by omega⟩ dL_law_1816 (fun H locs hM hS => ?_)
  refine lv_iload hx hb dL_law_1819 (lv_at hl 1 rfl) ?_
  refine lv_icmp_eq (tgt := 1826) hx hb dL_law_1821 (by decide) (fun c6 => ?_) (fun c6 => ?_)
  · replace h := gif_t c6 h
    refine lv_iload hx hb dL_law_1826 (lv_at hl 1 rfl) ?_
    refine lv_if_ne (tgt := 1843) hx hb dL_law_1828 (by decide) (fun c7 => ?_) (fun c7 => ?_)
    · replace h := gif_f c7 h
      refine lv_goto (tgt := 2764) hx hb dL_law_1843 (by decide) ?_
      refine W.widen (k := cells + 2) (n := slots + 12) (by omega) (by omega) ?_
      exact kc E (show gW gFull D cy _ base _ _ from (Option.some.inj h) ▸ hM) hS (lv_sub hl [2, 3, 4, 5, 6] rfl)
    · replace h := gif_t c7 h
      refine lv_aload_n hx hb dL_law_1831 rfl (lv_at hl 5 rfl) ?_
      refine lv_iconst (v := (0 : Int32)) hx hb dL_law_1832 (by decide) ?_
      obtain ⟨c8, h⟩ := gchk_e h
      refine g_lald hx hb E hM hk_77 dd_77 c8 dL_law_1833 ?_
      refine lv_iload hx hb dL_law_1834 (lv_at hl 0 rfl) ?_
      refine lv_i2l (v := q4.1.toInt64) hx hb dL_law_1836 rfl ?_
      refine W.lcmp hx hb dL_law_1837 ?_
      refine lv_if_eq (tgt := 1843) hx hb dL_law_1838 (by decide) (fun c9 => ?_) (fun c9 => ?_)
      · replace c9 := (lg_cmp_eq _ _).mp c9
        replace h := gif_t c9 h
        refine lv_goto (tgt := 2764) hx hb dL_law_1843 (by decide) ?_
        refine W.widen (k := cells + 2) (n := slots + 12) (by omega) (by omega) ?_
        exact kc E (show gW gFull D cy _ base _ _ from (Option.some.inj h) ▸ hM) hS (lv_sub hl [2, 3, 4, 5, 6] rfl)
      · replace c9 := fun w => c9 ((lg_cmp_eq _ _).mpr w)
        replace h := gif_f c9 h
        refine lv_iconst (v := (0 : Int32)) hx hb dL_law_1841 (by decide) ?_
        cases h
  · replace h := gif_f c6 h
    refine lv_iconst (v := (0 : Int32)) hx hb dL_law_1824 (by decide) ?_
    cases h
def f_case_35 (s1 : Int32) (μ : gM) : Option gM :=
  Option.bind (f_L_misclosure s1 μ) (fun q2 => Option.bind (f_X8_misclosure s1 q2.2) (fun q4 => Option.bind (f_X8_thrown  q4.2) (fun q5 => if (q5 = q2.1) then if (q2.1 = 0) then gchk (gIn (0 : Int32) 1) (if ((gl q4.2 77 (0 : Int32).toNatClampNeg) = q4.1.toInt64) then some q4.2 else none) else some q4.2 else none)))
set_option maxHeartbeats 4000000 in
set_option maxRecDepth 100000 in
theorem w_case_35 {s1 : Int32} {x4 : Int32} {μ μ2 : gM} (h : f_case_35 s1 μ = some μ2) (hx : p.tables.exec = Jvm.exec) (hb : c.code = cL_law) (hml : c.maxLocals = 8) (hown : s.vm.findClass RL = some m.cls) (hX : va_X b L xs s s.heap) (hbl : b < s.heap.size) (hbA : ¬ gA base b) (h1 : scrAt L xs x4 1 s1) (E : gEnv l D cy ad base s) (hM : gW gFull D cy ad base μ H) (hS : va_S (gA base) s.heap H locs) (hc : cells + 2 ≤ room_1.cells) (hs : slots + 12 ≤ room_1.slots) {ls : Array Slot} (hl : lv_has ls 8 [(0, .ref b), (1, .ref (ad 0)), (2, .ref (ad 60)), (3, .ref (ad 77)), (4, .int x4)]) (kc : ∀ {ad : Nat → Nat} {H : Heap} {locs : List Loc} {ls : Array Slot}, gEnv l D cy ad base s → gW gFull D cy ad base μ2 H → va_S (gA base) s.heap H locs → lv_has ls 8 [(0, .ref b), (1, .ref (ad 0)), (2, .ref (ad 60)), (3, .ref (ad 77)), (4, .int x4)] → W p l e room_1 s m args below meth c H locs (cells + 2) (slots + 12) Q (F0 m 2764 ls [])) : W p l e room_1 s m args below meth c H locs cells slots Q (F0 m 1846 ls []) := by
  unfold f_case_35 at h
  refine lv_aload_n hx hb dL_law_1846 rfl (lv_at hl 1 rfl) ?_
  refine lv_aload_n hx hb dL_law_1847 rfl (lv_at hl 0 rfl) ?_
  refine lv_iload hx hb dL_law_1848 (lv_at hl 4 rfl) ?_
  refine lv_iconst (v := (1 : Int32)) hx hb dL_law_1850 (by decide) ?_
  refine lv_iadd hx hb dL_law_1851 ?_
  refine g_scr hx hb hX hbl hbA hS h1 dL_law_1852 ?_
  refine lv_aload_n hx hb dL_law_1853 rfl (lv_at hl 3 rfl) ?_
  obtain ⟨q2, hq2, h⟩ := gbind_e h
  refine g_callSW (As := [.ref (ad 0), .int s1, .ref (ad 77)]) (rest := []) hx hb (hml.trans hl.1.symm) hown E hM hS hyw_L_misclosure kw_1184 (c_L_misclosure hq2) rfl rfl (Nat.le_of_ble_eq_true rfl) ⟨Nat.le_of_ble_eq_true rfl, Nat.le_of_ble_eq_true rfl⟩ ⟨by omega, by omega⟩ dL_law_1854 (fun H locs hM hS => ?_)
  refine lv_istore (lv' := [(5, .int q2.1), (0, .ref b), (1, .ref (ad 0)), (2, .ref (ad 60)), (3, .ref (ad 77)), (4, .int x4)]) hx hb dL_law_1857 hl (by decide) rfl (fun ls hl => ?_)
  refine lv_aload_n hx hb dL_law_1859 rfl (lv_at hl 3 rfl) ?_
  refine lv_aload_n hx hb dL_law_1860 rfl (lv_at hl 1 rfl) ?_
  refine lv_iload hx hb dL_law_1861 (lv_at hl 5 rfl) ?_
  refine lv_iconst (v := (1 : Int32)) hx hb dL_law_1863 (by decide) ?_
  refine lv_iadd hx hb dL_law_1864 ?_
  refine g_scr hx hb hX hbl hbA hS h1 dL_law_1865 ?_
  obtain ⟨q4, hq4, h⟩ := gbind_e h
  refine g_callV (As := [.int s1]) (rest := []) hx hb (hml.trans hl.1.symm) hown E hM hS hy_X8_misclosure kw_1774 (c_X8_misclosure hq4) hk_60 dd_60 rfl rfl rfl (Nat.le_of_ble_eq_true rfl) ⟨Nat.le_of_ble_eq_true rfl, Nat.le_of_ble_eq_true rfl⟩ ⟨by omega, by omega⟩ dL_law_1866 (fun H locs hM hS => ?_)
  refine lv_istore (lv' := [(6, .int q4.1), (5, .int q2.1), (0, .ref b), (1, .ref (ad 0)), (2, .ref (ad 60)), (3, .ref (ad 77)), (4, .int x4)]) hx hb dL_law_1869 hl (by decide) rfl (fun ls hl => ?_)
  refine lv_aload_n hx hb dL_law_1871 rfl (lv_at hl 4 rfl) ?_
  obtain ⟨q5, hq5, h⟩ := gbind_e h
  refine g_callV (As := []) (rest := []) hx hb (hml.trans hl.1.symm) hown E hM hS hy_X8_thrown kw_1351 (c_X8_thrown hq5) hk_60 dd_60 rfl rfl rfl (Nat.le_of_ble_eq_true rfl) ⟨Nat.le_of_ble_eq_true rfl, Nat.le_of_ble_eq_true rfl⟩ ⟨by omega, by omega⟩ dL_law_1872 (fun H locs hM hS => ?_)
  refine lv_iload hx hb dL_law_1875 (lv_at hl 1 rfl) ?_
  refine lv_icmp_eq (tgt := 1882) hx hb dL_law_1877 (by decide) (fun c6 => ?_) (fun c6 => ?_)
  · replace h := gif_t c6 h
    refine lv_iload hx hb dL_law_1882 (lv_at hl 1 rfl) ?_
    refine lv_if_ne (tgt := 1899) hx hb dL_law_1884 (by decide) (fun c7 => ?_) (fun c7 => ?_)
    · replace h := gif_f c7 h
      refine lv_goto (tgt := 2764) hx hb dL_law_1899 (by decide) ?_
      refine W.widen (k := cells + 2) (n := slots + 12) (by omega) (by omega) ?_
      exact kc E (show gW gFull D cy _ base _ _ from (Option.some.inj h) ▸ hM) hS (lv_sub hl [2, 3, 4, 5, 6] rfl)
    · replace h := gif_t c7 h
      refine lv_aload_n hx hb dL_law_1887 rfl (lv_at hl 5 rfl) ?_
      refine lv_iconst (v := (0 : Int32)) hx hb dL_law_1888 (by decide) ?_
      obtain ⟨c8, h⟩ := gchk_e h
      refine g_lald hx hb E hM hk_77 dd_77 c8 dL_law_1889 ?_
      refine lv_iload hx hb dL_law_1890 (lv_at hl 0 rfl) ?_
      refine lv_i2l (v := q4.1.toInt64) hx hb dL_law_1892 rfl ?_
      refine W.lcmp hx hb dL_law_1893 ?_
      refine lv_if_eq (tgt := 1899) hx hb dL_law_1894 (by decide) (fun c9 => ?_) (fun c9 => ?_)
      · replace c9 := (lg_cmp_eq _ _).mp c9
        replace h := gif_t c9 h
        refine lv_goto (tgt := 2764) hx hb dL_law_1899 (by decide) ?_
        refine W.widen (k := cells + 2) (n := slots + 12) (by omega) (by omega) ?_
        exact kc E (show gW gFull D cy _ base _ _ from (Option.some.inj h) ▸ hM) hS (lv_sub hl [2, 3, 4, 5, 6] rfl)
      · replace c9 := fun w => c9 ((lg_cmp_eq _ _).mpr w)
        replace h := gif_f c9 h
        refine lv_iconst (v := (0 : Int32)) hx hb dL_law_1897 (by decide) ?_
        cases h
  · replace h := gif_f c6 h
    refine lv_iconst (v := (0 : Int32)) hx hb dL_law_1880 (by decide) ?_
    cases h
def f_case_36 (s1 : Int32) (μ : gM) : Option gM :=
  Option.bind (f_L_allowed s1 μ) (fun q2 => Option.bind (f_X8_allowed s1 q2.2) (fun q4 => Option.bind (f_X8_thrown  q4.2) (fun q5 => if (q5 = q2.1) then if (q2.1 = 0) then gchk (gIn (0 : Int32) 1) (if ((gl q4.2 77 (0 : Int32).toNatClampNeg) = q4.1.toInt64) then some q4.2 else none) else some q4.2 else none)))
set_option maxHeartbeats 4000000 in
set_option maxRecDepth 100000 in
theorem w_case_36 {s1 : Int32} {x4 : Int32} {μ μ2 : gM} (h : f_case_36 s1 μ = some μ2) (hx : p.tables.exec = Jvm.exec) (hb : c.code = cL_law) (hml : c.maxLocals = 8) (hown : s.vm.findClass RL = some m.cls) (hX : va_X b L xs s s.heap) (hbl : b < s.heap.size) (hbA : ¬ gA base b) (h1 : scrAt L xs x4 1 s1) (E : gEnv l D cy ad base s) (hM : gW gFull D cy ad base μ H) (hS : va_S (gA base) s.heap H locs) (hc : cells + 2 ≤ room_1.cells) (hs : slots + 12 ≤ room_1.slots) {ls : Array Slot} (hl : lv_has ls 8 [(0, .ref b), (1, .ref (ad 0)), (2, .ref (ad 60)), (3, .ref (ad 77)), (4, .int x4)]) (kc : ∀ {ad : Nat → Nat} {H : Heap} {locs : List Loc} {ls : Array Slot}, gEnv l D cy ad base s → gW gFull D cy ad base μ2 H → va_S (gA base) s.heap H locs → lv_has ls 8 [(0, .ref b), (1, .ref (ad 0)), (2, .ref (ad 60)), (3, .ref (ad 77)), (4, .int x4)] → W p l e room_1 s m args below meth c H locs (cells + 2) (slots + 12) Q (F0 m 2764 ls [])) : W p l e room_1 s m args below meth c H locs cells slots Q (F0 m 1902 ls []) := by
  unfold f_case_36 at h
  refine lv_aload_n hx hb dL_law_1902 rfl (lv_at hl 1 rfl) ?_
  refine lv_aload_n hx hb dL_law_1903 rfl (lv_at hl 0 rfl) ?_
  refine lv_iload hx hb dL_law_1904 (lv_at hl 4 rfl) ?_
  refine lv_iconst (v := (1 : Int32)) hx hb dL_law_1906 (by decide) ?_
  refine lv_iadd hx hb dL_law_1907 ?_
  refine g_scr hx hb hX hbl hbA hS h1 dL_law_1908 ?_
  refine lv_aload_n hx hb dL_law_1909 rfl (lv_at hl 3 rfl) ?_
  obtain ⟨q2, hq2, h⟩ := gbind_e h
  refine g_callSW (As := [.ref (ad 0), .int s1, .ref (ad 77)]) (rest := []) hx hb (hml.trans hl.1.symm) hown E hM hS hyw_L_allowed kw_1191 (c_L_allowed hq2) rfl rfl (Nat.le_of_ble_eq_true rfl) ⟨Nat.le_of_ble_eq_true rfl, Nat.le_of_ble_eq_true rfl⟩ ⟨by omega, by omega⟩ dL_law_1910 (fun H locs hM hS => ?_)
  refine lv_istore (lv' := [(5, .int q2.1), (0, .ref b), (1, .ref (ad 0)), (2, .ref (ad 60)), (3, .ref (ad 77)), (4, .int x4)]) hx hb dL_law_1913 hl (by decide) rfl (fun ls hl => ?_)
  refine lv_aload_n hx hb dL_law_1915 rfl (lv_at hl 3 rfl) ?_
  refine lv_aload_n hx hb dL_law_1916 rfl (lv_at hl 1 rfl) ?_
  refine lv_iload hx hb dL_law_1917 (lv_at hl 5 rfl) ?_
  refine lv_iconst (v := (1 : Int32)) hx hb dL_law_1919 (by decide) ?_
  refine lv_iadd hx hb dL_law_1920 ?_
  refine g_scr hx hb hX hbl hbA hS h1 dL_law_1921 ?_
  obtain ⟨q4, hq4, h⟩ := gbind_e h
  refine g_callV (As := [.int s1]) (rest := []) hx hb (hml.trans hl.1.symm) hown E hM hS hy_X8_allowed kw_1778 (c_X8_allowed hq4) hk_60 dd_60 rfl rfl rfl (Nat.le_of_ble_eq_true rfl) ⟨Nat.le_of_ble_eq_true rfl, Nat.le_of_ble_eq_true rfl⟩ ⟨by omega, by omega⟩ dL_law_1922 (fun H locs hM hS => ?_)
  refine lv_istore (lv' := [(6, .int q4.1), (5, .int q2.1), (0, .ref b), (1, .ref (ad 0)), (2, .ref (ad 60)), (3, .ref (ad 77)), (4, .int x4)]) hx hb dL_law_1925 hl (by decide) rfl (fun ls hl => ?_)
  refine lv_aload_n hx hb dL_law_1927 rfl (lv_at hl 4 rfl) ?_
  obtain ⟨q5, hq5, h⟩ := gbind_e h
  refine g_callV (As := []) (rest := []) hx hb (hml.trans hl.1.symm) hown E hM hS hy_X8_thrown kw_1351 (c_X8_thrown hq5) hk_60 dd_60 rfl rfl rfl (Nat.le_of_ble_eq_true rfl) ⟨Nat.le_of_ble_eq_true rfl, Nat.le_of_ble_eq_true rfl⟩ ⟨by omega, by omega⟩ dL_law_1928 (fun H locs hM hS => ?_)
  refine lv_iload hx hb dL_law_1931 (lv_at hl 1 rfl) ?_
  refine lv_icmp_eq (tgt := 1938) hx hb dL_law_1933 (by decide) (fun c6 => ?_) (fun c6 => ?_)
  · replace h := gif_t c6 h
    refine lv_iload hx hb dL_law_1938 (lv_at hl 1 rfl) ?_
    refine lv_if_ne (tgt := 1955) hx hb dL_law_1940 (by decide) (fun c7 => ?_) (fun c7 => ?_)
    · replace h := gif_f c7 h
      refine lv_goto (tgt := 2764) hx hb dL_law_1955 (by decide) ?_
      refine W.widen (k := cells + 2) (n := slots + 12) (by omega) (by omega) ?_
      exact kc E (show gW gFull D cy _ base _ _ from (Option.some.inj h) ▸ hM) hS (lv_sub hl [2, 3, 4, 5, 6] rfl)
    · replace h := gif_t c7 h
      refine lv_aload_n hx hb dL_law_1943 rfl (lv_at hl 5 rfl) ?_
      refine lv_iconst (v := (0 : Int32)) hx hb dL_law_1944 (by decide) ?_
      obtain ⟨c8, h⟩ := gchk_e h
      refine g_lald hx hb E hM hk_77 dd_77 c8 dL_law_1945 ?_
      refine lv_iload hx hb dL_law_1946 (lv_at hl 0 rfl) ?_
      refine lv_i2l (v := q4.1.toInt64) hx hb dL_law_1948 rfl ?_
      refine W.lcmp hx hb dL_law_1949 ?_
      refine lv_if_eq (tgt := 1955) hx hb dL_law_1950 (by decide) (fun c9 => ?_) (fun c9 => ?_)
      · replace c9 := (lg_cmp_eq _ _).mp c9
        replace h := gif_t c9 h
        refine lv_goto (tgt := 2764) hx hb dL_law_1955 (by decide) ?_
        refine W.widen (k := cells + 2) (n := slots + 12) (by omega) (by omega) ?_
        exact kc E (show gW gFull D cy _ base _ _ from (Option.some.inj h) ▸ hM) hS (lv_sub hl [2, 3, 4, 5, 6] rfl)
      · replace c9 := fun w => c9 ((lg_cmp_eq _ _).mpr w)
        replace h := gif_f c9 h
        refine lv_iconst (v := (0 : Int32)) hx hb dL_law_1953 (by decide) ?_
        cases h
  · replace h := gif_f c6 h
    refine lv_iconst (v := (0 : Int32)) hx hb dL_law_1936 (by decide) ?_
    cases h
def f_case_37 (μ : gM) : Option gM :=
  Option.bind (f_X7_badLoops  μ) (fun q1 => Option.bind (f_X8_badLoops  q1.2) (fun q2 => if (q1.1 = q2.1) then some q2.2 else none))
set_option maxHeartbeats 4000000 in
set_option maxRecDepth 100000 in
theorem w_case_37 {x4 : Int32} {μ μ2 : gM} (h : f_case_37  μ = some μ2) (hx : p.tables.exec = Jvm.exec) (hb : c.code = cL_law) (hml : c.maxLocals = 8) (hown : s.vm.findClass RL = some m.cls) (hX : va_X b L xs s s.heap) (hbl : b < s.heap.size) (hbA : ¬ gA base b) (E : gEnv l D cy ad base s) (hM : gW gFull D cy ad base μ H) (hS : va_S (gA base) s.heap H locs) (hc : cells + 2 ≤ room_1.cells) (hs : slots + 12 ≤ room_1.slots) {ls : Array Slot} (hl : lv_has ls 8 [(0, .ref b), (1, .ref (ad 0)), (2, .ref (ad 60)), (3, .ref (ad 77)), (4, .int x4)]) (kc : ∀ {ad : Nat → Nat} {H : Heap} {locs : List Loc} {ls : Array Slot}, gEnv l D cy ad base s → gW gFull D cy ad base μ2 H → va_S (gA base) s.heap H locs → lv_has ls 8 [(0, .ref b), (1, .ref (ad 0)), (2, .ref (ad 60)), (3, .ref (ad 77)), (4, .int x4)] → W p l e room_1 s m args below meth c H locs (cells + 2) (slots + 12) Q (F0 m 2764 ls [])) : W p l e room_1 s m args below meth c H locs cells slots Q (F0 m 1958 ls []) := by
  unfold f_case_37 at h
  refine lv_aload_n hx hb dL_law_1958 rfl (lv_at hl 1 rfl) ?_
  obtain ⟨q1, hq1, h⟩ := gbind_e h
  refine g_callV (As := []) (rest := []) hx hb (hml.trans hl.1.symm) hown E hM hS hy_X7_badLoops kw_721 (c_X7_badLoops hq1) hk_0 dd_0 rfl rfl rfl (Nat.le_of_ble_eq_true rfl) ⟨Nat.le_of_ble_eq_true rfl, Nat.le_of_ble_eq_true rfl⟩ ⟨by omega, by omega⟩ dL_law_1959 (fun H locs hM hS => ?_)
  refine lv_aload_n hx hb dL_law_1962 rfl (lv_at hl 2 rfl) ?_
  obtain ⟨q2, hq2, h⟩ := gbind_e h
  refine g_callV (As := []) (rest := [.int q1.1]) hx hb (hml.trans hl.1.symm) hown E hM hS hy_X8_badLoops kw_1792 (c_X8_badLoops hq2) hk_60 dd_60 rfl rfl rfl (Nat.le_of_ble_eq_true rfl) ⟨Nat.le_of_ble_eq_true rfl, Nat.le_of_ble_eq_true rfl⟩ ⟨by omega, by omega⟩ dL_law_1963 (fun H locs hM hS => ?_)
  refine lv_icmp_eq (tgt := 2764) hx hb dL_law_1966 (by decide) (fun c3 => ?_) (fun c3 => ?_)
  · replace h := gif_t c3 h
    refine W.widen (k := cells + 2) (n := slots + 12) (by omega) (by omega) ?_
    exact kc E (show gW gFull D cy _ base _ _ from (Option.some.inj h) ▸ hM) hS hl
  · replace h := gif_f c3 h
    refine lv_iconst (v := (0 : Int32)) hx hb dL_law_1969 (by decide) ?_
    cases h
def f_case_38 (μ : gM) : Option gM :=
  Option.bind (f_X7_worstLoop  μ) (fun q1 => Option.bind (f_X8_worstLoop  q1.2) (fun q2 => if (q1.1 = q2.1) then some q2.2 else none))
set_option maxHeartbeats 4000000 in
set_option maxRecDepth 100000 in
theorem w_case_38 {x4 : Int32} {μ μ2 : gM} (h : f_case_38  μ = some μ2) (hx : p.tables.exec = Jvm.exec) (hb : c.code = cL_law) (hml : c.maxLocals = 8) (hown : s.vm.findClass RL = some m.cls) (hX : va_X b L xs s s.heap) (hbl : b < s.heap.size) (hbA : ¬ gA base b) (E : gEnv l D cy ad base s) (hM : gW gFull D cy ad base μ H) (hS : va_S (gA base) s.heap H locs) (hc : cells + 2 ≤ room_1.cells) (hs : slots + 12 ≤ room_1.slots) {ls : Array Slot} (hl : lv_has ls 8 [(0, .ref b), (1, .ref (ad 0)), (2, .ref (ad 60)), (3, .ref (ad 77)), (4, .int x4)]) (kc : ∀ {ad : Nat → Nat} {H : Heap} {locs : List Loc} {ls : Array Slot}, gEnv l D cy ad base s → gW gFull D cy ad base μ2 H → va_S (gA base) s.heap H locs → lv_has ls 8 [(0, .ref b), (1, .ref (ad 0)), (2, .ref (ad 60)), (3, .ref (ad 77)), (4, .int x4)] → W p l e room_1 s m args below meth c H locs (cells + 2) (slots + 12) Q (F0 m 2764 ls [])) : W p l e room_1 s m args below meth c H locs cells slots Q (F0 m 1971 ls []) := by
  unfold f_case_38 at h
  refine lv_aload_n hx hb dL_law_1971 rfl (lv_at hl 1 rfl) ?_
  obtain ⟨q1, hq1, h⟩ := gbind_e h
  refine g_callV (As := []) (rest := []) hx hb (hml.trans hl.1.symm) hown E hM hS hy_X7_worstLoop kw_736 (c_X7_worstLoop hq1) hk_0 dd_0 rfl rfl rfl (Nat.le_of_ble_eq_true rfl) ⟨Nat.le_of_ble_eq_true rfl, Nat.le_of_ble_eq_true rfl⟩ ⟨by omega, by omega⟩ dL_law_1972 (fun H locs hM hS => ?_)
  refine lv_aload_n hx hb dL_law_1975 rfl (lv_at hl 2 rfl) ?_
  obtain ⟨q2, hq2, h⟩ := gbind_e h
  refine g_callV (As := []) (rest := [.int q1.1]) hx hb (hml.trans hl.1.symm) hown E hM hS hy_X8_worstLoop kw_1804 (c_X8_worstLoop hq2) hk_60 dd_60 rfl rfl rfl (Nat.le_of_ble_eq_true rfl) ⟨Nat.le_of_ble_eq_true rfl, Nat.le_of_ble_eq_true rfl⟩ ⟨by omega, by omega⟩ dL_law_1976 (fun H locs hM hS => ?_)
  refine lv_icmp_eq (tgt := 2764) hx hb dL_law_1979 (by decide) (fun c3 => ?_) (fun c3 => ?_)
  · replace h := gif_t c3 h
    refine W.widen (k := cells + 2) (n := slots + 12) (by omega) (by omega) ?_
    exact kc E (show gW gFull D cy _ base _ _ from (Option.some.inj h) ▸ hM) hS hl
  · replace h := gif_f c3 h
    refine lv_iconst (v := (0 : Int32)) hx hb dL_law_1982 (by decide) ?_
    cases h
def f_case_39 (μ : gM) : Option gM :=
  Option.bind (f_X7_suspectLine  μ) (fun q1 => Option.bind (f_X8_suspectLine  q1.2) (fun q2 => if (q1.1 = q2.1) then some q2.2 else none))
set_option maxHeartbeats 4000000 in
set_option maxRecDepth 100000 in
theorem w_case_39 {x4 : Int32} {μ μ2 : gM} (h : f_case_39  μ = some μ2) (hx : p.tables.exec = Jvm.exec) (hb : c.code = cL_law) (hml : c.maxLocals = 8) (hown : s.vm.findClass RL = some m.cls) (hX : va_X b L xs s s.heap) (hbl : b < s.heap.size) (hbA : ¬ gA base b) (E : gEnv l D cy ad base s) (hM : gW gFull D cy ad base μ H) (hS : va_S (gA base) s.heap H locs) (hc : cells + 2 ≤ room_1.cells) (hs : slots + 12 ≤ room_1.slots) {ls : Array Slot} (hl : lv_has ls 8 [(0, .ref b), (1, .ref (ad 0)), (2, .ref (ad 60)), (3, .ref (ad 77)), (4, .int x4)]) (kc : ∀ {ad : Nat → Nat} {H : Heap} {locs : List Loc} {ls : Array Slot}, gEnv l D cy ad base s → gW gFull D cy ad base μ2 H → va_S (gA base) s.heap H locs → lv_has ls 8 [(0, .ref b), (1, .ref (ad 0)), (2, .ref (ad 60)), (3, .ref (ad 77)), (4, .int x4)] → W p l e room_1 s m args below meth c H locs (cells + 2) (slots + 12) Q (F0 m 2764 ls [])) : W p l e room_1 s m args below meth c H locs cells slots Q (F0 m 1984 ls []) := by
  unfold f_case_39 at h
  refine lv_aload_n hx hb dL_law_1984 rfl (lv_at hl 1 rfl) ?_
  obtain ⟨q1, hq1, h⟩ := gbind_e h
  refine g_callV (As := []) (rest := []) hx hb (hml.trans hl.1.symm) hown E hM hS hy_X7_suspectLine kw_741 (c_X7_suspectLine hq1) hk_0 dd_0 rfl rfl rfl (Nat.le_of_ble_eq_true rfl) ⟨Nat.le_of_ble_eq_true rfl, Nat.le_of_ble_eq_true rfl⟩ ⟨by omega, by omega⟩ dL_law_1985 (fun H locs hM hS => ?_)
  refine lv_aload_n hx hb dL_law_1988 rfl (lv_at hl 2 rfl) ?_
  obtain ⟨q2, hq2, h⟩ := gbind_e h
  refine g_callV (As := []) (rest := [.int q1.1]) hx hb (hml.trans hl.1.symm) hown E hM hS hy_X8_suspectLine kw_1808 (c_X8_suspectLine hq2) hk_60 dd_60 rfl rfl rfl (Nat.le_of_ble_eq_true rfl) ⟨Nat.le_of_ble_eq_true rfl, Nat.le_of_ble_eq_true rfl⟩ ⟨by omega, by omega⟩ dL_law_1989 (fun H locs hM hS => ?_)
  refine lv_icmp_eq (tgt := 2764) hx hb dL_law_1992 (by decide) (fun c3 => ?_) (fun c3 => ?_)
  · replace h := gif_t c3 h
    refine W.widen (k := cells + 2) (n := slots + 12) (by omega) (by omega) ?_
    exact kc E (show gW gFull D cy _ base _ _ from (Option.some.inj h) ▸ hM) hS hl
  · replace h := gif_f c3 h
    refine lv_iconst (v := (0 : Int32)) hx hb dL_law_1995 (by decide) ?_
    cases h
def f_case_40 (s1 : Int32) (μ : gM) : Option gM :=
  Option.bind (f_L_badWithout s1 μ) (fun q2 => Option.bind (f_X8_badWithout s1 q2.2) (fun q4 => Option.bind (f_X8_thrown  q4.2) (fun q5 => if (q5 = q2.1) then if (q2.1 = 0) then gchk (gIn (0 : Int32) 1) (if ((gl q4.2 77 (0 : Int32).toNatClampNeg) = q4.1.toInt64) then some q4.2 else none) else some q4.2 else none)))
set_option maxHeartbeats 4000000 in
set_option maxRecDepth 100000 in
theorem w_case_40 {s1 : Int32} {x4 : Int32} {μ μ2 : gM} (h : f_case_40 s1 μ = some μ2) (hx : p.tables.exec = Jvm.exec) (hb : c.code = cL_law) (hml : c.maxLocals = 8) (hown : s.vm.findClass RL = some m.cls) (hX : va_X b L xs s s.heap) (hbl : b < s.heap.size) (hbA : ¬ gA base b) (h1 : scrAt L xs x4 1 s1) (E : gEnv l D cy ad base s) (hM : gW gFull D cy ad base μ H) (hS : va_S (gA base) s.heap H locs) (hc : cells + 2 ≤ room_1.cells) (hs : slots + 12 ≤ room_1.slots) {ls : Array Slot} (hl : lv_has ls 8 [(0, .ref b), (1, .ref (ad 0)), (2, .ref (ad 60)), (3, .ref (ad 77)), (4, .int x4)]) (kc : ∀ {ad : Nat → Nat} {H : Heap} {locs : List Loc} {ls : Array Slot}, gEnv l D cy ad base s → gW gFull D cy ad base μ2 H → va_S (gA base) s.heap H locs → lv_has ls 8 [(0, .ref b), (1, .ref (ad 0)), (2, .ref (ad 60)), (3, .ref (ad 77)), (4, .int x4)] → W p l e room_1 s m args below meth c H locs (cells + 2) (slots + 12) Q (F0 m 2764 ls [])) : W p l e room_1 s m args below meth c H locs cells slots Q (F0 m 1997 ls []) := by
  unfold f_case_40 at h
  refine lv_aload_n hx hb dL_law_1997 rfl (lv_at hl 1 rfl) ?_
  refine lv_aload_n hx hb dL_law_1998 rfl (lv_at hl 0 rfl) ?_
  refine lv_iload hx hb dL_law_1999 (lv_at hl 4 rfl) ?_
  refine lv_iconst (v := (1 : Int32)) hx hb dL_law_2001 (by decide) ?_
  refine lv_iadd hx hb dL_law_2002 ?_
  refine g_scr hx hb hX hbl hbA hS h1 dL_law_2003 ?_
  refine lv_aload_n hx hb dL_law_2004 rfl (lv_at hl 3 rfl) ?_
  obtain ⟨q2, hq2, h⟩ := gbind_e h
  refine g_callSW (As := [.ref (ad 0), .int s1, .ref (ad 77)]) (rest := []) hx hb (hml.trans hl.1.symm) hown E hM hS hyw_L_badWithout kw_1198 (c_L_badWithout hq2) rfl rfl (Nat.le_of_ble_eq_true rfl) ⟨Nat.le_of_ble_eq_true rfl, Nat.le_of_ble_eq_true rfl⟩ ⟨by omega, by omega⟩ dL_law_2005 (fun H locs hM hS => ?_)
  refine lv_istore (lv' := [(5, .int q2.1), (0, .ref b), (1, .ref (ad 0)), (2, .ref (ad 60)), (3, .ref (ad 77)), (4, .int x4)]) hx hb dL_law_2008 hl (by decide) rfl (fun ls hl => ?_)
  refine lv_aload_n hx hb dL_law_2010 rfl (lv_at hl 3 rfl) ?_
  refine lv_aload_n hx hb dL_law_2011 rfl (lv_at hl 1 rfl) ?_
  refine lv_iload hx hb dL_law_2012 (lv_at hl 5 rfl) ?_
  refine lv_iconst (v := (1 : Int32)) hx hb dL_law_2014 (by decide) ?_
  refine lv_iadd hx hb dL_law_2015 ?_
  refine g_scr hx hb hX hbl hbA hS h1 dL_law_2016 ?_
  obtain ⟨q4, hq4, h⟩ := gbind_e h
  refine g_callV (As := [.int s1]) (rest := []) hx hb (hml.trans hl.1.symm) hown E hM hS hy_X8_badWithout kw_1820 (c_X8_badWithout hq4) hk_60 dd_60 rfl rfl rfl (Nat.le_of_ble_eq_true rfl) ⟨Nat.le_of_ble_eq_true rfl, Nat.le_of_ble_eq_true rfl⟩ ⟨by omega, by omega⟩ dL_law_2017 (fun H locs hM hS => ?_)
  refine lv_istore (lv' := [(6, .int q4.1), (5, .int q2.1), (0, .ref b), (1, .ref (ad 0)), (2, .ref (ad 60)), (3, .ref (ad 77)), (4, .int x4)]) hx hb dL_law_2020 hl (by decide) rfl (fun ls hl => ?_)
  refine lv_aload_n hx hb dL_law_2022 rfl (lv_at hl 4 rfl) ?_
  obtain ⟨q5, hq5, h⟩ := gbind_e h
  refine g_callV (As := []) (rest := []) hx hb (hml.trans hl.1.symm) hown E hM hS hy_X8_thrown kw_1351 (c_X8_thrown hq5) hk_60 dd_60 rfl rfl rfl (Nat.le_of_ble_eq_true rfl) ⟨Nat.le_of_ble_eq_true rfl, Nat.le_of_ble_eq_true rfl⟩ ⟨by omega, by omega⟩ dL_law_2023 (fun H locs hM hS => ?_)
  refine lv_iload hx hb dL_law_2026 (lv_at hl 1 rfl) ?_
  refine lv_icmp_eq (tgt := 2033) hx hb dL_law_2028 (by decide) (fun c6 => ?_) (fun c6 => ?_)
  · replace h := gif_t c6 h
    refine lv_iload hx hb dL_law_2033 (lv_at hl 1 rfl) ?_
    refine lv_if_ne (tgt := 2050) hx hb dL_law_2035 (by decide) (fun c7 => ?_) (fun c7 => ?_)
    · replace h := gif_f c7 h
      refine lv_goto (tgt := 2764) hx hb dL_law_2050 (by decide) ?_
      refine W.widen (k := cells + 2) (n := slots + 12) (by omega) (by omega) ?_
      exact kc E (show gW gFull D cy _ base _ _ from (Option.some.inj h) ▸ hM) hS (lv_sub hl [2, 3, 4, 5, 6] rfl)
    · replace h := gif_t c7 h
      refine lv_aload_n hx hb dL_law_2038 rfl (lv_at hl 5 rfl) ?_
      refine lv_iconst (v := (0 : Int32)) hx hb dL_law_2039 (by decide) ?_
      obtain ⟨c8, h⟩ := gchk_e h
      refine g_lald hx hb E hM hk_77 dd_77 c8 dL_law_2040 ?_
      refine lv_iload hx hb dL_law_2041 (lv_at hl 0 rfl) ?_
      refine lv_i2l (v := q4.1.toInt64) hx hb dL_law_2043 rfl ?_
      refine W.lcmp hx hb dL_law_2044 ?_
      refine lv_if_eq (tgt := 2050) hx hb dL_law_2045 (by decide) (fun c9 => ?_) (fun c9 => ?_)
      · replace c9 := (lg_cmp_eq _ _).mp c9
        replace h := gif_t c9 h
        refine lv_goto (tgt := 2764) hx hb dL_law_2050 (by decide) ?_
        refine W.widen (k := cells + 2) (n := slots + 12) (by omega) (by omega) ?_
        exact kc E (show gW gFull D cy _ base _ _ from (Option.some.inj h) ▸ hM) hS (lv_sub hl [2, 3, 4, 5, 6] rfl)
      · replace c9 := fun w => c9 ((lg_cmp_eq _ _).mpr w)
        replace h := gif_f c9 h
        refine lv_iconst (v := (0 : Int32)) hx hb dL_law_2048 (by decide) ?_
        cases h
  · replace h := gif_f c6 h
    refine lv_iconst (v := (0 : Int32)) hx hb dL_law_2031 (by decide) ?_
    cases h
def f_case_41 (s1 : Int32) (s2 : Int32) (μ : gM) : Option gM :=
  Option.bind (f_L_benchGap s1 s2 μ) (fun q3 => Option.bind (f_X8_benchGap s1 s2 q3.2) (fun q6 => Option.bind (f_X8_thrown  q6.2) (fun q7 => if (q7 = q3.1) then if (q3.1 = 0) then gchk (gIn (0 : Int32) 1) (if ((gl q6.2 77 (0 : Int32).toNatClampNeg) = q6.1.toInt64) then some q6.2 else none) else some q6.2 else none)))
set_option maxHeartbeats 4000000 in
set_option maxRecDepth 100000 in
theorem w_case_41 {s1 : Int32} {s2 : Int32} {x4 : Int32} {μ μ2 : gM} (h : f_case_41 s1 s2 μ = some μ2) (hx : p.tables.exec = Jvm.exec) (hb : c.code = cL_law) (hml : c.maxLocals = 8) (hown : s.vm.findClass RL = some m.cls) (hX : va_X b L xs s s.heap) (hbl : b < s.heap.size) (hbA : ¬ gA base b) (h1 : scrAt L xs x4 1 s1) (h2 : scrAt L xs x4 2 s2) (E : gEnv l D cy ad base s) (hM : gW gFull D cy ad base μ H) (hS : va_S (gA base) s.heap H locs) (hc : cells + 2 ≤ room_1.cells) (hs : slots + 12 ≤ room_1.slots) {ls : Array Slot} (hl : lv_has ls 8 [(0, .ref b), (1, .ref (ad 0)), (2, .ref (ad 60)), (3, .ref (ad 77)), (4, .int x4)]) (kc : ∀ {ad : Nat → Nat} {H : Heap} {locs : List Loc} {ls : Array Slot}, gEnv l D cy ad base s → gW gFull D cy ad base μ2 H → va_S (gA base) s.heap H locs → lv_has ls 8 [(0, .ref b), (1, .ref (ad 0)), (2, .ref (ad 60)), (3, .ref (ad 77)), (4, .int x4)] → W p l e room_1 s m args below meth c H locs (cells + 2) (slots + 12) Q (F0 m 2764 ls [])) : W p l e room_1 s m args below meth c H locs cells slots Q (F0 m 2053 ls []) := by
  unfold f_case_41 at h
  refine lv_aload_n hx hb dL_law_2053 rfl (lv_at hl 1 rfl) ?_
  refine lv_aload_n hx hb dL_law_2054 rfl (lv_at hl 0 rfl) ?_
  refine lv_iload hx hb dL_law_2055 (lv_at hl 4 rfl) ?_
  refine lv_iconst (v := (1 : Int32)) hx hb dL_law_2057 (by decide) ?_
  refine lv_iadd hx hb dL_law_2058 ?_
  refine g_scr hx hb hX hbl hbA hS h1 dL_law_2059 ?_
  refine lv_aload_n hx hb dL_law_2060 rfl (lv_at hl 0 rfl) ?_
  refine lv_iload hx hb dL_law_2061 (lv_at hl 4 rfl) ?_
  refine lv_iconst (v := (2 : Int32)) hx hb dL_law_2063 (by decide) ?_
  refine lv_iadd hx hb dL_law_2064 ?_
  refine g_scr hx hb hX hbl hbA hS h2 dL_law_2065 ?_
  refine lv_aload_n hx hb dL_law_2066 rfl (lv_at hl 3 rfl) ?_
  obtain ⟨q3, hq3, h⟩ := gbind_e h
  refine g_callSW (As := [.ref (ad 0), .int s1, .int s2, .ref (ad 77)]) (rest := []) hx hb (hml.trans hl.1.symm) hown E hM hS hyw_L_benchGap kw_1205 (c_L_benchGap hq3) rfl rfl (Nat.le_of_ble_eq_true rfl) ⟨Nat.le_of_ble_eq_true rfl, Nat.le_of_ble_eq_true rfl⟩ ⟨by omega, by omega⟩ dL_law_2067 (fun H locs hM hS => ?_)
  refine lv_istore (lv' := [(5, .int q3.1), (0, .ref b), (1, .ref (ad 0)), (2, .ref (ad 60)), (3, .ref (ad 77)), (4, .int x4)]) hx hb dL_law_2070 hl (by decide) rfl (fun ls hl => ?_)
  refine lv_aload_n hx hb dL_law_2072 rfl (lv_at hl 3 rfl) ?_
  refine lv_aload_n hx hb dL_law_2073 rfl (lv_at hl 1 rfl) ?_
  refine lv_iload hx hb dL_law_2074 (lv_at hl 5 rfl) ?_
  refine lv_iconst (v := (1 : Int32)) hx hb dL_law_2076 (by decide) ?_
  refine lv_iadd hx hb dL_law_2077 ?_
  refine g_scr hx hb hX hbl hbA hS h1 dL_law_2078 ?_
  refine lv_aload_n hx hb dL_law_2079 rfl (lv_at hl 1 rfl) ?_
  refine lv_iload hx hb dL_law_2080 (lv_at hl 5 rfl) ?_
  refine lv_iconst (v := (2 : Int32)) hx hb dL_law_2082 (by decide) ?_
  refine lv_iadd hx hb dL_law_2083 ?_
  refine g_scr hx hb hX hbl hbA hS h2 dL_law_2084 ?_
  obtain ⟨q6, hq6, h⟩ := gbind_e h
  refine g_callV (As := [.int s1, .int s2]) (rest := []) hx hb (hml.trans hl.1.symm) hown E hM hS hy_X8_benchGap kw_1730 (c_X8_benchGap hq6) hk_60 dd_60 rfl rfl rfl (Nat.le_of_ble_eq_true rfl) ⟨Nat.le_of_ble_eq_true rfl, Nat.le_of_ble_eq_true rfl⟩ ⟨by omega, by omega⟩ dL_law_2085 (fun H locs hM hS => ?_)
  refine lv_istore (lv' := [(6, .int q6.1), (5, .int q3.1), (0, .ref b), (1, .ref (ad 0)), (2, .ref (ad 60)), (3, .ref (ad 77)), (4, .int x4)]) hx hb dL_law_2088 hl (by decide) rfl (fun ls hl => ?_)
  refine lv_aload_n hx hb dL_law_2090 rfl (lv_at hl 4 rfl) ?_
  obtain ⟨q7, hq7, h⟩ := gbind_e h
  refine g_callV (As := []) (rest := []) hx hb (hml.trans hl.1.symm) hown E hM hS hy_X8_thrown kw_1351 (c_X8_thrown hq7) hk_60 dd_60 rfl rfl rfl (Nat.le_of_ble_eq_true rfl) ⟨Nat.le_of_ble_eq_true rfl, Nat.le_of_ble_eq_true rfl⟩ ⟨by omega, by omega⟩ dL_law_2091 (fun H locs hM hS => ?_)
  refine lv_iload hx hb dL_law_2094 (lv_at hl 1 rfl) ?_
  refine lv_icmp_eq (tgt := 2101) hx hb dL_law_2096 (by decide) (fun c8 => ?_) (fun c8 => ?_)
  · replace h := gif_t c8 h
    refine lv_iload hx hb dL_law_2101 (lv_at hl 1 rfl) ?_
    refine lv_if_ne (tgt := 2118) hx hb dL_law_2103 (by decide) (fun c9 => ?_) (fun c9 => ?_)
    · replace h := gif_f c9 h
      refine lv_goto (tgt := 2764) hx hb dL_law_2118 (by decide) ?_
      refine W.widen (k := cells + 2) (n := slots + 12) (by omega) (by omega) ?_
      exact kc E (show gW gFull D cy _ base _ _ from (Option.some.inj h) ▸ hM) hS (lv_sub hl [2, 3, 4, 5, 6] rfl)
    · replace h := gif_t c9 h
      refine lv_aload_n hx hb dL_law_2106 rfl (lv_at hl 5 rfl) ?_
      refine lv_iconst (v := (0 : Int32)) hx hb dL_law_2107 (by decide) ?_
      obtain ⟨c10, h⟩ := gchk_e h
      refine g_lald hx hb E hM hk_77 dd_77 c10 dL_law_2108 ?_
      refine lv_iload hx hb dL_law_2109 (lv_at hl 0 rfl) ?_
      refine lv_i2l (v := q6.1.toInt64) hx hb dL_law_2111 rfl ?_
      refine W.lcmp hx hb dL_law_2112 ?_
      refine lv_if_eq (tgt := 2118) hx hb dL_law_2113 (by decide) (fun c11 => ?_) (fun c11 => ?_)
      · replace c11 := (lg_cmp_eq _ _).mp c11
        replace h := gif_t c11 h
        refine lv_goto (tgt := 2764) hx hb dL_law_2118 (by decide) ?_
        refine W.widen (k := cells + 2) (n := slots + 12) (by omega) (by omega) ?_
        exact kc E (show gW gFull D cy _ base _ _ from (Option.some.inj h) ▸ hM) hS (lv_sub hl [2, 3, 4, 5, 6] rfl)
      · replace c11 := fun w => c11 ((lg_cmp_eq _ _).mpr w)
        replace h := gif_f c11 h
        refine lv_iconst (v := (0 : Int32)) hx hb dL_law_2116 (by decide) ?_
        cases h
  · replace h := gif_f c8 h
    refine lv_iconst (v := (0 : Int32)) hx hb dL_law_2099 (by decide) ?_
    cases h
def f_case_42 (s1 : Int32) (μ : gM) : Option gM :=
  Option.bind (f_L_provisional s1 μ) (fun q2 => Option.bind (f_X8_provisional s1 q2.2) (fun q4 => Option.bind (f_X8_thrown  q4.2) (fun q5 => if (q5 = q2.1) then if (q2.1 = 0) then gchk (gIn (0 : Int32) 1) (if ((gl q4.2 77 (0 : Int32).toNatClampNeg) = q4.1) then some q4.2 else none) else some q4.2 else none)))
set_option maxHeartbeats 4000000 in
set_option maxRecDepth 100000 in
theorem w_case_42 {s1 : Int32} {x4 : Int32} {μ μ2 : gM} (h : f_case_42 s1 μ = some μ2) (hx : p.tables.exec = Jvm.exec) (hb : c.code = cL_law) (hml : c.maxLocals = 8) (hown : s.vm.findClass RL = some m.cls) (hX : va_X b L xs s s.heap) (hbl : b < s.heap.size) (hbA : ¬ gA base b) (h1 : scrAt L xs x4 1 s1) (E : gEnv l D cy ad base s) (hM : gW gFull D cy ad base μ H) (hS : va_S (gA base) s.heap H locs) (hc : cells + 2 ≤ room_1.cells) (hs : slots + 12 ≤ room_1.slots) {ls : Array Slot} (hl : lv_has ls 8 [(0, .ref b), (1, .ref (ad 0)), (2, .ref (ad 60)), (3, .ref (ad 77)), (4, .int x4)]) (kc : ∀ {ad : Nat → Nat} {H : Heap} {locs : List Loc} {ls : Array Slot}, gEnv l D cy ad base s → gW gFull D cy ad base μ2 H → va_S (gA base) s.heap H locs → lv_has ls 8 [(0, .ref b), (1, .ref (ad 0)), (2, .ref (ad 60)), (3, .ref (ad 77)), (4, .int x4)] → W p l e room_1 s m args below meth c H locs (cells + 2) (slots + 12) Q (F0 m 2764 ls [])) : W p l e room_1 s m args below meth c H locs cells slots Q (F0 m 2121 ls []) := by
  unfold f_case_42 at h
  refine lv_aload_n hx hb dL_law_2121 rfl (lv_at hl 1 rfl) ?_
  refine lv_aload_n hx hb dL_law_2122 rfl (lv_at hl 0 rfl) ?_
  refine lv_iload hx hb dL_law_2123 (lv_at hl 4 rfl) ?_
  refine lv_iconst (v := (1 : Int32)) hx hb dL_law_2125 (by decide) ?_
  refine lv_iadd hx hb dL_law_2126 ?_
  refine g_scr hx hb hX hbl hbA hS h1 dL_law_2127 ?_
  refine lv_aload_n hx hb dL_law_2128 rfl (lv_at hl 3 rfl) ?_
  obtain ⟨q2, hq2, h⟩ := gbind_e h
  refine g_callSW (As := [.ref (ad 0), .int s1, .ref (ad 77)]) (rest := []) hx hb (hml.trans hl.1.symm) hown E hM hS hyw_L_provisional kw_1212 (c_L_provisional hq2) rfl rfl (Nat.le_of_ble_eq_true rfl) ⟨Nat.le_of_ble_eq_true rfl, Nat.le_of_ble_eq_true rfl⟩ ⟨by omega, by omega⟩ dL_law_2129 (fun H locs hM hS => ?_)
  refine lv_istore (lv' := [(5, .int q2.1), (0, .ref b), (1, .ref (ad 0)), (2, .ref (ad 60)), (3, .ref (ad 77)), (4, .int x4)]) hx hb dL_law_2132 hl (by decide) rfl (fun ls hl => ?_)
  refine lv_aload_n hx hb dL_law_2134 rfl (lv_at hl 3 rfl) ?_
  refine lv_aload_n hx hb dL_law_2135 rfl (lv_at hl 1 rfl) ?_
  refine lv_iload hx hb dL_law_2136 (lv_at hl 5 rfl) ?_
  refine lv_iconst (v := (1 : Int32)) hx hb dL_law_2138 (by decide) ?_
  refine lv_iadd hx hb dL_law_2139 ?_
  refine g_scr hx hb hX hbl hbA hS h1 dL_law_2140 ?_
  obtain ⟨q4, hq4, h⟩ := gbind_e h
  refine g_callV (As := [.int s1]) (rest := []) hx hb (hml.trans hl.1.symm) hown E hM hS hy_X8_provisional kw_1827 (c_X8_provisional hq4) hk_60 dd_60 rfl rfl rfl (Nat.le_of_ble_eq_true rfl) ⟨Nat.le_of_ble_eq_true rfl, Nat.le_of_ble_eq_true rfl⟩ ⟨by omega, by omega⟩ dL_law_2141 (fun H locs hM hS => ?_)
  refine lv_lstore (lv' := [(6, .long q4.1), (5, .int q2.1), (0, .ref b), (1, .ref (ad 0)), (2, .ref (ad 60)), (3, .ref (ad 77)), (4, .int x4)]) hx hb dL_law_2144 hl (by decide) rfl (fun ls hl => ?_)
  refine lv_aload_n hx hb dL_law_2146 rfl (lv_at hl 4 rfl) ?_
  obtain ⟨q5, hq5, h⟩ := gbind_e h
  refine g_callV (As := []) (rest := []) hx hb (hml.trans hl.1.symm) hown E hM hS hy_X8_thrown kw_1351 (c_X8_thrown hq5) hk_60 dd_60 rfl rfl rfl (Nat.le_of_ble_eq_true rfl) ⟨Nat.le_of_ble_eq_true rfl, Nat.le_of_ble_eq_true rfl⟩ ⟨by omega, by omega⟩ dL_law_2147 (fun H locs hM hS => ?_)
  refine lv_iload hx hb dL_law_2150 (lv_at hl 1 rfl) ?_
  refine lv_icmp_eq (tgt := 2157) hx hb dL_law_2152 (by decide) (fun c6 => ?_) (fun c6 => ?_)
  · replace h := gif_t c6 h
    refine lv_iload hx hb dL_law_2157 (lv_at hl 1 rfl) ?_
    refine lv_if_ne (tgt := 2173) hx hb dL_law_2159 (by decide) (fun c7 => ?_) (fun c7 => ?_)
    · replace h := gif_f c7 h
      refine lv_goto (tgt := 2764) hx hb dL_law_2173 (by decide) ?_
      refine W.widen (k := cells + 2) (n := slots + 12) (by omega) (by omega) ?_
      exact kc E (show gW gFull D cy _ base _ _ from (Option.some.inj h) ▸ hM) hS (lv_sub hl [2, 3, 4, 5, 6] rfl)
    · replace h := gif_t c7 h
      refine lv_aload_n hx hb dL_law_2162 rfl (lv_at hl 5 rfl) ?_
      refine lv_iconst (v := (0 : Int32)) hx hb dL_law_2163 (by decide) ?_
      obtain ⟨c8, h⟩ := gchk_e h
      refine g_lald hx hb E hM hk_77 dd_77 c8 dL_law_2164 ?_
      refine lv_lload hx hb dL_law_2165 (lv_at hl 0 rfl) ?_
      refine W.lcmp hx hb dL_law_2167 ?_
      refine lv_if_eq (tgt := 2173) hx hb dL_law_2168 (by decide) (fun c9 => ?_) (fun c9 => ?_)
      · replace c9 := (lg_cmp_eq _ _).mp c9
        replace h := gif_t c9 h
        refine lv_goto (tgt := 2764) hx hb dL_law_2173 (by decide) ?_
        refine W.widen (k := cells + 2) (n := slots + 12) (by omega) (by omega) ?_
        exact kc E (show gW gFull D cy _ base _ _ from (Option.some.inj h) ▸ hM) hS (lv_sub hl [2, 3, 4, 5, 6] rfl)
      · replace c9 := fun w => c9 ((lg_cmp_eq _ _).mpr w)
        replace h := gif_f c9 h
        refine lv_iconst (v := (0 : Int32)) hx hb dL_law_2171 (by decide) ?_
        cases h
  · replace h := gif_f c6 h
    refine lv_iconst (v := (0 : Int32)) hx hb dL_law_2155 (by decide) ?_
    cases h
def f_case_43 (μ : gM) : Option gM :=
  Option.bind (f_X7_reached  μ) (fun q1 => Option.bind (f_X8_reached  q1.2) (fun q2 => if (q1.1 = q2.1) then some q2.2 else none))
set_option maxHeartbeats 4000000 in
set_option maxRecDepth 100000 in
theorem w_case_43 {x4 : Int32} {μ μ2 : gM} (h : f_case_43  μ = some μ2) (hx : p.tables.exec = Jvm.exec) (hb : c.code = cL_law) (hml : c.maxLocals = 8) (hown : s.vm.findClass RL = some m.cls) (hX : va_X b L xs s s.heap) (hbl : b < s.heap.size) (hbA : ¬ gA base b) (E : gEnv l D cy ad base s) (hM : gW gFull D cy ad base μ H) (hS : va_S (gA base) s.heap H locs) (hc : cells + 2 ≤ room_1.cells) (hs : slots + 12 ≤ room_1.slots) {ls : Array Slot} (hl : lv_has ls 8 [(0, .ref b), (1, .ref (ad 0)), (2, .ref (ad 60)), (3, .ref (ad 77)), (4, .int x4)]) (kc : ∀ {ad : Nat → Nat} {H : Heap} {locs : List Loc} {ls : Array Slot}, gEnv l D cy ad base s → gW gFull D cy ad base μ2 H → va_S (gA base) s.heap H locs → lv_has ls 8 [(0, .ref b), (1, .ref (ad 0)), (2, .ref (ad 60)), (3, .ref (ad 77)), (4, .int x4)] → W p l e room_1 s m args below meth c H locs (cells + 2) (slots + 12) Q (F0 m 2764 ls [])) : W p l e room_1 s m args below meth c H locs cells slots Q (F0 m 2176 ls []) := by
  unfold f_case_43 at h
  refine lv_aload_n hx hb dL_law_2176 rfl (lv_at hl 1 rfl) ?_
  obtain ⟨q1, hq1, h⟩ := gbind_e h
  refine g_callV (As := []) (rest := []) hx hb (hml.trans hl.1.symm) hown E hM hS hy_X7_reached kw_749 (c_X7_reached hq1) hk_0 dd_0 rfl rfl rfl (Nat.le_of_ble_eq_true rfl) ⟨Nat.le_of_ble_eq_true rfl, Nat.le_of_ble_eq_true rfl⟩ ⟨by omega, by omega⟩ dL_law_2177 (fun H locs hM hS => ?_)
  refine lv_aload_n hx hb dL_law_2180 rfl (lv_at hl 2 rfl) ?_
  obtain ⟨q2, hq2, h⟩ := gbind_e h
  refine g_callV (As := []) (rest := [.int q1.1]) hx hb (hml.trans hl.1.symm) hown E hM hS hy_X8_reached kw_1841 (c_X8_reached hq2) hk_60 dd_60 rfl rfl rfl (Nat.le_of_ble_eq_true rfl) ⟨Nat.le_of_ble_eq_true rfl, Nat.le_of_ble_eq_true rfl⟩ ⟨by omega, by omega⟩ dL_law_2181 (fun H locs hM hS => ?_)
  refine lv_icmp_eq (tgt := 2764) hx hb dL_law_2184 (by decide) (fun c3 => ?_) (fun c3 => ?_)
  · replace h := gif_t c3 h
    refine W.widen (k := cells + 2) (n := slots + 12) (by omega) (by omega) ?_
    exact kc E (show gW gFull D cy _ base _ _ from (Option.some.inj h) ▸ hM) hS hl
  · replace h := gif_f c3 h
    refine lv_iconst (v := (0 : Int32)) hx hb dL_law_2187 (by decide) ?_
    cases h
def f_case_44 (μ : gM) : Option gM :=
  Option.bind (f_X7_isAdjusted  μ) (fun q1 => Option.bind (f_X8_isAdjusted  μ) (fun q2 => if ((b2i q1) = (b2i q2.1)) then some q2.2 else none))
set_option maxHeartbeats 4000000 in
set_option maxRecDepth 100000 in
theorem w_case_44 {x4 : Int32} {μ μ2 : gM} (h : f_case_44  μ = some μ2) (hx : p.tables.exec = Jvm.exec) (hb : c.code = cL_law) (hml : c.maxLocals = 8) (hown : s.vm.findClass RL = some m.cls) (hX : va_X b L xs s s.heap) (hbl : b < s.heap.size) (hbA : ¬ gA base b) (E : gEnv l D cy ad base s) (hM : gW gFull D cy ad base μ H) (hS : va_S (gA base) s.heap H locs) (hc : cells + 2 ≤ room_1.cells) (hs : slots + 12 ≤ room_1.slots) {ls : Array Slot} (hl : lv_has ls 8 [(0, .ref b), (1, .ref (ad 0)), (2, .ref (ad 60)), (3, .ref (ad 77)), (4, .int x4)]) (kc : ∀ {ad : Nat → Nat} {H : Heap} {locs : List Loc} {ls : Array Slot}, gEnv l D cy ad base s → gW gFull D cy ad base μ2 H → va_S (gA base) s.heap H locs → lv_has ls 8 [(0, .ref b), (1, .ref (ad 0)), (2, .ref (ad 60)), (3, .ref (ad 77)), (4, .int x4)] → W p l e room_1 s m args below meth c H locs (cells + 2) (slots + 12) Q (F0 m 2764 ls [])) : W p l e room_1 s m args below meth c H locs cells slots Q (F0 m 2189 ls []) := by
  unfold f_case_44 at h
  refine lv_aload_n hx hb dL_law_2189 rfl (lv_at hl 1 rfl) ?_
  obtain ⟨q1, hq1, h⟩ := gbind_e h
  refine g_callV (As := []) (rest := []) hx hb (hml.trans hl.1.symm) hown E hM hS hy_X7_isAdjusted kw_766 (c_X7_isAdjusted hq1) hk_0 dd_0 rfl rfl rfl (Nat.le_of_ble_eq_true rfl) ⟨Nat.le_of_ble_eq_true rfl, Nat.le_of_ble_eq_true rfl⟩ ⟨by omega, by omega⟩ dL_law_2190 (fun H locs hM hS => ?_)
  refine lv_aload_n hx hb dL_law_2193 rfl (lv_at hl 2 rfl) ?_
  obtain ⟨q2, hq2, h⟩ := gbind_e h
  refine g_callV (As := []) (rest := [.int (b2i q1)]) hx hb (hml.trans hl.1.symm) hown E hM hS hy_X8_isAdjusted kw_1849 (c_X8_isAdjusted hq2) hk_60 dd_60 rfl rfl rfl (Nat.le_of_ble_eq_true rfl) ⟨Nat.le_of_ble_eq_true rfl, Nat.le_of_ble_eq_true rfl⟩ ⟨by omega, by omega⟩ dL_law_2194 (fun H locs hM hS => ?_)
  refine lv_icmp_eq (tgt := 2764) hx hb dL_law_2197 (by decide) (fun c3 => ?_) (fun c3 => ?_)
  · replace h := gif_t c3 h
    refine W.widen (k := cells + 2) (n := slots + 12) (by omega) (by omega) ?_
    exact kc E (show gW gFull D cy _ base _ _ from (Option.some.inj h) ▸ hM) hS hl
  · replace h := gif_f c3 h
    refine lv_iconst (v := (0 : Int32)) hx hb dL_law_2200 (by decide) ?_
    cases h
def f_case_45 (s1 : Int32) (μ : gM) : Option gM :=
  Option.bind (f_L_heightOf s1 μ) (fun q2 => Option.bind (f_X8_heightOf s1 q2.2) (fun q4 => Option.bind (f_X8_thrown  q4.2) (fun q5 => if (q5 = q2.1) then if (q2.1 = 0) then gchk (gIn (0 : Int32) 1) (if ((gl q4.2 77 (0 : Int32).toNatClampNeg) = q4.1) then some q4.2 else none) else some q4.2 else none)))
set_option maxHeartbeats 4000000 in
set_option maxRecDepth 100000 in
theorem w_case_45 {s1 : Int32} {x4 : Int32} {μ μ2 : gM} (h : f_case_45 s1 μ = some μ2) (hx : p.tables.exec = Jvm.exec) (hb : c.code = cL_law) (hml : c.maxLocals = 8) (hown : s.vm.findClass RL = some m.cls) (hX : va_X b L xs s s.heap) (hbl : b < s.heap.size) (hbA : ¬ gA base b) (h1 : scrAt L xs x4 1 s1) (E : gEnv l D cy ad base s) (hM : gW gFull D cy ad base μ H) (hS : va_S (gA base) s.heap H locs) (hc : cells + 2 ≤ room_1.cells) (hs : slots + 12 ≤ room_1.slots) {ls : Array Slot} (hl : lv_has ls 8 [(0, .ref b), (1, .ref (ad 0)), (2, .ref (ad 60)), (3, .ref (ad 77)), (4, .int x4)]) (kc : ∀ {ad : Nat → Nat} {H : Heap} {locs : List Loc} {ls : Array Slot}, gEnv l D cy ad base s → gW gFull D cy ad base μ2 H → va_S (gA base) s.heap H locs → lv_has ls 8 [(0, .ref b), (1, .ref (ad 0)), (2, .ref (ad 60)), (3, .ref (ad 77)), (4, .int x4)] → W p l e room_1 s m args below meth c H locs (cells + 2) (slots + 12) Q (F0 m 2764 ls [])) : W p l e room_1 s m args below meth c H locs cells slots Q (F0 m 2202 ls []) := by
  unfold f_case_45 at h
  refine lv_aload_n hx hb dL_law_2202 rfl (lv_at hl 1 rfl) ?_
  refine lv_aload_n hx hb dL_law_2203 rfl (lv_at hl 0 rfl) ?_
  refine lv_iload hx hb dL_law_2204 (lv_at hl 4 rfl) ?_
  refine lv_iconst (v := (1 : Int32)) hx hb dL_law_2206 (by decide) ?_
  refine lv_iadd hx hb dL_law_2207 ?_
  refine g_scr hx hb hX hbl hbA hS h1 dL_law_2208 ?_
  refine lv_aload_n hx hb dL_law_2209 rfl (lv_at hl 3 rfl) ?_
  obtain ⟨q2, hq2, h⟩ := gbind_e h
  refine g_callSW (As := [.ref (ad 0), .int s1, .ref (ad 77)]) (rest := []) hx hb (hml.trans hl.1.symm) hown E hM hS hyw_L_heightOf kw_1219 (c_L_heightOf hq2) rfl rfl (Nat.le_of_ble_eq_true rfl) ⟨Nat.le_of_ble_eq_true rfl, Nat.le_of_ble_eq_true rfl⟩ ⟨by omega, by omega⟩ dL_law_2210 (fun H locs hM hS => ?_)
  refine lv_istore (lv' := [(5, .int q2.1), (0, .ref b), (1, .ref (ad 0)), (2, .ref (ad 60)), (3, .ref (ad 77)), (4, .int x4)]) hx hb dL_law_2213 hl (by decide) rfl (fun ls hl => ?_)
  refine lv_aload_n hx hb dL_law_2215 rfl (lv_at hl 3 rfl) ?_
  refine lv_aload_n hx hb dL_law_2216 rfl (lv_at hl 1 rfl) ?_
  refine lv_iload hx hb dL_law_2217 (lv_at hl 5 rfl) ?_
  refine lv_iconst (v := (1 : Int32)) hx hb dL_law_2219 (by decide) ?_
  refine lv_iadd hx hb dL_law_2220 ?_
  refine g_scr hx hb hX hbl hbA hS h1 dL_law_2221 ?_
  obtain ⟨q4, hq4, h⟩ := gbind_e h
  refine g_callV (As := [.int s1]) (rest := []) hx hb (hml.trans hl.1.symm) hown E hM hS hy_X8_heightOf kw_1853 (c_X8_heightOf hq4) hk_60 dd_60 rfl rfl rfl (Nat.le_of_ble_eq_true rfl) ⟨Nat.le_of_ble_eq_true rfl, Nat.le_of_ble_eq_true rfl⟩ ⟨by omega, by omega⟩ dL_law_2222 (fun H locs hM hS => ?_)
  refine lv_lstore (lv' := [(6, .long q4.1), (5, .int q2.1), (0, .ref b), (1, .ref (ad 0)), (2, .ref (ad 60)), (3, .ref (ad 77)), (4, .int x4)]) hx hb dL_law_2225 hl (by decide) rfl (fun ls hl => ?_)
  refine lv_aload_n hx hb dL_law_2227 rfl (lv_at hl 4 rfl) ?_
  obtain ⟨q5, hq5, h⟩ := gbind_e h
  refine g_callV (As := []) (rest := []) hx hb (hml.trans hl.1.symm) hown E hM hS hy_X8_thrown kw_1351 (c_X8_thrown hq5) hk_60 dd_60 rfl rfl rfl (Nat.le_of_ble_eq_true rfl) ⟨Nat.le_of_ble_eq_true rfl, Nat.le_of_ble_eq_true rfl⟩ ⟨by omega, by omega⟩ dL_law_2228 (fun H locs hM hS => ?_)
  refine lv_iload hx hb dL_law_2231 (lv_at hl 1 rfl) ?_
  refine lv_icmp_eq (tgt := 2238) hx hb dL_law_2233 (by decide) (fun c6 => ?_) (fun c6 => ?_)
  · replace h := gif_t c6 h
    refine lv_iload hx hb dL_law_2238 (lv_at hl 1 rfl) ?_
    refine lv_if_ne (tgt := 2254) hx hb dL_law_2240 (by decide) (fun c7 => ?_) (fun c7 => ?_)
    · replace h := gif_f c7 h
      refine lv_goto (tgt := 2764) hx hb dL_law_2254 (by decide) ?_
      refine W.widen (k := cells + 2) (n := slots + 12) (by omega) (by omega) ?_
      exact kc E (show gW gFull D cy _ base _ _ from (Option.some.inj h) ▸ hM) hS (lv_sub hl [2, 3, 4, 5, 6] rfl)
    · replace h := gif_t c7 h
      refine lv_aload_n hx hb dL_law_2243 rfl (lv_at hl 5 rfl) ?_
      refine lv_iconst (v := (0 : Int32)) hx hb dL_law_2244 (by decide) ?_
      obtain ⟨c8, h⟩ := gchk_e h
      refine g_lald hx hb E hM hk_77 dd_77 c8 dL_law_2245 ?_
      refine lv_lload hx hb dL_law_2246 (lv_at hl 0 rfl) ?_
      refine W.lcmp hx hb dL_law_2248 ?_
      refine lv_if_eq (tgt := 2254) hx hb dL_law_2249 (by decide) (fun c9 => ?_) (fun c9 => ?_)
      · replace c9 := (lg_cmp_eq _ _).mp c9
        replace h := gif_t c9 h
        refine lv_goto (tgt := 2764) hx hb dL_law_2254 (by decide) ?_
        refine W.widen (k := cells + 2) (n := slots + 12) (by omega) (by omega) ?_
        exact kc E (show gW gFull D cy _ base _ _ from (Option.some.inj h) ▸ hM) hS (lv_sub hl [2, 3, 4, 5, 6] rfl)
      · replace c9 := fun w => c9 ((lg_cmp_eq _ _).mpr w)
        replace h := gif_f c9 h
        refine lv_iconst (v := (0 : Int32)) hx hb dL_law_2252 (by decide) ?_
        cases h
  · replace h := gif_f c6 h
    refine lv_iconst (v := (0 : Int32)) hx hb dL_law_2236 (by decide) ?_
    cases h
def f_case_46 (s1 : Int32) (μ : gM) : Option gM :=
  Option.bind (f_L_residual s1 μ) (fun q2 => Option.bind (f_X8_residual s1 q2.2) (fun q4 => Option.bind (f_X8_thrown  q4.2) (fun q5 => if (q5 = q2.1) then if (q2.1 = 0) then gchk (gIn (0 : Int32) 1) (if ((gl q4.2 77 (0 : Int32).toNatClampNeg) = q4.1) then some q4.2 else none) else some q4.2 else none)))
set_option maxHeartbeats 4000000 in
set_option maxRecDepth 100000 in
theorem w_case_46 {s1 : Int32} {x4 : Int32} {μ μ2 : gM} (h : f_case_46 s1 μ = some μ2) (hx : p.tables.exec = Jvm.exec) (hb : c.code = cL_law) (hml : c.maxLocals = 8) (hown : s.vm.findClass RL = some m.cls) (hX : va_X b L xs s s.heap) (hbl : b < s.heap.size) (hbA : ¬ gA base b) (h1 : scrAt L xs x4 1 s1) (E : gEnv l D cy ad base s) (hM : gW gFull D cy ad base μ H) (hS : va_S (gA base) s.heap H locs) (hc : cells + 2 ≤ room_1.cells) (hs : slots + 12 ≤ room_1.slots) {ls : Array Slot} (hl : lv_has ls 8 [(0, .ref b), (1, .ref (ad 0)), (2, .ref (ad 60)), (3, .ref (ad 77)), (4, .int x4)]) (kc : ∀ {ad : Nat → Nat} {H : Heap} {locs : List Loc} {ls : Array Slot}, gEnv l D cy ad base s → gW gFull D cy ad base μ2 H → va_S (gA base) s.heap H locs → lv_has ls 8 [(0, .ref b), (1, .ref (ad 0)), (2, .ref (ad 60)), (3, .ref (ad 77)), (4, .int x4)] → W p l e room_1 s m args below meth c H locs (cells + 2) (slots + 12) Q (F0 m 2764 ls [])) : W p l e room_1 s m args below meth c H locs cells slots Q (F0 m 2257 ls []) := by
  unfold f_case_46 at h
  refine lv_aload_n hx hb dL_law_2257 rfl (lv_at hl 1 rfl) ?_
  refine lv_aload_n hx hb dL_law_2258 rfl (lv_at hl 0 rfl) ?_
  refine lv_iload hx hb dL_law_2259 (lv_at hl 4 rfl) ?_
  refine lv_iconst (v := (1 : Int32)) hx hb dL_law_2261 (by decide) ?_
  refine lv_iadd hx hb dL_law_2262 ?_
  refine g_scr hx hb hX hbl hbA hS h1 dL_law_2263 ?_
  refine lv_aload_n hx hb dL_law_2264 rfl (lv_at hl 3 rfl) ?_
  obtain ⟨q2, hq2, h⟩ := gbind_e h
  refine g_callSW (As := [.ref (ad 0), .int s1, .ref (ad 77)]) (rest := []) hx hb (hml.trans hl.1.symm) hown E hM hS hyw_L_residual kw_1226 (c_L_residual hq2) rfl rfl (Nat.le_of_ble_eq_true rfl) ⟨Nat.le_of_ble_eq_true rfl, Nat.le_of_ble_eq_true rfl⟩ ⟨by omega, by omega⟩ dL_law_2265 (fun H locs hM hS => ?_)
  refine lv_istore (lv' := [(5, .int q2.1), (0, .ref b), (1, .ref (ad 0)), (2, .ref (ad 60)), (3, .ref (ad 77)), (4, .int x4)]) hx hb dL_law_2268 hl (by decide) rfl (fun ls hl => ?_)
  refine lv_aload_n hx hb dL_law_2270 rfl (lv_at hl 3 rfl) ?_
  refine lv_aload_n hx hb dL_law_2271 rfl (lv_at hl 1 rfl) ?_
  refine lv_iload hx hb dL_law_2272 (lv_at hl 5 rfl) ?_
  refine lv_iconst (v := (1 : Int32)) hx hb dL_law_2274 (by decide) ?_
  refine lv_iadd hx hb dL_law_2275 ?_
  refine g_scr hx hb hX hbl hbA hS h1 dL_law_2276 ?_
  obtain ⟨q4, hq4, h⟩ := gbind_e h
  refine g_callV (As := [.int s1]) (rest := []) hx hb (hml.trans hl.1.symm) hown E hM hS hy_X8_residual kw_1880 (c_X8_residual hq4) hk_60 dd_60 rfl rfl rfl (Nat.le_of_ble_eq_true rfl) ⟨Nat.le_of_ble_eq_true rfl, Nat.le_of_ble_eq_true rfl⟩ ⟨by omega, by omega⟩ dL_law_2277 (fun H locs hM hS => ?_)
  refine lv_lstore (lv' := [(6, .long q4.1), (5, .int q2.1), (0, .ref b), (1, .ref (ad 0)), (2, .ref (ad 60)), (3, .ref (ad 77)), (4, .int x4)]) hx hb dL_law_2280 hl (by decide) rfl (fun ls hl => ?_)
  refine lv_aload_n hx hb dL_law_2282 rfl (lv_at hl 4 rfl) ?_
  obtain ⟨q5, hq5, h⟩ := gbind_e h
  refine g_callV (As := []) (rest := []) hx hb (hml.trans hl.1.symm) hown E hM hS hy_X8_thrown kw_1351 (c_X8_thrown hq5) hk_60 dd_60 rfl rfl rfl (Nat.le_of_ble_eq_true rfl) ⟨Nat.le_of_ble_eq_true rfl, Nat.le_of_ble_eq_true rfl⟩ ⟨by omega, by omega⟩ dL_law_2283 (fun H locs hM hS => ?_)
  refine lv_iload hx hb dL_law_2286 (lv_at hl 1 rfl) ?_
  refine lv_icmp_eq (tgt := 2293) hx hb dL_law_2288 (by decide) (fun c6 => ?_) (fun c6 => ?_)
  · replace h := gif_t c6 h
    refine lv_iload hx hb dL_law_2293 (lv_at hl 1 rfl) ?_
    refine lv_if_ne (tgt := 2309) hx hb dL_law_2295 (by decide) (fun c7 => ?_) (fun c7 => ?_)
    · replace h := gif_f c7 h
      refine lv_goto (tgt := 2764) hx hb dL_law_2309 (by decide) ?_
      refine W.widen (k := cells + 2) (n := slots + 12) (by omega) (by omega) ?_
      exact kc E (show gW gFull D cy _ base _ _ from (Option.some.inj h) ▸ hM) hS (lv_sub hl [2, 3, 4, 5, 6] rfl)
    · replace h := gif_t c7 h
      refine lv_aload_n hx hb dL_law_2298 rfl (lv_at hl 5 rfl) ?_
      refine lv_iconst (v := (0 : Int32)) hx hb dL_law_2299 (by decide) ?_
      obtain ⟨c8, h⟩ := gchk_e h
      refine g_lald hx hb E hM hk_77 dd_77 c8 dL_law_2300 ?_
      refine lv_lload hx hb dL_law_2301 (lv_at hl 0 rfl) ?_
      refine W.lcmp hx hb dL_law_2303 ?_
      refine lv_if_eq (tgt := 2309) hx hb dL_law_2304 (by decide) (fun c9 => ?_) (fun c9 => ?_)
      · replace c9 := (lg_cmp_eq _ _).mp c9
        replace h := gif_t c9 h
        refine lv_goto (tgt := 2764) hx hb dL_law_2309 (by decide) ?_
        refine W.widen (k := cells + 2) (n := slots + 12) (by omega) (by omega) ?_
        exact kc E (show gW gFull D cy _ base _ _ from (Option.some.inj h) ▸ hM) hS (lv_sub hl [2, 3, 4, 5, 6] rfl)
      · replace c9 := fun w => c9 ((lg_cmp_eq _ _).mpr w)
        replace h := gif_f c9 h
        refine lv_iconst (v := (0 : Int32)) hx hb dL_law_2307 (by decide) ?_
        cases h
  · replace h := gif_f c6 h
    refine lv_iconst (v := (0 : Int32)) hx hb dL_law_2291 (by decide) ?_
    cases h
def f_case_47 (μ : gM) : Option gM :=
  Option.bind (f_X7_worstLine  μ) (fun q1 => Option.bind (f_X8_worstLine  μ) (fun q2 => if (q1 = q2.1) then some q2.2 else none))
set_option maxHeartbeats 4000000 in
set_option maxRecDepth 100000 in
theorem w_case_47 {x4 : Int32} {μ μ2 : gM} (h : f_case_47  μ = some μ2) (hx : p.tables.exec = Jvm.exec) (hb : c.code = cL_law) (hml : c.maxLocals = 8) (hown : s.vm.findClass RL = some m.cls) (hX : va_X b L xs s s.heap) (hbl : b < s.heap.size) (hbA : ¬ gA base b) (E : gEnv l D cy ad base s) (hM : gW gFull D cy ad base μ H) (hS : va_S (gA base) s.heap H locs) (hc : cells + 2 ≤ room_1.cells) (hs : slots + 12 ≤ room_1.slots) {ls : Array Slot} (hl : lv_has ls 8 [(0, .ref b), (1, .ref (ad 0)), (2, .ref (ad 60)), (3, .ref (ad 77)), (4, .int x4)]) (kc : ∀ {ad : Nat → Nat} {H : Heap} {locs : List Loc} {ls : Array Slot}, gEnv l D cy ad base s → gW gFull D cy ad base μ2 H → va_S (gA base) s.heap H locs → lv_has ls 8 [(0, .ref b), (1, .ref (ad 0)), (2, .ref (ad 60)), (3, .ref (ad 77)), (4, .int x4)] → W p l e room_1 s m args below meth c H locs (cells + 2) (slots + 12) Q (F0 m 2764 ls [])) : W p l e room_1 s m args below meth c H locs cells slots Q (F0 m 2312 ls []) := by
  unfold f_case_47 at h
  refine lv_aload_n hx hb dL_law_2312 rfl (lv_at hl 1 rfl) ?_
  obtain ⟨q1, hq1, h⟩ := gbind_e h
  refine g_callV (As := []) (rest := []) hx hb (hml.trans hl.1.symm) hown E hM hS hy_X7_worstLine kw_770 (c_X7_worstLine hq1) hk_0 dd_0 rfl rfl rfl (Nat.le_of_ble_eq_true rfl) ⟨Nat.le_of_ble_eq_true rfl, Nat.le_of_ble_eq_true rfl⟩ ⟨by omega, by omega⟩ dL_law_2313 (fun H locs hM hS => ?_)
  refine lv_aload_n hx hb dL_law_2316 rfl (lv_at hl 2 rfl) ?_
  obtain ⟨q2, hq2, h⟩ := gbind_e h
  refine g_callV (As := []) (rest := [.int q1]) hx hb (hml.trans hl.1.symm) hown E hM hS hy_X8_worstLine kw_1892 (c_X8_worstLine hq2) hk_60 dd_60 rfl rfl rfl (Nat.le_of_ble_eq_true rfl) ⟨Nat.le_of_ble_eq_true rfl, Nat.le_of_ble_eq_true rfl⟩ ⟨by omega, by omega⟩ dL_law_2317 (fun H locs hM hS => ?_)
  refine lv_icmp_eq (tgt := 2764) hx hb dL_law_2320 (by decide) (fun c3 => ?_) (fun c3 => ?_)
  · replace h := gif_t c3 h
    refine W.widen (k := cells + 2) (n := slots + 12) (by omega) (by omega) ?_
    exact kc E (show gW gFull D cy _ base _ _ from (Option.some.inj h) ▸ hM) hS hl
  · replace h := gif_f c3 h
    refine lv_iconst (v := (0 : Int32)) hx hb dL_law_2323 (by decide) ?_
    cases h
def f_case_48 (μ : gM) : Option gM :=
  Option.bind (f_X7_mostMoved  μ) (fun q1 => Option.bind (f_X8_mostMoved  q1.2) (fun q2 => if (q1.1 = q2.1) then some q2.2 else none))
set_option maxHeartbeats 4000000 in
set_option maxRecDepth 100000 in
theorem w_case_48 {x4 : Int32} {μ μ2 : gM} (h : f_case_48  μ = some μ2) (hx : p.tables.exec = Jvm.exec) (hb : c.code = cL_law) (hml : c.maxLocals = 8) (hown : s.vm.findClass RL = some m.cls) (hX : va_X b L xs s s.heap) (hbl : b < s.heap.size) (hbA : ¬ gA base b) (E : gEnv l D cy ad base s) (hM : gW gFull D cy ad base μ H) (hS : va_S (gA base) s.heap H locs) (hc : cells + 2 ≤ room_1.cells) (hs : slots + 12 ≤ room_1.slots) {ls : Array Slot} (hl : lv_has ls 8 [(0, .ref b), (1, .ref (ad 0)), (2, .ref (ad 60)), (3, .ref (ad 77)), (4, .int x4)]) (kc : ∀ {ad : Nat → Nat} {H : Heap} {locs : List Loc} {ls : Array Slot}, gEnv l D cy ad base s → gW gFull D cy ad base μ2 H → va_S (gA base) s.heap H locs → lv_has ls 8 [(0, .ref b), (1, .ref (ad 0)), (2, .ref (ad 60)), (3, .ref (ad 77)), (4, .int x4)] → W p l e room_1 s m args below meth c H locs (cells + 2) (slots + 12) Q (F0 m 2764 ls [])) : W p l e room_1 s m args below meth c H locs cells slots Q (F0 m 2325 ls []) := by
  unfold f_case_48 at h
  refine lv_aload_n hx hb dL_law_2325 rfl (lv_at hl 1 rfl) ?_
  obtain ⟨q1, hq1, h⟩ := gbind_e h
  refine g_callV (As := []) (rest := []) hx hb (hml.trans hl.1.symm) hown E hM hS hy_X7_mostMoved kw_793 (c_X7_mostMoved hq1) hk_0 dd_0 rfl rfl rfl (Nat.le_of_ble_eq_true rfl) ⟨Nat.le_of_ble_eq_true rfl, Nat.le_of_ble_eq_true rfl⟩ ⟨by omega, by omega⟩ dL_law_2326 (fun H locs hM hS => ?_)
  refine lv_aload_n hx hb dL_law_2329 rfl (lv_at hl 2 rfl) ?_
  obtain ⟨q2, hq2, h⟩ := gbind_e h
  refine g_callV (As := []) (rest := [.int q1.1]) hx hb (hml.trans hl.1.symm) hown E hM hS hy_X8_mostMoved kw_1901 (c_X8_mostMoved hq2) hk_60 dd_60 rfl rfl rfl (Nat.le_of_ble_eq_true rfl) ⟨Nat.le_of_ble_eq_true rfl, Nat.le_of_ble_eq_true rfl⟩ ⟨by omega, by omega⟩ dL_law_2330 (fun H locs hM hS => ?_)
  refine lv_icmp_eq (tgt := 2764) hx hb dL_law_2333 (by decide) (fun c3 => ?_) (fun c3 => ?_)
  · replace h := gif_t c3 h
    refine W.widen (k := cells + 2) (n := slots + 12) (by omega) (by omega) ?_
    exact kc E (show gW gFull D cy _ base _ _ from (Option.some.inj h) ▸ hM) hS hl
  · replace h := gif_f c3 h
    refine lv_iconst (v := (0 : Int32)) hx hb dL_law_2336 (by decide) ?_
    cases h
def f_case_49 (μ : gM) : Option gM :=
  Option.bind (f_X7_residualSum  μ) (fun q1 => Option.bind (f_X8_residualSum  μ) (fun q2 => if (q1 = q2.1) then some q2.2 else none))
set_option maxHeartbeats 4000000 in
set_option maxRecDepth 100000 in
theorem w_case_49 {x4 : Int32} {μ μ2 : gM} (h : f_case_49  μ = some μ2) (hx : p.tables.exec = Jvm.exec) (hb : c.code = cL_law) (hml : c.maxLocals = 8) (hown : s.vm.findClass RL = some m.cls) (hX : va_X b L xs s s.heap) (hbl : b < s.heap.size) (hbA : ¬ gA base b) (E : gEnv l D cy ad base s) (hM : gW gFull D cy ad base μ H) (hS : va_S (gA base) s.heap H locs) (hc : cells + 2 ≤ room_1.cells) (hs : slots + 12 ≤ room_1.slots) {ls : Array Slot} (hl : lv_has ls 8 [(0, .ref b), (1, .ref (ad 0)), (2, .ref (ad 60)), (3, .ref (ad 77)), (4, .int x4)]) (kc : ∀ {ad : Nat → Nat} {H : Heap} {locs : List Loc} {ls : Array Slot}, gEnv l D cy ad base s → gW gFull D cy ad base μ2 H → va_S (gA base) s.heap H locs → lv_has ls 8 [(0, .ref b), (1, .ref (ad 0)), (2, .ref (ad 60)), (3, .ref (ad 77)), (4, .int x4)] → W p l e room_1 s m args below meth c H locs (cells + 2) (slots + 12) Q (F0 m 2764 ls [])) : W p l e room_1 s m args below meth c H locs cells slots Q (F0 m 2338 ls []) := by
  unfold f_case_49 at h
  refine lv_aload_n hx hb dL_law_2338 rfl (lv_at hl 1 rfl) ?_
  obtain ⟨q1, hq1, h⟩ := gbind_e h
  refine g_callV (As := []) (rest := []) hx hb (hml.trans hl.1.symm) hown E hM hS hy_X7_residualSum kw_798 (c_X7_residualSum hq1) hk_0 dd_0 rfl rfl rfl (Nat.le_of_ble_eq_true rfl) ⟨Nat.le_of_ble_eq_true rfl, Nat.le_of_ble_eq_true rfl⟩ ⟨by omega, by omega⟩ dL_law_2339 (fun H locs hM hS => ?_)
  refine lv_aload_n hx hb dL_law_2342 rfl (lv_at hl 2 rfl) ?_
  obtain ⟨q2, hq2, h⟩ := gbind_e h
  refine g_callV (As := []) (rest := [.long q1]) hx hb (hml.trans hl.1.symm) hown E hM hS hy_X8_residualSum kw_1905 (c_X8_residualSum hq2) hk_60 dd_60 rfl rfl rfl (Nat.le_of_ble_eq_true rfl) ⟨Nat.le_of_ble_eq_true rfl, Nat.le_of_ble_eq_true rfl⟩ ⟨by omega, by omega⟩ dL_law_2343 (fun H locs hM hS => ?_)
  refine W.lcmp hx hb dL_law_2346 ?_
  refine lv_if_eq (tgt := 2764) hx hb dL_law_2347 (by decide) (fun c3 => ?_) (fun c3 => ?_)
  · replace c3 := (lg_cmp_eq _ _).mp c3
    replace h := gif_t c3 h
    refine W.widen (k := cells + 2) (n := slots + 12) (by omega) (by omega) ?_
    exact kc E (show gW gFull D cy _ base _ _ from (Option.some.inj h) ▸ hM) hS hl
  · replace c3 := fun w => c3 ((lg_cmp_eq _ _).mpr w)
    replace h := gif_f c3 h
    refine lv_iconst (v := (0 : Int32)) hx hb dL_law_2350 (by decide) ?_
    cases h
def f_case_50 (μ : gM) : Option gM :=
  Option.bind (f_X7_redundancy  μ) (fun q1 => Option.bind (f_X8_redundancy  q1.2) (fun q2 => if (q1.1 = q2.1) then some q2.2 else none))
set_option maxHeartbeats 4000000 in
set_option maxRecDepth 100000 in
theorem w_case_50 {x4 : Int32} {μ μ2 : gM} (h : f_case_50  μ = some μ2) (hx : p.tables.exec = Jvm.exec) (hb : c.code = cL_law) (hml : c.maxLocals = 8) (hown : s.vm.findClass RL = some m.cls) (hX : va_X b L xs s s.heap) (hbl : b < s.heap.size) (hbA : ¬ gA base b) (E : gEnv l D cy ad base s) (hM : gW gFull D cy ad base μ H) (hS : va_S (gA base) s.heap H locs) (hc : cells + 2 ≤ room_1.cells) (hs : slots + 12 ≤ room_1.slots) {ls : Array Slot} (hl : lv_has ls 8 [(0, .ref b), (1, .ref (ad 0)), (2, .ref (ad 60)), (3, .ref (ad 77)), (4, .int x4)]) (kc : ∀ {ad : Nat → Nat} {H : Heap} {locs : List Loc} {ls : Array Slot}, gEnv l D cy ad base s → gW gFull D cy ad base μ2 H → va_S (gA base) s.heap H locs → lv_has ls 8 [(0, .ref b), (1, .ref (ad 0)), (2, .ref (ad 60)), (3, .ref (ad 77)), (4, .int x4)] → W p l e room_1 s m args below meth c H locs (cells + 2) (slots + 12) Q (F0 m 2764 ls [])) : W p l e room_1 s m args below meth c H locs cells slots Q (F0 m 2352 ls []) := by
  unfold f_case_50 at h
  refine lv_aload_n hx hb dL_law_2352 rfl (lv_at hl 1 rfl) ?_
  obtain ⟨q1, hq1, h⟩ := gbind_e h
  refine g_callV (As := []) (rest := []) hx hb (hml.trans hl.1.symm) hown E hM hS hy_X7_redundancy kw_808 (c_X7_redundancy hq1) hk_0 dd_0 rfl rfl rfl (Nat.le_of_ble_eq_true rfl) ⟨Nat.le_of_ble_eq_true rfl, Nat.le_of_ble_eq_true rfl⟩ ⟨by omega, by omega⟩ dL_law_2353 (fun H locs hM hS => ?_)
  refine lv_aload_n hx hb dL_law_2356 rfl (lv_at hl 2 rfl) ?_
  obtain ⟨q2, hq2, h⟩ := gbind_e h
  refine g_callV (As := []) (rest := [.int q1.1]) hx hb (hml.trans hl.1.symm) hown E hM hS hy_X8_redundancy kw_1845 (c_X8_redundancy hq2) hk_60 dd_60 rfl rfl rfl (Nat.le_of_ble_eq_true rfl) ⟨Nat.le_of_ble_eq_true rfl, Nat.le_of_ble_eq_true rfl⟩ ⟨by omega, by omega⟩ dL_law_2357 (fun H locs hM hS => ?_)
  refine lv_icmp_eq (tgt := 2764) hx hb dL_law_2360 (by decide) (fun c3 => ?_) (fun c3 => ?_)
  · replace h := gif_t c3 h
    refine W.widen (k := cells + 2) (n := slots + 12) (by omega) (by omega) ?_
    exact kc E (show gW gFull D cy _ base _ _ from (Option.some.inj h) ▸ hM) hS hl
  · replace h := gif_f c3 h
    refine lv_iconst (v := (0 : Int32)) hx hb dL_law_2363 (by decide) ?_
    cases h
def f_case_51 (μ : gM) : Option gM :=
  Option.bind (f_X7_totalLength  μ) (fun q1 => Option.bind (f_X8_totalLength  μ) (fun q2 => if (q1 = q2.1) then some q2.2 else none))
set_option maxHeartbeats 4000000 in
set_option maxRecDepth 100000 in
theorem w_case_51 {x4 : Int32} {μ μ2 : gM} (h : f_case_51  μ = some μ2) (hx : p.tables.exec = Jvm.exec) (hb : c.code = cL_law) (hml : c.maxLocals = 8) (hown : s.vm.findClass RL = some m.cls) (hX : va_X b L xs s s.heap) (hbl : b < s.heap.size) (hbA : ¬ gA base b) (E : gEnv l D cy ad base s) (hM : gW gFull D cy ad base μ H) (hS : va_S (gA base) s.heap H locs) (hc : cells + 2 ≤ room_1.cells) (hs : slots + 12 ≤ room_1.slots) {ls : Array Slot} (hl : lv_has ls 8 [(0, .ref b), (1, .ref (ad 0)), (2, .ref (ad 60)), (3, .ref (ad 77)), (4, .int x4)]) (kc : ∀ {ad : Nat → Nat} {H : Heap} {locs : List Loc} {ls : Array Slot}, gEnv l D cy ad base s → gW gFull D cy ad base μ2 H → va_S (gA base) s.heap H locs → lv_has ls 8 [(0, .ref b), (1, .ref (ad 0)), (2, .ref (ad 60)), (3, .ref (ad 77)), (4, .int x4)] → W p l e room_1 s m args below meth c H locs (cells + 2) (slots + 12) Q (F0 m 2764 ls [])) : W p l e room_1 s m args below meth c H locs cells slots Q (F0 m 2365 ls []) := by
  unfold f_case_51 at h
  refine lv_aload_n hx hb dL_law_2365 rfl (lv_at hl 1 rfl) ?_
  obtain ⟨q1, hq1, h⟩ := gbind_e h
  refine g_callV (As := []) (rest := []) hx hb (hml.trans hl.1.symm) hown E hM hS hy_X7_totalLength kw_813 (c_X7_totalLength hq1) hk_0 dd_0 rfl rfl rfl (Nat.le_of_ble_eq_true rfl) ⟨Nat.le_of_ble_eq_true rfl, Nat.le_of_ble_eq_true rfl⟩ ⟨by omega, by omega⟩ dL_law_2366 (fun H locs hM hS => ?_)
  refine lv_aload_n hx hb dL_law_2369 rfl (lv_at hl 2 rfl) ?_
  obtain ⟨q2, hq2, h⟩ := gbind_e h
  refine g_callV (As := []) (rest := [.int q1]) hx hb (hml.trans hl.1.symm) hown E hM hS hy_X8_totalLength kw_1675 (c_X8_totalLength hq2) hk_60 dd_60 rfl rfl rfl (Nat.le_of_ble_eq_true rfl) ⟨Nat.le_of_ble_eq_true rfl, Nat.le_of_ble_eq_true rfl⟩ ⟨by omega, by omega⟩ dL_law_2370 (fun H locs hM hS => ?_)
  refine lv_icmp_eq (tgt := 2764) hx hb dL_law_2373 (by decide) (fun c3 => ?_) (fun c3 => ?_)
  · replace h := gif_t c3 h
    refine W.widen (k := cells + 2) (n := slots + 12) (by omega) (by omega) ?_
    exact kc E (show gW gFull D cy _ base _ _ from (Option.some.inj h) ▸ hM) hS hl
  · replace h := gif_f c3 h
    refine lv_iconst (v := (0 : Int32)) hx hb dL_law_2376 (by decide) ?_
    cases h
def f_case_52 (s1 : Int32) (s2 : Int32) (μ : gM) : Option gM :=
  Option.bind (f_X7_hold s1 s2 μ) (fun q3 => Option.bind (f_X8_hold s1 s2 q3.2) (fun q6 => if (q3.1 = q6.1) then some q6.2 else none))
set_option maxHeartbeats 4000000 in
set_option maxRecDepth 100000 in
theorem w_case_52 {s1 : Int32} {s2 : Int32} {x4 : Int32} {μ μ2 : gM} (h : f_case_52 s1 s2 μ = some μ2) (hx : p.tables.exec = Jvm.exec) (hb : c.code = cL_law) (hml : c.maxLocals = 8) (hown : s.vm.findClass RL = some m.cls) (hX : va_X b L xs s s.heap) (hbl : b < s.heap.size) (hbA : ¬ gA base b) (h1 : scrAt L xs x4 1 s1) (h2 : scrAt L xs x4 2 s2) (E : gEnv l D cy ad base s) (hM : gW gFull D cy ad base μ H) (hS : va_S (gA base) s.heap H locs) (hc : cells + 2 ≤ room_1.cells) (hs : slots + 12 ≤ room_1.slots) {ls : Array Slot} (hl : lv_has ls 8 [(0, .ref b), (1, .ref (ad 0)), (2, .ref (ad 60)), (3, .ref (ad 77)), (4, .int x4)]) (kc : ∀ {ad : Nat → Nat} {H : Heap} {locs : List Loc} {ls : Array Slot}, gEnv l D cy ad base s → gW gFull D cy ad base μ2 H → va_S (gA base) s.heap H locs → lv_has ls 8 [(0, .ref b), (1, .ref (ad 0)), (2, .ref (ad 60)), (3, .ref (ad 77)), (4, .int x4)] → W p l e room_1 s m args below meth c H locs (cells + 2) (slots + 12) Q (F0 m 2764 ls [])) : W p l e room_1 s m args below meth c H locs cells slots Q (F0 m 2378 ls []) := by
  unfold f_case_52 at h
  refine lv_aload_n hx hb dL_law_2378 rfl (lv_at hl 1 rfl) ?_
  refine lv_aload_n hx hb dL_law_2379 rfl (lv_at hl 0 rfl) ?_
  refine lv_iload hx hb dL_law_2380 (lv_at hl 4 rfl) ?_
  refine lv_iconst (v := (1 : Int32)) hx hb dL_law_2382 (by decide) ?_
  refine lv_iadd hx hb dL_law_2383 ?_
  refine g_scr hx hb hX hbl hbA hS h1 dL_law_2384 ?_
  refine lv_aload_n hx hb dL_law_2385 rfl (lv_at hl 0 rfl) ?_
  refine lv_iload hx hb dL_law_2386 (lv_at hl 4 rfl) ?_
  refine lv_iconst (v := (2 : Int32)) hx hb dL_law_2388 (by decide) ?_
  refine lv_iadd hx hb dL_law_2389 ?_
  refine g_scr hx hb hX hbl hbA hS h2 dL_law_2390 ?_
  obtain ⟨q3, hq3, h⟩ := gbind_e h
  refine g_callV (As := [.int s1, .int s2]) (rest := []) hx hb (hml.trans hl.1.symm) hown E hM hS hy_X7_hold kw_817 (c_X7_hold hq3) hk_0 dd_0 rfl rfl rfl (Nat.le_of_ble_eq_true rfl) ⟨Nat.le_of_ble_eq_true rfl, Nat.le_of_ble_eq_true rfl⟩ ⟨by omega, by omega⟩ dL_law_2391 (fun H locs hM hS => ?_)
  refine lv_aload_n hx hb dL_law_2394 rfl (lv_at hl 2 rfl) ?_
  refine lv_aload_n hx hb dL_law_2395 rfl (lv_at hl 0 rfl) ?_
  refine lv_iload hx hb dL_law_2396 (lv_at hl 4 rfl) ?_
  refine lv_iconst (v := (1 : Int32)) hx hb dL_law_2398 (by decide) ?_
  refine lv_iadd hx hb dL_law_2399 ?_
  refine g_scr hx hb hX hbl hbA hS h1 dL_law_2400 ?_
  refine lv_aload_n hx hb dL_law_2401 rfl (lv_at hl 0 rfl) ?_
  refine lv_iload hx hb dL_law_2402 (lv_at hl 4 rfl) ?_
  refine lv_iconst (v := (2 : Int32)) hx hb dL_law_2404 (by decide) ?_
  refine lv_iadd hx hb dL_law_2405 ?_
  refine g_scr hx hb hX hbl hbA hS h2 dL_law_2406 ?_
  obtain ⟨q6, hq6, h⟩ := gbind_e h
  refine g_callV (As := [.int s1, .int s2]) (rest := [.int q3.1]) hx hb (hml.trans hl.1.symm) hown E hM hS hy_X8_hold kw_1909 (c_X8_hold hq6) hk_60 dd_60 rfl rfl rfl (Nat.le_of_ble_eq_true rfl) ⟨Nat.le_of_ble_eq_true rfl, Nat.le_of_ble_eq_true rfl⟩ ⟨by omega, by omega⟩ dL_law_2407 (fun H locs hM hS => ?_)
  refine lv_icmp_eq (tgt := 2764) hx hb dL_law_2410 (by decide) (fun c7 => ?_) (fun c7 => ?_)
  · replace h := gif_t c7 h
    refine W.widen (k := cells + 2) (n := slots + 12) (by omega) (by omega) ?_
    exact kc E (show gW gFull D cy _ base _ _ from (Option.some.inj h) ▸ hM) hS hl
  · replace h := gif_f c7 h
    refine lv_iconst (v := (0 : Int32)) hx hb dL_law_2413 (by decide) ?_
    cases h
def f_case_53 (s1 : Int32) (μ : gM) : Option gM :=
  Option.bind (f_X7_release s1 μ) (fun q2 => Option.bind (f_X8_release s1 q2.2) (fun q4 => if (q2.1 = q4.1) then some q4.2 else none))
set_option maxHeartbeats 4000000 in
set_option maxRecDepth 100000 in
theorem w_case_53 {s1 : Int32} {x4 : Int32} {μ μ2 : gM} (h : f_case_53 s1 μ = some μ2) (hx : p.tables.exec = Jvm.exec) (hb : c.code = cL_law) (hml : c.maxLocals = 8) (hown : s.vm.findClass RL = some m.cls) (hX : va_X b L xs s s.heap) (hbl : b < s.heap.size) (hbA : ¬ gA base b) (h1 : scrAt L xs x4 1 s1) (E : gEnv l D cy ad base s) (hM : gW gFull D cy ad base μ H) (hS : va_S (gA base) s.heap H locs) (hc : cells + 2 ≤ room_1.cells) (hs : slots + 12 ≤ room_1.slots) {ls : Array Slot} (hl : lv_has ls 8 [(0, .ref b), (1, .ref (ad 0)), (2, .ref (ad 60)), (3, .ref (ad 77)), (4, .int x4)]) (kc : ∀ {ad : Nat → Nat} {H : Heap} {locs : List Loc} {ls : Array Slot}, gEnv l D cy ad base s → gW gFull D cy ad base μ2 H → va_S (gA base) s.heap H locs → lv_has ls 8 [(0, .ref b), (1, .ref (ad 0)), (2, .ref (ad 60)), (3, .ref (ad 77)), (4, .int x4)] → W p l e room_1 s m args below meth c H locs (cells + 2) (slots + 12) Q (F0 m 2764 ls [])) : W p l e room_1 s m args below meth c H locs cells slots Q (F0 m 2415 ls []) := by
  unfold f_case_53 at h
  refine lv_aload_n hx hb dL_law_2415 rfl (lv_at hl 1 rfl) ?_
  refine lv_aload_n hx hb dL_law_2416 rfl (lv_at hl 0 rfl) ?_
  refine lv_iload hx hb dL_law_2417 (lv_at hl 4 rfl) ?_
  refine lv_iconst (v := (1 : Int32)) hx hb dL_law_2419 (by decide) ?_
  refine lv_iadd hx hb dL_law_2420 ?_
  refine g_scr hx hb hX hbl hbA hS h1 dL_law_2421 ?_
  obtain ⟨q2, hq2, h⟩ := gbind_e h
  refine g_callV (As := [.int s1]) (rest := []) hx hb (hml.trans hl.1.symm) hown E hM hS hy_X7_release kw_837 (c_X7_release hq2) hk_0 dd_0 rfl rfl rfl (Nat.le_of_ble_eq_true rfl) ⟨Nat.le_of_ble_eq_true rfl, Nat.le_of_ble_eq_true rfl⟩ ⟨by omega, by omega⟩ dL_law_2422 (fun H locs hM hS => ?_)
  refine lv_aload_n hx hb dL_law_2425 rfl (lv_at hl 2 rfl) ?_
  refine lv_aload_n hx hb dL_law_2426 rfl (lv_at hl 0 rfl) ?_
  refine lv_iload hx hb dL_law_2427 (lv_at hl 4 rfl) ?_
  refine lv_iconst (v := (1 : Int32)) hx hb dL_law_2429 (by decide) ?_
  refine lv_iadd hx hb dL_law_2430 ?_
  refine g_scr hx hb hX hbl hbA hS h1 dL_law_2431 ?_
  obtain ⟨q4, hq4, h⟩ := gbind_e h
  refine g_callV (As := [.int s1]) (rest := [.int q2.1]) hx hb (hml.trans hl.1.symm) hown E hM hS hy_X8_release kw_1921 (c_X8_release hq4) hk_60 dd_60 rfl rfl rfl (Nat.le_of_ble_eq_true rfl) ⟨Nat.le_of_ble_eq_true rfl, Nat.le_of_ble_eq_true rfl⟩ ⟨by omega, by omega⟩ dL_law_2432 (fun H locs hM hS => ?_)
  refine lv_icmp_eq (tgt := 2764) hx hb dL_law_2435 (by decide) (fun c5 => ?_) (fun c5 => ?_)
  · replace h := gif_t c5 h
    refine W.widen (k := cells + 2) (n := slots + 12) (by omega) (by omega) ?_
    exact kc E (show gW gFull D cy _ base _ _ from (Option.some.inj h) ▸ hM) hS hl
  · replace h := gif_f c5 h
    refine lv_iconst (v := (0 : Int32)) hx hb dL_law_2438 (by decide) ?_
    cases h
def f_case_54 (s1 : Int32) (s2 : Int32) (s3 : Int32) (s4 : Int32) (μ : gM) : Option gM :=
  Option.bind (f_X7_setReading s1 s2 s3 s4 μ) (fun q5 => Option.bind (f_X8_setReading s1 s2 s3 s4 q5.2) (fun q10 => if (q5.1 = q10.1) then some q10.2 else none))
set_option maxHeartbeats 4000000 in
set_option maxRecDepth 100000 in
theorem w_case_54 {s1 : Int32} {s2 : Int32} {s3 : Int32} {s4 : Int32} {x4 : Int32} {μ μ2 : gM} (h : f_case_54 s1 s2 s3 s4 μ = some μ2) (hx : p.tables.exec = Jvm.exec) (hb : c.code = cL_law) (hml : c.maxLocals = 8) (hown : s.vm.findClass RL = some m.cls) (hX : va_X b L xs s s.heap) (hbl : b < s.heap.size) (hbA : ¬ gA base b) (h1 : scrAt L xs x4 1 s1) (h2 : scrAt L xs x4 2 s2) (h3 : scrAt L xs x4 3 s3) (h4 : scrAt L xs x4 4 s4) (E : gEnv l D cy ad base s) (hM : gW gFull D cy ad base μ H) (hS : va_S (gA base) s.heap H locs) (hc : cells + 2 ≤ room_1.cells) (hs : slots + 12 ≤ room_1.slots) {ls : Array Slot} (hl : lv_has ls 8 [(0, .ref b), (1, .ref (ad 0)), (2, .ref (ad 60)), (3, .ref (ad 77)), (4, .int x4)]) (kc : ∀ {ad : Nat → Nat} {H : Heap} {locs : List Loc} {ls : Array Slot}, gEnv l D cy ad base s → gW gFull D cy ad base μ2 H → va_S (gA base) s.heap H locs → lv_has ls 8 [(0, .ref b), (1, .ref (ad 0)), (2, .ref (ad 60)), (3, .ref (ad 77)), (4, .int x4)] → W p l e room_1 s m args below meth c H locs (cells + 2) (slots + 12) Q (F0 m 2764 ls [])) : W p l e room_1 s m args below meth c H locs cells slots Q (F0 m 2440 ls []) := by
  unfold f_case_54 at h
  refine lv_aload_n hx hb dL_law_2440 rfl (lv_at hl 1 rfl) ?_
  refine lv_aload_n hx hb dL_law_2441 rfl (lv_at hl 0 rfl) ?_
  refine lv_iload hx hb dL_law_2442 (lv_at hl 4 rfl) ?_
  refine lv_iconst (v := (1 : Int32)) hx hb dL_law_2444 (by decide) ?_
  refine lv_iadd hx hb dL_law_2445 ?_
  refine g_scr hx hb hX hbl hbA hS h1 dL_law_2446 ?_
  refine lv_aload_n hx hb dL_law_2447 rfl (lv_at hl 0 rfl) ?_
  refine lv_iload hx hb dL_law_2448 (lv_at hl 4 rfl) ?_
  refine lv_iconst (v := (2 : Int32)) hx hb dL_law_2450 (by decide) ?_
  refine lv_iadd hx hb dL_law_2451 ?_
  refine g_scr hx hb hX hbl hbA hS h2 dL_law_2452 ?_
  refine lv_aload_n hx hb dL_law_2453 rfl (lv_at hl 0 rfl) ?_
  refine lv_iload hx hb dL_law_2454 (lv_at hl 4 rfl) ?_
  refine lv_iconst (v := (3 : Int32)) hx hb dL_law_2456 (by decide) ?_
  refine lv_iadd hx hb dL_law_2457 ?_
  refine g_scr hx hb hX hbl hbA hS h3 dL_law_2458 ?_
  refine lv_aload_n hx hb dL_law_2459 rfl (lv_at hl 0 rfl) ?_
  refine lv_iload hx hb dL_law_2460 (lv_at hl 4 rfl) ?_
  refine lv_iconst (v := (4 : Int32)) hx hb dL_law_2462 (by decide) ?_
  refine lv_iadd hx hb dL_law_2463 ?_
  refine g_scr hx hb hX hbl hbA hS h4 dL_law_2464 ?_
  obtain ⟨q5, hq5, h⟩ := gbind_e h
  refine g_callV (As := [.int s1, .int s2, .int s3, .int s4]) (rest := []) hx hb (hml.trans hl.1.symm) hown E hM hS hy_X7_setReading kw_841 (c_X7_setReading hq5) hk_0 dd_0 rfl rfl rfl (Nat.le_of_ble_eq_true rfl) ⟨Nat.le_of_ble_eq_true rfl, Nat.le_of_ble_eq_true rfl⟩ ⟨by omega, by omega⟩ dL_law_2465 (fun H locs hM hS => ?_)
  refine lv_aload_n hx hb dL_law_2468 rfl (lv_at hl 2 rfl) ?_
  refine lv_aload_n hx hb dL_law_2469 rfl (lv_at hl 0 rfl) ?_
  refine lv_iload hx hb dL_law_2470 (lv_at hl 4 rfl) ?_
  refine lv_iconst (v := (1 : Int32)) hx hb dL_law_2472 (by decide) ?_
  refine lv_iadd hx hb dL_law_2473 ?_
  refine g_scr hx hb hX hbl hbA hS h1 dL_law_2474 ?_
  refine lv_aload_n hx hb dL_law_2475 rfl (lv_at hl 0 rfl) ?_
  refine lv_iload hx hb dL_law_2476 (lv_at hl 4 rfl) ?_
  refine lv_iconst (v := (2 : Int32)) hx hb dL_law_2478 (by decide) ?_
  refine lv_iadd hx hb dL_law_2479 ?_
  refine g_scr hx hb hX hbl hbA hS h2 dL_law_2480 ?_
  refine lv_aload_n hx hb dL_law_2481 rfl (lv_at hl 0 rfl) ?_
  refine lv_iload hx hb dL_law_2482 (lv_at hl 4 rfl) ?_
  refine lv_iconst (v := (3 : Int32)) hx hb dL_law_2484 (by decide) ?_
  refine lv_iadd hx hb dL_law_2485 ?_
  refine g_scr hx hb hX hbl hbA hS h3 dL_law_2486 ?_
  refine lv_aload_n hx hb dL_law_2487 rfl (lv_at hl 0 rfl) ?_
  refine lv_iload hx hb dL_law_2488 (lv_at hl 4 rfl) ?_
  refine lv_iconst (v := (4 : Int32)) hx hb dL_law_2490 (by decide) ?_
  refine lv_iadd hx hb dL_law_2491 ?_
  refine g_scr hx hb hX hbl hbA hS h4 dL_law_2492 ?_
  obtain ⟨q10, hq10, h⟩ := gbind_e h
  refine g_callV (As := [.int s1, .int s2, .int s3, .int s4]) (rest := [.int q5.1]) hx hb (hml.trans hl.1.symm) hown E hM hS hy_X8_setReading kw_1925 (c_X8_setReading hq10) hk_60 dd_60 rfl rfl rfl (Nat.le_of_ble_eq_true rfl) ⟨Nat.le_of_ble_eq_true rfl, Nat.le_of_ble_eq_true rfl⟩ ⟨by omega, by omega⟩ dL_law_2493 (fun H locs hM hS => ?_)
  refine lv_icmp_eq (tgt := 2764) hx hb dL_law_2496 (by decide) (fun c11 => ?_) (fun c11 => ?_)
  · replace h := gif_t c11 h
    refine W.widen (k := cells + 2) (n := slots + 12) (by omega) (by omega) ?_
    exact kc E (show gW gFull D cy _ base _ _ from (Option.some.inj h) ▸ hM) hS hl
  · replace h := gif_f c11 h
    refine lv_iconst (v := (0 : Int32)) hx hb dL_law_2499 (by decide) ?_
    cases h
def f_case_55 (s1 : Int32) (s2 : Int32) (s3 : Int32) (s4 : Int32) (s5 : Int32) (μ : gM) : Option gM :=
  Option.bind (f_X7_addSetup s1 s2 s3 s4 s5 μ) (fun q6 => Option.bind (f_X8_addSetup s1 s2 s3 s4 s5 q6.2) (fun q12 => if (q6.1 = q12.1) then some q12.2 else none))
set_option maxHeartbeats 4000000 in
set_option maxRecDepth 100000 in
theorem w_case_55 {s1 : Int32} {s2 : Int32} {s3 : Int32} {s4 : Int32} {s5 : Int32} {x4 : Int32} {μ μ2 : gM} (h : f_case_55 s1 s2 s3 s4 s5 μ = some μ2) (hx : p.tables.exec = Jvm.exec) (hb : c.code = cL_law) (hml : c.maxLocals = 8) (hown : s.vm.findClass RL = some m.cls) (hX : va_X b L xs s s.heap) (hbl : b < s.heap.size) (hbA : ¬ gA base b) (h1 : scrAt L xs x4 1 s1) (h2 : scrAt L xs x4 2 s2) (h3 : scrAt L xs x4 3 s3) (h4 : scrAt L xs x4 4 s4) (h5 : scrAt L xs x4 5 s5) (E : gEnv l D cy ad base s) (hM : gW gFull D cy ad base μ H) (hS : va_S (gA base) s.heap H locs) (hc : cells + 2 ≤ room_1.cells) (hs : slots + 12 ≤ room_1.slots) {ls : Array Slot} (hl : lv_has ls 8 [(0, .ref b), (1, .ref (ad 0)), (2, .ref (ad 60)), (3, .ref (ad 77)), (4, .int x4)]) (kc : ∀ {ad : Nat → Nat} {H : Heap} {locs : List Loc} {ls : Array Slot}, gEnv l D cy ad base s → gW gFull D cy ad base μ2 H → va_S (gA base) s.heap H locs → lv_has ls 8 [(0, .ref b), (1, .ref (ad 0)), (2, .ref (ad 60)), (3, .ref (ad 77)), (4, .int x4)] → W p l e room_1 s m args below meth c H locs (cells + 2) (slots + 12) Q (F0 m 2764 ls [])) : W p l e room_1 s m args below meth c H locs cells slots Q (F0 m 2501 ls []) := by
  unfold f_case_55 at h
  refine lv_aload_n hx hb dL_law_2501 rfl (lv_at hl 1 rfl) ?_
  refine lv_aload_n hx hb dL_law_2502 rfl (lv_at hl 0 rfl) ?_
  refine lv_iload hx hb dL_law_2503 (lv_at hl 4 rfl) ?_
  refine lv_iconst (v := (1 : Int32)) hx hb dL_law_2505 (by decide) ?_
  refine lv_iadd hx hb dL_law_2506 ?_
  refine g_scr hx hb hX hbl hbA hS h1 dL_law_2507 ?_
  refine lv_aload_n hx hb dL_law_2508 rfl (lv_at hl 0 rfl) ?_
  refine lv_iload hx hb dL_law_2509 (lv_at hl 4 rfl) ?_
  refine lv_iconst (v := (2 : Int32)) hx hb dL_law_2511 (by decide) ?_
  refine lv_iadd hx hb dL_law_2512 ?_
  refine g_scr hx hb hX hbl hbA hS h2 dL_law_2513 ?_
  refine lv_aload_n hx hb dL_law_2514 rfl (lv_at hl 0 rfl) ?_
  refine lv_iload hx hb dL_law_2515 (lv_at hl 4 rfl) ?_
  refine lv_iconst (v := (3 : Int32)) hx hb dL_law_2517 (by decide) ?_
  refine lv_iadd hx hb dL_law_2518 ?_
  refine g_scr hx hb hX hbl hbA hS h3 dL_law_2519 ?_
  refine lv_aload_n hx hb dL_law_2520 rfl (lv_at hl 0 rfl) ?_
  refine lv_iload hx hb dL_law_2521 (lv_at hl 4 rfl) ?_
  refine lv_iconst (v := (4 : Int32)) hx hb dL_law_2523 (by decide) ?_
  refine lv_iadd hx hb dL_law_2524 ?_
  refine g_scr hx hb hX hbl hbA hS h4 dL_law_2525 ?_
  refine lv_aload_n hx hb dL_law_2526 rfl (lv_at hl 0 rfl) ?_
  refine lv_iload hx hb dL_law_2527 (lv_at hl 4 rfl) ?_
  refine lv_iconst (v := (5 : Int32)) hx hb dL_law_2529 (by decide) ?_
  refine lv_iadd hx hb dL_law_2530 ?_
  refine g_scr hx hb hX hbl hbA hS h5 dL_law_2531 ?_
  obtain ⟨q6, hq6, h⟩ := gbind_e h
  refine g_callV (As := [.int s1, .int s2, .int s3, .int s4, .int s5]) (rest := []) hx hb (hml.trans hl.1.symm) hown E hM hS hy_X7_addSetup kw_856 (c_X7_addSetup hq6) hk_0 dd_0 rfl rfl rfl (Nat.le_of_ble_eq_true rfl) ⟨Nat.le_of_ble_eq_true rfl, Nat.le_of_ble_eq_true rfl⟩ ⟨by omega, by omega⟩ dL_law_2532 (fun H locs hM hS => ?_)
  refine lv_aload_n hx hb dL_law_2535 rfl (lv_at hl 2 rfl) ?_
  refine lv_aload_n hx hb dL_law_2536 rfl (lv_at hl 0 rfl) ?_
  refine lv_iload hx hb dL_law_2537 (lv_at hl 4 rfl) ?_
  refine lv_iconst (v := (1 : Int32)) hx hb dL_law_2539 (by decide) ?_
  refine lv_iadd hx hb dL_law_2540 ?_
  refine g_scr hx hb hX hbl hbA hS h1 dL_law_2541 ?_
  refine lv_aload_n hx hb dL_law_2542 rfl (lv_at hl 0 rfl) ?_
  refine lv_iload hx hb dL_law_2543 (lv_at hl 4 rfl) ?_
  refine lv_iconst (v := (2 : Int32)) hx hb dL_law_2545 (by decide) ?_
  refine lv_iadd hx hb dL_law_2546 ?_
  refine g_scr hx hb hX hbl hbA hS h2 dL_law_2547 ?_
  refine lv_aload_n hx hb dL_law_2548 rfl (lv_at hl 0 rfl) ?_
  refine lv_iload hx hb dL_law_2549 (lv_at hl 4 rfl) ?_
  refine lv_iconst (v := (3 : Int32)) hx hb dL_law_2551 (by decide) ?_
  refine lv_iadd hx hb dL_law_2552 ?_
  refine g_scr hx hb hX hbl hbA hS h3 dL_law_2553 ?_
  refine lv_aload_n hx hb dL_law_2554 rfl (lv_at hl 0 rfl) ?_
  refine lv_iload hx hb dL_law_2555 (lv_at hl 4 rfl) ?_
  refine lv_iconst (v := (4 : Int32)) hx hb dL_law_2557 (by decide) ?_
  refine lv_iadd hx hb dL_law_2558 ?_
  refine g_scr hx hb hX hbl hbA hS h4 dL_law_2559 ?_
  refine lv_aload_n hx hb dL_law_2560 rfl (lv_at hl 0 rfl) ?_
  refine lv_iload hx hb dL_law_2561 (lv_at hl 4 rfl) ?_
  refine lv_iconst (v := (5 : Int32)) hx hb dL_law_2563 (by decide) ?_
  refine lv_iadd hx hb dL_law_2564 ?_
  refine g_scr hx hb hX hbl hbA hS h5 dL_law_2565 ?_
  obtain ⟨q12, hq12, h⟩ := gbind_e h
  refine g_callV (As := [.int s1, .int s2, .int s3, .int s4, .int s5]) (rest := [.int q6.1]) hx hb (hml.trans hl.1.symm) hown E hM hS hy_X8_addSetup kw_1932 (c_X8_addSetup hq12) hk_60 dd_60 rfl rfl rfl (Nat.le_of_ble_eq_true rfl) ⟨Nat.le_of_ble_eq_true rfl, Nat.le_of_ble_eq_true rfl⟩ ⟨by omega, by omega⟩ dL_law_2566 (fun H locs hM hS => ?_)
  refine lv_icmp_eq (tgt := 2764) hx hb dL_law_2569 (by decide) (fun c13 => ?_) (fun c13 => ?_)
  · replace h := gif_t c13 h
    refine W.widen (k := cells + 2) (n := slots + 12) (by omega) (by omega) ?_
    exact kc E (show gW gFull D cy _ base _ _ from (Option.some.inj h) ▸ hM) hS hl
  · replace h := gif_f c13 h
    refine lv_iconst (v := (0 : Int32)) hx hb dL_law_2572 (by decide) ?_
    cases h
def f_case_56 (s1 : Int32) (s2 : Int32) (μ : gM) : Option gM :=
  if (s2 = 0) then Option.bind (f_X7_setActive s1 (0 : Int32) μ) (fun q4 => if (s2 = 0) then Option.bind (f_X8_setActive s1 (0 : Int32) q4.2) (fun q8 => if (q4.1 = q8.1) then some q8.2 else none) else Option.bind (f_X8_setActive s1 (1 : Int32) q4.2) (fun q10 => if (q4.1 = q10.1) then some q10.2 else none)) else Option.bind (f_X7_setActive s1 (1 : Int32) μ) (fun q12 => if (s2 = 0) then Option.bind (f_X8_setActive s1 (0 : Int32) q12.2) (fun q16 => if (q12.1 = q16.1) then some q16.2 else none) else Option.bind (f_X8_setActive s1 (1 : Int32) q12.2) (fun q18 => if (q12.1 = q18.1) then some q18.2 else none))
set_option maxHeartbeats 4000000 in
set_option maxRecDepth 100000 in
theorem w_case_56 {s1 : Int32} {s2 : Int32} {x4 : Int32} {μ μ2 : gM} (h : f_case_56 s1 s2 μ = some μ2) (hx : p.tables.exec = Jvm.exec) (hb : c.code = cL_law) (hml : c.maxLocals = 8) (hown : s.vm.findClass RL = some m.cls) (hX : va_X b L xs s s.heap) (hbl : b < s.heap.size) (hbA : ¬ gA base b) (h1 : scrAt L xs x4 1 s1) (h2 : scrAt L xs x4 2 s2) (E : gEnv l D cy ad base s) (hM : gW gFull D cy ad base μ H) (hS : va_S (gA base) s.heap H locs) (hc : cells + 2 ≤ room_1.cells) (hs : slots + 12 ≤ room_1.slots) {ls : Array Slot} (hl : lv_has ls 8 [(0, .ref b), (1, .ref (ad 0)), (2, .ref (ad 60)), (3, .ref (ad 77)), (4, .int x4)]) (kc : ∀ {ad : Nat → Nat} {H : Heap} {locs : List Loc} {ls : Array Slot}, gEnv l D cy ad base s → gW gFull D cy ad base μ2 H → va_S (gA base) s.heap H locs → lv_has ls 8 [(0, .ref b), (1, .ref (ad 0)), (2, .ref (ad 60)), (3, .ref (ad 77)), (4, .int x4)] → W p l e room_1 s m args below meth c H locs (cells + 2) (slots + 12) Q (F0 m 2764 ls [])) : W p l e room_1 s m args below meth c H locs cells slots Q (F0 m 2574 ls []) := by
  unfold f_case_56 at h
  refine lv_aload_n hx hb dL_law_2574 rfl (lv_at hl 1 rfl) ?_
  refine lv_aload_n hx hb dL_law_2575 rfl (lv_at hl 0 rfl) ?_
  refine lv_iload hx hb dL_law_2576 (lv_at hl 4 rfl) ?_
  refine lv_iconst (v := (1 : Int32)) hx hb dL_law_2578 (by decide) ?_
  refine lv_iadd hx hb dL_law_2579 ?_
  refine g_scr hx hb hX hbl hbA hS h1 dL_law_2580 ?_
  refine lv_aload_n hx hb dL_law_2581 rfl (lv_at hl 0 rfl) ?_
  refine lv_iload hx hb dL_law_2582 (lv_at hl 4 rfl) ?_
  refine lv_iconst (v := (2 : Int32)) hx hb dL_law_2584 (by decide) ?_
  refine lv_iadd hx hb dL_law_2585 ?_
  refine g_scr hx hb hX hbl hbA hS h2 dL_law_2586 ?_
  refine lv_if_eq (tgt := 2594) hx hb dL_law_2587 (by decide) (fun c3 => ?_) (fun c3 => ?_)
  · replace h := gif_t c3 h
    refine lv_iconst (v := (0 : Int32)) hx hb dL_law_2594 (by decide) ?_
    obtain ⟨q4, hq4, h⟩ := gbind_e h
    refine g_callV (As := [.int s1, .int (0 : Int32)]) (rest := []) hx hb (hml.trans hl.1.symm) hown E hM hS hy_X7_setActive kw_860 (c_X7_setActive hq4) hk_0 dd_0 rfl rfl rfl (Nat.le_of_ble_eq_true rfl) ⟨Nat.le_of_ble_eq_true rfl, Nat.le_of_ble_eq_true rfl⟩ ⟨by omega, by omega⟩ dL_law_2595 (fun H locs hM hS => ?_)
    refine lv_aload_n hx hb dL_law_2598 rfl (lv_at hl 2 rfl) ?_
    refine lv_aload_n hx hb dL_law_2599 rfl (lv_at hl 0 rfl) ?_
    refine lv_iload hx hb dL_law_2600 (lv_at hl 4 rfl) ?_
    refine lv_iconst (v := (1 : Int32)) hx hb dL_law_2602 (by decide) ?_
    refine lv_iadd hx hb dL_law_2603 ?_
    refine g_scr hx hb hX hbl hbA hS h1 dL_law_2604 ?_
    refine lv_aload_n hx hb dL_law_2605 rfl (lv_at hl 0 rfl) ?_
    refine lv_iload hx hb dL_law_2606 (lv_at hl 4 rfl) ?_
    refine lv_iconst (v := (2 : Int32)) hx hb dL_law_2608 (by decide) ?_
    refine lv_iadd hx hb dL_law_2609 ?_
    refine g_scr hx hb hX hbl hbA hS h2 dL_law_2610 ?_
    refine lv_if_eq (tgt := 2618) hx hb dL_law_2611 (by decide) (fun c7 => ?_) (fun c7 => ?_)
    · replace h := gif_t c7 h
      refine lv_iconst (v := (0 : Int32)) hx hb dL_law_2618 (by decide) ?_
      obtain ⟨q8, hq8, h⟩ := gbind_e h
      refine g_callV (As := [.int s1, .int (0 : Int32)]) (rest := [.int q4.1]) hx hb (hml.trans hl.1.symm) hown E hM hS hy_X8_setActive kw_1936 (c_X8_setActive hq8) hk_60 dd_60 rfl rfl rfl (Nat.le_of_ble_eq_true rfl) ⟨Nat.le_of_ble_eq_true rfl, Nat.le_of_ble_eq_true rfl⟩ ⟨by omega, by omega⟩ dL_law_2619 (fun H locs hM hS => ?_)
      refine lv_icmp_eq (tgt := 2764) hx hb dL_law_2622 (by decide) (fun c9 => ?_) (fun c9 => ?_)
      · replace h := gif_t c9 h
        refine W.widen (k := cells + 2) (n := slots + 12) (by omega) (by omega) ?_
        exact kc E (show gW gFull D cy _ base _ _ from (Option.some.inj h) ▸ hM) hS hl
      · replace h := gif_f c9 h
        refine lv_iconst (v := (0 : Int32)) hx hb dL_law_2625 (by decide) ?_
        cases h
    · replace h := gif_f c7 h
      refine lv_iconst (v := (1 : Int32)) hx hb dL_law_2614 (by decide) ?_
      refine lv_goto (tgt := 2619) hx hb dL_law_2615 (by decide) ?_
      obtain ⟨q10, hq10, h⟩ := gbind_e h
      refine g_callV (As := [.int s1, .int (1 : Int32)]) (rest := [.int q4.1]) hx hb (hml.trans hl.1.symm) hown E hM hS hy_X8_setActive kw_1936 (c_X8_setActive hq10) hk_60 dd_60 rfl rfl rfl (Nat.le_of_ble_eq_true rfl) ⟨Nat.le_of_ble_eq_true rfl, Nat.le_of_ble_eq_true rfl⟩ ⟨by omega, by omega⟩ dL_law_2619 (fun H locs hM hS => ?_)
      refine lv_icmp_eq (tgt := 2764) hx hb dL_law_2622 (by decide) (fun c11 => ?_) (fun c11 => ?_)
      · replace h := gif_t c11 h
        refine W.widen (k := cells + 2) (n := slots + 12) (by omega) (by omega) ?_
        exact kc E (show gW gFull D cy _ base _ _ from (Option.some.inj h) ▸ hM) hS hl
      · replace h := gif_f c11 h
        refine lv_iconst (v := (0 : Int32)) hx hb dL_law_2625 (by decide) ?_
        cases h
  · replace h := gif_f c3 h
    refine lv_iconst (v := (1 : Int32)) hx hb dL_law_2590 (by decide) ?_
    refine lv_goto (tgt := 2595) hx hb dL_law_2591 (by decide) ?_
    obtain ⟨q12, hq12, h⟩ := gbind_e h
    refine g_callV (As := [.int s1, .int (1 : Int32)]) (rest := []) hx hb (hml.trans hl.1.symm) hown E hM hS hy_X7_setActive kw_860 (c_X7_setActive hq12) hk_0 dd_0 rfl rfl rfl (Nat.le_of_ble_eq_true rfl) ⟨Nat.le_of_ble_eq_true rfl, Nat.le_of_ble_eq_true rfl⟩ ⟨by omega, by omega⟩ dL_law_2595 (fun H locs hM hS => ?_)
    refine lv_aload_n hx hb dL_law_2598 rfl (lv_at hl 2 rfl) ?_
    refine lv_aload_n hx hb dL_law_2599 rfl (lv_at hl 0 rfl) ?_
    refine lv_iload hx hb dL_law_2600 (lv_at hl 4 rfl) ?_
    refine lv_iconst (v := (1 : Int32)) hx hb dL_law_2602 (by decide) ?_
    refine lv_iadd hx hb dL_law_2603 ?_
    refine g_scr hx hb hX hbl hbA hS h1 dL_law_2604 ?_
    refine lv_aload_n hx hb dL_law_2605 rfl (lv_at hl 0 rfl) ?_
    refine lv_iload hx hb dL_law_2606 (lv_at hl 4 rfl) ?_
    refine lv_iconst (v := (2 : Int32)) hx hb dL_law_2608 (by decide) ?_
    refine lv_iadd hx hb dL_law_2609 ?_
    refine g_scr hx hb hX hbl hbA hS h2 dL_law_2610 ?_
    refine lv_if_eq (tgt := 2618) hx hb dL_law_2611 (by decide) (fun c15 => ?_) (fun c15 => ?_)
    · replace h := gif_t c15 h
      refine lv_iconst (v := (0 : Int32)) hx hb dL_law_2618 (by decide) ?_
      obtain ⟨q16, hq16, h⟩ := gbind_e h
      refine g_callV (As := [.int s1, .int (0 : Int32)]) (rest := [.int q12.1]) hx hb (hml.trans hl.1.symm) hown E hM hS hy_X8_setActive kw_1936 (c_X8_setActive hq16) hk_60 dd_60 rfl rfl rfl (Nat.le_of_ble_eq_true rfl) ⟨Nat.le_of_ble_eq_true rfl, Nat.le_of_ble_eq_true rfl⟩ ⟨by omega, by omega⟩ dL_law_2619 (fun H locs hM hS => ?_)
      refine lv_icmp_eq (tgt := 2764) hx hb dL_law_2622 (by decide) (fun c17 => ?_) (fun c17 => ?_)
      · replace h := gif_t c17 h
        refine W.widen (k := cells + 2) (n := slots + 12) (by omega) (by omega) ?_
        exact kc E (show gW gFull D cy _ base _ _ from (Option.some.inj h) ▸ hM) hS hl
      · replace h := gif_f c17 h
        refine lv_iconst (v := (0 : Int32)) hx hb dL_law_2625 (by decide) ?_
        cases h
    · replace h := gif_f c15 h
      refine lv_iconst (v := (1 : Int32)) hx hb dL_law_2614 (by decide) ?_
      refine lv_goto (tgt := 2619) hx hb dL_law_2615 (by decide) ?_
      obtain ⟨q18, hq18, h⟩ := gbind_e h
      refine g_callV (As := [.int s1, .int (1 : Int32)]) (rest := [.int q12.1]) hx hb (hml.trans hl.1.symm) hown E hM hS hy_X8_setActive kw_1936 (c_X8_setActive hq18) hk_60 dd_60 rfl rfl rfl (Nat.le_of_ble_eq_true rfl) ⟨Nat.le_of_ble_eq_true rfl, Nat.le_of_ble_eq_true rfl⟩ ⟨by omega, by omega⟩ dL_law_2619 (fun H locs hM hS => ?_)
      refine lv_icmp_eq (tgt := 2764) hx hb dL_law_2622 (by decide) (fun c19 => ?_) (fun c19 => ?_)
      · replace h := gif_t c19 h
        refine W.widen (k := cells + 2) (n := slots + 12) (by omega) (by omega) ?_
        exact kc E (show gW gFull D cy _ base _ _ from (Option.some.inj h) ▸ hM) hS hl
      · replace h := gif_f c19 h
        refine lv_iconst (v := (0 : Int32)) hx hb dL_law_2625 (by decide) ?_
        cases h
def f_case_57 (s1 : Int32) (s2 : Int32) (μ : gM) : Option gM :=
  Option.bind (f_X7_setCollimation s1 s2 μ) (fun q3 => Option.bind (f_X8_setCollimation s1 s2 q3.2) (fun q6 => if (q3.1 = q6.1) then some q6.2 else none))
set_option maxHeartbeats 4000000 in
set_option maxRecDepth 100000 in
theorem w_case_57 {s1 : Int32} {s2 : Int32} {x4 : Int32} {μ μ2 : gM} (h : f_case_57 s1 s2 μ = some μ2) (hx : p.tables.exec = Jvm.exec) (hb : c.code = cL_law) (hml : c.maxLocals = 8) (hown : s.vm.findClass RL = some m.cls) (hX : va_X b L xs s s.heap) (hbl : b < s.heap.size) (hbA : ¬ gA base b) (h1 : scrAt L xs x4 1 s1) (h2 : scrAt L xs x4 2 s2) (E : gEnv l D cy ad base s) (hM : gW gFull D cy ad base μ H) (hS : va_S (gA base) s.heap H locs) (hc : cells + 2 ≤ room_1.cells) (hs : slots + 12 ≤ room_1.slots) {ls : Array Slot} (hl : lv_has ls 8 [(0, .ref b), (1, .ref (ad 0)), (2, .ref (ad 60)), (3, .ref (ad 77)), (4, .int x4)]) (kc : ∀ {ad : Nat → Nat} {H : Heap} {locs : List Loc} {ls : Array Slot}, gEnv l D cy ad base s → gW gFull D cy ad base μ2 H → va_S (gA base) s.heap H locs → lv_has ls 8 [(0, .ref b), (1, .ref (ad 0)), (2, .ref (ad 60)), (3, .ref (ad 77)), (4, .int x4)] → W p l e room_1 s m args below meth c H locs (cells + 2) (slots + 12) Q (F0 m 2764 ls [])) : W p l e room_1 s m args below meth c H locs cells slots Q (F0 m 2627 ls []) := by
  unfold f_case_57 at h
  refine lv_aload_n hx hb dL_law_2627 rfl (lv_at hl 1 rfl) ?_
  refine lv_aload_n hx hb dL_law_2628 rfl (lv_at hl 0 rfl) ?_
  refine lv_iload hx hb dL_law_2629 (lv_at hl 4 rfl) ?_
  refine lv_iconst (v := (1 : Int32)) hx hb dL_law_2631 (by decide) ?_
  refine lv_iadd hx hb dL_law_2632 ?_
  refine g_scr hx hb hX hbl hbA hS h1 dL_law_2633 ?_
  refine lv_aload_n hx hb dL_law_2634 rfl (lv_at hl 0 rfl) ?_
  refine lv_iload hx hb dL_law_2635 (lv_at hl 4 rfl) ?_
  refine lv_iconst (v := (2 : Int32)) hx hb dL_law_2637 (by decide) ?_
  refine lv_iadd hx hb dL_law_2638 ?_
  refine g_scr hx hb hX hbl hbA hS h2 dL_law_2639 ?_
  obtain ⟨q3, hq3, h⟩ := gbind_e h
  refine g_callV (As := [.int s1, .int s2]) (rest := []) hx hb (hml.trans hl.1.symm) hown E hM hS hy_X7_setCollimation kw_864 (c_X7_setCollimation hq3) hk_0 dd_0 rfl rfl rfl (Nat.le_of_ble_eq_true rfl) ⟨Nat.le_of_ble_eq_true rfl, Nat.le_of_ble_eq_true rfl⟩ ⟨by omega, by omega⟩ dL_law_2640 (fun H locs hM hS => ?_)
  refine lv_aload_n hx hb dL_law_2643 rfl (lv_at hl 2 rfl) ?_
  refine lv_aload_n hx hb dL_law_2644 rfl (lv_at hl 0 rfl) ?_
  refine lv_iload hx hb dL_law_2645 (lv_at hl 4 rfl) ?_
  refine lv_iconst (v := (1 : Int32)) hx hb dL_law_2647 (by decide) ?_
  refine lv_iadd hx hb dL_law_2648 ?_
  refine g_scr hx hb hX hbl hbA hS h1 dL_law_2649 ?_
  refine lv_aload_n hx hb dL_law_2650 rfl (lv_at hl 0 rfl) ?_
  refine lv_iload hx hb dL_law_2651 (lv_at hl 4 rfl) ?_
  refine lv_iconst (v := (2 : Int32)) hx hb dL_law_2653 (by decide) ?_
  refine lv_iadd hx hb dL_law_2654 ?_
  refine g_scr hx hb hX hbl hbA hS h2 dL_law_2655 ?_
  obtain ⟨q6, hq6, h⟩ := gbind_e h
  refine g_callV (As := [.int s1, .int s2]) (rest := [.int q3.1]) hx hb (hml.trans hl.1.symm) hown E hM hS hy_X8_setCollimation kw_1940 (c_X8_setCollimation hq6) hk_60 dd_60 rfl rfl rfl (Nat.le_of_ble_eq_true rfl) ⟨Nat.le_of_ble_eq_true rfl, Nat.le_of_ble_eq_true rfl⟩ ⟨by omega, by omega⟩ dL_law_2656 (fun H locs hM hS => ?_)
  refine lv_icmp_eq (tgt := 2764) hx hb dL_law_2659 (by decide) (fun c7 => ?_) (fun c7 => ?_)
  · replace h := gif_t c7 h
    refine W.widen (k := cells + 2) (n := slots + 12) (by omega) (by omega) ?_
    exact kc E (show gW gFull D cy _ base _ _ from (Option.some.inj h) ▸ hM) hS hl
  · replace h := gif_f c7 h
    refine lv_iconst (v := (0 : Int32)) hx hb dL_law_2662 (by decide) ?_
    cases h
def f_case_58 (s1 : Int32) (μ : gM) : Option gM :=
  Option.bind (f_X7_applyTest s1 μ) (fun q2 => Option.bind (f_X8_applyTest s1 q2.2) (fun q4 => if (q2.1 = q4.1) then some q4.2 else none))
set_option maxHeartbeats 4000000 in
set_option maxRecDepth 100000 in
theorem w_case_58 {s1 : Int32} {x4 : Int32} {μ μ2 : gM} (h : f_case_58 s1 μ = some μ2) (hx : p.tables.exec = Jvm.exec) (hb : c.code = cL_law) (hml : c.maxLocals = 8) (hown : s.vm.findClass RL = some m.cls) (hX : va_X b L xs s s.heap) (hbl : b < s.heap.size) (hbA : ¬ gA base b) (h1 : scrAt L xs x4 1 s1) (E : gEnv l D cy ad base s) (hM : gW gFull D cy ad base μ H) (hS : va_S (gA base) s.heap H locs) (hc : cells + 2 ≤ room_1.cells) (hs : slots + 12 ≤ room_1.slots) {ls : Array Slot} (hl : lv_has ls 8 [(0, .ref b), (1, .ref (ad 0)), (2, .ref (ad 60)), (3, .ref (ad 77)), (4, .int x4)]) (kc : ∀ {ad : Nat → Nat} {H : Heap} {locs : List Loc} {ls : Array Slot}, gEnv l D cy ad base s → gW gFull D cy ad base μ2 H → va_S (gA base) s.heap H locs → lv_has ls 8 [(0, .ref b), (1, .ref (ad 0)), (2, .ref (ad 60)), (3, .ref (ad 77)), (4, .int x4)] → W p l e room_1 s m args below meth c H locs (cells + 2) (slots + 12) Q (F0 m 2764 ls [])) : W p l e room_1 s m args below meth c H locs cells slots Q (F0 m 2664 ls []) := by
  unfold f_case_58 at h
  refine lv_aload_n hx hb dL_law_2664 rfl (lv_at hl 1 rfl) ?_
  refine lv_aload_n hx hb dL_law_2665 rfl (lv_at hl 0 rfl) ?_
  refine lv_iload hx hb dL_law_2666 (lv_at hl 4 rfl) ?_
  refine lv_iconst (v := (1 : Int32)) hx hb dL_law_2668 (by decide) ?_
  refine lv_iadd hx hb dL_law_2669 ?_
  refine g_scr hx hb hX hbl hbA hS h1 dL_law_2670 ?_
  obtain ⟨q2, hq2, h⟩ := gbind_e h
  refine g_callV (As := [.int s1]) (rest := []) hx hb (hml.trans hl.1.symm) hown E hM hS hy_X7_applyTest kw_873 (c_X7_applyTest hq2) hk_0 dd_0 rfl rfl rfl (Nat.le_of_ble_eq_true rfl) ⟨Nat.le_of_ble_eq_true rfl, Nat.le_of_ble_eq_true rfl⟩ ⟨by omega, by omega⟩ dL_law_2671 (fun H locs hM hS => ?_)
  refine lv_aload_n hx hb dL_law_2674 rfl (lv_at hl 2 rfl) ?_
  refine lv_aload_n hx hb dL_law_2675 rfl (lv_at hl 0 rfl) ?_
  refine lv_iload hx hb dL_law_2676 (lv_at hl 4 rfl) ?_
  refine lv_iconst (v := (1 : Int32)) hx hb dL_law_2678 (by decide) ?_
  refine lv_iadd hx hb dL_law_2679 ?_
  refine g_scr hx hb hX hbl hbA hS h1 dL_law_2680 ?_
  obtain ⟨q4, hq4, h⟩ := gbind_e h
  refine g_callV (As := [.int s1]) (rest := [.int q2.1]) hx hb (hml.trans hl.1.symm) hown E hM hS hy_X8_applyTest kw_1948 (c_X8_applyTest hq4) hk_60 dd_60 rfl rfl rfl (Nat.le_of_ble_eq_true rfl) ⟨Nat.le_of_ble_eq_true rfl, Nat.le_of_ble_eq_true rfl⟩ ⟨by omega, by omega⟩ dL_law_2681 (fun H locs hM hS => ?_)
  refine lv_icmp_eq (tgt := 2764) hx hb dL_law_2684 (by decide) (fun c5 => ?_) (fun c5 => ?_)
  · replace h := gif_t c5 h
    refine W.widen (k := cells + 2) (n := slots + 12) (by omega) (by omega) ?_
    exact kc E (show gW gFull D cy _ base _ _ from (Option.some.inj h) ▸ hM) hS hl
  · replace h := gif_f c5 h
    refine lv_iconst (v := (0 : Int32)) hx hb dL_law_2687 (by decide) ?_
    cases h
def f_case_59 (s1 : Int32) (μ : gM) : Option gM :=
  Option.bind (f_X7_adjust s1 μ) (fun q2 => Option.bind (f_X8_adjust s1 q2.2) (fun q4 => if (q2.1 = q4.1) then some q4.2 else none))
set_option maxHeartbeats 4000000 in
set_option maxRecDepth 100000 in
theorem w_case_59 {s1 : Int32} {x4 : Int32} {μ μ2 : gM} (h : f_case_59 s1 μ = some μ2) (hx : p.tables.exec = Jvm.exec) (hb : c.code = cL_law) (hml : c.maxLocals = 8) (hown : s.vm.findClass RL = some m.cls) (hX : va_X b L xs s s.heap) (hbl : b < s.heap.size) (hbA : ¬ gA base b) (h1 : scrAt L xs x4 1 s1) (E : gEnv l D cy ad base s) (hM : gW gFull D cy ad base μ H) (hS : va_S (gA base) s.heap H locs) (hc : cells + 2 ≤ room_1.cells) (hs : slots + 12 ≤ room_1.slots) {ls : Array Slot} (hl : lv_has ls 8 [(0, .ref b), (1, .ref (ad 0)), (2, .ref (ad 60)), (3, .ref (ad 77)), (4, .int x4)]) (kc : ∀ {ad : Nat → Nat} {H : Heap} {locs : List Loc} {ls : Array Slot}, gEnv l D cy ad base s → gW gFull D cy ad base μ2 H → va_S (gA base) s.heap H locs → lv_has ls 8 [(0, .ref b), (1, .ref (ad 0)), (2, .ref (ad 60)), (3, .ref (ad 77)), (4, .int x4)] → W p l e room_1 s m args below meth c H locs (cells + 2) (slots + 12) Q (F0 m 2764 ls [])) : W p l e room_1 s m args below meth c H locs cells slots Q (F0 m 2689 ls []) := by
  unfold f_case_59 at h
  refine lv_aload_n hx hb dL_law_2689 rfl (lv_at hl 1 rfl) ?_
  refine lv_aload_n hx hb dL_law_2690 rfl (lv_at hl 0 rfl) ?_
  refine lv_iload hx hb dL_law_2691 (lv_at hl 4 rfl) ?_
  refine lv_iconst (v := (1 : Int32)) hx hb dL_law_2693 (by decide) ?_
  refine lv_iadd hx hb dL_law_2694 ?_
  refine g_scr hx hb hX hbl hbA hS h1 dL_law_2695 ?_
  obtain ⟨q2, hq2, h⟩ := gbind_e h
  refine g_callV (As := [.int s1]) (rest := []) hx hb (hml.trans hl.1.symm) hown E hM hS hy_X7_adjust kw_886 (c_X7_adjust hq2) hk_0 dd_0 rfl rfl rfl (Nat.le_of_ble_eq_true rfl) ⟨Nat.le_of_ble_eq_true rfl, Nat.le_of_ble_eq_true rfl⟩ ⟨by omega, by omega⟩ dL_law_2696 (fun H locs hM hS => ?_)
  refine lv_aload_n hx hb dL_law_2699 rfl (lv_at hl 2 rfl) ?_
  refine lv_aload_n hx hb dL_law_2700 rfl (lv_at hl 0 rfl) ?_
  refine lv_iload hx hb dL_law_2701 (lv_at hl 4 rfl) ?_
  refine lv_iconst (v := (1 : Int32)) hx hb dL_law_2703 (by decide) ?_
  refine lv_iadd hx hb dL_law_2704 ?_
  refine g_scr hx hb hX hbl hbA hS h1 dL_law_2705 ?_
  obtain ⟨q4, hq4, h⟩ := gbind_e h
  refine g_callV (As := [.int s1]) (rest := [.int q2.1]) hx hb (hml.trans hl.1.symm) hown E hM hS hy_X8_adjust kw_1861 (c_X8_adjust hq4) hk_60 dd_60 rfl rfl rfl (Nat.le_of_ble_eq_true rfl) ⟨Nat.le_of_ble_eq_true rfl, Nat.le_of_ble_eq_true rfl⟩ ⟨by omega, by omega⟩ dL_law_2706 (fun H locs hM hS => ?_)
  refine lv_icmp_eq (tgt := 2764) hx hb dL_law_2709 (by decide) (fun c5 => ?_) (fun c5 => ?_)
  · replace h := gif_t c5 h
    refine W.widen (k := cells + 2) (n := slots + 12) (by omega) (by omega) ?_
    exact kc E (show gW gFull D cy _ base _ _ from (Option.some.inj h) ▸ hM) hS hl
  · replace h := gif_f c5 h
    refine lv_iconst (v := (0 : Int32)) hx hb dL_law_2712 (by decide) ?_
    cases h
def f_case_60 (s1 : Int32) (s2 : Int32) (μ : gM) : Option gM :=
  Option.bind (f_X7_setSetting s1 s2 μ) (fun q3 => Option.bind (f_X8_setSetting s1 s2 q3.2) (fun q6 => if (q3.1 = q6.1) then some q6.2 else none))
set_option maxHeartbeats 4000000 in
set_option maxRecDepth 100000 in
theorem w_case_60 {s1 : Int32} {s2 : Int32} {x4 : Int32} {μ μ2 : gM} (h : f_case_60 s1 s2 μ = some μ2) (hx : p.tables.exec = Jvm.exec) (hb : c.code = cL_law) (hml : c.maxLocals = 8) (hown : s.vm.findClass RL = some m.cls) (hX : va_X b L xs s s.heap) (hbl : b < s.heap.size) (hbA : ¬ gA base b) (h1 : scrAt L xs x4 1 s1) (h2 : scrAt L xs x4 2 s2) (E : gEnv l D cy ad base s) (hM : gW gFull D cy ad base μ H) (hS : va_S (gA base) s.heap H locs) (hc : cells + 2 ≤ room_1.cells) (hs : slots + 12 ≤ room_1.slots) {ls : Array Slot} (hl : lv_has ls 8 [(0, .ref b), (1, .ref (ad 0)), (2, .ref (ad 60)), (3, .ref (ad 77)), (4, .int x4)]) (kc : ∀ {ad : Nat → Nat} {H : Heap} {locs : List Loc} {ls : Array Slot}, gEnv l D cy ad base s → gW gFull D cy ad base μ2 H → va_S (gA base) s.heap H locs → lv_has ls 8 [(0, .ref b), (1, .ref (ad 0)), (2, .ref (ad 60)), (3, .ref (ad 77)), (4, .int x4)] → W p l e room_1 s m args below meth c H locs (cells + 2) (slots + 12) Q (F0 m 2764 ls [])) : W p l e room_1 s m args below meth c H locs cells slots Q (F0 m 2714 ls []) := by
  unfold f_case_60 at h
  refine lv_aload_n hx hb dL_law_2714 rfl (lv_at hl 1 rfl) ?_
  refine lv_aload_n hx hb dL_law_2715 rfl (lv_at hl 0 rfl) ?_
  refine lv_iload hx hb dL_law_2716 (lv_at hl 4 rfl) ?_
  refine lv_iconst (v := (1 : Int32)) hx hb dL_law_2718 (by decide) ?_
  refine lv_iadd hx hb dL_law_2719 ?_
  refine g_scr hx hb hX hbl hbA hS h1 dL_law_2720 ?_
  refine lv_aload_n hx hb dL_law_2721 rfl (lv_at hl 0 rfl) ?_
  refine lv_iload hx hb dL_law_2722 (lv_at hl 4 rfl) ?_
  refine lv_iconst (v := (2 : Int32)) hx hb dL_law_2724 (by decide) ?_
  refine lv_iadd hx hb dL_law_2725 ?_
  refine g_scr hx hb hX hbl hbA hS h2 dL_law_2726 ?_
  obtain ⟨q3, hq3, h⟩ := gbind_e h
  refine g_callV (As := [.int s1, .int s2]) (rest := []) hx hb (hml.trans hl.1.symm) hown E hM hS hy_X7_setSetting kw_913 (c_X7_setSetting hq3) hk_0 dd_0 rfl rfl rfl (Nat.le_of_ble_eq_true rfl) ⟨Nat.le_of_ble_eq_true rfl, Nat.le_of_ble_eq_true rfl⟩ ⟨by omega, by omega⟩ dL_law_2727 (fun H locs hM hS => ?_)
  refine lv_aload_n hx hb dL_law_2730 rfl (lv_at hl 2 rfl) ?_
  refine lv_aload_n hx hb dL_law_2731 rfl (lv_at hl 0 rfl) ?_
  refine lv_iload hx hb dL_law_2732 (lv_at hl 4 rfl) ?_
  refine lv_iconst (v := (1 : Int32)) hx hb dL_law_2734 (by decide) ?_
  refine lv_iadd hx hb dL_law_2735 ?_
  refine g_scr hx hb hX hbl hbA hS h1 dL_law_2736 ?_
  refine lv_aload_n hx hb dL_law_2737 rfl (lv_at hl 0 rfl) ?_
  refine lv_iload hx hb dL_law_2738 (lv_at hl 4 rfl) ?_
  refine lv_iconst (v := (2 : Int32)) hx hb dL_law_2740 (by decide) ?_
  refine lv_iadd hx hb dL_law_2741 ?_
  refine g_scr hx hb hX hbl hbA hS h2 dL_law_2742 ?_
  obtain ⟨q6, hq6, h⟩ := gbind_e h
  refine g_callV (As := [.int s1, .int s2]) (rest := [.int q3.1]) hx hb (hml.trans hl.1.symm) hown E hM hS hy_X8_setSetting kw_1952 (c_X8_setSetting hq6) hk_60 dd_60 rfl rfl rfl (Nat.le_of_ble_eq_true rfl) ⟨Nat.le_of_ble_eq_true rfl, Nat.le_of_ble_eq_true rfl⟩ ⟨by omega, by omega⟩ dL_law_2743 (fun H locs hM hS => ?_)
  refine lv_icmp_eq (tgt := 2764) hx hb dL_law_2746 (by decide) (fun c7 => ?_) (fun c7 => ?_)
  · replace h := gif_t c7 h
    refine W.widen (k := cells + 2) (n := slots + 12) (by omega) (by omega) ?_
    exact kc E (show gW gFull D cy _ base _ _ from (Option.some.inj h) ▸ hM) hS hl
  · replace h := gif_f c7 h
    refine lv_iconst (v := (0 : Int32)) hx hb dL_law_2749 (by decide) ?_
    cases h
def f_case_61 (μ : gM) : Option gM :=
  Option.bind (f_X7_undo  μ) (fun q1 => Option.bind (f_X8_undo  q1.2) (fun q2 => if (q1.1 = q2.1) then some q2.2 else none))
set_option maxHeartbeats 4000000 in
set_option maxRecDepth 100000 in
theorem w_case_61 {x4 : Int32} {μ μ2 : gM} (h : f_case_61  μ = some μ2) (hx : p.tables.exec = Jvm.exec) (hb : c.code = cL_law) (hml : c.maxLocals = 8) (hown : s.vm.findClass RL = some m.cls) (hX : va_X b L xs s s.heap) (hbl : b < s.heap.size) (hbA : ¬ gA base b) (E : gEnv l D cy ad base s) (hM : gW gFull D cy ad base μ H) (hS : va_S (gA base) s.heap H locs) (hc : cells + 2 ≤ room_1.cells) (hs : slots + 12 ≤ room_1.slots) {ls : Array Slot} (hl : lv_has ls 8 [(0, .ref b), (1, .ref (ad 0)), (2, .ref (ad 60)), (3, .ref (ad 77)), (4, .int x4)]) (kc : ∀ {ad : Nat → Nat} {H : Heap} {locs : List Loc} {ls : Array Slot}, gEnv l D cy ad base s → gW gFull D cy ad base μ2 H → va_S (gA base) s.heap H locs → lv_has ls 8 [(0, .ref b), (1, .ref (ad 0)), (2, .ref (ad 60)), (3, .ref (ad 77)), (4, .int x4)] → W p l e room_1 s m args below meth c H locs (cells + 2) (slots + 12) Q (F0 m 2764 ls [])) : W p l e room_1 s m args below meth c H locs cells slots Q (F0 m 2751 ls []) := by
  unfold f_case_61 at h
  refine lv_aload_n hx hb dL_law_2751 rfl (lv_at hl 1 rfl) ?_
  obtain ⟨q1, hq1, h⟩ := gbind_e h
  refine g_callV (As := []) (rest := []) hx hb (hml.trans hl.1.symm) hown E hM hS hy_X7_undo kw_919 (c_X7_undo hq1) hk_0 dd_0 rfl rfl rfl (Nat.le_of_ble_eq_true rfl) ⟨Nat.le_of_ble_eq_true rfl, Nat.le_of_ble_eq_true rfl⟩ ⟨by omega, by omega⟩ dL_law_2752 (fun H locs hM hS => ?_)
  refine lv_aload_n hx hb dL_law_2755 rfl (lv_at hl 2 rfl) ?_
  obtain ⟨q2, hq2, h⟩ := gbind_e h
  refine g_callV (As := []) (rest := [.int q1.1]) hx hb (hml.trans hl.1.symm) hown E hM hS hy_X8_undo kw_1355 (c_X8_undo hq2) hk_60 dd_60 rfl rfl rfl (Nat.le_of_ble_eq_true rfl) ⟨Nat.le_of_ble_eq_true rfl, Nat.le_of_ble_eq_true rfl⟩ ⟨by omega, by omega⟩ dL_law_2756 (fun H locs hM hS => ?_)
  refine lv_icmp_eq (tgt := 2764) hx hb dL_law_2759 (by decide) (fun c3 => ?_) (fun c3 => ?_)
  · replace h := gif_t c3 h
    refine W.widen (k := cells + 2) (n := slots + 12) (by omega) (by omega) ?_
    exact kc E (show gW gFull D cy _ base _ _ from (Option.some.inj h) ▸ hM) hS hl
  · replace h := gif_f c3 h
    refine lv_iconst (v := (0 : Int32)) hx hb dL_law_2762 (by decide) ?_
    cases h
end LAWC
