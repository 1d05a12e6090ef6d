theorem dL_pleads_329 : decode cL_pleads 329 = .ok (.if_icmp .ne 7, 3) := by decide +kernel
theorem dL_pleads_332 : decode cL_pleads 332 = .ok (.iconst 1, 1) := by decide +kernel
theorem dL_pleads_333 : decode cL_pleads 333 = .ok (.goto 4, 3) := by decide +kernel
theorem dL_pleads_336 : decode cL_pleads 336 = .ok (.iconst 0, 1) := by decide +kernel
theorem dL_pleads_337 : decode cL_pleads 337 = .ok (.istore 14, 2) := by decide +kernel
theorem dL_pleads_339 : decode cL_pleads 339 = .ok (.iload 12, 2) := by decide +kernel
theorem dL_pleads_341 : decode cL_pleads 341 = .ok (.ifCond .ge 54, 3) := by decide +kernel
theorem dL_pleads_344 : decode cL_pleads 344 = .ok (.iload 14, 2) := by decide +kernel
theorem dL_pleads_346 : decode cL_pleads 346 = .ok (.ifCond .eq 47, 3) := by decide +kernel
theorem dL_pleads_349 : decode cL_pleads 349 = .ok (.iload 11, 2) := by decide +kernel
theorem dL_pleads_351 : decode cL_pleads 351 = .ok (.ifCond .lt 42, 3) := by decide +kernel
theorem dL_pleads_354 : decode cL_pleads 354 = .ok (.iload 11, 2) := by decide +kernel
theorem dL_pleads_356 : decode cL_pleads 356 = .ok (.iload 10, 2) := by decide +kernel
theorem dL_pleads_358 : decode cL_pleads 358 = .ok (.if_icmp .gt 35, 3) := by decide +kernel
theorem dL_pleads_361 : decode cL_pleads 361 = .ok (.iload 13, 2) := by decide +kernel
theorem dL_pleads_363 : decode cL_pleads 363 = .ok (.iload 10, 2) := by decide +kernel
theorem dL_pleads_365 : decode cL_pleads 365 = .ok (.if_icmp .ne 28, 3) := by decide +kernel
theorem dL_pleads_368 : decode cL_pleads 368 = .ok (.aload_n 0, 1) := by decide +kernel
theorem dL_pleads_369 : decode cL_pleads 369 = .ok (.invokestatic 86, 3) := by decide +kernel
theorem dL_pleads_372 : decode cL_pleads 372 = .ok (.lload 4, 2) := by decide +kernel
theorem dL_pleads_374 : decode cL_pleads 374 = .ok (.lcmp, 1) := by decide +kernel
theorem dL_pleads_375 : decode cL_pleads 375 = .ok (.ifCond .ne 18, 3) := by decide +kernel
theorem dL_pleads_378 : decode cL_pleads 378 = .ok (.aload_n 0, 1) := by decide +kernel
theorem dL_pleads_379 : decode cL_pleads 379 = .ok (.bipush 14, 2) := by decide +kernel
theorem dL_pleads_381 : decode cL_pleads 381 = .ok (.invokevirtual 13, 3) := by decide +kernel
theorem dL_pleads_384 : decode cL_pleads 384 = .ok (.iload 6, 2) := by decide +kernel
theorem dL_pleads_386 : decode cL_pleads 386 = .ok (.if_icmp .ne 7, 3) := by decide +kernel
theorem dL_pleads_389 : decode cL_pleads 389 = .ok (.iconst 1, 1) := by decide +kernel
theorem dL_pleads_390 : decode cL_pleads 390 = .ok (.goto 4, 3) := by decide +kernel
theorem dL_pleads_393 : decode cL_pleads 393 = .ok (.iconst 0, 1) := by decide +kernel
theorem dL_pleads_394 : decode cL_pleads 394 = .ok (.ireturn, 1) := by decide +kernel
theorem dL_pleads_395 : decode cL_pleads 395 = .ok (.aload_n 0, 1) := by decide +kernel
theorem dL_pleads_396 : decode cL_pleads 396 = .ok (.iconst 0, 1) := by decide +kernel
theorem dL_pleads_397 : decode cL_pleads 397 = .ok (.invokevirtual 93, 3) := by decide +kernel
theorem dL_pleads_400 : decode cL_pleads 400 = .ok (.istore 15, 2) := by decide +kernel
theorem dL_pleads_402 : decode cL_pleads 402 = .ok (.iload 14, 2) := by decide +kernel
theorem dL_pleads_404 : decode cL_pleads 404 = .ok (.ifCond .eq 169, 3) := by decide +kernel
theorem dL_pleads_407 : decode cL_pleads 407 = .ok (.iload 12, 2) := by decide +kernel
theorem dL_pleads_409 : decode cL_pleads 409 = .ok (.iload_n 2, 1) := by decide +kernel
theorem dL_pleads_410 : decode cL_pleads 410 = .ok (.if_icmp .gt 163, 3) := by decide +kernel
theorem dL_pleads_413 : decode cL_pleads 413 = .ok (.iload 13, 2) := by decide +kernel
theorem dL_pleads_415 : decode cL_pleads 415 = .ok (.ifCond .ne 158, 3) := by decide +kernel
theorem dL_pleads_418 : decode cL_pleads 418 = .ok (.aload_n 0, 1) := by decide +kernel
theorem dL_pleads_419 : decode cL_pleads 419 = .ok (.bipush 14, 2) := by decide +kernel
theorem dL_pleads_421 : decode cL_pleads 421 = .ok (.invokevirtual 13, 3) := by decide +kernel
theorem dL_pleads_424 : decode cL_pleads 424 = .ok (.iload 6, 2) := by decide +kernel
theorem dL_pleads_426 : decode cL_pleads 426 = .ok (.iconst 4, 1) := by decide +kernel
theorem dL_pleads_427 : decode cL_pleads 427 = .ok (.if_icmp .ge 10, 3) := by decide +kernel
theorem dL_pleads_430 : decode cL_pleads 430 = .ok (.iload 6, 2) := by decide +kernel
theorem dL_pleads_432 : decode cL_pleads 432 = .ok (.iconst 1, 1) := by decide +kernel
theorem dL_pleads_433 : decode cL_pleads 433 = .ok (.iadd, 1) := by decide +kernel
theorem dL_pleads_434 : decode cL_pleads 434 = .ok (.goto 4, 3) := by decide +kernel
theorem dL_pleads_437 : decode cL_pleads 437 = .ok (.iconst 4, 1) := by decide +kernel
theorem dL_pleads_438 : decode cL_pleads 438 = .ok (.if_icmp .ne 135, 3) := by decide +kernel
theorem dL_pleads_441 : decode cL_pleads 441 = .ok (.aload_n 0, 1) := by decide +kernel
theorem dL_pleads_442 : decode cL_pleads 442 = .ok (.bipush 7, 2) := by decide +kernel
theorem dL_pleads_444 : decode cL_pleads 444 = .ok (.invokevirtual 13, 3) := by decide +kernel
theorem dL_pleads_447 : decode cL_pleads 447 = .ok (.iload 7, 2) := by decide +kernel
theorem dL_pleads_449 : decode cL_pleads 449 = .ok (.isub, 1) := by decide +kernel
theorem dL_pleads_450 : decode cL_pleads 450 = .ok (.aload_n 0, 1) := by decide +kernel
theorem dL_pleads_451 : decode cL_pleads 451 = .ok (.iconst 0, 1) := by decide +kernel
theorem dL_pleads_452 : decode cL_pleads 452 = .ok (.invokevirtual 13, 3) := by decide +kernel
theorem dL_pleads_455 : decode cL_pleads 455 = .ok (.iadd, 1) := by decide +kernel
theorem dL_pleads_456 : decode cL_pleads 456 = .ok (.iload 9, 2) := by decide +kernel
theorem dL_pleads_458 : decode cL_pleads 458 = .ok (.isub, 1) := by decide +kernel
theorem dL_pleads_459 : decode cL_pleads 459 = .ok (.iload 12, 2) := by decide +kernel
theorem dL_pleads_461 : decode cL_pleads 461 = .ok (.if_icmp .ne 112, 3) := by decide +kernel
theorem dL_pleads_464 : decode cL_pleads 464 = .ok (.aload_n 0, 1) := by decide +kernel
theorem dL_pleads_465 : decode cL_pleads 465 = .ok (.bipush 8, 2) := by decide +kernel
theorem dL_pleads_467 : decode cL_pleads 467 = .ok (.invokevirtual 13, 3) := by decide +kernel
theorem dL_pleads_470 : decode cL_pleads 470 = .ok (.iload 8, 2) := by decide +kernel
theorem dL_pleads_472 : decode cL_pleads 472 = .ok (.iload 15, 2) := by decide +kernel
theorem dL_pleads_474 : decode cL_pleads 474 = .ok (.ifCond .le 7, 3) := by decide +kernel
theorem dL_pleads_477 : decode cL_pleads 477 = .ok (.iconst 1, 1) := by decide +kernel
theorem dL_pleads_478 : decode cL_pleads 478 = .ok (.goto 4, 3) := by decide +kernel
theorem dL_pleads_481 : decode cL_pleads 481 = .ok (.iconst 0, 1) := by decide +kernel
theorem dL_pleads_482 : decode cL_pleads 482 = .ok (.iadd, 1) := by decide +kernel
theorem dL_pleads_483 : decode cL_pleads 483 = .ok (.if_icmp .ne 90, 3) := by decide +kernel
theorem dL_pleads_486 : decode cL_pleads 486 = .ok (.iload 12, 2) := by decide +kernel
theorem dL_pleads_488 : decode cL_pleads 488 = .ok (.iload_n 2, 1) := by decide +kernel
theorem dL_pleads_489 : decode cL_pleads 489 = .ok (.if_icmp .ne 7, 3) := by decide +kernel
theorem dL_pleads_492 : decode cL_pleads 492 = .ok (.iconst 1, 1) := by decide +kernel
theorem dL_pleads_493 : decode cL_pleads 493 = .ok (.goto 4, 3) := by decide +kernel
theorem dL_pleads_496 : decode cL_pleads 496 = .ok (.iconst 0, 1) := by decide +kernel
theorem dL_pleads_497 : decode cL_pleads 497 = .ok (.iload 15, 2) := by decide +kernel
theorem dL_pleads_499 : decode cL_pleads 499 = .ok (.bipush (-4), 2) := by decide +kernel
theorem dL_pleads_501 : decode cL_pleads 501 = .ok (.if_icmp .ne 7, 3) := by decide +kernel
theorem dL_pleads_504 : decode cL_pleads 504 = .ok (.iconst 1, 1) := by decide +kernel
theorem dL_pleads_505 : decode cL_pleads 505 = .ok (.goto 4, 3) := by decide +kernel
theorem dL_pleads_508 : decode cL_pleads 508 = .ok (.iconst 0, 1) := by decide +kernel
theorem dL_pleads_509 : decode cL_pleads 509 = .ok (.if_icmp .ne 64, 3) := by decide +kernel
theorem dL_pleads_512 : decode cL_pleads 512 = .ok (.iload 15, 2) := by decide +kernel
theorem dL_pleads_514 : decode cL_pleads 514 = .ok (.bipush (-4), 2) := by decide +kernel
theorem dL_pleads_516 : decode cL_pleads 516 = .ok (.if_icmp .eq 53, 3) := by decide +kernel
theorem dL_pleads_519 : decode cL_pleads 519 = .ok (.iload 15, 2) := by decide +kernel
theorem dL_pleads_521 : decode cL_pleads 521 = .ok (.iconst (-1), 1) := by decide +kernel
theorem dL_pleads_522 : decode cL_pleads 522 = .ok (.if_icmp .eq 15, 3) := by decide +kernel
theorem dL_pleads_525 : decode cL_pleads 525 = .ok (.iload 15, 2) := by decide +kernel
theorem dL_pleads_527 : decode cL_pleads 527 = .ok (.iconst 1, 1) := by decide +kernel
theorem dL_pleads_528 : decode cL_pleads 528 = .ok (.if_icmp .lt 45, 3) := by decide +kernel
theorem dL_pleads_531 : decode cL_pleads 531 = .ok (.iload 15, 2) := by decide +kernel
theorem dL_pleads_533 : decode cL_pleads 533 = .ok (.iconst 3, 1) := by decide +kernel
theorem dL_pleads_534 : decode cL_pleads 534 = .ok (.if_icmp .gt 39, 3) := by decide +kernel
theorem dL_pleads_537 : decode cL_pleads 537 = .ok (.aload_n 0, 1) := by decide +kernel
theorem dL_pleads_538 : decode cL_pleads 538 = .ok (.iconst 1, 1) := by decide +kernel
theorem dL_pleads_539 : decode cL_pleads 539 = .ok (.invokevirtual 93, 3) := by decide +kernel
theorem dL_pleads_542 : decode cL_pleads 542 = .ok (.iload 12, 2) := by decide +kernel
theorem dL_pleads_544 : decode cL_pleads 544 = .ok (.if_icmp .ne 29, 3) := by decide +kernel
theorem dL_pleads_547 : decode cL_pleads 547 = .ok (.aload_n 0, 1) := by decide +kernel
theorem dL_pleads_548 : decode cL_pleads 548 = .ok (.iconst 2, 1) := by decide +kernel
theorem dL_pleads_549 : decode cL_pleads 549 = .ok (.invokevirtual 93, 3) := by decide +kernel
theorem dL_pleads_552 : decode cL_pleads 552 = .ok (.iconst 2, 1) := by decide +kernel
theorem dL_pleads_553 : decode cL_pleads 553 = .ok (.iload 12, 2) := by decide +kernel
theorem dL_pleads_555 : decode cL_pleads 555 = .ok (.imul, 1) := by decide +kernel
theorem dL_pleads_556 : decode cL_pleads 556 = .ok (.if_icmp .lt 17, 3) := by decide +kernel
theorem dL_pleads_559 : decode cL_pleads 559 = .ok (.aload_n 0, 1) := by decide +kernel
theorem dL_pleads_560 : decode cL_pleads 560 = .ok (.iconst 2, 1) := by decide +kernel
theorem dL_pleads_561 : decode cL_pleads 561 = .ok (.invokevirtual 93, 3) := by decide +kernel
theorem dL_pleads_564 : decode cL_pleads 564 = .ok (.iload 10, 2) := by decide +kernel
theorem dL_pleads_566 : decode cL_pleads 566 = .ok (.if_icmp .ge 7, 3) := by decide +kernel
theorem dL_pleads_569 : decode cL_pleads 569 = .ok (.iconst 1, 1) := by decide +kernel
theorem dL_pleads_570 : decode cL_pleads 570 = .ok (.goto 4, 3) := by decide +kernel
theorem dL_pleads_573 : decode cL_pleads 573 = .ok (.iconst 0, 1) := by decide +kernel
theorem dL_pleads_574 : decode cL_pleads 574 = .ok (.ireturn, 1) := by decide +kernel
theorem dL_suits_0 : decode cL_suits 0 = .ok (.aload_n 0, 1) := by decide +kernel
theorem dL_suits_1 : decode cL_suits 1 = .ok (.iconst 1, 1) := by decide +kernel
theorem dL_suits_2 : decode cL_suits 2 = .ok (.invokevirtual 13, 3) := by decide +kernel
theorem dL_suits_5 : decode cL_suits 5 = .ok (.istore_n 3, 1) := by decide +kernel
theorem dL_suits_6 : decode cL_suits 6 = .ok (.iload_n 2, 1) := by decide +kernel
theorem dL_suits_7 : decode cL_suits 7 = .ok (.iload_n 3, 1) := by decide +kernel
theorem dL_suits_8 : decode cL_suits 8 = .ok (.iconst 1, 1) := by decide +kernel
theorem dL_suits_9 : decode cL_suits 9 = .ok (.iadd, 1) := by decide +kernel
theorem dL_suits_10 : decode cL_suits 10 = .ok (.invokestatic 56, 3) := by decide +kernel
theorem dL_suits_13 : decode cL_suits 13 = .ok (.istore 4, 2) := by decide +kernel
theorem dL_suits_15 : decode cL_suits 15 = .ok (.iload 4, 2) := by decide +kernel
theorem dL_suits_17 : decode cL_suits 17 = .ok (.iload_n 3, 1) := by decide +kernel
theorem dL_suits_18 : decode cL_suits 18 = .ok (.if_icmp .ne 7, 3) := by decide +kernel
theorem dL_suits_21 : decode cL_suits 21 = .ok (.iconst 1, 1) := by decide +kernel
theorem dL_suits_22 : decode cL_suits 22 = .ok (.goto 4, 3) := by decide +kernel
theorem dL_suits_25 : decode cL_suits 25 = .ok (.iconst 0, 1) := by decide +kernel
theorem dL_suits_26 : decode cL_suits 26 = .ok (.istore 5, 2) := by decide +kernel
theorem dL_suits_28 : decode cL_suits 28 = .ok (.iload 5, 2) := by decide +kernel
theorem dL_suits_30 : decode cL_suits 30 = .ok (.ifCond .eq 7, 3) := by decide +kernel
theorem dL_suits_33 : decode cL_suits 33 = .ok (.iconst 0, 1) := by decide +kernel
theorem dL_suits_34 : decode cL_suits 34 = .ok (.goto 10, 3) := by decide +kernel
theorem dL_suits_37 : decode cL_suits 37 = .ok (.aload_n 0, 1) := by decide +kernel
theorem dL_suits_38 : decode cL_suits 38 = .ok (.iload 4, 2) := by decide +kernel
theorem dL_suits_40 : decode cL_suits 40 = .ok (.iconst 0, 1) := by decide +kernel
theorem dL_suits_41 : decode cL_suits 41 = .ok (.invokevirtual 19, 3) := by decide +kernel
theorem dL_suits_44 : decode cL_suits 44 = .ok (.istore 6, 2) := by decide +kernel
theorem dL_suits_46 : decode cL_suits 46 = .ok (.iload 5, 2) := by decide +kernel
theorem dL_suits_48 : decode cL_suits 48 = .ok (.ifCond .eq 7, 3) := by decide +kernel
theorem dL_suits_51 : decode cL_suits 51 = .ok (.iconst 0, 1) := by decide +kernel
theorem dL_suits_52 : decode cL_suits 52 = .ok (.goto 11, 3) := by decide +kernel
theorem dL_suits_55 : decode cL_suits 55 = .ok (.aload_n 0, 1) := by decide +kernel
theorem dL_suits_56 : decode cL_suits 56 = .ok (.iload 4, 2) := by decide +kernel
theorem dL_suits_58 : decode cL_suits 58 = .ok (.bipush 8, 2) := by decide +kernel
theorem dL_suits_60 : decode cL_suits 60 = .ok (.invokevirtual 19, 3) := by decide +kernel
theorem dL_suits_63 : decode cL_suits 63 = .ok (.istore 7, 2) := by decide +kernel
theorem dL_suits_65 : decode cL_suits 65 = .ok (.iload_n 1, 1) := by decide +kernel
theorem dL_suits_66 : decode cL_suits 66 = .ok (.ifCond .ne 282, 3) := by decide +kernel
theorem dL_suits_69 : decode cL_suits 69 = .ok (.iload 5, 2) := by decide +kernel
theorem dL_suits_71 : decode cL_suits 71 = .ok (.ifCond .eq 8, 3) := by decide +kernel
theorem dL_suits_74 : decode cL_suits 74 = .ok (.bipush (-4), 2) := by decide +kernel
theorem dL_suits_76 : decode cL_suits 76 = .ok (.goto 9, 3) := by decide +kernel
theorem dL_suits_79 : decode cL_suits 79 = .ok (.aload_n 0, 1) := by decide +kernel
theorem dL_suits_80 : decode cL_suits 80 = .ok (.iload 4, 2) := by decide +kernel
theorem dL_suits_82 : decode cL_suits 82 = .ok (.invokevirtual 62, 3) := by decide +kernel
theorem dL_suits_85 : decode cL_suits 85 = .ok (.istore 8, 2) := by decide +kernel
theorem dL_suits_87 : decode cL_suits 87 = .ok (.iload_n 2, 1) := by decide +kernel
theorem dL_suits_88 : decode cL_suits 88 = .ok (.bipush 9, 2) := by decide +kernel
theorem dL_suits_90 : decode cL_suits 90 = .ok (.ishr, 1) := by decide +kernel
theorem dL_suits_91 : decode cL_suits 91 = .ok (.iconst 2, 1) := by decide +kernel
theorem dL_suits_92 : decode cL_suits 92 = .ok (.invokestatic 56, 3) := by decide +kernel
theorem dL_suits_95 : decode cL_suits 95 = .ok (.ifCond .ne 13, 3) := by decide +kernel
theorem dL_suits_98 : decode cL_suits 98 = .ok (.iload 8, 2) := by decide +kernel
theorem dL_suits_100 : decode cL_suits 100 = .ok (.ifCond .lt 8, 3) := by decide +kernel
theorem dL_suits_103 : decode cL_suits 103 = .ok (.iload 8, 2) := by decide +kernel
theorem dL_suits_105 : decode cL_suits 105 = .ok (.goto 31, 3) := by decide +kernel
theorem dL_suits_108 : decode cL_suits 108 = .ok (.iload_n 2, 1) := by decide +kernel
theorem dL_suits_109 : decode cL_suits 109 = .ok (.iconst 3, 1) := by decide +kernel
theorem dL_suits_110 : decode cL_suits 110 = .ok (.ishr, 1) := by decide +kernel
theorem dL_suits_111 : decode cL_suits 111 = .ok (.iload 6, 2) := by decide +kernel
theorem dL_suits_113 : decode cL_suits 113 = .ok (.iconst 1, 1) := by decide +kernel
theorem dL_suits_114 : decode cL_suits 114 = .ok (.iadd, 1) := by decide +kernel
theorem dL_suits_115 : decode cL_suits 115 = .ok (.invokestatic 56, 3) := by decide +kernel
theorem dL_suits_118 : decode cL_suits 118 = .ok (.iload_n 2, 1) := by decide +kernel
theorem dL_suits_119 : decode cL_suits 119 = .ok (.bipush 11, 2) := by decide +kernel
theorem dL_suits_121 : decode cL_suits 121 = .ok (.ishr, 1) := by decide +kernel
theorem dL_suits_122 : decode cL_suits 122 = .ok (.bipush 9, 2) := by decide +kernel
theorem dL_suits_124 : decode cL_suits 124 = .ok (.invokestatic 56, 3) := by decide +kernel
theorem dL_suits_127 : decode cL_suits 127 = .ok (.ifCond .ne 7, 3) := by decide +kernel
theorem dL_suits_130 : decode cL_suits 130 = .ok (.iconst 1, 1) := by decide +kernel
theorem dL_suits_131 : decode cL_suits 131 = .ok (.goto 4, 3) := by decide +kernel
theorem dL_suits_134 : decode cL_suits 134 = .ok (.iconst 0, 1) := by decide +kernel
theorem dL_suits_135 : decode cL_suits 135 = .ok (.isub, 1) := by decide +kernel
theorem dL_suits_136 : decode cL_suits 136 = .ok (.istore 9, 2) := by decide +kernel
theorem dL_suits_138 : decode cL_suits 138 = .ok (.iload 5, 2) := by decide +kernel
theorem dL_suits_140 : decode cL_suits 140 = .ok (.ifCond .ne 17, 3) := by decide +kernel
theorem dL_suits_143 : decode cL_suits 143 = .ok (.iload 9, 2) := by decide +kernel
theorem dL_suits_145 : decode cL_suits 145 = .ok (.ifCond .lt 12, 3) := by decide +kernel
theorem dL_suits_148 : decode cL_suits 148 = .ok (.iload 9, 2) := by decide +kernel
theorem dL_suits_150 : decode cL_suits 150 = .ok (.iload 6, 2) := by decide +kernel
theorem dL_suits_152 : decode cL_suits 152 = .ok (.iconst 1, 1) := by decide +kernel
theorem dL_suits_153 : decode cL_suits 153 = .ok (.isub, 1) := by decide +kernel
theorem dL_suits_154 : decode cL_suits 154 = .ok (.if_icmp .lt 7, 3) := by decide +kernel
theorem dL_suits_157 : decode cL_suits 157 = .ok (.iconst 1, 1) := by decide +kernel
theorem dL_suits_158 : decode cL_suits 158 = .ok (.goto 4, 3) := by decide +kernel
theorem dL_suits_161 : decode cL_suits 161 = .ok (.iconst 0, 1) := by decide +kernel
theorem dL_suits_162 : decode cL_suits 162 = .ok (.istore 10, 2) := by decide +kernel
theorem dL_suits_164 : decode cL_suits 164 = .ok (.iload 10, 2) := by decide +kernel
theorem dL_suits_166 : decode cL_suits 166 = .ok (.ifCond .eq 7, 3) := by decide +kernel
theorem dL_suits_169 : decode cL_suits 169 = .ok (.iconst 0, 1) := by decide +kernel
theorem dL_suits_170 : decode cL_suits 170 = .ok (.goto 11, 3) := by decide +kernel
theorem dL_suits_173 : decode cL_suits 173 = .ok (.aload_n 0, 1) := by decide +kernel
theorem dL_suits_174 : decode cL_suits 174 = .ok (.iload 4, 2) := by decide +kernel
theorem dL_suits_176 : decode cL_suits 176 = .ok (.iload 9, 2) := by decide +kernel
theorem dL_suits_178 : decode cL_suits 178 = .ok (.invokevirtual 59, 3) := by decide +kernel
theorem dL_suits_181 : decode cL_suits 181 = .ok (.istore 11, 2) := by decide +kernel
theorem dL_suits_183 : decode cL_suits 183 = .ok (.iload 10, 2) := by decide +kernel
theorem dL_suits_185 : decode cL_suits 185 = .ok (.ifCond .eq 7, 3) := by decide +kernel
theorem dL_suits_188 : decode cL_suits 188 = .ok (.iconst 0, 1) := by decide +kernel
theorem dL_suits_189 : decode cL_suits 189 = .ok (.goto 12, 3) := by decide +kernel
theorem dL_suits_192 : decode cL_suits 192 = .ok (.aload_n 0, 1) := by decide +kernel
theorem dL_suits_193 : decode cL_suits 193 = .ok (.iload 4, 2) := by decide +kernel
theorem dL_suits_195 : decode cL_suits 195 = .ok (.iload 9, 2) := by decide +kernel
theorem dL_suits_197 : decode cL_suits 197 = .ok (.iconst 3, 1) := by decide +kernel
theorem dL_suits_198 : decode cL_suits 198 = .ok (.invokevirtual 42, 3) := by decide +kernel
theorem dL_suits_201 : decode cL_suits 201 = .ok (.istore 12, 2) := by decide +kernel
theorem dL_suits_203 : decode cL_suits 203 = .ok (.aload_n 0, 1) := by decide +kernel
theorem dL_suits_204 : decode cL_suits 204 = .ok (.bipush 8, 2) := by decide +kernel
theorem dL_suits_206 : decode cL_suits 206 = .ok (.invokevirtual 13, 3) := by decide +kernel
theorem dL_suits_209 : decode cL_suits 209 = .ok (.istore 13, 2) := by decide +kernel
theorem dL_suits_211 : decode cL_suits 211 = .ok (.aload_n 0, 1) := by decide +kernel
theorem dL_suits_212 : decode cL_suits 212 = .ok (.bipush 7, 2) := by decide +kernel
theorem dL_suits_214 : decode cL_suits 214 = .ok (.invokevirtual 13, 3) := by decide +kernel
theorem dL_suits_217 : decode cL_suits 217 = .ok (.istore 14, 2) := by decide +kernel
theorem dL_suits_219 : decode cL_suits 219 = .ok (.aload_n 0, 1) := by decide +kernel
theorem dL_suits_220 : decode cL_suits 220 = .ok (.iconst 3, 1) := by decide +kernel
theorem dL_suits_221 : decode cL_suits 221 = .ok (.invokevirtual 13, 3) := by decide +kernel
theorem dL_suits_224 : decode cL_suits 224 = .ok (.istore 15, 2) := by decide +kernel
theorem dL_suits_226 : decode cL_suits 226 = .ok (.aload_n 0, 1) := by decide +kernel
theorem dL_suits_227 : decode cL_suits 227 = .ok (.iload 4, 2) := by decide +kernel
theorem dL_suits_229 : decode cL_suits 229 = .ok (.iload 9, 2) := by decide +kernel
theorem dL_suits_231 : decode cL_suits 231 = .ok (.invokevirtual 96, 3) := by decide +kernel
theorem dL_suits_234 : decode cL_suits 234 = .ok (.istore 16, 2) := by decide +kernel
theorem dL_suits_236 : decode cL_suits 236 = .ok (.iload 16, 2) := by decide +kernel
theorem dL_suits_238 : decode cL_suits 238 = .ok (.iload 10, 2) := by decide +kernel
theorem dL_suits_240 : decode cL_suits 240 = .ok (.ifCond .eq 7, 3) := by decide +kernel
theorem dL_suits_243 : decode cL_suits 243 = .ok (.iconst (-1), 1) := by decide +kernel
theorem dL_suits_244 : decode cL_suits 244 = .ok (.goto 19, 3) := by decide +kernel
theorem dL_suits_247 : decode cL_suits 247 = .ok (.iload 11, 2) := by decide +kernel
theorem dL_suits_249 : decode cL_suits 249 = .ok (.ifCond .le 8, 3) := by decide +kernel
theorem dL_suits_252 : decode cL_suits 252 = .ok (.iload 11, 2) := by decide +kernel
theorem dL_suits_254 : decode cL_suits 254 = .ok (.goto 9, 3) := by decide +kernel
theorem dL_suits_257 : decode cL_suits 257 = .ok (.sipush 1010, 3) := by decide +kernel
theorem dL_suits_260 : decode cL_suits 260 = .ok (.iload 12, 2) := by decide +kernel
theorem dL_suits_262 : decode cL_suits 262 = .ok (.isub, 1) := by decide +kernel
theorem dL_suits_263 : decode cL_suits 263 = .ok (.if_icmp .ne 83, 3) := by decide +kernel
theorem dL_suits_266 : decode cL_suits 266 = .ok (.aload_n 0, 1) := by decide +kernel
theorem dL_suits_267 : decode cL_suits 267 = .ok (.bipush 8, 2) := by decide +kernel
theorem dL_suits_269 : decode cL_suits 269 = .ok (.invokevirtual 13, 3) := by decide +kernel
theorem dL_suits_272 : decode cL_suits 272 = .ok (.iload 13, 2) := by decide +kernel
theorem dL_suits_274 : decode cL_suits 274 = .ok (.iload 11, 2) := by decide +kernel
theorem dL_suits_276 : decode cL_suits 276 = .ok (.ifCond .le 7, 3) := by decide +kernel
theorem dL_suits_279 : decode cL_suits 279 = .ok (.iconst 1, 1) := by decide +kernel
theorem dL_suits_280 : decode cL_suits 280 = .ok (.goto 4, 3) := by decide +kernel
theorem dL_suits_283 : decode cL_suits 283 = .ok (.iconst 0, 1) := by decide +kernel
theorem dL_suits_284 : decode cL_suits 284 = .ok (.iadd, 1) := by decide +kernel
theorem dL_suits_285 : decode cL_suits 285 = .ok (.if_icmp .ne 61, 3) := by decide +kernel
theorem dL_suits_288 : decode cL_suits 288 = .ok (.aload_n 0, 1) := by decide +kernel
theorem dL_suits_289 : decode cL_suits 289 = .ok (.bipush 7, 2) := by decide +kernel
theorem dL_suits_291 : decode cL_suits 291 = .ok (.invokevirtual 13, 3) := by decide +kernel
theorem dL_suits_294 : decode cL_suits 294 = .ok (.iload 14, 2) := by decide +kernel
theorem dL_suits_296 : decode cL_suits 296 = .ok (.iload 10, 2) := by decide +kernel
theorem dL_suits_298 : decode cL_suits 298 = .ok (.ifCond .ne 8, 3) := by decide +kernel
theorem dL_suits_301 : decode cL_suits 301 = .ok (.iload 11, 2) := by decide +kernel
theorem dL_suits_303 : decode cL_suits 303 = .ok (.ifCond .le 7, 3) := by decide +kernel
theorem dL_suits_306 : decode cL_suits 306 = .ok (.iconst 0, 1) := by decide +kernel
theorem dL_suits_307 : decode cL_suits 307 = .ok (.goto 4, 3) := by decide +kernel
theorem dL_suits_310 : decode cL_suits 310 = .ok (.iconst 1, 1) := by decide +kernel
theorem dL_suits_311 : decode cL_suits 311 = .ok (.iadd, 1) := by decide +kernel
theorem dL_suits_312 : decode cL_suits 312 = .ok (.if_icmp .ne 34, 3) := by decide +kernel
theorem dL_suits_315 : decode cL_suits 315 = .ok (.aload_n 0, 1) := by decide +kernel
theorem dL_suits_316 : decode cL_suits 316 = .ok (.iconst 3, 1) := by decide +kernel
theorem dL_suits_317 : decode cL_suits 317 = .ok (.invokevirtual 13, 3) := by decide +kernel
theorem dL_suits_320 : decode cL_suits 320 = .ok (.iload 15, 2) := by decide +kernel
theorem dL_suits_322 : decode cL_suits 322 = .ok (.iload 16, 2) := by decide +kernel
theorem dL_suits_324 : decode cL_suits 324 = .ok (.bipush 10, 2) := by decide +kernel
theorem dL_suits_326 : decode cL_suits 326 = .ok (.if_icmp .lt 11, 3) := by decide +kernel
theorem dL_suits_329 : decode cL_suits 329 = .ok (.iload 16, 2) := by decide +kernel
theorem dL_suits_331 : decode cL_suits 331 = .ok (.bipush 10, 2) := by decide +kernel
theorem dL_suits_333 : decode cL_suits 333 = .ok (.isub, 1) := by decide +kernel
theorem dL_suits_334 : decode cL_suits 334 = .ok (.goto 4, 3) := by decide +kernel
theorem dL_suits_337 : decode cL_suits 337 = .ok (.iconst 0, 1) := by decide +kernel
theorem dL_suits_338 : decode cL_suits 338 = .ok (.isub, 1) := by decide +kernel
theorem dL_suits_339 : decode cL_suits 339 = .ok (.if_icmp .ne 7, 3) := by decide +kernel
theorem dL_suits_342 : decode cL_suits 342 = .ok (.iconst 1, 1) := by decide +kernel
theorem dL_suits_343 : decode cL_suits 343 = .ok (.goto 4, 3) := by decide +kernel
theorem dL_suits_346 : decode cL_suits 346 = .ok (.iconst 0, 1) := by decide +kernel
theorem dL_suits_347 : decode cL_suits 347 = .ok (.ireturn, 1) := by decide +kernel
theorem dL_suits_348 : decode cL_suits 348 = .ok (.iload_n 1, 1) := by decide +kernel
theorem dL_suits_349 : decode cL_suits 349 = .ok (.iconst 1, 1) := by decide +kernel
theorem dL_suits_350 : decode cL_suits 350 = .ok (.if_icmp .ne 109, 3) := by decide +kernel
theorem dL_suits_353 : decode cL_suits 353 = .ok (.iload_n 2, 1) := by decide +kernel
theorem dL_suits_354 : decode cL_suits 354 = .ok (.iconst 3, 1) := by decide +kernel
theorem dL_suits_355 : decode cL_suits 355 = .ok (.ishr, 1) := by decide +kernel
theorem dL_suits_356 : decode cL_suits 356 = .ok (.iload_n 2, 1) := by decide +kernel
theorem dL_suits_357 : decode cL_suits 357 = .ok (.bipush 9, 2) := by decide +kernel
theorem dL_suits_359 : decode cL_suits 359 = .ok (.ishr, 1) := by decide +kernel
theorem dL_suits_360 : decode cL_suits 360 = .ok (.iconst 3, 1) := by decide +kernel
theorem dL_suits_361 : decode cL_suits 361 = .ok (.invokestatic 56, 3) := by decide +kernel
theorem dL_suits_364 : decode cL_suits 364 = .ok (.ifCond .ne 8, 3) := by decide +kernel
theorem dL_suits_367 : decode cL_suits 367 = .ok (.bipush 32, 2) := by decide +kernel
theorem dL_suits_369 : decode cL_suits 369 = .ok (.goto 4, 3) := by decide +kernel
theorem dL_suits_372 : decode cL_suits 372 = .ok (.iconst 4, 1) := by decide +kernel
theorem dL_suits_373 : decode cL_suits 373 = .ok (.invokestatic 56, 3) := by decide +kernel
theorem dL_suits_376 : decode cL_suits 376 = .ok (.istore 8, 2) := by decide +kernel
theorem dL_suits_378 : decode cL_suits 378 = .ok (.iload 5, 2) := by decide +kernel
theorem dL_suits_380 : decode cL_suits 380 = .ok (.ifCond .ne 10, 3) := by decide +kernel
theorem dL_suits_383 : decode cL_suits 383 = .ok (.iload 8, 2) := by decide +kernel
theorem dL_suits_385 : decode cL_suits 385 = .ok (.bipush 31, 2) := by decide +kernel
theorem dL_suits_387 : decode cL_suits 387 = .ok (.if_icmp .ne 7, 3) := by decide +kernel
theorem dL_suits_390 : decode cL_suits 390 = .ok (.iconst 1, 1) := by decide +kernel
theorem dL_suits_391 : decode cL_suits 391 = .ok (.goto 4, 3) := by decide +kernel
theorem dL_suits_394 : decode cL_suits 394 = .ok (.iconst 0, 1) := by decide +kernel
theorem dL_suits_395 : decode cL_suits 395 = .ok (.istore 9, 2) := by decide +kernel
theorem dL_suits_397 : decode cL_suits 397 = .ok (.aload_n 0, 1) := by decide +kernel
theorem dL_suits_398 : decode cL_suits 398 = .ok (.iload 4, 2) := by decide +kernel
theorem dL_suits_400 : decode cL_suits 400 = .ok (.iload 8, 2) := by decide +kernel
theorem dL_suits_402 : decode cL_suits 402 = .ok (.invokevirtual 99, 3) := by decide +kernel
theorem dL_suits_405 : decode cL_suits 405 = .ok (.iload 9, 2) := by decide +kernel
theorem dL_suits_407 : decode cL_suits 407 = .ok (.ifCond .eq 7, 3) := by decide +kernel
theorem dL_suits_410 : decode cL_suits 410 = .ok (.iconst (-1), 1) := by decide +kernel
theorem dL_suits_411 : decode cL_suits 411 = .ok (.goto 5, 3) := by decide +kernel
theorem dL_suits_414 : decode cL_suits 414 = .ok (.iload 7, 2) := by decide +kernel
theorem dL_suits_416 : decode cL_suits 416 = .ok (.if_icmp .ne 41, 3) := by decide +kernel
theorem dL_suits_419 : decode cL_suits 419 = .ok (.iload 5, 2) := by decide +kernel
theorem dL_suits_421 : decode cL_suits 421 = .ok (.ifCond .ne 32, 3) := by decide +kernel
theorem dL_suits_424 : decode cL_suits 424 = .ok (.aload_n 0, 1) := by decide +kernel
theorem dL_suits_425 : decode cL_suits 425 = .ok (.iload 4, 2) := by decide +kernel
theorem dL_suits_427 : decode cL_suits 427 = .ok (.bipush 8, 2) := by decide +kernel
theorem dL_suits_429 : decode cL_suits 429 = .ok (.invokevirtual 19, 3) := by decide +kernel
theorem dL_suits_432 : decode cL_suits 432 = .ok (.iload 9, 2) := by decide +kernel
theorem dL_suits_434 : decode cL_suits 434 = .ok (.ifCond .eq 8, 3) := by decide +kernel
theorem dL_suits_437 : decode cL_suits 437 = .ok (.iload 7, 2) := by decide +kernel
theorem dL_suits_439 : decode cL_suits 439 = .ok (.goto 11, 3) := by decide +kernel
theorem dL_suits_442 : decode cL_suits 442 = .ok (.aload_n 0, 1) := by decide +kernel
theorem dL_suits_443 : decode cL_suits 443 = .ok (.iconst 0, 1) := by decide +kernel
theorem dL_suits_444 : decode cL_suits 444 = .ok (.invokevirtual 13, 3) := by decide +kernel
theorem dL_suits_447 : decode cL_suits 447 = .ok (.iload 8, 2) := by decide +kernel
theorem dL_suits_449 : decode cL_suits 449 = .ok (.iadd, 1) := by decide +kernel
theorem dL_suits_450 : decode cL_suits 450 = .ok (.if_icmp .ne 7, 3) := by decide +kernel
theorem dL_suits_453 : decode cL_suits 453 = .ok (.iconst 1, 1) := by decide +kernel
theorem dL_suits_454 : decode cL_suits 454 = .ok (.goto 4, 3) := by decide +kernel
theorem dL_suits_457 : decode cL_suits 457 = .ok (.iconst 0, 1) := by decide +kernel
theorem dL_suits_458 : decode cL_suits 458 = .ok (.ireturn, 1) := by decide +kernel
theorem dL_suits_459 : decode cL_suits 459 = .ok (.aload_n 0, 1) := by decide +kernel
theorem dL_suits_460 : decode cL_suits 460 = .ok (.iload 4, 2) := by decide +kernel
theorem dL_suits_462 : decode cL_suits 462 = .ok (.invokevirtual 102, 3) := by decide +kernel
theorem dL_suits_465 : decode cL_suits 465 = .ok (.iload 5, 2) := by decide +kernel
theorem dL_suits_467 : decode cL_suits 467 = .ok (.ifCond .eq 7, 3) := by decide +kernel
theorem dL_suits_470 : decode cL_suits 470 = .ok (.iconst (-1), 1) := by decide +kernel
theorem dL_suits_471 : decode cL_suits 471 = .ok (.goto 6, 3) := by decide +kernel
theorem dL_suits_474 : decode cL_suits 474 = .ok (.iload_n 3, 1) := by decide +kernel
theorem dL_suits_475 : decode cL_suits 475 = .ok (.iconst 1, 1) := by decide +kernel
theorem dL_suits_476 : decode cL_suits 476 = .ok (.isub, 1) := by decide +kernel
theorem dL_suits_477 : decode cL_suits 477 = .ok (.if_icmp .ne 27, 3) := by decide +kernel
theorem dL_suits_480 : decode cL_suits 480 = .ok (.aload_n 0, 1) := by decide +kernel
theorem dL_suits_481 : decode cL_suits 481 = .ok (.iconst 1, 1) := by decide +kernel
theorem dL_suits_482 : decode cL_suits 482 = .ok (.invokevirtual 13, 3) := by decide +kernel
theorem dL_suits_485 : decode cL_suits 485 = .ok (.iload_n 3, 1) := by decide +kernel
theorem dL_suits_486 : decode cL_suits 486 = .ok (.iload 5, 2) := by decide +kernel
theorem dL_suits_488 : decode cL_suits 488 = .ok (.ifCond .eq 7, 3) := by decide +kernel
theorem dL_suits_491 : decode cL_suits 491 = .ok (.iconst 0, 1) := by decide +kernel
theorem dL_suits_492 : decode cL_suits 492 = .ok (.goto 4, 3) := by decide +kernel
theorem dL_suits_495 : decode cL_suits 495 = .ok (.iconst 1, 1) := by decide +kernel
theorem dL_suits_496 : decode cL_suits 496 = .ok (.isub, 1) := by decide +kernel
theorem dL_suits_497 : decode cL_suits 497 = .ok (.if_icmp .ne 7, 3) := by decide +kernel
theorem dL_suits_500 : decode cL_suits 500 = .ok (.iconst 1, 1) := by decide +kernel
theorem dL_suits_501 : decode cL_suits 501 = .ok (.goto 4, 3) := by decide +kernel
theorem dL_suits_504 : decode cL_suits 504 = .ok (.iconst 0, 1) := by decide +kernel
theorem dL_suits_505 : decode cL_suits 505 = .ok (.ireturn, 1) := by decide +kernel
theorem dL_acts_0 : decode cL_acts 0 = .ok (.iload_n 1, 1) := by decide +kernel
theorem dL_acts_1 : decode cL_acts 1 = .ok (.bipush 30, 2) := by decide +kernel
theorem dL_acts_3 : decode cL_acts 3 = .ok (.invokestatic 56, 3) := by decide +kernel
theorem dL_acts_6 : decode cL_acts 6 = .ok (.istore_n 3, 1) := by decide +kernel
theorem dL_acts_7 : decode cL_acts 7 = .ok (.aload_n 0, 1) := by decide +kernel
theorem dL_acts_8 : decode cL_acts 8 = .ok (.iconst 4, 1) := by decide +kernel
theorem dL_acts_9 : decode cL_acts 9 = .ok (.invokevirtual 13, 3) := by decide +kernel
theorem dL_acts_12 : decode cL_acts 12 = .ok (.istore 4, 2) := by decide +kernel
theorem dL_acts_14 : decode cL_acts 14 = .ok (.iload_n 3, 1) := by decide +kernel
theorem dL_acts_15 : decode cL_acts 15 = .ok (.iconst 5, 1) := by decide +kernel
theorem dL_acts_16 : decode cL_acts 16 = .ok (.if_icmp .ge 9, 3) := by decide +kernel
theorem dL_acts_19 : decode cL_acts 19 = .ok (.aload_n 0, 1) := by decide +kernel
theorem dL_acts_20 : decode cL_acts 20 = .ok (.iload_n 2, 1) := by decide +kernel
theorem dL_acts_21 : decode cL_acts 21 = .ok (.invokestatic 105, 3) := by decide +kernel
theorem dL_acts_24 : decode cL_acts 24 = .ok (.ireturn, 1) := by decide +kernel
theorem dL_acts_25 : decode cL_acts 25 = .ok (.iload_n 3, 1) := by decide +kernel
theorem dL_acts_26 : decode cL_acts 26 = .ok (.bipush 9, 2) := by decide +kernel
theorem dL_acts_28 : decode cL_acts 28 = .ok (.if_icmp .ge 324, 3) := by decide +kernel
theorem dL_acts_31 : decode cL_acts 31 = .ok (.iload_n 2, 1) := by decide +kernel
theorem dL_acts_32 : decode cL_acts 32 = .ok (.iload_n 2, 1) := by decide +kernel
theorem dL_acts_33 : decode cL_acts 33 = .ok (.bipush 14, 2) := by decide +kernel
theorem dL_acts_35 : decode cL_acts 35 = .ok (.ishr, 1) := by decide +kernel
theorem dL_acts_36 : decode cL_acts 36 = .ok (.bipush 7, 2) := by decide +kernel
theorem dL_acts_38 : decode cL_acts 38 = .ok (.invokestatic 56, 3) := by decide +kernel
theorem dL_acts_41 : decode cL_acts 41 = .ok (.ifCond .ne 8, 3) := by decide +kernel
theorem dL_acts_44 : decode cL_acts 44 = .ok (.bipush 7, 2) := by decide +kernel
theorem dL_acts_46 : decode cL_acts 46 = .ok (.goto 4, 3) := by decide +kernel
theorem dL_acts_49 : decode cL_acts 49 = .ok (.iconst 5, 1) := by decide +kernel
theorem dL_acts_50 : decode cL_acts 50 = .ok (.invokestatic 56, 3) := by decide +kernel
theorem dL_acts_53 : decode cL_acts 53 = .ok (.istore 5, 2) := by decide +kernel
theorem dL_acts_55 : decode cL_acts 55 = .ok (.iload_n 2, 1) := by decide +kernel
theorem dL_acts_56 : decode cL_acts 56 = .ok (.iconst 3, 1) := by decide +kernel
theorem dL_acts_57 : decode cL_acts 57 = .ok (.ishr, 1) := by decide +kernel
theorem dL_acts_58 : decode cL_acts 58 = .ok (.iload_n 2, 1) := by decide +kernel
theorem dL_acts_59 : decode cL_acts 59 = .ok (.bipush 15, 2) := by decide +kernel
theorem dL_acts_61 : decode cL_acts 61 = .ok (.ishr, 1) := by decide +kernel
theorem dL_acts_62 : decode cL_acts 62 = .ok (.bipush 7, 2) := by decide +kernel
theorem dL_acts_64 : decode cL_acts 64 = .ok (.invokestatic 56, 3) := by decide +kernel
theorem dL_acts_67 : decode cL_acts 67 = .ok (.ifCond .ne 8, 3) := by decide +kernel
theorem dL_acts_70 : decode cL_acts 70 = .ok (.bipush 7, 2) := by decide +kernel
theorem dL_acts_72 : decode cL_acts 72 = .ok (.goto 4, 3) := by decide +kernel
theorem dL_acts_75 : decode cL_acts 75 = .ok (.iconst 5, 1) := by decide +kernel
theorem dL_acts_76 : decode cL_acts 76 = .ok (.invokestatic 56, 3) := by decide +kernel
theorem dL_acts_79 : decode cL_acts 79 = .ok (.istore 6, 2) := by decide +kernel
theorem dL_acts_81 : decode cL_acts 81 = .ok (.iload_n 2, 1) := by decide +kernel
theorem dL_acts_82 : decode cL_acts 82 = .ok (.bipush 6, 2) := by decide +kernel
theorem dL_acts_84 : decode cL_acts 84 = .ok (.ishr, 1) := by decide +kernel
theorem dL_acts_85 : decode cL_acts 85 = .ok (.bipush 22, 2) := by decide +kernel
theorem dL_acts_87 : decode cL_acts 87 = .ok (.invokestatic 56, 3) := by decide +kernel
theorem dL_acts_90 : decode cL_acts 90 = .ok (.istore 7, 2) := by decide +kernel
theorem dL_acts_92 : decode cL_acts 92 = .ok (.iload_n 2, 1) := by decide +kernel
theorem dL_acts_93 : decode cL_acts 93 = .ok (.bipush 10, 2) := by decide +kernel
theorem dL_acts_95 : decode cL_acts 95 = .ok (.ishr, 1) := by decide +kernel
theorem dL_acts_96 : decode cL_acts 96 = .ok (.iload 4, 2) := by decide +kernel
theorem dL_acts_98 : decode cL_acts 98 = .ok (.iconst 3, 1) := by decide +kernel
theorem dL_acts_99 : decode cL_acts 99 = .ok (.iadd, 1) := by decide +kernel
theorem dL_acts_100 : decode cL_acts 100 = .ok (.invokestatic 56, 3) := by decide +kernel
theorem dL_acts_103 : decode cL_acts 103 = .ok (.iconst 2, 1) := by decide +kernel
theorem dL_acts_104 : decode cL_acts 104 = .ok (.isub, 1) := by decide +kernel
theorem dL_acts_105 : decode cL_acts 105 = .ok (.istore 8, 2) := by decide +kernel
theorem dL_acts_107 : decode cL_acts 107 = .ok (.iload_n 2, 1) := by decide +kernel
theorem dL_acts_108 : decode cL_acts 108 = .ok (.bipush 9, 2) := by decide +kernel
theorem dL_acts_110 : decode cL_acts 110 = .ok (.ishr, 1) := by decide +kernel
theorem dL_acts_111 : decode cL_acts 111 = .ok (.iconst 2, 1) := by decide +kernel
theorem dL_acts_112 : decode cL_acts 112 = .ok (.invokestatic 56, 3) := by decide +kernel
theorem dL_acts_115 : decode cL_acts 115 = .ok (.ifCond .ne 7, 3) := by decide +kernel
theorem dL_acts_118 : decode cL_acts 118 = .ok (.iconst 1, 1) := by decide +kernel
theorem dL_acts_119 : decode cL_acts 119 = .ok (.goto 4, 3) := by decide +kernel
theorem dL_acts_122 : decode cL_acts 122 = .ok (.iconst 0, 1) := by decide +kernel
theorem dL_acts_123 : decode cL_acts 123 = .ok (.istore 9, 2) := by decide +kernel
theorem dL_acts_125 : decode cL_acts 125 = .ok (.iload 5, 2) := by decide +kernel
theorem dL_acts_127 : decode cL_acts 127 = .ok (.bipush 6, 2) := by decide +kernel
theorem dL_acts_129 : decode cL_acts 129 = .ok (.if_icmp .eq 36, 3) := by decide +kernel
theorem dL_acts_132 : decode cL_acts 132 = .ok (.iload 6, 2) := by decide +kernel
theorem dL_acts_134 : decode cL_acts 134 = .ok (.bipush 6, 2) := by decide +kernel
theorem dL_acts_136 : decode cL_acts 136 = .ok (.if_icmp .eq 29, 3) := by decide +kernel
theorem dL_acts_139 : decode cL_acts 139 = .ok (.iload 7, 2) := by decide +kernel
theorem dL_acts_141 : decode cL_acts 141 = .ok (.ifCond .eq 24, 3) := by decide +kernel
theorem dL_acts_144 : decode cL_acts 144 = .ok (.iload 7, 2) := by decide +kernel
theorem dL_acts_146 : decode cL_acts 146 = .ok (.bipush 21, 2) := by decide +kernel
theorem dL_acts_148 : decode cL_acts 148 = .ok (.if_icmp .eq 17, 3) := by decide +kernel
theorem dL_acts_151 : decode cL_acts 151 = .ok (.iload 8, 2) := by decide +kernel
theorem dL_acts_153 : decode cL_acts 153 = .ok (.bipush (-2), 2) := by decide +kernel
theorem dL_acts_155 : decode cL_acts 155 = .ok (.if_icmp .eq 10, 3) := by decide +kernel
theorem dL_acts_158 : decode cL_acts 158 = .ok (.iload 8, 2) := by decide +kernel
theorem dL_acts_160 : decode cL_acts 160 = .ok (.iload 4, 2) := by decide +kernel
theorem dL_acts_162 : decode cL_acts 162 = .ok (.if_icmp .ne 7, 3) := by decide +kernel
theorem dL_acts_165 : decode cL_acts 165 = .ok (.iconst 1, 1) := by decide +kernel
theorem dL_acts_166 : decode cL_acts 166 = .ok (.goto 4, 3) := by decide +kernel
theorem dL_acts_169 : decode cL_acts 169 = .ok (.iconst 0, 1) := by decide +kernel
theorem dL_acts_170 : decode cL_acts 170 = .ok (.istore 10, 2) := by decide +kernel
theorem dL_acts_172 : decode cL_acts 172 = .ok (.aload_n 0, 1) := by decide +kernel
theorem dL_acts_173 : decode cL_acts 173 = .ok (.iload 5, 2) := by decide +kernel
theorem dL_acts_175 : decode cL_acts 175 = .ok (.iload 6, 2) := by decide +kernel
theorem dL_acts_177 : decode cL_acts 177 = .ok (.iload 9, 2) := by decide +kernel
theorem dL_acts_179 : decode cL_acts 179 = .ok (.iload 7, 2) := by decide +kernel
theorem dL_acts_181 : decode cL_acts 181 = .ok (.iload 8, 2) := by decide +kernel
theorem dL_acts_183 : decode cL_acts 183 = .ok (.invokevirtual 108, 3) := by decide +kernel
theorem dL_acts_186 : decode cL_acts 186 = .ok (.istore 11, 2) := by decide +kernel
theorem dL_acts_188 : decode cL_acts 188 = .ok (.iload 11, 2) := by decide +kernel
theorem dL_acts_190 : decode cL_acts 190 = .ok (.iload 10, 2) := by decide +kernel
theorem dL_acts_192 : decode cL_acts 192 = .ok (.ifCond .eq 7, 3) := by decide +kernel
theorem dL_acts_195 : decode cL_acts 195 = .ok (.iconst (-1), 1) := by decide +kernel
theorem dL_acts_196 : decode cL_acts 196 = .ok (.goto 17, 3) := by decide +kernel
theorem dL_acts_199 : decode cL_acts 199 = .ok (.iload 4, 2) := by decide +kernel
theorem dL_acts_201 : decode cL_acts 201 = .ok (.bipush 10, 2) := by decide +kernel
theorem dL_acts_203 : decode cL_acts 203 = .ok (.if_icmp .ne 8, 3) := by decide +kernel
theorem dL_acts_206 : decode cL_acts 206 = .ok (.bipush (-3), 2) := by decide +kernel
theorem dL_acts_208 : decode cL_acts 208 = .ok (.goto 5, 3) := by decide +kernel
theorem dL_acts_211 : decode cL_acts 211 = .ok (.iload 4, 2) := by decide +kernel
theorem dL_acts_213 : decode cL_acts 213 = .ok (.if_icmp .ne 137, 3) := by decide +kernel
theorem dL_acts_216 : decode cL_acts 216 = .ok (.aload_n 0, 1) := by decide +kernel
theorem dL_acts_217 : decode cL_acts 217 = .ok (.iconst 4, 1) := by decide +kernel
theorem dL_acts_218 : decode cL_acts 218 = .ok (.invokevirtual 13, 3) := by decide +kernel
theorem dL_acts_221 : decode cL_acts 221 = .ok (.iload 4, 2) := by decide +kernel
theorem dL_acts_223 : decode cL_acts 223 = .ok (.iload 11, 2) := by decide +kernel
theorem dL_acts_225 : decode cL_acts 225 = .ok (.ifCond .ge 7, 3) := by decide +kernel
theorem dL_acts_228 : decode cL_acts 228 = .ok (.iconst 0, 1) := by decide +kernel
theorem dL_acts_229 : decode cL_acts 229 = .ok (.goto 4, 3) := by decide +kernel
theorem dL_acts_232 : decode cL_acts 232 = .ok (.iconst 1, 1) := by decide +kernel
theorem dL_acts_233 : decode cL_acts 233 = .ok (.iadd, 1) := by decide +kernel
theorem dL_acts_234 : decode cL_acts 234 = .ok (.if_icmp .ne 116, 3) := by decide +kernel
theorem dL_acts_237 : decode cL_acts 237 = .ok (.iload 11, 2) := by decide +kernel
theorem dL_acts_239 : decode cL_acts 239 = .ok (.ifCond .lt 107, 3) := by decide +kernel
theorem dL_acts_242 : decode cL_acts 242 = .ok (.aload_n 0, 1) := by decide +kernel
theorem dL_acts_243 : decode cL_acts 243 = .ok (.iload 11, 2) := by decide +kernel
theorem dL_acts_245 : decode cL_acts 245 = .ok (.iconst 0, 1) := by decide +kernel
theorem dL_acts_246 : decode cL_acts 246 = .ok (.invokevirtual 26, 3) := by decide +kernel
theorem dL_acts_249 : decode cL_acts 249 = .ok (.iload 5, 2) := by decide +kernel
theorem dL_acts_251 : decode cL_acts 251 = .ok (.if_icmp .ne 99, 3) := by decide +kernel
theorem dL_acts_254 : decode cL_acts 254 = .ok (.aload_n 0, 1) := by decide +kernel
theorem dL_acts_255 : decode cL_acts 255 = .ok (.iload 11, 2) := by decide +kernel
theorem dL_acts_257 : decode cL_acts 257 = .ok (.iconst 1, 1) := by decide +kernel
theorem dL_acts_258 : decode cL_acts 258 = .ok (.invokevirtual 26, 3) := by decide +kernel
theorem dL_acts_261 : decode cL_acts 261 = .ok (.iload 6, 2) := by decide +kernel
theorem dL_acts_263 : decode cL_acts 263 = .ok (.if_icmp .ne 87, 3) := by decide +kernel
theorem dL_acts_266 : decode cL_acts 266 = .ok (.aload_n 0, 1) := by decide +kernel
theorem dL_acts_267 : decode cL_acts 267 = .ok (.iload 11, 2) := by decide +kernel
theorem dL_acts_269 : decode cL_acts 269 = .ok (.iconst 2, 1) := by decide +kernel
theorem dL_acts_270 : decode cL_acts 270 = .ok (.invokevirtual 26, 3) := by decide +kernel
theorem dL_acts_273 : decode cL_acts 273 = .ok (.iload 9, 2) := by decide +kernel
theorem dL_acts_275 : decode cL_acts 275 = .ok (.ifCond .eq 7, 3) := by decide +kernel
theorem dL_acts_278 : decode cL_acts 278 = .ok (.iconst 1, 1) := by decide +kernel
theorem dL_acts_279 : decode cL_acts 279 = .ok (.goto 4, 3) := by decide +kernel
theorem dL_acts_282 : decode cL_acts 282 = .ok (.iconst 0, 1) := by decide +kernel
theorem dL_acts_283 : decode cL_acts 283 = .ok (.if_icmp .ne 67, 3) := by decide +kernel
theorem dL_acts_286 : decode cL_acts 286 = .ok (.aload_n 0, 1) := by decide +kernel
theorem dL_acts_287 : decode cL_acts 287 = .ok (.iload 11, 2) := by decide +kernel
theorem dL_acts_289 : decode cL_acts 289 = .ok (.iconst 3, 1) := by decide +kernel
theorem dL_acts_290 : decode cL_acts 290 = .ok (.invokevirtual 26, 3) := by decide +kernel
theorem dL_acts_293 : decode cL_acts 293 = .ok (.iload 7, 2) := by decide +kernel
theorem dL_acts_295 : decode cL_acts 295 = .ok (.if_icmp .ne 55, 3) := by decide +kernel
theorem dL_acts_298 : decode cL_acts 298 = .ok (.aload_n 0, 1) := by decide +kernel
theorem dL_acts_299 : decode cL_acts 299 = .ok (.iload 11, 2) := by decide +kernel
theorem dL_acts_301 : decode cL_acts 301 = .ok (.iconst 4, 1) := by decide +kernel
theorem dL_acts_302 : decode cL_acts 302 = .ok (.invokevirtual 26, 3) := by decide +kernel
theorem dL_acts_305 : decode cL_acts 305 = .ok (.iload 8, 2) := by decide +kernel
theorem dL_acts_307 : decode cL_acts 307 = .ok (.ifCond .ge 8, 3) := by decide +kernel
theorem dL_acts_310 : decode cL_acts 310 = .ok (.bipush (-4), 2) := by decide +kernel
theorem dL_acts_312 : decode cL_acts 312 = .ok (.goto 5, 3) := by decide +kernel
theorem dL_acts_315 : decode cL_acts 315 = .ok (.iload 8, 2) := by decide +kernel
theorem dL_acts_317 : decode cL_acts 317 = .ok (.if_icmp .ne 33, 3) := by decide +kernel
theorem dL_acts_320 : decode cL_acts 320 = .ok (.aload_n 0, 1) := by decide +kernel
theorem dL_acts_321 : decode cL_acts 321 = .ok (.iload 11, 2) := by decide +kernel
theorem dL_acts_323 : decode cL_acts 323 = .ok (.iconst 5, 1) := by decide +kernel
theorem dL_acts_324 : decode cL_acts 324 = .ok (.invokevirtual 26, 3) := by decide +kernel
theorem dL_acts_327 : decode cL_acts 327 = .ok (.iload 8, 2) := by decide +kernel
theorem dL_acts_329 : decode cL_acts 329 = .ok (.ifCond .ge 7, 3) := by decide +kernel
theorem dL_acts_332 : decode cL_acts 332 = .ok (.iconst 1, 1) := by decide +kernel
theorem dL_acts_333 : decode cL_acts 333 = .ok (.goto 10, 3) := by decide +kernel
theorem dL_acts_336 : decode cL_acts 336 = .ok (.aload_n 0, 1) := by decide +kernel
theorem dL_acts_337 : decode cL_acts 337 = .ok (.iload 8, 2) := by decide +kernel
theorem dL_acts_339 : decode cL_acts 339 = .ok (.iconst 5, 1) := by decide +kernel
theorem dL_acts_340 : decode cL_acts 340 = .ok (.invokevirtual 26, 3) := by decide +kernel
theorem dL_acts_343 : decode cL_acts 343 = .ok (.if_icmp .ne 7, 3) := by decide +kernel
theorem dL_acts_346 : decode cL_acts 346 = .ok (.iconst 1, 1) := by decide +kernel
theorem dL_acts_347 : decode cL_acts 347 = .ok (.goto 4, 3) := by decide +kernel
theorem dL_acts_350 : decode cL_acts 350 = .ok (.iconst 0, 1) := by decide +kernel
theorem dL_acts_351 : decode cL_acts 351 = .ok (.ireturn, 1) := by decide +kernel
theorem dL_acts_352 : decode cL_acts 352 = .ok (.iload_n 3, 1) := by decide +kernel
theorem dL_acts_353 : decode cL_acts 353 = .ok (.bipush 11, 2) := by decide +kernel
theorem dL_acts_355 : decode cL_acts 355 = .ok (.if_icmp .ge 135, 3) := by decide +kernel
theorem dL_acts_358 : decode cL_acts 358 = .ok (.iload_n 2, 1) := by decide +kernel
theorem dL_acts_359 : decode cL_acts 359 = .ok (.iload 4, 2) := by decide +kernel
theorem dL_acts_361 : decode cL_acts 361 = .ok (.iconst 1, 1) := by decide +kernel
theorem dL_acts_362 : decode cL_acts 362 = .ok (.iadd, 1) := by decide +kernel
theorem dL_acts_363 : decode cL_acts 363 = .ok (.invokestatic 56, 3) := by decide +kernel
theorem dL_acts_366 : decode cL_acts 366 = .ok (.istore 5, 2) := by decide +kernel
theorem dL_acts_368 : decode cL_acts 368 = .ok (.aload_n 0, 1) := by decide +kernel
theorem dL_acts_369 : decode cL_acts 369 = .ok (.iconst 5, 1) := by decide +kernel
theorem dL_acts_370 : decode cL_acts 370 = .ok (.invokevirtual 13, 3) := by decide +kernel
theorem dL_acts_373 : decode cL_acts 373 = .ok (.istore 6, 2) := by decide +kernel
theorem dL_acts_375 : decode cL_acts 375 = .ok (.iload 5, 2) := by decide +kernel
theorem dL_acts_377 : decode cL_acts 377 = .ok (.iload 4, 2) := by decide +kernel
theorem dL_acts_379 : decode cL_acts 379 = .ok (.if_icmp .ne 7, 3) := by decide +kernel
theorem dL_acts_382 : decode cL_acts 382 = .ok (.iconst 0, 1) := by decide +kernel
theorem dL_acts_383 : decode cL_acts 383 = .ok (.goto 10, 3) := by decide +kernel
theorem dL_acts_386 : decode cL_acts 386 = .ok (.aload_n 0, 1) := by decide +kernel
theorem dL_acts_387 : decode cL_acts 387 = .ok (.iload 5, 2) := by decide +kernel
theorem dL_acts_389 : decode cL_acts 389 = .ok (.iconst 5, 1) := by decide +kernel
theorem dL_acts_390 : decode cL_acts 390 = .ok (.invokevirtual 26, 3) := by decide +kernel
theorem dL_acts_393 : decode cL_acts 393 = .ok (.istore 7, 2) := by decide +kernel
theorem dL_acts_395 : decode cL_acts 395 = .ok (.aload_n 0, 1) := by decide +kernel
theorem dL_acts_396 : decode cL_acts 396 = .ok (.iload 5, 2) := by decide +kernel
theorem dL_acts_398 : decode cL_acts 398 = .ok (.invokevirtual 112, 3) := by decide +kernel
theorem dL_acts_401 : decode cL_acts 401 = .ok (.istore 8, 2) := by decide +kernel
theorem dL_acts_403 : decode cL_acts 403 = .ok (.iload 5, 2) := by decide +kernel
theorem dL_acts_405 : decode cL_acts 405 = .ok (.iload 4, 2) := by decide +kernel
theorem dL_acts_407 : decode cL_acts 407 = .ok (.if_icmp .ne 17, 3) := by decide +kernel
theorem dL_acts_410 : decode cL_acts 410 = .ok (.iload 8, 2) := by decide +kernel
theorem dL_acts_412 : decode cL_acts 412 = .ok (.iconst (-1), 1) := by decide +kernel
theorem dL_acts_413 : decode cL_acts 413 = .ok (.if_icmp .ne 7, 3) := by decide +kernel
theorem dL_acts_416 : decode cL_acts 416 = .ok (.iconst 1, 1) := by decide +kernel
theorem dL_acts_417 : decode cL_acts 417 = .ok (.goto 72, 3) := by decide +kernel
theorem dL_acts_420 : decode cL_acts 420 = .ok (.iconst 0, 1) := by decide +kernel
theorem dL_acts_421 : decode cL_acts 421 = .ok (.goto 68, 3) := by decide +kernel
theorem dL_acts_424 : decode cL_acts 424 = .ok (.iload 8, 2) := by decide +kernel
theorem dL_acts_426 : decode cL_acts 426 = .ok (.bipush (-2), 2) := by decide +kernel
theorem dL_acts_428 : decode cL_acts 428 = .ok (.if_icmp .ne 26, 3) := by decide +kernel
theorem dL_acts_431 : decode cL_acts 431 = .ok (.iload 7, 2) := by decide +kernel
theorem dL_acts_433 : decode cL_acts 433 = .ok (.ifCond .ne 17, 3) := by decide +kernel
theorem dL_acts_436 : decode cL_acts 436 = .ok (.aload_n 0, 1) := by decide +kernel
theorem dL_acts_437 : decode cL_acts 437 = .ok (.iconst 5, 1) := by decide +kernel
theorem dL_acts_438 : decode cL_acts 438 = .ok (.invokevirtual 13, 3) := by decide +kernel
theorem dL_acts_441 : decode cL_acts 441 = .ok (.iload 6, 2) := by decide +kernel
theorem dL_acts_443 : decode cL_acts 443 = .ok (.if_icmp .ne 7, 3) := by decide +kernel
theorem dL_acts_446 : decode cL_acts 446 = .ok (.iconst 1, 1) := by decide +kernel
theorem dL_acts_447 : decode cL_acts 447 = .ok (.goto 42, 3) := by decide +kernel
theorem dL_acts_450 : decode cL_acts 450 = .ok (.iconst 0, 1) := by decide +kernel
theorem dL_acts_451 : decode cL_acts 451 = .ok (.goto 38, 3) := by decide +kernel
theorem dL_acts_454 : decode cL_acts 454 = .ok (.iload 8, 2) := by decide +kernel
theorem dL_acts_456 : decode cL_acts 456 = .ok (.iload 7, 2) := by decide +kernel
theorem dL_acts_458 : decode cL_acts 458 = .ok (.if_icmp .lt 30, 3) := by decide +kernel
theorem dL_acts_461 : decode cL_acts 461 = .ok (.aload_n 0, 1) := by decide +kernel
theorem dL_acts_462 : decode cL_acts 462 = .ok (.iconst 5, 1) := by decide +kernel
theorem dL_acts_463 : decode cL_acts 463 = .ok (.invokevirtual 13, 3) := by decide +kernel
theorem dL_acts_466 : decode cL_acts 466 = .ok (.iload 6, 2) := by decide +kernel
theorem dL_acts_468 : decode cL_acts 468 = .ok (.iload 8, 2) := by decide +kernel
theorem dL_acts_470 : decode cL_acts 470 = .ok (.isub, 1) := by decide +kernel
theorem dL_acts_471 : decode cL_acts 471 = .ok (.if_icmp .ne 17, 3) := by decide +kernel
theorem dL_acts_474 : decode cL_acts 474 = .ok (.aload_n 0, 1) := by decide +kernel
theorem dL_acts_475 : decode cL_acts 475 = .ok (.iload 5, 2) := by decide +kernel
theorem dL_acts_477 : decode cL_acts 477 = .ok (.iconst 5, 1) := by decide +kernel
theorem dL_acts_478 : decode cL_acts 478 = .ok (.invokevirtual 26, 3) := by decide +kernel
theorem dL_acts_481 : decode cL_acts 481 = .ok (.ifCond .ne 7, 3) := by decide +kernel
theorem dL_acts_484 : decode cL_acts 484 = .ok (.iconst 1, 1) := by decide +kernel
theorem dL_acts_485 : decode cL_acts 485 = .ok (.goto 4, 3) := by decide +kernel
theorem dL_acts_488 : decode cL_acts 488 = .ok (.iconst 0, 1) := by decide +kernel
theorem dL_acts_489 : decode cL_acts 489 = .ok (.ireturn, 1) := by decide +kernel
theorem dL_acts_490 : decode cL_acts 490 = .ok (.iload_n 3, 1) := by decide +kernel
theorem dL_acts_491 : decode cL_acts 491 = .ok (.bipush 23, 2) := by decide +kernel
theorem dL_acts_493 : decode cL_acts 493 = .ok (.if_icmp .ge 30, 3) := by decide +kernel
theorem dL_acts_496 : decode cL_acts 496 = .ok (.aload_n 0, 1) := by decide +kernel
theorem dL_acts_497 : decode cL_acts 497 = .ok (.iload_n 3, 1) := by decide +kernel
theorem dL_acts_498 : decode cL_acts 498 = .ok (.bipush 20, 2) := by decide +kernel
theorem dL_acts_500 : decode cL_acts 500 = .ok (.if_icmp .ge 7, 3) := by decide +kernel
theorem dL_acts_503 : decode cL_acts 503 = .ok (.iconst 0, 1) := by decide +kernel
theorem dL_acts_504 : decode cL_acts 504 = .ok (.goto 14, 3) := by decide +kernel
theorem dL_acts_507 : decode cL_acts 507 = .ok (.iload_n 3, 1) := by decide +kernel
theorem dL_acts_508 : decode cL_acts 508 = .ok (.bipush 22, 2) := by decide +kernel
theorem dL_acts_510 : decode cL_acts 510 = .ok (.if_icmp .ge 7, 3) := by decide +kernel
theorem dL_acts_513 : decode cL_acts 513 = .ok (.iconst 1, 1) := by decide +kernel
theorem dL_acts_514 : decode cL_acts 514 = .ok (.goto 4, 3) := by decide +kernel
theorem dL_acts_517 : decode cL_acts 517 = .ok (.iconst 2, 1) := by decide +kernel
theorem dL_acts_518 : decode cL_acts 518 = .ok (.iload_n 2, 1) := by decide +kernel
theorem dL_acts_519 : decode cL_acts 519 = .ok (.invokestatic 115, 3) := by decide +kernel
theorem dL_acts_522 : decode cL_acts 522 = .ok (.ireturn, 1) := by decide +kernel
theorem dL_acts_523 : decode cL_acts 523 = .ok (.iload_n 3, 1) := by decide +kernel
theorem dL_acts_524 : decode cL_acts 524 = .ok (.bipush 23, 2) := by decide +kernel
theorem dL_acts_526 : decode cL_acts 526 = .ok (.if_icmp .ne 83, 3) := by decide +kernel
theorem dL_acts_529 : decode cL_acts 529 = .ok (.iload_n 2, 1) := by decide +kernel
theorem dL_acts_530 : decode cL_acts 530 = .ok (.bipush 7, 2) := by decide +kernel
theorem dL_acts_532 : decode cL_acts 532 = .ok (.invokestatic 56, 3) := by decide +kernel
theorem dL_acts_535 : decode cL_acts 535 = .ok (.istore 5, 2) := by decide +kernel
theorem dL_acts_537 : decode cL_acts 537 = .ok (.iload_n 2, 1) := by decide +kernel
theorem dL_acts_538 : decode cL_acts 538 = .ok (.iconst 3, 1) := by decide +kernel
theorem dL_acts_539 : decode cL_acts 539 = .ok (.ishr, 1) := by decide +kernel
theorem dL_acts_540 : decode cL_acts 540 = .ok (.bipush 11, 2) := by decide +kernel
theorem dL_acts_542 : decode cL_acts 542 = .ok (.invokestatic 56, 3) := by decide +kernel
theorem dL_acts_545 : decode cL_acts 545 = .ok (.istore 6, 2) := by decide +kernel
theorem dL_acts_547 : decode cL_acts 547 = .ok (.aload_n 0, 1) := by decide +kernel
theorem dL_acts_548 : decode cL_acts 548 = .ok (.iload 5, 2) := by decide +kernel
theorem dL_acts_550 : decode cL_acts 550 = .ok (.iload 6, 2) := by decide +kernel
theorem dL_acts_552 : decode cL_acts 552 = .ok (.invokevirtual 119, 3) := by decide +kernel
theorem dL_acts_555 : decode cL_acts 555 = .ok (.istore 7, 2) := by decide +kernel
theorem dL_acts_557 : decode cL_acts 557 = .ok (.iload 5, 2) := by decide +kernel
theorem dL_acts_559 : decode cL_acts 559 = .ok (.bipush 6, 2) := by decide +kernel
theorem dL_acts_561 : decode cL_acts 561 = .ok (.if_icmp .eq 15, 3) := by decide +kernel
theorem dL_acts_564 : decode cL_acts 564 = .ok (.iload 6, 2) := by decide +kernel
theorem dL_acts_566 : decode cL_acts 566 = .ok (.ifCond .eq 10, 3) := by decide +kernel
theorem dL_acts_569 : decode cL_acts 569 = .ok (.iload 6, 2) := by decide +kernel
theorem dL_acts_571 : decode cL_acts 571 = .ok (.bipush 10, 2) := by decide +kernel
theorem dL_acts_573 : decode cL_acts 573 = .ok (.if_icmp .ne 17, 3) := by decide +kernel
theorem dL_acts_576 : decode cL_acts 576 = .ok (.iload 7, 2) := by decide +kernel
theorem dL_acts_578 : decode cL_acts 578 = .ok (.iconst (-1), 1) := by decide +kernel
theorem dL_acts_579 : decode cL_acts 579 = .ok (.if_icmp .ne 7, 3) := by decide +kernel
theorem dL_acts_582 : decode cL_acts 582 = .ok (.iconst 1, 1) := by decide +kernel
theorem dL_acts_583 : decode cL_acts 583 = .ok (.goto 25, 3) := by decide +kernel
theorem dL_acts_586 : decode cL_acts 586 = .ok (.iconst 0, 1) := by decide +kernel
theorem dL_acts_587 : decode cL_acts 587 = .ok (.goto 21, 3) := by decide +kernel
theorem dL_acts_590 : decode cL_acts 590 = .ok (.iload 7, 2) := by decide +kernel
theorem dL_acts_592 : decode cL_acts 592 = .ok (.iconst 1, 1) := by decide +kernel
theorem dL_acts_593 : decode cL_acts 593 = .ok (.if_icmp .lt 14, 3) := by decide +kernel
theorem dL_acts_596 : decode cL_acts 596 = .ok (.iload 7, 2) := by decide +kernel
theorem dL_acts_598 : decode cL_acts 598 = .ok (.bipush 9, 2) := by decide +kernel
theorem dL_acts_600 : decode cL_acts 600 = .ok (.if_icmp .gt 7, 3) := by decide +kernel
theorem dL_acts_603 : decode cL_acts 603 = .ok (.iconst 1, 1) := by decide +kernel
theorem dL_acts_604 : decode cL_acts 604 = .ok (.goto 4, 3) := by decide +kernel
theorem dL_acts_607 : decode cL_acts 607 = .ok (.iconst 0, 1) := by decide +kernel
theorem dL_acts_608 : decode cL_acts 608 = .ok (.ireturn, 1) := by decide +kernel
theorem dL_acts_609 : decode cL_acts 609 = .ok (.iload_n 3, 1) := by decide +kernel
theorem dL_acts_610 : decode cL_acts 610 = .ok (.bipush 26, 2) := by decide +kernel
theorem dL_acts_612 : decode cL_acts 612 = .ok (.if_icmp .ge 152, 3) := by decide +kernel
theorem dL_acts_615 : decode cL_acts 615 = .ok (.iload_n 2, 1) := by decide +kernel
theorem dL_acts_616 : decode cL_acts 616 = .ok (.iconst 3, 1) := by decide +kernel
theorem dL_acts_617 : decode cL_acts 617 = .ok (.invokestatic 56, 3) := by decide +kernel
theorem dL_acts_620 : decode cL_acts 620 = .ok (.istore 5, 2) := by decide +kernel
theorem dL_acts_622 : decode cL_acts 622 = .ok (.iload_n 2, 1) := by decide +kernel
theorem dL_acts_623 : decode cL_acts 623 = .ok (.iconst 2, 1) := by decide +kernel
theorem dL_acts_624 : decode cL_acts 624 = .ok (.ishr, 1) := by decide +kernel
theorem dL_acts_625 : decode cL_acts 625 = .ok (.bipush 63, 2) := by decide +kernel
theorem dL_acts_627 : decode cL_acts 627 = .ok (.invokestatic 56, 3) := by decide +kernel
theorem dL_acts_630 : decode cL_acts 630 = .ok (.istore 6, 2) := by decide +kernel
theorem dL_acts_632 : decode cL_acts 632 = .ok (.iload 5, 2) := by decide +kernel
theorem dL_acts_634 : decode cL_acts 634 = .ok (.ifCond .ne 24, 3) := by decide +kernel
theorem dL_acts_637 : decode cL_acts 637 = .ok (.iload 6, 2) := by decide +kernel
theorem dL_acts_639 : decode cL_acts 639 = .ok (.iconst 1, 1) := by decide +kernel
theorem dL_acts_640 : decode cL_acts 640 = .ok (.if_icmp .lt 10, 3) := by decide +kernel
theorem dL_acts_643 : decode cL_acts 643 = .ok (.iload 6, 2) := by decide +kernel
theorem dL_acts_645 : decode cL_acts 645 = .ok (.bipush 30, 2) := by decide +kernel
theorem dL_acts_647 : decode cL_acts 647 = .ok (.if_icmp .le 7, 3) := by decide +kernel
theorem dL_acts_650 : decode cL_acts 650 = .ok (.iconst 1, 1) := by decide +kernel
theorem dL_acts_651 : decode cL_acts 651 = .ok (.goto 32, 3) := by decide +kernel
theorem dL_acts_654 : decode cL_acts 654 = .ok (.iconst 0, 1) := by decide +kernel
theorem dL_acts_655 : decode cL_acts 655 = .ok (.goto 28, 3) := by decide +kernel
theorem dL_acts_658 : decode cL_acts 658 = .ok (.iload 5, 2) := by decide +kernel
theorem dL_acts_660 : decode cL_acts 660 = .ok (.iconst 2, 1) := by decide +kernel
theorem dL_acts_661 : decode cL_acts 661 = .ok (.if_icmp .eq 17, 3) := by decide +kernel
theorem dL_acts_664 : decode cL_acts 664 = .ok (.iload 6, 2) := by decide +kernel
theorem dL_acts_666 : decode cL_acts 666 = .ok (.bipush 9, 2) := by decide +kernel
theorem dL_acts_668 : decode cL_acts 668 = .ok (.if_icmp .lt 10, 3) := by decide +kernel
theorem dL_acts_671 : decode cL_acts 671 = .ok (.iload 6, 2) := by decide +kernel
theorem dL_acts_673 : decode cL_acts 673 = .ok (.bipush 60, 2) := by decide +kernel
theorem dL_acts_675 : decode cL_acts 675 = .ok (.if_icmp .le 7, 3) := by decide +kernel
theorem dL_acts_678 : decode cL_acts 678 = .ok (.iconst 1, 1) := by decide +kernel
theorem dL_acts_679 : decode cL_acts 679 = .ok (.goto 4, 3) := by decide +kernel
theorem dL_acts_682 : decode cL_acts 682 = .ok (.iconst 0, 1) := by decide +kernel
theorem dL_acts_683 : decode cL_acts 683 = .ok (.istore 7, 2) := by decide +kernel
theorem dL_acts_685 : decode cL_acts 685 = .ok (.iload 5, 2) := by decide +kernel
theorem dL_acts_687 : decode cL_acts 687 = .ok (.iconst 2, 1) := by decide +kernel
theorem dL_acts_688 : decode cL_acts 688 = .ok (.if_icmp .ne 7, 3) := by decide +kernel
theorem dL_acts_691 : decode cL_acts 691 = .ok (.iconst 0, 1) := by decide +kernel
theorem dL_acts_692 : decode cL_acts 692 = .ok (.goto 12, 3) := by decide +kernel
theorem dL_acts_695 : decode cL_acts 695 = .ok (.aload_n 0, 1) := by decide +kernel
theorem dL_acts_696 : decode cL_acts 696 = .ok (.bipush 10, 2) := by decide +kernel
theorem dL_acts_698 : decode cL_acts 698 = .ok (.iload 5, 2) := by decide +kernel
theorem dL_acts_700 : decode cL_acts 700 = .ok (.iadd, 1) := by decide +kernel
theorem dL_acts_701 : decode cL_acts 701 = .ok (.invokevirtual 13, 3) := by decide +kernel
theorem dL_acts_704 : decode cL_acts 704 = .ok (.istore 8, 2) := by decide +kernel
theorem dL_acts_706 : decode cL_acts 706 = .ok (.aload_n 0, 1) := by decide +kernel
theorem dL_acts_707 : decode cL_acts 707 = .ok (.iload 5, 2) := by decide +kernel
theorem dL_acts_709 : decode cL_acts 709 = .ok (.iload 6, 2) := by decide +kernel
theorem dL_acts_711 : decode cL_acts 711 = .ok (.invokevirtual 122, 3) := by decide +kernel
theorem dL_acts_714 : decode cL_acts 714 = .ok (.iload 7, 2) := by decide +kernel
theorem dL_acts_716 : decode cL_acts 716 = .ok (.ifCond .eq 7, 3) := by decide +kernel
theorem dL_acts_719 : decode cL_acts 719 = .ok (.iconst (-1), 1) := by decide +kernel
theorem dL_acts_720 : decode cL_acts 720 = .ok (.goto 5, 3) := by decide +kernel
theorem dL_acts_723 : decode cL_acts 723 = .ok (.iload 8, 2) := by decide +kernel
theorem dL_acts_725 : decode cL_acts 725 = .ok (.if_icmp .ne 37, 3) := by decide +kernel
theorem dL_acts_728 : decode cL_acts 728 = .ok (.iload 5, 2) := by decide +kernel
theorem dL_acts_730 : decode cL_acts 730 = .ok (.iconst 2, 1) := by decide +kernel
theorem dL_acts_731 : decode cL_acts 731 = .ok (.if_icmp .eq 27, 3) := by decide +kernel
theorem dL_acts_734 : decode cL_acts 734 = .ok (.aload_n 0, 1) := by decide +kernel
theorem dL_acts_735 : decode cL_acts 735 = .ok (.bipush 10, 2) := by decide +kernel
theorem dL_acts_737 : decode cL_acts 737 = .ok (.iload 5, 2) := by decide +kernel
theorem dL_acts_739 : decode cL_acts 739 = .ok (.iadd, 1) := by decide +kernel
theorem dL_acts_740 : decode cL_acts 740 = .ok (.invokevirtual 13, 3) := by decide +kernel
theorem dL_acts_743 : decode cL_acts 743 = .ok (.iload 7, 2) := by decide +kernel
theorem dL_acts_745 : decode cL_acts 745 = .ok (.ifCond .eq 8, 3) := by decide +kernel
theorem dL_acts_748 : decode cL_acts 748 = .ok (.iload 8, 2) := by decide +kernel
theorem dL_acts_750 : decode cL_acts 750 = .ok (.goto 5, 3) := by decide +kernel
theorem dL_acts_753 : decode cL_acts 753 = .ok (.iload 6, 2) := by decide +kernel
theorem dL_acts_755 : decode cL_acts 755 = .ok (.if_icmp .ne 7, 3) := by decide +kernel
theorem dL_acts_758 : decode cL_acts 758 = .ok (.iconst 1, 1) := by decide +kernel
theorem dL_acts_759 : decode cL_acts 759 = .ok (.goto 4, 3) := by decide +kernel
theorem dL_acts_762 : decode cL_acts 762 = .ok (.iconst 0, 1) := by decide +kernel
theorem dL_acts_763 : decode cL_acts 763 = .ok (.ireturn, 1) := by decide +kernel
theorem dL_acts_764 : decode cL_acts 764 = .ok (.iload_n 3, 1) := by decide +kernel
theorem dL_acts_765 : decode cL_acts 765 = .ok (.bipush 26, 2) := by decide +kernel
theorem dL_acts_767 : decode cL_acts 767 = .ok (.if_icmp .ne 39, 3) := by decide +kernel
theorem dL_acts_770 : decode cL_acts 770 = .ok (.aload_n 0, 1) := by decide +kernel
theorem dL_acts_771 : decode cL_acts 771 = .ok (.iconst 0, 1) := by decide +kernel
theorem dL_acts_772 : decode cL_acts 772 = .ok (.invokevirtual 13, 3) := by decide +kernel
theorem dL_acts_775 : decode cL_acts 775 = .ok (.istore 5, 2) := by decide +kernel
theorem dL_acts_777 : decode cL_acts 777 = .ok (.aload_n 0, 1) := by decide +kernel
theorem dL_acts_778 : decode cL_acts 778 = .ok (.invokevirtual 125, 3) := by decide +kernel
theorem dL_acts_781 : decode cL_acts 781 = .ok (.iload 5, 2) := by decide +kernel
theorem dL_acts_783 : decode cL_acts 783 = .ok (.iconst 1, 1) := by decide +kernel
theorem dL_acts_784 : decode cL_acts 784 = .ok (.iadd, 1) := by decide +kernel
theorem dL_acts_785 : decode cL_acts 785 = .ok (.if_icmp .ne 19, 3) := by decide +kernel
theorem dL_acts_788 : decode cL_acts 788 = .ok (.aload_n 0, 1) := by decide +kernel
theorem dL_acts_789 : decode cL_acts 789 = .ok (.iconst 0, 1) := by decide +kernel
theorem dL_acts_790 : decode cL_acts 790 = .ok (.invokevirtual 13, 3) := by decide +kernel
theorem dL_acts_793 : decode cL_acts 793 = .ok (.iload 5, 2) := by decide +kernel
theorem dL_acts_795 : decode cL_acts 795 = .ok (.iconst 1, 1) := by decide +kernel
theorem dL_acts_796 : decode cL_acts 796 = .ok (.iadd, 1) := by decide +kernel
theorem dL_acts_797 : decode cL_acts 797 = .ok (.if_icmp .ne 7, 3) := by decide +kernel
theorem dL_acts_800 : decode cL_acts 800 = .ok (.iconst 1, 1) := by decide +kernel
theorem dL_acts_801 : decode cL_acts 801 = .ok (.goto 4, 3) := by decide +kernel
theorem dL_acts_804 : decode cL_acts 804 = .ok (.iconst 0, 1) := by decide +kernel
theorem dL_acts_805 : decode cL_acts 805 = .ok (.ireturn, 1) := by decide +kernel
theorem dL_acts_806 : decode cL_acts 806 = .ok (.aload_n 0, 1) := by decide +kernel
theorem dL_acts_807 : decode cL_acts 807 = .ok (.iload_n 2, 1) := by decide +kernel
theorem dL_acts_808 : decode cL_acts 808 = .ok (.invokestatic 128, 3) := by decide +kernel
theorem dL_acts_811 : decode cL_acts 811 = .ok (.ireturn, 1) := by decide +kernel
theorem dL_law_0 : decode cL_law 0 = .ok (.new 14, 3) := by decide +kernel
theorem dL_law_3 : decode cL_law 3 = .ok (.dup, 1) := by decide +kernel
theorem dL_law_4 : decode cL_law 4 = .ok (.invokespecial 131, 3) := by decide +kernel
theorem dL_law_7 : decode cL_law 7 = .ok (.astore_n 1, 1) := by decide +kernel
theorem dL_law_8 : decode cL_law 8 = .ok (.aload_n 1, 1) := by decide +kernel
theorem dL_law_9 : decode cL_law 9 = .ok (.invokestatic 132, 3) := by decide +kernel
theorem dL_law_12 : decode cL_law 12 = .ok (.ifCond .eq 40, 3) := by decide +kernel
theorem dL_law_15 : decode cL_law 15 = .ok (.aload_n 1, 1) := by decide +kernel
theorem dL_law_16 : decode cL_law 16 = .ok (.iconst 0, 1) := by decide +kernel
theorem dL_law_17 : decode cL_law 17 = .ok (.invokestatic 135, 3) := by decide +kernel
theorem dL_law_20 : decode cL_law 20 = .ok (.ifCond .eq 32, 3) := by decide +kernel
theorem dL_law_23 : decode cL_law 23 = .ok (.aload_n 1, 1) := by decide +kernel
theorem dL_law_24 : decode cL_law 24 = .ok (.invokevirtual 138, 3) := by decide +kernel
theorem dL_law_27 : decode cL_law 27 = .ok (.bipush (-2), 2) := by decide +kernel
theorem dL_law_29 : decode cL_law 29 = .ok (.if_icmp .ne 23, 3) := by decide +kernel
theorem dL_law_32 : decode cL_law 32 = .ok (.aload_n 1, 1) := by decide +kernel
theorem dL_law_33 : decode cL_law 33 = .ok (.invokevirtual 141, 3) := by decide +kernel
theorem dL_law_36 : decode cL_law 36 = .ok (.bipush (-2), 2) := by decide +kernel
theorem dL_law_38 : decode cL_law 38 = .ok (.if_icmp .ne 14, 3) := by decide +kernel
theorem dL_law_41 : decode cL_law 41 = .ok (.aload_n 1, 1) := by decide +kernel
theorem dL_law_42 : decode cL_law 42 = .ok (.invokevirtual 144, 3) := by decide +kernel
theorem dL_law_45 : decode cL_law 45 = .ok (.ifCond .ne 7, 3) := by decide +kernel
theorem dL_law_48 : decode cL_law 48 = .ok (.iconst 1, 1) := by decide +kernel
theorem dL_law_49 : decode cL_law 49 = .ok (.goto 4, 3) := by decide +kernel
theorem dL_law_52 : decode cL_law 52 = .ok (.iconst 0, 1) := by decide +kernel
theorem dL_law_53 : decode cL_law 53 = .ok (.istore_n 2, 1) := by decide +kernel
theorem dL_law_54 : decode cL_law 54 = .ok (.aload_n 1, 1) := by decide +kernel
theorem dL_law_55 : decode cL_law 55 = .ok (.invokestatic 86, 3) := by decide +kernel
theorem dL_law_58 : decode cL_law 58 = .ok (.lstore_n 3, 1) := by decide +kernel
theorem dL_law_59 : decode cL_law 59 = .ok (.iconst 0, 1) := by decide +kernel
theorem dL_law_60 : decode cL_law 60 = .ok (.istore 5, 2) := by decide +kernel
theorem dL_law_62 : decode cL_law 62 = .ok (.iload 5, 2) := by decide +kernel
theorem dL_law_64 : decode cL_law 64 = .ok (.bipush 54, 2) := by decide +kernel
theorem dL_law_66 : decode cL_law 66 = .ok (.if_icmp .ge 325, 3) := by decide +kernel
theorem dL_law_69 : decode cL_law 69 = .ok (.iload_n 2, 1) := by decide +kernel
theorem dL_law_70 : decode cL_law 70 = .ok (.ifCond .eq 321, 3) := by decide +kernel
theorem dL_law_73 : decode cL_law 73 = .ok (.iload 5, 2) := by decide +kernel
theorem dL_law_75 : decode cL_law 75 = .ok (.iconst 3, 1) := by decide +kernel
theorem dL_law_76 : decode cL_law 76 = .ok (.if_icmp .ge 7, 3) := by decide +kernel
theorem dL_law_79 : decode cL_law 79 = .ok (.iconst 0, 1) := by decide +kernel
theorem dL_law_80 : decode cL_law 80 = .ok (.goto 11, 3) := by decide +kernel
theorem dL_law_83 : decode cL_law 83 = .ok (.aload_n 0, 1) := by decide +kernel
theorem dL_law_84 : decode cL_law 84 = .ok (.iconst 2, 1) := by decide +kernel
theorem dL_law_85 : decode cL_law 85 = .ok (.iload 5, 2) := by decide +kernel
theorem dL_law_87 : decode cL_law 87 = .ok (.imul, 1) := by decide +kernel
theorem dL_law_88 : decode cL_law 88 = .ok (.invokestatic 147, 3) := by decide +kernel
theorem dL_law_91 : decode cL_law 91 = .ok (.istore 6, 2) := by decide +kernel
theorem dL_law_93 : decode cL_law 93 = .ok (.aload_n 0, 1) := by decide +kernel
theorem dL_law_94 : decode cL_law 94 = .ok (.iconst 2, 1) := by decide +kernel
theorem dL_law_95 : decode cL_law 95 = .ok (.iload 5, 2) := by decide +kernel
theorem dL_law_97 : decode cL_law 97 = .ok (.imul, 1) := by decide +kernel
theorem dL_law_98 : decode cL_law 98 = .ok (.iconst 1, 1) := by decide +kernel
theorem dL_law_99 : decode cL_law 99 = .ok (.iadd, 1) := by decide +kernel
theorem dL_law_100 : decode cL_law 100 = .ok (.invokestatic 147, 3) := by decide +kernel
theorem dL_law_103 : decode cL_law 103 = .ok (.istore 7, 2) := by decide +kernel
theorem dL_law_105 : decode cL_law 105 = .ok (.aload_n 1, 1) := by decide +kernel
theorem dL_law_106 : decode cL_law 106 = .ok (.invokestatic 86, 3) := by decide +kernel
theorem dL_law_109 : decode cL_law 109 = .ok (.lstore 8, 2) := by decide +kernel
theorem dL_law_111 : decode cL_law 111 = .ok (.aload_n 1, 1) := by decide +kernel
theorem dL_law_112 : decode cL_law 112 = .ok (.bipush 14, 2) := by decide +kernel
theorem dL_law_114 : decode cL_law 114 = .ok (.invokevirtual 13, 3) := by decide +kernel
theorem dL_law_117 : decode cL_law 117 = .ok (.istore 10, 2) := by decide +kernel
theorem dL_law_119 : decode cL_law 119 = .ok (.aload_n 1, 1) := by decide +kernel
theorem dL_law_120 : decode cL_law 120 = .ok (.iload 6, 2) := by decide +kernel
theorem dL_law_122 : decode cL_law 122 = .ok (.iload 7, 2) := by decide +kernel
theorem dL_law_124 : decode cL_law 124 = .ok (.invokestatic 151, 3) := by decide +kernel
theorem dL_law_127 : decode cL_law 127 = .ok (.ifCond .eq 38, 3) := by decide +kernel
theorem dL_law_130 : decode cL_law 130 = .ok (.iload 5, 2) := by decide +kernel
theorem dL_law_132 : decode cL_law 132 = .ok (.iconst 5, 1) := by decide +kernel
theorem dL_law_133 : decode cL_law 133 = .ok (.irem, 1) := by decide +kernel
theorem dL_law_134 : decode cL_law 134 = .ok (.ifCond .gt 10, 3) := by decide +kernel
theorem dL_law_137 : decode cL_law 137 = .ok (.aload_n 1, 1) := by decide +kernel
theorem dL_law_138 : decode cL_law 138 = .ok (.invokestatic 132, 3) := by decide +kernel
theorem dL_law_141 : decode cL_law 141 = .ok (.ifCond .eq 24, 3) := by decide +kernel
theorem dL_law_144 : decode cL_law 144 = .ok (.iload 5, 2) := by decide +kernel
theorem dL_law_146 : decode cL_law 146 = .ok (.iconst 4, 1) := by decide +kernel
theorem dL_law_147 : decode cL_law 147 = .ok (.irem, 1) := by decide +kernel
theorem dL_law_148 : decode cL_law 148 = .ok (.iconst 2, 1) := by decide +kernel
theorem dL_law_149 : decode cL_law 149 = .ok (.if_icmp .ne 12, 3) := by decide +kernel
theorem dL_law_152 : decode cL_law 152 = .ok (.aload_n 1, 1) := by decide +kernel
theorem dL_law_153 : decode cL_law 153 = .ok (.iload 7, 2) := by decide +kernel
theorem dL_law_155 : decode cL_law 155 = .ok (.invokestatic 135, 3) := by decide +kernel
theorem dL_law_158 : decode cL_law 158 = .ok (.ifCond .eq 7, 3) := by decide +kernel
theorem dL_law_161 : decode cL_law 161 = .ok (.iconst 1, 1) := by decide +kernel
theorem dL_law_162 : decode cL_law 162 = .ok (.goto 4, 3) := by decide +kernel
theorem dL_law_165 : decode cL_law 165 = .ok (.iconst 0, 1) := by decide +kernel
theorem dL_law_166 : decode cL_law 166 = .ok (.istore_n 2, 1) := by decide +kernel
theorem dL_law_167 : decode cL_law 167 = .ok (.aload_n 1, 1) := by decide +kernel
theorem dL_law_168 : decode cL_law 168 = .ok (.bipush 14, 2) := by decide +kernel
theorem dL_law_170 : decode cL_law 170 = .ok (.invokevirtual 13, 3) := by decide +kernel
theorem dL_law_173 : decode cL_law 173 = .ok (.istore 11, 2) := by decide +kernel
theorem dL_law_175 : decode cL_law 175 = .ok (.iload_n 2, 1) := by decide +kernel
theorem dL_law_176 : decode cL_law 176 = .ok (.ifCond .eq 39, 3) := by decide +kernel
theorem dL_law_179 : decode cL_law 179 = .ok (.iload 11, 2) := by decide +kernel
theorem dL_law_181 : decode cL_law 181 = .ok (.iload 10, 2) := by decide +kernel
theorem dL_law_183 : decode cL_law 183 = .ok (.if_icmp .ne 19, 3) := by decide +kernel
theorem dL_law_186 : decode cL_law 186 = .ok (.iload 10, 2) := by decide +kernel
theorem dL_law_188 : decode cL_law 188 = .ok (.iconst 4, 1) := by decide +kernel
theorem dL_law_189 : decode cL_law 189 = .ok (.if_icmp .eq 22, 3) := by decide +kernel
theorem dL_law_192 : decode cL_law 192 = .ok (.aload_n 1, 1) := by decide +kernel
theorem dL_law_193 : decode cL_law 193 = .ok (.invokestatic 86, 3) := by decide +kernel
theorem dL_law_196 : decode cL_law 196 = .ok (.lload 8, 2) := by decide +kernel
theorem dL_law_198 : decode cL_law 198 = .ok (.lcmp, 1) := by decide +kernel
theorem dL_law_199 : decode cL_law 199 = .ok (.ifCond .eq 12, 3) := by decide +kernel
theorem dL_law_202 : decode cL_law 202 = .ok (.iload 11, 2) := by decide +kernel
theorem dL_law_204 : decode cL_law 204 = .ok (.iload 10, 2) := by decide +kernel
theorem dL_law_206 : decode cL_law 206 = .ok (.iconst 1, 1) := by decide +kernel
theorem dL_law_207 : decode cL_law 207 = .ok (.iadd, 1) := by decide +kernel
theorem dL_law_208 : decode cL_law 208 = .ok (.if_icmp .ne 7, 3) := by decide +kernel
theorem dL_law_211 : decode cL_law 211 = .ok (.iconst 1, 1) := by decide +kernel
theorem dL_law_212 : decode cL_law 212 = .ok (.goto 4, 3) := by decide +kernel
theorem dL_law_215 : decode cL_law 215 = .ok (.iconst 0, 1) := by decide +kernel
theorem dL_law_216 : decode cL_law 216 = .ok (.istore_n 2, 1) := by decide +kernel
theorem dL_law_217 : decode cL_law 217 = .ok (.iload_n 2, 1) := by decide +kernel
theorem dL_law_218 : decode cL_law 218 = .ok (.ifCond .eq 49, 3) := by decide +kernel
theorem dL_law_221 : decode cL_law 221 = .ok (.iload 11, 2) := by decide +kernel
theorem dL_law_223 : decode cL_law 223 = .ok (.iload 10, 2) := by decide +kernel
theorem dL_law_225 : decode cL_law 225 = .ok (.iconst 1, 1) := by decide +kernel
theorem dL_law_226 : decode cL_law 226 = .ok (.iadd, 1) := by decide +kernel
theorem dL_law_227 : decode cL_law 227 = .ok (.if_icmp .ne 40, 3) := by decide +kernel
theorem dL_law_230 : decode cL_law 230 = .ok (.iload 7, 2) := by decide +kernel
theorem dL_law_232 : decode cL_law 232 = .ok (.bipush 8, 2) := by decide +kernel
theorem dL_law_234 : decode cL_law 234 = .ok (.ishr, 1) := by decide +kernel
theorem dL_law_235 : decode cL_law 235 = .ok (.iconst 3, 1) := by decide +kernel
theorem dL_law_236 : decode cL_law 236 = .ok (.invokestatic 56, 3) := by decide +kernel
theorem dL_law_239 : decode cL_law 239 = .ok (.ifCond .ne 28, 3) := by decide +kernel
theorem dL_law_242 : decode cL_law 242 = .ok (.aload_n 1, 1) := by decide +kernel
theorem dL_law_243 : decode cL_law 243 = .ok (.invokevirtual 138, 3) := by decide +kernel
theorem dL_law_246 : decode cL_law 246 = .ok (.iload 10, 2) := by decide +kernel
theorem dL_law_248 : decode cL_law 248 = .ok (.if_icmp .ne 17, 3) := by decide +kernel
theorem dL_law_251 : decode cL_law 251 = .ok (.aload_n 1, 1) := by decide +kernel
theorem dL_law_252 : decode cL_law 252 = .ok (.invokestatic 86, 3) := by decide +kernel
theorem dL_law_255 : decode cL_law 255 = .ok (.lload 8, 2) := by decide +kernel
theorem dL_law_257 : decode cL_law 257 = .ok (.lcmp, 1) := by decide +kernel
theorem dL_law_258 : decode cL_law 258 = .ok (.ifCond .ne 7, 3) := by decide +kernel
theorem dL_law_261 : decode cL_law 261 = .ok (.iconst 1, 1) := by decide +kernel
theorem dL_law_262 : decode cL_law 262 = .ok (.goto 4, 3) := by decide +kernel
theorem dL_law_265 : decode cL_law 265 = .ok (.iconst 0, 1) := by decide +kernel
theorem dL_law_266 : decode cL_law 266 = .ok (.istore_n 2, 1) := by decide +kernel
theorem dL_law_267 : decode cL_law 267 = .ok (.iload_n 2, 1) := by decide +kernel
theorem dL_law_268 : decode cL_law 268 = .ok (.ifCond .eq 68, 3) := by decide +kernel
theorem dL_law_271 : decode cL_law 271 = .ok (.iload 5, 2) := by decide +kernel
theorem dL_law_273 : decode cL_law 273 = .ok (.bipush 15, 2) := by decide +kernel
theorem dL_law_275 : decode cL_law 275 = .ok (.irem, 1) := by decide +kernel
theorem dL_law_276 : decode cL_law 276 = .ok (.bipush 14, 2) := by decide +kernel
theorem dL_law_278 : decode cL_law 278 = .ok (.if_icmp .ne 58, 3) := by decide +kernel
theorem dL_law_281 : decode cL_law 281 = .ok (.aload_n 1, 1) := by decide +kernel
theorem dL_law_282 : decode cL_law 282 = .ok (.invokevirtual 141, 3) := by decide +kernel
theorem dL_law_285 : decode cL_law 285 = .ok (.istore 12, 2) := by decide +kernel
theorem dL_law_287 : decode cL_law 287 = .ok (.iload 12, 2) := by decide +kernel
theorem dL_law_289 : decode cL_law 289 = .ok (.aload_n 1, 1) := by decide +kernel
theorem dL_law_290 : decode cL_law 290 = .ok (.iconst 1, 1) := by decide +kernel
theorem dL_law_291 : decode cL_law 291 = .ok (.invokevirtual 13, 3) := by decide +kernel
theorem dL_law_294 : decode cL_law 294 = .ok (.if_icmp .ne 35, 3) := by decide +kernel
theorem dL_law_297 : decode cL_law 297 = .ok (.aload_n 1, 1) := by decide +kernel
theorem dL_law_298 : decode cL_law 298 = .ok (.invokestatic 86, 3) := by decide +kernel
theorem dL_law_301 : decode cL_law 301 = .ok (.lload_n 3, 1) := by decide +kernel
theorem dL_law_302 : decode cL_law 302 = .ok (.lcmp, 1) := by decide +kernel
theorem dL_law_303 : decode cL_law 303 = .ok (.ifCond .ne 26, 3) := by decide +kernel
theorem dL_law_306 : decode cL_law 306 = .ok (.aload_n 1, 1) := by decide +kernel
theorem dL_law_307 : decode cL_law 307 = .ok (.invokevirtual 138, 3) := by decide +kernel
theorem dL_law_310 : decode cL_law 310 = .ok (.ifCond .lt 19, 3) := by decide +kernel
theorem dL_law_313 : decode cL_law 313 = .ok (.aload_n 1, 1) := by decide +kernel
theorem dL_law_314 : decode cL_law 314 = .ok (.invokevirtual 144, 3) := by decide +kernel
theorem dL_law_317 : decode cL_law 317 = .ok (.aload_n 1, 1) := by decide +kernel
theorem dL_law_318 : decode cL_law 318 = .ok (.iconst 1, 1) := by decide +kernel
theorem dL_law_319 : decode cL_law 319 = .ok (.invokevirtual 13, 3) := by decide +kernel
theorem dL_law_322 : decode cL_law 322 = .ok (.if_icmp .ne 7, 3) := by decide +kernel
theorem dL_law_325 : decode cL_law 325 = .ok (.iconst 1, 1) := by decide +kernel
theorem dL_law_326 : decode cL_law 326 = .ok (.goto 4, 3) := by decide +kernel
theorem dL_law_329 : decode cL_law 329 = .ok (.iconst 0, 1) := by decide +kernel
theorem dL_law_330 : decode cL_law 330 = .ok (.istore_n 2, 1) := by decide +kernel
theorem dL_law_331 : decode cL_law 331 = .ok (.aload_n 1, 1) := by decide +kernel
theorem dL_law_332 : decode cL_law 332 = .ok (.invokestatic 86, 3) := by decide +kernel
theorem dL_law_335 : decode cL_law 335 = .ok (.lstore_n 3, 1) := by decide +kernel
theorem dL_law_336 : decode cL_law 336 = .ok (.iload_n 2, 1) := by decide +kernel
theorem dL_law_337 : decode cL_law 337 = .ok (.ifCond .eq 48, 3) := by decide +kernel
theorem dL_law_340 : decode cL_law 340 = .ok (.iload 5, 2) := by decide +kernel
theorem dL_law_342 : decode cL_law 342 = .ok (.bipush 11, 2) := by decide +kernel
theorem dL_law_344 : decode cL_law 344 = .ok (.irem, 1) := by decide +kernel
theorem dL_law_345 : decode cL_law 345 = .ok (.bipush 10, 2) := by decide +kernel
theorem dL_law_347 : decode cL_law 347 = .ok (.if_icmp .ne 38, 3) := by decide +kernel
theorem dL_law_350 : decode cL_law 350 = .ok (.aload_n 1, 1) := by decide +kernel
theorem dL_law_351 : decode cL_law 351 = .ok (.bipush 14, 2) := by decide +kernel
theorem dL_law_353 : decode cL_law 353 = .ok (.invokevirtual 13, 3) := by decide +kernel
theorem dL_law_356 : decode cL_law 356 = .ok (.istore 12, 2) := by decide +kernel
theorem dL_law_358 : decode cL_law 358 = .ok (.aload_n 1, 1) := by decide +kernel
theorem dL_law_359 : decode cL_law 359 = .ok (.invokevirtual 138, 3) := by decide +kernel
theorem dL_law_362 : decode cL_law 362 = .ok (.iload 12, 2) := by decide +kernel
theorem dL_law_364 : decode cL_law 364 = .ok (.ifCond .ne 8, 3) := by decide +kernel
theorem dL_law_367 : decode cL_law 367 = .ok (.bipush (-2), 2) := by decide +kernel
theorem dL_law_369 : decode cL_law 369 = .ok (.goto 7, 3) := by decide +kernel
theorem dL_law_372 : decode cL_law 372 = .ok (.iload 12, 2) := by decide +kernel
theorem dL_law_374 : decode cL_law 374 = .ok (.iconst 1, 1) := by decide +kernel
theorem dL_law_375 : decode cL_law 375 = .ok (.isub, 1) := by decide +kernel
theorem dL_law_376 : decode cL_law 376 = .ok (.if_icmp .ne 7, 3) := by decide +kernel
theorem dL_law_379 : decode cL_law 379 = .ok (.iconst 1, 1) := by decide +kernel
theorem dL_law_380 : decode cL_law 380 = .ok (.goto 4, 3) := by decide +kernel
theorem dL_law_383 : decode cL_law 383 = .ok (.iconst 0, 1) := by decide +kernel
theorem dL_law_384 : decode cL_law 384 = .ok (.istore_n 2, 1) := by decide +kernel
theorem dL_law_385 : decode cL_law 385 = .ok (.iinc 5 1, 3) := by decide +kernel
theorem dL_law_388 : decode cL_law 388 = .ok (.goto (-326), 3) := by decide +kernel
theorem dL_law_391 : decode cL_law 391 = .ok (.iload_n 2, 1) := by decide +kernel
theorem dL_law_392 : decode cL_law 392 = .ok (.ifCond .eq 14, 3) := by decide +kernel
theorem dL_law_395 : decode cL_law 395 = .ok (.aload_n 1, 1) := by decide +kernel
theorem dL_law_396 : decode cL_law 396 = .ok (.invokestatic 132, 3) := by decide +kernel
theorem dL_law_399 : decode cL_law 399 = .ok (.ifCond .eq 7, 3) := by decide +kernel
theorem dL_law_402 : decode cL_law 402 = .ok (.iconst 1, 1) := by decide +kernel
theorem dL_law_403 : decode cL_law 403 = .ok (.goto 4, 3) := by decide +kernel
theorem dL_law_406 : decode cL_law 406 = .ok (.iconst 0, 1) := by decide +kernel
theorem dL_law_407 : decode cL_law 407 = .ok (.ireturn, 1) := by decide +kernel
