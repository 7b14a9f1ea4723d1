theorem dL_law_0 : decode code 0 = .ok (.new 8, 3) := by decide +kernel
theorem dL_law_3 : decode code 3 = .ok (.dup, 1) := by decide +kernel
theorem dL_law_4 : decode code 4 = .ok (.invokespecial 15, 3) := by decide +kernel
theorem dL_law_7 : decode code 7 = .ok (.astore_n 1, 1) := by decide +kernel
theorem dL_law_8 : decode code 8 = .ok (.new 16, 3) := by decide +kernel
theorem dL_law_11 : decode code 11 = .ok (.dup, 1) := by decide +kernel
theorem dL_law_12 : decode code 12 = .ok (.invokespecial 18, 3) := by decide +kernel
theorem dL_law_15 : decode code 15 = .ok (.astore_n 2, 1) := by decide +kernel
theorem dL_law_16 : decode code 16 = .ok (.iconst 1, 1) := by decide +kernel
theorem dL_law_17 : decode code 17 = .ok (.newarray .long, 2) := by decide +kernel
theorem dL_law_19 : decode code 19 = .ok (.astore_n 3, 1) := by decide +kernel
theorem dL_law_20 : decode code 20 = .ok (.iconst 0, 1) := by decide +kernel
theorem dL_law_21 : decode code 21 = .ok (.istore 4, 2) := by decide +kernel
theorem dL_law_23 : decode code 23 = .ok (.iload 4, 2) := by decide +kernel
theorem dL_law_25 : decode code 25 = .ok (.aload_n 0, 1) := by decide +kernel
theorem dL_law_26 : decode code 26 = .ok (.arraylength, 1) := by decide +kernel
theorem dL_law_27 : decode code 27 = .ok (.bipush 6, 2) := by decide +kernel
theorem dL_law_29 : decode code 29 = .ok (.isub, 1) := by decide +kernel
theorem dL_law_30 : decode code 30 = .ok (.if_icmp .gt 2596, 3) := by decide +kernel
theorem dL_law_33 : decode code 33 = .ok (.aload_n 0, 1) := by decide +kernel
theorem dL_law_34 : decode code 34 = .ok (.iload 4, 2) := by decide +kernel
theorem dL_law_36 : decode code 36 = .ok (.iaload, 1) := by decide +kernel
theorem dL_law_37 : decode code 37 = .ok (.bipush 127, 2) := by decide +kernel
theorem dL_law_39 : decode code 39 = .ok (.iand, 1) := by decide +kernel
theorem dL_law_40 : decode code 40 = .ok (.tableswitch 2580 0 65 #[280, 353, 378, 391, 404, 429, 454, 491, 516, 553, 578, 603, 640, 677, 714, 739, 788, 813, 838, 875, 900, 925, 962, 987, 1036, 1085, 1110, 1147, 1184, 1221, 1246, 1283, 1320, 1373, 1426, 1491, 1528, 1565, 1602, 1655, 1668, 1693, 1706, 1719, 1732, 1745, 1758, 1795, 1832, 1941, 1966, 1991, 2081, 2147, 2213, 2262, 2311, 2348, 2373, 2398, 2435, 2448, 2461, 2486, 2542, 2567], 280) := by decide +kernel
theorem dL_law_320 : decode code 320 = .ok (.aload_n 1, 1) := by decide +kernel
theorem dL_law_321 : decode code 321 = .ok (.aload_n 0, 1) := by decide +kernel
theorem dL_law_322 : decode code 322 = .ok (.iload 4, 2) := by decide +kernel
theorem dL_law_324 : decode code 324 = .ok (.iconst 1, 1) := by decide +kernel
theorem dL_law_325 : decode code 325 = .ok (.iadd, 1) := by decide +kernel
theorem dL_law_326 : decode code 326 = .ok (.iaload, 1) := by decide +kernel
theorem dL_law_327 : decode code 327 = .ok (.aload_n 0, 1) := by decide +kernel
theorem dL_law_328 : decode code 328 = .ok (.iload 4, 2) := by decide +kernel
theorem dL_law_330 : decode code 330 = .ok (.iconst 2, 1) := by decide +kernel
theorem dL_law_331 : decode code 331 = .ok (.iadd, 1) := by decide +kernel
theorem dL_law_332 : decode code 332 = .ok (.iaload, 1) := by decide +kernel
theorem dL_law_333 : decode code 333 = .ok (.aload_n 0, 1) := by decide +kernel
theorem dL_law_334 : decode code 334 = .ok (.iload 4, 2) := by decide +kernel
theorem dL_law_336 : decode code 336 = .ok (.iconst 3, 1) := by decide +kernel
theorem dL_law_337 : decode code 337 = .ok (.iadd, 1) := by decide +kernel
theorem dL_law_338 : decode code 338 = .ok (.iaload, 1) := by decide +kernel
theorem dL_law_339 : decode code 339 = .ok (.aload_n 0, 1) := by decide +kernel
theorem dL_law_340 : decode code 340 = .ok (.iload 4, 2) := by decide +kernel
theorem dL_law_342 : decode code 342 = .ok (.iconst 4, 1) := by decide +kernel
theorem dL_law_343 : decode code 343 = .ok (.iadd, 1) := by decide +kernel
theorem dL_law_344 : decode code 344 = .ok (.iaload, 1) := by decide +kernel
theorem dL_law_345 : decode code 345 = .ok (.aload_n 0, 1) := by decide +kernel
theorem dL_law_346 : decode code 346 = .ok (.iload 4, 2) := by decide +kernel
theorem dL_law_348 : decode code 348 = .ok (.iconst 5, 1) := by decide +kernel
theorem dL_law_349 : decode code 349 = .ok (.iadd, 1) := by decide +kernel
theorem dL_law_350 : decode code 350 = .ok (.iaload, 1) := by decide +kernel
theorem dL_law_351 : decode code 351 = .ok (.invokevirtual 19, 3) := by decide +kernel
theorem dL_law_354 : decode code 354 = .ok (.aload_n 2, 1) := by decide +kernel
theorem dL_law_355 : decode code 355 = .ok (.aload_n 0, 1) := by decide +kernel
theorem dL_law_356 : decode code 356 = .ok (.iload 4, 2) := by decide +kernel
theorem dL_law_358 : decode code 358 = .ok (.iconst 1, 1) := by decide +kernel
theorem dL_law_359 : decode code 359 = .ok (.iadd, 1) := by decide +kernel
theorem dL_law_360 : decode code 360 = .ok (.iaload, 1) := by decide +kernel
theorem dL_law_361 : decode code 361 = .ok (.aload_n 0, 1) := by decide +kernel
theorem dL_law_362 : decode code 362 = .ok (.iload 4, 2) := by decide +kernel
theorem dL_law_364 : decode code 364 = .ok (.iconst 2, 1) := by decide +kernel
theorem dL_law_365 : decode code 365 = .ok (.iadd, 1) := by decide +kernel
theorem dL_law_366 : decode code 366 = .ok (.iaload, 1) := by decide +kernel
theorem dL_law_367 : decode code 367 = .ok (.aload_n 0, 1) := by decide +kernel
theorem dL_law_368 : decode code 368 = .ok (.iload 4, 2) := by decide +kernel
theorem dL_law_370 : decode code 370 = .ok (.iconst 3, 1) := by decide +kernel
theorem dL_law_371 : decode code 371 = .ok (.iadd, 1) := by decide +kernel
theorem dL_law_372 : decode code 372 = .ok (.iaload, 1) := by decide +kernel
theorem dL_law_373 : decode code 373 = .ok (.aload_n 0, 1) := by decide +kernel
theorem dL_law_374 : decode code 374 = .ok (.iload 4, 2) := by decide +kernel
theorem dL_law_376 : decode code 376 = .ok (.iconst 4, 1) := by decide +kernel
theorem dL_law_377 : decode code 377 = .ok (.iadd, 1) := by decide +kernel
theorem dL_law_378 : decode code 378 = .ok (.iaload, 1) := by decide +kernel
theorem dL_law_379 : decode code 379 = .ok (.aload_n 0, 1) := by decide +kernel
theorem dL_law_380 : decode code 380 = .ok (.iload 4, 2) := by decide +kernel
theorem dL_law_382 : decode code 382 = .ok (.iconst 5, 1) := by decide +kernel
theorem dL_law_383 : decode code 383 = .ok (.iadd, 1) := by decide +kernel
theorem dL_law_384 : decode code 384 = .ok (.iaload, 1) := by decide +kernel
theorem dL_law_385 : decode code 385 = .ok (.invokevirtual 23, 3) := by decide +kernel
theorem dL_law_388 : decode code 388 = .ok (.if_icmp .eq 2232, 3) := by decide +kernel
theorem dL_law_391 : decode code 391 = .ok (.iconst 0, 1) := by decide +kernel
theorem dL_law_392 : decode code 392 = .ok (.ireturn, 1) := by decide +kernel
theorem dL_law_393 : decode code 393 = .ok (.aload_n 1, 1) := by decide +kernel
theorem dL_law_394 : decode code 394 = .ok (.aload_n 0, 1) := by decide +kernel
theorem dL_law_395 : decode code 395 = .ok (.iload 4, 2) := by decide +kernel
theorem dL_law_397 : decode code 397 = .ok (.iconst 1, 1) := by decide +kernel
theorem dL_law_398 : decode code 398 = .ok (.iadd, 1) := by decide +kernel
theorem dL_law_399 : decode code 399 = .ok (.iaload, 1) := by decide +kernel
theorem dL_law_400 : decode code 400 = .ok (.invokevirtual 24, 3) := by decide +kernel
theorem dL_law_403 : decode code 403 = .ok (.aload_n 2, 1) := by decide +kernel
theorem dL_law_404 : decode code 404 = .ok (.aload_n 0, 1) := by decide +kernel
theorem dL_law_405 : decode code 405 = .ok (.iload 4, 2) := by decide +kernel
theorem dL_law_407 : decode code 407 = .ok (.iconst 1, 1) := by decide +kernel
theorem dL_law_408 : decode code 408 = .ok (.iadd, 1) := by decide +kernel
theorem dL_law_409 : decode code 409 = .ok (.iaload, 1) := by decide +kernel
theorem dL_law_410 : decode code 410 = .ok (.invokevirtual 27, 3) := by decide +kernel
theorem dL_law_413 : decode code 413 = .ok (.if_icmp .eq 2207, 3) := by decide +kernel
theorem dL_law_416 : decode code 416 = .ok (.iconst 0, 1) := by decide +kernel
theorem dL_law_417 : decode code 417 = .ok (.ireturn, 1) := by decide +kernel
theorem dL_law_418 : decode code 418 = .ok (.aload_n 1, 1) := by decide +kernel
theorem dL_law_419 : decode code 419 = .ok (.invokevirtual 28, 3) := by decide +kernel
theorem dL_law_422 : decode code 422 = .ok (.aload_n 2, 1) := by decide +kernel
theorem dL_law_423 : decode code 423 = .ok (.invokevirtual 32, 3) := by decide +kernel
theorem dL_law_426 : decode code 426 = .ok (.if_icmp .eq 2194, 3) := by decide +kernel
theorem dL_law_429 : decode code 429 = .ok (.iconst 0, 1) := by decide +kernel
theorem dL_law_430 : decode code 430 = .ok (.ireturn, 1) := by decide +kernel
theorem dL_law_431 : decode code 431 = .ok (.aload_n 1, 1) := by decide +kernel
theorem dL_law_432 : decode code 432 = .ok (.invokevirtual 33, 3) := by decide +kernel
theorem dL_law_435 : decode code 435 = .ok (.aload_n 2, 1) := by decide +kernel
theorem dL_law_436 : decode code 436 = .ok (.invokevirtual 36, 3) := by decide +kernel
theorem dL_law_439 : decode code 439 = .ok (.if_icmp .eq 2181, 3) := by decide +kernel
theorem dL_law_442 : decode code 442 = .ok (.iconst 0, 1) := by decide +kernel
theorem dL_law_443 : decode code 443 = .ok (.ireturn, 1) := by decide +kernel
theorem dL_law_444 : decode code 444 = .ok (.aload_n 1, 1) := by decide +kernel
theorem dL_law_445 : decode code 445 = .ok (.aload_n 0, 1) := by decide +kernel
theorem dL_law_446 : decode code 446 = .ok (.iload 4, 2) := by decide +kernel
theorem dL_law_448 : decode code 448 = .ok (.iconst 1, 1) := by decide +kernel
theorem dL_law_449 : decode code 449 = .ok (.iadd, 1) := by decide +kernel
theorem dL_law_450 : decode code 450 = .ok (.iaload, 1) := by decide +kernel
theorem dL_law_451 : decode code 451 = .ok (.invokevirtual 37, 3) := by decide +kernel
theorem dL_law_454 : decode code 454 = .ok (.aload_n 2, 1) := by decide +kernel
theorem dL_law_455 : decode code 455 = .ok (.aload_n 0, 1) := by decide +kernel
theorem dL_law_456 : decode code 456 = .ok (.iload 4, 2) := by decide +kernel
theorem dL_law_458 : decode code 458 = .ok (.iconst 1, 1) := by decide +kernel
theorem dL_law_459 : decode code 459 = .ok (.iadd, 1) := by decide +kernel
theorem dL_law_460 : decode code 460 = .ok (.iaload, 1) := by decide +kernel
theorem dL_law_461 : decode code 461 = .ok (.invokevirtual 40, 3) := by decide +kernel
theorem dL_law_464 : decode code 464 = .ok (.if_icmp .eq 2156, 3) := by decide +kernel
theorem dL_law_467 : decode code 467 = .ok (.iconst 0, 1) := by decide +kernel
theorem dL_law_468 : decode code 468 = .ok (.ireturn, 1) := by decide +kernel
theorem dL_law_469 : decode code 469 = .ok (.aload_n 1, 1) := by decide +kernel
theorem dL_law_470 : decode code 470 = .ok (.aload_n 0, 1) := by decide +kernel
theorem dL_law_471 : decode code 471 = .ok (.iload 4, 2) := by decide +kernel
theorem dL_law_473 : decode code 473 = .ok (.iconst 1, 1) := by decide +kernel
theorem dL_law_474 : decode code 474 = .ok (.iadd, 1) := by decide +kernel
theorem dL_law_475 : decode code 475 = .ok (.iaload, 1) := by decide +kernel
theorem dL_law_476 : decode code 476 = .ok (.invokevirtual 41, 3) := by decide +kernel
theorem dL_law_479 : decode code 479 = .ok (.aload_n 2, 1) := by decide +kernel
theorem dL_law_480 : decode code 480 = .ok (.aload_n 0, 1) := by decide +kernel
theorem dL_law_481 : decode code 481 = .ok (.iload 4, 2) := by decide +kernel
theorem dL_law_483 : decode code 483 = .ok (.iconst 1, 1) := by decide +kernel
theorem dL_law_484 : decode code 484 = .ok (.iadd, 1) := by decide +kernel
theorem dL_law_485 : decode code 485 = .ok (.iaload, 1) := by decide +kernel
theorem dL_law_486 : decode code 486 = .ok (.invokevirtual 44, 3) := by decide +kernel
theorem dL_law_489 : decode code 489 = .ok (.if_icmp .eq 2131, 3) := by decide +kernel
theorem dL_law_492 : decode code 492 = .ok (.iconst 0, 1) := by decide +kernel
theorem dL_law_493 : decode code 493 = .ok (.ireturn, 1) := by decide +kernel
theorem dL_law_494 : decode code 494 = .ok (.aload_n 1, 1) := by decide +kernel
theorem dL_law_495 : decode code 495 = .ok (.aload_n 0, 1) := by decide +kernel
theorem dL_law_496 : decode code 496 = .ok (.iload 4, 2) := by decide +kernel
theorem dL_law_498 : decode code 498 = .ok (.iconst 1, 1) := by decide +kernel
theorem dL_law_499 : decode code 499 = .ok (.iadd, 1) := by decide +kernel
theorem dL_law_500 : decode code 500 = .ok (.iaload, 1) := by decide +kernel
theorem dL_law_501 : decode code 501 = .ok (.aload_n 0, 1) := by decide +kernel
theorem dL_law_502 : decode code 502 = .ok (.iload 4, 2) := by decide +kernel
theorem dL_law_504 : decode code 504 = .ok (.iconst 2, 1) := by decide +kernel
theorem dL_law_505 : decode code 505 = .ok (.iadd, 1) := by decide +kernel
theorem dL_law_506 : decode code 506 = .ok (.iaload, 1) := by decide +kernel
theorem dL_law_507 : decode code 507 = .ok (.invokevirtual 45, 3) := by decide +kernel
theorem dL_law_510 : decode code 510 = .ok (.aload_n 2, 1) := by decide +kernel
theorem dL_law_511 : decode code 511 = .ok (.aload_n 0, 1) := by decide +kernel
theorem dL_law_512 : decode code 512 = .ok (.iload 4, 2) := by decide +kernel
theorem dL_law_514 : decode code 514 = .ok (.iconst 1, 1) := by decide +kernel
theorem dL_law_515 : decode code 515 = .ok (.iadd, 1) := by decide +kernel
theorem dL_law_516 : decode code 516 = .ok (.iaload, 1) := by decide +kernel
theorem dL_law_517 : decode code 517 = .ok (.aload_n 0, 1) := by decide +kernel
theorem dL_law_518 : decode code 518 = .ok (.iload 4, 2) := by decide +kernel
theorem dL_law_520 : decode code 520 = .ok (.iconst 2, 1) := by decide +kernel
theorem dL_law_521 : decode code 521 = .ok (.iadd, 1) := by decide +kernel
theorem dL_law_522 : decode code 522 = .ok (.iaload, 1) := by decide +kernel
theorem dL_law_523 : decode code 523 = .ok (.invokevirtual 49, 3) := by decide +kernel
theorem dL_law_526 : decode code 526 = .ok (.if_icmp .eq 2094, 3) := by decide +kernel
theorem dL_law_529 : decode code 529 = .ok (.iconst 0, 1) := by decide +kernel
theorem dL_law_530 : decode code 530 = .ok (.ireturn, 1) := by decide +kernel
theorem dL_law_531 : decode code 531 = .ok (.aload_n 1, 1) := by decide +kernel
theorem dL_law_532 : decode code 532 = .ok (.aload_n 0, 1) := by decide +kernel
theorem dL_law_533 : decode code 533 = .ok (.iload 4, 2) := by decide +kernel
theorem dL_law_535 : decode code 535 = .ok (.iconst 1, 1) := by decide +kernel
theorem dL_law_536 : decode code 536 = .ok (.iadd, 1) := by decide +kernel
theorem dL_law_537 : decode code 537 = .ok (.iaload, 1) := by decide +kernel
theorem dL_law_538 : decode code 538 = .ok (.invokevirtual 50, 3) := by decide +kernel
theorem dL_law_541 : decode code 541 = .ok (.aload_n 2, 1) := by decide +kernel
theorem dL_law_542 : decode code 542 = .ok (.aload_n 0, 1) := by decide +kernel
theorem dL_law_543 : decode code 543 = .ok (.iload 4, 2) := by decide +kernel
theorem dL_law_545 : decode code 545 = .ok (.iconst 1, 1) := by decide +kernel
theorem dL_law_546 : decode code 546 = .ok (.iadd, 1) := by decide +kernel
theorem dL_law_547 : decode code 547 = .ok (.iaload, 1) := by decide +kernel
theorem dL_law_548 : decode code 548 = .ok (.invokevirtual 53, 3) := by decide +kernel
theorem dL_law_551 : decode code 551 = .ok (.if_icmp .eq 2069, 3) := by decide +kernel
theorem dL_law_554 : decode code 554 = .ok (.iconst 0, 1) := by decide +kernel
theorem dL_law_555 : decode code 555 = .ok (.ireturn, 1) := by decide +kernel
theorem dL_law_556 : decode code 556 = .ok (.aload_n 1, 1) := by decide +kernel
theorem dL_law_557 : decode code 557 = .ok (.aload_n 0, 1) := by decide +kernel
theorem dL_law_558 : decode code 558 = .ok (.iload 4, 2) := by decide +kernel
theorem dL_law_560 : decode code 560 = .ok (.iconst 1, 1) := by decide +kernel
theorem dL_law_561 : decode code 561 = .ok (.iadd, 1) := by decide +kernel
theorem dL_law_562 : decode code 562 = .ok (.iaload, 1) := by decide +kernel
theorem dL_law_563 : decode code 563 = .ok (.aload_n 0, 1) := by decide +kernel
theorem dL_law_564 : decode code 564 = .ok (.iload 4, 2) := by decide +kernel
theorem dL_law_566 : decode code 566 = .ok (.iconst 2, 1) := by decide +kernel
theorem dL_law_567 : decode code 567 = .ok (.iadd, 1) := by decide +kernel
theorem dL_law_568 : decode code 568 = .ok (.iaload, 1) := by decide +kernel
theorem dL_law_569 : decode code 569 = .ok (.invokevirtual 54, 3) := by decide +kernel
theorem dL_law_572 : decode code 572 = .ok (.aload_n 2, 1) := by decide +kernel
theorem dL_law_573 : decode code 573 = .ok (.aload_n 0, 1) := by decide +kernel
theorem dL_law_574 : decode code 574 = .ok (.iload 4, 2) := by decide +kernel
theorem dL_law_576 : decode code 576 = .ok (.iconst 1, 1) := by decide +kernel
theorem dL_law_577 : decode code 577 = .ok (.iadd, 1) := by decide +kernel
theorem dL_law_578 : decode code 578 = .ok (.iaload, 1) := by decide +kernel
theorem dL_law_579 : decode code 579 = .ok (.aload_n 0, 1) := by decide +kernel
theorem dL_law_580 : decode code 580 = .ok (.iload 4, 2) := by decide +kernel
theorem dL_law_582 : decode code 582 = .ok (.iconst 2, 1) := by decide +kernel
theorem dL_law_583 : decode code 583 = .ok (.iadd, 1) := by decide +kernel
theorem dL_law_584 : decode code 584 = .ok (.iaload, 1) := by decide +kernel
theorem dL_law_585 : decode code 585 = .ok (.invokevirtual 57, 3) := by decide +kernel
theorem dL_law_588 : decode code 588 = .ok (.if_icmp .eq 2032, 3) := by decide +kernel
theorem dL_law_591 : decode code 591 = .ok (.iconst 0, 1) := by decide +kernel
theorem dL_law_592 : decode code 592 = .ok (.ireturn, 1) := by decide +kernel
theorem dL_law_593 : decode code 593 = .ok (.aload_n 1, 1) := by decide +kernel
theorem dL_law_594 : decode code 594 = .ok (.aload_n 0, 1) := by decide +kernel
theorem dL_law_595 : decode code 595 = .ok (.iload 4, 2) := by decide +kernel
theorem dL_law_597 : decode code 597 = .ok (.iconst 1, 1) := by decide +kernel
theorem dL_law_598 : decode code 598 = .ok (.iadd, 1) := by decide +kernel
theorem dL_law_599 : decode code 599 = .ok (.iaload, 1) := by decide +kernel
theorem dL_law_600 : decode code 600 = .ok (.invokevirtual 58, 3) := by decide +kernel
theorem dL_law_603 : decode code 603 = .ok (.aload_n 2, 1) := by decide +kernel
theorem dL_law_604 : decode code 604 = .ok (.aload_n 0, 1) := by decide +kernel
theorem dL_law_605 : decode code 605 = .ok (.iload 4, 2) := by decide +kernel
theorem dL_law_607 : decode code 607 = .ok (.iconst 1, 1) := by decide +kernel
theorem dL_law_608 : decode code 608 = .ok (.iadd, 1) := by decide +kernel
theorem dL_law_609 : decode code 609 = .ok (.iaload, 1) := by decide +kernel
theorem dL_law_610 : decode code 610 = .ok (.invokevirtual 61, 3) := by decide +kernel
theorem dL_law_613 : decode code 613 = .ok (.if_icmp .eq 2007, 3) := by decide +kernel
theorem dL_law_616 : decode code 616 = .ok (.iconst 0, 1) := by decide +kernel
theorem dL_law_617 : decode code 617 = .ok (.ireturn, 1) := by decide +kernel
theorem dL_law_618 : decode code 618 = .ok (.aload_n 1, 1) := by decide +kernel
theorem dL_law_619 : decode code 619 = .ok (.aload_n 0, 1) := by decide +kernel
theorem dL_law_620 : decode code 620 = .ok (.iload 4, 2) := by decide +kernel
theorem dL_law_622 : decode code 622 = .ok (.iconst 1, 1) := by decide +kernel
theorem dL_law_623 : decode code 623 = .ok (.iadd, 1) := by decide +kernel
theorem dL_law_624 : decode code 624 = .ok (.iaload, 1) := by decide +kernel
theorem dL_law_625 : decode code 625 = .ok (.invokevirtual 62, 3) := by decide +kernel
theorem dL_law_628 : decode code 628 = .ok (.aload_n 2, 1) := by decide +kernel
theorem dL_law_629 : decode code 629 = .ok (.aload_n 0, 1) := by decide +kernel
theorem dL_law_630 : decode code 630 = .ok (.iload 4, 2) := by decide +kernel
theorem dL_law_632 : decode code 632 = .ok (.iconst 1, 1) := by decide +kernel
theorem dL_law_633 : decode code 633 = .ok (.iadd, 1) := by decide +kernel
theorem dL_law_634 : decode code 634 = .ok (.iaload, 1) := by decide +kernel
theorem dL_law_635 : decode code 635 = .ok (.invokevirtual 65, 3) := by decide +kernel
theorem dL_law_638 : decode code 638 = .ok (.if_icmp .eq 1982, 3) := by decide +kernel
theorem dL_law_641 : decode code 641 = .ok (.iconst 0, 1) := by decide +kernel
theorem dL_law_642 : decode code 642 = .ok (.ireturn, 1) := by decide +kernel
theorem dL_law_643 : decode code 643 = .ok (.aload_n 1, 1) := by decide +kernel
theorem dL_law_644 : decode code 644 = .ok (.aload_n 0, 1) := by decide +kernel
theorem dL_law_645 : decode code 645 = .ok (.iload 4, 2) := by decide +kernel
theorem dL_law_647 : decode code 647 = .ok (.iconst 1, 1) := by decide +kernel
theorem dL_law_648 : decode code 648 = .ok (.iadd, 1) := by decide +kernel
theorem dL_law_649 : decode code 649 = .ok (.iaload, 1) := by decide +kernel
theorem dL_law_650 : decode code 650 = .ok (.aload_n 0, 1) := by decide +kernel
theorem dL_law_651 : decode code 651 = .ok (.iload 4, 2) := by decide +kernel
theorem dL_law_653 : decode code 653 = .ok (.iconst 2, 1) := by decide +kernel
theorem dL_law_654 : decode code 654 = .ok (.iadd, 1) := by decide +kernel
theorem dL_law_655 : decode code 655 = .ok (.iaload, 1) := by decide +kernel
theorem dL_law_656 : decode code 656 = .ok (.invokevirtual 66, 3) := by decide +kernel
theorem dL_law_659 : decode code 659 = .ok (.aload_n 2, 1) := by decide +kernel
theorem dL_law_660 : decode code 660 = .ok (.aload_n 0, 1) := by decide +kernel
theorem dL_law_661 : decode code 661 = .ok (.iload 4, 2) := by decide +kernel
theorem dL_law_663 : decode code 663 = .ok (.iconst 1, 1) := by decide +kernel
theorem dL_law_664 : decode code 664 = .ok (.iadd, 1) := by decide +kernel
theorem dL_law_665 : decode code 665 = .ok (.iaload, 1) := by decide +kernel
theorem dL_law_666 : decode code 666 = .ok (.aload_n 0, 1) := by decide +kernel
theorem dL_law_667 : decode code 667 = .ok (.iload 4, 2) := by decide +kernel
theorem dL_law_669 : decode code 669 = .ok (.iconst 2, 1) := by decide +kernel
theorem dL_law_670 : decode code 670 = .ok (.iadd, 1) := by decide +kernel
theorem dL_law_671 : decode code 671 = .ok (.iaload, 1) := by decide +kernel
theorem dL_law_672 : decode code 672 = .ok (.invokevirtual 69, 3) := by decide +kernel
theorem dL_law_675 : decode code 675 = .ok (.if_icmp .eq 1945, 3) := by decide +kernel
theorem dL_law_678 : decode code 678 = .ok (.iconst 0, 1) := by decide +kernel
theorem dL_law_679 : decode code 679 = .ok (.ireturn, 1) := by decide +kernel
theorem dL_law_680 : decode code 680 = .ok (.aload_n 1, 1) := by decide +kernel
theorem dL_law_681 : decode code 681 = .ok (.aload_n 0, 1) := by decide +kernel
theorem dL_law_682 : decode code 682 = .ok (.iload 4, 2) := by decide +kernel
theorem dL_law_684 : decode code 684 = .ok (.iconst 1, 1) := by decide +kernel
theorem dL_law_685 : decode code 685 = .ok (.iadd, 1) := by decide +kernel
theorem dL_law_686 : decode code 686 = .ok (.iaload, 1) := by decide +kernel
theorem dL_law_687 : decode code 687 = .ok (.aload_n 0, 1) := by decide +kernel
theorem dL_law_688 : decode code 688 = .ok (.iload 4, 2) := by decide +kernel
theorem dL_law_690 : decode code 690 = .ok (.iconst 2, 1) := by decide +kernel
theorem dL_law_691 : decode code 691 = .ok (.iadd, 1) := by decide +kernel
theorem dL_law_692 : decode code 692 = .ok (.iaload, 1) := by decide +kernel
theorem dL_law_693 : decode code 693 = .ok (.invokevirtual 70, 3) := by decide +kernel
theorem dL_law_696 : decode code 696 = .ok (.aload_n 2, 1) := by decide +kernel
theorem dL_law_697 : decode code 697 = .ok (.aload_n 0, 1) := by decide +kernel
theorem dL_law_698 : decode code 698 = .ok (.iload 4, 2) := by decide +kernel
theorem dL_law_700 : decode code 700 = .ok (.iconst 1, 1) := by decide +kernel
theorem dL_law_701 : decode code 701 = .ok (.iadd, 1) := by decide +kernel
theorem dL_law_702 : decode code 702 = .ok (.iaload, 1) := by decide +kernel
theorem dL_law_703 : decode code 703 = .ok (.aload_n 0, 1) := by decide +kernel
theorem dL_law_704 : decode code 704 = .ok (.iload 4, 2) := by decide +kernel
theorem dL_law_706 : decode code 706 = .ok (.iconst 2, 1) := by decide +kernel
theorem dL_law_707 : decode code 707 = .ok (.iadd, 1) := by decide +kernel
theorem dL_law_708 : decode code 708 = .ok (.iaload, 1) := by decide +kernel
theorem dL_law_709 : decode code 709 = .ok (.invokevirtual 73, 3) := by decide +kernel
theorem dL_law_712 : decode code 712 = .ok (.if_icmp .eq 1908, 3) := by decide +kernel
theorem dL_law_715 : decode code 715 = .ok (.iconst 0, 1) := by decide +kernel
theorem dL_law_716 : decode code 716 = .ok (.ireturn, 1) := by decide +kernel
theorem dL_law_717 : decode code 717 = .ok (.aload_n 1, 1) := by decide +kernel
theorem dL_law_718 : decode code 718 = .ok (.aload_n 0, 1) := by decide +kernel
theorem dL_law_719 : decode code 719 = .ok (.iload 4, 2) := by decide +kernel
theorem dL_law_721 : decode code 721 = .ok (.iconst 1, 1) := by decide +kernel
theorem dL_law_722 : decode code 722 = .ok (.iadd, 1) := by decide +kernel
theorem dL_law_723 : decode code 723 = .ok (.iaload, 1) := by decide +kernel
theorem dL_law_724 : decode code 724 = .ok (.aload_n 0, 1) := by decide +kernel
theorem dL_law_725 : decode code 725 = .ok (.iload 4, 2) := by decide +kernel
theorem dL_law_727 : decode code 727 = .ok (.iconst 2, 1) := by decide +kernel
theorem dL_law_728 : decode code 728 = .ok (.iadd, 1) := by decide +kernel
theorem dL_law_729 : decode code 729 = .ok (.iaload, 1) := by decide +kernel
theorem dL_law_730 : decode code 730 = .ok (.invokevirtual 74, 3) := by decide +kernel
theorem dL_law_733 : decode code 733 = .ok (.aload_n 2, 1) := by decide +kernel
theorem dL_law_734 : decode code 734 = .ok (.aload_n 0, 1) := by decide +kernel
theorem dL_law_735 : decode code 735 = .ok (.iload 4, 2) := by decide +kernel
theorem dL_law_737 : decode code 737 = .ok (.iconst 1, 1) := by decide +kernel
theorem dL_law_738 : decode code 738 = .ok (.iadd, 1) := by decide +kernel
theorem dL_law_739 : decode code 739 = .ok (.iaload, 1) := by decide +kernel
theorem dL_law_740 : decode code 740 = .ok (.aload_n 0, 1) := by decide +kernel
theorem dL_law_741 : decode code 741 = .ok (.iload 4, 2) := by decide +kernel
theorem dL_law_743 : decode code 743 = .ok (.iconst 2, 1) := by decide +kernel
theorem dL_law_744 : decode code 744 = .ok (.iadd, 1) := by decide +kernel
theorem dL_law_745 : decode code 745 = .ok (.iaload, 1) := by decide +kernel
theorem dL_law_746 : decode code 746 = .ok (.invokevirtual 77, 3) := by decide +kernel
theorem dL_law_749 : decode code 749 = .ok (.if_icmp .eq 1871, 3) := by decide +kernel
theorem dL_law_752 : decode code 752 = .ok (.iconst 0, 1) := by decide +kernel
theorem dL_law_753 : decode code 753 = .ok (.ireturn, 1) := by decide +kernel
theorem dL_law_754 : decode code 754 = .ok (.aload_n 1, 1) := by decide +kernel
theorem dL_law_755 : decode code 755 = .ok (.aload_n 0, 1) := by decide +kernel
theorem dL_law_756 : decode code 756 = .ok (.iload 4, 2) := by decide +kernel
theorem dL_law_758 : decode code 758 = .ok (.iconst 1, 1) := by decide +kernel
theorem dL_law_759 : decode code 759 = .ok (.iadd, 1) := by decide +kernel
theorem dL_law_760 : decode code 760 = .ok (.iaload, 1) := by decide +kernel
theorem dL_law_761 : decode code 761 = .ok (.invokevirtual 78, 3) := by decide +kernel
theorem dL_law_764 : decode code 764 = .ok (.aload_n 2, 1) := by decide +kernel
theorem dL_law_765 : decode code 765 = .ok (.aload_n 0, 1) := by decide +kernel
theorem dL_law_766 : decode code 766 = .ok (.iload 4, 2) := by decide +kernel
theorem dL_law_768 : decode code 768 = .ok (.iconst 1, 1) := by decide +kernel
theorem dL_law_769 : decode code 769 = .ok (.iadd, 1) := by decide +kernel
theorem dL_law_770 : decode code 770 = .ok (.iaload, 1) := by decide +kernel
theorem dL_law_771 : decode code 771 = .ok (.invokevirtual 81, 3) := by decide +kernel
theorem dL_law_774 : decode code 774 = .ok (.if_icmp .eq 1846, 3) := by decide +kernel
theorem dL_law_777 : decode code 777 = .ok (.iconst 0, 1) := by decide +kernel
theorem dL_law_778 : decode code 778 = .ok (.ireturn, 1) := by decide +kernel
theorem dL_law_779 : decode code 779 = .ok (.aload_n 1, 1) := by decide +kernel
theorem dL_law_780 : decode code 780 = .ok (.aload_n 0, 1) := by decide +kernel
theorem dL_law_781 : decode code 781 = .ok (.iload 4, 2) := by decide +kernel
theorem dL_law_783 : decode code 783 = .ok (.iconst 1, 1) := by decide +kernel
theorem dL_law_784 : decode code 784 = .ok (.iadd, 1) := by decide +kernel
theorem dL_law_785 : decode code 785 = .ok (.iaload, 1) := by decide +kernel
theorem dL_law_786 : decode code 786 = .ok (.aload_n 0, 1) := by decide +kernel
theorem dL_law_787 : decode code 787 = .ok (.iload 4, 2) := by decide +kernel
theorem dL_law_789 : decode code 789 = .ok (.iconst 2, 1) := by decide +kernel
theorem dL_law_790 : decode code 790 = .ok (.iadd, 1) := by decide +kernel
theorem dL_law_791 : decode code 791 = .ok (.iaload, 1) := by decide +kernel
theorem dL_law_792 : decode code 792 = .ok (.aload_n 0, 1) := by decide +kernel
theorem dL_law_793 : decode code 793 = .ok (.iload 4, 2) := by decide +kernel
theorem dL_law_795 : decode code 795 = .ok (.iconst 3, 1) := by decide +kernel
theorem dL_law_796 : decode code 796 = .ok (.iadd, 1) := by decide +kernel
theorem dL_law_797 : decode code 797 = .ok (.iaload, 1) := by decide +kernel
theorem dL_law_798 : decode code 798 = .ok (.invokevirtual 82, 3) := by decide +kernel
theorem dL_law_801 : decode code 801 = .ok (.aload_n 2, 1) := by decide +kernel
theorem dL_law_802 : decode code 802 = .ok (.aload_n 0, 1) := by decide +kernel
theorem dL_law_803 : decode code 803 = .ok (.iload 4, 2) := by decide +kernel
theorem dL_law_805 : decode code 805 = .ok (.iconst 1, 1) := by decide +kernel
theorem dL_law_806 : decode code 806 = .ok (.iadd, 1) := by decide +kernel
theorem dL_law_807 : decode code 807 = .ok (.iaload, 1) := by decide +kernel
theorem dL_law_808 : decode code 808 = .ok (.aload_n 0, 1) := by decide +kernel
theorem dL_law_809 : decode code 809 = .ok (.iload 4, 2) := by decide +kernel
theorem dL_law_811 : decode code 811 = .ok (.iconst 2, 1) := by decide +kernel
theorem dL_law_812 : decode code 812 = .ok (.iadd, 1) := by decide +kernel
theorem dL_law_813 : decode code 813 = .ok (.iaload, 1) := by decide +kernel
theorem dL_law_814 : decode code 814 = .ok (.aload_n 0, 1) := by decide +kernel
theorem dL_law_815 : decode code 815 = .ok (.iload 4, 2) := by decide +kernel
theorem dL_law_817 : decode code 817 = .ok (.iconst 3, 1) := by decide +kernel
theorem dL_law_818 : decode code 818 = .ok (.iadd, 1) := by decide +kernel
theorem dL_law_819 : decode code 819 = .ok (.iaload, 1) := by decide +kernel
theorem dL_law_820 : decode code 820 = .ok (.invokevirtual 86, 3) := by decide +kernel
theorem dL_law_823 : decode code 823 = .ok (.if_icmp .eq 1797, 3) := by decide +kernel
theorem dL_law_826 : decode code 826 = .ok (.iconst 0, 1) := by decide +kernel
theorem dL_law_827 : decode code 827 = .ok (.ireturn, 1) := by decide +kernel
theorem dL_law_828 : decode code 828 = .ok (.aload_n 1, 1) := by decide +kernel
theorem dL_law_829 : decode code 829 = .ok (.aload_n 0, 1) := by decide +kernel
theorem dL_law_830 : decode code 830 = .ok (.iload 4, 2) := by decide +kernel
theorem dL_law_832 : decode code 832 = .ok (.iconst 1, 1) := by decide +kernel
theorem dL_law_833 : decode code 833 = .ok (.iadd, 1) := by decide +kernel
theorem dL_law_834 : decode code 834 = .ok (.iaload, 1) := by decide +kernel
theorem dL_law_835 : decode code 835 = .ok (.invokevirtual 87, 3) := by decide +kernel
theorem dL_law_838 : decode code 838 = .ok (.aload_n 2, 1) := by decide +kernel
theorem dL_law_839 : decode code 839 = .ok (.aload_n 0, 1) := by decide +kernel
theorem dL_law_840 : decode code 840 = .ok (.iload 4, 2) := by decide +kernel
theorem dL_law_842 : decode code 842 = .ok (.iconst 1, 1) := by decide +kernel
theorem dL_law_843 : decode code 843 = .ok (.iadd, 1) := by decide +kernel
theorem dL_law_844 : decode code 844 = .ok (.iaload, 1) := by decide +kernel
theorem dL_law_845 : decode code 845 = .ok (.invokevirtual 90, 3) := by decide +kernel
theorem dL_law_848 : decode code 848 = .ok (.if_icmp .eq 1772, 3) := by decide +kernel
theorem dL_law_851 : decode code 851 = .ok (.iconst 0, 1) := by decide +kernel
theorem dL_law_852 : decode code 852 = .ok (.ireturn, 1) := by decide +kernel
theorem dL_law_853 : decode code 853 = .ok (.aload_n 1, 1) := by decide +kernel
theorem dL_law_854 : decode code 854 = .ok (.aload_n 0, 1) := by decide +kernel
theorem dL_law_855 : decode code 855 = .ok (.iload 4, 2) := by decide +kernel
theorem dL_law_857 : decode code 857 = .ok (.iconst 1, 1) := by decide +kernel
theorem dL_law_858 : decode code 858 = .ok (.iadd, 1) := by decide +kernel
theorem dL_law_859 : decode code 859 = .ok (.iaload, 1) := by decide +kernel
theorem dL_law_860 : decode code 860 = .ok (.invokevirtual 91, 3) := by decide +kernel
theorem dL_law_863 : decode code 863 = .ok (.aload_n 2, 1) := by decide +kernel
theorem dL_law_864 : decode code 864 = .ok (.aload_n 0, 1) := by decide +kernel
theorem dL_law_865 : decode code 865 = .ok (.iload 4, 2) := by decide +kernel
theorem dL_law_867 : decode code 867 = .ok (.iconst 1, 1) := by decide +kernel
theorem dL_law_868 : decode code 868 = .ok (.iadd, 1) := by decide +kernel
theorem dL_law_869 : decode code 869 = .ok (.iaload, 1) := by decide +kernel
theorem dL_law_870 : decode code 870 = .ok (.invokevirtual 94, 3) := by decide +kernel
theorem dL_law_873 : decode code 873 = .ok (.if_icmp .eq 1747, 3) := by decide +kernel
theorem dL_law_876 : decode code 876 = .ok (.iconst 0, 1) := by decide +kernel
theorem dL_law_877 : decode code 877 = .ok (.ireturn, 1) := by decide +kernel
theorem dL_law_878 : decode code 878 = .ok (.aload_n 1, 1) := by decide +kernel
theorem dL_law_879 : decode code 879 = .ok (.aload_n 0, 1) := by decide +kernel
theorem dL_law_880 : decode code 880 = .ok (.iload 4, 2) := by decide +kernel
theorem dL_law_882 : decode code 882 = .ok (.iconst 1, 1) := by decide +kernel
theorem dL_law_883 : decode code 883 = .ok (.iadd, 1) := by decide +kernel
theorem dL_law_884 : decode code 884 = .ok (.iaload, 1) := by decide +kernel
theorem dL_law_885 : decode code 885 = .ok (.aload_n 0, 1) := by decide +kernel
theorem dL_law_886 : decode code 886 = .ok (.iload 4, 2) := by decide +kernel
theorem dL_law_888 : decode code 888 = .ok (.iconst 2, 1) := by decide +kernel
theorem dL_law_889 : decode code 889 = .ok (.iadd, 1) := by decide +kernel
theorem dL_law_890 : decode code 890 = .ok (.iaload, 1) := by decide +kernel
theorem dL_law_891 : decode code 891 = .ok (.invokevirtual 95, 3) := by decide +kernel
theorem dL_law_894 : decode code 894 = .ok (.aload_n 2, 1) := by decide +kernel
theorem dL_law_895 : decode code 895 = .ok (.aload_n 0, 1) := by decide +kernel
theorem dL_law_896 : decode code 896 = .ok (.iload 4, 2) := by decide +kernel
theorem dL_law_898 : decode code 898 = .ok (.iconst 1, 1) := by decide +kernel
theorem dL_law_899 : decode code 899 = .ok (.iadd, 1) := by decide +kernel
theorem dL_law_900 : decode code 900 = .ok (.iaload, 1) := by decide +kernel
theorem dL_law_901 : decode code 901 = .ok (.aload_n 0, 1) := by decide +kernel
theorem dL_law_902 : decode code 902 = .ok (.iload 4, 2) := by decide +kernel
theorem dL_law_904 : decode code 904 = .ok (.iconst 2, 1) := by decide +kernel
theorem dL_law_905 : decode code 905 = .ok (.iadd, 1) := by decide +kernel
theorem dL_law_906 : decode code 906 = .ok (.iaload, 1) := by decide +kernel
theorem dL_law_907 : decode code 907 = .ok (.invokevirtual 98, 3) := by decide +kernel
theorem dL_law_910 : decode code 910 = .ok (.if_icmp .eq 1710, 3) := by decide +kernel
theorem dL_law_913 : decode code 913 = .ok (.iconst 0, 1) := by decide +kernel
theorem dL_law_914 : decode code 914 = .ok (.ireturn, 1) := by decide +kernel
theorem dL_law_915 : decode code 915 = .ok (.aload_n 1, 1) := by decide +kernel
theorem dL_law_916 : decode code 916 = .ok (.aload_n 0, 1) := by decide +kernel
theorem dL_law_917 : decode code 917 = .ok (.iload 4, 2) := by decide +kernel
theorem dL_law_919 : decode code 919 = .ok (.iconst 1, 1) := by decide +kernel
theorem dL_law_920 : decode code 920 = .ok (.iadd, 1) := by decide +kernel
theorem dL_law_921 : decode code 921 = .ok (.iaload, 1) := by decide +kernel
theorem dL_law_922 : decode code 922 = .ok (.invokevirtual 99, 3) := by decide +kernel
theorem dL_law_925 : decode code 925 = .ok (.aload_n 2, 1) := by decide +kernel
theorem dL_law_926 : decode code 926 = .ok (.aload_n 0, 1) := by decide +kernel
theorem dL_law_927 : decode code 927 = .ok (.iload 4, 2) := by decide +kernel
theorem dL_law_929 : decode code 929 = .ok (.iconst 1, 1) := by decide +kernel
theorem dL_law_930 : decode code 930 = .ok (.iadd, 1) := by decide +kernel
theorem dL_law_931 : decode code 931 = .ok (.iaload, 1) := by decide +kernel
theorem dL_law_932 : decode code 932 = .ok (.invokevirtual 102, 3) := by decide +kernel
theorem dL_law_935 : decode code 935 = .ok (.if_icmp .eq 1685, 3) := by decide +kernel
theorem dL_law_938 : decode code 938 = .ok (.iconst 0, 1) := by decide +kernel
theorem dL_law_939 : decode code 939 = .ok (.ireturn, 1) := by decide +kernel
theorem dL_law_940 : decode code 940 = .ok (.aload_n 1, 1) := by decide +kernel
theorem dL_law_941 : decode code 941 = .ok (.aload_n 0, 1) := by decide +kernel
theorem dL_law_942 : decode code 942 = .ok (.iload 4, 2) := by decide +kernel
theorem dL_law_944 : decode code 944 = .ok (.iconst 1, 1) := by decide +kernel
theorem dL_law_945 : decode code 945 = .ok (.iadd, 1) := by decide +kernel
theorem dL_law_946 : decode code 946 = .ok (.iaload, 1) := by decide +kernel
theorem dL_law_947 : decode code 947 = .ok (.invokevirtual 103, 3) := by decide +kernel
theorem dL_law_950 : decode code 950 = .ok (.aload_n 2, 1) := by decide +kernel
theorem dL_law_951 : decode code 951 = .ok (.aload_n 0, 1) := by decide +kernel
theorem dL_law_952 : decode code 952 = .ok (.iload 4, 2) := by decide +kernel
theorem dL_law_954 : decode code 954 = .ok (.iconst 1, 1) := by decide +kernel
theorem dL_law_955 : decode code 955 = .ok (.iadd, 1) := by decide +kernel
theorem dL_law_956 : decode code 956 = .ok (.iaload, 1) := by decide +kernel
theorem dL_law_957 : decode code 957 = .ok (.invokevirtual 106, 3) := by decide +kernel
theorem dL_law_960 : decode code 960 = .ok (.if_icmp .eq 1660, 3) := by decide +kernel
theorem dL_law_963 : decode code 963 = .ok (.iconst 0, 1) := by decide +kernel
theorem dL_law_964 : decode code 964 = .ok (.ireturn, 1) := by decide +kernel
theorem dL_law_965 : decode code 965 = .ok (.aload_n 1, 1) := by decide +kernel
theorem dL_law_966 : decode code 966 = .ok (.aload_n 0, 1) := by decide +kernel
theorem dL_law_967 : decode code 967 = .ok (.iload 4, 2) := by decide +kernel
theorem dL_law_969 : decode code 969 = .ok (.iconst 1, 1) := by decide +kernel
theorem dL_law_970 : decode code 970 = .ok (.iadd, 1) := by decide +kernel
theorem dL_law_971 : decode code 971 = .ok (.iaload, 1) := by decide +kernel
theorem dL_law_972 : decode code 972 = .ok (.aload_n 0, 1) := by decide +kernel
theorem dL_law_973 : decode code 973 = .ok (.iload 4, 2) := by decide +kernel
theorem dL_law_975 : decode code 975 = .ok (.iconst 2, 1) := by decide +kernel
theorem dL_law_976 : decode code 976 = .ok (.iadd, 1) := by decide +kernel
theorem dL_law_977 : decode code 977 = .ok (.iaload, 1) := by decide +kernel
theorem dL_law_978 : decode code 978 = .ok (.invokevirtual 107, 3) := by decide +kernel
theorem dL_law_981 : decode code 981 = .ok (.aload_n 2, 1) := by decide +kernel
theorem dL_law_982 : decode code 982 = .ok (.aload_n 0, 1) := by decide +kernel
theorem dL_law_983 : decode code 983 = .ok (.iload 4, 2) := by decide +kernel
theorem dL_law_985 : decode code 985 = .ok (.iconst 1, 1) := by decide +kernel
theorem dL_law_986 : decode code 986 = .ok (.iadd, 1) := by decide +kernel
theorem dL_law_987 : decode code 987 = .ok (.iaload, 1) := by decide +kernel
theorem dL_law_988 : decode code 988 = .ok (.aload_n 0, 1) := by decide +kernel
theorem dL_law_989 : decode code 989 = .ok (.iload 4, 2) := by decide +kernel
theorem dL_law_991 : decode code 991 = .ok (.iconst 2, 1) := by decide +kernel
theorem dL_law_992 : decode code 992 = .ok (.iadd, 1) := by decide +kernel
theorem dL_law_993 : decode code 993 = .ok (.iaload, 1) := by decide +kernel
theorem dL_law_994 : decode code 994 = .ok (.invokevirtual 110, 3) := by decide +kernel
theorem dL_law_997 : decode code 997 = .ok (.if_icmp .eq 1623, 3) := by decide +kernel
theorem dL_law_1000 : decode code 1000 = .ok (.iconst 0, 1) := by decide +kernel
theorem dL_law_1001 : decode code 1001 = .ok (.ireturn, 1) := by decide +kernel
theorem dL_law_1002 : decode code 1002 = .ok (.aload_n 1, 1) := by decide +kernel
theorem dL_law_1003 : decode code 1003 = .ok (.aload_n 0, 1) := by decide +kernel
theorem dL_law_1004 : decode code 1004 = .ok (.iload 4, 2) := by decide +kernel
theorem dL_law_1006 : decode code 1006 = .ok (.iconst 1, 1) := by decide +kernel
theorem dL_law_1007 : decode code 1007 = .ok (.iadd, 1) := by decide +kernel
theorem dL_law_1008 : decode code 1008 = .ok (.iaload, 1) := by decide +kernel
theorem dL_law_1009 : decode code 1009 = .ok (.invokevirtual 111, 3) := by decide +kernel
theorem dL_law_1012 : decode code 1012 = .ok (.aload_n 2, 1) := by decide +kernel
theorem dL_law_1013 : decode code 1013 = .ok (.aload_n 0, 1) := by decide +kernel
theorem dL_law_1014 : decode code 1014 = .ok (.iload 4, 2) := by decide +kernel
theorem dL_law_1016 : decode code 1016 = .ok (.iconst 1, 1) := by decide +kernel
theorem dL_law_1017 : decode code 1017 = .ok (.iadd, 1) := by decide +kernel
theorem dL_law_1018 : decode code 1018 = .ok (.iaload, 1) := by decide +kernel
theorem dL_law_1019 : decode code 1019 = .ok (.invokevirtual 114, 3) := by decide +kernel
theorem dL_law_1022 : decode code 1022 = .ok (.if_icmp .eq 1598, 3) := by decide +kernel
theorem dL_law_1025 : decode code 1025 = .ok (.iconst 0, 1) := by decide +kernel
theorem dL_law_1026 : decode code 1026 = .ok (.ireturn, 1) := by decide +kernel
theorem dL_law_1027 : decode code 1027 = .ok (.aload_n 1, 1) := by decide +kernel
theorem dL_law_1028 : decode code 1028 = .ok (.aload_n 0, 1) := by decide +kernel
theorem dL_law_1029 : decode code 1029 = .ok (.iload 4, 2) := by decide +kernel
theorem dL_law_1031 : decode code 1031 = .ok (.iconst 1, 1) := by decide +kernel
theorem dL_law_1032 : decode code 1032 = .ok (.iadd, 1) := by decide +kernel
theorem dL_law_1033 : decode code 1033 = .ok (.iaload, 1) := by decide +kernel
theorem dL_law_1034 : decode code 1034 = .ok (.aload_n 0, 1) := by decide +kernel
theorem dL_law_1035 : decode code 1035 = .ok (.iload 4, 2) := by decide +kernel
theorem dL_law_1037 : decode code 1037 = .ok (.iconst 2, 1) := by decide +kernel
theorem dL_law_1038 : decode code 1038 = .ok (.iadd, 1) := by decide +kernel
theorem dL_law_1039 : decode code 1039 = .ok (.iaload, 1) := by decide +kernel
theorem dL_law_1040 : decode code 1040 = .ok (.aload_n 0, 1) := by decide +kernel
theorem dL_law_1041 : decode code 1041 = .ok (.iload 4, 2) := by decide +kernel
theorem dL_law_1043 : decode code 1043 = .ok (.iconst 3, 1) := by decide +kernel
theorem dL_law_1044 : decode code 1044 = .ok (.iadd, 1) := by decide +kernel
theorem dL_law_1045 : decode code 1045 = .ok (.iaload, 1) := by decide +kernel
theorem dL_law_1046 : decode code 1046 = .ok (.invokevirtual 115, 3) := by decide +kernel
theorem dL_law_1049 : decode code 1049 = .ok (.aload_n 2, 1) := by decide +kernel
theorem dL_law_1050 : decode code 1050 = .ok (.aload_n 0, 1) := by decide +kernel
theorem dL_law_1051 : decode code 1051 = .ok (.iload 4, 2) := by decide +kernel
theorem dL_law_1053 : decode code 1053 = .ok (.iconst 1, 1) := by decide +kernel
theorem dL_law_1054 : decode code 1054 = .ok (.iadd, 1) := by decide +kernel
theorem dL_law_1055 : decode code 1055 = .ok (.iaload, 1) := by decide +kernel
theorem dL_law_1056 : decode code 1056 = .ok (.aload_n 0, 1) := by decide +kernel
theorem dL_law_1057 : decode code 1057 = .ok (.iload 4, 2) := by decide +kernel
theorem dL_law_1059 : decode code 1059 = .ok (.iconst 2, 1) := by decide +kernel
theorem dL_law_1060 : decode code 1060 = .ok (.iadd, 1) := by decide +kernel
theorem dL_law_1061 : decode code 1061 = .ok (.iaload, 1) := by decide +kernel
theorem dL_law_1062 : decode code 1062 = .ok (.aload_n 0, 1) := by decide +kernel
theorem dL_law_1063 : decode code 1063 = .ok (.iload 4, 2) := by decide +kernel
theorem dL_law_1065 : decode code 1065 = .ok (.iconst 3, 1) := by decide +kernel
theorem dL_law_1066 : decode code 1066 = .ok (.iadd, 1) := by decide +kernel
theorem dL_law_1067 : decode code 1067 = .ok (.iaload, 1) := by decide +kernel
theorem dL_law_1068 : decode code 1068 = .ok (.invokevirtual 118, 3) := by decide +kernel
theorem dL_law_1071 : decode code 1071 = .ok (.if_icmp .eq 1549, 3) := by decide +kernel
theorem dL_law_1074 : decode code 1074 = .ok (.iconst 0, 1) := by decide +kernel
theorem dL_law_1075 : decode code 1075 = .ok (.ireturn, 1) := by decide +kernel
theorem dL_law_1076 : decode code 1076 = .ok (.aload_n 1, 1) := by decide +kernel
theorem dL_law_1077 : decode code 1077 = .ok (.aload_n 0, 1) := by decide +kernel
theorem dL_law_1078 : decode code 1078 = .ok (.iload 4, 2) := by decide +kernel
theorem dL_law_1080 : decode code 1080 = .ok (.iconst 1, 1) := by decide +kernel
theorem dL_law_1081 : decode code 1081 = .ok (.iadd, 1) := by decide +kernel
theorem dL_law_1082 : decode code 1082 = .ok (.iaload, 1) := by decide +kernel
theorem dL_law_1083 : decode code 1083 = .ok (.aload_n 0, 1) := by decide +kernel
theorem dL_law_1084 : decode code 1084 = .ok (.iload 4, 2) := by decide +kernel
theorem dL_law_1086 : decode code 1086 = .ok (.iconst 2, 1) := by decide +kernel
theorem dL_law_1087 : decode code 1087 = .ok (.iadd, 1) := by decide +kernel
theorem dL_law_1088 : decode code 1088 = .ok (.iaload, 1) := by decide +kernel
theorem dL_law_1089 : decode code 1089 = .ok (.aload_n 0, 1) := by decide +kernel
theorem dL_law_1090 : decode code 1090 = .ok (.iload 4, 2) := by decide +kernel
theorem dL_law_1092 : decode code 1092 = .ok (.iconst 3, 1) := by decide +kernel
theorem dL_law_1093 : decode code 1093 = .ok (.iadd, 1) := by decide +kernel
theorem dL_law_1094 : decode code 1094 = .ok (.iaload, 1) := by decide +kernel
theorem dL_law_1095 : decode code 1095 = .ok (.invokevirtual 119, 3) := by decide +kernel
theorem dL_law_1098 : decode code 1098 = .ok (.aload_n 2, 1) := by decide +kernel
theorem dL_law_1099 : decode code 1099 = .ok (.aload_n 0, 1) := by decide +kernel
theorem dL_law_1100 : decode code 1100 = .ok (.iload 4, 2) := by decide +kernel
theorem dL_law_1102 : decode code 1102 = .ok (.iconst 1, 1) := by decide +kernel
theorem dL_law_1103 : decode code 1103 = .ok (.iadd, 1) := by decide +kernel
theorem dL_law_1104 : decode code 1104 = .ok (.iaload, 1) := by decide +kernel
theorem dL_law_1105 : decode code 1105 = .ok (.aload_n 0, 1) := by decide +kernel
theorem dL_law_1106 : decode code 1106 = .ok (.iload 4, 2) := by decide +kernel
theorem dL_law_1108 : decode code 1108 = .ok (.iconst 2, 1) := by decide +kernel
theorem dL_law_1109 : decode code 1109 = .ok (.iadd, 1) := by decide +kernel
theorem dL_law_1110 : decode code 1110 = .ok (.iaload, 1) := by decide +kernel
theorem dL_law_1111 : decode code 1111 = .ok (.aload_n 0, 1) := by decide +kernel
theorem dL_law_1112 : decode code 1112 = .ok (.iload 4, 2) := by decide +kernel
theorem dL_law_1114 : decode code 1114 = .ok (.iconst 3, 1) := by decide +kernel
theorem dL_law_1115 : decode code 1115 = .ok (.iadd, 1) := by decide +kernel
theorem dL_law_1116 : decode code 1116 = .ok (.iaload, 1) := by decide +kernel
theorem dL_law_1117 : decode code 1117 = .ok (.invokevirtual 122, 3) := by decide +kernel
theorem dL_law_1120 : decode code 1120 = .ok (.if_icmp .eq 1500, 3) := by decide +kernel
theorem dL_law_1123 : decode code 1123 = .ok (.iconst 0, 1) := by decide +kernel
theorem dL_law_1124 : decode code 1124 = .ok (.ireturn, 1) := by decide +kernel
theorem dL_law_1125 : decode code 1125 = .ok (.aload_n 1, 1) := by decide +kernel
theorem dL_law_1126 : decode code 1126 = .ok (.aload_n 0, 1) := by decide +kernel
theorem dL_law_1127 : decode code 1127 = .ok (.iload 4, 2) := by decide +kernel
theorem dL_law_1129 : decode code 1129 = .ok (.iconst 1, 1) := by decide +kernel
theorem dL_law_1130 : decode code 1130 = .ok (.iadd, 1) := by decide +kernel
theorem dL_law_1131 : decode code 1131 = .ok (.iaload, 1) := by decide +kernel
theorem dL_law_1132 : decode code 1132 = .ok (.invokevirtual 123, 3) := by decide +kernel
theorem dL_law_1135 : decode code 1135 = .ok (.aload_n 2, 1) := by decide +kernel
theorem dL_law_1136 : decode code 1136 = .ok (.aload_n 0, 1) := by decide +kernel
theorem dL_law_1137 : decode code 1137 = .ok (.iload 4, 2) := by decide +kernel
theorem dL_law_1139 : decode code 1139 = .ok (.iconst 1, 1) := by decide +kernel
theorem dL_law_1140 : decode code 1140 = .ok (.iadd, 1) := by decide +kernel
theorem dL_law_1141 : decode code 1141 = .ok (.iaload, 1) := by decide +kernel
theorem dL_law_1142 : decode code 1142 = .ok (.invokevirtual 126, 3) := by decide +kernel
theorem dL_law_1145 : decode code 1145 = .ok (.if_icmp .eq 1475, 3) := by decide +kernel
theorem dL_law_1148 : decode code 1148 = .ok (.iconst 0, 1) := by decide +kernel
theorem dL_law_1149 : decode code 1149 = .ok (.ireturn, 1) := by decide +kernel
theorem dL_law_1150 : decode code 1150 = .ok (.aload_n 1, 1) := by decide +kernel
theorem dL_law_1151 : decode code 1151 = .ok (.aload_n 0, 1) := by decide +kernel
theorem dL_law_1152 : decode code 1152 = .ok (.iload 4, 2) := by decide +kernel
theorem dL_law_1154 : decode code 1154 = .ok (.iconst 1, 1) := by decide +kernel
theorem dL_law_1155 : decode code 1155 = .ok (.iadd, 1) := by decide +kernel
theorem dL_law_1156 : decode code 1156 = .ok (.iaload, 1) := by decide +kernel
theorem dL_law_1157 : decode code 1157 = .ok (.aload_n 0, 1) := by decide +kernel
theorem dL_law_1158 : decode code 1158 = .ok (.iload 4, 2) := by decide +kernel
theorem dL_law_1160 : decode code 1160 = .ok (.iconst 2, 1) := by decide +kernel
theorem dL_law_1161 : decode code 1161 = .ok (.iadd, 1) := by decide +kernel
theorem dL_law_1162 : decode code 1162 = .ok (.iaload, 1) := by decide +kernel
theorem dL_law_1163 : decode code 1163 = .ok (.invokevirtual 127, 3) := by decide +kernel
theorem dL_law_1166 : decode code 1166 = .ok (.aload_n 2, 1) := by decide +kernel
theorem dL_law_1167 : decode code 1167 = .ok (.aload_n 0, 1) := by decide +kernel
theorem dL_law_1168 : decode code 1168 = .ok (.iload 4, 2) := by decide +kernel
theorem dL_law_1170 : decode code 1170 = .ok (.iconst 1, 1) := by decide +kernel
theorem dL_law_1171 : decode code 1171 = .ok (.iadd, 1) := by decide +kernel
theorem dL_law_1172 : decode code 1172 = .ok (.iaload, 1) := by decide +kernel
theorem dL_law_1173 : decode code 1173 = .ok (.aload_n 0, 1) := by decide +kernel
theorem dL_law_1174 : decode code 1174 = .ok (.iload 4, 2) := by decide +kernel
theorem dL_law_1176 : decode code 1176 = .ok (.iconst 2, 1) := by decide +kernel
theorem dL_law_1177 : decode code 1177 = .ok (.iadd, 1) := by decide +kernel
theorem dL_law_1178 : decode code 1178 = .ok (.iaload, 1) := by decide +kernel
theorem dL_law_1179 : decode code 1179 = .ok (.invokevirtual 130, 3) := by decide +kernel
theorem dL_law_1182 : decode code 1182 = .ok (.if_icmp .eq 1438, 3) := by decide +kernel
theorem dL_law_1185 : decode code 1185 = .ok (.iconst 0, 1) := by decide +kernel
theorem dL_law_1186 : decode code 1186 = .ok (.ireturn, 1) := by decide +kernel
theorem dL_law_1187 : decode code 1187 = .ok (.aload_n 1, 1) := by decide +kernel
theorem dL_law_1188 : decode code 1188 = .ok (.aload_n 0, 1) := by decide +kernel
theorem dL_law_1189 : decode code 1189 = .ok (.iload 4, 2) := by decide +kernel
theorem dL_law_1191 : decode code 1191 = .ok (.iconst 1, 1) := by decide +kernel
theorem dL_law_1192 : decode code 1192 = .ok (.iadd, 1) := by decide +kernel
theorem dL_law_1193 : decode code 1193 = .ok (.iaload, 1) := by decide +kernel
theorem dL_law_1194 : decode code 1194 = .ok (.aload_n 0, 1) := by decide +kernel
theorem dL_law_1195 : decode code 1195 = .ok (.iload 4, 2) := by decide +kernel
theorem dL_law_1197 : decode code 1197 = .ok (.iconst 2, 1) := by decide +kernel
theorem dL_law_1198 : decode code 1198 = .ok (.iadd, 1) := by decide +kernel
theorem dL_law_1199 : decode code 1199 = .ok (.iaload, 1) := by decide +kernel
theorem dL_law_1200 : decode code 1200 = .ok (.invokevirtual 131, 3) := by decide +kernel
theorem dL_law_1203 : decode code 1203 = .ok (.aload_n 2, 1) := by decide +kernel
theorem dL_law_1204 : decode code 1204 = .ok (.aload_n 0, 1) := by decide +kernel
theorem dL_law_1205 : decode code 1205 = .ok (.iload 4, 2) := by decide +kernel
theorem dL_law_1207 : decode code 1207 = .ok (.iconst 1, 1) := by decide +kernel
theorem dL_law_1208 : decode code 1208 = .ok (.iadd, 1) := by decide +kernel
theorem dL_law_1209 : decode code 1209 = .ok (.iaload, 1) := by decide +kernel
theorem dL_law_1210 : decode code 1210 = .ok (.aload_n 0, 1) := by decide +kernel
theorem dL_law_1211 : decode code 1211 = .ok (.iload 4, 2) := by decide +kernel
theorem dL_law_1213 : decode code 1213 = .ok (.iconst 2, 1) := by decide +kernel
theorem dL_law_1214 : decode code 1214 = .ok (.iadd, 1) := by decide +kernel
theorem dL_law_1215 : decode code 1215 = .ok (.iaload, 1) := by decide +kernel
theorem dL_law_1216 : decode code 1216 = .ok (.invokevirtual 134, 3) := by decide +kernel
theorem dL_law_1219 : decode code 1219 = .ok (.if_icmp .eq 1401, 3) := by decide +kernel
theorem dL_law_1222 : decode code 1222 = .ok (.iconst 0, 1) := by decide +kernel
theorem dL_law_1223 : decode code 1223 = .ok (.ireturn, 1) := by decide +kernel
theorem dL_law_1224 : decode code 1224 = .ok (.aload_n 1, 1) := by decide +kernel
theorem dL_law_1225 : decode code 1225 = .ok (.aload_n 0, 1) := by decide +kernel
theorem dL_law_1226 : decode code 1226 = .ok (.iload 4, 2) := by decide +kernel
theorem dL_law_1228 : decode code 1228 = .ok (.iconst 1, 1) := by decide +kernel
theorem dL_law_1229 : decode code 1229 = .ok (.iadd, 1) := by decide +kernel
theorem dL_law_1230 : decode code 1230 = .ok (.iaload, 1) := by decide +kernel
theorem dL_law_1231 : decode code 1231 = .ok (.aload_n 0, 1) := by decide +kernel
theorem dL_law_1232 : decode code 1232 = .ok (.iload 4, 2) := by decide +kernel
theorem dL_law_1234 : decode code 1234 = .ok (.iconst 2, 1) := by decide +kernel
theorem dL_law_1235 : decode code 1235 = .ok (.iadd, 1) := by decide +kernel
theorem dL_law_1236 : decode code 1236 = .ok (.iaload, 1) := by decide +kernel
theorem dL_law_1237 : decode code 1237 = .ok (.invokevirtual 135, 3) := by decide +kernel
theorem dL_law_1240 : decode code 1240 = .ok (.aload_n 2, 1) := by decide +kernel
theorem dL_law_1241 : decode code 1241 = .ok (.aload_n 0, 1) := by decide +kernel
theorem dL_law_1242 : decode code 1242 = .ok (.iload 4, 2) := by decide +kernel
theorem dL_law_1244 : decode code 1244 = .ok (.iconst 1, 1) := by decide +kernel
theorem dL_law_1245 : decode code 1245 = .ok (.iadd, 1) := by decide +kernel
theorem dL_law_1246 : decode code 1246 = .ok (.iaload, 1) := by decide +kernel
theorem dL_law_1247 : decode code 1247 = .ok (.aload_n 0, 1) := by decide +kernel
theorem dL_law_1248 : decode code 1248 = .ok (.iload 4, 2) := by decide +kernel
theorem dL_law_1250 : decode code 1250 = .ok (.iconst 2, 1) := by decide +kernel
theorem dL_law_1251 : decode code 1251 = .ok (.iadd, 1) := by decide +kernel
theorem dL_law_1252 : decode code 1252 = .ok (.iaload, 1) := by decide +kernel
theorem dL_law_1253 : decode code 1253 = .ok (.invokevirtual 138, 3) := by decide +kernel
theorem dL_law_1256 : decode code 1256 = .ok (.if_icmp .eq 1364, 3) := by decide +kernel
theorem dL_law_1259 : decode code 1259 = .ok (.iconst 0, 1) := by decide +kernel
theorem dL_law_1260 : decode code 1260 = .ok (.ireturn, 1) := by decide +kernel
theorem dL_law_1261 : decode code 1261 = .ok (.aload_n 1, 1) := by decide +kernel
theorem dL_law_1262 : decode code 1262 = .ok (.aload_n 0, 1) := by decide +kernel
theorem dL_law_1263 : decode code 1263 = .ok (.iload 4, 2) := by decide +kernel
theorem dL_law_1265 : decode code 1265 = .ok (.iconst 1, 1) := by decide +kernel
theorem dL_law_1266 : decode code 1266 = .ok (.iadd, 1) := by decide +kernel
theorem dL_law_1267 : decode code 1267 = .ok (.iaload, 1) := by decide +kernel
theorem dL_law_1268 : decode code 1268 = .ok (.invokevirtual 139, 3) := by decide +kernel
theorem dL_law_1271 : decode code 1271 = .ok (.aload_n 2, 1) := by decide +kernel
theorem dL_law_1272 : decode code 1272 = .ok (.aload_n 0, 1) := by decide +kernel
theorem dL_law_1273 : decode code 1273 = .ok (.iload 4, 2) := by decide +kernel
theorem dL_law_1275 : decode code 1275 = .ok (.iconst 1, 1) := by decide +kernel
theorem dL_law_1276 : decode code 1276 = .ok (.iadd, 1) := by decide +kernel
theorem dL_law_1277 : decode code 1277 = .ok (.iaload, 1) := by decide +kernel
theorem dL_law_1278 : decode code 1278 = .ok (.invokevirtual 142, 3) := by decide +kernel
theorem dL_law_1281 : decode code 1281 = .ok (.if_icmp .eq 1339, 3) := by decide +kernel
theorem dL_law_1284 : decode code 1284 = .ok (.iconst 0, 1) := by decide +kernel
theorem dL_law_1285 : decode code 1285 = .ok (.ireturn, 1) := by decide +kernel
theorem dL_law_1286 : decode code 1286 = .ok (.aload_n 1, 1) := by decide +kernel
theorem dL_law_1287 : decode code 1287 = .ok (.aload_n 0, 1) := by decide +kernel
theorem dL_law_1288 : decode code 1288 = .ok (.iload 4, 2) := by decide +kernel
theorem dL_law_1290 : decode code 1290 = .ok (.iconst 1, 1) := by decide +kernel
theorem dL_law_1291 : decode code 1291 = .ok (.iadd, 1) := by decide +kernel
theorem dL_law_1292 : decode code 1292 = .ok (.iaload, 1) := by decide +kernel
theorem dL_law_1293 : decode code 1293 = .ok (.aload_n 0, 1) := by decide +kernel
theorem dL_law_1294 : decode code 1294 = .ok (.iload 4, 2) := by decide +kernel
theorem dL_law_1296 : decode code 1296 = .ok (.iconst 2, 1) := by decide +kernel
theorem dL_law_1297 : decode code 1297 = .ok (.iadd, 1) := by decide +kernel
theorem dL_law_1298 : decode code 1298 = .ok (.iaload, 1) := by decide +kernel
theorem dL_law_1299 : decode code 1299 = .ok (.invokevirtual 143, 3) := by decide +kernel
theorem dL_law_1302 : decode code 1302 = .ok (.aload_n 2, 1) := by decide +kernel
theorem dL_law_1303 : decode code 1303 = .ok (.aload_n 0, 1) := by decide +kernel
theorem dL_law_1304 : decode code 1304 = .ok (.iload 4, 2) := by decide +kernel
theorem dL_law_1306 : decode code 1306 = .ok (.iconst 1, 1) := by decide +kernel
theorem dL_law_1307 : decode code 1307 = .ok (.iadd, 1) := by decide +kernel
theorem dL_law_1308 : decode code 1308 = .ok (.iaload, 1) := by decide +kernel
theorem dL_law_1309 : decode code 1309 = .ok (.aload_n 0, 1) := by decide +kernel
theorem dL_law_1310 : decode code 1310 = .ok (.iload 4, 2) := by decide +kernel
theorem dL_law_1312 : decode code 1312 = .ok (.iconst 2, 1) := by decide +kernel
theorem dL_law_1313 : decode code 1313 = .ok (.iadd, 1) := by decide +kernel
theorem dL_law_1314 : decode code 1314 = .ok (.iaload, 1) := by decide +kernel
theorem dL_law_1315 : decode code 1315 = .ok (.invokevirtual 146, 3) := by decide +kernel
theorem dL_law_1318 : decode code 1318 = .ok (.if_icmp .eq 1302, 3) := by decide +kernel
theorem dL_law_1321 : decode code 1321 = .ok (.iconst 0, 1) := by decide +kernel
theorem dL_law_1322 : decode code 1322 = .ok (.ireturn, 1) := by decide +kernel
theorem dL_law_1323 : decode code 1323 = .ok (.aload_n 1, 1) := by decide +kernel
theorem dL_law_1324 : decode code 1324 = .ok (.aload_n 0, 1) := by decide +kernel
theorem dL_law_1325 : decode code 1325 = .ok (.iload 4, 2) := by decide +kernel
theorem dL_law_1327 : decode code 1327 = .ok (.iconst 1, 1) := by decide +kernel
theorem dL_law_1328 : decode code 1328 = .ok (.iadd, 1) := by decide +kernel
theorem dL_law_1329 : decode code 1329 = .ok (.iaload, 1) := by decide +kernel
theorem dL_law_1330 : decode code 1330 = .ok (.aload_n 0, 1) := by decide +kernel
theorem dL_law_1331 : decode code 1331 = .ok (.iload 4, 2) := by decide +kernel
theorem dL_law_1333 : decode code 1333 = .ok (.iconst 2, 1) := by decide +kernel
theorem dL_law_1334 : decode code 1334 = .ok (.iadd, 1) := by decide +kernel
theorem dL_law_1335 : decode code 1335 = .ok (.iaload, 1) := by decide +kernel
theorem dL_law_1336 : decode code 1336 = .ok (.invokevirtual 147, 3) := by decide +kernel
theorem dL_law_1339 : decode code 1339 = .ok (.aload_n 2, 1) := by decide +kernel
theorem dL_law_1340 : decode code 1340 = .ok (.aload_n 0, 1) := by decide +kernel
theorem dL_law_1341 : decode code 1341 = .ok (.iload 4, 2) := by decide +kernel
theorem dL_law_1343 : decode code 1343 = .ok (.iconst 1, 1) := by decide +kernel
theorem dL_law_1344 : decode code 1344 = .ok (.iadd, 1) := by decide +kernel
theorem dL_law_1345 : decode code 1345 = .ok (.iaload, 1) := by decide +kernel
theorem dL_law_1346 : decode code 1346 = .ok (.aload_n 0, 1) := by decide +kernel
theorem dL_law_1347 : decode code 1347 = .ok (.iload 4, 2) := by decide +kernel
theorem dL_law_1349 : decode code 1349 = .ok (.iconst 2, 1) := by decide +kernel
theorem dL_law_1350 : decode code 1350 = .ok (.iadd, 1) := by decide +kernel
theorem dL_law_1351 : decode code 1351 = .ok (.iaload, 1) := by decide +kernel
theorem dL_law_1352 : decode code 1352 = .ok (.invokevirtual 150, 3) := by decide +kernel
theorem dL_law_1355 : decode code 1355 = .ok (.if_icmp .eq 1265, 3) := by decide +kernel
theorem dL_law_1358 : decode code 1358 = .ok (.iconst 0, 1) := by decide +kernel
theorem dL_law_1359 : decode code 1359 = .ok (.ireturn, 1) := by decide +kernel
theorem dL_law_1360 : decode code 1360 = .ok (.aload_n 1, 1) := by decide +kernel
theorem dL_law_1361 : decode code 1361 = .ok (.aload_n 0, 1) := by decide +kernel
theorem dL_law_1362 : decode code 1362 = .ok (.iload 4, 2) := by decide +kernel
theorem dL_law_1364 : decode code 1364 = .ok (.iconst 1, 1) := by decide +kernel
theorem dL_law_1365 : decode code 1365 = .ok (.iadd, 1) := by decide +kernel
theorem dL_law_1366 : decode code 1366 = .ok (.iaload, 1) := by decide +kernel
theorem dL_law_1367 : decode code 1367 = .ok (.aload_n 0, 1) := by decide +kernel
theorem dL_law_1368 : decode code 1368 = .ok (.iload 4, 2) := by decide +kernel
theorem dL_law_1370 : decode code 1370 = .ok (.iconst 2, 1) := by decide +kernel
theorem dL_law_1371 : decode code 1371 = .ok (.iadd, 1) := by decide +kernel
theorem dL_law_1372 : decode code 1372 = .ok (.iaload, 1) := by decide +kernel
theorem dL_law_1373 : decode code 1373 = .ok (.ifCond .eq 7, 3) := by decide +kernel
theorem dL_law_1376 : decode code 1376 = .ok (.iconst 1, 1) := by decide +kernel
theorem dL_law_1377 : decode code 1377 = .ok (.goto 4, 3) := by decide +kernel
theorem dL_law_1380 : decode code 1380 = .ok (.iconst 0, 1) := by decide +kernel
theorem dL_law_1381 : decode code 1381 = .ok (.invokevirtual 151, 3) := by decide +kernel
theorem dL_law_1384 : decode code 1384 = .ok (.aload_n 2, 1) := by decide +kernel
theorem dL_law_1385 : decode code 1385 = .ok (.aload_n 0, 1) := by decide +kernel
theorem dL_law_1386 : decode code 1386 = .ok (.iload 4, 2) := by decide +kernel
theorem dL_law_1388 : decode code 1388 = .ok (.iconst 1, 1) := by decide +kernel
theorem dL_law_1389 : decode code 1389 = .ok (.iadd, 1) := by decide +kernel
theorem dL_law_1390 : decode code 1390 = .ok (.iaload, 1) := by decide +kernel
theorem dL_law_1391 : decode code 1391 = .ok (.aload_n 0, 1) := by decide +kernel
theorem dL_law_1392 : decode code 1392 = .ok (.iload 4, 2) := by decide +kernel
theorem dL_law_1394 : decode code 1394 = .ok (.iconst 2, 1) := by decide +kernel
theorem dL_law_1395 : decode code 1395 = .ok (.iadd, 1) := by decide +kernel
theorem dL_law_1396 : decode code 1396 = .ok (.iaload, 1) := by decide +kernel
theorem dL_law_1397 : decode code 1397 = .ok (.ifCond .eq 7, 3) := by decide +kernel
theorem dL_law_1400 : decode code 1400 = .ok (.iconst 1, 1) := by decide +kernel
theorem dL_law_1401 : decode code 1401 = .ok (.goto 4, 3) := by decide +kernel
theorem dL_law_1404 : decode code 1404 = .ok (.iconst 0, 1) := by decide +kernel
theorem dL_law_1405 : decode code 1405 = .ok (.invokevirtual 155, 3) := by decide +kernel
theorem dL_law_1408 : decode code 1408 = .ok (.if_icmp .eq 1212, 3) := by decide +kernel
theorem dL_law_1411 : decode code 1411 = .ok (.iconst 0, 1) := by decide +kernel
theorem dL_law_1412 : decode code 1412 = .ok (.ireturn, 1) := by decide +kernel
theorem dL_law_1413 : decode code 1413 = .ok (.aload_n 1, 1) := by decide +kernel
theorem dL_law_1414 : decode code 1414 = .ok (.aload_n 0, 1) := by decide +kernel
theorem dL_law_1415 : decode code 1415 = .ok (.iload 4, 2) := by decide +kernel
theorem dL_law_1417 : decode code 1417 = .ok (.iconst 1, 1) := by decide +kernel
theorem dL_law_1418 : decode code 1418 = .ok (.iadd, 1) := by decide +kernel
theorem dL_law_1419 : decode code 1419 = .ok (.iaload, 1) := by decide +kernel
theorem dL_law_1420 : decode code 1420 = .ok (.aload_n 0, 1) := by decide +kernel
theorem dL_law_1421 : decode code 1421 = .ok (.iload 4, 2) := by decide +kernel
theorem dL_law_1423 : decode code 1423 = .ok (.iconst 2, 1) := by decide +kernel
theorem dL_law_1424 : decode code 1424 = .ok (.iadd, 1) := by decide +kernel
theorem dL_law_1425 : decode code 1425 = .ok (.iaload, 1) := by decide +kernel
theorem dL_law_1426 : decode code 1426 = .ok (.ifCond .eq 7, 3) := by decide +kernel
theorem dL_law_1429 : decode code 1429 = .ok (.iconst 1, 1) := by decide +kernel
theorem dL_law_1430 : decode code 1430 = .ok (.goto 4, 3) := by decide +kernel
theorem dL_law_1433 : decode code 1433 = .ok (.iconst 0, 1) := by decide +kernel
theorem dL_law_1434 : decode code 1434 = .ok (.invokevirtual 156, 3) := by decide +kernel
theorem dL_law_1437 : decode code 1437 = .ok (.aload_n 2, 1) := by decide +kernel
theorem dL_law_1438 : decode code 1438 = .ok (.aload_n 0, 1) := by decide +kernel
theorem dL_law_1439 : decode code 1439 = .ok (.iload 4, 2) := by decide +kernel
theorem dL_law_1441 : decode code 1441 = .ok (.iconst 1, 1) := by decide +kernel
theorem dL_law_1442 : decode code 1442 = .ok (.iadd, 1) := by decide +kernel
theorem dL_law_1443 : decode code 1443 = .ok (.iaload, 1) := by decide +kernel
theorem dL_law_1444 : decode code 1444 = .ok (.aload_n 0, 1) := by decide +kernel
theorem dL_law_1445 : decode code 1445 = .ok (.iload 4, 2) := by decide +kernel
theorem dL_law_1447 : decode code 1447 = .ok (.iconst 2, 1) := by decide +kernel
theorem dL_law_1448 : decode code 1448 = .ok (.iadd, 1) := by decide +kernel
theorem dL_law_1449 : decode code 1449 = .ok (.iaload, 1) := by decide +kernel
theorem dL_law_1450 : decode code 1450 = .ok (.ifCond .eq 7, 3) := by decide +kernel
theorem dL_law_1453 : decode code 1453 = .ok (.iconst 1, 1) := by decide +kernel
theorem dL_law_1454 : decode code 1454 = .ok (.goto 4, 3) := by decide +kernel
theorem dL_law_1457 : decode code 1457 = .ok (.iconst 0, 1) := by decide +kernel
theorem dL_law_1458 : decode code 1458 = .ok (.invokevirtual 159, 3) := by decide +kernel
theorem dL_law_1461 : decode code 1461 = .ok (.if_icmp .eq 1159, 3) := by decide +kernel
theorem dL_law_1464 : decode code 1464 = .ok (.iconst 0, 1) := by decide +kernel
theorem dL_law_1465 : decode code 1465 = .ok (.ireturn, 1) := by decide +kernel
theorem dL_law_1466 : decode code 1466 = .ok (.aload_n 1, 1) := by decide +kernel
theorem dL_law_1467 : decode code 1467 = .ok (.aload_n 0, 1) := by decide +kernel
theorem dL_law_1468 : decode code 1468 = .ok (.iload 4, 2) := by decide +kernel
theorem dL_law_1470 : decode code 1470 = .ok (.iconst 1, 1) := by decide +kernel
theorem dL_law_1471 : decode code 1471 = .ok (.iadd, 1) := by decide +kernel
theorem dL_law_1472 : decode code 1472 = .ok (.iaload, 1) := by decide +kernel
theorem dL_law_1473 : decode code 1473 = .ok (.aload_n 0, 1) := by decide +kernel
theorem dL_law_1474 : decode code 1474 = .ok (.iload 4, 2) := by decide +kernel
theorem dL_law_1476 : decode code 1476 = .ok (.iconst 2, 1) := by decide +kernel
theorem dL_law_1477 : decode code 1477 = .ok (.iadd, 1) := by decide +kernel
theorem dL_law_1478 : decode code 1478 = .ok (.iaload, 1) := by decide +kernel
theorem dL_law_1479 : decode code 1479 = .ok (.ifCond .eq 7, 3) := by decide +kernel
theorem dL_law_1482 : decode code 1482 = .ok (.iconst 1, 1) := by decide +kernel
theorem dL_law_1483 : decode code 1483 = .ok (.goto 4, 3) := by decide +kernel
theorem dL_law_1486 : decode code 1486 = .ok (.iconst 0, 1) := by decide +kernel
theorem dL_law_1487 : decode code 1487 = .ok (.aload_n 0, 1) := by decide +kernel
theorem dL_law_1488 : decode code 1488 = .ok (.iload 4, 2) := by decide +kernel
theorem dL_law_1490 : decode code 1490 = .ok (.iconst 3, 1) := by decide +kernel
theorem dL_law_1491 : decode code 1491 = .ok (.iadd, 1) := by decide +kernel
theorem dL_law_1492 : decode code 1492 = .ok (.iaload, 1) := by decide +kernel
theorem dL_law_1493 : decode code 1493 = .ok (.invokevirtual 160, 3) := by decide +kernel
theorem dL_law_1496 : decode code 1496 = .ok (.aload_n 2, 1) := by decide +kernel
theorem dL_law_1497 : decode code 1497 = .ok (.aload_n 0, 1) := by decide +kernel
theorem dL_law_1498 : decode code 1498 = .ok (.iload 4, 2) := by decide +kernel
theorem dL_law_1500 : decode code 1500 = .ok (.iconst 1, 1) := by decide +kernel
theorem dL_law_1501 : decode code 1501 = .ok (.iadd, 1) := by decide +kernel
theorem dL_law_1502 : decode code 1502 = .ok (.iaload, 1) := by decide +kernel
theorem dL_law_1503 : decode code 1503 = .ok (.aload_n 0, 1) := by decide +kernel
theorem dL_law_1504 : decode code 1504 = .ok (.iload 4, 2) := by decide +kernel
theorem dL_law_1506 : decode code 1506 = .ok (.iconst 2, 1) := by decide +kernel
theorem dL_law_1507 : decode code 1507 = .ok (.iadd, 1) := by decide +kernel
theorem dL_law_1508 : decode code 1508 = .ok (.iaload, 1) := by decide +kernel
theorem dL_law_1509 : decode code 1509 = .ok (.ifCond .eq 7, 3) := by decide +kernel
theorem dL_law_1512 : decode code 1512 = .ok (.iconst 1, 1) := by decide +kernel
theorem dL_law_1513 : decode code 1513 = .ok (.goto 4, 3) := by decide +kernel
theorem dL_law_1516 : decode code 1516 = .ok (.iconst 0, 1) := by decide +kernel
theorem dL_law_1517 : decode code 1517 = .ok (.aload_n 0, 1) := by decide +kernel
theorem dL_law_1518 : decode code 1518 = .ok (.iload 4, 2) := by decide +kernel
theorem dL_law_1520 : decode code 1520 = .ok (.iconst 3, 1) := by decide +kernel
theorem dL_law_1521 : decode code 1521 = .ok (.iadd, 1) := by decide +kernel
theorem dL_law_1522 : decode code 1522 = .ok (.iaload, 1) := by decide +kernel
theorem dL_law_1523 : decode code 1523 = .ok (.invokevirtual 164, 3) := by decide +kernel
theorem dL_law_1526 : decode code 1526 = .ok (.if_icmp .eq 1094, 3) := by decide +kernel
theorem dL_law_1529 : decode code 1529 = .ok (.iconst 0, 1) := by decide +kernel
theorem dL_law_1530 : decode code 1530 = .ok (.ireturn, 1) := by decide +kernel
theorem dL_law_1531 : decode code 1531 = .ok (.aload_n 1, 1) := by decide +kernel
theorem dL_law_1532 : decode code 1532 = .ok (.aload_n 0, 1) := by decide +kernel
theorem dL_law_1533 : decode code 1533 = .ok (.iload 4, 2) := by decide +kernel
theorem dL_law_1535 : decode code 1535 = .ok (.iconst 1, 1) := by decide +kernel
theorem dL_law_1536 : decode code 1536 = .ok (.iadd, 1) := by decide +kernel
theorem dL_law_1537 : decode code 1537 = .ok (.iaload, 1) := by decide +kernel
theorem dL_law_1538 : decode code 1538 = .ok (.aload_n 0, 1) := by decide +kernel
theorem dL_law_1539 : decode code 1539 = .ok (.iload 4, 2) := by decide +kernel
theorem dL_law_1541 : decode code 1541 = .ok (.iconst 2, 1) := by decide +kernel
theorem dL_law_1542 : decode code 1542 = .ok (.iadd, 1) := by decide +kernel
theorem dL_law_1543 : decode code 1543 = .ok (.iaload, 1) := by decide +kernel
theorem dL_law_1544 : decode code 1544 = .ok (.invokevirtual 165, 3) := by decide +kernel
theorem dL_law_1547 : decode code 1547 = .ok (.aload_n 2, 1) := by decide +kernel
theorem dL_law_1548 : decode code 1548 = .ok (.aload_n 0, 1) := by decide +kernel
theorem dL_law_1549 : decode code 1549 = .ok (.iload 4, 2) := by decide +kernel
theorem dL_law_1551 : decode code 1551 = .ok (.iconst 1, 1) := by decide +kernel
theorem dL_law_1552 : decode code 1552 = .ok (.iadd, 1) := by decide +kernel
theorem dL_law_1553 : decode code 1553 = .ok (.iaload, 1) := by decide +kernel
theorem dL_law_1554 : decode code 1554 = .ok (.aload_n 0, 1) := by decide +kernel
theorem dL_law_1555 : decode code 1555 = .ok (.iload 4, 2) := by decide +kernel
theorem dL_law_1557 : decode code 1557 = .ok (.iconst 2, 1) := by decide +kernel
theorem dL_law_1558 : decode code 1558 = .ok (.iadd, 1) := by decide +kernel
theorem dL_law_1559 : decode code 1559 = .ok (.iaload, 1) := by decide +kernel
theorem dL_law_1560 : decode code 1560 = .ok (.invokevirtual 168, 3) := by decide +kernel
theorem dL_law_1563 : decode code 1563 = .ok (.if_icmp .eq 1057, 3) := by decide +kernel
theorem dL_law_1566 : decode code 1566 = .ok (.iconst 0, 1) := by decide +kernel
theorem dL_law_1567 : decode code 1567 = .ok (.ireturn, 1) := by decide +kernel
theorem dL_law_1568 : decode code 1568 = .ok (.aload_n 1, 1) := by decide +kernel
theorem dL_law_1569 : decode code 1569 = .ok (.aload_n 0, 1) := by decide +kernel
theorem dL_law_1570 : decode code 1570 = .ok (.iload 4, 2) := by decide +kernel
theorem dL_law_1572 : decode code 1572 = .ok (.iconst 1, 1) := by decide +kernel
theorem dL_law_1573 : decode code 1573 = .ok (.iadd, 1) := by decide +kernel
theorem dL_law_1574 : decode code 1574 = .ok (.iaload, 1) := by decide +kernel
theorem dL_law_1575 : decode code 1575 = .ok (.aload_n 0, 1) := by decide +kernel
theorem dL_law_1576 : decode code 1576 = .ok (.iload 4, 2) := by decide +kernel
theorem dL_law_1578 : decode code 1578 = .ok (.iconst 2, 1) := by decide +kernel
theorem dL_law_1579 : decode code 1579 = .ok (.iadd, 1) := by decide +kernel
theorem dL_law_1580 : decode code 1580 = .ok (.iaload, 1) := by decide +kernel
theorem dL_law_1581 : decode code 1581 = .ok (.invokevirtual 169, 3) := by decide +kernel
theorem dL_law_1584 : decode code 1584 = .ok (.aload_n 2, 1) := by decide +kernel
theorem dL_law_1585 : decode code 1585 = .ok (.aload_n 0, 1) := by decide +kernel
theorem dL_law_1586 : decode code 1586 = .ok (.iload 4, 2) := by decide +kernel
theorem dL_law_1588 : decode code 1588 = .ok (.iconst 1, 1) := by decide +kernel
theorem dL_law_1589 : decode code 1589 = .ok (.iadd, 1) := by decide +kernel
theorem dL_law_1590 : decode code 1590 = .ok (.iaload, 1) := by decide +kernel
theorem dL_law_1591 : decode code 1591 = .ok (.aload_n 0, 1) := by decide +kernel
theorem dL_law_1592 : decode code 1592 = .ok (.iload 4, 2) := by decide +kernel
theorem dL_law_1594 : decode code 1594 = .ok (.iconst 2, 1) := by decide +kernel
theorem dL_law_1595 : decode code 1595 = .ok (.iadd, 1) := by decide +kernel
theorem dL_law_1596 : decode code 1596 = .ok (.iaload, 1) := by decide +kernel
theorem dL_law_1597 : decode code 1597 = .ok (.invokevirtual 172, 3) := by decide +kernel
theorem dL_law_1600 : decode code 1600 = .ok (.if_icmp .eq 1020, 3) := by decide +kernel
theorem dL_law_1603 : decode code 1603 = .ok (.iconst 0, 1) := by decide +kernel
theorem dL_law_1604 : decode code 1604 = .ok (.ireturn, 1) := by decide +kernel
theorem dL_law_1605 : decode code 1605 = .ok (.aload_n 1, 1) := by decide +kernel
theorem dL_law_1606 : decode code 1606 = .ok (.aload_n 0, 1) := by decide +kernel
theorem dL_law_1607 : decode code 1607 = .ok (.iload 4, 2) := by decide +kernel
theorem dL_law_1609 : decode code 1609 = .ok (.iconst 1, 1) := by decide +kernel
theorem dL_law_1610 : decode code 1610 = .ok (.iadd, 1) := by decide +kernel
theorem dL_law_1611 : decode code 1611 = .ok (.iaload, 1) := by decide +kernel
theorem dL_law_1612 : decode code 1612 = .ok (.aload_n 0, 1) := by decide +kernel
theorem dL_law_1613 : decode code 1613 = .ok (.iload 4, 2) := by decide +kernel
theorem dL_law_1615 : decode code 1615 = .ok (.iconst 2, 1) := by decide +kernel
theorem dL_law_1616 : decode code 1616 = .ok (.iadd, 1) := by decide +kernel
theorem dL_law_1617 : decode code 1617 = .ok (.iaload, 1) := by decide +kernel
theorem dL_law_1618 : decode code 1618 = .ok (.invokevirtual 173, 3) := by decide +kernel
theorem dL_law_1621 : decode code 1621 = .ok (.aload_n 2, 1) := by decide +kernel
theorem dL_law_1622 : decode code 1622 = .ok (.aload_n 0, 1) := by decide +kernel
theorem dL_law_1623 : decode code 1623 = .ok (.iload 4, 2) := by decide +kernel
theorem dL_law_1625 : decode code 1625 = .ok (.iconst 1, 1) := by decide +kernel
theorem dL_law_1626 : decode code 1626 = .ok (.iadd, 1) := by decide +kernel
theorem dL_law_1627 : decode code 1627 = .ok (.iaload, 1) := by decide +kernel
theorem dL_law_1628 : decode code 1628 = .ok (.aload_n 0, 1) := by decide +kernel
theorem dL_law_1629 : decode code 1629 = .ok (.iload 4, 2) := by decide +kernel
theorem dL_law_1631 : decode code 1631 = .ok (.iconst 2, 1) := by decide +kernel
theorem dL_law_1632 : decode code 1632 = .ok (.iadd, 1) := by decide +kernel
theorem dL_law_1633 : decode code 1633 = .ok (.iaload, 1) := by decide +kernel
theorem dL_law_1634 : decode code 1634 = .ok (.invokevirtual 176, 3) := by decide +kernel
theorem dL_law_1637 : decode code 1637 = .ok (.if_icmp .eq 983, 3) := by decide +kernel
theorem dL_law_1640 : decode code 1640 = .ok (.iconst 0, 1) := by decide +kernel
theorem dL_law_1641 : decode code 1641 = .ok (.ireturn, 1) := by decide +kernel
theorem dL_law_1642 : decode code 1642 = .ok (.aload_n 1, 1) := by decide +kernel
theorem dL_law_1643 : decode code 1643 = .ok (.aload_n 0, 1) := by decide +kernel
theorem dL_law_1644 : decode code 1644 = .ok (.iload 4, 2) := by decide +kernel
theorem dL_law_1646 : decode code 1646 = .ok (.iconst 1, 1) := by decide +kernel
theorem dL_law_1647 : decode code 1647 = .ok (.iadd, 1) := by decide +kernel
theorem dL_law_1648 : decode code 1648 = .ok (.iaload, 1) := by decide +kernel
theorem dL_law_1649 : decode code 1649 = .ok (.aload_n 0, 1) := by decide +kernel
theorem dL_law_1650 : decode code 1650 = .ok (.iload 4, 2) := by decide +kernel
theorem dL_law_1652 : decode code 1652 = .ok (.iconst 2, 1) := by decide +kernel
theorem dL_law_1653 : decode code 1653 = .ok (.iadd, 1) := by decide +kernel
theorem dL_law_1654 : decode code 1654 = .ok (.iaload, 1) := by decide +kernel
theorem dL_law_1655 : decode code 1655 = .ok (.ifCond .eq 7, 3) := by decide +kernel
theorem dL_law_1658 : decode code 1658 = .ok (.iconst 1, 1) := by decide +kernel
theorem dL_law_1659 : decode code 1659 = .ok (.goto 4, 3) := by decide +kernel
theorem dL_law_1662 : decode code 1662 = .ok (.iconst 0, 1) := by decide +kernel
theorem dL_law_1663 : decode code 1663 = .ok (.invokevirtual 177, 3) := by decide +kernel
theorem dL_law_1666 : decode code 1666 = .ok (.aload_n 2, 1) := by decide +kernel
theorem dL_law_1667 : decode code 1667 = .ok (.aload_n 0, 1) := by decide +kernel
theorem dL_law_1668 : decode code 1668 = .ok (.iload 4, 2) := by decide +kernel
theorem dL_law_1670 : decode code 1670 = .ok (.iconst 1, 1) := by decide +kernel
theorem dL_law_1671 : decode code 1671 = .ok (.iadd, 1) := by decide +kernel
theorem dL_law_1672 : decode code 1672 = .ok (.iaload, 1) := by decide +kernel
theorem dL_law_1673 : decode code 1673 = .ok (.aload_n 0, 1) := by decide +kernel
theorem dL_law_1674 : decode code 1674 = .ok (.iload 4, 2) := by decide +kernel
theorem dL_law_1676 : decode code 1676 = .ok (.iconst 2, 1) := by decide +kernel
theorem dL_law_1677 : decode code 1677 = .ok (.iadd, 1) := by decide +kernel
theorem dL_law_1678 : decode code 1678 = .ok (.iaload, 1) := by decide +kernel
theorem dL_law_1679 : decode code 1679 = .ok (.ifCond .eq 7, 3) := by decide +kernel
theorem dL_law_1682 : decode code 1682 = .ok (.iconst 1, 1) := by decide +kernel
theorem dL_law_1683 : decode code 1683 = .ok (.goto 4, 3) := by decide +kernel
theorem dL_law_1686 : decode code 1686 = .ok (.iconst 0, 1) := by decide +kernel
theorem dL_law_1687 : decode code 1687 = .ok (.invokevirtual 180, 3) := by decide +kernel
theorem dL_law_1690 : decode code 1690 = .ok (.if_icmp .eq 930, 3) := by decide +kernel
theorem dL_law_1693 : decode code 1693 = .ok (.iconst 0, 1) := by decide +kernel
theorem dL_law_1694 : decode code 1694 = .ok (.ireturn, 1) := by decide +kernel
theorem dL_law_1695 : decode code 1695 = .ok (.aload_n 1, 1) := by decide +kernel
theorem dL_law_1696 : decode code 1696 = .ok (.invokevirtual 181, 3) := by decide +kernel
theorem dL_law_1699 : decode code 1699 = .ok (.aload_n 2, 1) := by decide +kernel
theorem dL_law_1700 : decode code 1700 = .ok (.invokevirtual 184, 3) := by decide +kernel
theorem dL_law_1703 : decode code 1703 = .ok (.if_icmp .eq 917, 3) := by decide +kernel
theorem dL_law_1706 : decode code 1706 = .ok (.iconst 0, 1) := by decide +kernel
theorem dL_law_1707 : decode code 1707 = .ok (.ireturn, 1) := by decide +kernel
theorem dL_law_1708 : decode code 1708 = .ok (.aload_n 1, 1) := by decide +kernel
theorem dL_law_1709 : decode code 1709 = .ok (.aload_n 0, 1) := by decide +kernel
theorem dL_law_1710 : decode code 1710 = .ok (.iload 4, 2) := by decide +kernel
theorem dL_law_1712 : decode code 1712 = .ok (.iconst 1, 1) := by decide +kernel
theorem dL_law_1713 : decode code 1713 = .ok (.iadd, 1) := by decide +kernel
theorem dL_law_1714 : decode code 1714 = .ok (.iaload, 1) := by decide +kernel
theorem dL_law_1715 : decode code 1715 = .ok (.invokevirtual 185, 3) := by decide +kernel
theorem dL_law_1718 : decode code 1718 = .ok (.aload_n 2, 1) := by decide +kernel
theorem dL_law_1719 : decode code 1719 = .ok (.aload_n 0, 1) := by decide +kernel
theorem dL_law_1720 : decode code 1720 = .ok (.iload 4, 2) := by decide +kernel
theorem dL_law_1722 : decode code 1722 = .ok (.iconst 1, 1) := by decide +kernel
theorem dL_law_1723 : decode code 1723 = .ok (.iadd, 1) := by decide +kernel
theorem dL_law_1724 : decode code 1724 = .ok (.iaload, 1) := by decide +kernel
theorem dL_law_1725 : decode code 1725 = .ok (.invokevirtual 188, 3) := by decide +kernel
theorem dL_law_1728 : decode code 1728 = .ok (.if_icmp .eq 892, 3) := by decide +kernel
theorem dL_law_1731 : decode code 1731 = .ok (.iconst 0, 1) := by decide +kernel
theorem dL_law_1732 : decode code 1732 = .ok (.ireturn, 1) := by decide +kernel
theorem dL_law_1733 : decode code 1733 = .ok (.aload_n 1, 1) := by decide +kernel
theorem dL_law_1734 : decode code 1734 = .ok (.invokevirtual 189, 3) := by decide +kernel
theorem dL_law_1737 : decode code 1737 = .ok (.aload_n 2, 1) := by decide +kernel
theorem dL_law_1738 : decode code 1738 = .ok (.invokevirtual 192, 3) := by decide +kernel
theorem dL_law_1741 : decode code 1741 = .ok (.if_icmp .eq 879, 3) := by decide +kernel
theorem dL_law_1744 : decode code 1744 = .ok (.iconst 0, 1) := by decide +kernel
theorem dL_law_1745 : decode code 1745 = .ok (.ireturn, 1) := by decide +kernel
theorem dL_law_1746 : decode code 1746 = .ok (.aload_n 1, 1) := by decide +kernel
theorem dL_law_1747 : decode code 1747 = .ok (.invokevirtual 193, 3) := by decide +kernel
theorem dL_law_1750 : decode code 1750 = .ok (.aload_n 2, 1) := by decide +kernel
theorem dL_law_1751 : decode code 1751 = .ok (.invokevirtual 196, 3) := by decide +kernel
theorem dL_law_1754 : decode code 1754 = .ok (.if_icmp .eq 866, 3) := by decide +kernel
theorem dL_law_1757 : decode code 1757 = .ok (.iconst 0, 1) := by decide +kernel
theorem dL_law_1758 : decode code 1758 = .ok (.ireturn, 1) := by decide +kernel
theorem dL_law_1759 : decode code 1759 = .ok (.aload_n 1, 1) := by decide +kernel
theorem dL_law_1760 : decode code 1760 = .ok (.invokevirtual 197, 3) := by decide +kernel
theorem dL_law_1763 : decode code 1763 = .ok (.aload_n 2, 1) := by decide +kernel
theorem dL_law_1764 : decode code 1764 = .ok (.invokevirtual 200, 3) := by decide +kernel
theorem dL_law_1767 : decode code 1767 = .ok (.if_icmp .eq 853, 3) := by decide +kernel
theorem dL_law_1770 : decode code 1770 = .ok (.iconst 0, 1) := by decide +kernel
theorem dL_law_1771 : decode code 1771 = .ok (.ireturn, 1) := by decide +kernel
theorem dL_law_1772 : decode code 1772 = .ok (.aload_n 1, 1) := by decide +kernel
theorem dL_law_1773 : decode code 1773 = .ok (.invokevirtual 201, 3) := by decide +kernel
theorem dL_law_1776 : decode code 1776 = .ok (.aload_n 2, 1) := by decide +kernel
theorem dL_law_1777 : decode code 1777 = .ok (.invokevirtual 204, 3) := by decide +kernel
theorem dL_law_1780 : decode code 1780 = .ok (.if_icmp .eq 840, 3) := by decide +kernel
theorem dL_law_1783 : decode code 1783 = .ok (.iconst 0, 1) := by decide +kernel
theorem dL_law_1784 : decode code 1784 = .ok (.ireturn, 1) := by decide +kernel
theorem dL_law_1785 : decode code 1785 = .ok (.aload_n 1, 1) := by decide +kernel
theorem dL_law_1786 : decode code 1786 = .ok (.invokevirtual 205, 3) := by decide +kernel
theorem dL_law_1789 : decode code 1789 = .ok (.aload_n 2, 1) := by decide +kernel
theorem dL_law_1790 : decode code 1790 = .ok (.invokevirtual 208, 3) := by decide +kernel
theorem dL_law_1793 : decode code 1793 = .ok (.if_icmp .eq 827, 3) := by decide +kernel
theorem dL_law_1796 : decode code 1796 = .ok (.iconst 0, 1) := by decide +kernel
theorem dL_law_1797 : decode code 1797 = .ok (.ireturn, 1) := by decide +kernel
theorem dL_law_1798 : decode code 1798 = .ok (.aload_n 1, 1) := by decide +kernel
theorem dL_law_1799 : decode code 1799 = .ok (.aload_n 0, 1) := by decide +kernel
theorem dL_law_1800 : decode code 1800 = .ok (.iload 4, 2) := by decide +kernel
theorem dL_law_1802 : decode code 1802 = .ok (.iconst 1, 1) := by decide +kernel
theorem dL_law_1803 : decode code 1803 = .ok (.iadd, 1) := by decide +kernel
theorem dL_law_1804 : decode code 1804 = .ok (.iaload, 1) := by decide +kernel
theorem dL_law_1805 : decode code 1805 = .ok (.aload_n 0, 1) := by decide +kernel
theorem dL_law_1806 : decode code 1806 = .ok (.iload 4, 2) := by decide +kernel
theorem dL_law_1808 : decode code 1808 = .ok (.iconst 2, 1) := by decide +kernel
theorem dL_law_1809 : decode code 1809 = .ok (.iadd, 1) := by decide +kernel
theorem dL_law_1810 : decode code 1810 = .ok (.iaload, 1) := by decide +kernel
theorem dL_law_1811 : decode code 1811 = .ok (.invokevirtual 209, 3) := by decide +kernel
theorem dL_law_1814 : decode code 1814 = .ok (.aload_n 2, 1) := by decide +kernel
theorem dL_law_1815 : decode code 1815 = .ok (.aload_n 0, 1) := by decide +kernel
theorem dL_law_1816 : decode code 1816 = .ok (.iload 4, 2) := by decide +kernel
theorem dL_law_1818 : decode code 1818 = .ok (.iconst 1, 1) := by decide +kernel
theorem dL_law_1819 : decode code 1819 = .ok (.iadd, 1) := by decide +kernel
theorem dL_law_1820 : decode code 1820 = .ok (.iaload, 1) := by decide +kernel
theorem dL_law_1821 : decode code 1821 = .ok (.aload_n 0, 1) := by decide +kernel
theorem dL_law_1822 : decode code 1822 = .ok (.iload 4, 2) := by decide +kernel
theorem dL_law_1824 : decode code 1824 = .ok (.iconst 2, 1) := by decide +kernel
theorem dL_law_1825 : decode code 1825 = .ok (.iadd, 1) := by decide +kernel
theorem dL_law_1826 : decode code 1826 = .ok (.iaload, 1) := by decide +kernel
theorem dL_law_1827 : decode code 1827 = .ok (.invokevirtual 212, 3) := by decide +kernel
theorem dL_law_1830 : decode code 1830 = .ok (.if_icmp .eq 790, 3) := by decide +kernel
theorem dL_law_1833 : decode code 1833 = .ok (.iconst 0, 1) := by decide +kernel
theorem dL_law_1834 : decode code 1834 = .ok (.ireturn, 1) := by decide +kernel
theorem dL_law_1835 : decode code 1835 = .ok (.aload_n 1, 1) := by decide +kernel
theorem dL_law_1836 : decode code 1836 = .ok (.aload_n 0, 1) := by decide +kernel
theorem dL_law_1837 : decode code 1837 = .ok (.iload 4, 2) := by decide +kernel
theorem dL_law_1839 : decode code 1839 = .ok (.iconst 1, 1) := by decide +kernel
theorem dL_law_1840 : decode code 1840 = .ok (.iadd, 1) := by decide +kernel
theorem dL_law_1841 : decode code 1841 = .ok (.iaload, 1) := by decide +kernel
theorem dL_law_1842 : decode code 1842 = .ok (.aload_n 0, 1) := by decide +kernel
theorem dL_law_1843 : decode code 1843 = .ok (.iload 4, 2) := by decide +kernel
theorem dL_law_1845 : decode code 1845 = .ok (.iconst 2, 1) := by decide +kernel
theorem dL_law_1846 : decode code 1846 = .ok (.iadd, 1) := by decide +kernel
theorem dL_law_1847 : decode code 1847 = .ok (.iaload, 1) := by decide +kernel
theorem dL_law_1848 : decode code 1848 = .ok (.invokevirtual 213, 3) := by decide +kernel
theorem dL_law_1851 : decode code 1851 = .ok (.aload_n 2, 1) := by decide +kernel
theorem dL_law_1852 : decode code 1852 = .ok (.aload_n 0, 1) := by decide +kernel
theorem dL_law_1853 : decode code 1853 = .ok (.iload 4, 2) := by decide +kernel
theorem dL_law_1855 : decode code 1855 = .ok (.iconst 1, 1) := by decide +kernel
theorem dL_law_1856 : decode code 1856 = .ok (.iadd, 1) := by decide +kernel
theorem dL_law_1857 : decode code 1857 = .ok (.iaload, 1) := by decide +kernel
theorem dL_law_1858 : decode code 1858 = .ok (.aload_n 0, 1) := by decide +kernel
theorem dL_law_1859 : decode code 1859 = .ok (.iload 4, 2) := by decide +kernel
theorem dL_law_1861 : decode code 1861 = .ok (.iconst 2, 1) := by decide +kernel
theorem dL_law_1862 : decode code 1862 = .ok (.iadd, 1) := by decide +kernel
theorem dL_law_1863 : decode code 1863 = .ok (.iaload, 1) := by decide +kernel
theorem dL_law_1864 : decode code 1864 = .ok (.invokevirtual 216, 3) := by decide +kernel
theorem dL_law_1867 : decode code 1867 = .ok (.if_icmp .eq 753, 3) := by decide +kernel
theorem dL_law_1870 : decode code 1870 = .ok (.iconst 0, 1) := by decide +kernel
theorem dL_law_1871 : decode code 1871 = .ok (.ireturn, 1) := by decide +kernel
theorem dL_law_1872 : decode code 1872 = .ok (.aload_n 1, 1) := by decide +kernel
theorem dL_law_1873 : decode code 1873 = .ok (.aload_n 0, 1) := by decide +kernel
theorem dL_law_1874 : decode code 1874 = .ok (.iload 4, 2) := by decide +kernel
theorem dL_law_1876 : decode code 1876 = .ok (.iconst 1, 1) := by decide +kernel
theorem dL_law_1877 : decode code 1877 = .ok (.iadd, 1) := by decide +kernel
theorem dL_law_1878 : decode code 1878 = .ok (.iaload, 1) := by decide +kernel
theorem dL_law_1879 : decode code 1879 = .ok (.aload_n 0, 1) := by decide +kernel
theorem dL_law_1880 : decode code 1880 = .ok (.iload 4, 2) := by decide +kernel
theorem dL_law_1882 : decode code 1882 = .ok (.iconst 2, 1) := by decide +kernel
theorem dL_law_1883 : decode code 1883 = .ok (.iadd, 1) := by decide +kernel
theorem dL_law_1884 : decode code 1884 = .ok (.iaload, 1) := by decide +kernel
theorem dL_law_1885 : decode code 1885 = .ok (.ifCond .eq 7, 3) := by decide +kernel
theorem dL_law_1888 : decode code 1888 = .ok (.iconst 1, 1) := by decide +kernel
theorem dL_law_1889 : decode code 1889 = .ok (.goto 4, 3) := by decide +kernel
theorem dL_law_1892 : decode code 1892 = .ok (.iconst 0, 1) := by decide +kernel
theorem dL_law_1893 : decode code 1893 = .ok (.aload_n 0, 1) := by decide +kernel
theorem dL_law_1894 : decode code 1894 = .ok (.iload 4, 2) := by decide +kernel
theorem dL_law_1896 : decode code 1896 = .ok (.iconst 3, 1) := by decide +kernel
theorem dL_law_1897 : decode code 1897 = .ok (.iadd, 1) := by decide +kernel
theorem dL_law_1898 : decode code 1898 = .ok (.iaload, 1) := by decide +kernel
theorem dL_law_1899 : decode code 1899 = .ok (.ifCond .eq 7, 3) := by decide +kernel
theorem dL_law_1902 : decode code 1902 = .ok (.iconst 1, 1) := by decide +kernel
theorem dL_law_1903 : decode code 1903 = .ok (.goto 4, 3) := by decide +kernel
theorem dL_law_1906 : decode code 1906 = .ok (.iconst 0, 1) := by decide +kernel
theorem dL_law_1907 : decode code 1907 = .ok (.aload_n 0, 1) := by decide +kernel
theorem dL_law_1908 : decode code 1908 = .ok (.iload 4, 2) := by decide +kernel
theorem dL_law_1910 : decode code 1910 = .ok (.iconst 4, 1) := by decide +kernel
theorem dL_law_1911 : decode code 1911 = .ok (.iadd, 1) := by decide +kernel
theorem dL_law_1912 : decode code 1912 = .ok (.iaload, 1) := by decide +kernel
theorem dL_law_1913 : decode code 1913 = .ok (.ifCond .eq 7, 3) := by decide +kernel
theorem dL_law_1916 : decode code 1916 = .ok (.iconst 1, 1) := by decide +kernel
theorem dL_law_1917 : decode code 1917 = .ok (.goto 4, 3) := by decide +kernel
theorem dL_law_1920 : decode code 1920 = .ok (.iconst 0, 1) := by decide +kernel
theorem dL_law_1921 : decode code 1921 = .ok (.invokevirtual 217, 3) := by decide +kernel
theorem dL_law_1924 : decode code 1924 = .ok (.aload_n 2, 1) := by decide +kernel
theorem dL_law_1925 : decode code 1925 = .ok (.aload_n 0, 1) := by decide +kernel
theorem dL_law_1926 : decode code 1926 = .ok (.iload 4, 2) := by decide +kernel
theorem dL_law_1928 : decode code 1928 = .ok (.iconst 1, 1) := by decide +kernel
theorem dL_law_1929 : decode code 1929 = .ok (.iadd, 1) := by decide +kernel
theorem dL_law_1930 : decode code 1930 = .ok (.iaload, 1) := by decide +kernel
theorem dL_law_1931 : decode code 1931 = .ok (.aload_n 0, 1) := by decide +kernel
theorem dL_law_1932 : decode code 1932 = .ok (.iload 4, 2) := by decide +kernel
theorem dL_law_1934 : decode code 1934 = .ok (.iconst 2, 1) := by decide +kernel
theorem dL_law_1935 : decode code 1935 = .ok (.iadd, 1) := by decide +kernel
theorem dL_law_1936 : decode code 1936 = .ok (.iaload, 1) := by decide +kernel
theorem dL_law_1937 : decode code 1937 = .ok (.ifCond .eq 7, 3) := by decide +kernel
theorem dL_law_1940 : decode code 1940 = .ok (.iconst 1, 1) := by decide +kernel
theorem dL_law_1941 : decode code 1941 = .ok (.goto 4, 3) := by decide +kernel
theorem dL_law_1944 : decode code 1944 = .ok (.iconst 0, 1) := by decide +kernel
theorem dL_law_1945 : decode code 1945 = .ok (.aload_n 0, 1) := by decide +kernel
theorem dL_law_1946 : decode code 1946 = .ok (.iload 4, 2) := by decide +kernel
theorem dL_law_1948 : decode code 1948 = .ok (.iconst 3, 1) := by decide +kernel
theorem dL_law_1949 : decode code 1949 = .ok (.iadd, 1) := by decide +kernel
theorem dL_law_1950 : decode code 1950 = .ok (.iaload, 1) := by decide +kernel
theorem dL_law_1951 : decode code 1951 = .ok (.ifCond .eq 7, 3) := by decide +kernel
theorem dL_law_1954 : decode code 1954 = .ok (.iconst 1, 1) := by decide +kernel
theorem dL_law_1955 : decode code 1955 = .ok (.goto 4, 3) := by decide +kernel
theorem dL_law_1958 : decode code 1958 = .ok (.iconst 0, 1) := by decide +kernel
theorem dL_law_1959 : decode code 1959 = .ok (.aload_n 0, 1) := by decide +kernel
theorem dL_law_1960 : decode code 1960 = .ok (.iload 4, 2) := by decide +kernel
theorem dL_law_1962 : decode code 1962 = .ok (.iconst 4, 1) := by decide +kernel
theorem dL_law_1963 : decode code 1963 = .ok (.iadd, 1) := by decide +kernel
theorem dL_law_1964 : decode code 1964 = .ok (.iaload, 1) := by decide +kernel
theorem dL_law_1965 : decode code 1965 = .ok (.ifCond .eq 7, 3) := by decide +kernel
theorem dL_law_1968 : decode code 1968 = .ok (.iconst 1, 1) := by decide +kernel
theorem dL_law_1969 : decode code 1969 = .ok (.goto 4, 3) := by decide +kernel
theorem dL_law_1972 : decode code 1972 = .ok (.iconst 0, 1) := by decide +kernel
theorem dL_law_1973 : decode code 1973 = .ok (.invokevirtual 221, 3) := by decide +kernel
theorem dL_law_1976 : decode code 1976 = .ok (.if_icmp .eq 644, 3) := by decide +kernel
theorem dL_law_1979 : decode code 1979 = .ok (.iconst 0, 1) := by decide +kernel
theorem dL_law_1980 : decode code 1980 = .ok (.ireturn, 1) := by decide +kernel
theorem dL_law_1981 : decode code 1981 = .ok (.aload_n 1, 1) := by decide +kernel
theorem dL_law_1982 : decode code 1982 = .ok (.aload_n 0, 1) := by decide +kernel
theorem dL_law_1983 : decode code 1983 = .ok (.iload 4, 2) := by decide +kernel
theorem dL_law_1985 : decode code 1985 = .ok (.iconst 1, 1) := by decide +kernel
theorem dL_law_1986 : decode code 1986 = .ok (.iadd, 1) := by decide +kernel
theorem dL_law_1987 : decode code 1987 = .ok (.iaload, 1) := by decide +kernel
theorem dL_law_1988 : decode code 1988 = .ok (.invokevirtual 222, 3) := by decide +kernel
theorem dL_law_1991 : decode code 1991 = .ok (.aload_n 2, 1) := by decide +kernel
theorem dL_law_1992 : decode code 1992 = .ok (.aload_n 0, 1) := by decide +kernel
theorem dL_law_1993 : decode code 1993 = .ok (.iload 4, 2) := by decide +kernel
theorem dL_law_1995 : decode code 1995 = .ok (.iconst 1, 1) := by decide +kernel
theorem dL_law_1996 : decode code 1996 = .ok (.iadd, 1) := by decide +kernel
theorem dL_law_1997 : decode code 1997 = .ok (.iaload, 1) := by decide +kernel
theorem dL_law_1998 : decode code 1998 = .ok (.invokevirtual 225, 3) := by decide +kernel
theorem dL_law_2001 : decode code 2001 = .ok (.if_icmp .eq 619, 3) := by decide +kernel
theorem dL_law_2004 : decode code 2004 = .ok (.iconst 0, 1) := by decide +kernel
theorem dL_law_2005 : decode code 2005 = .ok (.ireturn, 1) := by decide +kernel
theorem dL_law_2006 : decode code 2006 = .ok (.aload_n 1, 1) := by decide +kernel
theorem dL_law_2007 : decode code 2007 = .ok (.aload_n 0, 1) := by decide +kernel
theorem dL_law_2008 : decode code 2008 = .ok (.iload 4, 2) := by decide +kernel
theorem dL_law_2010 : decode code 2010 = .ok (.iconst 1, 1) := by decide +kernel
theorem dL_law_2011 : decode code 2011 = .ok (.iadd, 1) := by decide +kernel
theorem dL_law_2012 : decode code 2012 = .ok (.iaload, 1) := by decide +kernel
theorem dL_law_2013 : decode code 2013 = .ok (.invokevirtual 226, 3) := by decide +kernel
theorem dL_law_2016 : decode code 2016 = .ok (.aload_n 2, 1) := by decide +kernel
theorem dL_law_2017 : decode code 2017 = .ok (.aload_n 0, 1) := by decide +kernel
theorem dL_law_2018 : decode code 2018 = .ok (.iload 4, 2) := by decide +kernel
theorem dL_law_2020 : decode code 2020 = .ok (.iconst 1, 1) := by decide +kernel
theorem dL_law_2021 : decode code 2021 = .ok (.iadd, 1) := by decide +kernel
theorem dL_law_2022 : decode code 2022 = .ok (.iaload, 1) := by decide +kernel
theorem dL_law_2023 : decode code 2023 = .ok (.invokevirtual 229, 3) := by decide +kernel
theorem dL_law_2026 : decode code 2026 = .ok (.if_icmp .eq 594, 3) := by decide +kernel
theorem dL_law_2029 : decode code 2029 = .ok (.iconst 0, 1) := by decide +kernel
theorem dL_law_2030 : decode code 2030 = .ok (.ireturn, 1) := by decide +kernel
theorem dL_law_2031 : decode code 2031 = .ok (.aload_n 1, 1) := by decide +kernel
theorem dL_law_2032 : decode code 2032 = .ok (.aload_n 0, 1) := by decide +kernel
theorem dL_law_2033 : decode code 2033 = .ok (.iload 4, 2) := by decide +kernel
theorem dL_law_2035 : decode code 2035 = .ok (.iconst 1, 1) := by decide +kernel
theorem dL_law_2036 : decode code 2036 = .ok (.iadd, 1) := by decide +kernel
theorem dL_law_2037 : decode code 2037 = .ok (.iaload, 1) := by decide +kernel
theorem dL_law_2038 : decode code 2038 = .ok (.aload_n 0, 1) := by decide +kernel
theorem dL_law_2039 : decode code 2039 = .ok (.iload 4, 2) := by decide +kernel
theorem dL_law_2041 : decode code 2041 = .ok (.iconst 2, 1) := by decide +kernel
theorem dL_law_2042 : decode code 2042 = .ok (.iadd, 1) := by decide +kernel
theorem dL_law_2043 : decode code 2043 = .ok (.iaload, 1) := by decide +kernel
theorem dL_law_2044 : decode code 2044 = .ok (.aload_n 0, 1) := by decide +kernel
theorem dL_law_2045 : decode code 2045 = .ok (.iload 4, 2) := by decide +kernel
theorem dL_law_2047 : decode code 2047 = .ok (.iconst 3, 1) := by decide +kernel
theorem dL_law_2048 : decode code 2048 = .ok (.iadd, 1) := by decide +kernel
theorem dL_law_2049 : decode code 2049 = .ok (.iaload, 1) := by decide +kernel
theorem dL_law_2050 : decode code 2050 = .ok (.aload_n 0, 1) := by decide +kernel
theorem dL_law_2051 : decode code 2051 = .ok (.iload 4, 2) := by decide +kernel
theorem dL_law_2053 : decode code 2053 = .ok (.iconst 4, 1) := by decide +kernel
theorem dL_law_2054 : decode code 2054 = .ok (.iadd, 1) := by decide +kernel
theorem dL_law_2055 : decode code 2055 = .ok (.iaload, 1) := by decide +kernel
theorem dL_law_2056 : decode code 2056 = .ok (.aload_n 0, 1) := by decide +kernel
theorem dL_law_2057 : decode code 2057 = .ok (.iload 4, 2) := by decide +kernel
theorem dL_law_2059 : decode code 2059 = .ok (.iconst 5, 1) := by decide +kernel
theorem dL_law_2060 : decode code 2060 = .ok (.iadd, 1) := by decide +kernel
theorem dL_law_2061 : decode code 2061 = .ok (.iaload, 1) := by decide +kernel
theorem dL_law_2062 : decode code 2062 = .ok (.ifCond .eq 7, 3) := by decide +kernel
theorem dL_law_2065 : decode code 2065 = .ok (.iconst 1, 1) := by decide +kernel
theorem dL_law_2066 : decode code 2066 = .ok (.goto 4, 3) := by decide +kernel
theorem dL_law_2069 : decode code 2069 = .ok (.iconst 0, 1) := by decide +kernel
theorem dL_law_2070 : decode code 2070 = .ok (.invokevirtual 230, 3) := by decide +kernel
theorem dL_law_2073 : decode code 2073 = .ok (.aload_n 2, 1) := by decide +kernel
theorem dL_law_2074 : decode code 2074 = .ok (.aload_n 0, 1) := by decide +kernel
theorem dL_law_2075 : decode code 2075 = .ok (.iload 4, 2) := by decide +kernel
theorem dL_law_2077 : decode code 2077 = .ok (.iconst 1, 1) := by decide +kernel
theorem dL_law_2078 : decode code 2078 = .ok (.iadd, 1) := by decide +kernel
theorem dL_law_2079 : decode code 2079 = .ok (.iaload, 1) := by decide +kernel
theorem dL_law_2080 : decode code 2080 = .ok (.aload_n 0, 1) := by decide +kernel
theorem dL_law_2081 : decode code 2081 = .ok (.iload 4, 2) := by decide +kernel
theorem dL_law_2083 : decode code 2083 = .ok (.iconst 2, 1) := by decide +kernel
theorem dL_law_2084 : decode code 2084 = .ok (.iadd, 1) := by decide +kernel
theorem dL_law_2085 : decode code 2085 = .ok (.iaload, 1) := by decide +kernel
theorem dL_law_2086 : decode code 2086 = .ok (.aload_n 0, 1) := by decide +kernel
theorem dL_law_2087 : decode code 2087 = .ok (.iload 4, 2) := by decide +kernel
theorem dL_law_2089 : decode code 2089 = .ok (.iconst 3, 1) := by decide +kernel
theorem dL_law_2090 : decode code 2090 = .ok (.iadd, 1) := by decide +kernel
theorem dL_law_2091 : decode code 2091 = .ok (.iaload, 1) := by decide +kernel
theorem dL_law_2092 : decode code 2092 = .ok (.aload_n 0, 1) := by decide +kernel
theorem dL_law_2093 : decode code 2093 = .ok (.iload 4, 2) := by decide +kernel
theorem dL_law_2095 : decode code 2095 = .ok (.iconst 4, 1) := by decide +kernel
theorem dL_law_2096 : decode code 2096 = .ok (.iadd, 1) := by decide +kernel
theorem dL_law_2097 : decode code 2097 = .ok (.iaload, 1) := by decide +kernel
theorem dL_law_2098 : decode code 2098 = .ok (.aload_n 0, 1) := by decide +kernel
theorem dL_law_2099 : decode code 2099 = .ok (.iload 4, 2) := by decide +kernel
theorem dL_law_2101 : decode code 2101 = .ok (.iconst 5, 1) := by decide +kernel
theorem dL_law_2102 : decode code 2102 = .ok (.iadd, 1) := by decide +kernel
theorem dL_law_2103 : decode code 2103 = .ok (.iaload, 1) := by decide +kernel
theorem dL_law_2104 : decode code 2104 = .ok (.ifCond .eq 7, 3) := by decide +kernel
theorem dL_law_2107 : decode code 2107 = .ok (.iconst 1, 1) := by decide +kernel
theorem dL_law_2108 : decode code 2108 = .ok (.goto 4, 3) := by decide +kernel
theorem dL_law_2111 : decode code 2111 = .ok (.iconst 0, 1) := by decide +kernel
theorem dL_law_2112 : decode code 2112 = .ok (.invokevirtual 234, 3) := by decide +kernel
theorem dL_law_2115 : decode code 2115 = .ok (.lcmp, 1) := by decide +kernel
theorem dL_law_2116 : decode code 2116 = .ok (.ifCond .eq 504, 3) := by decide +kernel
theorem dL_law_2119 : decode code 2119 = .ok (.iconst 0, 1) := by decide +kernel
theorem dL_law_2120 : decode code 2120 = .ok (.ireturn, 1) := by decide +kernel
theorem dL_law_2121 : decode code 2121 = .ok (.aload_n 1, 1) := by decide +kernel
theorem dL_law_2122 : decode code 2122 = .ok (.aload_n 0, 1) := by decide +kernel
theorem dL_law_2123 : decode code 2123 = .ok (.iload 4, 2) := by decide +kernel
theorem dL_law_2125 : decode code 2125 = .ok (.iconst 1, 1) := by decide +kernel
theorem dL_law_2126 : decode code 2126 = .ok (.iadd, 1) := by decide +kernel
theorem dL_law_2127 : decode code 2127 = .ok (.iaload, 1) := by decide +kernel
theorem dL_law_2128 : decode code 2128 = .ok (.aload_n 0, 1) := by decide +kernel
theorem dL_law_2129 : decode code 2129 = .ok (.iload 4, 2) := by decide +kernel
theorem dL_law_2131 : decode code 2131 = .ok (.iconst 2, 1) := by decide +kernel
theorem dL_law_2132 : decode code 2132 = .ok (.iadd, 1) := by decide +kernel
theorem dL_law_2133 : decode code 2133 = .ok (.iaload, 1) := by decide +kernel
theorem dL_law_2134 : decode code 2134 = .ok (.aload_n 0, 1) := by decide +kernel
theorem dL_law_2135 : decode code 2135 = .ok (.iload 4, 2) := by decide +kernel
theorem dL_law_2137 : decode code 2137 = .ok (.iconst 3, 1) := by decide +kernel
theorem dL_law_2138 : decode code 2138 = .ok (.iadd, 1) := by decide +kernel
theorem dL_law_2139 : decode code 2139 = .ok (.iaload, 1) := by decide +kernel
theorem dL_law_2140 : decode code 2140 = .ok (.ifCond .eq 7, 3) := by decide +kernel
theorem dL_law_2143 : decode code 2143 = .ok (.iconst 1, 1) := by decide +kernel
theorem dL_law_2144 : decode code 2144 = .ok (.goto 4, 3) := by decide +kernel
theorem dL_law_2147 : decode code 2147 = .ok (.iconst 0, 1) := by decide +kernel
theorem dL_law_2148 : decode code 2148 = .ok (.invokevirtual 235, 3) := by decide +kernel
theorem dL_law_2151 : decode code 2151 = .ok (.aload_n 2, 1) := by decide +kernel
theorem dL_law_2152 : decode code 2152 = .ok (.aload_n 0, 1) := by decide +kernel
theorem dL_law_2153 : decode code 2153 = .ok (.iload 4, 2) := by decide +kernel
theorem dL_law_2155 : decode code 2155 = .ok (.iconst 1, 1) := by decide +kernel
theorem dL_law_2156 : decode code 2156 = .ok (.iadd, 1) := by decide +kernel
theorem dL_law_2157 : decode code 2157 = .ok (.iaload, 1) := by decide +kernel
theorem dL_law_2158 : decode code 2158 = .ok (.aload_n 0, 1) := by decide +kernel
theorem dL_law_2159 : decode code 2159 = .ok (.iload 4, 2) := by decide +kernel
theorem dL_law_2161 : decode code 2161 = .ok (.iconst 2, 1) := by decide +kernel
theorem dL_law_2162 : decode code 2162 = .ok (.iadd, 1) := by decide +kernel
theorem dL_law_2163 : decode code 2163 = .ok (.iaload, 1) := by decide +kernel
theorem dL_law_2164 : decode code 2164 = .ok (.aload_n 0, 1) := by decide +kernel
theorem dL_law_2165 : decode code 2165 = .ok (.iload 4, 2) := by decide +kernel
theorem dL_law_2167 : decode code 2167 = .ok (.iconst 3, 1) := by decide +kernel
theorem dL_law_2168 : decode code 2168 = .ok (.iadd, 1) := by decide +kernel
theorem dL_law_2169 : decode code 2169 = .ok (.iaload, 1) := by decide +kernel
theorem dL_law_2170 : decode code 2170 = .ok (.ifCond .eq 7, 3) := by decide +kernel
theorem dL_law_2173 : decode code 2173 = .ok (.iconst 1, 1) := by decide +kernel
theorem dL_law_2174 : decode code 2174 = .ok (.goto 4, 3) := by decide +kernel
theorem dL_law_2177 : decode code 2177 = .ok (.iconst 0, 1) := by decide +kernel
theorem dL_law_2178 : decode code 2178 = .ok (.invokevirtual 239, 3) := by decide +kernel
theorem dL_law_2181 : decode code 2181 = .ok (.lcmp, 1) := by decide +kernel
theorem dL_law_2182 : decode code 2182 = .ok (.ifCond .eq 438, 3) := by decide +kernel
theorem dL_law_2185 : decode code 2185 = .ok (.iconst 0, 1) := by decide +kernel
theorem dL_law_2186 : decode code 2186 = .ok (.ireturn, 1) := by decide +kernel
theorem dL_law_2187 : decode code 2187 = .ok (.aload_n 1, 1) := by decide +kernel
theorem dL_law_2188 : decode code 2188 = .ok (.aload_n 0, 1) := by decide +kernel
theorem dL_law_2189 : decode code 2189 = .ok (.iload 4, 2) := by decide +kernel
theorem dL_law_2191 : decode code 2191 = .ok (.iconst 1, 1) := by decide +kernel
theorem dL_law_2192 : decode code 2192 = .ok (.iadd, 1) := by decide +kernel
theorem dL_law_2193 : decode code 2193 = .ok (.iaload, 1) := by decide +kernel
theorem dL_law_2194 : decode code 2194 = .ok (.aload_n 0, 1) := by decide +kernel
theorem dL_law_2195 : decode code 2195 = .ok (.iload 4, 2) := by decide +kernel
theorem dL_law_2197 : decode code 2197 = .ok (.iconst 2, 1) := by decide +kernel
theorem dL_law_2198 : decode code 2198 = .ok (.iadd, 1) := by decide +kernel
theorem dL_law_2199 : decode code 2199 = .ok (.iaload, 1) := by decide +kernel
theorem dL_law_2200 : decode code 2200 = .ok (.aload_n 0, 1) := by decide +kernel
theorem dL_law_2201 : decode code 2201 = .ok (.iload 4, 2) := by decide +kernel
theorem dL_law_2203 : decode code 2203 = .ok (.iconst 3, 1) := by decide +kernel
theorem dL_law_2204 : decode code 2204 = .ok (.iadd, 1) := by decide +kernel
theorem dL_law_2205 : decode code 2205 = .ok (.iaload, 1) := by decide +kernel
theorem dL_law_2206 : decode code 2206 = .ok (.ifCond .eq 7, 3) := by decide +kernel
theorem dL_law_2209 : decode code 2209 = .ok (.iconst 1, 1) := by decide +kernel
theorem dL_law_2210 : decode code 2210 = .ok (.goto 4, 3) := by decide +kernel
theorem dL_law_2213 : decode code 2213 = .ok (.iconst 0, 1) := by decide +kernel
theorem dL_law_2214 : decode code 2214 = .ok (.invokevirtual 240, 3) := by decide +kernel
theorem dL_law_2217 : decode code 2217 = .ok (.aload_n 2, 1) := by decide +kernel
theorem dL_law_2218 : decode code 2218 = .ok (.aload_n 0, 1) := by decide +kernel
theorem dL_law_2219 : decode code 2219 = .ok (.iload 4, 2) := by decide +kernel
theorem dL_law_2221 : decode code 2221 = .ok (.iconst 1, 1) := by decide +kernel
theorem dL_law_2222 : decode code 2222 = .ok (.iadd, 1) := by decide +kernel
theorem dL_law_2223 : decode code 2223 = .ok (.iaload, 1) := by decide +kernel
theorem dL_law_2224 : decode code 2224 = .ok (.aload_n 0, 1) := by decide +kernel
theorem dL_law_2225 : decode code 2225 = .ok (.iload 4, 2) := by decide +kernel
theorem dL_law_2227 : decode code 2227 = .ok (.iconst 2, 1) := by decide +kernel
theorem dL_law_2228 : decode code 2228 = .ok (.iadd, 1) := by decide +kernel
theorem dL_law_2229 : decode code 2229 = .ok (.iaload, 1) := by decide +kernel
theorem dL_law_2230 : decode code 2230 = .ok (.aload_n 0, 1) := by decide +kernel
theorem dL_law_2231 : decode code 2231 = .ok (.iload 4, 2) := by decide +kernel
theorem dL_law_2233 : decode code 2233 = .ok (.iconst 3, 1) := by decide +kernel
theorem dL_law_2234 : decode code 2234 = .ok (.iadd, 1) := by decide +kernel
theorem dL_law_2235 : decode code 2235 = .ok (.iaload, 1) := by decide +kernel
theorem dL_law_2236 : decode code 2236 = .ok (.ifCond .eq 7, 3) := by decide +kernel
theorem dL_law_2239 : decode code 2239 = .ok (.iconst 1, 1) := by decide +kernel
theorem dL_law_2240 : decode code 2240 = .ok (.goto 4, 3) := by decide +kernel
theorem dL_law_2243 : decode code 2243 = .ok (.iconst 0, 1) := by decide +kernel
theorem dL_law_2244 : decode code 2244 = .ok (.invokevirtual 243, 3) := by decide +kernel
theorem dL_law_2247 : decode code 2247 = .ok (.lcmp, 1) := by decide +kernel
theorem dL_law_2248 : decode code 2248 = .ok (.ifCond .eq 372, 3) := by decide +kernel
theorem dL_law_2251 : decode code 2251 = .ok (.iconst 0, 1) := by decide +kernel
theorem dL_law_2252 : decode code 2252 = .ok (.ireturn, 1) := by decide +kernel
theorem dL_law_2253 : decode code 2253 = .ok (.aload_n 1, 1) := by decide +kernel
theorem dL_law_2254 : decode code 2254 = .ok (.aload_n 0, 1) := by decide +kernel
theorem dL_law_2255 : decode code 2255 = .ok (.iload 4, 2) := by decide +kernel
theorem dL_law_2257 : decode code 2257 = .ok (.iconst 1, 1) := by decide +kernel
theorem dL_law_2258 : decode code 2258 = .ok (.iadd, 1) := by decide +kernel
theorem dL_law_2259 : decode code 2259 = .ok (.iaload, 1) := by decide +kernel
theorem dL_law_2260 : decode code 2260 = .ok (.aload_n 0, 1) := by decide +kernel
theorem dL_law_2261 : decode code 2261 = .ok (.iload 4, 2) := by decide +kernel
theorem dL_law_2263 : decode code 2263 = .ok (.iconst 2, 1) := by decide +kernel
theorem dL_law_2264 : decode code 2264 = .ok (.iadd, 1) := by decide +kernel
theorem dL_law_2265 : decode code 2265 = .ok (.iaload, 1) := by decide +kernel
theorem dL_law_2266 : decode code 2266 = .ok (.aload_n 0, 1) := by decide +kernel
theorem dL_law_2267 : decode code 2267 = .ok (.iload 4, 2) := by decide +kernel
theorem dL_law_2269 : decode code 2269 = .ok (.iconst 3, 1) := by decide +kernel
theorem dL_law_2270 : decode code 2270 = .ok (.iadd, 1) := by decide +kernel
theorem dL_law_2271 : decode code 2271 = .ok (.iaload, 1) := by decide +kernel
theorem dL_law_2272 : decode code 2272 = .ok (.invokevirtual 244, 3) := by decide +kernel
theorem dL_law_2275 : decode code 2275 = .ok (.aload_n 2, 1) := by decide +kernel
theorem dL_law_2276 : decode code 2276 = .ok (.aload_n 0, 1) := by decide +kernel
theorem dL_law_2277 : decode code 2277 = .ok (.iload 4, 2) := by decide +kernel
theorem dL_law_2279 : decode code 2279 = .ok (.iconst 1, 1) := by decide +kernel
theorem dL_law_2280 : decode code 2280 = .ok (.iadd, 1) := by decide +kernel
theorem dL_law_2281 : decode code 2281 = .ok (.iaload, 1) := by decide +kernel
theorem dL_law_2282 : decode code 2282 = .ok (.aload_n 0, 1) := by decide +kernel
theorem dL_law_2283 : decode code 2283 = .ok (.iload 4, 2) := by decide +kernel
theorem dL_law_2285 : decode code 2285 = .ok (.iconst 2, 1) := by decide +kernel
theorem dL_law_2286 : decode code 2286 = .ok (.iadd, 1) := by decide +kernel
theorem dL_law_2287 : decode code 2287 = .ok (.iaload, 1) := by decide +kernel
theorem dL_law_2288 : decode code 2288 = .ok (.aload_n 0, 1) := by decide +kernel
theorem dL_law_2289 : decode code 2289 = .ok (.iload 4, 2) := by decide +kernel
theorem dL_law_2291 : decode code 2291 = .ok (.iconst 3, 1) := by decide +kernel
theorem dL_law_2292 : decode code 2292 = .ok (.iadd, 1) := by decide +kernel
theorem dL_law_2293 : decode code 2293 = .ok (.iaload, 1) := by decide +kernel
theorem dL_law_2294 : decode code 2294 = .ok (.invokevirtual 247, 3) := by decide +kernel
theorem dL_law_2297 : decode code 2297 = .ok (.if_icmp .eq 323, 3) := by decide +kernel
theorem dL_law_2300 : decode code 2300 = .ok (.iconst 0, 1) := by decide +kernel
theorem dL_law_2301 : decode code 2301 = .ok (.ireturn, 1) := by decide +kernel
theorem dL_law_2302 : decode code 2302 = .ok (.aload_n 1, 1) := by decide +kernel
theorem dL_law_2303 : decode code 2303 = .ok (.aload_n 0, 1) := by decide +kernel
theorem dL_law_2304 : decode code 2304 = .ok (.iload 4, 2) := by decide +kernel
theorem dL_law_2306 : decode code 2306 = .ok (.iconst 1, 1) := by decide +kernel
theorem dL_law_2307 : decode code 2307 = .ok (.iadd, 1) := by decide +kernel
theorem dL_law_2308 : decode code 2308 = .ok (.iaload, 1) := by decide +kernel
theorem dL_law_2309 : decode code 2309 = .ok (.aload_n 0, 1) := by decide +kernel
theorem dL_law_2310 : decode code 2310 = .ok (.iload 4, 2) := by decide +kernel
theorem dL_law_2312 : decode code 2312 = .ok (.iconst 2, 1) := by decide +kernel
theorem dL_law_2313 : decode code 2313 = .ok (.iadd, 1) := by decide +kernel
theorem dL_law_2314 : decode code 2314 = .ok (.iaload, 1) := by decide +kernel
theorem dL_law_2315 : decode code 2315 = .ok (.aload_n 0, 1) := by decide +kernel
theorem dL_law_2316 : decode code 2316 = .ok (.iload 4, 2) := by decide +kernel
theorem dL_law_2318 : decode code 2318 = .ok (.iconst 3, 1) := by decide +kernel
theorem dL_law_2319 : decode code 2319 = .ok (.iadd, 1) := by decide +kernel
theorem dL_law_2320 : decode code 2320 = .ok (.iaload, 1) := by decide +kernel
theorem dL_law_2321 : decode code 2321 = .ok (.invokevirtual 248, 3) := by decide +kernel
theorem dL_law_2324 : decode code 2324 = .ok (.aload_n 2, 1) := by decide +kernel
theorem dL_law_2325 : decode code 2325 = .ok (.aload_n 0, 1) := by decide +kernel
theorem dL_law_2326 : decode code 2326 = .ok (.iload 4, 2) := by decide +kernel
theorem dL_law_2328 : decode code 2328 = .ok (.iconst 1, 1) := by decide +kernel
theorem dL_law_2329 : decode code 2329 = .ok (.iadd, 1) := by decide +kernel
theorem dL_law_2330 : decode code 2330 = .ok (.iaload, 1) := by decide +kernel
theorem dL_law_2331 : decode code 2331 = .ok (.aload_n 0, 1) := by decide +kernel
theorem dL_law_2332 : decode code 2332 = .ok (.iload 4, 2) := by decide +kernel
theorem dL_law_2334 : decode code 2334 = .ok (.iconst 2, 1) := by decide +kernel
theorem dL_law_2335 : decode code 2335 = .ok (.iadd, 1) := by decide +kernel
theorem dL_law_2336 : decode code 2336 = .ok (.iaload, 1) := by decide +kernel
theorem dL_law_2337 : decode code 2337 = .ok (.aload_n 0, 1) := by decide +kernel
theorem dL_law_2338 : decode code 2338 = .ok (.iload 4, 2) := by decide +kernel
theorem dL_law_2340 : decode code 2340 = .ok (.iconst 3, 1) := by decide +kernel
theorem dL_law_2341 : decode code 2341 = .ok (.iadd, 1) := by decide +kernel
theorem dL_law_2342 : decode code 2342 = .ok (.iaload, 1) := by decide +kernel
theorem dL_law_2343 : decode code 2343 = .ok (.invokevirtual 251, 3) := by decide +kernel
theorem dL_law_2346 : decode code 2346 = .ok (.if_icmp .eq 274, 3) := by decide +kernel
theorem dL_law_2349 : decode code 2349 = .ok (.iconst 0, 1) := by decide +kernel
theorem dL_law_2350 : decode code 2350 = .ok (.ireturn, 1) := by decide +kernel
theorem dL_law_2351 : decode code 2351 = .ok (.aload_n 1, 1) := by decide +kernel
theorem dL_law_2352 : decode code 2352 = .ok (.aload_n 0, 1) := by decide +kernel
theorem dL_law_2353 : decode code 2353 = .ok (.iload 4, 2) := by decide +kernel
theorem dL_law_2355 : decode code 2355 = .ok (.iconst 1, 1) := by decide +kernel
theorem dL_law_2356 : decode code 2356 = .ok (.iadd, 1) := by decide +kernel
theorem dL_law_2357 : decode code 2357 = .ok (.iaload, 1) := by decide +kernel
theorem dL_law_2358 : decode code 2358 = .ok (.aload_n 0, 1) := by decide +kernel
theorem dL_law_2359 : decode code 2359 = .ok (.iload 4, 2) := by decide +kernel
theorem dL_law_2361 : decode code 2361 = .ok (.iconst 2, 1) := by decide +kernel
theorem dL_law_2362 : decode code 2362 = .ok (.iadd, 1) := by decide +kernel
theorem dL_law_2363 : decode code 2363 = .ok (.iaload, 1) := by decide +kernel
theorem dL_law_2364 : decode code 2364 = .ok (.invokevirtual 252, 3) := by decide +kernel
theorem dL_law_2367 : decode code 2367 = .ok (.aload_n 2, 1) := by decide +kernel
theorem dL_law_2368 : decode code 2368 = .ok (.aload_n 0, 1) := by decide +kernel
theorem dL_law_2369 : decode code 2369 = .ok (.iload 4, 2) := by decide +kernel
theorem dL_law_2371 : decode code 2371 = .ok (.iconst 1, 1) := by decide +kernel
theorem dL_law_2372 : decode code 2372 = .ok (.iadd, 1) := by decide +kernel
theorem dL_law_2373 : decode code 2373 = .ok (.iaload, 1) := by decide +kernel
theorem dL_law_2374 : decode code 2374 = .ok (.aload_n 0, 1) := by decide +kernel
theorem dL_law_2375 : decode code 2375 = .ok (.iload 4, 2) := by decide +kernel
theorem dL_law_2377 : decode code 2377 = .ok (.iconst 2, 1) := by decide +kernel
theorem dL_law_2378 : decode code 2378 = .ok (.iadd, 1) := by decide +kernel
theorem dL_law_2379 : decode code 2379 = .ok (.iaload, 1) := by decide +kernel
theorem dL_law_2380 : decode code 2380 = .ok (.invokevirtual 255, 3) := by decide +kernel
theorem dL_law_2383 : decode code 2383 = .ok (.if_icmp .eq 237, 3) := by decide +kernel
theorem dL_law_2386 : decode code 2386 = .ok (.iconst 0, 1) := by decide +kernel
theorem dL_law_2387 : decode code 2387 = .ok (.ireturn, 1) := by decide +kernel
theorem dL_law_2388 : decode code 2388 = .ok (.aload_n 1, 1) := by decide +kernel
theorem dL_law_2389 : decode code 2389 = .ok (.aload_n 0, 1) := by decide +kernel
theorem dL_law_2390 : decode code 2390 = .ok (.iload 4, 2) := by decide +kernel
theorem dL_law_2392 : decode code 2392 = .ok (.iconst 1, 1) := by decide +kernel
theorem dL_law_2393 : decode code 2393 = .ok (.iadd, 1) := by decide +kernel
theorem dL_law_2394 : decode code 2394 = .ok (.iaload, 1) := by decide +kernel
theorem dL_law_2395 : decode code 2395 = .ok (.invokevirtual 256, 3) := by decide +kernel
theorem dL_law_2398 : decode code 2398 = .ok (.aload_n 2, 1) := by decide +kernel
theorem dL_law_2399 : decode code 2399 = .ok (.aload_n 0, 1) := by decide +kernel
theorem dL_law_2400 : decode code 2400 = .ok (.iload 4, 2) := by decide +kernel
theorem dL_law_2402 : decode code 2402 = .ok (.iconst 1, 1) := by decide +kernel
theorem dL_law_2403 : decode code 2403 = .ok (.iadd, 1) := by decide +kernel
theorem dL_law_2404 : decode code 2404 = .ok (.iaload, 1) := by decide +kernel
theorem dL_law_2405 : decode code 2405 = .ok (.invokevirtual 260, 3) := by decide +kernel
theorem dL_law_2408 : decode code 2408 = .ok (.if_icmp .eq 212, 3) := by decide +kernel
theorem dL_law_2411 : decode code 2411 = .ok (.iconst 0, 1) := by decide +kernel
theorem dL_law_2412 : decode code 2412 = .ok (.ireturn, 1) := by decide +kernel
theorem dL_law_2413 : decode code 2413 = .ok (.aload_n 1, 1) := by decide +kernel
theorem dL_law_2414 : decode code 2414 = .ok (.aload_n 0, 1) := by decide +kernel
theorem dL_law_2415 : decode code 2415 = .ok (.iload 4, 2) := by decide +kernel
theorem dL_law_2417 : decode code 2417 = .ok (.iconst 1, 1) := by decide +kernel
theorem dL_law_2418 : decode code 2418 = .ok (.iadd, 1) := by decide +kernel
theorem dL_law_2419 : decode code 2419 = .ok (.iaload, 1) := by decide +kernel
theorem dL_law_2420 : decode code 2420 = .ok (.invokevirtual 261, 3) := by decide +kernel
theorem dL_law_2423 : decode code 2423 = .ok (.aload_n 2, 1) := by decide +kernel
theorem dL_law_2424 : decode code 2424 = .ok (.aload_n 0, 1) := by decide +kernel
theorem dL_law_2425 : decode code 2425 = .ok (.iload 4, 2) := by decide +kernel
theorem dL_law_2427 : decode code 2427 = .ok (.iconst 1, 1) := by decide +kernel
theorem dL_law_2428 : decode code 2428 = .ok (.iadd, 1) := by decide +kernel
theorem dL_law_2429 : decode code 2429 = .ok (.iaload, 1) := by decide +kernel
theorem dL_law_2430 : decode code 2430 = .ok (.invokevirtual 264, 3) := by decide +kernel
theorem dL_law_2433 : decode code 2433 = .ok (.if_icmp .eq 187, 3) := by decide +kernel
theorem dL_law_2436 : decode code 2436 = .ok (.iconst 0, 1) := by decide +kernel
theorem dL_law_2437 : decode code 2437 = .ok (.ireturn, 1) := by decide +kernel
theorem dL_law_2438 : decode code 2438 = .ok (.aload_n 1, 1) := by decide +kernel
theorem dL_law_2439 : decode code 2439 = .ok (.aload_n 0, 1) := by decide +kernel
theorem dL_law_2440 : decode code 2440 = .ok (.iload 4, 2) := by decide +kernel
theorem dL_law_2442 : decode code 2442 = .ok (.iconst 1, 1) := by decide +kernel
theorem dL_law_2443 : decode code 2443 = .ok (.iadd, 1) := by decide +kernel
theorem dL_law_2444 : decode code 2444 = .ok (.iaload, 1) := by decide +kernel
theorem dL_law_2445 : decode code 2445 = .ok (.aload_n 0, 1) := by decide +kernel
theorem dL_law_2446 : decode code 2446 = .ok (.iload 4, 2) := by decide +kernel
theorem dL_law_2448 : decode code 2448 = .ok (.iconst 2, 1) := by decide +kernel
theorem dL_law_2449 : decode code 2449 = .ok (.iadd, 1) := by decide +kernel
theorem dL_law_2450 : decode code 2450 = .ok (.iaload, 1) := by decide +kernel
theorem dL_law_2451 : decode code 2451 = .ok (.invokevirtual 265, 3) := by decide +kernel
theorem dL_law_2454 : decode code 2454 = .ok (.aload_n 2, 1) := by decide +kernel
theorem dL_law_2455 : decode code 2455 = .ok (.aload_n 0, 1) := by decide +kernel
theorem dL_law_2456 : decode code 2456 = .ok (.iload 4, 2) := by decide +kernel
theorem dL_law_2458 : decode code 2458 = .ok (.iconst 1, 1) := by decide +kernel
theorem dL_law_2459 : decode code 2459 = .ok (.iadd, 1) := by decide +kernel
theorem dL_law_2460 : decode code 2460 = .ok (.iaload, 1) := by decide +kernel
theorem dL_law_2461 : decode code 2461 = .ok (.aload_n 0, 1) := by decide +kernel
theorem dL_law_2462 : decode code 2462 = .ok (.iload 4, 2) := by decide +kernel
theorem dL_law_2464 : decode code 2464 = .ok (.iconst 2, 1) := by decide +kernel
theorem dL_law_2465 : decode code 2465 = .ok (.iadd, 1) := by decide +kernel
theorem dL_law_2466 : decode code 2466 = .ok (.iaload, 1) := by decide +kernel
theorem dL_law_2467 : decode code 2467 = .ok (.invokevirtual 268, 3) := by decide +kernel
theorem dL_law_2470 : decode code 2470 = .ok (.if_icmp .eq 150, 3) := by decide +kernel
theorem dL_law_2473 : decode code 2473 = .ok (.iconst 0, 1) := by decide +kernel
theorem dL_law_2474 : decode code 2474 = .ok (.ireturn, 1) := by decide +kernel
theorem dL_law_2475 : decode code 2475 = .ok (.aload_n 1, 1) := by decide +kernel
theorem dL_law_2476 : decode code 2476 = .ok (.invokevirtual 269, 3) := by decide +kernel
theorem dL_law_2479 : decode code 2479 = .ok (.aload_n 2, 1) := by decide +kernel
theorem dL_law_2480 : decode code 2480 = .ok (.invokevirtual 273, 3) := by decide +kernel
theorem dL_law_2483 : decode code 2483 = .ok (.if_icmp .eq 137, 3) := by decide +kernel
theorem dL_law_2486 : decode code 2486 = .ok (.iconst 0, 1) := by decide +kernel
theorem dL_law_2487 : decode code 2487 = .ok (.ireturn, 1) := by decide +kernel
theorem dL_law_2488 : decode code 2488 = .ok (.aload_n 1, 1) := by decide +kernel
theorem dL_law_2489 : decode code 2489 = .ok (.invokevirtual 274, 3) := by decide +kernel
theorem dL_law_2492 : decode code 2492 = .ok (.aload_n 2, 1) := by decide +kernel
theorem dL_law_2493 : decode code 2493 = .ok (.invokevirtual 277, 3) := by decide +kernel
theorem dL_law_2496 : decode code 2496 = .ok (.if_icmp .eq 124, 3) := by decide +kernel
theorem dL_law_2499 : decode code 2499 = .ok (.iconst 0, 1) := by decide +kernel
theorem dL_law_2500 : decode code 2500 = .ok (.ireturn, 1) := by decide +kernel
theorem dL_law_2501 : decode code 2501 = .ok (.aload_n 1, 1) := by decide +kernel
theorem dL_law_2502 : decode code 2502 = .ok (.aload_n 0, 1) := by decide +kernel
theorem dL_law_2503 : decode code 2503 = .ok (.iload 4, 2) := by decide +kernel
theorem dL_law_2505 : decode code 2505 = .ok (.iconst 1, 1) := by decide +kernel
theorem dL_law_2506 : decode code 2506 = .ok (.iadd, 1) := by decide +kernel
theorem dL_law_2507 : decode code 2507 = .ok (.iaload, 1) := by decide +kernel
theorem dL_law_2508 : decode code 2508 = .ok (.invokevirtual 278, 3) := by decide +kernel
theorem dL_law_2511 : decode code 2511 = .ok (.aload_n 2, 1) := by decide +kernel
theorem dL_law_2512 : decode code 2512 = .ok (.aload_n 0, 1) := by decide +kernel
theorem dL_law_2513 : decode code 2513 = .ok (.iload 4, 2) := by decide +kernel
theorem dL_law_2515 : decode code 2515 = .ok (.iconst 1, 1) := by decide +kernel
theorem dL_law_2516 : decode code 2516 = .ok (.iadd, 1) := by decide +kernel
theorem dL_law_2517 : decode code 2517 = .ok (.iaload, 1) := by decide +kernel
theorem dL_law_2518 : decode code 2518 = .ok (.invokevirtual 281, 3) := by decide +kernel
theorem dL_law_2521 : decode code 2521 = .ok (.if_icmp .eq 99, 3) := by decide +kernel
theorem dL_law_2524 : decode code 2524 = .ok (.iconst 0, 1) := by decide +kernel
theorem dL_law_2525 : decode code 2525 = .ok (.ireturn, 1) := by decide +kernel
theorem dL_law_2526 : decode code 2526 = .ok (.aload_n 1, 1) := by decide +kernel
theorem dL_law_2527 : decode code 2527 = .ok (.aload_n 0, 1) := by decide +kernel
theorem dL_law_2528 : decode code 2528 = .ok (.iload 4, 2) := by decide +kernel
theorem dL_law_2530 : decode code 2530 = .ok (.iconst 1, 1) := by decide +kernel
theorem dL_law_2531 : decode code 2531 = .ok (.iadd, 1) := by decide +kernel
theorem dL_law_2532 : decode code 2532 = .ok (.iaload, 1) := by decide +kernel
theorem dL_law_2533 : decode code 2533 = .ok (.aload_n 3, 1) := by decide +kernel
theorem dL_law_2534 : decode code 2534 = .ok (.invokestatic 282, 3) := by decide +kernel
theorem dL_law_2537 : decode code 2537 = .ok (.istore 5, 2) := by decide +kernel
theorem dL_law_2539 : decode code 2539 = .ok (.aload_n 2, 1) := by decide +kernel
theorem dL_law_2540 : decode code 2540 = .ok (.aload_n 0, 1) := by decide +kernel
theorem dL_law_2541 : decode code 2541 = .ok (.iload 4, 2) := by decide +kernel
theorem dL_law_2543 : decode code 2543 = .ok (.iconst 1, 1) := by decide +kernel
theorem dL_law_2544 : decode code 2544 = .ok (.iadd, 1) := by decide +kernel
theorem dL_law_2545 : decode code 2545 = .ok (.iaload, 1) := by decide +kernel
theorem dL_law_2546 : decode code 2546 = .ok (.invokevirtual 287, 3) := by decide +kernel
theorem dL_law_2549 : decode code 2549 = .ok (.istore 6, 2) := by decide +kernel
theorem dL_law_2551 : decode code 2551 = .ok (.aload_n 2, 1) := by decide +kernel
theorem dL_law_2552 : decode code 2552 = .ok (.invokevirtual 288, 3) := by decide +kernel
theorem dL_law_2555 : decode code 2555 = .ok (.iload 5, 2) := by decide +kernel
theorem dL_law_2557 : decode code 2557 = .ok (.if_icmp .eq 5, 3) := by decide +kernel
theorem dL_law_2560 : decode code 2560 = .ok (.iconst 0, 1) := by decide +kernel
theorem dL_law_2561 : decode code 2561 = .ok (.ireturn, 1) := by decide +kernel
theorem dL_law_2562 : decode code 2562 = .ok (.iload 5, 2) := by decide +kernel
theorem dL_law_2564 : decode code 2564 = .ok (.ifCond .ne 15, 3) := by decide +kernel
theorem dL_law_2567 : decode code 2567 = .ok (.aload_n 3, 1) := by decide +kernel
theorem dL_law_2568 : decode code 2568 = .ok (.iconst 0, 1) := by decide +kernel
theorem dL_law_2569 : decode code 2569 = .ok (.laload, 1) := by decide +kernel
theorem dL_law_2570 : decode code 2570 = .ok (.iload 6, 2) := by decide +kernel
theorem dL_law_2572 : decode code 2572 = .ok (.i2l, 1) := by decide +kernel
theorem dL_law_2573 : decode code 2573 = .ok (.lcmp, 1) := by decide +kernel
theorem dL_law_2574 : decode code 2574 = .ok (.ifCond .eq 5, 3) := by decide +kernel
theorem dL_law_2577 : decode code 2577 = .ok (.iconst 0, 1) := by decide +kernel
theorem dL_law_2578 : decode code 2578 = .ok (.ireturn, 1) := by decide +kernel
theorem dL_law_2579 : decode code 2579 = .ok (.goto 41, 3) := by decide +kernel
theorem dL_law_2582 : decode code 2582 = .ok (.aload_n 1, 1) := by decide +kernel
theorem dL_law_2583 : decode code 2583 = .ok (.aload_n 0, 1) := by decide +kernel
theorem dL_law_2584 : decode code 2584 = .ok (.iload 4, 2) := by decide +kernel
theorem dL_law_2586 : decode code 2586 = .ok (.iconst 1, 1) := by decide +kernel
theorem dL_law_2587 : decode code 2587 = .ok (.iadd, 1) := by decide +kernel
theorem dL_law_2588 : decode code 2588 = .ok (.iaload, 1) := by decide +kernel
theorem dL_law_2589 : decode code 2589 = .ok (.invokevirtual 291, 3) := by decide +kernel
theorem dL_law_2592 : decode code 2592 = .ok (.aload_n 2, 1) := by decide +kernel
theorem dL_law_2593 : decode code 2593 = .ok (.aload_n 0, 1) := by decide +kernel
theorem dL_law_2594 : decode code 2594 = .ok (.iload 4, 2) := by decide +kernel
theorem dL_law_2596 : decode code 2596 = .ok (.iconst 1, 1) := by decide +kernel
theorem dL_law_2597 : decode code 2597 = .ok (.iadd, 1) := by decide +kernel
theorem dL_law_2598 : decode code 2598 = .ok (.iaload, 1) := by decide +kernel
theorem dL_law_2599 : decode code 2599 = .ok (.invokevirtual 294, 3) := by decide +kernel
theorem dL_law_2602 : decode code 2602 = .ok (.if_icmp .eq 18, 3) := by decide +kernel
theorem dL_law_2605 : decode code 2605 = .ok (.iconst 0, 1) := by decide +kernel
theorem dL_law_2606 : decode code 2606 = .ok (.ireturn, 1) := by decide +kernel
theorem dL_law_2607 : decode code 2607 = .ok (.aload_n 1, 1) := by decide +kernel
theorem dL_law_2608 : decode code 2608 = .ok (.invokevirtual 295, 3) := by decide +kernel
theorem dL_law_2611 : decode code 2611 = .ok (.aload_n 2, 1) := by decide +kernel
theorem dL_law_2612 : decode code 2612 = .ok (.invokevirtual 298, 3) := by decide +kernel
theorem dL_law_2615 : decode code 2615 = .ok (.if_icmp .eq 5, 3) := by decide +kernel
theorem dL_law_2618 : decode code 2618 = .ok (.iconst 0, 1) := by decide +kernel
theorem dL_law_2619 : decode code 2619 = .ok (.ireturn, 1) := by decide +kernel
theorem dL_law_2620 : decode code 2620 = .ok (.iinc 4 6, 3) := by decide +kernel
theorem dL_law_2623 : decode code 2623 = .ok (.goto (-2600), 3) := by decide +kernel
theorem dL_law_2626 : decode code 2626 = .ok (.iconst 1, 1) := by decide +kernel
theorem dL_law_2627 : decode code 2627 = .ok (.ireturn, 1) := by decide +kernel
