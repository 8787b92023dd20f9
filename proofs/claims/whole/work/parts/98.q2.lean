/-! the law, decoded -/
theorem dL_law_430 : decode code 430 = .ok (.iload 4, 2) := by decide +kernel
theorem dL_law_432 : decode code 432 = .ok (.iconst 2, 1) := by decide +kernel
theorem dL_law_433 : decode code 433 = .ok (.iadd, 1) := by decide +kernel
theorem dL_law_434 : decode code 434 = .ok (.iaload, 1) := by decide +kernel
theorem dL_law_435 : decode code 435 = .ok (.invokevirtual 69, 3) := by decide +kernel
theorem dL_law_438 : decode code 438 = .ok (.istore 6, 2) := by decide +kernel
theorem dL_law_440 : decode code 440 = .ok (.aload_n 2, 1) := by decide +kernel
theorem dL_law_441 : decode code 441 = .ok (.invokevirtual 50, 3) := by decide +kernel
theorem dL_law_444 : decode code 444 = .ok (.iload 5, 2) := by decide +kernel
theorem dL_law_446 : decode code 446 = .ok (.if_icmp .eq 5, 3) := by decide +kernel
theorem dL_law_449 : decode code 449 = .ok (.iconst 0, 1) := by decide +kernel
theorem dL_law_450 : decode code 450 = .ok (.ireturn, 1) := by decide +kernel
theorem dL_law_451 : decode code 451 = .ok (.iload 5, 2) := by decide +kernel
theorem dL_law_453 : decode code 453 = .ok (.ifCond .ne 15, 3) := by decide +kernel
theorem dL_law_456 : decode code 456 = .ok (.aload_n 3, 1) := by decide +kernel
theorem dL_law_457 : decode code 457 = .ok (.iconst 0, 1) := by decide +kernel
theorem dL_law_458 : decode code 458 = .ok (.laload, 1) := by decide +kernel
theorem dL_law_459 : decode code 459 = .ok (.iload 6, 2) := by decide +kernel
theorem dL_law_461 : decode code 461 = .ok (.i2l, 1) := by decide +kernel
theorem dL_law_462 : decode code 462 = .ok (.lcmp, 1) := by decide +kernel
theorem dL_law_463 : decode code 463 = .ok (.ifCond .eq 5, 3) := by decide +kernel
theorem dL_law_466 : decode code 466 = .ok (.iconst 0, 1) := by decide +kernel
theorem dL_law_467 : decode code 467 = .ok (.ireturn, 1) := by decide +kernel
theorem dL_law_468 : decode code 468 = .ok (.goto 954, 3) := by decide +kernel
theorem dL_law_471 : decode code 471 = .ok (.aload_n 1, 1) := by decide +kernel
theorem dL_law_472 : decode code 472 = .ok (.aload_n 0, 1) := by decide +kernel
theorem dL_law_473 : decode code 473 = .ok (.iload 4, 2) := by decide +kernel
theorem dL_law_475 : decode code 475 = .ok (.iconst 1, 1) := by decide +kernel
theorem dL_law_476 : decode code 476 = .ok (.iadd, 1) := by decide +kernel
theorem dL_law_477 : decode code 477 = .ok (.iaload, 1) := by decide +kernel
theorem dL_law_478 : decode code 478 = .ok (.aload_n 0, 1) := by decide +kernel
theorem dL_law_479 : decode code 479 = .ok (.iload 4, 2) := by decide +kernel
theorem dL_law_481 : decode code 481 = .ok (.iconst 2, 1) := by decide +kernel
theorem dL_law_482 : decode code 482 = .ok (.iadd, 1) := by decide +kernel
theorem dL_law_483 : decode code 483 = .ok (.iaload, 1) := by decide +kernel
theorem dL_law_484 : decode code 484 = .ok (.aload_n 3, 1) := by decide +kernel
theorem dL_law_485 : decode code 485 = .ok (.invokestatic 70, 3) := by decide +kernel
theorem dL_law_488 : decode code 488 = .ok (.istore 5, 2) := by decide +kernel
theorem dL_law_490 : decode code 490 = .ok (.aload_n 2, 1) := by decide +kernel
theorem dL_law_491 : decode code 491 = .ok (.aload_n 0, 1) := by decide +kernel
theorem dL_law_492 : decode code 492 = .ok (.iload 4, 2) := by decide +kernel
theorem dL_law_494 : decode code 494 = .ok (.iconst 1, 1) := by decide +kernel
theorem dL_law_495 : decode code 495 = .ok (.iadd, 1) := by decide +kernel
theorem dL_law_496 : decode code 496 = .ok (.iaload, 1) := by decide +kernel
theorem dL_law_497 : decode code 497 = .ok (.aload_n 0, 1) := by decide +kernel
theorem dL_law_498 : decode code 498 = .ok (.iload 4, 2) := by decide +kernel
theorem dL_law_500 : decode code 500 = .ok (.iconst 2, 1) := by decide +kernel
theorem dL_law_501 : decode code 501 = .ok (.iadd, 1) := by decide +kernel
theorem dL_law_502 : decode code 502 = .ok (.iaload, 1) := by decide +kernel
theorem dL_law_503 : decode code 503 = .ok (.invokevirtual 72, 3) := by decide +kernel
theorem dL_law_506 : decode code 506 = .ok (.istore 6, 2) := by decide +kernel
theorem dL_law_508 : decode code 508 = .ok (.aload_n 2, 1) := by decide +kernel
theorem dL_law_509 : decode code 509 = .ok (.invokevirtual 50, 3) := by decide +kernel
theorem dL_law_512 : decode code 512 = .ok (.iload 5, 2) := by decide +kernel
theorem dL_law_514 : decode code 514 = .ok (.if_icmp .eq 5, 3) := by decide +kernel
theorem dL_law_517 : decode code 517 = .ok (.iconst 0, 1) := by decide +kernel
theorem dL_law_518 : decode code 518 = .ok (.ireturn, 1) := by decide +kernel
theorem dL_law_519 : decode code 519 = .ok (.iload 5, 2) := by decide +kernel
theorem dL_law_521 : decode code 521 = .ok (.ifCond .ne 15, 3) := by decide +kernel
theorem dL_law_524 : decode code 524 = .ok (.aload_n 3, 1) := by decide +kernel
theorem dL_law_525 : decode code 525 = .ok (.iconst 0, 1) := by decide +kernel
theorem dL_law_526 : decode code 526 = .ok (.laload, 1) := by decide +kernel
theorem dL_law_527 : decode code 527 = .ok (.iload 6, 2) := by decide +kernel
theorem dL_law_529 : decode code 529 = .ok (.i2l, 1) := by decide +kernel
theorem dL_law_530 : decode code 530 = .ok (.lcmp, 1) := by decide +kernel
theorem dL_law_531 : decode code 531 = .ok (.ifCond .eq 5, 3) := by decide +kernel
theorem dL_law_534 : decode code 534 = .ok (.iconst 0, 1) := by decide +kernel
theorem dL_law_535 : decode code 535 = .ok (.ireturn, 1) := by decide +kernel
theorem dL_law_536 : decode code 536 = .ok (.goto 886, 3) := by decide +kernel
theorem dL_law_539 : decode code 539 = .ok (.aload_n 1, 1) := by decide +kernel
theorem dL_law_540 : decode code 540 = .ok (.aload_n 0, 1) := by decide +kernel
theorem dL_law_541 : decode code 541 = .ok (.iload 4, 2) := by decide +kernel
theorem dL_law_543 : decode code 543 = .ok (.iconst 1, 1) := by decide +kernel
theorem dL_law_544 : decode code 544 = .ok (.iadd, 1) := by decide +kernel
theorem dL_law_545 : decode code 545 = .ok (.iaload, 1) := by decide +kernel
theorem dL_law_546 : decode code 546 = .ok (.aload_n 0, 1) := by decide +kernel
theorem dL_law_547 : decode code 547 = .ok (.iload 4, 2) := by decide +kernel
theorem dL_law_549 : decode code 549 = .ok (.iconst 2, 1) := by decide +kernel
theorem dL_law_550 : decode code 550 = .ok (.iadd, 1) := by decide +kernel
theorem dL_law_551 : decode code 551 = .ok (.iaload, 1) := by decide +kernel
theorem dL_law_552 : decode code 552 = .ok (.invokevirtual 73, 3) := by decide +kernel
theorem dL_law_555 : decode code 555 = .ok (.aload_n 2, 1) := by decide +kernel
theorem dL_law_556 : decode code 556 = .ok (.aload_n 0, 1) := by decide +kernel
theorem dL_law_557 : decode code 557 = .ok (.iload 4, 2) := by decide +kernel
theorem dL_law_559 : decode code 559 = .ok (.iconst 1, 1) := by decide +kernel
theorem dL_law_560 : decode code 560 = .ok (.iadd, 1) := by decide +kernel
theorem dL_law_561 : decode code 561 = .ok (.iaload, 1) := by decide +kernel
theorem dL_law_562 : decode code 562 = .ok (.aload_n 0, 1) := by decide +kernel
theorem dL_law_563 : decode code 563 = .ok (.iload 4, 2) := by decide +kernel
theorem dL_law_565 : decode code 565 = .ok (.iconst 2, 1) := by decide +kernel
theorem dL_law_566 : decode code 566 = .ok (.iadd, 1) := by decide +kernel
theorem dL_law_567 : decode code 567 = .ok (.iaload, 1) := by decide +kernel
theorem dL_law_568 : decode code 568 = .ok (.invokevirtual 76, 3) := by decide +kernel
theorem dL_law_571 : decode code 571 = .ok (.if_icmp .eq 851, 3) := by decide +kernel
theorem dL_law_574 : decode code 574 = .ok (.iconst 0, 1) := by decide +kernel
theorem dL_law_575 : decode code 575 = .ok (.ireturn, 1) := by decide +kernel
theorem dL_law_576 : decode code 576 = .ok (.aload_n 1, 1) := by decide +kernel
theorem dL_law_577 : decode code 577 = .ok (.aload_n 0, 1) := by decide +kernel
theorem dL_law_578 : decode code 578 = .ok (.iload 4, 2) := by decide +kernel
theorem dL_law_580 : decode code 580 = .ok (.iconst 1, 1) := by decide +kernel
theorem dL_law_581 : decode code 581 = .ok (.iadd, 1) := by decide +kernel
theorem dL_law_582 : decode code 582 = .ok (.iaload, 1) := by decide +kernel
theorem dL_law_583 : decode code 583 = .ok (.aload_n 0, 1) := by decide +kernel
theorem dL_law_584 : decode code 584 = .ok (.iload 4, 2) := by decide +kernel
theorem dL_law_586 : decode code 586 = .ok (.iconst 2, 1) := by decide +kernel
theorem dL_law_587 : decode code 587 = .ok (.iadd, 1) := by decide +kernel
theorem dL_law_588 : decode code 588 = .ok (.iaload, 1) := by decide +kernel
theorem dL_law_589 : decode code 589 = .ok (.invokevirtual 77, 3) := by decide +kernel
theorem dL_law_592 : decode code 592 = .ok (.aload_n 2, 1) := by decide +kernel
theorem dL_law_593 : decode code 593 = .ok (.aload_n 0, 1) := by decide +kernel
