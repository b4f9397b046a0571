/-! DECODE ROWS of the law's methods -/
theorem dL_isStep_445 : decode cL_isStep 445 = .ok (.iload 8, 2) := by decide +kernel
theorem dL_isStep_447 : decode cL_isStep 447 = .ok (.iconst 1, 1) := by decide +kernel
theorem dL_isStep_448 : decode cL_isStep 448 = .ok (.if_icmp .eq 8, 3) := by decide +kernel
theorem dL_isStep_451 : decode cL_isStep 451 = .ok (.bipush (-5), 2) := by decide +kernel
theorem dL_isStep_453 : decode cL_isStep 453 = .ok (.goto 7, 3) := by decide +kernel
theorem dL_isStep_456 : decode cL_isStep 456 = .ok (.iconst 1, 1) := by decide +kernel
theorem dL_isStep_457 : decode cL_isStep 457 = .ok (.iload 7, 2) := by decide +kernel
theorem dL_isStep_459 : decode cL_isStep 459 = .ok (.isub, 1) := by decide +kernel
theorem dL_isStep_460 : decode cL_isStep 460 = .ok (.if_icmp .ne 7, 3) := by decide +kernel
theorem dL_isStep_463 : decode cL_isStep 463 = .ok (.iconst 1, 1) := by decide +kernel
theorem dL_isStep_464 : decode cL_isStep 464 = .ok (.goto 4, 3) := by decide +kernel
theorem dL_isStep_467 : decode cL_isStep 467 = .ok (.iconst 0, 1) := by decide +kernel
theorem dL_isStep_468 : decode cL_isStep 468 = .ok (.ireturn, 1) := by decide +kernel
theorem dL_isStep_469 : decode cL_isStep 469 = .ok (.aload_n 0, 1) := by decide +kernel
theorem dL_isStep_470 : decode cL_isStep 470 = .ok (.bipush 14, 2) := by decide +kernel
theorem dL_isStep_472 : decode cL_isStep 472 = .ok (.invokevirtual 9, 3) := by decide +kernel
theorem dL_isStep_475 : decode cL_isStep 475 = .ok (.ifCond .eq 14, 3) := by decide +kernel
theorem dL_isStep_478 : decode cL_isStep 478 = .ok (.aload_n 0, 1) := by decide +kernel
theorem dL_isStep_479 : decode cL_isStep 479 = .ok (.invokevirtual 37, 3) := by decide +kernel
theorem dL_isStep_482 : decode cL_isStep 482 = .ok (.aload_n 1, 1) := by decide +kernel
theorem dL_isStep_483 : decode cL_isStep 483 = .ok (.invokevirtual 37, 3) := by decide +kernel
theorem dL_isStep_486 : decode cL_isStep 486 = .ok (.if_icmp .ne 7, 3) := by decide +kernel
theorem dL_isStep_489 : decode cL_isStep 489 = .ok (.iconst 1, 1) := by decide +kernel
theorem dL_isStep_490 : decode cL_isStep 490 = .ok (.goto 4, 3) := by decide +kernel
theorem dL_isStep_493 : decode cL_isStep 493 = .ok (.iconst 0, 1) := by decide +kernel
theorem dL_isStep_494 : decode cL_isStep 494 = .ok (.ireturn, 1) := by decide +kernel
theorem dL_isStep_495 : decode cL_isStep 495 = .ok (.iload_n 3, 1) := by decide +kernel
theorem dL_isStep_496 : decode cL_isStep 496 = .ok (.iconst 2, 1) := by decide +kernel
theorem dL_isStep_497 : decode cL_isStep 497 = .ok (.invokestatic 15, 3) := by decide +kernel
theorem dL_isStep_500 : decode cL_isStep 500 = .ok (.ifCond .ne 34, 3) := by decide +kernel
theorem dL_isStep_503 : decode cL_isStep 503 = .ok (.aload_n 0, 1) := by decide +kernel
theorem dL_isStep_504 : decode cL_isStep 504 = .ok (.iload 4, 2) := by decide +kernel
theorem dL_isStep_506 : decode cL_isStep 506 = .ok (.iconst 2, 1) := by decide +kernel
theorem dL_isStep_507 : decode cL_isStep 507 = .ok (.invokestatic 15, 3) := by decide +kernel
theorem dL_isStep_510 : decode cL_isStep 510 = .ok (.invokevirtual 41, 3) := by decide +kernel
theorem dL_isStep_513 : decode cL_isStep 513 = .ok (.aload_n 1, 1) := by decide +kernel
theorem dL_isStep_514 : decode cL_isStep 514 = .ok (.iload 4, 2) := by decide +kernel
theorem dL_isStep_516 : decode cL_isStep 516 = .ok (.iconst 2, 1) := by decide +kernel
theorem dL_isStep_517 : decode cL_isStep 517 = .ok (.invokestatic 15, 3) := by decide +kernel
theorem dL_isStep_520 : decode cL_isStep 520 = .ok (.invokevirtual 41, 3) := by decide +kernel
theorem dL_isStep_523 : decode cL_isStep 523 = .ok (.if_icmp .ne 7, 3) := by decide +kernel
theorem dL_isStep_526 : decode cL_isStep 526 = .ok (.iconst 1, 1) := by decide +kernel
theorem dL_isStep_527 : decode cL_isStep 527 = .ok (.goto 35, 3) := by decide +kernel
theorem dL_isStep_530 : decode cL_isStep 530 = .ok (.iconst 0, 1) := by decide +kernel
theorem dL_isStep_531 : decode cL_isStep 531 = .ok (.goto 31, 3) := by decide +kernel
theorem dL_isStep_534 : decode cL_isStep 534 = .ok (.aload_n 0, 1) := by decide +kernel
theorem dL_isStep_535 : decode cL_isStep 535 = .ok (.iload 4, 2) := by decide +kernel
theorem dL_isStep_537 : decode cL_isStep 537 = .ok (.iconst 2, 1) := by decide +kernel
theorem dL_isStep_538 : decode cL_isStep 538 = .ok (.invokestatic 15, 3) := by decide +kernel
theorem dL_isStep_541 : decode cL_isStep 541 = .ok (.invokevirtual 44, 3) := by decide +kernel
theorem dL_isStep_544 : decode cL_isStep 544 = .ok (.aload_n 1, 1) := by decide +kernel
theorem dL_isStep_545 : decode cL_isStep 545 = .ok (.iload 4, 2) := by decide +kernel
theorem dL_isStep_547 : decode cL_isStep 547 = .ok (.iconst 2, 1) := by decide +kernel
theorem dL_isStep_548 : decode cL_isStep 548 = .ok (.invokestatic 15, 3) := by decide +kernel
theorem dL_isStep_551 : decode cL_isStep 551 = .ok (.invokevirtual 44, 3) := by decide +kernel
theorem dL_isStep_554 : decode cL_isStep 554 = .ok (.if_icmp .ne 7, 3) := by decide +kernel
theorem dL_isStep_557 : decode cL_isStep 557 = .ok (.iconst 1, 1) := by decide +kernel
theorem dL_isStep_558 : decode cL_isStep 558 = .ok (.goto 4, 3) := by decide +kernel
theorem dL_isStep_561 : decode cL_isStep 561 = .ok (.iconst 0, 1) := by decide +kernel
theorem dL_isStep_562 : decode cL_isStep 562 = .ok (.ireturn, 1) := by decide +kernel
theorem dL_isStep_563 : decode cL_isStep 563 = .ok (.iconst 1, 1) := by decide +kernel
theorem dL_isStep_564 : decode cL_isStep 564 = .ok (.iload_n 3, 1) := by decide +kernel
theorem dL_isStep_565 : decode cL_isStep 565 = .ok (.iload 4, 2) := by decide +kernel
theorem dL_isStep_567 : decode cL_isStep 567 = .ok (.bipush 8, 2) := by decide +kernel
theorem dL_isStep_569 : decode cL_isStep 569 = .ok (.invokestatic 15, 3) := by decide +kernel
theorem dL_isStep_572 : decode cL_isStep 572 = .ok (.ifCond .ne 8, 3) := by decide +kernel
theorem dL_isStep_575 : decode cL_isStep 575 = .ok (.bipush 99, 2) := by decide +kernel
theorem dL_isStep_577 : decode cL_isStep 577 = .ok (.goto 5, 3) := by decide +kernel
theorem dL_isStep_580 : decode cL_isStep 580 = .ok (.bipush 6, 2) := by decide +kernel
theorem dL_isStep_582 : decode cL_isStep 582 = .ok (.invokestatic 15, 3) := by decide +kernel
theorem dL_isStep_585 : decode cL_isStep 585 = .ok (.iadd, 1) := by decide +kernel
theorem dL_isStep_586 : decode cL_isStep 586 = .ok (.istore 6, 2) := by decide +kernel
theorem dL_isStep_588 : decode cL_isStep 588 = .ok (.aload_n 0, 1) := by decide +kernel
theorem dL_isStep_589 : decode cL_isStep 589 = .ok (.iconst 3, 1) := by decide +kernel
theorem dL_isStep_590 : decode cL_isStep 590 = .ok (.invokevirtual 9, 3) := by decide +kernel
theorem dL_isStep_593 : decode cL_isStep 593 = .ok (.istore 7, 2) := by decide +kernel
theorem dL_isStep_595 : decode cL_isStep 595 = .ok (.aload_n 0, 1) := by decide +kernel
theorem dL_isStep_596 : decode cL_isStep 596 = .ok (.bipush 7, 2) := by decide +kernel
theorem dL_isStep_598 : decode cL_isStep 598 = .ok (.invokevirtual 9, 3) := by decide +kernel
theorem dL_isStep_601 : decode cL_isStep 601 = .ok (.istore 8, 2) := by decide +kernel
theorem dL_isStep_603 : decode cL_isStep 603 = .ok (.iconst 0, 1) := by decide +kernel
theorem dL_isStep_604 : decode cL_isStep 604 = .ok (.istore 9, 2) := by decide +kernel
theorem dL_isStep_606 : decode cL_isStep 606 = .ok (.iconst 0, 1) := by decide +kernel
theorem dL_isStep_607 : decode cL_isStep 607 = .ok (.istore 10, 2) := by decide +kernel
theorem dL_isStep_609 : decode cL_isStep 609 = .ok (.iload 10, 2) := by decide +kernel
theorem dL_isStep_611 : decode cL_isStep 611 = .ok (.iload 6, 2) := by decide +kernel
theorem dL_isStep_613 : decode cL_isStep 613 = .ok (.if_icmp .ge 19, 3) := by decide +kernel
theorem dL_isStep_616 : decode cL_isStep 616 = .ok (.iload 9, 2) := by decide +kernel
theorem dL_isStep_618 : decode cL_isStep 618 = .ok (.aload_n 1, 1) := by decide +kernel
theorem dL_isStep_619 : decode cL_isStep 619 = .ok (.iconst 1, 1) := by decide +kernel
theorem dL_isStep_620 : decode cL_isStep 620 = .ok (.invokevirtual 47, 3) := by decide +kernel
theorem dL_isStep_623 : decode cL_isStep 623 = .ok (.iadd, 1) := by decide +kernel
theorem dL_isStep_624 : decode cL_isStep 624 = .ok (.istore 9, 2) := by decide +kernel
theorem dL_isStep_626 : decode cL_isStep 626 = .ok (.iinc 10 1, 3) := by decide +kernel
theorem dL_isStep_629 : decode cL_isStep 629 = .ok (.goto (-20), 3) := by decide +kernel
theorem dL_isStep_632 : decode cL_isStep 632 = .ok (.aload_n 0, 1) := by decide +kernel
theorem dL_isStep_633 : decode cL_isStep 633 = .ok (.iload 6, 2) := by decide +kernel
theorem dL_isStep_635 : decode cL_isStep 635 = .ok (.invokevirtual 47, 3) := by decide +kernel
theorem dL_isStep_638 : decode cL_isStep 638 = .ok (.iload 9, 2) := by decide +kernel
theorem dL_isStep_640 : decode cL_isStep 640 = .ok (.if_icmp .ne 34, 3) := by decide +kernel
theorem dL_isStep_643 : decode cL_isStep 643 = .ok (.aload_n 0, 1) := by decide +kernel
theorem dL_isStep_644 : decode cL_isStep 644 = .ok (.iconst 3, 1) := by decide +kernel
theorem dL_isStep_645 : decode cL_isStep 645 = .ok (.invokevirtual 9, 3) := by decide +kernel
theorem dL_isStep_648 : decode cL_isStep 648 = .ok (.iload 7, 2) := by decide +kernel
theorem dL_isStep_650 : decode cL_isStep 650 = .ok (.iload 6, 2) := by decide +kernel
theorem dL_isStep_652 : decode cL_isStep 652 = .ok (.iadd, 1) := by decide +kernel
theorem dL_isStep_653 : decode cL_isStep 653 = .ok (.if_icmp .ne 21, 3) := by decide +kernel
theorem dL_isStep_656 : decode cL_isStep 656 = .ok (.aload_n 0, 1) := by decide +kernel
theorem dL_isStep_657 : decode cL_isStep 657 = .ok (.bipush 7, 2) := by decide +kernel
theorem dL_isStep_659 : decode cL_isStep 659 = .ok (.invokevirtual 9, 3) := by decide +kernel
