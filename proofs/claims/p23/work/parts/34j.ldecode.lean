/-! DECODE ROWS of the law's methods -/
theorem dL_isWell_496 : decode cL_isWell 496 = .ok (.iaload, 1) := by decide +kernel
theorem dL_isWell_497 : decode cL_isWell 497 = .ok (.aload_n 0, 1) := by decide +kernel
theorem dL_isWell_498 : decode cL_isWell 498 = .ok (.iconst 5, 1) := by decide +kernel
theorem dL_isWell_499 : decode cL_isWell 499 = .ok (.iload 7, 2) := by decide +kernel
theorem dL_isWell_501 : decode cL_isWell 501 = .ok (.iadd, 1) := by decide +kernel
theorem dL_isWell_502 : decode cL_isWell 502 = .ok (.invokevirtual 9, 3) := by decide +kernel
theorem dL_isWell_505 : decode cL_isWell 505 = .ok (.if_icmp .ne 7, 3) := by decide +kernel
theorem dL_isWell_508 : decode cL_isWell 508 = .ok (.iconst 1, 1) := by decide +kernel
theorem dL_isWell_509 : decode cL_isWell 509 = .ok (.goto 4, 3) := by decide +kernel
theorem dL_isWell_512 : decode cL_isWell 512 = .ok (.iconst 0, 1) := by decide +kernel
theorem dL_isWell_513 : decode cL_isWell 513 = .ok (.istore 6, 2) := by decide +kernel
theorem dL_isWell_515 : decode cL_isWell 515 = .ok (.iinc 7 1, 3) := by decide +kernel
theorem dL_isWell_518 : decode cL_isWell 518 = .ok (.goto (-37), 3) := by decide +kernel
theorem dL_isWell_521 : decode cL_isWell 521 = .ok (.aload_n 0, 1) := by decide +kernel
theorem dL_isWell_522 : decode cL_isWell 522 = .ok (.invokevirtual 37, 3) := by decide +kernel
theorem dL_isWell_525 : decode cL_isWell 525 = .ok (.istore 7, 2) := by decide +kernel
theorem dL_isWell_527 : decode cL_isWell 527 = .ok (.iload 6, 2) := by decide +kernel
theorem dL_isWell_529 : decode cL_isWell 529 = .ok (.ifCond .eq 78, 3) := by decide +kernel
theorem dL_isWell_532 : decode cL_isWell 532 = .ok (.iload_n 1, 1) := by decide +kernel
theorem dL_isWell_533 : decode cL_isWell 533 = .ok (.aload_n 0, 1) := by decide +kernel
theorem dL_isWell_534 : decode cL_isWell 534 = .ok (.bipush 10, 2) := by decide +kernel
theorem dL_isWell_536 : decode cL_isWell 536 = .ok (.invokevirtual 9, 3) := by decide +kernel
theorem dL_isWell_539 : decode cL_isWell 539 = .ok (.if_icmp .ne 68, 3) := by decide +kernel
theorem dL_isWell_542 : decode cL_isWell 542 = .ok (.iload_n 2, 1) := by decide +kernel
theorem dL_isWell_543 : decode cL_isWell 543 = .ok (.aload_n 0, 1) := by decide +kernel
theorem dL_isWell_544 : decode cL_isWell 544 = .ok (.bipush 11, 2) := by decide +kernel
theorem dL_isWell_546 : decode cL_isWell 546 = .ok (.invokevirtual 9, 3) := by decide +kernel
theorem dL_isWell_549 : decode cL_isWell 549 = .ok (.if_icmp .ne 58, 3) := by decide +kernel
theorem dL_isWell_552 : decode cL_isWell 552 = .ok (.iload_n 3, 1) := by decide +kernel
theorem dL_isWell_553 : decode cL_isWell 553 = .ok (.aload_n 0, 1) := by decide +kernel
theorem dL_isWell_554 : decode cL_isWell 554 = .ok (.bipush 12, 2) := by decide +kernel
theorem dL_isWell_556 : decode cL_isWell 556 = .ok (.invokevirtual 9, 3) := by decide +kernel
theorem dL_isWell_559 : decode cL_isWell 559 = .ok (.if_icmp .ne 48, 3) := by decide +kernel
theorem dL_isWell_562 : decode cL_isWell 562 = .ok (.iload 5, 2) := by decide +kernel
theorem dL_isWell_564 : decode cL_isWell 564 = .ok (.aload_n 0, 1) := by decide +kernel
theorem dL_isWell_565 : decode cL_isWell 565 = .ok (.bipush 9, 2) := by decide +kernel
theorem dL_isWell_567 : decode cL_isWell 567 = .ok (.invokevirtual 9, 3) := by decide +kernel
theorem dL_isWell_570 : decode cL_isWell 570 = .ok (.if_icmp .ne 37, 3) := by decide +kernel
theorem dL_isWell_573 : decode cL_isWell 573 = .ok (.iload 7, 2) := by decide +kernel
theorem dL_isWell_575 : decode cL_isWell 575 = .ok (.ifCond .ne 7, 3) := by decide +kernel
theorem dL_isWell_578 : decode cL_isWell 578 = .ok (.iconst 1, 1) := by decide +kernel
theorem dL_isWell_579 : decode cL_isWell 579 = .ok (.goto 4, 3) := by decide +kernel
theorem dL_isWell_582 : decode cL_isWell 582 = .ok (.iconst 0, 1) := by decide +kernel
theorem dL_isWell_583 : decode cL_isWell 583 = .ok (.aload 4, 2) := by decide +kernel
theorem dL_isWell_585 : decode cL_isWell 585 = .ok (.iconst 0, 1) := by decide +kernel
theorem dL_isWell_586 : decode cL_isWell 586 = .ok (.iaload, 1) := by decide +kernel
theorem dL_isWell_587 : decode cL_isWell 587 = .ok (.aload 4, 2) := by decide +kernel
theorem dL_isWell_589 : decode cL_isWell 589 = .ok (.iconst 1, 1) := by decide +kernel
theorem dL_isWell_590 : decode cL_isWell 590 = .ok (.iaload, 1) := by decide +kernel
theorem dL_isWell_591 : decode cL_isWell 591 = .ok (.iadd, 1) := by decide +kernel
theorem dL_isWell_592 : decode cL_isWell 592 = .ok (.ifCond .ne 7, 3) := by decide +kernel
theorem dL_isWell_595 : decode cL_isWell 595 = .ok (.iconst 1, 1) := by decide +kernel
theorem dL_isWell_596 : decode cL_isWell 596 = .ok (.goto 4, 3) := by decide +kernel
theorem dL_isWell_599 : decode cL_isWell 599 = .ok (.iconst 0, 1) := by decide +kernel
theorem dL_isWell_600 : decode cL_isWell 600 = .ok (.if_icmp .ne 7, 3) := by decide +kernel
theorem dL_isWell_603 : decode cL_isWell 603 = .ok (.iconst 1, 1) := by decide +kernel
theorem dL_isWell_604 : decode cL_isWell 604 = .ok (.goto 4, 3) := by decide +kernel
theorem dL_isWell_607 : decode cL_isWell 607 = .ok (.iconst 0, 1) := by decide +kernel
theorem dL_isWell_608 : decode cL_isWell 608 = .ok (.ireturn, 1) := by decide +kernel
