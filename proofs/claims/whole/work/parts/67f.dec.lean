theorem d_law_551 : decode code 551 = .ok (.invokestatic 93, 3) := by decide +kernel
theorem d_law_554 : decode code 554 = .ok (.istore 5, 2) := by decide +kernel
theorem d_law_556 : decode code 556 = .ok (.aload_n 2, 1) := by decide +kernel
theorem d_law_557 : decode code 557 = .ok (.aload_n 0, 1) := by decide +kernel
theorem d_law_558 : decode code 558 = .ok (.iload 4, 2) := by decide +kernel
theorem d_law_560 : decode code 560 = .ok (.iconst 1, 1) := by decide +kernel
theorem d_law_561 : decode code 561 = .ok (.iadd, 1) := by decide +kernel
theorem d_law_562 : decode code 562 = .ok (.iaload, 1) := by decide +kernel
theorem d_law_563 : decode code 563 = .ok (.invokevirtual 95, 3) := by decide +kernel
theorem d_law_566 : decode code 566 = .ok (.istore 6, 2) := by decide +kernel
theorem d_law_568 : decode code 568 = .ok (.aload_n 2, 1) := by decide +kernel
theorem d_law_569 : decode code 569 = .ok (.invokevirtual 65, 3) := by decide +kernel
theorem d_law_572 : decode code 572 = .ok (.iload 5, 2) := by decide +kernel
theorem d_law_574 : decode code 574 = .ok (.if_icmp .eq 5, 3) := by decide +kernel
theorem d_law_579 : decode code 579 = .ok (.iload 5, 2) := by decide +kernel
theorem d_law_581 : decode code 581 = .ok (.ifCond .ne 15, 3) := by decide +kernel
theorem d_law_584 : decode code 584 = .ok (.aload_n 3, 1) := by decide +kernel
theorem d_law_585 : decode code 585 = .ok (.iconst 0, 1) := by decide +kernel
theorem d_law_586 : decode code 586 = .ok (.laload, 1) := by decide +kernel
theorem d_law_587 : decode code 587 = .ok (.iload 6, 2) := by decide +kernel
theorem d_law_589 : decode code 589 = .ok (.i2l, 1) := by decide +kernel
theorem d_law_590 : decode code 590 = .ok (.lcmp, 1) := by decide +kernel
theorem d_law_591 : decode code 591 = .ok (.ifCond .eq 5, 3) := by decide +kernel
theorem d_law_596 : decode code 596 = .ok (.goto 251, 3) := by decide +kernel
theorem d_law_599 : decode code 599 = .ok (.aload_n 1, 1) := by decide +kernel
theorem d_law_600 : decode code 600 = .ok (.aload_n 0, 1) := by decide +kernel
theorem d_law_601 : decode code 601 = .ok (.iload 4, 2) := by decide +kernel
theorem d_law_603 : decode code 603 = .ok (.iconst 1, 1) := by decide +kernel
theorem d_law_604 : decode code 604 = .ok (.iadd, 1) := by decide +kernel
theorem d_law_605 : decode code 605 = .ok (.iaload, 1) := by decide +kernel
theorem d_law_606 : decode code 606 = .ok (.aload_n 0, 1) := by decide +kernel
theorem d_law_607 : decode code 607 = .ok (.iload 4, 2) := by decide +kernel
theorem d_law_609 : decode code 609 = .ok (.iconst 2, 1) := by decide +kernel
theorem d_law_610 : decode code 610 = .ok (.iadd, 1) := by decide +kernel
theorem d_law_611 : decode code 611 = .ok (.iaload, 1) := by decide +kernel
theorem d_law_612 : decode code 612 = .ok (.aload_n 0, 1) := by decide +kernel
theorem d_law_613 : decode code 613 = .ok (.iload 4, 2) := by decide +kernel
theorem d_law_615 : decode code 615 = .ok (.iconst 3, 1) := by decide +kernel
theorem d_law_616 : decode code 616 = .ok (.iadd, 1) := by decide +kernel
theorem d_law_617 : decode code 617 = .ok (.iaload, 1) := by decide +kernel
theorem d_law_618 : decode code 618 = .ok (.aload_n 3, 1) := by decide +kernel
theorem d_law_619 : decode code 619 = .ok (.invokestatic 96, 3) := by decide +kernel
theorem d_law_622 : decode code 622 = .ok (.istore 5, 2) := by decide +kernel
theorem d_law_624 : decode code 624 = .ok (.aload_n 2, 1) := by decide +kernel
theorem d_law_625 : decode code 625 = .ok (.aload_n 0, 1) := by decide +kernel
theorem d_law_626 : decode code 626 = .ok (.iload 4, 2) := by decide +kernel
theorem d_law_628 : decode code 628 = .ok (.iconst 1, 1) := by decide +kernel
theorem d_law_629 : decode code 629 = .ok (.iadd, 1) := by decide +kernel
theorem d_law_630 : decode code 630 = .ok (.iaload, 1) := by decide +kernel
theorem d_law_631 : decode code 631 = .ok (.aload_n 0, 1) := by decide +kernel
theorem d_law_632 : decode code 632 = .ok (.iload 4, 2) := by decide +kernel
theorem d_law_634 : decode code 634 = .ok (.iconst 2, 1) := by decide +kernel
theorem d_law_635 : decode code 635 = .ok (.iadd, 1) := by decide +kernel
theorem d_law_636 : decode code 636 = .ok (.iaload, 1) := by decide +kernel
theorem d_law_637 : decode code 637 = .ok (.aload_n 0, 1) := by decide +kernel
theorem d_law_638 : decode code 638 = .ok (.iload 4, 2) := by decide +kernel
theorem d_law_640 : decode code 640 = .ok (.iconst 3, 1) := by decide +kernel
theorem d_law_641 : decode code 641 = .ok (.iadd, 1) := by decide +kernel
theorem d_law_642 : decode code 642 = .ok (.iaload, 1) := by decide +kernel
theorem d_law_643 : decode code 643 = .ok (.invokevirtual 98, 3) := by decide +kernel
