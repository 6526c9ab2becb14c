theorem d_LinkAuditLaw_law_504 : decode code 504 = .ok (.iload_n 3, 1) := by decide +kernel
theorem d_LinkAuditLaw_law_505 : decode code 505 = .ok (.iconst 1, 1) := by decide +kernel
theorem d_LinkAuditLaw_law_506 : decode code 506 = .ok (.iadd, 1) := by decide +kernel
theorem d_LinkAuditLaw_law_507 : decode code 507 = .ok (.iaload, 1) := by decide +kernel
theorem d_LinkAuditLaw_law_508 : decode code 508 = .ok (.invokevirtual 50, 3) := by decide +kernel
theorem d_LinkAuditLaw_law_511 : decode code 511 = .ok (.aload_n 2, 1) := by decide +kernel
theorem d_LinkAuditLaw_law_512 : decode code 512 = .ok (.aload_n 0, 1) := by decide +kernel
theorem d_LinkAuditLaw_law_513 : decode code 513 = .ok (.iload_n 3, 1) := by decide +kernel
theorem d_LinkAuditLaw_law_514 : decode code 514 = .ok (.iconst 1, 1) := by decide +kernel
theorem d_LinkAuditLaw_law_515 : decode code 515 = .ok (.iadd, 1) := by decide +kernel
theorem d_LinkAuditLaw_law_516 : decode code 516 = .ok (.iaload, 1) := by decide +kernel
theorem d_LinkAuditLaw_law_517 : decode code 517 = .ok (.invokevirtual 53, 3) := by decide +kernel
theorem d_LinkAuditLaw_law_520 : decode code 520 = .ok (.if_icmp .eq 166, 3) := by decide +kernel
theorem d_LinkAuditLaw_law_523 : decode code 523 = .ok (.iconst 0, 1) := by decide +kernel
theorem d_LinkAuditLaw_law_524 : decode code 524 = .ok (.ireturn, 1) := by decide +kernel
theorem d_LinkAuditLaw_law_525 : decode code 525 = .ok (.aload_n 1, 1) := by decide +kernel
theorem d_LinkAuditLaw_law_526 : decode code 526 = .ok (.aload_n 0, 1) := by decide +kernel
theorem d_LinkAuditLaw_law_527 : decode code 527 = .ok (.iload_n 3, 1) := by decide +kernel
theorem d_LinkAuditLaw_law_528 : decode code 528 = .ok (.iconst 1, 1) := by decide +kernel
theorem d_LinkAuditLaw_law_529 : decode code 529 = .ok (.iadd, 1) := by decide +kernel
theorem d_LinkAuditLaw_law_530 : decode code 530 = .ok (.iaload, 1) := by decide +kernel
theorem d_LinkAuditLaw_law_531 : decode code 531 = .ok (.aload_n 0, 1) := by decide +kernel
theorem d_LinkAuditLaw_law_532 : decode code 532 = .ok (.iload_n 3, 1) := by decide +kernel
theorem d_LinkAuditLaw_law_533 : decode code 533 = .ok (.iconst 2, 1) := by decide +kernel
theorem d_LinkAuditLaw_law_534 : decode code 534 = .ok (.iadd, 1) := by decide +kernel
theorem d_LinkAuditLaw_law_535 : decode code 535 = .ok (.iaload, 1) := by decide +kernel
theorem d_LinkAuditLaw_law_536 : decode code 536 = .ok (.invokevirtual 54, 3) := by decide +kernel
theorem d_LinkAuditLaw_law_539 : decode code 539 = .ok (.aload_n 2, 1) := by decide +kernel
theorem d_LinkAuditLaw_law_540 : decode code 540 = .ok (.aload_n 0, 1) := by decide +kernel
theorem d_LinkAuditLaw_law_541 : decode code 541 = .ok (.iload_n 3, 1) := by decide +kernel
theorem d_LinkAuditLaw_law_542 : decode code 542 = .ok (.iconst 1, 1) := by decide +kernel
theorem d_LinkAuditLaw_law_543 : decode code 543 = .ok (.iadd, 1) := by decide +kernel
theorem d_LinkAuditLaw_law_544 : decode code 544 = .ok (.iaload, 1) := by decide +kernel
theorem d_LinkAuditLaw_law_545 : decode code 545 = .ok (.aload_n 0, 1) := by decide +kernel
theorem d_LinkAuditLaw_law_546 : decode code 546 = .ok (.iload_n 3, 1) := by decide +kernel
theorem d_LinkAuditLaw_law_547 : decode code 547 = .ok (.iconst 2, 1) := by decide +kernel
theorem d_LinkAuditLaw_law_548 : decode code 548 = .ok (.iadd, 1) := by decide +kernel
theorem d_LinkAuditLaw_law_549 : decode code 549 = .ok (.iaload, 1) := by decide +kernel
theorem d_LinkAuditLaw_law_550 : decode code 550 = .ok (.invokevirtual 57, 3) := by decide +kernel
theorem d_LinkAuditLaw_law_553 : decode code 553 = .ok (.if_icmp .eq 133, 3) := by decide +kernel
theorem d_LinkAuditLaw_law_556 : decode code 556 = .ok (.iconst 0, 1) := by decide +kernel
theorem d_LinkAuditLaw_law_557 : decode code 557 = .ok (.ireturn, 1) := by decide +kernel
theorem d_LinkAuditLaw_law_558 : decode code 558 = .ok (.aload_n 1, 1) := by decide +kernel
theorem d_LinkAuditLaw_law_559 : decode code 559 = .ok (.aload_n 0, 1) := by decide +kernel
theorem d_LinkAuditLaw_law_560 : decode code 560 = .ok (.iload_n 3, 1) := by decide +kernel
theorem d_LinkAuditLaw_law_561 : decode code 561 = .ok (.iconst 1, 1) := by decide +kernel
theorem d_LinkAuditLaw_law_562 : decode code 562 = .ok (.iadd, 1) := by decide +kernel
theorem d_LinkAuditLaw_law_563 : decode code 563 = .ok (.iaload, 1) := by decide +kernel
theorem d_LinkAuditLaw_law_564 : decode code 564 = .ok (.aload_n 0, 1) := by decide +kernel
theorem d_LinkAuditLaw_law_565 : decode code 565 = .ok (.iload_n 3, 1) := by decide +kernel
theorem d_LinkAuditLaw_law_566 : decode code 566 = .ok (.iconst 2, 1) := by decide +kernel
theorem d_LinkAuditLaw_law_567 : decode code 567 = .ok (.iadd, 1) := by decide +kernel
theorem d_LinkAuditLaw_law_568 : decode code 568 = .ok (.iaload, 1) := by decide +kernel
theorem d_LinkAuditLaw_law_569 : decode code 569 = .ok (.invokevirtual 58, 3) := by decide +kernel
theorem d_LinkAuditLaw_law_572 : decode code 572 = .ok (.aload_n 2, 1) := by decide +kernel
theorem d_LinkAuditLaw_law_573 : decode code 573 = .ok (.aload_n 0, 1) := by decide +kernel
theorem d_LinkAuditLaw_law_574 : decode code 574 = .ok (.iload_n 3, 1) := by decide +kernel
theorem d_LinkAuditLaw_law_575 : decode code 575 = .ok (.iconst 1, 1) := by decide +kernel
theorem d_LinkAuditLaw_law_576 : decode code 576 = .ok (.iadd, 1) := by decide +kernel
theorem d_LinkAuditLaw_law_577 : decode code 577 = .ok (.iaload, 1) := by decide +kernel
theorem d_LinkAuditLaw_law_578 : decode code 578 = .ok (.aload_n 0, 1) := by decide +kernel
theorem d_LinkAuditLaw_law_579 : decode code 579 = .ok (.iload_n 3, 1) := by decide +kernel
theorem d_LinkAuditLaw_law_580 : decode code 580 = .ok (.iconst 2, 1) := by decide +kernel
theorem d_LinkAuditLaw_law_581 : decode code 581 = .ok (.iadd, 1) := by decide +kernel
theorem d_LinkAuditLaw_law_582 : decode code 582 = .ok (.iaload, 1) := by decide +kernel
theorem d_LinkAuditLaw_law_583 : decode code 583 = .ok (.invokevirtual 62, 3) := by decide +kernel
theorem d_LinkAuditLaw_law_586 : decode code 586 = .ok (.if_icmp .eq 100, 3) := by decide +kernel
theorem d_LinkAuditLaw_law_589 : decode code 589 = .ok (.iconst 0, 1) := by decide +kernel
theorem d_LinkAuditLaw_law_590 : decode code 590 = .ok (.ireturn, 1) := by decide +kernel
theorem d_LinkAuditLaw_law_591 : decode code 591 = .ok (.aload_n 1, 1) := by decide +kernel
theorem d_LinkAuditLaw_law_592 : decode code 592 = .ok (.invokevirtual 63, 3) := by decide +kernel
theorem d_LinkAuditLaw_law_595 : decode code 595 = .ok (.aload_n 2, 1) := by decide +kernel
theorem d_LinkAuditLaw_law_596 : decode code 596 = .ok (.invokevirtual 67, 3) := by decide +kernel
theorem d_LinkAuditLaw_law_599 : decode code 599 = .ok (.if_icmp .eq 87, 3) := by decide +kernel
theorem d_LinkAuditLaw_law_602 : decode code 602 = .ok (.iconst 0, 1) := by decide +kernel
theorem d_LinkAuditLaw_law_603 : decode code 603 = .ok (.ireturn, 1) := by decide +kernel
theorem d_LinkAuditLaw_law_604 : decode code 604 = .ok (.aload_n 1, 1) := by decide +kernel
theorem d_LinkAuditLaw_law_605 : decode code 605 = .ok (.invokevirtual 68, 3) := by decide +kernel
theorem d_LinkAuditLaw_law_608 : decode code 608 = .ok (.aload_n 2, 1) := by decide +kernel
theorem d_LinkAuditLaw_law_609 : decode code 609 = .ok (.invokevirtual 71, 3) := by decide +kernel
theorem d_LinkAuditLaw_law_612 : decode code 612 = .ok (.if_icmp .eq 74, 3) := by decide +kernel
theorem d_LinkAuditLaw_law_615 : decode code 615 = .ok (.iconst 0, 1) := by decide +kernel
theorem d_LinkAuditLaw_law_616 : decode code 616 = .ok (.ireturn, 1) := by decide +kernel
theorem d_LinkAuditLaw_law_617 : decode code 617 = .ok (.aload_n 1, 1) := by decide +kernel
theorem d_LinkAuditLaw_law_618 : decode code 618 = .ok (.aload_n 0, 1) := by decide +kernel
theorem d_LinkAuditLaw_law_619 : decode code 619 = .ok (.iload_n 3, 1) := by decide +kernel
theorem d_LinkAuditLaw_law_620 : decode code 620 = .ok (.iconst 1, 1) := by decide +kernel
theorem d_LinkAuditLaw_law_621 : decode code 621 = .ok (.iadd, 1) := by decide +kernel
theorem d_LinkAuditLaw_law_622 : decode code 622 = .ok (.iaload, 1) := by decide +kernel
theorem d_LinkAuditLaw_law_623 : decode code 623 = .ok (.aload_n 0, 1) := by decide +kernel
theorem d_LinkAuditLaw_law_624 : decode code 624 = .ok (.iload_n 3, 1) := by decide +kernel
theorem d_LinkAuditLaw_law_625 : decode code 625 = .ok (.iconst 2, 1) := by decide +kernel
theorem d_LinkAuditLaw_law_626 : decode code 626 = .ok (.iadd, 1) := by decide +kernel
theorem d_LinkAuditLaw_law_627 : decode code 627 = .ok (.iaload, 1) := by decide +kernel
theorem d_LinkAuditLaw_law_628 : decode code 628 = .ok (.invokevirtual 72, 3) := by decide +kernel
theorem d_LinkAuditLaw_law_631 : decode code 631 = .ok (.aload_n 2, 1) := by decide +kernel
theorem d_LinkAuditLaw_law_632 : decode code 632 = .ok (.aload_n 0, 1) := by decide +kernel
theorem d_LinkAuditLaw_law_633 : decode code 633 = .ok (.iload_n 3, 1) := by decide +kernel
theorem d_LinkAuditLaw_law_634 : decode code 634 = .ok (.iconst 1, 1) := by decide +kernel
theorem d_LinkAuditLaw_law_635 : decode code 635 = .ok (.iadd, 1) := by decide +kernel
theorem d_LinkAuditLaw_law_636 : decode code 636 = .ok (.iaload, 1) := by decide +kernel
theorem d_LinkAuditLaw_law_637 : decode code 637 = .ok (.aload_n 0, 1) := by decide +kernel
theorem d_LinkAuditLaw_law_638 : decode code 638 = .ok (.iload_n 3, 1) := by decide +kernel
theorem d_LinkAuditLaw_law_639 : decode code 639 = .ok (.iconst 2, 1) := by decide +kernel
theorem d_LinkAuditLaw_law_640 : decode code 640 = .ok (.iadd, 1) := by decide +kernel
theorem d_LinkAuditLaw_law_641 : decode code 641 = .ok (.iaload, 1) := by decide +kernel
theorem d_LinkAuditLaw_law_642 : decode code 642 = .ok (.invokevirtual 75, 3) := by decide +kernel
theorem d_LinkAuditLaw_law_645 : decode code 645 = .ok (.if_icmp .eq 41, 3) := by decide +kernel
theorem d_LinkAuditLaw_law_648 : decode code 648 = .ok (.iconst 0, 1) := by decide +kernel
theorem d_LinkAuditLaw_law_649 : decode code 649 = .ok (.ireturn, 1) := by decide +kernel
theorem d_LinkAuditLaw_law_650 : decode code 650 = .ok (.aload_n 1, 1) := by decide +kernel
theorem d_LinkAuditLaw_law_651 : decode code 651 = .ok (.invokevirtual 76, 3) := by decide +kernel
theorem d_LinkAuditLaw_law_654 : decode code 654 = .ok (.aload_n 2, 1) := by decide +kernel
theorem d_LinkAuditLaw_law_655 : decode code 655 = .ok (.invokevirtual 79, 3) := by decide +kernel
theorem d_LinkAuditLaw_law_658 : decode code 658 = .ok (.if_icmp .eq 28, 3) := by decide +kernel
theorem d_LinkAuditLaw_law_661 : decode code 661 = .ok (.iconst 0, 1) := by decide +kernel
theorem d_LinkAuditLaw_law_662 : decode code 662 = .ok (.ireturn, 1) := by decide +kernel
theorem d_LinkAuditLaw_law_663 : decode code 663 = .ok (.aload_n 1, 1) := by decide +kernel
theorem d_LinkAuditLaw_law_664 : decode code 664 = .ok (.aload_n 0, 1) := by decide +kernel
theorem d_LinkAuditLaw_law_665 : decode code 665 = .ok (.iload_n 3, 1) := by decide +kernel
theorem d_LinkAuditLaw_law_666 : decode code 666 = .ok (.iconst 1, 1) := by decide +kernel
theorem d_LinkAuditLaw_law_667 : decode code 667 = .ok (.iadd, 1) := by decide +kernel
theorem d_LinkAuditLaw_law_668 : decode code 668 = .ok (.iaload, 1) := by decide +kernel
theorem d_LinkAuditLaw_law_669 : decode code 669 = .ok (.invokevirtual 80, 3) := by decide +kernel
theorem d_LinkAuditLaw_law_672 : decode code 672 = .ok (.aload_n 2, 1) := by decide +kernel
theorem d_LinkAuditLaw_law_673 : decode code 673 = .ok (.aload_n 0, 1) := by decide +kernel
theorem d_LinkAuditLaw_law_674 : decode code 674 = .ok (.iload_n 3, 1) := by decide +kernel
theorem d_LinkAuditLaw_law_675 : decode code 675 = .ok (.iconst 1, 1) := by decide +kernel
theorem d_LinkAuditLaw_law_676 : decode code 676 = .ok (.iadd, 1) := by decide +kernel
theorem d_LinkAuditLaw_law_677 : decode code 677 = .ok (.iaload, 1) := by decide +kernel
theorem d_LinkAuditLaw_law_678 : decode code 678 = .ok (.invokevirtual 83, 3) := by decide +kernel
theorem d_LinkAuditLaw_law_681 : decode code 681 = .ok (.if_icmp .eq 5, 3) := by decide +kernel
theorem d_LinkAuditLaw_law_684 : decode code 684 = .ok (.iconst 0, 1) := by decide +kernel
theorem d_LinkAuditLaw_law_685 : decode code 685 = .ok (.ireturn, 1) := by decide +kernel
theorem d_LinkAuditLaw_law_686 : decode code 686 = .ok (.iinc 3 6, 3) := by decide +kernel
theorem d_LinkAuditLaw_law_689 : decode code 689 = .ok (.goto (-671), 3) := by decide +kernel
theorem d_LinkAuditLaw_law_692 : decode code 692 = .ok (.iconst 1, 1) := by decide +kernel
theorem d_LinkAuditLaw_law_693 : decode code 693 = .ok (.ireturn, 1) := by decide +kernel
theorem d_LinkAudit_init_0 : decode prog_1_method_1_code 0 = .ok (.aload_n 0, 1) := by decide +kernel
theorem d_LinkAudit_init_1 : decode prog_1_method_1_code 1 = .ok (.invokespecial 3, 3) := by decide +kernel
theorem d_LinkAudit_init_4 : decode prog_1_method_1_code 4 = .ok (.aload_n 0, 1) := by decide +kernel
theorem d_LinkAudit_init_5 : decode prog_1_method_1_code 5 = .ok (.new 9, 3) := by decide +kernel
theorem d_LinkAudit_init_8 : decode prog_1_method_1_code 8 = .ok (.dup, 1) := by decide +kernel
theorem d_LinkAudit_init_9 : decode prog_1_method_1_code 9 = .ok (.invokespecial 11, 3) := by decide +kernel
theorem d_LinkAudit_init_12 : decode prog_1_method_1_code 12 = .ok (.putfield 12, 3) := by decide +kernel
theorem d_LinkAudit_init_15 : decode prog_1_method_1_code 15 = .ok (.aload_n 0, 1) := by decide +kernel
theorem d_LinkAudit_init_16 : decode prog_1_method_1_code 16 = .ok (.new 16, 3) := by decide +kernel
theorem d_LinkAudit_init_19 : decode prog_1_method_1_code 19 = .ok (.dup, 1) := by decide +kernel
theorem d_LinkAudit_init_20 : decode prog_1_method_1_code 20 = .ok (.invokespecial 18, 3) := by decide +kernel
theorem d_LinkAudit_init_23 : decode prog_1_method_1_code 23 = .ok (.putfield 19, 3) := by decide +kernel
theorem d_LinkAudit_init_26 : decode prog_1_method_1_code 26 = .ok (.aload_n 0, 1) := by decide +kernel
theorem d_LinkAudit_init_27 : decode prog_1_method_1_code 27 = .ok (.new 23, 3) := by decide +kernel
theorem d_LinkAudit_init_30 : decode prog_1_method_1_code 30 = .ok (.dup, 1) := by decide +kernel
theorem d_LinkAudit_init_31 : decode prog_1_method_1_code 31 = .ok (.invokespecial 25, 3) := by decide +kernel
theorem d_LinkAudit_init_34 : decode prog_1_method_1_code 34 = .ok (.putfield 26, 3) := by decide +kernel
theorem d_LinkAudit_init_37 : decode prog_1_method_1_code 37 = .ok (.aload_n 0, 1) := by decide +kernel
theorem d_LinkAudit_init_38 : decode prog_1_method_1_code 38 = .ok (.new 30, 3) := by decide +kernel
theorem d_LinkAudit_init_41 : decode prog_1_method_1_code 41 = .ok (.dup, 1) := by decide +kernel
theorem d_LinkAudit_init_42 : decode prog_1_method_1_code 42 = .ok (.invokespecial 32, 3) := by decide +kernel
theorem d_LinkAudit_init_45 : decode prog_1_method_1_code 45 = .ok (.putfield 33, 3) := by decide +kernel
theorem d_LinkAudit_init_48 : decode prog_1_method_1_code 48 = .ok (.aload_n 0, 1) := by decide +kernel
theorem d_LinkAudit_init_49 : decode prog_1_method_1_code 49 = .ok (.new 37, 3) := by decide +kernel
theorem d_LinkAudit_init_52 : decode prog_1_method_1_code 52 = .ok (.dup, 1) := by decide +kernel
theorem d_LinkAudit_init_53 : decode prog_1_method_1_code 53 = .ok (.aload_n 0, 1) := by decide +kernel
theorem d_LinkAudit_init_54 : decode prog_1_method_1_code 54 = .ok (.getfield 12, 3) := by decide +kernel
theorem d_LinkAudit_init_57 : decode prog_1_method_1_code 57 = .ok (.aload_n 0, 1) := by decide +kernel
theorem d_LinkAudit_init_58 : decode prog_1_method_1_code 58 = .ok (.getfield 19, 3) := by decide +kernel
theorem d_LinkAudit_init_61 : decode prog_1_method_1_code 61 = .ok (.invokespecial 39, 3) := by decide +kernel
theorem d_LinkAudit_init_64 : decode prog_1_method_1_code 64 = .ok (.putfield 42, 3) := by decide +kernel
theorem d_LinkAudit_init_67 : decode prog_1_method_1_code 67 = .ok (.new 46, 3) := by decide +kernel
theorem d_LinkAudit_init_70 : decode prog_1_method_1_code 70 = .ok (.dup, 1) := by decide +kernel
theorem d_LinkAudit_init_71 : decode prog_1_method_1_code 71 = .ok (.aload_n 0, 1) := by decide +kernel
theorem d_LinkAudit_init_72 : decode prog_1_method_1_code 72 = .ok (.getfield 42, 3) := by decide +kernel
theorem d_LinkAudit_init_75 : decode prog_1_method_1_code 75 = .ok (.aload_n 0, 1) := by decide +kernel
theorem d_LinkAudit_init_76 : decode prog_1_method_1_code 76 = .ok (.getfield 26, 3) := by decide +kernel
theorem d_LinkAudit_init_79 : decode prog_1_method_1_code 79 = .ok (.invokespecial 48, 3) := by decide +kernel
theorem d_LinkAudit_init_82 : decode prog_1_method_1_code 82 = .ok (.astore_n 1, 1) := by decide +kernel
theorem d_LinkAudit_init_83 : decode prog_1_method_1_code 83 = .ok (.aload_n 0, 1) := by decide +kernel
theorem d_LinkAudit_init_84 : decode prog_1_method_1_code 84 = .ok (.new 51, 3) := by decide +kernel
theorem d_LinkAudit_init_87 : decode prog_1_method_1_code 87 = .ok (.dup, 1) := by decide +kernel
theorem d_LinkAudit_init_88 : decode prog_1_method_1_code 88 = .ok (.aload_n 1, 1) := by decide +kernel
theorem d_LinkAudit_init_89 : decode prog_1_method_1_code 89 = .ok (.aload_n 0, 1) := by decide +kernel
theorem d_LinkAudit_init_90 : decode prog_1_method_1_code 90 = .ok (.getfield 33, 3) := by decide +kernel
theorem d_LinkAudit_init_93 : decode prog_1_method_1_code 93 = .ok (.invokespecial 53, 3) := by decide +kernel
theorem d_LinkAudit_init_96 : decode prog_1_method_1_code 96 = .ok (.putfield 56, 3) := by decide +kernel
theorem d_LinkAudit_init_99 : decode prog_1_method_1_code 99 = .ok (.aload_n 0, 1) := by decide +kernel
theorem d_LinkAudit_init_100 : decode prog_1_method_1_code 100 = .ok (.new 60, 3) := by decide +kernel
theorem d_LinkAudit_init_103 : decode prog_1_method_1_code 103 = .ok (.dup, 1) := by decide +kernel
theorem d_LinkAudit_init_104 : decode prog_1_method_1_code 104 = .ok (.aload_n 1, 1) := by decide +kernel
theorem d_LinkAudit_init_105 : decode prog_1_method_1_code 105 = .ok (.invokespecial 62, 3) := by decide +kernel
theorem d_LinkAudit_init_108 : decode prog_1_method_1_code 108 = .ok (.putfield 65, 3) := by decide +kernel
theorem d_LinkAudit_init_111 : decode prog_1_method_1_code 111 = .ok (.aload_n 0, 1) := by decide +kernel
theorem d_LinkAudit_init_112 : decode prog_1_method_1_code 112 = .ok (.new 69, 3) := by decide +kernel
theorem d_LinkAudit_init_115 : decode prog_1_method_1_code 115 = .ok (.dup, 1) := by decide +kernel
theorem d_LinkAudit_init_116 : decode prog_1_method_1_code 116 = .ok (.aload_n 0, 1) := by decide +kernel
theorem d_LinkAudit_init_117 : decode prog_1_method_1_code 117 = .ok (.getfield 12, 3) := by decide +kernel
theorem d_LinkAudit_init_120 : decode prog_1_method_1_code 120 = .ok (.invokespecial 71, 3) := by decide +kernel
theorem d_LinkAudit_init_123 : decode prog_1_method_1_code 123 = .ok (.putfield 74, 3) := by decide +kernel
theorem d_LinkAudit_init_126 : decode prog_1_method_1_code 126 = .ok (.aload_n 0, 1) := by decide +kernel
theorem d_LinkAudit_init_127 : decode prog_1_method_1_code 127 = .ok (.iconst 0, 1) := by decide +kernel
theorem d_LinkAudit_init_128 : decode prog_1_method_1_code 128 = .ok (.putfield 78, 3) := by decide +kernel
theorem d_LinkAudit_init_131 : decode prog_1_method_1_code 131 = .ok (.aload_n 0, 1) := by decide +kernel
theorem d_LinkAudit_init_132 : decode prog_1_method_1_code 132 = .ok (.iconst 0, 1) := by decide +kernel
theorem d_LinkAudit_init_133 : decode prog_1_method_1_code 133 = .ok (.putfield 82, 3) := by decide +kernel
theorem d_LinkAudit_init_136 : decode prog_1_method_1_code 136 = .ok (.return_, 1) := by decide +kernel
theorem d_Loaders_init_0 : decode prog_6_method_1_code 0 = .ok (.aload_n 0, 1) := by decide +kernel
theorem d_Loaders_init_1 : decode prog_6_method_1_code 1 = .ok (.invokespecial 3, 3) := by decide +kernel
theorem d_Loaders_init_4 : decode prog_6_method_1_code 4 = .ok (.aload_n 0, 1) := by decide +kernel
theorem d_Loaders_init_5 : decode prog_6_method_1_code 5 = .ok (.iconst 5, 1) := by decide +kernel
theorem d_Loaders_init_6 : decode prog_6_method_1_code 6 = .ok (.iconst 3, 1) := by decide +kernel
theorem d_Loaders_init_7 : decode prog_6_method_1_code 7 = .ok (.multianewarray 9 2, 4) := by decide +kernel
theorem d_Loaders_init_11 : decode prog_6_method_1_code 11 = .ok (.putfield 11, 3) := by decide +kernel
theorem d_Loaders_init_14 : decode prog_6_method_1_code 14 = .ok (.aload_n 0, 1) := by decide +kernel
theorem d_Loaders_init_15 : decode prog_6_method_1_code 15 = .ok (.iconst 5, 1) := by decide +kernel
theorem d_Loaders_init_16 : decode prog_6_method_1_code 16 = .ok (.newarray .int, 2) := by decide +kernel
theorem d_Loaders_init_18 : decode prog_6_method_1_code 18 = .ok (.putfield 16, 3) := by decide +kernel
theorem d_Loaders_init_21 : decode prog_6_method_1_code 21 = .ok (.aload_n 0, 1) := by decide +kernel
theorem d_Loaders_init_22 : decode prog_6_method_1_code 22 = .ok (.iconst 5, 1) := by decide +kernel
theorem d_Loaders_init_23 : decode prog_6_method_1_code 23 = .ok (.newarray .int, 2) := by decide +kernel
theorem d_Loaders_init_25 : decode prog_6_method_1_code 25 = .ok (.putfield 20, 3) := by decide +kernel
theorem d_Loaders_init_28 : decode prog_6_method_1_code 28 = .ok (.aload_n 0, 1) := by decide +kernel
theorem d_Loaders_init_29 : decode prog_6_method_1_code 29 = .ok (.iconst 5, 1) := by decide +kernel
theorem d_Loaders_init_30 : decode prog_6_method_1_code 30 = .ok (.bipush 12, 2) := by decide +kernel
theorem d_Loaders_init_32 : decode prog_6_method_1_code 32 = .ok (.multianewarray 9 2, 4) := by decide +kernel
theorem d_Loaders_init_36 : decode prog_6_method_1_code 36 = .ok (.putfield 23, 3) := by decide +kernel
theorem d_Loaders_init_39 : decode prog_6_method_1_code 39 = .ok (.return_, 1) := by decide +kernel
theorem d_Classes_init_0 : decode prog_3_method_1_code 0 = .ok (.aload_n 0, 1) := by decide +kernel
theorem d_Classes_init_1 : decode prog_3_method_1_code 1 = .ok (.invokespecial 3, 3) := by decide +kernel
theorem d_Classes_init_4 : decode prog_3_method_1_code 4 = .ok (.aload_n 0, 1) := by decide +kernel
theorem d_Classes_init_5 : decode prog_3_method_1_code 5 = .ok (.bipush 17, 2) := by decide +kernel
theorem d_Classes_init_7 : decode prog_3_method_1_code 7 = .ok (.newarray .int, 2) := by decide +kernel
theorem d_Classes_init_9 : decode prog_3_method_1_code 9 = .ok (.putfield 9, 3) := by decide +kernel
theorem d_Classes_init_12 : decode prog_3_method_1_code 12 = .ok (.aload_n 0, 1) := by decide +kernel
theorem d_Classes_init_13 : decode prog_3_method_1_code 13 = .ok (.bipush 17, 2) := by decide +kernel
theorem d_Classes_init_15 : decode prog_3_method_1_code 15 = .ok (.newarray .int, 2) := by decide +kernel
theorem d_Classes_init_17 : decode prog_3_method_1_code 17 = .ok (.putfield 15, 3) := by decide +kernel
theorem d_Classes_init_20 : decode prog_3_method_1_code 20 = .ok (.aload_n 0, 1) := by decide +kernel
theorem d_Classes_init_21 : decode prog_3_method_1_code 21 = .ok (.bipush 17, 2) := by decide +kernel
theorem d_Classes_init_23 : decode prog_3_method_1_code 23 = .ok (.newarray .int, 2) := by decide +kernel
theorem d_Classes_init_25 : decode prog_3_method_1_code 25 = .ok (.putfield 18, 3) := by decide +kernel
theorem d_Classes_init_28 : decode prog_3_method_1_code 28 = .ok (.aload_n 0, 1) := by decide +kernel
theorem d_Classes_init_29 : decode prog_3_method_1_code 29 = .ok (.bipush 17, 2) := by decide +kernel
theorem d_Classes_init_31 : decode prog_3_method_1_code 31 = .ok (.newarray .int, 2) := by decide +kernel
theorem d_Classes_init_33 : decode prog_3_method_1_code 33 = .ok (.putfield 21, 3) := by decide +kernel
theorem d_Classes_init_36 : decode prog_3_method_1_code 36 = .ok (.aload_n 0, 1) := by decide +kernel
theorem d_Classes_init_37 : decode prog_3_method_1_code 37 = .ok (.bipush 17, 2) := by decide +kernel
theorem d_Classes_init_39 : decode prog_3_method_1_code 39 = .ok (.newarray .int, 2) := by decide +kernel
theorem d_Classes_init_41 : decode prog_3_method_1_code 41 = .ok (.putfield 24, 3) := by decide +kernel
theorem d_Classes_init_44 : decode prog_3_method_1_code 44 = .ok (.aload_n 0, 1) := by decide +kernel
theorem d_Classes_init_45 : decode prog_3_method_1_code 45 = .ok (.iconst 0, 1) := by decide +kernel
theorem d_Classes_init_46 : decode prog_3_method_1_code 46 = .ok (.putfield 27, 3) := by decide +kernel
theorem d_Classes_init_49 : decode prog_3_method_1_code 49 = .ok (.return_, 1) := by decide +kernel
theorem d_Members_init_0 : decode prog_7_method_1_code 0 = .ok (.aload_n 0, 1) := by decide +kernel
theorem d_Members_init_1 : decode prog_7_method_1_code 1 = .ok (.invokespecial 3, 3) := by decide +kernel
theorem d_Members_init_4 : decode prog_7_method_1_code 4 = .ok (.aload_n 0, 1) := by decide +kernel
theorem d_Members_init_5 : decode prog_7_method_1_code 5 = .ok (.bipush 41, 2) := by decide +kernel
theorem d_Members_init_7 : decode prog_7_method_1_code 7 = .ok (.newarray .int, 2) := by decide +kernel
theorem d_Members_init_9 : decode prog_7_method_1_code 9 = .ok (.putfield 9, 3) := by decide +kernel
theorem d_Members_init_12 : decode prog_7_method_1_code 12 = .ok (.aload_n 0, 1) := by decide +kernel
theorem d_Members_init_13 : decode prog_7_method_1_code 13 = .ok (.bipush 41, 2) := by decide +kernel
theorem d_Members_init_15 : decode prog_7_method_1_code 15 = .ok (.newarray .int, 2) := by decide +kernel
theorem d_Members_init_17 : decode prog_7_method_1_code 17 = .ok (.putfield 15, 3) := by decide +kernel
theorem d_Members_init_20 : decode prog_7_method_1_code 20 = .ok (.aload_n 0, 1) := by decide +kernel
theorem d_Members_init_21 : decode prog_7_method_1_code 21 = .ok (.bipush 41, 2) := by decide +kernel
theorem d_Members_init_23 : decode prog_7_method_1_code 23 = .ok (.newarray .int, 2) := by decide +kernel
theorem d_Members_init_25 : decode prog_7_method_1_code 25 = .ok (.putfield 18, 3) := by decide +kernel
theorem d_Members_init_28 : decode prog_7_method_1_code 28 = .ok (.aload_n 0, 1) := by decide +kernel
theorem d_Members_init_29 : decode prog_7_method_1_code 29 = .ok (.bipush 17, 2) := by decide +kernel
theorem d_Members_init_31 : decode prog_7_method_1_code 31 = .ok (.newarray .long, 2) := by decide +kernel
theorem d_Members_init_33 : decode prog_7_method_1_code 33 = .ok (.putfield 21, 3) := by decide +kernel
theorem d_Members_init_36 : decode prog_7_method_1_code 36 = .ok (.aload_n 0, 1) := by decide +kernel
theorem d_Members_init_37 : decode prog_7_method_1_code 37 = .ok (.lconst 0, 1) := by decide +kernel
theorem d_Members_init_38 : decode prog_7_method_1_code 38 = .ok (.putfield 25, 3) := by decide +kernel
theorem d_Members_init_41 : decode prog_7_method_1_code 41 = .ok (.aload_n 0, 1) := by decide +kernel
theorem d_Members_init_42 : decode prog_7_method_1_code 42 = .ok (.lconst 0, 1) := by decide +kernel
theorem d_Members_init_43 : decode prog_7_method_1_code 43 = .ok (.putfield 29, 3) := by decide +kernel
theorem d_Members_init_46 : decode prog_7_method_1_code 46 = .ok (.aload_n 0, 1) := by decide +kernel
theorem d_Members_init_47 : decode prog_7_method_1_code 47 = .ok (.iconst 0, 1) := by decide +kernel
theorem d_Members_init_48 : decode prog_7_method_1_code 48 = .ok (.putfield 32, 3) := by decide +kernel
theorem d_Members_init_51 : decode prog_7_method_1_code 51 = .ok (.return_, 1) := by decide +kernel
theorem d_References_init_0 : decode prog_8_method_1_code 0 = .ok (.aload_n 0, 1) := by decide +kernel
theorem d_References_init_1 : decode prog_8_method_1_code 1 = .ok (.invokespecial 3, 3) := by decide +kernel
theorem d_References_init_4 : decode prog_8_method_1_code 4 = .ok (.aload_n 0, 1) := by decide +kernel
theorem d_References_init_5 : decode prog_8_method_1_code 5 = .ok (.bipush 12, 2) := by decide +kernel
theorem d_References_init_7 : decode prog_8_method_1_code 7 = .ok (.newarray .int, 2) := by decide +kernel
theorem d_References_init_9 : decode prog_8_method_1_code 9 = .ok (.putfield 9, 3) := by decide +kernel
theorem d_References_init_12 : decode prog_8_method_1_code 12 = .ok (.aload_n 0, 1) := by decide +kernel
theorem d_References_init_13 : decode prog_8_method_1_code 13 = .ok (.bipush 12, 2) := by decide +kernel
theorem d_References_init_15 : decode prog_8_method_1_code 15 = .ok (.newarray .int, 2) := by decide +kernel
theorem d_References_init_17 : decode prog_8_method_1_code 17 = .ok (.putfield 15, 3) := by decide +kernel
theorem d_References_init_20 : decode prog_8_method_1_code 20 = .ok (.aload_n 0, 1) := by decide +kernel
theorem d_References_init_21 : decode prog_8_method_1_code 21 = .ok (.bipush 12, 2) := by decide +kernel
theorem d_References_init_23 : decode prog_8_method_1_code 23 = .ok (.newarray .int, 2) := by decide +kernel
theorem d_References_init_25 : decode prog_8_method_1_code 25 = .ok (.putfield 18, 3) := by decide +kernel
theorem d_References_init_28 : decode prog_8_method_1_code 28 = .ok (.aload_n 0, 1) := by decide +kernel
theorem d_References_init_29 : decode prog_8_method_1_code 29 = .ok (.bipush 12, 2) := by decide +kernel
theorem d_References_init_31 : decode prog_8_method_1_code 31 = .ok (.newarray .int, 2) := by decide +kernel
theorem d_References_init_33 : decode prog_8_method_1_code 33 = .ok (.putfield 21, 3) := by decide +kernel
theorem d_References_init_36 : decode prog_8_method_1_code 36 = .ok (.aload_n 0, 1) := by decide +kernel
theorem d_References_init_37 : decode prog_8_method_1_code 37 = .ok (.iconst 0, 1) := by decide +kernel
theorem d_References_init_38 : decode prog_8_method_1_code 38 = .ok (.putfield 24, 3) := by decide +kernel
theorem d_References_init_41 : decode prog_8_method_1_code 41 = .ok (.return_, 1) := by decide +kernel
theorem d_Links_init_0 : decode prog_5_method_1_code 0 = .ok (.aload_n 0, 1) := by decide +kernel
theorem d_Links_init_1 : decode prog_5_method_1_code 1 = .ok (.invokespecial 3, 3) := by decide +kernel
theorem d_Links_init_4 : decode prog_5_method_1_code 4 = .ok (.aload_n 0, 1) := by decide +kernel
theorem d_Links_init_5 : decode prog_5_method_1_code 5 = .ok (.bipush 17, 2) := by decide +kernel
theorem d_Links_init_7 : decode prog_5_method_1_code 7 = .ok (.newarray .int, 2) := by decide +kernel
theorem d_Links_init_9 : decode prog_5_method_1_code 9 = .ok (.putfield 9, 3) := by decide +kernel
theorem d_Links_init_12 : decode prog_5_method_1_code 12 = .ok (.aload_n 0, 1) := by decide +kernel
theorem d_Links_init_13 : decode prog_5_method_1_code 13 = .ok (.bipush 17, 2) := by decide +kernel
theorem d_Links_init_15 : decode prog_5_method_1_code 15 = .ok (.bipush 16, 2) := by decide +kernel
theorem d_Links_init_17 : decode prog_5_method_1_code 17 = .ok (.multianewarray 15 2, 4) := by decide +kernel
theorem d_Links_init_21 : decode prog_5_method_1_code 21 = .ok (.putfield 17, 3) := by decide +kernel
theorem d_Links_init_24 : decode prog_5_method_1_code 24 = .ok (.aload_n 0, 1) := by decide +kernel
theorem d_Links_init_25 : decode prog_5_method_1_code 25 = .ok (.bipush 17, 2) := by decide +kernel
theorem d_Links_init_27 : decode prog_5_method_1_code 27 = .ok (.newarray .int, 2) := by decide +kernel
theorem d_Links_init_29 : decode prog_5_method_1_code 29 = .ok (.putfield 20, 3) := by decide +kernel
theorem d_Links_init_32 : decode prog_5_method_1_code 32 = .ok (.aload_n 0, 1) := by decide +kernel
theorem d_Links_init_33 : decode prog_5_method_1_code 33 = .ok (.bipush 17, 2) := by decide +kernel
theorem d_Links_init_35 : decode prog_5_method_1_code 35 = .ok (.newarray .int, 2) := by decide +kernel
theorem d_Links_init_37 : decode prog_5_method_1_code 37 = .ok (.putfield 23, 3) := by decide +kernel
theorem d_Links_init_40 : decode prog_5_method_1_code 40 = .ok (.aload_n 0, 1) := by decide +kernel
theorem d_Links_init_41 : decode prog_5_method_1_code 41 = .ok (.bipush 17, 2) := by decide +kernel
theorem d_Links_init_43 : decode prog_5_method_1_code 43 = .ok (.newarray .int, 2) := by decide +kernel
theorem d_Links_init_45 : decode prog_5_method_1_code 45 = .ok (.putfield 26, 3) := by decide +kernel
theorem d_Links_init_48 : decode prog_5_method_1_code 48 = .ok (.aload_n 0, 1) := by decide +kernel
theorem d_Links_init_49 : decode prog_5_method_1_code 49 = .ok (.bipush 16, 2) := by decide +kernel
theorem d_Links_init_51 : decode prog_5_method_1_code 51 = .ok (.newarray .int, 2) := by decide +kernel
theorem d_Links_init_53 : decode prog_5_method_1_code 53 = .ok (.putfield 29, 3) := by decide +kernel
theorem d_Links_init_56 : decode prog_5_method_1_code 56 = .ok (.aload_n 0, 1) := by decide +kernel
theorem d_Links_init_57 : decode prog_5_method_1_code 57 = .ok (.iconst 0, 1) := by decide +kernel
theorem d_Links_init_58 : decode prog_5_method_1_code 58 = .ok (.putfield 32, 3) := by decide +kernel
theorem d_Links_init_61 : decode prog_5_method_1_code 61 = .ok (.aload_n 0, 1) := by decide +kernel
theorem d_Links_init_62 : decode prog_5_method_1_code 62 = .ok (.aload_n 1, 1) := by decide +kernel
theorem d_Links_init_63 : decode prog_5_method_1_code 63 = .ok (.putfield 36, 3) := by decide +kernel
theorem d_Links_init_66 : decode prog_5_method_1_code 66 = .ok (.aload_n 0, 1) := by decide +kernel
theorem d_Links_init_67 : decode prog_5_method_1_code 67 = .ok (.aload_n 2, 1) := by decide +kernel
theorem d_Links_init_68 : decode prog_5_method_1_code 68 = .ok (.putfield 40, 3) := by decide +kernel
theorem d_Links_init_71 : decode prog_5_method_1_code 71 = .ok (.return_, 1) := by decide +kernel
theorem d_Inheritance_init_0 : decode prog_4_method_1_code 0 = .ok (.aload_n 0, 1) := by decide +kernel
theorem d_Inheritance_init_1 : decode prog_4_method_1_code 1 = .ok (.invokespecial 1, 3) := by decide +kernel
theorem d_Inheritance_init_4 : decode prog_4_method_1_code 4 = .ok (.aload_n 0, 1) := by decide +kernel
theorem d_Inheritance_init_5 : decode prog_4_method_1_code 5 = .ok (.aload_n 1, 1) := by decide +kernel
theorem d_Inheritance_init_6 : decode prog_4_method_1_code 6 = .ok (.putfield 7, 3) := by decide +kernel
theorem d_Inheritance_init_9 : decode prog_4_method_1_code 9 = .ok (.aload_n 0, 1) := by decide +kernel
theorem d_Inheritance_init_10 : decode prog_4_method_1_code 10 = .ok (.aload_n 2, 1) := by decide +kernel
theorem d_Inheritance_init_11 : decode prog_4_method_1_code 11 = .ok (.putfield 13, 3) := by decide +kernel
theorem d_Inheritance_init_14 : decode prog_4_method_1_code 14 = .ok (.return_, 1) := by decide +kernel
theorem d_Resolver_init_0 : decode prog_9_method_1_code 0 = .ok (.aload_n 0, 1) := by decide +kernel
theorem d_Resolver_init_1 : decode prog_9_method_1_code 1 = .ok (.invokespecial 3, 3) := by decide +kernel
theorem d_Resolver_init_4 : decode prog_9_method_1_code 4 = .ok (.aload_n 0, 1) := by decide +kernel
theorem d_Resolver_init_5 : decode prog_9_method_1_code 5 = .ok (.iconst 0, 1) := by decide +kernel
theorem d_Resolver_init_6 : decode prog_9_method_1_code 6 = .ok (.putfield 9, 3) := by decide +kernel
theorem d_Resolver_init_9 : decode prog_9_method_1_code 9 = .ok (.aload_n 0, 1) := by decide +kernel
theorem d_Resolver_init_10 : decode prog_9_method_1_code 10 = .ok (.aload_n 1, 1) := by decide +kernel
theorem d_Resolver_init_11 : decode prog_9_method_1_code 11 = .ok (.getfield 15, 3) := by decide +kernel
theorem d_Resolver_init_14 : decode prog_9_method_1_code 14 = .ok (.putfield 21, 3) := by decide +kernel
theorem d_Resolver_init_17 : decode prog_9_method_1_code 17 = .ok (.aload_n 0, 1) := by decide +kernel
theorem d_Resolver_init_18 : decode prog_9_method_1_code 18 = .ok (.aload_n 1, 1) := by decide +kernel
theorem d_Resolver_init_19 : decode prog_9_method_1_code 19 = .ok (.getfield 15, 3) := by decide +kernel
theorem d_Resolver_init_22 : decode prog_9_method_1_code 22 = .ok (.getfield 22, 3) := by decide +kernel
theorem d_Resolver_init_25 : decode prog_9_method_1_code 25 = .ok (.putfield 28, 3) := by decide +kernel
theorem d_Resolver_init_28 : decode prog_9_method_1_code 28 = .ok (.aload_n 0, 1) := by decide +kernel
theorem d_Resolver_init_29 : decode prog_9_method_1_code 29 = .ok (.aload_n 1, 1) := by decide +kernel
theorem d_Resolver_init_30 : decode prog_9_method_1_code 30 = .ok (.getfield 29, 3) := by decide +kernel
theorem d_Resolver_init_33 : decode prog_9_method_1_code 33 = .ok (.putfield 33, 3) := by decide +kernel
theorem d_Resolver_init_36 : decode prog_9_method_1_code 36 = .ok (.aload_n 0, 1) := by decide +kernel
theorem d_Resolver_init_37 : decode prog_9_method_1_code 37 = .ok (.aload_n 2, 1) := by decide +kernel
theorem d_Resolver_init_38 : decode prog_9_method_1_code 38 = .ok (.putfield 34, 3) := by decide +kernel
theorem d_Resolver_init_41 : decode prog_9_method_1_code 41 = .ok (.aload_n 0, 1) := by decide +kernel
theorem d_Resolver_init_42 : decode prog_9_method_1_code 42 = .ok (.aload_n 1, 1) := by decide +kernel
theorem d_Resolver_init_43 : decode prog_9_method_1_code 43 = .ok (.putfield 38, 3) := by decide +kernel
theorem d_Resolver_init_46 : decode prog_9_method_1_code 46 = .ok (.return_, 1) := by decide +kernel
theorem d_Selector_init_0 : decode prog_10_method_1_code 0 = .ok (.aload_n 0, 1) := by decide +kernel
theorem d_Selector_init_1 : decode prog_10_method_1_code 1 = .ok (.invokespecial 3, 3) := by decide +kernel
theorem d_Selector_init_4 : decode prog_10_method_1_code 4 = .ok (.aload_n 0, 1) := by decide +kernel
theorem d_Selector_init_5 : decode prog_10_method_1_code 5 = .ok (.bipush 41, 2) := by decide +kernel
theorem d_Selector_init_7 : decode prog_10_method_1_code 7 = .ok (.newarray .long, 2) := by decide +kernel
theorem d_Selector_init_9 : decode prog_10_method_1_code 9 = .ok (.putfield 9, 3) := by decide +kernel
theorem d_Selector_init_12 : decode prog_10_method_1_code 12 = .ok (.aload_n 0, 1) := by decide +kernel
theorem d_Selector_init_13 : decode prog_10_method_1_code 13 = .ok (.aload_n 1, 1) := by decide +kernel
theorem d_Selector_init_14 : decode prog_10_method_1_code 14 = .ok (.getfield 15, 3) := by decide +kernel
theorem d_Selector_init_17 : decode prog_10_method_1_code 17 = .ok (.putfield 21, 3) := by decide +kernel
theorem d_Selector_init_20 : decode prog_10_method_1_code 20 = .ok (.aload_n 0, 1) := by decide +kernel
theorem d_Selector_init_21 : decode prog_10_method_1_code 21 = .ok (.aload_n 1, 1) := by decide +kernel
theorem d_Selector_init_22 : decode prog_10_method_1_code 22 = .ok (.getfield 15, 3) := by decide +kernel
theorem d_Selector_init_25 : decode prog_10_method_1_code 25 = .ok (.getfield 22, 3) := by decide +kernel
theorem d_Selector_init_28 : decode prog_10_method_1_code 28 = .ok (.putfield 28, 3) := by decide +kernel
theorem d_Selector_init_31 : decode prog_10_method_1_code 31 = .ok (.aload_n 0, 1) := by decide +kernel
theorem d_Selector_init_32 : decode prog_10_method_1_code 32 = .ok (.aload_n 1, 1) := by decide +kernel
theorem d_Selector_init_33 : decode prog_10_method_1_code 33 = .ok (.getfield 29, 3) := by decide +kernel
theorem d_Selector_init_36 : decode prog_10_method_1_code 36 = .ok (.putfield 33, 3) := by decide +kernel
theorem d_Selector_init_39 : decode prog_10_method_1_code 39 = .ok (.aload_n 0, 1) := by decide +kernel
theorem d_Selector_init_40 : decode prog_10_method_1_code 40 = .ok (.aload_n 1, 1) := by decide +kernel
theorem d_Selector_init_41 : decode prog_10_method_1_code 41 = .ok (.putfield 34, 3) := by decide +kernel
theorem d_Selector_init_44 : decode prog_10_method_1_code 44 = .ok (.return_, 1) := by decide +kernel
theorem d_Agreements_init_0 : decode prog_2_method_1_code 0 = .ok (.aload_n 0, 1) := by decide +kernel
theorem d_Agreements_init_1 : decode prog_2_method_1_code 1 = .ok (.invokespecial 3, 3) := by decide +kernel
theorem d_Agreements_init_4 : decode prog_2_method_1_code 4 = .ok (.aload_n 0, 1) := by decide +kernel
theorem d_Agreements_init_5 : decode prog_2_method_1_code 5 = .ok (.bipush 12, 2) := by decide +kernel
theorem d_Agreements_init_7 : decode prog_2_method_1_code 7 = .ok (.iconst 5, 1) := by decide +kernel
theorem d_Agreements_init_8 : decode prog_2_method_1_code 8 = .ok (.multianewarray 9 2, 4) := by decide +kernel
theorem d_Agreements_init_12 : decode prog_2_method_1_code 12 = .ok (.putfield 11, 3) := by decide +kernel
theorem d_Agreements_init_15 : decode prog_2_method_1_code 15 = .ok (.aload_n 0, 1) := by decide +kernel
theorem d_Agreements_init_16 : decode prog_2_method_1_code 16 = .ok (.bipush 120, 2) := by decide +kernel
theorem d_Agreements_init_18 : decode prog_2_method_1_code 18 = .ok (.newarray .int, 2) := by decide +kernel
theorem d_Agreements_init_20 : decode prog_2_method_1_code 20 = .ok (.putfield 16, 3) := by decide +kernel
theorem d_Agreements_init_23 : decode prog_2_method_1_code 23 = .ok (.aload_n 0, 1) := by decide +kernel
theorem d_Agreements_init_24 : decode prog_2_method_1_code 24 = .ok (.bipush 120, 2) := by decide +kernel
theorem d_Agreements_init_26 : decode prog_2_method_1_code 26 = .ok (.newarray .int, 2) := by decide +kernel
theorem d_Agreements_init_28 : decode prog_2_method_1_code 28 = .ok (.putfield 20, 3) := by decide +kernel
theorem d_Agreements_init_31 : decode prog_2_method_1_code 31 = .ok (.aload_n 0, 1) := by decide +kernel
theorem d_Agreements_init_32 : decode prog_2_method_1_code 32 = .ok (.bipush 120, 2) := by decide +kernel
theorem d_Agreements_init_34 : decode prog_2_method_1_code 34 = .ok (.newarray .int, 2) := by decide +kernel
theorem d_Agreements_init_36 : decode prog_2_method_1_code 36 = .ok (.putfield 23, 3) := by decide +kernel
theorem d_Agreements_init_39 : decode prog_2_method_1_code 39 = .ok (.aload_n 0, 1) := by decide +kernel
theorem d_Agreements_init_40 : decode prog_2_method_1_code 40 = .ok (.iconst 0, 1) := by decide +kernel
theorem d_Agreements_init_41 : decode prog_2_method_1_code 41 = .ok (.putfield 26, 3) := by decide +kernel
theorem d_Agreements_init_44 : decode prog_2_method_1_code 44 = .ok (.aload_n 0, 1) := by decide +kernel
theorem d_Agreements_init_45 : decode prog_2_method_1_code 45 = .ok (.aload_n 1, 1) := by decide +kernel
theorem d_Agreements_init_46 : decode prog_2_method_1_code 46 = .ok (.putfield 30, 3) := by decide +kernel
theorem d_Agreements_init_49 : decode prog_2_method_1_code 49 = .ok (.return_, 1) := by decide +kernel
theorem d_LinkAuditModel_init_0 : decode prog_12_method_1_code 0 = .ok (.aload_n 0, 1) := by decide +kernel
theorem d_LinkAuditModel_init_1 : decode prog_12_method_1_code 1 = .ok (.invokespecial 1, 3) := by decide +kernel
theorem d_LinkAuditModel_init_4 : decode prog_12_method_1_code 4 = .ok (.aload_n 0, 1) := by decide +kernel
theorem d_LinkAuditModel_init_5 : decode prog_12_method_1_code 5 = .ok (.iconst 5, 1) := by decide +kernel
theorem d_LinkAuditModel_init_6 : decode prog_12_method_1_code 6 = .ok (.newarray .int, 2) := by decide +kernel
theorem d_LinkAuditModel_init_8 : decode prog_12_method_1_code 8 = .ok (.putfield 7, 3) := by decide +kernel
theorem d_LinkAuditModel_init_11 : decode prog_12_method_1_code 11 = .ok (.aload_n 0, 1) := by decide +kernel
theorem d_LinkAuditModel_init_12 : decode prog_12_method_1_code 12 = .ok (.bipush 15, 2) := by decide +kernel
theorem d_LinkAuditModel_init_14 : decode prog_12_method_1_code 14 = .ok (.newarray .int, 2) := by decide +kernel
theorem d_LinkAuditModel_init_16 : decode prog_12_method_1_code 16 = .ok (.putfield 13, 3) := by decide +kernel
theorem d_LinkAuditModel_init_19 : decode prog_12_method_1_code 19 = .ok (.aload_n 0, 1) := by decide +kernel
theorem d_LinkAuditModel_init_20 : decode prog_12_method_1_code 20 = .ok (.iconst 5, 1) := by decide +kernel
theorem d_LinkAuditModel_init_21 : decode prog_12_method_1_code 21 = .ok (.newarray .int, 2) := by decide +kernel
theorem d_LinkAuditModel_init_23 : decode prog_12_method_1_code 23 = .ok (.putfield 16, 3) := by decide +kernel
theorem d_LinkAuditModel_init_26 : decode prog_12_method_1_code 26 = .ok (.aload_n 0, 1) := by decide +kernel
theorem d_LinkAuditModel_init_27 : decode prog_12_method_1_code 27 = .ok (.bipush 17, 2) := by decide +kernel
theorem d_LinkAuditModel_init_29 : decode prog_12_method_1_code 29 = .ok (.newarray .int, 2) := by decide +kernel
theorem d_LinkAuditModel_init_31 : decode prog_12_method_1_code 31 = .ok (.putfield 19, 3) := by decide +kernel
theorem d_LinkAuditModel_init_34 : decode prog_12_method_1_code 34 = .ok (.aload_n 0, 1) := by decide +kernel
theorem d_LinkAuditModel_init_35 : decode prog_12_method_1_code 35 = .ok (.bipush 17, 2) := by decide +kernel
theorem d_LinkAuditModel_init_37 : decode prog_12_method_1_code 37 = .ok (.newarray .int, 2) := by decide +kernel
theorem d_LinkAuditModel_init_39 : decode prog_12_method_1_code 39 = .ok (.putfield 22, 3) := by decide +kernel
theorem d_LinkAuditModel_init_42 : decode prog_12_method_1_code 42 = .ok (.aload_n 0, 1) := by decide +kernel
theorem d_LinkAuditModel_init_43 : decode prog_12_method_1_code 43 = .ok (.bipush 17, 2) := by decide +kernel
theorem d_LinkAuditModel_init_45 : decode prog_12_method_1_code 45 = .ok (.newarray .int, 2) := by decide +kernel
theorem d_LinkAuditModel_init_47 : decode prog_12_method_1_code 47 = .ok (.putfield 25, 3) := by decide +kernel
theorem d_LinkAuditModel_init_50 : decode prog_12_method_1_code 50 = .ok (.aload_n 0, 1) := by decide +kernel
theorem d_LinkAuditModel_init_51 : decode prog_12_method_1_code 51 = .ok (.bipush 17, 2) := by decide +kernel
theorem d_LinkAuditModel_init_53 : decode prog_12_method_1_code 53 = .ok (.newarray .int, 2) := by decide +kernel
theorem d_LinkAuditModel_init_55 : decode prog_12_method_1_code 55 = .ok (.putfield 28, 3) := by decide +kernel
theorem d_LinkAuditModel_init_58 : decode prog_12_method_1_code 58 = .ok (.aload_n 0, 1) := by decide +kernel
theorem d_LinkAuditModel_init_59 : decode prog_12_method_1_code 59 = .ok (.bipush 17, 2) := by decide +kernel
theorem d_LinkAuditModel_init_61 : decode prog_12_method_1_code 61 = .ok (.newarray .int, 2) := by decide +kernel
theorem d_LinkAuditModel_init_63 : decode prog_12_method_1_code 63 = .ok (.putfield 31, 3) := by decide +kernel
theorem d_LinkAuditModel_init_66 : decode prog_12_method_1_code 66 = .ok (.aload_n 0, 1) := by decide +kernel
theorem d_LinkAuditModel_init_67 : decode prog_12_method_1_code 67 = .ok (.bipush 41, 2) := by decide +kernel
theorem d_LinkAuditModel_init_69 : decode prog_12_method_1_code 69 = .ok (.newarray .int, 2) := by decide +kernel
theorem d_LinkAuditModel_init_71 : decode prog_12_method_1_code 71 = .ok (.putfield 34, 3) := by decide +kernel
theorem d_LinkAuditModel_init_74 : decode prog_12_method_1_code 74 = .ok (.aload_n 0, 1) := by decide +kernel
theorem d_LinkAuditModel_init_75 : decode prog_12_method_1_code 75 = .ok (.bipush 41, 2) := by decide +kernel
theorem d_LinkAuditModel_init_77 : decode prog_12_method_1_code 77 = .ok (.newarray .boolean, 2) := by decide +kernel
theorem d_LinkAuditModel_init_79 : decode prog_12_method_1_code 79 = .ok (.putfield 37, 3) := by decide +kernel
theorem d_LinkAuditModel_init_82 : decode prog_12_method_1_code 82 = .ok (.aload_n 0, 1) := by decide +kernel
theorem d_LinkAuditModel_init_83 : decode prog_12_method_1_code 83 = .ok (.bipush 41, 2) := by decide +kernel
theorem d_LinkAuditModel_init_85 : decode prog_12_method_1_code 85 = .ok (.newarray .int, 2) := by decide +kernel
theorem d_LinkAuditModel_init_87 : decode prog_12_method_1_code 87 = .ok (.putfield 41, 3) := by decide +kernel
theorem d_LinkAuditModel_init_90 : decode prog_12_method_1_code 90 = .ok (.aload_n 0, 1) := by decide +kernel
theorem d_LinkAuditModel_init_91 : decode prog_12_method_1_code 91 = .ok (.bipush 41, 2) := by decide +kernel
theorem d_LinkAuditModel_init_93 : decode prog_12_method_1_code 93 = .ok (.newarray .int, 2) := by decide +kernel
theorem d_LinkAuditModel_init_95 : decode prog_12_method_1_code 95 = .ok (.putfield 44, 3) := by decide +kernel
theorem d_LinkAuditModel_init_98 : decode prog_12_method_1_code 98 = .ok (.aload_n 0, 1) := by decide +kernel
theorem d_LinkAuditModel_init_99 : decode prog_12_method_1_code 99 = .ok (.bipush 41, 2) := by decide +kernel
theorem d_LinkAuditModel_init_101 : decode prog_12_method_1_code 101 = .ok (.newarray .int, 2) := by decide +kernel
theorem d_LinkAuditModel_init_103 : decode prog_12_method_1_code 103 = .ok (.putfield 47, 3) := by decide +kernel
theorem d_LinkAuditModel_init_106 : decode prog_12_method_1_code 106 = .ok (.aload_n 0, 1) := by decide +kernel
theorem d_LinkAuditModel_init_107 : decode prog_12_method_1_code 107 = .ok (.bipush 41, 2) := by decide +kernel
theorem d_LinkAuditModel_init_109 : decode prog_12_method_1_code 109 = .ok (.newarray .int, 2) := by decide +kernel
theorem d_LinkAuditModel_init_111 : decode prog_12_method_1_code 111 = .ok (.putfield 50, 3) := by decide +kernel
theorem d_LinkAuditModel_init_114 : decode prog_12_method_1_code 114 = .ok (.aload_n 0, 1) := by decide +kernel
theorem d_LinkAuditModel_init_115 : decode prog_12_method_1_code 115 = .ok (.bipush 60, 2) := by decide +kernel
theorem d_LinkAuditModel_init_117 : decode prog_12_method_1_code 117 = .ok (.newarray .int, 2) := by decide +kernel
theorem d_LinkAuditModel_init_119 : decode prog_12_method_1_code 119 = .ok (.putfield 53, 3) := by decide +kernel
theorem d_LinkAuditModel_init_122 : decode prog_12_method_1_code 122 = .ok (.aload_n 0, 1) := by decide +kernel
theorem d_LinkAuditModel_init_123 : decode prog_12_method_1_code 123 = .ok (.bipush 17, 2) := by decide +kernel
theorem d_LinkAuditModel_init_125 : decode prog_12_method_1_code 125 = .ok (.newarray .int, 2) := by decide +kernel
theorem d_LinkAuditModel_init_127 : decode prog_12_method_1_code 127 = .ok (.putfield 56, 3) := by decide +kernel
theorem d_LinkAuditModel_init_130 : decode prog_12_method_1_code 130 = .ok (.aload_n 0, 1) := by decide +kernel
theorem d_LinkAuditModel_init_131 : decode prog_12_method_1_code 131 = .ok (.bipush 17, 2) := by decide +kernel
theorem d_LinkAuditModel_init_133 : decode prog_12_method_1_code 133 = .ok (.newarray .int, 2) := by decide +kernel
theorem d_LinkAuditModel_init_135 : decode prog_12_method_1_code 135 = .ok (.putfield 59, 3) := by decide +kernel
theorem d_LinkAuditModel_init_138 : decode prog_12_method_1_code 138 = .ok (.aload_n 0, 1) := by decide +kernel
theorem d_LinkAuditModel_init_139 : decode prog_12_method_1_code 139 = .ok (.bipush 17, 2) := by decide +kernel
theorem d_LinkAuditModel_init_141 : decode prog_12_method_1_code 141 = .ok (.newarray .int, 2) := by decide +kernel
theorem d_LinkAuditModel_init_143 : decode prog_12_method_1_code 143 = .ok (.putfield 62, 3) := by decide +kernel
theorem d_LinkAuditModel_init_146 : decode prog_12_method_1_code 146 = .ok (.aload_n 0, 1) := by decide +kernel
theorem d_LinkAuditModel_init_147 : decode prog_12_method_1_code 147 = .ok (.bipush 17, 2) := by decide +kernel
theorem d_LinkAuditModel_init_149 : decode prog_12_method_1_code 149 = .ok (.newarray .int, 2) := by decide +kernel
theorem d_LinkAuditModel_init_151 : decode prog_12_method_1_code 151 = .ok (.putfield 65, 3) := by decide +kernel
theorem d_LinkAuditModel_init_154 : decode prog_12_method_1_code 154 = .ok (.aload_n 0, 1) := by decide +kernel
theorem d_LinkAuditModel_init_155 : decode prog_12_method_1_code 155 = .ok (.bipush 17, 2) := by decide +kernel
theorem d_LinkAuditModel_init_157 : decode prog_12_method_1_code 157 = .ok (.newarray .int, 2) := by decide +kernel
theorem d_LinkAuditModel_init_159 : decode prog_12_method_1_code 159 = .ok (.putfield 68, 3) := by decide +kernel
theorem d_LinkAuditModel_init_162 : decode prog_12_method_1_code 162 = .ok (.aload_n 0, 1) := by decide +kernel
theorem d_LinkAuditModel_init_163 : decode prog_12_method_1_code 163 = .ok (.bipush 20, 2) := by decide +kernel
theorem d_LinkAuditModel_init_165 : decode prog_12_method_1_code 165 = .ok (.newarray .int, 2) := by decide +kernel
theorem d_LinkAuditModel_init_167 : decode prog_12_method_1_code 167 = .ok (.putfield 71, 3) := by decide +kernel
theorem d_LinkAuditModel_init_170 : decode prog_12_method_1_code 170 = .ok (.aload_n 0, 1) := by decide +kernel
theorem d_LinkAuditModel_init_171 : decode prog_12_method_1_code 171 = .ok (.bipush 20, 2) := by decide +kernel
theorem d_LinkAuditModel_init_173 : decode prog_12_method_1_code 173 = .ok (.newarray .int, 2) := by decide +kernel
theorem d_LinkAuditModel_init_175 : decode prog_12_method_1_code 175 = .ok (.putfield 74, 3) := by decide +kernel
theorem d_LinkAuditModel_init_178 : decode prog_12_method_1_code 178 = .ok (.aload_n 0, 1) := by decide +kernel
theorem d_LinkAuditModel_init_179 : decode prog_12_method_1_code 179 = .ok (.sipush 300, 3) := by decide +kernel
theorem d_LinkAuditModel_init_182 : decode prog_12_method_1_code 182 = .ok (.newarray .int, 2) := by decide +kernel
theorem d_LinkAuditModel_init_184 : decode prog_12_method_1_code 184 = .ok (.putfield 77, 3) := by decide +kernel
theorem d_LinkAuditModel_init_187 : decode prog_12_method_1_code 187 = .ok (.aload_n 0, 1) := by decide +kernel
theorem d_LinkAuditModel_init_188 : decode prog_12_method_1_code 188 = .ok (.sipush 300, 3) := by decide +kernel
theorem d_LinkAuditModel_init_191 : decode prog_12_method_1_code 191 = .ok (.newarray .boolean, 2) := by decide +kernel
theorem d_LinkAuditModel_init_193 : decode prog_12_method_1_code 193 = .ok (.putfield 80, 3) := by decide +kernel
theorem d_LinkAuditModel_init_196 : decode prog_12_method_1_code 196 = .ok (.aload_n 0, 1) := by decide +kernel
theorem d_LinkAuditModel_init_197 : decode prog_12_method_1_code 197 = .ok (.sipush 360, 3) := by decide +kernel
theorem d_LinkAuditModel_init_200 : decode prog_12_method_1_code 200 = .ok (.newarray .int, 2) := by decide +kernel
theorem d_LinkAuditModel_init_202 : decode prog_12_method_1_code 202 = .ok (.putfield 83, 3) := by decide +kernel
theorem d_LinkAuditModel_init_205 : decode prog_12_method_1_code 205 = .ok (.aload_n 0, 1) := by decide +kernel
theorem d_LinkAuditModel_init_206 : decode prog_12_method_1_code 206 = .ok (.sipush 400, 3) := by decide +kernel
theorem d_LinkAuditModel_init_209 : decode prog_12_method_1_code 209 = .ok (.newarray .boolean, 2) := by decide +kernel
theorem d_LinkAuditModel_init_211 : decode prog_12_method_1_code 211 = .ok (.putfield 86, 3) := by decide +kernel
theorem d_LinkAuditModel_init_214 : decode prog_12_method_1_code 214 = .ok (.aload_n 0, 1) := by decide +kernel
theorem d_LinkAuditModel_init_215 : decode prog_12_method_1_code 215 = .ok (.bipush 20, 2) := by decide +kernel
theorem d_LinkAuditModel_init_217 : decode prog_12_method_1_code 217 = .ok (.newarray .int, 2) := by decide +kernel
theorem d_LinkAuditModel_init_219 : decode prog_12_method_1_code 219 = .ok (.putfield 89, 3) := by decide +kernel
theorem d_LinkAuditModel_init_222 : decode prog_12_method_1_code 222 = .ok (.return_, 1) := by decide +kernel
