theorem d_L_law_539 : decode code 539 = .ok (.i2l, 1) := by decide +kernel
theorem d_L_law_540 : decode code 540 = .ok (.lcmp, 1) := by decide +kernel
theorem d_L_law_541 : decode code 541 = .ok (.ifCond .eq 5, 3) := by decide +kernel
theorem d_L_law_544 : decode code 544 = .ok (.iconst 0, 1) := by decide +kernel
theorem d_L_law_545 : decode code 545 = .ok (.ireturn, 1) := by decide +kernel
theorem d_L_law_546 : decode code 546 = .ok (.goto 425, 3) := by decide +kernel
theorem d_L_law_549 : decode code 549 = .ok (.aload_n 1, 1) := by decide +kernel
theorem d_L_law_550 : decode code 550 = .ok (.invokevirtual 97, 3) := by decide +kernel
theorem d_L_law_553 : decode code 553 = .ok (.aload_n 2, 1) := by decide +kernel
theorem d_L_law_554 : decode code 554 = .ok (.invokevirtual 100, 3) := by decide +kernel
theorem d_L_law_557 : decode code 557 = .ok (.if_icmp .eq 414, 3) := by decide +kernel
theorem d_L_law_560 : decode code 560 = .ok (.iconst 0, 1) := by decide +kernel
theorem d_L_law_561 : decode code 561 = .ok (.ireturn, 1) := by decide +kernel
theorem d_L_law_562 : decode code 562 = .ok (.aload_n 1, 1) := by decide +kernel
theorem d_L_law_563 : decode code 563 = .ok (.aload_n 0, 1) := by decide +kernel
theorem d_L_law_564 : decode code 564 = .ok (.iload 5, 2) := by decide +kernel
theorem d_L_law_566 : decode code 566 = .ok (.iconst 1, 1) := by decide +kernel
theorem d_L_law_567 : decode code 567 = .ok (.iadd, 1) := by decide +kernel
theorem d_L_law_568 : decode code 568 = .ok (.iaload, 1) := by decide +kernel
theorem d_L_law_569 : decode code 569 = .ok (.aload_n 0, 1) := by decide +kernel
theorem d_L_law_570 : decode code 570 = .ok (.iload 5, 2) := by decide +kernel
theorem d_L_law_572 : decode code 572 = .ok (.iconst 2, 1) := by decide +kernel
theorem d_L_law_573 : decode code 573 = .ok (.iadd, 1) := by decide +kernel
theorem d_L_law_574 : decode code 574 = .ok (.iaload, 1) := by decide +kernel
theorem d_L_law_575 : decode code 575 = .ok (.aload 4, 2) := by decide +kernel
theorem d_L_law_577 : decode code 577 = .ok (.invokestatic 101, 3) := by decide +kernel
theorem d_L_law_580 : decode code 580 = .ok (.istore 6, 2) := by decide +kernel
theorem d_L_law_582 : decode code 582 = .ok (.aload_n 2, 1) := by decide +kernel
theorem d_L_law_583 : decode code 583 = .ok (.aload_n 0, 1) := by decide +kernel
theorem d_L_law_584 : decode code 584 = .ok (.iload 5, 2) := by decide +kernel
theorem d_L_law_586 : decode code 586 = .ok (.iconst 1, 1) := by decide +kernel
theorem d_L_law_587 : decode code 587 = .ok (.iadd, 1) := by decide +kernel
theorem d_L_law_588 : decode code 588 = .ok (.iaload, 1) := by decide +kernel
theorem d_L_law_589 : decode code 589 = .ok (.aload_n 0, 1) := by decide +kernel
theorem d_L_law_590 : decode code 590 = .ok (.iload 5, 2) := by decide +kernel
theorem d_L_law_592 : decode code 592 = .ok (.iconst 2, 1) := by decide +kernel
theorem d_L_law_593 : decode code 593 = .ok (.iadd, 1) := by decide +kernel
theorem d_L_law_594 : decode code 594 = .ok (.iaload, 1) := by decide +kernel
theorem d_L_law_595 : decode code 595 = .ok (.invokevirtual 104, 3) := by decide +kernel
theorem d_L_law_598 : decode code 598 = .ok (.dstore 7, 2) := by decide +kernel
theorem d_L_law_600 : decode code 600 = .ok (.aload_n 2, 1) := by decide +kernel
theorem d_L_law_601 : decode code 601 = .ok (.invokevirtual 65, 3) := by decide +kernel
theorem d_L_law_604 : decode code 604 = .ok (.iload 6, 2) := by decide +kernel
theorem d_L_law_606 : decode code 606 = .ok (.if_icmp .eq 5, 3) := by decide +kernel
theorem d_L_law_609 : decode code 609 = .ok (.iconst 0, 1) := by decide +kernel
theorem d_L_law_610 : decode code 610 = .ok (.ireturn, 1) := by decide +kernel
theorem d_L_law_611 : decode code 611 = .ok (.iload 6, 2) := by decide +kernel
theorem d_L_law_613 : decode code 613 = .ok (.ifCond .ne 35, 3) := by decide +kernel
theorem d_L_law_616 : decode code 616 = .ok (.aload 4, 2) := by decide +kernel
theorem d_L_law_618 : decode code 618 = .ok (.iconst 0, 1) := by decide +kernel
theorem d_L_law_619 : decode code 619 = .ok (.daload, 1) := by decide +kernel
theorem d_L_law_620 : decode code 620 = .ok (.dload 7, 2) := by decide +kernel
theorem d_L_law_622 : decode code 622 = .ok (.dcmp .l, 1) := by decide +kernel
theorem d_L_law_623 : decode code 623 = .ok (.ifCond .eq 25, 3) := by decide +kernel
theorem d_L_law_626 : decode code 626 = .ok (.aload 4, 2) := by decide +kernel
theorem d_L_law_628 : decode code 628 = .ok (.iconst 0, 1) := by decide +kernel
theorem d_L_law_629 : decode code 629 = .ok (.daload, 1) := by decide +kernel
theorem d_L_law_630 : decode code 630 = .ok (.aload 4, 2) := by decide +kernel
theorem d_L_law_632 : decode code 632 = .ok (.iconst 0, 1) := by decide +kernel
theorem d_L_law_633 : decode code 633 = .ok (.daload, 1) := by decide +kernel
theorem d_L_law_634 : decode code 634 = .ok (.dcmp .l, 1) := by decide +kernel
theorem d_L_law_635 : decode code 635 = .ok (.ifCond .eq 11, 3) := by decide +kernel
theorem d_L_law_638 : decode code 638 = .ok (.dload 7, 2) := by decide +kernel
theorem d_L_law_640 : decode code 640 = .ok (.dload 7, 2) := by decide +kernel
theorem d_L_law_642 : decode code 642 = .ok (.dcmp .l, 1) := by decide +kernel
theorem d_L_law_643 : decode code 643 = .ok (.ifCond .ne 5, 3) := by decide +kernel
theorem d_L_law_646 : decode code 646 = .ok (.iconst 0, 1) := by decide +kernel
theorem d_L_law_647 : decode code 647 = .ok (.ireturn, 1) := by decide +kernel
theorem d_L_law_648 : decode code 648 = .ok (.goto 323, 3) := by decide +kernel
theorem d_L_law_651 : decode code 651 = .ok (.aload_n 1, 1) := by decide +kernel
theorem d_L_law_652 : decode code 652 = .ok (.invokevirtual 105, 3) := by decide +kernel
theorem d_L_law_655 : decode code 655 = .ok (.aload_n 2, 1) := by decide +kernel
theorem d_L_law_656 : decode code 656 = .ok (.invokevirtual 108, 3) := by decide +kernel
theorem d_L_law_659 : decode code 659 = .ok (.if_icmp .eq 312, 3) := by decide +kernel
theorem d_L_law_662 : decode code 662 = .ok (.iconst 0, 1) := by decide +kernel
theorem d_L_law_663 : decode code 663 = .ok (.ireturn, 1) := by decide +kernel
theorem d_L_law_664 : decode code 664 = .ok (.aload_n 1, 1) := by decide +kernel
theorem d_L_law_665 : decode code 665 = .ok (.aload_n 0, 1) := by decide +kernel
theorem d_L_law_666 : decode code 666 = .ok (.iload 5, 2) := by decide +kernel
theorem d_L_law_668 : decode code 668 = .ok (.iconst 1, 1) := by decide +kernel
theorem d_L_law_669 : decode code 669 = .ok (.iadd, 1) := by decide +kernel
theorem d_L_law_670 : decode code 670 = .ok (.iaload, 1) := by decide +kernel
theorem d_L_law_671 : decode code 671 = .ok (.aload 4, 2) := by decide +kernel
theorem d_L_law_673 : decode code 673 = .ok (.invokestatic 109, 3) := by decide +kernel
theorem d_L_law_676 : decode code 676 = .ok (.istore 6, 2) := by decide +kernel
theorem d_L_law_678 : decode code 678 = .ok (.aload_n 2, 1) := by decide +kernel
theorem d_L_law_679 : decode code 679 = .ok (.aload_n 0, 1) := by decide +kernel
theorem d_L_law_680 : decode code 680 = .ok (.iload 5, 2) := by decide +kernel
theorem d_L_law_682 : decode code 682 = .ok (.iconst 1, 1) := by decide +kernel
theorem d_L_law_683 : decode code 683 = .ok (.iadd, 1) := by decide +kernel
theorem d_L_law_684 : decode code 684 = .ok (.iaload, 1) := by decide +kernel
theorem d_L_law_685 : decode code 685 = .ok (.invokevirtual 112, 3) := by decide +kernel
theorem d_L_law_688 : decode code 688 = .ok (.dstore 7, 2) := by decide +kernel
theorem d_L_law_690 : decode code 690 = .ok (.aload_n 2, 1) := by decide +kernel
theorem d_L_law_691 : decode code 691 = .ok (.invokevirtual 65, 3) := by decide +kernel
theorem d_L_law_694 : decode code 694 = .ok (.iload 6, 2) := by decide +kernel
theorem d_L_law_696 : decode code 696 = .ok (.if_icmp .eq 5, 3) := by decide +kernel
theorem d_L_law_699 : decode code 699 = .ok (.iconst 0, 1) := by decide +kernel
theorem d_L_law_700 : decode code 700 = .ok (.ireturn, 1) := by decide +kernel
theorem d_L_law_701 : decode code 701 = .ok (.iload 6, 2) := by decide +kernel
theorem d_L_law_703 : decode code 703 = .ok (.ifCond .ne 35, 3) := by decide +kernel
theorem d_L_law_706 : decode code 706 = .ok (.aload 4, 2) := by decide +kernel
theorem d_L_law_708 : decode code 708 = .ok (.iconst 0, 1) := by decide +kernel
theorem d_L_law_709 : decode code 709 = .ok (.daload, 1) := by decide +kernel
theorem d_L_law_710 : decode code 710 = .ok (.dload 7, 2) := by decide +kernel
theorem d_L_law_712 : decode code 712 = .ok (.dcmp .l, 1) := by decide +kernel
theorem d_L_law_713 : decode code 713 = .ok (.ifCond .eq 25, 3) := by decide +kernel
theorem d_L_law_716 : decode code 716 = .ok (.aload 4, 2) := by decide +kernel
theorem d_L_law_718 : decode code 718 = .ok (.iconst 0, 1) := by decide +kernel
theorem d_L_law_719 : decode code 719 = .ok (.daload, 1) := by decide +kernel
theorem d_L_law_720 : decode code 720 = .ok (.aload 4, 2) := by decide +kernel
theorem d_L_law_722 : decode code 722 = .ok (.iconst 0, 1) := by decide +kernel
theorem d_L_law_723 : decode code 723 = .ok (.daload, 1) := by decide +kernel
theorem d_L_law_724 : decode code 724 = .ok (.dcmp .l, 1) := by decide +kernel
theorem d_L_law_725 : decode code 725 = .ok (.ifCond .eq 11, 3) := by decide +kernel
theorem d_L_law_728 : decode code 728 = .ok (.dload 7, 2) := by decide +kernel
theorem d_L_law_730 : decode code 730 = .ok (.dload 7, 2) := by decide +kernel
theorem d_L_law_732 : decode code 732 = .ok (.dcmp .l, 1) := by decide +kernel
theorem d_L_law_733 : decode code 733 = .ok (.ifCond .ne 5, 3) := by decide +kernel
theorem d_L_law_736 : decode code 736 = .ok (.iconst 0, 1) := by decide +kernel
theorem d_L_law_737 : decode code 737 = .ok (.ireturn, 1) := by decide +kernel
theorem d_L_law_738 : decode code 738 = .ok (.goto 233, 3) := by decide +kernel
theorem d_L_law_741 : decode code 741 = .ok (.aload_n 1, 1) := by decide +kernel
theorem d_L_law_742 : decode code 742 = .ok (.aload_n 0, 1) := by decide +kernel
theorem d_L_law_743 : decode code 743 = .ok (.iload 5, 2) := by decide +kernel
theorem d_L_law_745 : decode code 745 = .ok (.iconst 1, 1) := by decide +kernel
theorem d_L_law_746 : decode code 746 = .ok (.iadd, 1) := by decide +kernel
theorem d_L_law_747 : decode code 747 = .ok (.iaload, 1) := by decide +kernel
theorem d_L_law_748 : decode code 748 = .ok (.aload_n 0, 1) := by decide +kernel
theorem d_L_law_749 : decode code 749 = .ok (.iload 5, 2) := by decide +kernel
theorem d_L_law_751 : decode code 751 = .ok (.iconst 2, 1) := by decide +kernel
theorem d_L_law_752 : decode code 752 = .ok (.iadd, 1) := by decide +kernel
theorem d_L_law_753 : decode code 753 = .ok (.iaload, 1) := by decide +kernel
theorem d_L_law_754 : decode code 754 = .ok (.i2d, 1) := by decide +kernel
theorem d_L_law_755 : decode code 755 = .ok (.ldc2_w 68, 3) := by decide +kernel
theorem d_L_law_758 : decode code 758 = .ok (.dmul, 1) := by decide +kernel
theorem d_L_law_759 : decode code 759 = .ok (.aload_n 3, 1) := by decide +kernel
theorem d_L_law_760 : decode code 760 = .ok (.invokestatic 113, 3) := by decide +kernel
theorem d_L_law_763 : decode code 763 = .ok (.istore 6, 2) := by decide +kernel
theorem d_L_law_765 : decode code 765 = .ok (.aload_n 2, 1) := by decide +kernel
theorem d_L_law_766 : decode code 766 = .ok (.aload_n 0, 1) := by decide +kernel
theorem d_L_law_767 : decode code 767 = .ok (.iload 5, 2) := by decide +kernel
theorem d_L_law_769 : decode code 769 = .ok (.iconst 1, 1) := by decide +kernel
theorem d_L_law_770 : decode code 770 = .ok (.iadd, 1) := by decide +kernel
theorem d_L_law_771 : decode code 771 = .ok (.iaload, 1) := by decide +kernel
theorem d_L_law_772 : decode code 772 = .ok (.aload_n 0, 1) := by decide +kernel
theorem d_L_law_773 : decode code 773 = .ok (.iload 5, 2) := by decide +kernel
theorem d_L_law_775 : decode code 775 = .ok (.iconst 2, 1) := by decide +kernel
theorem d_L_law_776 : decode code 776 = .ok (.iadd, 1) := by decide +kernel
theorem d_L_law_777 : decode code 777 = .ok (.iaload, 1) := by decide +kernel
