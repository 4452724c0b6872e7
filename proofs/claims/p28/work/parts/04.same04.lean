theorem dL_same_588 : decode cL_same 588 = .ok (.iand, 1) := by decide +kernel
theorem dL_same_589 : decode cL_same 589 = .ok (.if_icmp .eq 5, 3) := by decide +kernel
theorem dL_same_592 : decode cL_same 592 = .ok (.iconst 0, 1) := by decide +kernel
theorem dL_same_593 : decode cL_same 593 = .ok (.ireturn, 1) := by decide +kernel
theorem dL_same_594 : decode cL_same 594 = .ok (.iinc 13 1, 3) := by decide +kernel
theorem dL_same_597 : decode cL_same 597 = .ok (.goto (-31), 3) := by decide +kernel
theorem dL_same_600 : decode cL_same 600 = .ok (.iload 11, 2) := by decide +kernel
theorem dL_same_602 : decode cL_same 602 = .ok (.ifCond .ne 16, 3) := by decide +kernel
theorem dL_same_605 : decode cL_same 605 = .ok (.aload_n 0, 1) := by decide +kernel
theorem dL_same_606 : decode cL_same 606 = .ok (.bipush 9, 2) := by decide +kernel
theorem dL_same_608 : decode cL_same 608 = .ok (.invokevirtual 81, 3) := by decide +kernel
theorem dL_same_611 : decode cL_same 611 = .ok (.iload 12, 2) := by decide +kernel
theorem dL_same_613 : decode cL_same 613 = .ok (.if_icmp .eq 5, 3) := by decide +kernel
theorem dL_same_616 : decode cL_same 616 = .ok (.iconst 0, 1) := by decide +kernel
theorem dL_same_617 : decode cL_same 617 = .ok (.ireturn, 1) := by decide +kernel
theorem dL_same_618 : decode cL_same 618 = .ok (.iload 11, 2) := by decide +kernel
theorem dL_same_620 : decode cL_same 620 = .ok (.iconst 1, 1) := by decide +kernel
theorem dL_same_621 : decode cL_same 621 = .ok (.iload_n 1, 1) := by decide +kernel
theorem dL_same_622 : decode cL_same 622 = .ok (.iconst 3, 1) := by decide +kernel
theorem dL_same_623 : decode cL_same 623 = .ok (.invokestatic 60, 3) := by decide +kernel
theorem dL_same_626 : decode cL_same 626 = .ok (.iadd, 1) := by decide +kernel
theorem dL_same_627 : decode cL_same 627 = .ok (.iadd, 1) := by decide +kernel
theorem dL_same_628 : decode cL_same 628 = .ok (.istore 11, 2) := by decide +kernel
theorem dL_same_630 : decode cL_same 630 = .ok (.goto (-97), 3) := by decide +kernel
theorem dL_same_633 : decode cL_same 633 = .ok (.iconst 0, 1) := by decide +kernel
theorem dL_same_634 : decode cL_same 634 = .ok (.istore 11, 2) := by decide +kernel
theorem dL_same_636 : decode cL_same 636 = .ok (.iconst 0, 1) := by decide +kernel
theorem dL_same_637 : decode cL_same 637 = .ok (.istore 12, 2) := by decide +kernel
theorem dL_same_639 : decode cL_same 639 = .ok (.iload 12, 2) := by decide +kernel
theorem dL_same_641 : decode cL_same 641 = .ok (.aload_n 2, 1) := by decide +kernel
theorem dL_same_642 : decode cL_same 642 = .ok (.iconst 2, 1) := by decide +kernel
theorem dL_same_643 : decode cL_same 643 = .ok (.iaload, 1) := by decide +kernel
theorem dL_same_644 : decode cL_same 644 = .ok (.if_icmp .ge 61, 3) := by decide +kernel
theorem dL_same_647 : decode cL_same 647 = .ok (.aload_n 0, 1) := by decide +kernel
theorem dL_same_648 : decode cL_same 648 = .ok (.iload 12, 2) := by decide +kernel
theorem dL_same_650 : decode cL_same 650 = .ok (.iconst 0, 1) := by decide +kernel
theorem dL_same_651 : decode cL_same 651 = .ok (.invokevirtual 84, 3) := by decide +kernel
theorem dL_same_654 : decode cL_same 654 = .ok (.aload 4, 2) := by decide +kernel
theorem dL_same_656 : decode cL_same 656 = .ok (.iconst 2, 1) := by decide +kernel
theorem dL_same_657 : decode cL_same 657 = .ok (.iload 12, 2) := by decide +kernel
theorem dL_same_659 : decode cL_same 659 = .ok (.imul, 1) := by decide +kernel
theorem dL_same_660 : decode cL_same 660 = .ok (.iaload, 1) := by decide +kernel
theorem dL_same_661 : decode cL_same 661 = .ok (.if_icmp .ne 22, 3) := by decide +kernel
theorem dL_same_664 : decode cL_same 664 = .ok (.aload_n 0, 1) := by decide +kernel
theorem dL_same_665 : decode cL_same 665 = .ok (.iload 12, 2) := by decide +kernel
theorem dL_same_667 : decode cL_same 667 = .ok (.iconst 1, 1) := by decide +kernel
theorem dL_same_668 : decode cL_same 668 = .ok (.invokevirtual 84, 3) := by decide +kernel
theorem dL_same_671 : decode cL_same 671 = .ok (.aload 4, 2) := by decide +kernel
theorem dL_same_673 : decode cL_same 673 = .ok (.iconst 2, 1) := by decide +kernel
theorem dL_same_674 : decode cL_same 674 = .ok (.iload 12, 2) := by decide +kernel
theorem dL_same_676 : decode cL_same 676 = .ok (.imul, 1) := by decide +kernel
theorem dL_same_677 : decode cL_same 677 = .ok (.iconst 1, 1) := by decide +kernel
theorem dL_same_678 : decode cL_same 678 = .ok (.iadd, 1) := by decide +kernel
theorem dL_same_679 : decode cL_same 679 = .ok (.iaload, 1) := by decide +kernel
theorem dL_same_680 : decode cL_same 680 = .ok (.if_icmp .eq 5, 3) := by decide +kernel
theorem dL_same_683 : decode cL_same 683 = .ok (.iconst 0, 1) := by decide +kernel
theorem dL_same_684 : decode cL_same 684 = .ok (.ireturn, 1) := by decide +kernel
theorem dL_same_685 : decode cL_same 685 = .ok (.iload 11, 2) := by decide +kernel
theorem dL_same_687 : decode cL_same 687 = .ok (.aload 4, 2) := by decide +kernel
theorem dL_same_689 : decode cL_same 689 = .ok (.iconst 2, 1) := by decide +kernel
theorem dL_same_690 : decode cL_same 690 = .ok (.iload 12, 2) := by decide +kernel
theorem dL_same_692 : decode cL_same 692 = .ok (.imul, 1) := by decide +kernel
theorem dL_same_693 : decode cL_same 693 = .ok (.iconst 1, 1) := by decide +kernel
theorem dL_same_694 : decode cL_same 694 = .ok (.iadd, 1) := by decide +kernel
theorem dL_same_695 : decode cL_same 695 = .ok (.iaload, 1) := by decide +kernel
theorem dL_same_696 : decode cL_same 696 = .ok (.iadd, 1) := by decide +kernel
theorem dL_same_697 : decode cL_same 697 = .ok (.istore 11, 2) := by decide +kernel
theorem dL_same_699 : decode cL_same 699 = .ok (.iinc 12 1, 3) := by decide +kernel
theorem dL_same_702 : decode cL_same 702 = .ok (.goto (-63), 3) := by decide +kernel
theorem dL_same_705 : decode cL_same 705 = .ok (.iconst 0, 1) := by decide +kernel
theorem dL_same_706 : decode cL_same 706 = .ok (.istore 12, 2) := by decide +kernel
theorem dL_same_708 : decode cL_same 708 = .ok (.iload 12, 2) := by decide +kernel
theorem dL_same_710 : decode cL_same 710 = .ok (.aload_n 2, 1) := by decide +kernel
theorem dL_same_711 : decode cL_same 711 = .ok (.iconst 3, 1) := by decide +kernel
theorem dL_same_712 : decode cL_same 712 = .ok (.iaload, 1) := by decide +kernel
theorem dL_same_713 : decode cL_same 713 = .ok (.if_icmp .ge 168, 3) := by decide +kernel
theorem dL_same_716 : decode cL_same 716 = .ok (.aload 5, 2) := by decide +kernel
theorem dL_same_718 : decode cL_same 718 = .ok (.iload 12, 2) := by decide +kernel
theorem dL_same_720 : decode cL_same 720 = .ok (.iaload, 1) := by decide +kernel
theorem dL_same_721 : decode cL_same 721 = .ok (.istore 13, 2) := by decide +kernel
theorem dL_same_723 : decode cL_same 723 = .ok (.iload 9, 2) := by decide +kernel
theorem dL_same_725 : decode cL_same 725 = .ok (.iload 13, 2) := by decide +kernel
theorem dL_same_727 : decode cL_same 727 = .ok (.bipush 18, 2) := by decide +kernel
theorem dL_same_729 : decode cL_same 729 = .ok (.ishr, 1) := by decide +kernel
theorem dL_same_730 : decode cL_same 730 = .ok (.iconst 1, 1) := by decide +kernel
theorem dL_same_731 : decode cL_same 731 = .ok (.iand, 1) := by decide +kernel
theorem dL_same_732 : decode cL_same 732 = .ok (.iadd, 1) := by decide +kernel
theorem dL_same_733 : decode cL_same 733 = .ok (.istore 9, 2) := by decide +kernel
theorem dL_same_735 : decode cL_same 735 = .ok (.iload 10, 2) := by decide +kernel
theorem dL_same_737 : decode cL_same 737 = .ok (.iload 13, 2) := by decide +kernel
