theorem d_law_646 : decode code 646 = .ok (.istore 6, 2) := by decide +kernel
theorem d_law_648 : decode code 648 = .ok (.aload_n 2, 1) := by decide +kernel
theorem d_law_649 : decode code 649 = .ok (.invokevirtual 65, 3) := by decide +kernel
theorem d_law_652 : decode code 652 = .ok (.iload 5, 2) := by decide +kernel
theorem d_law_654 : decode code 654 = .ok (.if_icmp .eq 5, 3) := by decide +kernel
theorem d_law_659 : decode code 659 = .ok (.iload 5, 2) := by decide +kernel
theorem d_law_661 : decode code 661 = .ok (.ifCond .ne 15, 3) := by decide +kernel
theorem d_law_664 : decode code 664 = .ok (.aload_n 3, 1) := by decide +kernel
theorem d_law_665 : decode code 665 = .ok (.iconst 0, 1) := by decide +kernel
theorem d_law_666 : decode code 666 = .ok (.laload, 1) := by decide +kernel
theorem d_law_667 : decode code 667 = .ok (.iload 6, 2) := by decide +kernel
theorem d_law_669 : decode code 669 = .ok (.i2l, 1) := by decide +kernel
theorem d_law_670 : decode code 670 = .ok (.lcmp, 1) := by decide +kernel
theorem d_law_671 : decode code 671 = .ok (.ifCond .eq 5, 3) := by decide +kernel
theorem d_law_676 : decode code 676 = .ok (.goto 171, 3) := by decide +kernel
theorem d_law_679 : decode code 679 = .ok (.aload_n 1, 1) := by decide +kernel
theorem d_law_680 : decode code 680 = .ok (.aload_n 0, 1) := by decide +kernel
theorem d_law_681 : decode code 681 = .ok (.iload 4, 2) := by decide +kernel
theorem d_law_683 : decode code 683 = .ok (.iconst 1, 1) := by decide +kernel
theorem d_law_684 : decode code 684 = .ok (.iadd, 1) := by decide +kernel
theorem d_law_685 : decode code 685 = .ok (.iaload, 1) := by decide +kernel
theorem d_law_686 : decode code 686 = .ok (.aload_n 3, 1) := by decide +kernel
theorem d_law_687 : decode code 687 = .ok (.invokestatic 99, 3) := by decide +kernel
theorem d_law_690 : decode code 690 = .ok (.istore 5, 2) := by decide +kernel
theorem d_law_692 : decode code 692 = .ok (.aload_n 2, 1) := by decide +kernel
theorem d_law_693 : decode code 693 = .ok (.aload_n 0, 1) := by decide +kernel
theorem d_law_694 : decode code 694 = .ok (.iload 4, 2) := by decide +kernel
theorem d_law_696 : decode code 696 = .ok (.iconst 1, 1) := by decide +kernel
theorem d_law_697 : decode code 697 = .ok (.iadd, 1) := by decide +kernel
theorem d_law_698 : decode code 698 = .ok (.iaload, 1) := by decide +kernel
theorem d_law_699 : decode code 699 = .ok (.invokevirtual 101, 3) := by decide +kernel
theorem d_law_702 : decode code 702 = .ok (.istore 6, 2) := by decide +kernel
theorem d_law_704 : decode code 704 = .ok (.aload_n 2, 1) := by decide +kernel
theorem d_law_705 : decode code 705 = .ok (.invokevirtual 65, 3) := by decide +kernel
theorem d_law_708 : decode code 708 = .ok (.iload 5, 2) := by decide +kernel
theorem d_law_710 : decode code 710 = .ok (.if_icmp .eq 5, 3) := by decide +kernel
theorem d_law_715 : decode code 715 = .ok (.iload 5, 2) := by decide +kernel
theorem d_law_717 : decode code 717 = .ok (.ifCond .ne 15, 3) := by decide +kernel
theorem d_law_720 : decode code 720 = .ok (.aload_n 3, 1) := by decide +kernel
theorem d_law_721 : decode code 721 = .ok (.iconst 0, 1) := by decide +kernel
theorem d_law_722 : decode code 722 = .ok (.laload, 1) := by decide +kernel
theorem d_law_723 : decode code 723 = .ok (.iload 6, 2) := by decide +kernel
theorem d_law_725 : decode code 725 = .ok (.i2l, 1) := by decide +kernel
theorem d_law_726 : decode code 726 = .ok (.lcmp, 1) := by decide +kernel
theorem d_law_727 : decode code 727 = .ok (.ifCond .eq 5, 3) := by decide +kernel
theorem d_law_732 : decode code 732 = .ok (.goto 115, 3) := by decide +kernel
theorem d_law_735 : decode code 735 = .ok (.aload_n 1, 1) := by decide +kernel
theorem d_law_736 : decode code 736 = .ok (.aload_n 0, 1) := by decide +kernel
theorem d_law_737 : decode code 737 = .ok (.iload 4, 2) := by decide +kernel
theorem d_law_739 : decode code 739 = .ok (.iconst 1, 1) := by decide +kernel
theorem d_law_740 : decode code 740 = .ok (.iadd, 1) := by decide +kernel
theorem d_law_741 : decode code 741 = .ok (.iaload, 1) := by decide +kernel
theorem d_law_742 : decode code 742 = .ok (.aload_n 3, 1) := by decide +kernel
theorem d_law_743 : decode code 743 = .ok (.invokestatic 102, 3) := by decide +kernel
theorem d_law_746 : decode code 746 = .ok (.istore 5, 2) := by decide +kernel
theorem d_law_748 : decode code 748 = .ok (.aload_n 2, 1) := by decide +kernel
theorem d_law_749 : decode code 749 = .ok (.aload_n 0, 1) := by decide +kernel
theorem d_law_750 : decode code 750 = .ok (.iload 4, 2) := by decide +kernel
theorem d_law_752 : decode code 752 = .ok (.iconst 1, 1) := by decide +kernel
theorem d_law_753 : decode code 753 = .ok (.iadd, 1) := by decide +kernel
