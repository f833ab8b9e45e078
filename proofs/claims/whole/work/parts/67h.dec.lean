theorem d_law_754 : decode code 754 = .ok (.iaload, 1) := by decide +kernel
theorem d_law_755 : decode code 755 = .ok (.invokevirtual 104, 3) := by decide +kernel
theorem d_law_758 : decode code 758 = .ok (.istore 6, 2) := by decide +kernel
theorem d_law_760 : decode code 760 = .ok (.aload_n 2, 1) := by decide +kernel
theorem d_law_761 : decode code 761 = .ok (.invokevirtual 65, 3) := by decide +kernel
theorem d_law_764 : decode code 764 = .ok (.iload 5, 2) := by decide +kernel
theorem d_law_766 : decode code 766 = .ok (.if_icmp .eq 5, 3) := by decide +kernel
theorem d_law_771 : decode code 771 = .ok (.iload 5, 2) := by decide +kernel
theorem d_law_773 : decode code 773 = .ok (.ifCond .ne 15, 3) := by decide +kernel
theorem d_law_776 : decode code 776 = .ok (.aload_n 3, 1) := by decide +kernel
theorem d_law_777 : decode code 777 = .ok (.iconst 0, 1) := by decide +kernel
theorem d_law_778 : decode code 778 = .ok (.laload, 1) := by decide +kernel
theorem d_law_779 : decode code 779 = .ok (.iload 6, 2) := by decide +kernel
theorem d_law_781 : decode code 781 = .ok (.i2l, 1) := by decide +kernel
theorem d_law_782 : decode code 782 = .ok (.lcmp, 1) := by decide +kernel
theorem d_law_783 : decode code 783 = .ok (.ifCond .eq 5, 3) := by decide +kernel
theorem d_law_788 : decode code 788 = .ok (.goto 59, 3) := by decide +kernel
theorem d_law_791 : decode code 791 = .ok (.aload_n 1, 1) := by decide +kernel
theorem d_law_792 : decode code 792 = .ok (.aload_n 0, 1) := by decide +kernel
theorem d_law_793 : decode code 793 = .ok (.iload 4, 2) := by decide +kernel
theorem d_law_795 : decode code 795 = .ok (.iconst 1, 1) := by decide +kernel
theorem d_law_796 : decode code 796 = .ok (.iadd, 1) := by decide +kernel
theorem d_law_797 : decode code 797 = .ok (.iaload, 1) := by decide +kernel
theorem d_law_798 : decode code 798 = .ok (.aload_n 3, 1) := by decide +kernel
theorem d_law_799 : decode code 799 = .ok (.invokestatic 105, 3) := by decide +kernel
theorem d_law_802 : decode code 802 = .ok (.istore 5, 2) := by decide +kernel
theorem d_law_804 : decode code 804 = .ok (.aload_n 2, 1) := by decide +kernel
theorem d_law_805 : decode code 805 = .ok (.aload_n 0, 1) := by decide +kernel
theorem d_law_806 : decode code 806 = .ok (.iload 4, 2) := by decide +kernel
theorem d_law_808 : decode code 808 = .ok (.iconst 1, 1) := by decide +kernel
theorem d_law_809 : decode code 809 = .ok (.iadd, 1) := by decide +kernel
theorem d_law_810 : decode code 810 = .ok (.iaload, 1) := by decide +kernel
theorem d_law_811 : decode code 811 = .ok (.invokevirtual 107, 3) := by decide +kernel
theorem d_law_814 : decode code 814 = .ok (.istore 6, 2) := by decide +kernel
theorem d_law_816 : decode code 816 = .ok (.aload_n 2, 1) := by decide +kernel
theorem d_law_817 : decode code 817 = .ok (.invokevirtual 65, 3) := by decide +kernel
theorem d_law_820 : decode code 820 = .ok (.iload 5, 2) := by decide +kernel
theorem d_law_822 : decode code 822 = .ok (.if_icmp .eq 5, 3) := by decide +kernel
theorem d_law_827 : decode code 827 = .ok (.iload 5, 2) := by decide +kernel
theorem d_law_829 : decode code 829 = .ok (.ifCond .ne 15, 3) := by decide +kernel
theorem d_law_832 : decode code 832 = .ok (.aload_n 3, 1) := by decide +kernel
theorem d_law_833 : decode code 833 = .ok (.iconst 0, 1) := by decide +kernel
theorem d_law_834 : decode code 834 = .ok (.laload, 1) := by decide +kernel
theorem d_law_835 : decode code 835 = .ok (.iload 6, 2) := by decide +kernel
theorem d_law_837 : decode code 837 = .ok (.i2l, 1) := by decide +kernel
theorem d_law_838 : decode code 838 = .ok (.lcmp, 1) := by decide +kernel
theorem d_law_839 : decode code 839 = .ok (.ifCond .eq 5, 3) := by decide +kernel
theorem d_law_844 : decode code 844 = .ok (.goto 3, 3) := by decide +kernel
theorem d_law_847 : decode code 847 = .ok (.iinc 4 6, 3) := by decide +kernel
theorem d_law_850 : decode code 850 = .ok (.goto (-827), 3) := by decide +kernel
theorem d_law_853 : decode code 853 = .ok (.iconst 1, 1) := by decide +kernel
theorem d_law_854 : decode code 854 = .ok (.ireturn, 1) := by decide +kernel
