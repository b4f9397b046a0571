/-! DECODE ROWS of the law's methods -/
theorem dL_isStep_662 : decode cL_isStep 662 = .ok (.iload 8, 2) := by decide +kernel
theorem dL_isStep_664 : decode cL_isStep 664 = .ok (.iload 9, 2) := by decide +kernel
theorem dL_isStep_666 : decode cL_isStep 666 = .ok (.iadd, 1) := by decide +kernel
theorem dL_isStep_667 : decode cL_isStep 667 = .ok (.if_icmp .ne 7, 3) := by decide +kernel
theorem dL_isStep_670 : decode cL_isStep 670 = .ok (.iconst 1, 1) := by decide +kernel
theorem dL_isStep_671 : decode cL_isStep 671 = .ok (.goto 4, 3) := by decide +kernel
theorem dL_isStep_674 : decode cL_isStep 674 = .ok (.iconst 0, 1) := by decide +kernel
theorem dL_isStep_675 : decode cL_isStep 675 = .ok (.ireturn, 1) := by decide +kernel
theorem dL_isStep_676 : decode cL_isStep 676 = .ok (.iconst 1, 1) := by decide +kernel
theorem dL_isStep_677 : decode cL_isStep 677 = .ok (.iload_n 3, 1) := by decide +kernel
theorem dL_isStep_678 : decode cL_isStep 678 = .ok (.iload 4, 2) := by decide +kernel
theorem dL_isStep_680 : decode cL_isStep 680 = .ok (.iconst 2, 1) := by decide +kernel
theorem dL_isStep_681 : decode cL_isStep 681 = .ok (.invokestatic 15, 3) := by decide +kernel
theorem dL_isStep_684 : decode cL_isStep 684 = .ok (.ifCond .ne 8, 3) := by decide +kernel
theorem dL_isStep_687 : decode cL_isStep 687 = .ok (.bipush 9, 2) := by decide +kernel
theorem dL_isStep_689 : decode cL_isStep 689 = .ok (.goto 4, 3) := by decide +kernel
theorem dL_isStep_692 : decode cL_isStep 692 = .ok (.iconst 3, 1) := by decide +kernel
theorem dL_isStep_693 : decode cL_isStep 693 = .ok (.invokestatic 15, 3) := by decide +kernel
theorem dL_isStep_696 : decode cL_isStep 696 = .ok (.iadd, 1) := by decide +kernel
theorem dL_isStep_697 : decode cL_isStep 697 = .ok (.istore 6, 2) := by decide +kernel
theorem dL_isStep_699 : decode cL_isStep 699 = .ok (.iload_n 3, 1) := by decide +kernel
theorem dL_isStep_700 : decode cL_isStep 700 = .ok (.iconst 4, 1) := by decide +kernel
theorem dL_isStep_701 : decode cL_isStep 701 = .ok (.ishr, 1) := by decide +kernel
theorem dL_isStep_702 : decode cL_isStep 702 = .ok (.iconst 2, 1) := by decide +kernel
theorem dL_isStep_703 : decode cL_isStep 703 = .ok (.invokestatic 15, 3) := by decide +kernel
theorem dL_isStep_706 : decode cL_isStep 706 = .ok (.ifCond .ne 7, 3) := by decide +kernel
theorem dL_isStep_709 : decode cL_isStep 709 = .ok (.iconst 1, 1) := by decide +kernel
theorem dL_isStep_710 : decode cL_isStep 710 = .ok (.goto 4, 3) := by decide +kernel
theorem dL_isStep_713 : decode cL_isStep 713 = .ok (.iconst 0, 1) := by decide +kernel
theorem dL_isStep_714 : decode cL_isStep 714 = .ok (.istore 7, 2) := by decide +kernel
theorem dL_isStep_716 : decode cL_isStep 716 = .ok (.aload_n 0, 1) := by decide +kernel
theorem dL_isStep_717 : decode cL_isStep 717 = .ok (.iload 6, 2) := by decide +kernel
theorem dL_isStep_719 : decode cL_isStep 719 = .ok (.iload 7, 2) := by decide +kernel
theorem dL_isStep_721 : decode cL_isStep 721 = .ok (.invokevirtual 50, 3) := by decide +kernel
theorem dL_isStep_724 : decode cL_isStep 724 = .ok (.istore 8, 2) := by decide +kernel
theorem dL_isStep_726 : decode cL_isStep 726 = .ok (.iload 5, 2) := by decide +kernel
theorem dL_isStep_728 : decode cL_isStep 728 = .ok (.bipush 24, 2) := by decide +kernel
theorem dL_isStep_730 : decode cL_isStep 730 = .ok (.if_icmp .ne 29, 3) := by decide +kernel
theorem dL_isStep_733 : decode cL_isStep 733 = .ok (.iload 8, 2) := by decide +kernel
theorem dL_isStep_735 : decode cL_isStep 735 = .ok (.bipush (-4), 2) := by decide +kernel
theorem dL_isStep_737 : decode cL_isStep 737 = .ok (.if_icmp .ne 20, 3) := by decide +kernel
theorem dL_isStep_740 : decode cL_isStep 740 = .ok (.aload_n 1, 1) := by decide +kernel
theorem dL_isStep_741 : decode cL_isStep 741 = .ok (.iload 6, 2) := by decide +kernel
theorem dL_isStep_743 : decode cL_isStep 743 = .ok (.iload 7, 2) := by decide +kernel
theorem dL_isStep_745 : decode cL_isStep 745 = .ok (.invokevirtual 50, 3) := by decide +kernel
theorem dL_isStep_748 : decode cL_isStep 748 = .ok (.iload 8, 2) := by decide +kernel
theorem dL_isStep_750 : decode cL_isStep 750 = .ok (.if_icmp .ne 7, 3) := by decide +kernel
theorem dL_isStep_753 : decode cL_isStep 753 = .ok (.iconst 1, 1) := by decide +kernel
theorem dL_isStep_754 : decode cL_isStep 754 = .ok (.goto 4, 3) := by decide +kernel
theorem dL_isStep_757 : decode cL_isStep 757 = .ok (.iconst 0, 1) := by decide +kernel
theorem dL_isStep_758 : decode cL_isStep 758 = .ok (.ireturn, 1) := by decide +kernel
theorem dL_isStep_759 : decode cL_isStep 759 = .ok (.iload 8, 2) := by decide +kernel
theorem dL_isStep_761 : decode cL_isStep 761 = .ok (.iload 5, 2) := by decide +kernel
theorem dL_isStep_763 : decode cL_isStep 763 = .ok (.if_icmp .ne 83, 3) := by decide +kernel
theorem dL_isStep_766 : decode cL_isStep 766 = .ok (.aload_n 1, 1) := by decide +kernel
theorem dL_isStep_767 : decode cL_isStep 767 = .ok (.invokevirtual 53, 3) := by decide +kernel
theorem dL_isStep_770 : decode cL_isStep 770 = .ok (.ifCond .lt 76, 3) := by decide +kernel
theorem dL_isStep_773 : decode cL_isStep 773 = .ok (.aload_n 1, 1) := by decide +kernel
theorem dL_isStep_774 : decode cL_isStep 774 = .ok (.iload 7, 2) := by decide +kernel
theorem dL_isStep_776 : decode cL_isStep 776 = .ok (.ifCond .eq 9, 3) := by decide +kernel
theorem dL_isStep_779 : decode cL_isStep 779 = .ok (.ldc2_w 56, 3) := by decide +kernel
theorem dL_isStep_782 : decode cL_isStep 782 = .ok (.goto 6, 3) := by decide +kernel
theorem dL_isStep_785 : decode cL_isStep 785 = .ok (.ldc2_w 58, 3) := by decide +kernel
theorem dL_isStep_788 : decode cL_isStep 788 = .ok (.invokevirtual 60, 3) := by decide +kernel
theorem dL_isStep_791 : decode cL_isStep 791 = .ok (.iconst 1, 1) := by decide +kernel
theorem dL_isStep_792 : decode cL_isStep 792 = .ok (.if_icmp .ne 54, 3) := by decide +kernel
theorem dL_isStep_795 : decode cL_isStep 795 = .ok (.aload_n 1, 1) := by decide +kernel
theorem dL_isStep_796 : decode cL_isStep 796 = .ok (.bipush 48, 2) := by decide +kernel
theorem dL_isStep_798 : decode cL_isStep 798 = .ok (.iload 6, 2) := by decide +kernel
theorem dL_isStep_800 : decode cL_isStep 800 = .ok (.iadd, 1) := by decide +kernel
theorem dL_isStep_801 : decode cL_isStep 801 = .ok (.i2l, 1) := by decide +kernel
theorem dL_isStep_802 : decode cL_isStep 802 = .ok (.invokevirtual 60, 3) := by decide +kernel
theorem dL_isStep_805 : decode cL_isStep 805 = .ok (.iconst 2, 1) := by decide +kernel
theorem dL_isStep_806 : decode cL_isStep 806 = .ok (.if_icmp .ne 40, 3) := by decide +kernel
theorem dL_isStep_809 : decode cL_isStep 809 = .ok (.aload_n 1, 1) := by decide +kernel
theorem dL_isStep_810 : decode cL_isStep 810 = .ok (.invokevirtual 64, 3) := by decide +kernel
theorem dL_isStep_813 : decode cL_isStep 813 = .ok (.iload 5, 2) := by decide +kernel
theorem dL_isStep_815 : decode cL_isStep 815 = .ok (.iconst 1, 1) := by decide +kernel
theorem dL_isStep_816 : decode cL_isStep 816 = .ok (.iadd, 1) := by decide +kernel
theorem dL_isStep_817 : decode cL_isStep 817 = .ok (.if_icmp .ne 29, 3) := by decide +kernel
theorem dL_isStep_820 : decode cL_isStep 820 = .ok (.aload_n 0, 1) := by decide +kernel
theorem dL_isStep_821 : decode cL_isStep 821 = .ok (.iload 5, 2) := by decide +kernel
theorem dL_isStep_823 : decode cL_isStep 823 = .ok (.iconst 2, 1) := by decide +kernel
theorem dL_isStep_824 : decode cL_isStep 824 = .ok (.invokevirtual 31, 3) := by decide +kernel
theorem dL_isStep_827 : decode cL_isStep 827 = .ok (.ifCond .ne 19, 3) := by decide +kernel
theorem dL_isStep_830 : decode cL_isStep 830 = .ok (.aload_n 0, 1) := by decide +kernel
theorem dL_isStep_831 : decode cL_isStep 831 = .ok (.iload 5, 2) := by decide +kernel
theorem dL_isStep_833 : decode cL_isStep 833 = .ok (.iconst 0, 1) := by decide +kernel
theorem dL_isStep_834 : decode cL_isStep 834 = .ok (.invokevirtual 31, 3) := by decide +kernel
theorem dL_isStep_837 : decode cL_isStep 837 = .ok (.iload 6, 2) := by decide +kernel
theorem dL_isStep_839 : decode cL_isStep 839 = .ok (.if_icmp .ne 7, 3) := by decide +kernel
theorem dL_isStep_842 : decode cL_isStep 842 = .ok (.iconst 1, 1) := by decide +kernel
theorem dL_isStep_843 : decode cL_isStep 843 = .ok (.goto 4, 3) := by decide +kernel
theorem dL_isStep_846 : decode cL_isStep 846 = .ok (.iconst 0, 1) := by decide +kernel
theorem dL_isStep_847 : decode cL_isStep 847 = .ok (.ireturn, 1) := by decide +kernel
theorem dL_areAlike_0 : decode cL_areAlike 0 = .ok (.iconst 1, 1) := by decide +kernel
theorem dL_areAlike_1 : decode cL_areAlike 1 = .ok (.iload_n 2, 1) := by decide +kernel
theorem dL_areAlike_2 : decode cL_areAlike 2 = .ok (.sipush 200, 3) := by decide +kernel
theorem dL_areAlike_5 : decode cL_areAlike 5 = .ok (.invokestatic 15, 3) := by decide +kernel
theorem dL_areAlike_8 : decode cL_areAlike 8 = .ok (.iadd, 1) := by decide +kernel
theorem dL_areAlike_9 : decode cL_areAlike 9 = .ok (.istore_n 3, 1) := by decide +kernel
theorem dL_areAlike_10 : decode cL_areAlike 10 = .ok (.aload_n 0, 1) := by decide +kernel
theorem dL_areAlike_11 : decode cL_areAlike 11 = .ok (.invokevirtual 37, 3) := by decide +kernel
theorem dL_areAlike_14 : decode cL_areAlike 14 = .ok (.aload_n 1, 1) := by decide +kernel
theorem dL_areAlike_15 : decode cL_areAlike 15 = .ok (.invokevirtual 37, 3) := by decide +kernel
theorem dL_areAlike_18 : decode cL_areAlike 18 = .ok (.if_icmp .ne 97, 3) := by decide +kernel
theorem dL_areAlike_21 : decode cL_areAlike 21 = .ok (.aload_n 0, 1) := by decide +kernel
theorem dL_areAlike_22 : decode cL_areAlike 22 = .ok (.invokevirtual 67, 3) := by decide +kernel
theorem dL_areAlike_25 : decode cL_areAlike 25 = .ok (.aload_n 1, 1) := by decide +kernel
theorem dL_areAlike_26 : decode cL_areAlike 26 = .ok (.invokevirtual 67, 3) := by decide +kernel
