theorem dL_kind_612 : decode cL_kind 612 = .ok (.goto 18, 3) := by decide +kernel
theorem dL_kind_615 : decode cL_kind 615 = .ok (.iload 4, 2) := by decide +kernel
theorem dL_kind_617 : decode cL_kind 617 = .ok (.ifCond .eq 13, 3) := by decide +kernel
theorem dL_kind_620 : decode cL_kind 620 = .ok (.aload_n 0, 1) := by decide +kernel
theorem dL_kind_621 : decode cL_kind 621 = .ok (.iload_n 1, 1) := by decide +kernel
theorem dL_kind_622 : decode cL_kind 622 = .ok (.bipush 16, 2) := by decide +kernel
theorem dL_kind_624 : decode cL_kind 624 = .ok (.invokestatic 132, 3) := by decide +kernel
theorem dL_kind_627 : decode cL_kind 627 = .ok (.ifCond .lt 7, 3) := by decide +kernel
theorem dL_kind_630 : decode cL_kind 630 = .ok (.iconst 1, 1) := by decide +kernel
theorem dL_kind_631 : decode cL_kind 631 = .ok (.goto 4, 3) := by decide +kernel
theorem dL_kind_634 : decode cL_kind 634 = .ok (.iconst 0, 1) := by decide +kernel
theorem dL_kind_635 : decode cL_kind 635 = .ok (.istore 11, 2) := by decide +kernel
theorem dL_kind_637 : decode cL_kind 637 = .ok (.iconst 0, 1) := by decide +kernel
theorem dL_kind_638 : decode cL_kind 638 = .ok (.istore 16, 2) := by decide +kernel
theorem dL_kind_640 : decode cL_kind 640 = .ok (.iload 16, 2) := by decide +kernel
theorem dL_kind_642 : decode cL_kind 642 = .ok (.iconst 4, 1) := by decide +kernel
theorem dL_kind_643 : decode cL_kind 643 = .ok (.if_icmp .ge 47, 3) := by decide +kernel
theorem dL_kind_646 : decode cL_kind 646 = .ok (.iload 11, 2) := by decide +kernel
theorem dL_kind_648 : decode cL_kind 648 = .ok (.ifCond .eq 42, 3) := by decide +kernel
theorem dL_kind_651 : decode cL_kind 651 = .ok (.aload_n 0, 1) := by decide +kernel
theorem dL_kind_652 : decode cL_kind 652 = .ok (.iload_n 1, 1) := by decide +kernel
theorem dL_kind_653 : decode cL_kind 653 = .ok (.iload 16, 2) := by decide +kernel
theorem dL_kind_655 : decode cL_kind 655 = .ok (.iconst 3, 1) := by decide +kernel
theorem dL_kind_656 : decode cL_kind 656 = .ok (.if_icmp .ne 7, 3) := by decide +kernel
theorem dL_kind_659 : decode cL_kind 659 = .ok (.iconst 5, 1) := by decide +kernel
theorem dL_kind_660 : decode cL_kind 660 = .ok (.goto 7, 3) := by decide +kernel
theorem dL_kind_663 : decode cL_kind 663 = .ok (.iconst 1, 1) := by decide +kernel
theorem dL_kind_664 : decode cL_kind 664 = .ok (.iload 16, 2) := by decide +kernel
theorem dL_kind_666 : decode cL_kind 666 = .ok (.iadd, 1) := by decide +kernel
theorem dL_kind_667 : decode cL_kind 667 = .ok (.invokestatic 122, 3) := by decide +kernel
theorem dL_kind_670 : decode cL_kind 670 = .ok (.aload_n 2, 1) := by decide +kernel
theorem dL_kind_671 : decode cL_kind 671 = .ok (.iload 16, 2) := by decide +kernel
theorem dL_kind_673 : decode cL_kind 673 = .ok (.iaload, 1) := by decide +kernel
theorem dL_kind_674 : decode cL_kind 674 = .ok (.if_icmp .ne 7, 3) := by decide +kernel
theorem dL_kind_677 : decode cL_kind 677 = .ok (.iconst 1, 1) := by decide +kernel
theorem dL_kind_678 : decode cL_kind 678 = .ok (.goto 4, 3) := by decide +kernel
theorem dL_kind_681 : decode cL_kind 681 = .ok (.iconst 0, 1) := by decide +kernel
theorem dL_kind_682 : decode cL_kind 682 = .ok (.istore 11, 2) := by decide +kernel
theorem dL_kind_684 : decode cL_kind 684 = .ok (.iinc 16 1, 3) := by decide +kernel
theorem dL_kind_687 : decode cL_kind 687 = .ok (.goto (-47), 3) := by decide +kernel
theorem dL_kind_690 : decode cL_kind 690 = .ok (.iload 11, 2) := by decide +kernel
theorem dL_kind_692 : decode cL_kind 692 = .ok (.ifCond .eq 114, 3) := by decide +kernel
theorem dL_kind_695 : decode cL_kind 695 = .ok (.iload_n 3, 1) := by decide +kernel
theorem dL_kind_696 : decode cL_kind 696 = .ok (.aload_n 0, 1) := by decide +kernel
theorem dL_kind_697 : decode cL_kind 697 = .ok (.iload_n 1, 1) := by decide +kernel
theorem dL_kind_698 : decode cL_kind 698 = .ok (.iconst 4, 1) := by decide +kernel
theorem dL_kind_699 : decode cL_kind 699 = .ok (.invokestatic 122, 3) := by decide +kernel
theorem dL_kind_702 : decode cL_kind 702 = .ok (.if_icmp .ne 104, 3) := by decide +kernel
theorem dL_kind_705 : decode cL_kind 705 = .ok (.aload_n 0, 1) := by decide +kernel
theorem dL_kind_706 : decode cL_kind 706 = .ok (.iload_n 1, 1) := by decide +kernel
theorem dL_kind_707 : decode cL_kind 707 = .ok (.invokestatic 134, 3) := by decide +kernel
theorem dL_kind_710 : decode cL_kind 710 = .ok (.iload 14, 2) := by decide +kernel
theorem dL_kind_712 : decode cL_kind 712 = .ok (.ifCond .lt 7, 3) := by decide +kernel
theorem dL_kind_715 : decode cL_kind 715 = .ok (.iconst 0, 1) := by decide +kernel
theorem dL_kind_716 : decode cL_kind 716 = .ok (.goto 5, 3) := by decide +kernel
theorem dL_kind_719 : decode cL_kind 719 = .ok (.iload 5, 2) := by decide +kernel
theorem dL_kind_721 : decode cL_kind 721 = .ok (.if_icmp .ne 85, 3) := by decide +kernel
theorem dL_kind_724 : decode cL_kind 724 = .ok (.aload_n 0, 1) := by decide +kernel
theorem dL_kind_725 : decode cL_kind 725 = .ok (.iload_n 1, 1) := by decide +kernel
theorem dL_kind_726 : decode cL_kind 726 = .ok (.invokestatic 136, 3) := by decide +kernel
theorem dL_kind_729 : decode cL_kind 729 = .ok (.iload 8, 2) := by decide +kernel
theorem dL_kind_731 : decode cL_kind 731 = .ok (.ifCond .lt 8, 3) := by decide +kernel
theorem dL_kind_734 : decode cL_kind 734 = .ok (.bipush 99, 2) := by decide +kernel
theorem dL_kind_736 : decode cL_kind 736 = .ok (.goto 17, 3) := by decide +kernel
theorem dL_kind_739 : decode cL_kind 739 = .ok (.iload 6, 2) := by decide +kernel
theorem dL_kind_741 : decode cL_kind 741 = .ok (.bipush 99, 2) := by decide +kernel
theorem dL_kind_743 : decode cL_kind 743 = .ok (.if_icmp .le 8, 3) := by decide +kernel
theorem dL_kind_746 : decode cL_kind 746 = .ok (.bipush 99, 2) := by decide +kernel
theorem dL_kind_748 : decode cL_kind 748 = .ok (.goto 5, 3) := by decide +kernel
theorem dL_kind_751 : decode cL_kind 751 = .ok (.iload 6, 2) := by decide +kernel
theorem dL_kind_753 : decode cL_kind 753 = .ok (.if_icmp .ne 53, 3) := by decide +kernel
theorem dL_kind_756 : decode cL_kind 756 = .ok (.aload_n 0, 1) := by decide +kernel
theorem dL_kind_757 : decode cL_kind 757 = .ok (.iload_n 1, 1) := by decide +kernel
theorem dL_kind_758 : decode cL_kind 758 = .ok (.bipush 9, 2) := by decide +kernel
theorem dL_kind_760 : decode cL_kind 760 = .ok (.invokestatic 122, 3) := by decide +kernel
theorem dL_kind_763 : decode cL_kind 763 = .ok (.aload_n 0, 1) := by decide +kernel
theorem dL_kind_764 : decode cL_kind 764 = .ok (.iload_n 1, 1) := by decide +kernel
theorem dL_kind_765 : decode cL_kind 765 = .ok (.bipush 8, 2) := by decide +kernel
theorem dL_kind_767 : decode cL_kind 767 = .ok (.invokestatic 122, 3) := by decide +kernel
theorem dL_kind_770 : decode cL_kind 770 = .ok (.if_icmp .gt 36, 3) := by decide +kernel
theorem dL_kind_773 : decode cL_kind 773 = .ok (.aload_n 0, 1) := by decide +kernel
theorem dL_kind_774 : decode cL_kind 774 = .ok (.iload_n 1, 1) := by decide +kernel
theorem dL_kind_775 : decode cL_kind 775 = .ok (.bipush 6, 2) := by decide +kernel
theorem dL_kind_777 : decode cL_kind 777 = .ok (.invokestatic 122, 3) := by decide +kernel
theorem dL_kind_780 : decode cL_kind 780 = .ok (.aload_n 0, 1) := by decide +kernel
theorem dL_kind_781 : decode cL_kind 781 = .ok (.iload_n 1, 1) := by decide +kernel
theorem dL_kind_782 : decode cL_kind 782 = .ok (.bipush 10, 2) := by decide +kernel
theorem dL_kind_784 : decode cL_kind 784 = .ok (.invokestatic 122, 3) := by decide +kernel
theorem dL_kind_787 : decode cL_kind 787 = .ok (.iadd, 1) := by decide +kernel
theorem dL_kind_788 : decode cL_kind 788 = .ok (.aload_n 0, 1) := by decide +kernel
theorem dL_kind_789 : decode cL_kind 789 = .ok (.iload_n 1, 1) := by decide +kernel
theorem dL_kind_790 : decode cL_kind 790 = .ok (.bipush 7, 2) := by decide +kernel
theorem dL_kind_792 : decode cL_kind 792 = .ok (.invokestatic 122, 3) := by decide +kernel
theorem dL_kind_795 : decode cL_kind 795 = .ok (.isub, 1) := by decide +kernel
theorem dL_kind_796 : decode cL_kind 796 = .ok (.aload_n 2, 1) := by decide +kernel
theorem dL_kind_797 : decode cL_kind 797 = .ok (.iconst 1, 1) := by decide +kernel
theorem dL_kind_798 : decode cL_kind 798 = .ok (.iaload, 1) := by decide +kernel
theorem dL_kind_799 : decode cL_kind 799 = .ok (.if_icmp .ne 7, 3) := by decide +kernel
theorem dL_kind_802 : decode cL_kind 802 = .ok (.iconst 1, 1) := by decide +kernel
theorem dL_kind_803 : decode cL_kind 803 = .ok (.goto 4, 3) := by decide +kernel
theorem dL_kind_806 : decode cL_kind 806 = .ok (.iconst 0, 1) := by decide +kernel
theorem dL_kind_807 : decode cL_kind 807 = .ok (.ireturn, 1) := by decide +kernel
theorem dL_hangs_0 : decode cL_hangs 0 = .ok (.iconst 0, 1) := by decide +kernel
theorem dL_hangs_1 : decode cL_hangs 1 = .ok (.istore_n 1, 1) := by decide +kernel
theorem dL_hangs_2 : decode cL_hangs 2 = .ok (.iconst 0, 1) := by decide +kernel
theorem dL_hangs_3 : decode cL_hangs 3 = .ok (.istore_n 2, 1) := by decide +kernel
theorem dL_hangs_4 : decode cL_hangs 4 = .ok (.iconst 0, 1) := by decide +kernel
theorem dL_hangs_5 : decode cL_hangs 5 = .ok (.istore_n 3, 1) := by decide +kernel
theorem dL_hangs_6 : decode cL_hangs 6 = .ok (.iconst 0, 1) := by decide +kernel
theorem dL_hangs_7 : decode cL_hangs 7 = .ok (.istore 4, 2) := by decide +kernel
theorem dL_hangs_9 : decode cL_hangs 9 = .ok (.aload_n 0, 1) := by decide +kernel
theorem dL_hangs_10 : decode cL_hangs 10 = .ok (.iconst 4, 1) := by decide +kernel
theorem dL_hangs_11 : decode cL_hangs 11 = .ok (.iconst 0, 1) := by decide +kernel
theorem dL_hangs_12 : decode cL_hangs 12 = .ok (.invokestatic 122, 3) := by decide +kernel
theorem dL_hangs_15 : decode cL_hangs 15 = .ok (.ldc 17, 2) := by decide +kernel
theorem dL_hangs_17 : decode cL_hangs 17 = .ok (.if_icmp .ne 7, 3) := by decide +kernel
theorem dL_hangs_20 : decode cL_hangs 20 = .ok (.iconst 1, 1) := by decide +kernel
theorem dL_hangs_21 : decode cL_hangs 21 = .ok (.goto 4, 3) := by decide +kernel
theorem dL_hangs_24 : decode cL_hangs 24 = .ok (.iconst 0, 1) := by decide +kernel
theorem dL_hangs_25 : decode cL_hangs 25 = .ok (.istore 5, 2) := by decide +kernel
theorem dL_hangs_27 : decode cL_hangs 27 = .ok (.iconst 0, 1) := by decide +kernel
theorem dL_hangs_28 : decode cL_hangs 28 = .ok (.istore 6, 2) := by decide +kernel
theorem dL_hangs_30 : decode cL_hangs 30 = .ok (.iload 6, 2) := by decide +kernel
theorem dL_hangs_32 : decode cL_hangs 32 = .ok (.iconst 4, 1) := by decide +kernel
theorem dL_hangs_33 : decode cL_hangs 33 = .ok (.if_icmp .ge 86, 3) := by decide +kernel
theorem dL_hangs_36 : decode cL_hangs 36 = .ok (.iload 5, 2) := by decide +kernel
theorem dL_hangs_38 : decode cL_hangs 38 = .ok (.ifCond .eq 81, 3) := by decide +kernel
theorem dL_hangs_41 : decode cL_hangs 41 = .ok (.iload_n 1, 1) := by decide +kernel
theorem dL_hangs_42 : decode cL_hangs 42 = .ok (.aload_n 0, 1) := by decide +kernel
theorem dL_hangs_43 : decode cL_hangs 43 = .ok (.iload 6, 2) := by decide +kernel
theorem dL_hangs_45 : decode cL_hangs 45 = .ok (.iconst 2, 1) := by decide +kernel
theorem dL_hangs_46 : decode cL_hangs 46 = .ok (.invokestatic 122, 3) := by decide +kernel
theorem dL_hangs_49 : decode cL_hangs 49 = .ok (.iadd, 1) := by decide +kernel
theorem dL_hangs_50 : decode cL_hangs 50 = .ok (.istore_n 1, 1) := by decide +kernel
theorem dL_hangs_51 : decode cL_hangs 51 = .ok (.iload_n 2, 1) := by decide +kernel
theorem dL_hangs_52 : decode cL_hangs 52 = .ok (.aload_n 0, 1) := by decide +kernel
theorem dL_hangs_53 : decode cL_hangs 53 = .ok (.iload 6, 2) := by decide +kernel
theorem dL_hangs_55 : decode cL_hangs 55 = .ok (.iconst 3, 1) := by decide +kernel
theorem dL_hangs_56 : decode cL_hangs 56 = .ok (.invokestatic 122, 3) := by decide +kernel
theorem dL_hangs_59 : decode cL_hangs 59 = .ok (.iadd, 1) := by decide +kernel
theorem dL_hangs_60 : decode cL_hangs 60 = .ok (.istore_n 2, 1) := by decide +kernel
theorem dL_hangs_61 : decode cL_hangs 61 = .ok (.iload_n 3, 1) := by decide +kernel
theorem dL_hangs_62 : decode cL_hangs 62 = .ok (.aload_n 0, 1) := by decide +kernel
theorem dL_hangs_63 : decode cL_hangs 63 = .ok (.iload 6, 2) := by decide +kernel
theorem dL_hangs_65 : decode cL_hangs 65 = .ok (.iconst 4, 1) := by decide +kernel
theorem dL_hangs_66 : decode cL_hangs 66 = .ok (.invokestatic 122, 3) := by decide +kernel
theorem dL_hangs_69 : decode cL_hangs 69 = .ok (.iadd, 1) := by decide +kernel
theorem dL_hangs_70 : decode cL_hangs 70 = .ok (.istore_n 3, 1) := by decide +kernel
theorem dL_hangs_71 : decode cL_hangs 71 = .ok (.aload_n 0, 1) := by decide +kernel
theorem dL_hangs_72 : decode cL_hangs 72 = .ok (.iload 6, 2) := by decide +kernel
theorem dL_hangs_74 : decode cL_hangs 74 = .ok (.iconst 1, 1) := by decide +kernel
theorem dL_hangs_75 : decode cL_hangs 75 = .ok (.invokestatic 122, 3) := by decide +kernel
theorem dL_hangs_78 : decode cL_hangs 78 = .ok (.aload_n 0, 1) := by decide +kernel
theorem dL_hangs_79 : decode cL_hangs 79 = .ok (.iload 6, 2) := by decide +kernel
theorem dL_hangs_81 : decode cL_hangs 81 = .ok (.iconst 4, 1) := by decide +kernel
theorem dL_hangs_82 : decode cL_hangs 82 = .ok (.invokestatic 122, 3) := by decide +kernel
theorem dL_hangs_85 : decode cL_hangs 85 = .ok (.iadd, 1) := by decide +kernel
theorem dL_hangs_86 : decode cL_hangs 86 = .ok (.aload_n 0, 1) := by decide +kernel
theorem dL_hangs_87 : decode cL_hangs 87 = .ok (.iload 4, 2) := by decide +kernel
theorem dL_hangs_89 : decode cL_hangs 89 = .ok (.iconst 1, 1) := by decide +kernel
theorem dL_hangs_90 : decode cL_hangs 90 = .ok (.invokestatic 122, 3) := by decide +kernel
theorem dL_hangs_93 : decode cL_hangs 93 = .ok (.aload_n 0, 1) := by decide +kernel
theorem dL_hangs_94 : decode cL_hangs 94 = .ok (.iload 4, 2) := by decide +kernel
theorem dL_hangs_96 : decode cL_hangs 96 = .ok (.iconst 4, 1) := by decide +kernel
theorem dL_hangs_97 : decode cL_hangs 97 = .ok (.invokestatic 122, 3) := by decide +kernel
theorem dL_hangs_100 : decode cL_hangs 100 = .ok (.iadd, 1) := by decide +kernel
theorem dL_hangs_101 : decode cL_hangs 101 = .ok (.if_icmp .ge 8, 3) := by decide +kernel
theorem dL_hangs_104 : decode cL_hangs 104 = .ok (.iload 6, 2) := by decide +kernel
theorem dL_hangs_106 : decode cL_hangs 106 = .ok (.goto 5, 3) := by decide +kernel
theorem dL_hangs_109 : decode cL_hangs 109 = .ok (.iload 4, 2) := by decide +kernel
theorem dL_hangs_111 : decode cL_hangs 111 = .ok (.istore 4, 2) := by decide +kernel
theorem dL_hangs_113 : decode cL_hangs 113 = .ok (.iinc 6 1, 3) := by decide +kernel
theorem dL_hangs_116 : decode cL_hangs 116 = .ok (.goto (-86), 3) := by decide +kernel
theorem dL_hangs_119 : decode cL_hangs 119 = .ok (.iload 5, 2) := by decide +kernel
theorem dL_hangs_121 : decode cL_hangs 121 = .ok (.ifCond .eq 124, 3) := by decide +kernel
theorem dL_hangs_124 : decode cL_hangs 124 = .ok (.iload_n 1, 1) := by decide +kernel
theorem dL_hangs_125 : decode cL_hangs 125 = .ok (.aload_n 0, 1) := by decide +kernel
theorem dL_hangs_126 : decode cL_hangs 126 = .ok (.iconst 1, 1) := by decide +kernel
theorem dL_hangs_127 : decode cL_hangs 127 = .ok (.invokestatic 138, 3) := by decide +kernel
theorem dL_hangs_130 : decode cL_hangs 130 = .ok (.if_icmp .ne 115, 3) := by decide +kernel
theorem dL_hangs_133 : decode cL_hangs 133 = .ok (.iload_n 1, 1) := by decide +kernel
theorem dL_hangs_134 : decode cL_hangs 134 = .ok (.aload_n 0, 1) := by decide +kernel
theorem dL_hangs_135 : decode cL_hangs 135 = .ok (.iconst 2, 1) := by decide +kernel
theorem dL_hangs_136 : decode cL_hangs 136 = .ok (.invokestatic 138, 3) := by decide +kernel
theorem dL_hangs_139 : decode cL_hangs 139 = .ok (.if_icmp .ne 106, 3) := by decide +kernel
theorem dL_hangs_142 : decode cL_hangs 142 = .ok (.iload_n 2, 1) := by decide +kernel
theorem dL_hangs_143 : decode cL_hangs 143 = .ok (.aload_n 0, 1) := by decide +kernel
theorem dL_hangs_144 : decode cL_hangs 144 = .ok (.iconst 3, 1) := by decide +kernel
theorem dL_hangs_145 : decode cL_hangs 145 = .ok (.invokestatic 138, 3) := by decide +kernel
theorem dL_hangs_148 : decode cL_hangs 148 = .ok (.if_icmp .ne 97, 3) := by decide +kernel
theorem dL_hangs_151 : decode cL_hangs 151 = .ok (.iload_n 3, 1) := by decide +kernel
theorem dL_hangs_152 : decode cL_hangs 152 = .ok (.aload_n 0, 1) := by decide +kernel
theorem dL_hangs_153 : decode cL_hangs 153 = .ok (.iconst 4, 1) := by decide +kernel
theorem dL_hangs_154 : decode cL_hangs 154 = .ok (.invokestatic 138, 3) := by decide +kernel
theorem dL_hangs_157 : decode cL_hangs 157 = .ok (.if_icmp .ne 88, 3) := by decide +kernel
theorem dL_hangs_160 : decode cL_hangs 160 = .ok (.iload 4, 2) := by decide +kernel
theorem dL_hangs_162 : decode cL_hangs 162 = .ok (.aload_n 0, 1) := by decide +kernel
theorem dL_hangs_163 : decode cL_hangs 163 = .ok (.invokevirtual 140, 3) := by decide +kernel
theorem dL_hangs_166 : decode cL_hangs 166 = .ok (.if_icmp .ne 79, 3) := by decide +kernel
theorem dL_hangs_169 : decode cL_hangs 169 = .ok (.aload_n 0, 1) := by decide +kernel
theorem dL_hangs_170 : decode cL_hangs 170 = .ok (.bipush 6, 2) := by decide +kernel
theorem dL_hangs_172 : decode cL_hangs 172 = .ok (.invokestatic 138, 3) := by decide +kernel
theorem dL_hangs_175 : decode cL_hangs 175 = .ok (.aload_n 0, 1) := by decide +kernel
theorem dL_hangs_176 : decode cL_hangs 176 = .ok (.bipush 7, 2) := by decide +kernel
theorem dL_hangs_178 : decode cL_hangs 178 = .ok (.invokestatic 138, 3) := by decide +kernel
theorem dL_hangs_181 : decode cL_hangs 181 = .ok (.iadd, 1) := by decide +kernel
theorem dL_hangs_182 : decode cL_hangs 182 = .ok (.aload_n 0, 1) := by decide +kernel
theorem dL_hangs_183 : decode cL_hangs 183 = .ok (.iconst 5, 1) := by decide +kernel
theorem dL_hangs_184 : decode cL_hangs 184 = .ok (.invokestatic 138, 3) := by decide +kernel
theorem dL_hangs_187 : decode cL_hangs 187 = .ok (.if_icmp .gt 58, 3) := by decide +kernel
theorem dL_hangs_190 : decode cL_hangs 190 = .ok (.iload_n 2, 1) := by decide +kernel
theorem dL_hangs_191 : decode cL_hangs 191 = .ok (.ifCond .ne 15, 3) := by decide +kernel
theorem dL_hangs_194 : decode cL_hangs 194 = .ok (.aload_n 0, 1) := by decide +kernel
theorem dL_hangs_195 : decode cL_hangs 195 = .ok (.invokevirtual 143, 3) := by decide +kernel
theorem dL_hangs_198 : decode cL_hangs 198 = .ok (.dconst 1, 1) := by decide +kernel
theorem dL_hangs_199 : decode cL_hangs 199 = .ok (.dcmp .l, 1) := by decide +kernel
theorem dL_hangs_200 : decode cL_hangs 200 = .ok (.ifCond .ne 45, 3) := by decide +kernel
theorem dL_hangs_203 : decode cL_hangs 203 = .ok (.goto 38, 3) := by decide +kernel
theorem dL_hangs_206 : decode cL_hangs 206 = .ok (.aload_n 0, 1) := by decide +kernel
theorem dL_hangs_207 : decode cL_hangs 207 = .ok (.invokevirtual 143, 3) := by decide +kernel
theorem dL_hangs_210 : decode cL_hangs 210 = .ok (.dconst 0, 1) := by decide +kernel
theorem dL_hangs_211 : decode cL_hangs 211 = .ok (.dcmp .l, 1) := by decide +kernel
theorem dL_hangs_212 : decode cL_hangs 212 = .ok (.ifCond .le 7, 3) := by decide +kernel
theorem dL_hangs_215 : decode cL_hangs 215 = .ok (.iconst 1, 1) := by decide +kernel
theorem dL_hangs_216 : decode cL_hangs 216 = .ok (.goto 4, 3) := by decide +kernel
theorem dL_hangs_219 : decode cL_hangs 219 = .ok (.iconst 0, 1) := by decide +kernel
theorem dL_hangs_220 : decode cL_hangs 220 = .ok (.iload_n 3, 1) := by decide +kernel
theorem dL_hangs_221 : decode cL_hangs 221 = .ok (.ifCond .le 7, 3) := by decide +kernel
theorem dL_hangs_224 : decode cL_hangs 224 = .ok (.iconst 1, 1) := by decide +kernel
theorem dL_hangs_225 : decode cL_hangs 225 = .ok (.goto 4, 3) := by decide +kernel
theorem dL_hangs_228 : decode cL_hangs 228 = .ok (.iconst 0, 1) := by decide +kernel
theorem dL_hangs_229 : decode cL_hangs 229 = .ok (.if_icmp .ne 16, 3) := by decide +kernel
theorem dL_hangs_232 : decode cL_hangs 232 = .ok (.aload_n 0, 1) := by decide +kernel
theorem dL_hangs_233 : decode cL_hangs 233 = .ok (.invokevirtual 143, 3) := by decide +kernel
theorem dL_hangs_236 : decode cL_hangs 236 = .ok (.dconst 1, 1) := by decide +kernel
theorem dL_hangs_237 : decode cL_hangs 237 = .ok (.dcmp .g, 1) := by decide +kernel
theorem dL_hangs_238 : decode cL_hangs 238 = .ok (.ifCond .gt 7, 3) := by decide +kernel
theorem dL_hangs_241 : decode cL_hangs 241 = .ok (.iconst 1, 1) := by decide +kernel
theorem dL_hangs_242 : decode cL_hangs 242 = .ok (.goto 4, 3) := by decide +kernel
theorem dL_hangs_245 : decode cL_hangs 245 = .ok (.iconst 0, 1) := by decide +kernel
theorem dL_hangs_246 : decode cL_hangs 246 = .ok (.ireturn, 1) := by decide +kernel
theorem dL_law_0 : decode cL_law 0 = .ok (.new 10, 3) := by decide +kernel
theorem dL_law_3 : decode cL_law 3 = .ok (.dup, 1) := by decide +kernel
theorem dL_law_4 : decode cL_law 4 = .ok (.invokespecial 147, 3) := by decide +kernel
theorem dL_law_7 : decode cL_law 7 = .ok (.astore_n 1, 1) := by decide +kernel
theorem dL_law_8 : decode cL_law 8 = .ok (.aload_n 1, 1) := by decide +kernel
theorem dL_law_9 : decode cL_law 9 = .ok (.invokestatic 148, 3) := by decide +kernel
theorem dL_law_12 : decode cL_law 12 = .ok (.ldc 17, 2) := by decide +kernel
theorem dL_law_14 : decode cL_law 14 = .ok (.if_icmp .ne 94, 3) := by decide +kernel
theorem dL_law_17 : decode cL_law 17 = .ok (.aload_n 1, 1) := by decide +kernel
theorem dL_law_18 : decode cL_law 18 = .ok (.iconst 0, 1) := by decide +kernel
theorem dL_law_19 : decode cL_law 19 = .ok (.invokestatic 105, 3) := by decide +kernel
theorem dL_law_22 : decode cL_law 22 = .ok (.ldc 27, 2) := by decide +kernel
theorem dL_law_24 : decode cL_law 24 = .ok (.if_icmp .ne 84, 3) := by decide +kernel
theorem dL_law_27 : decode cL_law 27 = .ok (.aload_n 1, 1) := by decide +kernel
theorem dL_law_28 : decode cL_law 28 = .ok (.invokestatic 151, 3) := by decide +kernel
theorem dL_law_31 : decode cL_law 31 = .ok (.ldc 17, 2) := by decide +kernel
theorem dL_law_33 : decode cL_law 33 = .ok (.if_icmp .ne 75, 3) := by decide +kernel
theorem dL_law_36 : decode cL_law 36 = .ok (.aload_n 1, 1) := by decide +kernel
theorem dL_law_37 : decode cL_law 37 = .ok (.iconst 0, 1) := by decide +kernel
theorem dL_law_38 : decode cL_law 38 = .ok (.invokestatic 130, 3) := by decide +kernel
theorem dL_law_41 : decode cL_law 41 = .ok (.ifCond .ne 67, 3) := by decide +kernel
theorem dL_law_44 : decode cL_law 44 = .ok (.aload_n 1, 1) := by decide +kernel
theorem dL_law_45 : decode cL_law 45 = .ok (.iconst 3, 1) := by decide +kernel
theorem dL_law_46 : decode cL_law 46 = .ok (.invokestatic 134, 3) := by decide +kernel
theorem dL_law_49 : decode cL_law 49 = .ok (.ifCond .ne 59, 3) := by decide +kernel
theorem dL_law_52 : decode cL_law 52 = .ok (.aload_n 1, 1) := by decide +kernel
theorem dL_law_53 : decode cL_law 53 = .ok (.iconst 2, 1) := by decide +kernel
theorem dL_law_54 : decode cL_law 54 = .ok (.invokestatic 136, 3) := by decide +kernel
theorem dL_law_57 : decode cL_law 57 = .ok (.bipush 99, 2) := by decide +kernel
theorem dL_law_59 : decode cL_law 59 = .ok (.if_icmp .ne 49, 3) := by decide +kernel
theorem dL_law_62 : decode cL_law 62 = .ok (.aload_n 1, 1) := by decide +kernel
theorem dL_law_63 : decode cL_law 63 = .ok (.iconst 0, 1) := by decide +kernel
theorem dL_law_64 : decode cL_law 64 = .ok (.iconst 0, 1) := by decide +kernel
theorem dL_law_65 : decode cL_law 65 = .ok (.invokestatic 118, 3) := by decide +kernel
theorem dL_law_68 : decode cL_law 68 = .ok (.ldc 27, 2) := by decide +kernel
theorem dL_law_70 : decode cL_law 70 = .ok (.if_icmp .ne 38, 3) := by decide +kernel
theorem dL_law_73 : decode cL_law 73 = .ok (.aload_n 1, 1) := by decide +kernel
theorem dL_law_74 : decode cL_law 74 = .ok (.invokevirtual 143, 3) := by decide +kernel
theorem dL_law_77 : decode cL_law 77 = .ok (.dconst 1, 1) := by decide +kernel
theorem dL_law_78 : decode cL_law 78 = .ok (.dcmp .l, 1) := by decide +kernel
theorem dL_law_79 : decode cL_law 79 = .ok (.ifCond .ne 29, 3) := by decide +kernel
theorem dL_law_82 : decode cL_law 82 = .ok (.aload_n 1, 1) := by decide +kernel
theorem dL_law_83 : decode cL_law 83 = .ok (.invokevirtual 140, 3) := by decide +kernel
theorem dL_law_86 : decode cL_law 86 = .ok (.ifCond .ne 22, 3) := by decide +kernel
theorem dL_law_89 : decode cL_law 89 = .ok (.aload_n 1, 1) := by decide +kernel
theorem dL_law_90 : decode cL_law 90 = .ok (.iconst 0, 1) := by decide +kernel
theorem dL_law_91 : decode cL_law 91 = .ok (.invokestatic 153, 3) := by decide +kernel
theorem dL_law_94 : decode cL_law 94 = .ok (.ifCond .eq 14, 3) := by decide +kernel
theorem dL_law_97 : decode cL_law 97 = .ok (.aload_n 1, 1) := by decide +kernel
theorem dL_law_98 : decode cL_law 98 = .ok (.invokestatic 157, 3) := by decide +kernel
theorem dL_law_101 : decode cL_law 101 = .ok (.ifCond .eq 7, 3) := by decide +kernel
theorem dL_law_104 : decode cL_law 104 = .ok (.iconst 1, 1) := by decide +kernel
theorem dL_law_105 : decode cL_law 105 = .ok (.goto 4, 3) := by decide +kernel
theorem dL_law_108 : decode cL_law 108 = .ok (.iconst 0, 1) := by decide +kernel
theorem dL_law_109 : decode cL_law 109 = .ok (.istore_n 2, 1) := by decide +kernel
theorem dL_law_110 : decode cL_law 110 = .ok (.iconst 0, 1) := by decide +kernel
theorem dL_law_111 : decode cL_law 111 = .ok (.istore_n 3, 1) := by decide +kernel
theorem dL_law_112 : decode cL_law 112 = .ok (.iload_n 3, 1) := by decide +kernel
theorem dL_law_113 : decode cL_law 113 = .ok (.bipush 44, 2) := by decide +kernel
theorem dL_law_115 : decode cL_law 115 = .ok (.if_icmp .ge 805, 3) := by decide +kernel
theorem dL_law_118 : decode cL_law 118 = .ok (.iload_n 2, 1) := by decide +kernel
theorem dL_law_119 : decode cL_law 119 = .ok (.ifCond .eq 801, 3) := by decide +kernel
theorem dL_law_122 : decode cL_law 122 = .ok (.aload_n 0, 1) := by decide +kernel
theorem dL_law_123 : decode cL_law 123 = .ok (.iload_n 3, 1) := by decide +kernel
theorem dL_law_124 : decode cL_law 124 = .ok (.invokestatic 161, 3) := by decide +kernel
theorem dL_law_127 : decode cL_law 127 = .ok (.istore 4, 2) := by decide +kernel
theorem dL_law_129 : decode cL_law 129 = .ok (.iload 4, 2) := by decide +kernel
theorem dL_law_131 : decode cL_law 131 = .ok (.bipush 16, 2) := by decide +kernel
theorem dL_law_133 : decode cL_law 133 = .ok (.idiv, 1) := by decide +kernel
theorem dL_law_134 : decode cL_law 134 = .ok (.istore 5, 2) := by decide +kernel
theorem dL_law_136 : decode cL_law 136 = .ok (.iload 4, 2) := by decide +kernel
theorem dL_law_138 : decode cL_law 138 = .ok (.bipush 16, 2) := by decide +kernel
theorem dL_law_140 : decode cL_law 140 = .ok (.irem, 1) := by decide +kernel
theorem dL_law_141 : decode cL_law 141 = .ok (.istore 6, 2) := by decide +kernel
theorem dL_law_143 : decode cL_law 143 = .ok (.aload_n 1, 1) := by decide +kernel
theorem dL_law_144 : decode cL_law 144 = .ok (.bipush 9, 2) := by decide +kernel
theorem dL_law_146 : decode cL_law 146 = .ok (.invokestatic 138, 3) := by decide +kernel
theorem dL_law_149 : decode cL_law 149 = .ok (.istore 7, 2) := by decide +kernel
theorem dL_law_151 : decode cL_law 151 = .ok (.iload 5, 2) := by decide +kernel
theorem dL_law_153 : decode cL_law 153 = .ok (.iconst 2, 1) := by decide +kernel
theorem dL_law_154 : decode cL_law 154 = .ok (.irem, 1) := by decide +kernel
theorem dL_law_155 : decode cL_law 155 = .ok (.istore 8, 2) := by decide +kernel
theorem dL_law_157 : decode cL_law 157 = .ok (.iload 5, 2) := by decide +kernel
theorem dL_law_159 : decode cL_law 159 = .ok (.iconst 4, 1) := by decide +kernel
theorem dL_law_160 : decode cL_law 160 = .ok (.idiv, 1) := by decide +kernel
theorem dL_law_161 : decode cL_law 161 = .ok (.bipush 8, 2) := by decide +kernel
theorem dL_law_163 : decode cL_law 163 = .ok (.irem, 1) := by decide +kernel
theorem dL_law_164 : decode cL_law 164 = .ok (.istore 9, 2) := by decide +kernel
theorem dL_law_166 : decode cL_law 166 = .ok (.aload_n 1, 1) := by decide +kernel
theorem dL_law_167 : decode cL_law 167 = .ok (.iconst 0, 1) := by decide +kernel
theorem dL_law_168 : decode cL_law 168 = .ok (.invokestatic 138, 3) := by decide +kernel
theorem dL_law_171 : decode cL_law 171 = .ok (.istore 10, 2) := by decide +kernel
theorem dL_law_173 : decode cL_law 173 = .ok (.aload_n 1, 1) := by decide +kernel
theorem dL_law_174 : decode cL_law 174 = .ok (.iload 8, 2) := by decide +kernel
theorem dL_law_176 : decode cL_law 176 = .ok (.invokestatic 130, 3) := by decide +kernel
theorem dL_law_179 : decode cL_law 179 = .ok (.istore 11, 2) := by decide +kernel
theorem dL_law_181 : decode cL_law 181 = .ok (.aload_n 1, 1) := by decide +kernel
theorem dL_law_182 : decode cL_law 182 = .ok (.iload 8, 2) := by decide +kernel
theorem dL_law_184 : decode cL_law 184 = .ok (.iconst 2, 1) := by decide +kernel
theorem dL_law_185 : decode cL_law 185 = .ok (.invokestatic 132, 3) := by decide +kernel
theorem dL_law_188 : decode cL_law 188 = .ok (.istore 12, 2) := by decide +kernel
theorem dL_law_190 : decode cL_law 190 = .ok (.aload_n 1, 1) := by decide +kernel
theorem dL_law_191 : decode cL_law 191 = .ok (.iload 8, 2) := by decide +kernel
theorem dL_law_193 : decode cL_law 193 = .ok (.bipush 6, 2) := by decide +kernel
theorem dL_law_195 : decode cL_law 195 = .ok (.invokestatic 122, 3) := by decide +kernel
theorem dL_law_198 : decode cL_law 198 = .ok (.istore 13, 2) := by decide +kernel
theorem dL_law_200 : decode cL_law 200 = .ok (.aload_n 1, 1) := by decide +kernel
theorem dL_law_201 : decode cL_law 201 = .ok (.iload 8, 2) := by decide +kernel
theorem dL_law_203 : decode cL_law 203 = .ok (.bipush 8, 2) := by decide +kernel
theorem dL_law_205 : decode cL_law 205 = .ok (.invokestatic 122, 3) := by decide +kernel
theorem dL_law_208 : decode cL_law 208 = .ok (.istore 14, 2) := by decide +kernel
theorem dL_law_210 : decode cL_law 210 = .ok (.aload_n 1, 1) := by decide +kernel
theorem dL_law_211 : decode cL_law 211 = .ok (.iload 8, 2) := by decide +kernel
theorem dL_law_213 : decode cL_law 213 = .ok (.iload 9, 2) := by decide +kernel
theorem dL_law_215 : decode cL_law 215 = .ok (.iconst 0, 1) := by decide +kernel
theorem dL_law_216 : decode cL_law 216 = .ok (.invokestatic 124, 3) := by decide +kernel
theorem dL_law_219 : decode cL_law 219 = .ok (.istore 15, 2) := by decide +kernel
theorem dL_law_221 : decode cL_law 221 = .ok (.aload_n 1, 1) := by decide +kernel
theorem dL_law_222 : decode cL_law 222 = .ok (.iload 8, 2) := by decide +kernel
theorem dL_law_224 : decode cL_law 224 = .ok (.iload 9, 2) := by decide +kernel
theorem dL_law_226 : decode cL_law 226 = .ok (.iconst 1, 1) := by decide +kernel
theorem dL_law_227 : decode cL_law 227 = .ok (.invokestatic 124, 3) := by decide +kernel
theorem dL_law_230 : decode cL_law 230 = .ok (.istore 16, 2) := by decide +kernel
theorem dL_law_232 : decode cL_law 232 = .ok (.aload_n 1, 1) := by decide +kernel
theorem dL_law_233 : decode cL_law 233 = .ok (.iload 8, 2) := by decide +kernel
theorem dL_law_235 : decode cL_law 235 = .ok (.iload 9, 2) := by decide +kernel
theorem dL_law_237 : decode cL_law 237 = .ok (.iconst 3, 1) := by decide +kernel
theorem dL_law_238 : decode cL_law 238 = .ok (.invokestatic 124, 3) := by decide +kernel
theorem dL_law_241 : decode cL_law 241 = .ok (.istore 17, 2) := by decide +kernel
theorem dL_law_243 : decode cL_law 243 = .ok (.aload_n 1, 1) := by decide +kernel
theorem dL_law_244 : decode cL_law 244 = .ok (.iload 8, 2) := by decide +kernel
theorem dL_law_246 : decode cL_law 246 = .ok (.iload 9, 2) := by decide +kernel
theorem dL_law_248 : decode cL_law 248 = .ok (.iconst 1, 1) := by decide +kernel
theorem dL_law_249 : decode cL_law 249 = .ok (.iload 5, 2) := by decide +kernel
theorem dL_law_251 : decode cL_law 251 = .ok (.bipush 32, 2) := by decide +kernel
theorem dL_law_253 : decode cL_law 253 = .ok (.idiv, 1) := by decide +kernel
theorem dL_law_254 : decode cL_law 254 = .ok (.iconst 4, 1) := by decide +kernel
theorem dL_law_255 : decode cL_law 255 = .ok (.irem, 1) := by decide +kernel
theorem dL_law_256 : decode cL_law 256 = .ok (.iadd, 1) := by decide +kernel
theorem dL_law_257 : decode cL_law 257 = .ok (.invokestatic 165, 3) := by decide +kernel
theorem dL_law_260 : decode cL_law 260 = .ok (.istore 18, 2) := by decide +kernel
theorem dL_law_262 : decode cL_law 262 = .ok (.aload_n 1, 1) := by decide +kernel
theorem dL_law_263 : decode cL_law 263 = .ok (.iconst 1, 1) := by decide +kernel
theorem dL_law_264 : decode cL_law 264 = .ok (.invokestatic 128, 3) := by decide +kernel
theorem dL_law_267 : decode cL_law 267 = .ok (.istore 19, 2) := by decide +kernel
theorem dL_law_269 : decode cL_law 269 = .ok (.aload_n 1, 1) := by decide +kernel
theorem dL_law_270 : decode cL_law 270 = .ok (.iconst 2, 1) := by decide +kernel
theorem dL_law_271 : decode cL_law 271 = .ok (.invokestatic 128, 3) := by decide +kernel
theorem dL_law_274 : decode cL_law 274 = .ok (.istore 20, 2) := by decide +kernel
theorem dL_law_276 : decode cL_law 276 = .ok (.aload_n 1, 1) := by decide +kernel
theorem dL_law_277 : decode cL_law 277 = .ok (.iload 4, 2) := by decide +kernel
theorem dL_law_279 : decode cL_law 279 = .ok (.invokestatic 167, 3) := by decide +kernel
theorem dL_law_282 : decode cL_law 282 = .ok (.istore 21, 2) := by decide +kernel
theorem dL_law_284 : decode cL_law 284 = .ok (.iload 21, 2) := by decide +kernel
theorem dL_law_286 : decode cL_law 286 = .ok (.ldc 170, 2) := by decide +kernel
theorem dL_law_288 : decode cL_law 288 = .ok (.if_icmp .le 7, 3) := by decide +kernel
theorem dL_law_291 : decode cL_law 291 = .ok (.iconst 1, 1) := by decide +kernel
theorem dL_law_292 : decode cL_law 292 = .ok (.goto 4, 3) := by decide +kernel
theorem dL_law_295 : decode cL_law 295 = .ok (.iconst 0, 1) := by decide +kernel
theorem dL_law_296 : decode cL_law 296 = .ok (.istore 22, 2) := by decide +kernel
theorem dL_law_298 : decode cL_law 298 = .ok (.aload_n 1, 1) := by decide +kernel
theorem dL_law_299 : decode cL_law 299 = .ok (.bipush 9, 2) := by decide +kernel
theorem dL_law_301 : decode cL_law 301 = .ok (.invokestatic 138, 3) := by decide +kernel
theorem dL_law_304 : decode cL_law 304 = .ok (.iload 22, 2) := by decide +kernel
theorem dL_law_306 : decode cL_law 306 = .ok (.ifCond .eq 24, 3) := by decide +kernel
theorem dL_law_309 : decode cL_law 309 = .ok (.iload 6, 2) := by decide +kernel
theorem dL_law_311 : decode cL_law 311 = .ok (.iconst 2, 1) := by decide +kernel
theorem dL_law_312 : decode cL_law 312 = .ok (.if_icmp .ne 11, 3) := by decide +kernel
theorem dL_law_315 : decode cL_law 315 = .ok (.iload 5, 2) := by decide +kernel
theorem dL_law_317 : decode cL_law 317 = .ok (.iconst 3, 1) := by decide +kernel
theorem dL_law_318 : decode cL_law 318 = .ok (.irem, 1) := by decide +kernel
theorem dL_law_319 : decode cL_law 319 = .ok (.iconst 2, 1) := by decide +kernel
theorem dL_law_320 : decode cL_law 320 = .ok (.if_icmp .eq 10, 3) := by decide +kernel
theorem dL_law_323 : decode cL_law 323 = .ok (.iload 7, 2) := by decide +kernel
theorem dL_law_325 : decode cL_law 325 = .ok (.bipush 6, 2) := by decide +kernel
theorem dL_law_327 : decode cL_law 327 = .ok (.if_icmp .ne 8, 3) := by decide +kernel
theorem dL_law_330 : decode cL_law 330 = .ok (.iload 7, 2) := by decide +kernel
theorem dL_law_332 : decode cL_law 332 = .ok (.goto 7, 3) := by decide +kernel
theorem dL_law_335 : decode cL_law 335 = .ok (.iload 7, 2) := by decide +kernel
theorem dL_law_337 : decode cL_law 337 = .ok (.iconst 1, 1) := by decide +kernel
theorem dL_law_338 : decode cL_law 338 = .ok (.iadd, 1) := by decide +kernel
theorem dL_law_339 : decode cL_law 339 = .ok (.if_icmp .ne 7, 3) := by decide +kernel
theorem dL_law_342 : decode cL_law 342 = .ok (.iconst 1, 1) := by decide +kernel
theorem dL_law_343 : decode cL_law 343 = .ok (.goto 4, 3) := by decide +kernel
theorem dL_law_346 : decode cL_law 346 = .ok (.iconst 0, 1) := by decide +kernel
theorem dL_law_347 : decode cL_law 347 = .ok (.istore_n 2, 1) := by decide +kernel
theorem dL_law_348 : decode cL_law 348 = .ok (.iload_n 2, 1) := by decide +kernel
theorem dL_law_349 : decode cL_law 349 = .ok (.ifCond .eq 115, 3) := by decide +kernel
theorem dL_law_352 : decode cL_law 352 = .ok (.iload 6, 2) := by decide +kernel
theorem dL_law_354 : decode cL_law 354 = .ok (.bipush 11, 2) := by decide +kernel
theorem dL_law_356 : decode cL_law 356 = .ok (.if_icmp .le 108, 3) := by decide +kernel
theorem dL_law_359 : decode cL_law 359 = .ok (.iload 21, 2) := by decide +kernel
theorem dL_law_361 : decode cL_law 361 = .ok (.iload 11, 2) := by decide +kernel
theorem dL_law_363 : decode cL_law 363 = .ok (.if_icmp .ne 96, 3) := by decide +kernel
theorem dL_law_366 : decode cL_law 366 = .ok (.iload 11, 2) := by decide +kernel
theorem dL_law_368 : decode cL_law 368 = .ok (.bipush 100, 2) := by decide +kernel
theorem dL_law_370 : decode cL_law 370 = .ok (.if_icmp .ge 70, 3) := by decide +kernel
theorem dL_law_373 : decode cL_law 373 = .ok (.aload_n 1, 1) := by decide +kernel
theorem dL_law_374 : decode cL_law 374 = .ok (.iload 8, 2) := by decide +kernel
theorem dL_law_376 : decode cL_law 376 = .ok (.bipush 6, 2) := by decide +kernel
theorem dL_law_378 : decode cL_law 378 = .ok (.invokestatic 122, 3) := by decide +kernel
theorem dL_law_381 : decode cL_law 381 = .ok (.iload 13, 2) := by decide +kernel
theorem dL_law_383 : decode cL_law 383 = .ok (.iconst 1, 1) := by decide +kernel
theorem dL_law_384 : decode cL_law 384 = .ok (.iadd, 1) := by decide +kernel
theorem dL_law_385 : decode cL_law 385 = .ok (.if_icmp .ne 74, 3) := by decide +kernel
theorem dL_law_388 : decode cL_law 388 = .ok (.aload_n 1, 1) := by decide +kernel
theorem dL_law_389 : decode cL_law 389 = .ok (.iload 8, 2) := by decide +kernel
theorem dL_law_391 : decode cL_law 391 = .ok (.iload 11, 2) := by decide +kernel
theorem dL_law_393 : decode cL_law 393 = .ok (.iconst 0, 1) := by decide +kernel
theorem dL_law_394 : decode cL_law 394 = .ok (.invokestatic 124, 3) := by decide +kernel
theorem dL_law_397 : decode cL_law 397 = .ok (.iconst 1, 1) := by decide +kernel
theorem dL_law_398 : decode cL_law 398 = .ok (.if_icmp .ne 61, 3) := by decide +kernel
theorem dL_law_401 : decode cL_law 401 = .ok (.aload_n 1, 1) := by decide +kernel
theorem dL_law_402 : decode cL_law 402 = .ok (.iload 8, 2) := by decide +kernel
theorem dL_law_404 : decode cL_law 404 = .ok (.invokestatic 130, 3) := by decide +kernel
theorem dL_law_407 : decode cL_law 407 = .ok (.iload 12, 2) := by decide +kernel
theorem dL_law_409 : decode cL_law 409 = .ok (.ifCond .lt 8, 3) := by decide +kernel
theorem dL_law_412 : decode cL_law 412 = .ok (.iload 12, 2) := by decide +kernel
theorem dL_law_414 : decode cL_law 414 = .ok (.goto 20, 3) := by decide +kernel
theorem dL_law_417 : decode cL_law 417 = .ok (.aload_n 1, 1) := by decide +kernel
theorem dL_law_418 : decode cL_law 418 = .ok (.iload 8, 2) := by decide +kernel
theorem dL_law_420 : decode cL_law 420 = .ok (.iconst 3, 1) := by decide +kernel
theorem dL_law_421 : decode cL_law 421 = .ok (.invokestatic 122, 3) := by decide +kernel
theorem dL_law_424 : decode cL_law 424 = .ok (.ifCond .ne 8, 3) := by decide +kernel
theorem dL_law_427 : decode cL_law 427 = .ok (.bipush 101, 2) := by decide +kernel
theorem dL_law_429 : decode cL_law 429 = .ok (.goto 5, 3) := by decide +kernel
theorem dL_law_432 : decode cL_law 432 = .ok (.bipush 102, 2) := by decide +kernel
theorem dL_law_434 : decode cL_law 434 = .ok (.if_icmp .ne 25, 3) := by decide +kernel
theorem dL_law_437 : decode cL_law 437 = .ok (.goto 18, 3) := by decide +kernel
theorem dL_law_440 : decode cL_law 440 = .ok (.aload_n 1, 1) := by decide +kernel
theorem dL_law_441 : decode cL_law 441 = .ok (.iload 8, 2) := by decide +kernel
theorem dL_law_443 : decode cL_law 443 = .ok (.bipush 8, 2) := by decide +kernel
theorem dL_law_445 : decode cL_law 445 = .ok (.invokestatic 122, 3) := by decide +kernel
theorem dL_law_448 : decode cL_law 448 = .ok (.iload 14, 2) := by decide +kernel
theorem dL_law_450 : decode cL_law 450 = .ok (.iconst 1, 1) := by decide +kernel
theorem dL_law_451 : decode cL_law 451 = .ok (.iadd, 1) := by decide +kernel
theorem dL_law_452 : decode cL_law 452 = .ok (.if_icmp .ne 7, 3) := by decide +kernel
theorem dL_law_455 : decode cL_law 455 = .ok (.iconst 1, 1) := by decide +kernel
theorem dL_law_456 : decode cL_law 456 = .ok (.goto 4, 3) := by decide +kernel
theorem dL_law_459 : decode cL_law 459 = .ok (.iconst 0, 1) := by decide +kernel
theorem dL_law_460 : decode cL_law 460 = .ok (.istore_n 2, 1) := by decide +kernel
theorem dL_law_461 : decode cL_law 461 = .ok (.goto 421, 3) := by decide +kernel
theorem dL_law_464 : decode cL_law 464 = .ok (.iload_n 2, 1) := by decide +kernel
theorem dL_law_465 : decode cL_law 465 = .ok (.ifCond .eq 110, 3) := by decide +kernel
theorem dL_law_468 : decode cL_law 468 = .ok (.iload 6, 2) := by decide +kernel
theorem dL_law_470 : decode cL_law 470 = .ok (.bipush 7, 2) := by decide +kernel
theorem dL_law_472 : decode cL_law 472 = .ok (.if_icmp .le 103, 3) := by decide +kernel
theorem dL_law_475 : decode cL_law 475 = .ok (.iload 15, 2) := by decide +kernel
theorem dL_law_477 : decode cL_law 477 = .ok (.iconst 1, 1) := by decide +kernel
theorem dL_law_478 : decode cL_law 478 = .ok (.if_icmp .eq 18, 3) := by decide +kernel
theorem dL_law_481 : decode cL_law 481 = .ok (.iload 21, 2) := by decide +kernel
theorem dL_law_483 : decode cL_law 483 = .ok (.ldc 27, 2) := by decide +kernel
theorem dL_law_485 : decode cL_law 485 = .ok (.if_icmp .ne 7, 3) := by decide +kernel
theorem dL_law_488 : decode cL_law 488 = .ok (.iconst 1, 1) := by decide +kernel
theorem dL_law_489 : decode cL_law 489 = .ok (.goto 82, 3) := by decide +kernel
theorem dL_law_492 : decode cL_law 492 = .ok (.iconst 0, 1) := by decide +kernel
theorem dL_law_493 : decode cL_law 493 = .ok (.goto 78, 3) := by decide +kernel
theorem dL_law_496 : decode cL_law 496 = .ok (.iload 21, 2) := by decide +kernel
theorem dL_law_498 : decode cL_law 498 = .ok (.iload 16, 2) := by decide +kernel
theorem dL_law_500 : decode cL_law 500 = .ok (.iload 19, 2) := by decide +kernel
theorem dL_law_502 : decode cL_law 502 = .ok (.if_icmp .lt 7, 3) := by decide +kernel
theorem dL_law_505 : decode cL_law 505 = .ok (.iconst 1, 1) := by decide +kernel
theorem dL_law_506 : decode cL_law 506 = .ok (.goto 4, 3) := by decide +kernel
theorem dL_law_509 : decode cL_law 509 = .ok (.iconst 0, 1) := by decide +kernel
theorem dL_law_510 : decode cL_law 510 = .ok (.if_icmp .ne 60, 3) := by decide +kernel
theorem dL_law_513 : decode cL_law 513 = .ok (.aload_n 1, 1) := by decide +kernel
theorem dL_law_514 : decode cL_law 514 = .ok (.iload 8, 2) := by decide +kernel
theorem dL_law_516 : decode cL_law 516 = .ok (.iload 9, 2) := by decide +kernel
theorem dL_law_518 : decode cL_law 518 = .ok (.iconst 0, 1) := by decide +kernel
theorem dL_law_519 : decode cL_law 519 = .ok (.invokestatic 124, 3) := by decide +kernel
theorem dL_law_522 : decode cL_law 522 = .ok (.iload 21, 2) := by decide +kernel
theorem dL_law_524 : decode cL_law 524 = .ok (.iconst 1, 1) := by decide +kernel
theorem dL_law_525 : decode cL_law 525 = .ok (.if_icmp .ne 7, 3) := by decide +kernel
theorem dL_law_528 : decode cL_law 528 = .ok (.iconst 3, 1) := by decide +kernel
theorem dL_law_529 : decode cL_law 529 = .ok (.goto 4, 3) := by decide +kernel
theorem dL_law_532 : decode cL_law 532 = .ok (.iconst 2, 1) := by decide +kernel
theorem dL_law_533 : decode cL_law 533 = .ok (.if_icmp .ne 37, 3) := by decide +kernel
theorem dL_law_536 : decode cL_law 536 = .ok (.iload 21, 2) := by decide +kernel
theorem dL_law_538 : decode cL_law 538 = .ok (.iconst 1, 1) := by decide +kernel
theorem dL_law_539 : decode cL_law 539 = .ok (.if_icmp .eq 27, 3) := by decide +kernel
theorem dL_law_542 : decode cL_law 542 = .ok (.aload_n 1, 1) := by decide +kernel
theorem dL_law_543 : decode cL_law 543 = .ok (.iload 8, 2) := by decide +kernel
theorem dL_law_545 : decode cL_law 545 = .ok (.iconst 0, 1) := by decide +kernel
theorem dL_law_546 : decode cL_law 546 = .ok (.invokestatic 126, 3) := by decide +kernel
theorem dL_law_549 : decode cL_law 549 = .ok (.iload 9, 2) := by decide +kernel
theorem dL_law_551 : decode cL_law 551 = .ok (.if_icmp .ne 19, 3) := by decide +kernel
theorem dL_law_554 : decode cL_law 554 = .ok (.aload_n 1, 1) := by decide +kernel
theorem dL_law_555 : decode cL_law 555 = .ok (.iload 8, 2) := by decide +kernel
theorem dL_law_557 : decode cL_law 557 = .ok (.iload 9, 2) := by decide +kernel
theorem dL_law_559 : decode cL_law 559 = .ok (.iconst 3, 1) := by decide +kernel
theorem dL_law_560 : decode cL_law 560 = .ok (.invokestatic 124, 3) := by decide +kernel
theorem dL_law_563 : decode cL_law 563 = .ok (.ifCond .ne 7, 3) := by decide +kernel
theorem dL_law_566 : decode cL_law 566 = .ok (.iconst 1, 1) := by decide +kernel
theorem dL_law_567 : decode cL_law 567 = .ok (.goto 4, 3) := by decide +kernel
theorem dL_law_570 : decode cL_law 570 = .ok (.iconst 0, 1) := by decide +kernel
theorem dL_law_571 : decode cL_law 571 = .ok (.istore_n 2, 1) := by decide +kernel
theorem dL_law_572 : decode cL_law 572 = .ok (.goto 310, 3) := by decide +kernel
theorem dL_law_575 : decode cL_law 575 = .ok (.iload_n 2, 1) := by decide +kernel
theorem dL_law_576 : decode cL_law 576 = .ok (.ifCond .eq 80, 3) := by decide +kernel
theorem dL_law_579 : decode cL_law 579 = .ok (.iload 6, 2) := by decide +kernel
theorem dL_law_581 : decode cL_law 581 = .ok (.iconst 4, 1) := by decide +kernel
theorem dL_law_582 : decode cL_law 582 = .ok (.if_icmp .ne 74, 3) := by decide +kernel
theorem dL_law_585 : decode cL_law 585 = .ok (.iload 15, 2) := by decide +kernel
theorem dL_law_587 : decode cL_law 587 = .ok (.iconst 2, 1) := by decide +kernel
theorem dL_law_588 : decode cL_law 588 = .ok (.if_icmp .ne 52, 3) := by decide +kernel
theorem dL_law_591 : decode cL_law 591 = .ok (.iload 17, 2) := by decide +kernel
theorem dL_law_593 : decode cL_law 593 = .ok (.iload 20, 2) := by decide +kernel
theorem dL_law_595 : decode cL_law 595 = .ok (.if_icmp .gt 45, 3) := by decide +kernel
theorem dL_law_598 : decode cL_law 598 = .ok (.iload 21, 2) := by decide +kernel
theorem dL_law_600 : decode cL_law 600 = .ok (.iload 16, 2) := by decide +kernel
theorem dL_law_602 : decode cL_law 602 = .ok (.if_icmp .ne 34, 3) := by decide +kernel
theorem dL_law_605 : decode cL_law 605 = .ok (.aload_n 1, 1) := by decide +kernel
theorem dL_law_606 : decode cL_law 606 = .ok (.iload 8, 2) := by decide +kernel
theorem dL_law_608 : decode cL_law 608 = .ok (.iload 9, 2) := by decide +kernel
theorem dL_law_610 : decode cL_law 610 = .ok (.iconst 0, 1) := by decide +kernel
theorem dL_law_611 : decode cL_law 611 = .ok (.invokestatic 124, 3) := by decide +kernel
theorem dL_law_614 : decode cL_law 614 = .ok (.iconst 1, 1) := by decide +kernel
theorem dL_law_615 : decode cL_law 615 = .ok (.if_icmp .ne 21, 3) := by decide +kernel
theorem dL_law_618 : decode cL_law 618 = .ok (.aload_n 1, 1) := by decide +kernel
theorem dL_law_619 : decode cL_law 619 = .ok (.iload 8, 2) := by decide +kernel
theorem dL_law_621 : decode cL_law 621 = .ok (.iload 9, 2) := by decide +kernel
theorem dL_law_623 : decode cL_law 623 = .ok (.iconst 1, 1) := by decide +kernel
theorem dL_law_624 : decode cL_law 624 = .ok (.invokestatic 124, 3) := by decide +kernel
theorem dL_law_627 : decode cL_law 627 = .ok (.iload 16, 2) := by decide +kernel
theorem dL_law_629 : decode cL_law 629 = .ok (.if_icmp .ne 7, 3) := by decide +kernel
theorem dL_law_632 : decode cL_law 632 = .ok (.iconst 1, 1) := by decide +kernel
theorem dL_law_633 : decode cL_law 633 = .ok (.goto 19, 3) := by decide +kernel
theorem dL_law_636 : decode cL_law 636 = .ok (.iconst 0, 1) := by decide +kernel
theorem dL_law_637 : decode cL_law 637 = .ok (.goto 15, 3) := by decide +kernel
theorem dL_law_640 : decode cL_law 640 = .ok (.iload 21, 2) := by decide +kernel
theorem dL_law_642 : decode cL_law 642 = .ok (.ldc 27, 2) := by decide +kernel
theorem dL_law_644 : decode cL_law 644 = .ok (.if_icmp .ne 7, 3) := by decide +kernel
theorem dL_law_647 : decode cL_law 647 = .ok (.iconst 1, 1) := by decide +kernel
theorem dL_law_648 : decode cL_law 648 = .ok (.goto 4, 3) := by decide +kernel
theorem dL_law_651 : decode cL_law 651 = .ok (.iconst 0, 1) := by decide +kernel
theorem dL_law_652 : decode cL_law 652 = .ok (.istore_n 2, 1) := by decide +kernel
theorem dL_law_653 : decode cL_law 653 = .ok (.goto 229, 3) := by decide +kernel
theorem dL_law_656 : decode cL_law 656 = .ok (.iload_n 2, 1) := by decide +kernel
theorem dL_law_657 : decode cL_law 657 = .ok (.ifCond .eq 74, 3) := by decide +kernel
theorem dL_law_660 : decode cL_law 660 = .ok (.iload 6, 2) := by decide +kernel
theorem dL_law_662 : decode cL_law 662 = .ok (.bipush 7, 2) := by decide +kernel
theorem dL_law_664 : decode cL_law 664 = .ok (.if_icmp .ne 67, 3) := by decide +kernel
theorem dL_law_667 : decode cL_law 667 = .ok (.iload 21, 2) := by decide +kernel
theorem dL_law_669 : decode cL_law 669 = .ok (.iload 18, 2) := by decide +kernel
theorem dL_law_671 : decode cL_law 671 = .ok (.if_icmp .ne 55, 3) := by decide +kernel
theorem dL_law_674 : decode cL_law 674 = .ok (.iload 18, 2) := by decide +kernel
theorem dL_law_676 : decode cL_law 676 = .ok (.iload 15, 2) := by decide +kernel
theorem dL_law_678 : decode cL_law 678 = .ok (.iconst 1, 1) := by decide +kernel
theorem dL_law_679 : decode cL_law 679 = .ok (.if_icmp .ne 17, 3) := by decide +kernel
theorem dL_law_682 : decode cL_law 682 = .ok (.iload 16, 2) := by decide +kernel
theorem dL_law_684 : decode cL_law 684 = .ok (.iconst 1, 1) := by decide +kernel
theorem dL_law_685 : decode cL_law 685 = .ok (.iload 5, 2) := by decide +kernel
theorem dL_law_687 : decode cL_law 687 = .ok (.bipush 32, 2) := by decide +kernel
theorem dL_law_689 : decode cL_law 689 = .ok (.idiv, 1) := by decide +kernel
theorem dL_law_690 : decode cL_law 690 = .ok (.iconst 4, 1) := by decide +kernel
theorem dL_law_691 : decode cL_law 691 = .ok (.irem, 1) := by decide +kernel
theorem dL_law_692 : decode cL_law 692 = .ok (.iadd, 1) := by decide +kernel
theorem dL_law_693 : decode cL_law 693 = .ok (.if_icmp .ge 7, 3) := by decide +kernel
theorem dL_law_696 : decode cL_law 696 = .ok (.iconst 1, 1) := by decide +kernel
theorem dL_law_697 : decode cL_law 697 = .ok (.goto 22, 3) := by decide +kernel
theorem dL_law_700 : decode cL_law 700 = .ok (.iload 16, 2) := by decide +kernel
theorem dL_law_702 : decode cL_law 702 = .ok (.iconst 1, 1) := by decide +kernel
theorem dL_law_703 : decode cL_law 703 = .ok (.iload 5, 2) := by decide +kernel
theorem dL_law_705 : decode cL_law 705 = .ok (.bipush 32, 2) := by decide +kernel
theorem dL_law_707 : decode cL_law 707 = .ok (.idiv, 1) := by decide +kernel
theorem dL_law_708 : decode cL_law 708 = .ok (.iconst 4, 1) := by decide +kernel
theorem dL_law_709 : decode cL_law 709 = .ok (.irem, 1) := by decide +kernel
theorem dL_law_710 : decode cL_law 710 = .ok (.iadd, 1) := by decide +kernel
theorem dL_law_711 : decode cL_law 711 = .ok (.if_icmp .ne 7, 3) := by decide +kernel
theorem dL_law_714 : decode cL_law 714 = .ok (.iconst 0, 1) := by decide +kernel
theorem dL_law_715 : decode cL_law 715 = .ok (.goto 4, 3) := by decide +kernel
theorem dL_law_718 : decode cL_law 718 = .ok (.iconst 2, 1) := by decide +kernel
theorem dL_law_719 : decode cL_law 719 = .ok (.if_icmp .ne 7, 3) := by decide +kernel
theorem dL_law_722 : decode cL_law 722 = .ok (.iconst 1, 1) := by decide +kernel
theorem dL_law_723 : decode cL_law 723 = .ok (.goto 4, 3) := by decide +kernel
theorem dL_law_726 : decode cL_law 726 = .ok (.iconst 0, 1) := by decide +kernel
theorem dL_law_727 : decode cL_law 727 = .ok (.istore_n 2, 1) := by decide +kernel
theorem dL_law_728 : decode cL_law 728 = .ok (.goto 154, 3) := by decide +kernel
theorem dL_law_731 : decode cL_law 731 = .ok (.iload_n 2, 1) := by decide +kernel
theorem dL_law_732 : decode cL_law 732 = .ok (.ifCond .eq 52, 3) := by decide +kernel
theorem dL_law_735 : decode cL_law 735 = .ok (.iload 6, 2) := by decide +kernel
theorem dL_law_737 : decode cL_law 737 = .ok (.iconst 5, 1) := by decide +kernel
theorem dL_law_738 : decode cL_law 738 = .ok (.if_icmp .eq 10, 3) := by decide +kernel
theorem dL_law_741 : decode cL_law 741 = .ok (.iload 6, 2) := by decide +kernel
theorem dL_law_743 : decode cL_law 743 = .ok (.bipush 6, 2) := by decide +kernel
theorem dL_law_745 : decode cL_law 745 = .ok (.if_icmp .ne 39, 3) := by decide +kernel
theorem dL_law_748 : decode cL_law 748 = .ok (.iload 21, 2) := by decide +kernel
theorem dL_law_750 : decode cL_law 750 = .ok (.aload_n 1, 1) := by decide +kernel
theorem dL_law_751 : decode cL_law 751 = .ok (.iconst 4, 1) := by decide +kernel
theorem dL_law_752 : decode cL_law 752 = .ok (.invokestatic 138, 3) := by decide +kernel
theorem dL_law_755 : decode cL_law 755 = .ok (.if_icmp .ne 24, 3) := by decide +kernel
theorem dL_law_758 : decode cL_law 758 = .ok (.aload_n 1, 1) := by decide +kernel
theorem dL_law_759 : decode cL_law 759 = .ok (.iconst 0, 1) := by decide +kernel
theorem dL_law_760 : decode cL_law 760 = .ok (.invokestatic 138, 3) := by decide +kernel
theorem dL_law_763 : decode cL_law 763 = .ok (.iload 10, 2) := by decide +kernel
theorem dL_law_765 : decode cL_law 765 = .ok (.iconst 1, 1) := by decide +kernel
theorem dL_law_766 : decode cL_law 766 = .ok (.iadd, 1) := by decide +kernel
theorem dL_law_767 : decode cL_law 767 = .ok (.iload 5, 2) := by decide +kernel
theorem dL_law_769 : decode cL_law 769 = .ok (.iconst 5, 1) := by decide +kernel
theorem dL_law_770 : decode cL_law 770 = .ok (.irem, 1) := by decide +kernel
theorem dL_law_771 : decode cL_law 771 = .ok (.iadd, 1) := by decide +kernel
theorem dL_law_772 : decode cL_law 772 = .ok (.if_icmp .ne 7, 3) := by decide +kernel
theorem dL_law_775 : decode cL_law 775 = .ok (.iconst 1, 1) := by decide +kernel
theorem dL_law_776 : decode cL_law 776 = .ok (.goto 4, 3) := by decide +kernel
theorem dL_law_779 : decode cL_law 779 = .ok (.iconst 0, 1) := by decide +kernel
theorem dL_law_780 : decode cL_law 780 = .ok (.istore_n 2, 1) := by decide +kernel
theorem dL_law_781 : decode cL_law 781 = .ok (.goto 101, 3) := by decide +kernel
theorem dL_law_784 : decode cL_law 784 = .ok (.iload_n 2, 1) := by decide +kernel
theorem dL_law_785 : decode cL_law 785 = .ok (.ifCond .eq 97, 3) := by decide +kernel
theorem dL_law_788 : decode cL_law 788 = .ok (.iload 6, 2) := by decide +kernel
theorem dL_law_790 : decode cL_law 790 = .ok (.iconst 3, 1) := by decide +kernel
theorem dL_law_791 : decode cL_law 791 = .ok (.if_icmp .ne 91, 3) := by decide +kernel
theorem dL_law_794 : decode cL_law 794 = .ok (.iload 21, 2) := by decide +kernel
theorem dL_law_796 : decode cL_law 796 = .ok (.bipush 100, 2) := by decide +kernel
theorem dL_law_798 : decode cL_law 798 = .ok (.if_icmp .le 26, 3) := by decide +kernel
theorem dL_law_801 : decode cL_law 801 = .ok (.aload_n 1, 1) := by decide +kernel
theorem dL_law_802 : decode cL_law 802 = .ok (.iload 8, 2) := by decide +kernel
theorem dL_law_804 : decode cL_law 804 = .ok (.bipush 8, 2) := by decide +kernel
theorem dL_law_806 : decode cL_law 806 = .ok (.invokestatic 122, 3) := by decide +kernel
theorem dL_law_809 : decode cL_law 809 = .ok (.iload 14, 2) := by decide +kernel
theorem dL_law_811 : decode cL_law 811 = .ok (.iconst 1, 1) := by decide +kernel
theorem dL_law_812 : decode cL_law 812 = .ok (.iadd, 1) := by decide +kernel
theorem dL_law_813 : decode cL_law 813 = .ok (.if_icmp .ne 7, 3) := by decide +kernel
theorem dL_law_816 : decode cL_law 816 = .ok (.iconst 1, 1) := by decide +kernel
theorem dL_law_817 : decode cL_law 817 = .ok (.goto 64, 3) := by decide +kernel
theorem dL_law_820 : decode cL_law 820 = .ok (.iconst 0, 1) := by decide +kernel
theorem dL_law_821 : decode cL_law 821 = .ok (.goto 60, 3) := by decide +kernel
theorem dL_law_824 : decode cL_law 824 = .ok (.aload_n 1, 1) := by decide +kernel
theorem dL_law_825 : decode cL_law 825 = .ok (.iload 8, 2) := by decide +kernel
theorem dL_law_827 : decode cL_law 827 = .ok (.iload 5, 2) := by decide +kernel
theorem dL_law_829 : decode cL_law 829 = .ok (.iconst 4, 1) := by decide +kernel
theorem dL_law_830 : decode cL_law 830 = .ok (.idiv, 1) := by decide +kernel
theorem dL_law_831 : decode cL_law 831 = .ok (.bipush 16, 2) := by decide +kernel
theorem dL_law_833 : decode cL_law 833 = .ok (.irem, 1) := by decide +kernel
theorem dL_law_834 : decode cL_law 834 = .ok (.iconst 1, 1) := by decide +kernel
theorem dL_law_835 : decode cL_law 835 = .ok (.invokestatic 124, 3) := by decide +kernel
theorem dL_law_838 : decode cL_law 838 = .ok (.iload 21, 2) := by decide +kernel
theorem dL_law_840 : decode cL_law 840 = .ok (.if_icmp .ne 40, 3) := by decide +kernel
theorem dL_law_843 : decode cL_law 843 = .ok (.aload_n 1, 1) := by decide +kernel
theorem dL_law_844 : decode cL_law 844 = .ok (.iload 8, 2) := by decide +kernel
theorem dL_law_846 : decode cL_law 846 = .ok (.iload 5, 2) := by decide +kernel
theorem dL_law_848 : decode cL_law 848 = .ok (.iconst 4, 1) := by decide +kernel
theorem dL_law_849 : decode cL_law 849 = .ok (.idiv, 1) := by decide +kernel
theorem dL_law_850 : decode cL_law 850 = .ok (.bipush 16, 2) := by decide +kernel
theorem dL_law_852 : decode cL_law 852 = .ok (.irem, 1) := by decide +kernel
theorem dL_law_853 : decode cL_law 853 = .ok (.iconst 0, 1) := by decide +kernel
theorem dL_law_854 : decode cL_law 854 = .ok (.invokestatic 124, 3) := by decide +kernel
theorem dL_law_857 : decode cL_law 857 = .ok (.iconst 1, 1) := by decide +kernel
theorem dL_law_858 : decode cL_law 858 = .ok (.if_icmp .ne 22, 3) := by decide +kernel
theorem dL_law_861 : decode cL_law 861 = .ok (.aload_n 1, 1) := by decide +kernel
theorem dL_law_862 : decode cL_law 862 = .ok (.iload 8, 2) := by decide +kernel
theorem dL_law_864 : decode cL_law 864 = .ok (.bipush 6, 2) := by decide +kernel
theorem dL_law_866 : decode cL_law 866 = .ok (.invokestatic 122, 3) := by decide +kernel
theorem dL_law_869 : decode cL_law 869 = .ok (.iload 13, 2) := by decide +kernel
theorem dL_law_871 : decode cL_law 871 = .ok (.iconst 1, 1) := by decide +kernel
theorem dL_law_872 : decode cL_law 872 = .ok (.iadd, 1) := by decide +kernel
theorem dL_law_873 : decode cL_law 873 = .ok (.if_icmp .ne 7, 3) := by decide +kernel
theorem dL_law_876 : decode cL_law 876 = .ok (.iconst 1, 1) := by decide +kernel
theorem dL_law_877 : decode cL_law 877 = .ok (.goto 4, 3) := by decide +kernel
theorem dL_law_880 : decode cL_law 880 = .ok (.iconst 0, 1) := by decide +kernel
theorem dL_law_881 : decode cL_law 881 = .ok (.istore_n 2, 1) := by decide +kernel
theorem dL_law_882 : decode cL_law 882 = .ok (.iload_n 2, 1) := by decide +kernel
theorem dL_law_883 : decode cL_law 883 = .ok (.ifCond .eq 29, 3) := by decide +kernel
theorem dL_law_886 : decode cL_law 886 = .ok (.iload_n 3, 1) := by decide +kernel
theorem dL_law_887 : decode cL_law 887 = .ok (.iconst 4, 1) := by decide +kernel
theorem dL_law_888 : decode cL_law 888 = .ok (.irem, 1) := by decide +kernel
theorem dL_law_889 : decode cL_law 889 = .ok (.ifCond .gt 19, 3) := by decide +kernel
theorem dL_law_892 : decode cL_law 892 = .ok (.aload_n 1, 1) := by decide +kernel
theorem dL_law_893 : decode cL_law 893 = .ok (.iload 8, 2) := by decide +kernel
theorem dL_law_895 : decode cL_law 895 = .ok (.invokestatic 153, 3) := by decide +kernel
theorem dL_law_898 : decode cL_law 898 = .ok (.ifCond .eq 14, 3) := by decide +kernel
theorem dL_law_901 : decode cL_law 901 = .ok (.aload_n 1, 1) := by decide +kernel
theorem dL_law_902 : decode cL_law 902 = .ok (.invokestatic 157, 3) := by decide +kernel
theorem dL_law_905 : decode cL_law 905 = .ok (.ifCond .eq 7, 3) := by decide +kernel
theorem dL_law_908 : decode cL_law 908 = .ok (.iconst 1, 1) := by decide +kernel
theorem dL_law_909 : decode cL_law 909 = .ok (.goto 4, 3) := by decide +kernel
theorem dL_law_912 : decode cL_law 912 = .ok (.iconst 0, 1) := by decide +kernel
theorem dL_law_913 : decode cL_law 913 = .ok (.istore_n 2, 1) := by decide +kernel
theorem dL_law_914 : decode cL_law 914 = .ok (.iinc 3 1, 3) := by decide +kernel
theorem dL_law_917 : decode cL_law 917 = .ok (.goto (-805), 3) := by decide +kernel
theorem dL_law_920 : decode cL_law 920 = .ok (.iload_n 2, 1) := by decide +kernel
theorem dL_law_921 : decode cL_law 921 = .ok (.ifCond .eq 264, 3) := by decide +kernel
theorem dL_law_924 : decode cL_law 924 = .ok (.aload_n 1, 1) := by decide +kernel
theorem dL_law_925 : decode cL_law 925 = .ok (.iconst 0, 1) := by decide +kernel
theorem dL_law_926 : decode cL_law 926 = .ok (.invokestatic 153, 3) := by decide +kernel
theorem dL_law_929 : decode cL_law 929 = .ok (.ifCond .eq 256, 3) := by decide +kernel
theorem dL_law_932 : decode cL_law 932 = .ok (.aload_n 1, 1) := by decide +kernel
theorem dL_law_933 : decode cL_law 933 = .ok (.iconst 1, 1) := by decide +kernel
theorem dL_law_934 : decode cL_law 934 = .ok (.invokestatic 153, 3) := by decide +kernel
theorem dL_law_937 : decode cL_law 937 = .ok (.ifCond .eq 248, 3) := by decide +kernel
theorem dL_law_940 : decode cL_law 940 = .ok (.aload_n 1, 1) := by decide +kernel
theorem dL_law_941 : decode cL_law 941 = .ok (.invokestatic 157, 3) := by decide +kernel
theorem dL_law_944 : decode cL_law 944 = .ok (.ifCond .eq 241, 3) := by decide +kernel
theorem dL_law_947 : decode cL_law 947 = .ok (.aload_n 1, 1) := by decide +kernel
theorem dL_law_948 : decode cL_law 948 = .ok (.iconst 4, 1) := by decide +kernel
theorem dL_law_949 : decode cL_law 949 = .ok (.invokestatic 120, 3) := by decide +kernel
theorem dL_law_952 : decode cL_law 952 = .ok (.ldc 17, 2) := by decide +kernel
theorem dL_law_954 : decode cL_law 954 = .ok (.if_icmp .ne 231, 3) := by decide +kernel
theorem dL_law_957 : decode cL_law 957 = .ok (.aload_n 1, 1) := by decide +kernel
theorem dL_law_958 : decode cL_law 958 = .ok (.iconst 0, 1) := by decide +kernel
theorem dL_law_959 : decode cL_law 959 = .ok (.bipush 16, 2) := by decide +kernel
theorem dL_law_961 : decode cL_law 961 = .ok (.invokestatic 109, 3) := by decide +kernel
theorem dL_law_964 : decode cL_law 964 = .ok (.ldc 17, 2) := by decide +kernel
theorem dL_law_966 : decode cL_law 966 = .ok (.if_icmp .ne 219, 3) := by decide +kernel
theorem dL_law_969 : decode cL_law 969 = .ok (.aload_n 1, 1) := by decide +kernel
theorem dL_law_970 : decode cL_law 970 = .ok (.iconst (-1), 1) := by decide +kernel
theorem dL_law_971 : decode cL_law 971 = .ok (.iconst 0, 1) := by decide +kernel
theorem dL_law_972 : decode cL_law 972 = .ok (.invokestatic 118, 3) := by decide +kernel
theorem dL_law_975 : decode cL_law 975 = .ok (.ldc 17, 2) := by decide +kernel
theorem dL_law_977 : decode cL_law 977 = .ok (.if_icmp .ne 208, 3) := by decide +kernel
theorem dL_law_980 : decode cL_law 980 = .ok (.aload_n 1, 1) := by decide +kernel
theorem dL_law_981 : decode cL_law 981 = .ok (.iconst 0, 1) := by decide +kernel
theorem dL_law_982 : decode cL_law 982 = .ok (.bipush 16, 2) := by decide +kernel
theorem dL_law_984 : decode cL_law 984 = .ok (.invokestatic 111, 3) := by decide +kernel
theorem dL_law_987 : decode cL_law 987 = .ok (.ldc 17, 2) := by decide +kernel
theorem dL_law_989 : decode cL_law 989 = .ok (.if_icmp .ne 196, 3) := by decide +kernel
theorem dL_law_992 : decode cL_law 992 = .ok (.aload_n 1, 1) := by decide +kernel
theorem dL_law_993 : decode cL_law 993 = .ok (.iconst 4, 1) := by decide +kernel
theorem dL_law_994 : decode cL_law 994 = .ok (.invokestatic 102, 3) := by decide +kernel
theorem dL_law_997 : decode cL_law 997 = .ok (.ldc 17, 2) := by decide +kernel
theorem dL_law_999 : decode cL_law 999 = .ok (.if_icmp .ne 186, 3) := by decide +kernel
theorem dL_law_1002 : decode cL_law 1002 = .ok (.aload_n 1, 1) := by decide +kernel
theorem dL_law_1003 : decode cL_law 1003 = .ok (.iconst 0, 1) := by decide +kernel
theorem dL_law_1004 : decode cL_law 1004 = .ok (.iconst 0, 1) := by decide +kernel
theorem dL_law_1005 : decode cL_law 1005 = .ok (.iconst 0, 1) := by decide +kernel
theorem dL_law_1006 : decode cL_law 1006 = .ok (.invokestatic 115, 3) := by decide +kernel
theorem dL_law_1009 : decode cL_law 1009 = .ok (.ldc 27, 2) := by decide +kernel
theorem dL_law_1011 : decode cL_law 1011 = .ok (.if_icmp .ne 174, 3) := by decide +kernel
theorem dL_law_1014 : decode cL_law 1014 = .ok (.aload_n 1, 1) := by decide +kernel
theorem dL_law_1015 : decode cL_law 1015 = .ok (.bipush 100, 2) := by decide +kernel
theorem dL_law_1017 : decode cL_law 1017 = .ok (.invokestatic 113, 3) := by decide +kernel
theorem dL_law_1020 : decode cL_law 1020 = .ok (.ldc 17, 2) := by decide +kernel
theorem dL_law_1022 : decode cL_law 1022 = .ok (.if_icmp .ne 163, 3) := by decide +kernel
theorem dL_law_1025 : decode cL_law 1025 = .ok (.aload_n 1, 1) := by decide +kernel
theorem dL_law_1026 : decode cL_law 1026 = .ok (.iconst 0, 1) := by decide +kernel
theorem dL_law_1027 : decode cL_law 1027 = .ok (.bipush 100, 2) := by decide +kernel
theorem dL_law_1029 : decode cL_law 1029 = .ok (.invokestatic 95, 3) := by decide +kernel
theorem dL_law_1032 : decode cL_law 1032 = .ok (.ldc 27, 2) := by decide +kernel
theorem dL_law_1034 : decode cL_law 1034 = .ok (.if_icmp .ne 151, 3) := by decide +kernel
theorem dL_law_1037 : decode cL_law 1037 = .ok (.aload_n 1, 1) := by decide +kernel
theorem dL_law_1038 : decode cL_law 1038 = .ok (.iconst 3, 1) := by decide +kernel
theorem dL_law_1039 : decode cL_law 1039 = .ok (.iconst 0, 1) := by decide +kernel
theorem dL_law_1040 : decode cL_law 1040 = .ok (.invokestatic 100, 3) := by decide +kernel
theorem dL_law_1043 : decode cL_law 1043 = .ok (.ldc 17, 2) := by decide +kernel
theorem dL_law_1045 : decode cL_law 1045 = .ok (.if_icmp .ne 140, 3) := by decide +kernel
theorem dL_law_1048 : decode cL_law 1048 = .ok (.aload_n 1, 1) := by decide +kernel
theorem dL_law_1049 : decode cL_law 1049 = .ok (.iconst 0, 1) := by decide +kernel
theorem dL_law_1050 : decode cL_law 1050 = .ok (.iconst 4, 1) := by decide +kernel
theorem dL_law_1051 : decode cL_law 1051 = .ok (.invokestatic 100, 3) := by decide +kernel
theorem dL_law_1054 : decode cL_law 1054 = .ok (.ldc 27, 2) := by decide +kernel
theorem dL_law_1056 : decode cL_law 1056 = .ok (.if_icmp .ne 129, 3) := by decide +kernel
theorem dL_law_1059 : decode cL_law 1059 = .ok (.aload_n 1, 1) := by decide +kernel
theorem dL_law_1060 : decode cL_law 1060 = .ok (.iconst 1, 1) := by decide +kernel
theorem dL_law_1061 : decode cL_law 1061 = .ok (.iconst 0, 1) := by decide +kernel
theorem dL_law_1062 : decode cL_law 1062 = .ok (.invokestatic 100, 3) := by decide +kernel
theorem dL_law_1065 : decode cL_law 1065 = .ok (.ldc 27, 2) := by decide +kernel
theorem dL_law_1067 : decode cL_law 1067 = .ok (.if_icmp .ne 118, 3) := by decide +kernel
theorem dL_law_1070 : decode cL_law 1070 = .ok (.aload_n 1, 1) := by decide +kernel
theorem dL_law_1071 : decode cL_law 1071 = .ok (.bipush 32, 2) := by decide +kernel
theorem dL_law_1073 : decode cL_law 1073 = .ok (.invokestatic 171, 3) := by decide +kernel
theorem dL_law_1076 : decode cL_law 1076 = .ok (.ldc 17, 2) := by decide +kernel
theorem dL_law_1078 : decode cL_law 1078 = .ok (.if_icmp .ne 107, 3) := by decide +kernel
theorem dL_law_1081 : decode cL_law 1081 = .ok (.aload_n 1, 1) := by decide +kernel
theorem dL_law_1082 : decode cL_law 1082 = .ok (.iconst 2, 1) := by decide +kernel
theorem dL_law_1083 : decode cL_law 1083 = .ok (.invokestatic 107, 3) := by decide +kernel
theorem dL_law_1086 : decode cL_law 1086 = .ok (.ldc 17, 2) := by decide +kernel
theorem dL_law_1088 : decode cL_law 1088 = .ok (.if_icmp .ne 97, 3) := by decide +kernel
theorem dL_law_1091 : decode cL_law 1091 = .ok (.aload_n 1, 1) := by decide +kernel
theorem dL_law_1092 : decode cL_law 1092 = .ok (.iconst 0, 1) := by decide +kernel
theorem dL_law_1093 : decode cL_law 1093 = .ok (.iconst 0, 1) := by decide +kernel
theorem dL_law_1094 : decode cL_law 1094 = .ok (.iconst 5, 1) := by decide +kernel
theorem dL_law_1095 : decode cL_law 1095 = .ok (.invokestatic 124, 3) := by decide +kernel
theorem dL_law_1098 : decode cL_law 1098 = .ok (.ldc 27, 2) := by decide +kernel
theorem dL_law_1100 : decode cL_law 1100 = .ok (.if_icmp .ne 85, 3) := by decide +kernel
theorem dL_law_1103 : decode cL_law 1103 = .ok (.aload_n 1, 1) := by decide +kernel
theorem dL_law_1104 : decode cL_law 1104 = .ok (.iconst 0, 1) := by decide +kernel
theorem dL_law_1105 : decode cL_law 1105 = .ok (.bipush 11, 2) := by decide +kernel
theorem dL_law_1107 : decode cL_law 1107 = .ok (.invokestatic 122, 3) := by decide +kernel
theorem dL_law_1110 : decode cL_law 1110 = .ok (.ldc 27, 2) := by decide +kernel
theorem dL_law_1112 : decode cL_law 1112 = .ok (.if_icmp .ne 73, 3) := by decide +kernel
theorem dL_law_1115 : decode cL_law 1115 = .ok (.aload_n 1, 1) := by decide +kernel
theorem dL_law_1116 : decode cL_law 1116 = .ok (.iconst 0, 1) := by decide +kernel
theorem dL_law_1117 : decode cL_law 1117 = .ok (.iconst (-1), 1) := by decide +kernel
theorem dL_law_1118 : decode cL_law 1118 = .ok (.invokestatic 126, 3) := by decide +kernel
theorem dL_law_1121 : decode cL_law 1121 = .ok (.ldc 27, 2) := by decide +kernel
theorem dL_law_1123 : decode cL_law 1123 = .ok (.if_icmp .ne 62, 3) := by decide +kernel
theorem dL_law_1126 : decode cL_law 1126 = .ok (.aload_n 1, 1) := by decide +kernel
theorem dL_law_1127 : decode cL_law 1127 = .ok (.bipush 10, 2) := by decide +kernel
theorem dL_law_1129 : decode cL_law 1129 = .ok (.invokestatic 138, 3) := by decide +kernel
theorem dL_law_1132 : decode cL_law 1132 = .ok (.ldc 17, 2) := by decide +kernel
theorem dL_law_1134 : decode cL_law 1134 = .ok (.if_icmp .ne 51, 3) := by decide +kernel
theorem dL_law_1137 : decode cL_law 1137 = .ok (.aload_n 1, 1) := by decide +kernel
theorem dL_law_1138 : decode cL_law 1138 = .ok (.iconst 3, 1) := by decide +kernel
theorem dL_law_1139 : decode cL_law 1139 = .ok (.invokestatic 128, 3) := by decide +kernel
theorem dL_law_1142 : decode cL_law 1142 = .ok (.ldc 17, 2) := by decide +kernel
theorem dL_law_1144 : decode cL_law 1144 = .ok (.if_icmp .ne 41, 3) := by decide +kernel
theorem dL_law_1147 : decode cL_law 1147 = .ok (.aload_n 1, 1) := by decide +kernel
theorem dL_law_1148 : decode cL_law 1148 = .ok (.iconst 0, 1) := by decide +kernel
theorem dL_law_1149 : decode cL_law 1149 = .ok (.bipush 17, 2) := by decide +kernel
theorem dL_law_1151 : decode cL_law 1151 = .ok (.invokestatic 132, 3) := by decide +kernel
theorem dL_law_1154 : decode cL_law 1154 = .ok (.ldc 27, 2) := by decide +kernel
theorem dL_law_1156 : decode cL_law 1156 = .ok (.if_icmp .ne 29, 3) := by decide +kernel
theorem dL_law_1159 : decode cL_law 1159 = .ok (.aload_n 1, 1) := by decide +kernel
theorem dL_law_1160 : decode cL_law 1160 = .ok (.iconst 4, 1) := by decide +kernel
theorem dL_law_1161 : decode cL_law 1161 = .ok (.invokestatic 136, 3) := by decide +kernel
theorem dL_law_1164 : decode cL_law 1164 = .ok (.ldc 17, 2) := by decide +kernel
theorem dL_law_1166 : decode cL_law 1166 = .ok (.if_icmp .ne 19, 3) := by decide +kernel
theorem dL_law_1169 : decode cL_law 1169 = .ok (.aload_n 1, 1) := by decide +kernel
theorem dL_law_1170 : decode cL_law 1170 = .ok (.iconst 0, 1) := by decide +kernel
theorem dL_law_1171 : decode cL_law 1171 = .ok (.iconst 0, 1) := by decide +kernel
theorem dL_law_1172 : decode cL_law 1172 = .ok (.iconst 0, 1) := by decide +kernel
theorem dL_law_1173 : decode cL_law 1173 = .ok (.invokestatic 165, 3) := by decide +kernel
theorem dL_law_1176 : decode cL_law 1176 = .ok (.ldc 27, 2) := by decide +kernel
theorem dL_law_1178 : decode cL_law 1178 = .ok (.if_icmp .ne 7, 3) := by decide +kernel
theorem dL_law_1181 : decode cL_law 1181 = .ok (.iconst 1, 1) := by decide +kernel
theorem dL_law_1182 : decode cL_law 1182 = .ok (.goto 4, 3) := by decide +kernel
theorem dL_law_1185 : decode cL_law 1185 = .ok (.iconst 0, 1) := by decide +kernel
theorem dL_law_1186 : decode cL_law 1186 = .ok (.ireturn, 1) := by decide +kernel
