theorem dX5_undo_31 : decode cX5_undo 31 = .ok (.aload_n 0, 1) := by decide +kernel
theorem dX5_undo_32 : decode cX5_undo 32 = .ok (.getfield 19, 3) := by decide +kernel
theorem dX5_undo_35 : decode cX5_undo 35 = .ok (.getfield 171, 3) := by decide +kernel
theorem dX5_undo_38 : decode cX5_undo 38 = .ok (.ireturn, 1) := by decide +kernel
theorem dX5_keyOf_0 : decode cX5_keyOf 0 = .ok (.iload_n 1, 1) := by decide +kernel
theorem dX5_keyOf_1 : decode cX5_keyOf 1 = .ok (.iload_n 2, 1) := by decide +kernel
theorem dX5_keyOf_2 : decode cX5_keyOf 2 = .ok (.invokestatic 50, 3) := by decide +kernel
theorem dX5_keyOf_5 : decode cX5_keyOf 5 = .ok (.iload_n 3, 1) := by decide +kernel
theorem dX5_keyOf_6 : decode cX5_keyOf 6 = .ok (.iconst 0, 1) := by decide +kernel
theorem dX5_keyOf_7 : decode cX5_keyOf 7 = .ok (.iconst 4, 1) := by decide +kernel
theorem dX5_keyOf_8 : decode cX5_keyOf 8 = .ok (.invokestatic 99, 3) := by decide +kernel
theorem dX5_keyOf_11 : decode cX5_keyOf 11 = .ok (.aload_n 0, 1) := by decide +kernel
theorem dX5_keyOf_12 : decode cX5_keyOf 12 = .ok (.getfield 10, 3) := by decide +kernel
theorem dX5_keyOf_15 : decode cX5_keyOf 15 = .ok (.getfield 80, 3) := by decide +kernel
theorem dX5_keyOf_18 : decode cX5_keyOf 18 = .ok (.iload_n 1, 1) := by decide +kernel
theorem dX5_keyOf_19 : decode cX5_keyOf 19 = .ok (.iload_n 2, 1) := by decide +kernel
theorem dX5_keyOf_20 : decode cX5_keyOf 20 = .ok (.iload_n 3, 1) := by decide +kernel
theorem dX5_keyOf_21 : decode cX5_keyOf 21 = .ok (.invokevirtual 179, 3) := by decide +kernel
theorem dX5_keyOf_24 : decode cX5_keyOf 24 = .ok (.ireturn, 1) := by decide +kernel
theorem dX5_kindOf_0 : decode cX5_kindOf 0 = .ok (.iload_n 1, 1) := by decide +kernel
theorem dX5_kindOf_1 : decode cX5_kindOf 1 = .ok (.invokestatic 38, 3) := by decide +kernel
theorem dX5_kindOf_4 : decode cX5_kindOf 4 = .ok (.iload_n 2, 1) := by decide +kernel
theorem dX5_kindOf_5 : decode cX5_kindOf 5 = .ok (.iconst 0, 1) := by decide +kernel
theorem dX5_kindOf_6 : decode cX5_kindOf 6 = .ok (.bipush 10, 2) := by decide +kernel
theorem dX5_kindOf_8 : decode cX5_kindOf 8 = .ok (.invokestatic 99, 3) := by decide +kernel
theorem dX5_kindOf_11 : decode cX5_kindOf 11 = .ok (.aload_n 0, 1) := by decide +kernel
theorem dX5_kindOf_12 : decode cX5_kindOf 12 = .ok (.getfield 10, 3) := by decide +kernel
theorem dX5_kindOf_15 : decode cX5_kindOf 15 = .ok (.iload_n 1, 1) := by decide +kernel
theorem dX5_kindOf_16 : decode cX5_kindOf 16 = .ok (.iload_n 2, 1) := by decide +kernel
theorem dX5_kindOf_17 : decode cX5_kindOf 17 = .ok (.invokevirtual 182, 3) := by decide +kernel
theorem dX5_kindOf_20 : decode cX5_kindOf 20 = .ok (.ireturn, 1) := by decide +kernel
theorem dX5_pile_0 : decode cX5_pile 0 = .ok (.iload_n 1, 1) := by decide +kernel
theorem dX5_pile_1 : decode cX5_pile 1 = .ok (.invokestatic 38, 3) := by decide +kernel
theorem dX5_pile_4 : decode cX5_pile 4 = .ok (.iload_n 2, 1) := by decide +kernel
theorem dX5_pile_5 : decode cX5_pile 5 = .ok (.iconst 0, 1) := by decide +kernel
theorem dX5_pile_6 : decode cX5_pile 6 = .ok (.invokestatic 92, 3) := by decide +kernel
theorem dX5_pile_9 : decode cX5_pile 9 = .ok (.aload_n 0, 1) := by decide +kernel
theorem dX5_pile_10 : decode cX5_pile 10 = .ok (.getfield 10, 3) := by decide +kernel
theorem dX5_pile_13 : decode cX5_pile 13 = .ok (.getfield 80, 3) := by decide +kernel
theorem dX5_pile_16 : decode cX5_pile 16 = .ok (.iload_n 1, 1) := by decide +kernel
theorem dX5_pile_17 : decode cX5_pile 17 = .ok (.iload_n 2, 1) := by decide +kernel
theorem dX5_pile_18 : decode cX5_pile 18 = .ok (.invokevirtual 89, 3) := by decide +kernel
theorem dX5_pile_21 : decode cX5_pile 21 = .ok (.ireturn, 1) := by decide +kernel
theorem dX5_count_0 : decode cX5_count 0 = .ok (.iload_n 1, 1) := by decide +kernel
theorem dX5_count_1 : decode cX5_count 1 = .ok (.iconst 0, 1) := by decide +kernel
theorem dX5_count_2 : decode cX5_count 2 = .ok (.bipush 9, 2) := by decide +kernel
theorem dX5_count_4 : decode cX5_count 4 = .ok (.invokestatic 99, 3) := by decide +kernel
theorem dX5_count_7 : decode cX5_count 7 = .ok (.aload_n 0, 1) := by decide +kernel
theorem dX5_count_8 : decode cX5_count 8 = .ok (.iload_n 1, 1) := by decide +kernel
theorem dX5_count_9 : decode cX5_count 9 = .ok (.invokevirtual 185, 3) := by decide +kernel
theorem dX5_count_12 : decode cX5_count 12 = .ok (.ireturn, 1) := by decide +kernel
theorem dX5_setting_0 : decode cX5_setting 0 = .ok (.iload_n 1, 1) := by decide +kernel
theorem dX5_setting_1 : decode cX5_setting 1 = .ok (.invokestatic 120, 3) := by decide +kernel
theorem dX5_setting_4 : decode cX5_setting 4 = .ok (.aload_n 0, 1) := by decide +kernel
theorem dX5_setting_5 : decode cX5_setting 5 = .ok (.getfield 10, 3) := by decide +kernel
theorem dX5_setting_8 : decode cX5_setting 8 = .ok (.getfield 129, 3) := by decide +kernel
theorem dX5_setting_11 : decode cX5_setting 11 = .ok (.iload_n 1, 1) := by decide +kernel
theorem dX5_setting_12 : decode cX5_setting 12 = .ok (.iaload, 1) := by decide +kernel
theorem dX5_setting_13 : decode cX5_setting 13 = .ok (.ireturn, 1) := by decide +kernel
theorem dX5_ifAsked_0 : decode cX5_ifAsked 0 = .ok (.iload_n 1, 1) := by decide +kernel
theorem dX5_ifAsked_1 : decode cX5_ifAsked 1 = .ok (.invokestatic 38, 3) := by decide +kernel
theorem dX5_ifAsked_4 : decode cX5_ifAsked 4 = .ok (.aload_n 0, 1) := by decide +kernel
theorem dX5_ifAsked_5 : decode cX5_ifAsked 5 = .ok (.getfield 10, 3) := by decide +kernel
theorem dX5_ifAsked_8 : decode cX5_ifAsked 8 = .ok (.iload_n 1, 1) := by decide +kernel
theorem dX5_ifAsked_9 : decode cX5_ifAsked 9 = .ok (.invokevirtual 188, 3) := by decide +kernel
theorem dX5_ifAsked_12 : decode cX5_ifAsked 12 = .ok (.ireturn, 1) := by decide +kernel
theorem dX5_keyIn_0 : decode cX5_keyIn 0 = .ok (.iload_n 1, 1) := by decide +kernel
theorem dX5_keyIn_1 : decode cX5_keyIn 1 = .ok (.invokestatic 38, 3) := by decide +kernel
theorem dX5_keyIn_4 : decode cX5_keyIn 4 = .ok (.aload_n 0, 1) := by decide +kernel
theorem dX5_keyIn_5 : decode cX5_keyIn 5 = .ok (.getfield 10, 3) := by decide +kernel
theorem dX5_keyIn_8 : decode cX5_keyIn 8 = .ok (.getfield 80, 3) := by decide +kernel
theorem dX5_keyIn_11 : decode cX5_keyIn 11 = .ok (.iload_n 1, 1) := by decide +kernel
theorem dX5_keyIn_12 : decode cX5_keyIn 12 = .ok (.invokevirtual 191, 3) := by decide +kernel
theorem dX5_keyIn_15 : decode cX5_keyIn 15 = .ok (.ireturn, 1) := by decide +kernel
theorem dX5_coming_0 : decode cX5_coming 0 = .ok (.iload_n 1, 1) := by decide +kernel
theorem dX5_coming_1 : decode cX5_coming 1 = .ok (.invokestatic 38, 3) := by decide +kernel
theorem dX5_coming_4 : decode cX5_coming 4 = .ok (.iload_n 2, 1) := by decide +kernel
theorem dX5_coming_5 : decode cX5_coming 5 = .ok (.iconst 1, 1) := by decide +kernel
theorem dX5_coming_6 : decode cX5_coming 6 = .ok (.bipush 16, 2) := by decide +kernel
theorem dX5_coming_8 : decode cX5_coming 8 = .ok (.invokestatic 99, 3) := by decide +kernel
theorem dX5_coming_11 : decode cX5_coming 11 = .ok (.aload_n 0, 1) := by decide +kernel
theorem dX5_coming_12 : decode cX5_coming 12 = .ok (.getfield 10, 3) := by decide +kernel
theorem dX5_coming_15 : decode cX5_coming 15 = .ok (.iload_n 1, 1) := by decide +kernel
theorem dX5_coming_16 : decode cX5_coming 16 = .ok (.iload_n 2, 1) := by decide +kernel
theorem dX5_coming_17 : decode cX5_coming 17 = .ok (.invokevirtual 194, 3) := by decide +kernel
theorem dX5_coming_20 : decode cX5_coming 20 = .ok (.ireturn, 1) := by decide +kernel
theorem dX5_longest_0 : decode cX5_longest 0 = .ok (.iload_n 1, 1) := by decide +kernel
theorem dX5_longest_1 : decode cX5_longest 1 = .ok (.invokestatic 38, 3) := by decide +kernel
theorem dX5_longest_4 : decode cX5_longest 4 = .ok (.aload_n 0, 1) := by decide +kernel
theorem dX5_longest_5 : decode cX5_longest 5 = .ok (.getfield 10, 3) := by decide +kernel
theorem dX5_longest_8 : decode cX5_longest 8 = .ok (.getfield 80, 3) := by decide +kernel
theorem dX5_longest_11 : decode cX5_longest 11 = .ok (.iload_n 1, 1) := by decide +kernel
theorem dX5_longest_12 : decode cX5_longest 12 = .ok (.invokevirtual 197, 3) := by decide +kernel
theorem dX5_longest_15 : decode cX5_longest 15 = .ok (.ireturn, 1) := by decide +kernel
theorem dX5_ifFollowed_0 : decode cX5_ifFollowed 0 = .ok (.iload_n 1, 1) := by decide +kernel
theorem dX5_ifFollowed_1 : decode cX5_ifFollowed 1 = .ok (.iload_n 2, 1) := by decide +kernel
theorem dX5_ifFollowed_2 : decode cX5_ifFollowed 2 = .ok (.invokestatic 50, 3) := by decide +kernel
theorem dX5_ifFollowed_5 : decode cX5_ifFollowed 5 = .ok (.iload_n 3, 1) := by decide +kernel
theorem dX5_ifFollowed_6 : decode cX5_ifFollowed 6 = .ok (.iconst 1, 1) := by decide +kernel
theorem dX5_ifFollowed_7 : decode cX5_ifFollowed 7 = .ok (.invokestatic 92, 3) := by decide +kernel
theorem dX5_ifFollowed_10 : decode cX5_ifFollowed 10 = .ok (.aload_n 0, 1) := by decide +kernel
theorem dX5_ifFollowed_11 : decode cX5_ifFollowed 11 = .ok (.getfield 10, 3) := by decide +kernel
theorem dX5_ifFollowed_14 : decode cX5_ifFollowed 14 = .ok (.getfield 80, 3) := by decide +kernel
theorem dX5_ifFollowed_17 : decode cX5_ifFollowed 17 = .ok (.iload_n 1, 1) := by decide +kernel
theorem dX5_ifFollowed_18 : decode cX5_ifFollowed 18 = .ok (.iload_n 2, 1) := by decide +kernel
theorem dX5_ifFollowed_19 : decode cX5_ifFollowed 19 = .ok (.iload_n 3, 1) := by decide +kernel
theorem dX5_ifFollowed_20 : decode cX5_ifFollowed 20 = .ok (.invokevirtual 200, 3) := by decide +kernel
theorem dX5_ifFollowed_23 : decode cX5_ifFollowed 23 = .ok (.ireturn, 1) := by decide +kernel
theorem dX5_scarcest_0 : decode cX5_scarcest 0 = .ok (.aload_n 0, 1) := by decide +kernel
theorem dX5_scarcest_1 : decode cX5_scarcest 1 = .ok (.getfield 10, 3) := by decide +kernel
theorem dX5_scarcest_4 : decode cX5_scarcest 4 = .ok (.getfield 80, 3) := by decide +kernel
theorem dX5_scarcest_7 : decode cX5_scarcest 7 = .ok (.invokevirtual 203, 3) := by decide +kernel
theorem dX5_scarcest_10 : decode cX5_scarcest 10 = .ok (.ireturn, 1) := by decide +kernel
theorem dX5_ripeShare_0 : decode cX5_ripeShare 0 = .ok (.aload_n 0, 1) := by decide +kernel
theorem dX5_ripeShare_1 : decode cX5_ripeShare 1 = .ok (.getfield 10, 3) := by decide +kernel
theorem dX5_ripeShare_4 : decode cX5_ripeShare 4 = .ok (.getfield 80, 3) := by decide +kernel
theorem dX5_ripeShare_7 : decode cX5_ripeShare 7 = .ok (.invokevirtual 206, 3) := by decide +kernel
theorem dX5_ripeShare_10 : decode cX5_ripeShare 10 = .ok (.dreturn, 1) := by decide +kernel
theorem dX5_meanAge_0 : decode cX5_meanAge 0 = .ok (.iload_n 1, 1) := by decide +kernel
theorem dX5_meanAge_1 : decode cX5_meanAge 1 = .ok (.invokestatic 38, 3) := by decide +kernel
theorem dX5_meanAge_4 : decode cX5_meanAge 4 = .ok (.aload_n 0, 1) := by decide +kernel
theorem dX5_meanAge_5 : decode cX5_meanAge 5 = .ok (.getfield 10, 3) := by decide +kernel
theorem dX5_meanAge_8 : decode cX5_meanAge 8 = .ok (.getfield 80, 3) := by decide +kernel
theorem dX5_meanAge_11 : decode cX5_meanAge 11 = .ok (.iload_n 1, 1) := by decide +kernel
theorem dX5_meanAge_12 : decode cX5_meanAge 12 = .ok (.invokevirtual 210, 3) := by decide +kernel
theorem dX5_meanAge_15 : decode cX5_meanAge 15 = .ok (.freturn, 1) := by decide +kernel
theorem dX5_digest_0 : decode cX5_digest 0 = .ok (.ldc2_w 214, 3) := by decide +kernel
theorem dX5_digest_3 : decode cX5_digest 3 = .ok (.lstore_n 1, 1) := by decide +kernel
theorem dX5_digest_4 : decode cX5_digest 4 = .ok (.iconst 0, 1) := by decide +kernel
theorem dX5_digest_5 : decode cX5_digest 5 = .ok (.istore_n 3, 1) := by decide +kernel
theorem dX5_digest_6 : decode cX5_digest 6 = .ok (.iload_n 3, 1) := by decide +kernel
theorem dX5_digest_7 : decode cX5_digest 7 = .ok (.bipush 9, 2) := by decide +kernel
theorem dX5_digest_9 : decode cX5_digest 9 = .ok (.if_icmp .gt 20, 3) := by decide +kernel
theorem dX5_digest_12 : decode cX5_digest 12 = .ok (.lload_n 1, 1) := by decide +kernel
theorem dX5_digest_13 : decode cX5_digest 13 = .ok (.aload_n 0, 1) := by decide +kernel
theorem dX5_digest_14 : decode cX5_digest 14 = .ok (.iload_n 3, 1) := by decide +kernel
theorem dX5_digest_15 : decode cX5_digest 15 = .ok (.invokevirtual 185, 3) := by decide +kernel
theorem dX5_digest_18 : decode cX5_digest 18 = .ok (.i2l, 1) := by decide +kernel
theorem dX5_digest_19 : decode cX5_digest 19 = .ok (.invokestatic 216, 3) := by decide +kernel
theorem dX5_digest_22 : decode cX5_digest 22 = .ok (.lstore_n 1, 1) := by decide +kernel
theorem dX5_digest_23 : decode cX5_digest 23 = .ok (.iinc 3 1, 3) := by decide +kernel
theorem dX5_digest_26 : decode cX5_digest 26 = .ok (.goto (-20), 3) := by decide +kernel
theorem dX5_digest_29 : decode cX5_digest 29 = .ok (.iconst 0, 1) := by decide +kernel
theorem dX5_digest_30 : decode cX5_digest 30 = .ok (.istore_n 3, 1) := by decide +kernel
theorem dX5_digest_31 : decode cX5_digest 31 = .ok (.iload_n 3, 1) := by decide +kernel
theorem dX5_digest_32 : decode cX5_digest 32 = .ok (.iconst 3, 1) := by decide +kernel
theorem dX5_digest_33 : decode cX5_digest 33 = .ok (.if_icmp .ge 24, 3) := by decide +kernel
theorem dX5_digest_36 : decode cX5_digest 36 = .ok (.lload_n 1, 1) := by decide +kernel
theorem dX5_digest_37 : decode cX5_digest 37 = .ok (.aload_n 0, 1) := by decide +kernel
theorem dX5_digest_38 : decode cX5_digest 38 = .ok (.getfield 10, 3) := by decide +kernel
theorem dX5_digest_41 : decode cX5_digest 41 = .ok (.getfield 129, 3) := by decide +kernel
theorem dX5_digest_44 : decode cX5_digest 44 = .ok (.iload_n 3, 1) := by decide +kernel
theorem dX5_digest_45 : decode cX5_digest 45 = .ok (.iaload, 1) := by decide +kernel
theorem dX5_digest_46 : decode cX5_digest 46 = .ok (.i2l, 1) := by decide +kernel
theorem dX5_digest_47 : decode cX5_digest 47 = .ok (.invokestatic 216, 3) := by decide +kernel
theorem dX5_digest_50 : decode cX5_digest 50 = .ok (.lstore_n 1, 1) := by decide +kernel
theorem dX5_digest_51 : decode cX5_digest 51 = .ok (.iinc 3 1, 3) := by decide +kernel
theorem dX5_digest_54 : decode cX5_digest 54 = .ok (.goto (-23), 3) := by decide +kernel
theorem dX5_digest_57 : decode cX5_digest 57 = .ok (.iconst 0, 1) := by decide +kernel
theorem dX5_digest_58 : decode cX5_digest 58 = .ok (.istore_n 3, 1) := by decide +kernel
theorem dX5_digest_59 : decode cX5_digest 59 = .ok (.iload_n 3, 1) := by decide +kernel
theorem dX5_digest_60 : decode cX5_digest 60 = .ok (.iconst 4, 1) := by decide +kernel
theorem dX5_digest_61 : decode cX5_digest 61 = .ok (.if_icmp .ge 16, 3) := by decide +kernel
theorem dX5_digest_64 : decode cX5_digest 64 = .ok (.aload_n 0, 1) := by decide +kernel
theorem dX5_digest_65 : decode cX5_digest 65 = .ok (.lload_n 1, 1) := by decide +kernel
theorem dX5_digest_66 : decode cX5_digest 66 = .ok (.iload_n 3, 1) := by decide +kernel
theorem dX5_digest_67 : decode cX5_digest 67 = .ok (.invokevirtual 220, 3) := by decide +kernel
theorem dX5_digest_70 : decode cX5_digest 70 = .ok (.lstore_n 1, 1) := by decide +kernel
theorem dX5_digest_71 : decode cX5_digest 71 = .ok (.iinc 3 1, 3) := by decide +kernel
theorem dX5_digest_74 : decode cX5_digest 74 = .ok (.goto (-15), 3) := by decide +kernel
theorem dX5_digest_77 : decode cX5_digest 77 = .ok (.lload_n 1, 1) := by decide +kernel
theorem dX5_digest_78 : decode cX5_digest 78 = .ok (.aload_n 0, 1) := by decide +kernel
theorem dX5_digest_79 : decode cX5_digest 79 = .ok (.getfield 10, 3) := by decide +kernel
theorem dX5_digest_82 : decode cX5_digest 82 = .ok (.getfield 80, 3) := by decide +kernel
theorem dX5_digest_85 : decode cX5_digest 85 = .ok (.invokevirtual 203, 3) := by decide +kernel
theorem dX5_digest_88 : decode cX5_digest 88 = .ok (.i2l, 1) := by decide +kernel
theorem dX5_digest_89 : decode cX5_digest 89 = .ok (.invokestatic 216, 3) := by decide +kernel
theorem dX5_digest_92 : decode cX5_digest 92 = .ok (.lstore_n 1, 1) := by decide +kernel
theorem dX5_digest_93 : decode cX5_digest 93 = .ok (.lload_n 1, 1) := by decide +kernel
theorem dX5_digest_94 : decode cX5_digest 94 = .ok (.aload_n 0, 1) := by decide +kernel
theorem dX5_digest_95 : decode cX5_digest 95 = .ok (.getfield 10, 3) := by decide +kernel
theorem dX5_digest_98 : decode cX5_digest 98 = .ok (.getfield 80, 3) := by decide +kernel
theorem dX5_digest_101 : decode cX5_digest 101 = .ok (.invokevirtual 206, 3) := by decide +kernel
theorem dX5_digest_104 : decode cX5_digest 104 = .ok (.bipush 52, 2) := by decide +kernel
theorem dX5_digest_106 : decode cX5_digest 106 = .ok (.sipush 1023, 3) := by decide +kernel
theorem dX5_digest_109 : decode cX5_digest 109 = .ok (.invokestatic 224, 3) := by decide +kernel
theorem dX5_digest_112 : decode cX5_digest 112 = .ok (.invokestatic 216, 3) := by decide +kernel
theorem dX5_digest_115 : decode cX5_digest 115 = .ok (.lstore_n 1, 1) := by decide +kernel
theorem dX5_digest_116 : decode cX5_digest 116 = .ok (.iconst 0, 1) := by decide +kernel
theorem dX5_digest_117 : decode cX5_digest 117 = .ok (.istore_n 3, 1) := by decide +kernel
theorem dX5_digest_118 : decode cX5_digest 118 = .ok (.iload_n 3, 1) := by decide +kernel
theorem dX5_digest_119 : decode cX5_digest 119 = .ok (.iconst 2, 1) := by decide +kernel
theorem dX5_digest_120 : decode cX5_digest 120 = .ok (.if_icmp .ge 28, 3) := by decide +kernel
theorem dX5_digest_123 : decode cX5_digest 123 = .ok (.lload_n 1, 1) := by decide +kernel
theorem dX5_digest_124 : decode cX5_digest 124 = .ok (.aload_n 0, 1) := by decide +kernel
theorem dX5_digest_125 : decode cX5_digest 125 = .ok (.getfield 27, 3) := by decide +kernel
theorem dX5_digest_128 : decode cX5_digest 128 = .ok (.iload_n 3, 1) := by decide +kernel
theorem dX5_digest_129 : decode cX5_digest 129 = .ok (.baload, 1) := by decide +kernel
theorem dX5_digest_130 : decode cX5_digest 130 = .ok (.ifCond .eq 7, 3) := by decide +kernel
theorem dX5_digest_133 : decode cX5_digest 133 = .ok (.lconst 1, 1) := by decide +kernel
theorem dX5_digest_134 : decode cX5_digest 134 = .ok (.goto 4, 3) := by decide +kernel
theorem dX5_digest_137 : decode cX5_digest 137 = .ok (.lconst 0, 1) := by decide +kernel
theorem dX5_digest_138 : decode cX5_digest 138 = .ok (.invokestatic 216, 3) := by decide +kernel
theorem dX5_digest_141 : decode cX5_digest 141 = .ok (.lstore_n 1, 1) := by decide +kernel
theorem dX5_digest_142 : decode cX5_digest 142 = .ok (.iinc 3 1, 3) := by decide +kernel
theorem dX5_digest_145 : decode cX5_digest 145 = .ok (.goto (-27), 3) := by decide +kernel
theorem dX5_digest_148 : decode cX5_digest 148 = .ok (.lload_n 1, 1) := by decide +kernel
theorem dX5_digest_149 : decode cX5_digest 149 = .ok (.aload_n 0, 1) := by decide +kernel
theorem dX5_digest_150 : decode cX5_digest 150 = .ok (.getfield 34, 3) := by decide +kernel
theorem dX5_digest_153 : decode cX5_digest 153 = .ok (.getfield 141, 3) := by decide +kernel
theorem dX5_digest_156 : decode cX5_digest 156 = .ok (.i2l, 1) := by decide +kernel
theorem dX5_digest_157 : decode cX5_digest 157 = .ok (.invokestatic 216, 3) := by decide +kernel
theorem dX5_digest_160 : decode cX5_digest 160 = .ok (.lstore_n 1, 1) := by decide +kernel
theorem dX5_digest_161 : decode cX5_digest 161 = .ok (.iconst 0, 1) := by decide +kernel
theorem dX5_digest_162 : decode cX5_digest 162 = .ok (.istore_n 3, 1) := by decide +kernel
theorem dX5_digest_163 : decode cX5_digest 163 = .ok (.iload_n 3, 1) := by decide +kernel
theorem dX5_digest_164 : decode cX5_digest 164 = .ok (.aload_n 0, 1) := by decide +kernel
theorem dX5_digest_165 : decode cX5_digest 165 = .ok (.getfield 34, 3) := by decide +kernel
theorem dX5_digest_168 : decode cX5_digest 168 = .ok (.getfield 141, 3) := by decide +kernel
theorem dX5_digest_171 : decode cX5_digest 171 = .ok (.if_icmp .ge 23, 3) := by decide +kernel
theorem dX5_digest_174 : decode cX5_digest 174 = .ok (.lload_n 1, 1) := by decide +kernel
theorem dX5_digest_175 : decode cX5_digest 175 = .ok (.aload_n 0, 1) := by decide +kernel
theorem dX5_digest_176 : decode cX5_digest 176 = .ok (.getfield 34, 3) := by decide +kernel
theorem dX5_digest_179 : decode cX5_digest 179 = .ok (.iload_n 3, 1) := by decide +kernel
theorem dX5_digest_180 : decode cX5_digest 180 = .ok (.invokevirtual 228, 3) := by decide +kernel
theorem dX5_digest_183 : decode cX5_digest 183 = .ok (.i2l, 1) := by decide +kernel
theorem dX5_digest_184 : decode cX5_digest 184 = .ok (.invokestatic 216, 3) := by decide +kernel
theorem dX5_digest_187 : decode cX5_digest 187 = .ok (.lstore_n 1, 1) := by decide +kernel
theorem dX5_digest_188 : decode cX5_digest 188 = .ok (.iinc 3 1, 3) := by decide +kernel
theorem dX5_digest_191 : decode cX5_digest 191 = .ok (.goto (-28), 3) := by decide +kernel
theorem dX5_digest_194 : decode cX5_digest 194 = .ok (.lload_n 1, 1) := by decide +kernel
theorem dX5_digest_195 : decode cX5_digest 195 = .ok (.lreturn, 1) := by decide +kernel
theorem dX5_isKind_0 : decode cX5_isKind 0 = .ok (.iload_n 0, 1) := by decide +kernel
theorem dX5_isKind_1 : decode cX5_isKind 1 = .ok (.ifCond .lt 12, 3) := by decide +kernel
theorem dX5_isKind_4 : decode cX5_isKind 4 = .ok (.iload_n 0, 1) := by decide +kernel
theorem dX5_isKind_5 : decode cX5_isKind 5 = .ok (.iconst 4, 1) := by decide +kernel
theorem dX5_isKind_6 : decode cX5_isKind 6 = .ok (.if_icmp .ge 7, 3) := by decide +kernel
theorem dX5_isKind_9 : decode cX5_isKind 9 = .ok (.iconst 1, 1) := by decide +kernel
theorem dX5_isKind_10 : decode cX5_isKind 10 = .ok (.goto 4, 3) := by decide +kernel
theorem dX5_isKind_13 : decode cX5_isKind 13 = .ok (.iconst 0, 1) := by decide +kernel
theorem dX5_isKind_14 : decode cX5_isKind 14 = .ok (.ireturn, 1) := by decide +kernel
theorem dX5_isKey_0 : decode cX5_isKey 0 = .ok (.iload_n 0, 1) := by decide +kernel
theorem dX5_isKey_1 : decode cX5_isKey 1 = .ok (.ifCond .lt 13, 3) := by decide +kernel
theorem dX5_isKey_4 : decode cX5_isKey 4 = .ok (.iload_n 0, 1) := by decide +kernel
theorem dX5_isKey_5 : decode cX5_isKey 5 = .ok (.bipush 16, 2) := by decide +kernel
theorem dX5_isKey_7 : decode cX5_isKey 7 = .ok (.if_icmp .ge 7, 3) := by decide +kernel
theorem dX5_isKey_10 : decode cX5_isKey 10 = .ok (.iconst 1, 1) := by decide +kernel
theorem dX5_isKey_11 : decode cX5_isKey 11 = .ok (.goto 4, 3) := by decide +kernel
theorem dX5_isKey_14 : decode cX5_isKey 14 = .ok (.iconst 0, 1) := by decide +kernel
theorem dX5_isKey_15 : decode cX5_isKey 15 = .ok (.ireturn, 1) := by decide +kernel
theorem dX5_needKind_0 : decode cX5_needKind 0 = .ok (.iload_n 0, 1) := by decide +kernel
theorem dX5_needKind_1 : decode cX5_needKind 1 = .ok (.invokestatic 231, 3) := by decide +kernel
theorem dX5_needKind_4 : decode cX5_needKind 4 = .ok (.ifCond .ne 13, 3) := by decide +kernel
theorem dX5_needKind_7 : decode cX5_needKind 7 = .ok (.new 234, 3) := by decide +kernel
theorem dX5_needKind_10 : decode cX5_needKind 10 = .ok (.dup, 1) := by decide +kernel
theorem dX5_needKind_11 : decode cX5_needKind 11 = .ok (.ldc 236, 2) := by decide +kernel
theorem dX5_needKind_13 : decode cX5_needKind 13 = .ok (.invokespecial 238, 3) := by decide +kernel
theorem dX5_needKind_16 : decode cX5_needKind 16 = .ok (.athrow, 1) := by decide +kernel
theorem dX5_needKind_17 : decode cX5_needKind 17 = .ok (.return_, 1) := by decide +kernel
theorem dX5_needKey_0 : decode cX5_needKey 0 = .ok (.iload_n 0, 1) := by decide +kernel
theorem dX5_needKey_1 : decode cX5_needKey 1 = .ok (.invokestatic 231, 3) := by decide +kernel
theorem dX5_needKey_4 : decode cX5_needKey 4 = .ok (.ifCond .eq 10, 3) := by decide +kernel
theorem dX5_needKey_7 : decode cX5_needKey 7 = .ok (.iload_n 1, 1) := by decide +kernel
theorem dX5_needKey_8 : decode cX5_needKey 8 = .ok (.invokestatic 239, 3) := by decide +kernel
theorem dX5_needKey_11 : decode cX5_needKey 11 = .ok (.ifCond .ne 13, 3) := by decide +kernel
theorem dX5_needKey_14 : decode cX5_needKey 14 = .ok (.new 234, 3) := by decide +kernel
theorem dX5_needKey_17 : decode cX5_needKey 17 = .ok (.dup, 1) := by decide +kernel
theorem dX5_needKey_18 : decode cX5_needKey 18 = .ok (.ldc 242, 2) := by decide +kernel
theorem dX5_needKey_20 : decode cX5_needKey 20 = .ok (.invokespecial 238, 3) := by decide +kernel
theorem dX5_needKey_23 : decode cX5_needKey 23 = .ok (.athrow, 1) := by decide +kernel
theorem dX5_needKey_24 : decode cX5_needKey 24 = .ok (.return_, 1) := by decide +kernel
theorem dX5_needSetting_0 : decode cX5_needSetting 0 = .ok (.iload_n 0, 1) := by decide +kernel
theorem dX5_needSetting_1 : decode cX5_needSetting 1 = .ok (.ifCond .lt 8, 3) := by decide +kernel
theorem dX5_needSetting_4 : decode cX5_needSetting 4 = .ok (.iload_n 0, 1) := by decide +kernel
theorem dX5_needSetting_5 : decode cX5_needSetting 5 = .ok (.iconst 3, 1) := by decide +kernel
theorem dX5_needSetting_6 : decode cX5_needSetting 6 = .ok (.if_icmp .lt 13, 3) := by decide +kernel
theorem dX5_needSetting_9 : decode cX5_needSetting 9 = .ok (.new 234, 3) := by decide +kernel
theorem dX5_needSetting_12 : decode cX5_needSetting 12 = .ok (.dup, 1) := by decide +kernel
theorem dX5_needSetting_13 : decode cX5_needSetting 13 = .ok (.ldc 244, 2) := by decide +kernel
theorem dX5_needSetting_15 : decode cX5_needSetting 15 = .ok (.invokespecial 238, 3) := by decide +kernel
theorem dX5_needSetting_18 : decode cX5_needSetting 18 = .ok (.athrow, 1) := by decide +kernel
theorem dX5_needSetting_19 : decode cX5_needSetting 19 = .ok (.return_, 1) := by decide +kernel
theorem dX5_needAtLeast_0 : decode cX5_needAtLeast 0 = .ok (.iload_n 0, 1) := by decide +kernel
theorem dX5_needAtLeast_1 : decode cX5_needAtLeast 1 = .ok (.iload_n 1, 1) := by decide +kernel
theorem dX5_needAtLeast_2 : decode cX5_needAtLeast 2 = .ok (.if_icmp .ge 13, 3) := by decide +kernel
theorem dX5_needAtLeast_5 : decode cX5_needAtLeast 5 = .ok (.new 151, 3) := by decide +kernel
theorem dX5_needAtLeast_8 : decode cX5_needAtLeast 8 = .ok (.dup, 1) := by decide +kernel
theorem dX5_needAtLeast_9 : decode cX5_needAtLeast 9 = .ok (.ldc 246, 2) := by decide +kernel
theorem dX5_needAtLeast_11 : decode cX5_needAtLeast 11 = .ok (.invokespecial 155, 3) := by decide +kernel
theorem dX5_needAtLeast_14 : decode cX5_needAtLeast 14 = .ok (.athrow, 1) := by decide +kernel
theorem dX5_needAtLeast_15 : decode cX5_needAtLeast 15 = .ok (.return_, 1) := by decide +kernel
theorem dX5_needRange_0 : decode cX5_needRange 0 = .ok (.iload_n 0, 1) := by decide +kernel
theorem dX5_needRange_1 : decode cX5_needRange 1 = .ok (.iload_n 1, 1) := by decide +kernel
theorem dX5_needRange_2 : decode cX5_needRange 2 = .ok (.if_icmp .lt 8, 3) := by decide +kernel
theorem dX5_needRange_5 : decode cX5_needRange 5 = .ok (.iload_n 0, 1) := by decide +kernel
theorem dX5_needRange_6 : decode cX5_needRange 6 = .ok (.iload_n 2, 1) := by decide +kernel
theorem dX5_needRange_7 : decode cX5_needRange 7 = .ok (.if_icmp .le 13, 3) := by decide +kernel
theorem dX5_needRange_10 : decode cX5_needRange 10 = .ok (.new 151, 3) := by decide +kernel
theorem dX5_needRange_13 : decode cX5_needRange 13 = .ok (.dup, 1) := by decide +kernel
theorem dX5_needRange_14 : decode cX5_needRange 14 = .ok (.ldc 248, 2) := by decide +kernel
theorem dX5_needRange_16 : decode cX5_needRange 16 = .ok (.invokespecial 155, 3) := by decide +kernel
theorem dX5_needRange_19 : decode cX5_needRange 19 = .ok (.athrow, 1) := by decide +kernel
theorem dX5_needRange_20 : decode cX5_needRange 20 = .ok (.return_, 1) := by decide +kernel
theorem dX5_doOrder_0 : decode cX5_doOrder 0 = .ok (.aload_n 0, 1) := by decide +kernel
theorem dX5_doOrder_1 : decode cX5_doOrder 1 = .ok (.getfield 34, 3) := by decide +kernel
theorem dX5_doOrder_4 : decode cX5_doOrder 4 = .ok (.iload_n 1, 1) := by decide +kernel
theorem dX5_doOrder_5 : decode cX5_doOrder 5 = .ok (.invokevirtual 228, 3) := by decide +kernel
theorem dX5_doOrder_8 : decode cX5_doOrder 8 = .ok (.istore_n 2, 1) := by decide +kernel
theorem dX5_doOrder_9 : decode cX5_doOrder 9 = .ok (.aload_n 0, 1) := by decide +kernel
theorem dX5_doOrder_10 : decode cX5_doOrder 10 = .ok (.getfield 34, 3) := by decide +kernel
theorem dX5_doOrder_13 : decode cX5_doOrder 13 = .ok (.iload_n 1, 1) := by decide +kernel
theorem dX5_doOrder_14 : decode cX5_doOrder 14 = .ok (.iconst 1, 1) := by decide +kernel
theorem dX5_doOrder_15 : decode cX5_doOrder 15 = .ok (.iadd, 1) := by decide +kernel
theorem dX5_doOrder_16 : decode cX5_doOrder 16 = .ok (.invokevirtual 250, 3) := by decide +kernel
theorem dX5_doOrder_19 : decode cX5_doOrder 19 = .ok (.istore_n 3, 1) := by decide +kernel
theorem dX5_doOrder_20 : decode cX5_doOrder 20 = .ok (.iload_n 2, 1) := by decide +kernel
theorem dX5_doOrder_21 : decode cX5_doOrder 21 = .ok (.lookupswitch 73 #[(97, 35), (112, 61), (116, 67)], 35) := by decide +kernel
theorem dX5_doOrder_56 : decode cX5_doOrder 56 = .ok (.iload_n 3, 1) := by decide +kernel
theorem dX5_doOrder_57 : decode cX5_doOrder 57 = .ok (.invokestatic 231, 3) := by decide +kernel
theorem dX5_doOrder_60 : decode cX5_doOrder 60 = .ok (.ifCond .eq 20, 3) := by decide +kernel
theorem dX5_doOrder_63 : decode cX5_doOrder 63 = .ok (.aload_n 0, 1) := by decide +kernel
theorem dX5_doOrder_64 : decode cX5_doOrder 64 = .ok (.getfield 10, 3) := by decide +kernel
theorem dX5_doOrder_67 : decode cX5_doOrder 67 = .ok (.iload_n 3, 1) := by decide +kernel
theorem dX5_doOrder_68 : decode cX5_doOrder 68 = .ok (.invokevirtual 46, 3) := by decide +kernel
theorem dX5_doOrder_71 : decode cX5_doOrder 71 = .ok (.bipush 100, 2) := by decide +kernel
theorem dX5_doOrder_73 : decode cX5_doOrder 73 = .ok (.if_icmp .ge 7, 3) := by decide +kernel
theorem dX5_doOrder_76 : decode cX5_doOrder 76 = .ok (.iconst 1, 1) := by decide +kernel
theorem dX5_doOrder_77 : decode cX5_doOrder 77 = .ok (.goto 4, 3) := by decide +kernel
theorem dX5_doOrder_80 : decode cX5_doOrder 80 = .ok (.iconst 0, 1) := by decide +kernel
theorem dX5_doOrder_81 : decode cX5_doOrder 81 = .ok (.ireturn, 1) := by decide +kernel
theorem dX5_doOrder_82 : decode cX5_doOrder 82 = .ok (.aload_n 0, 1) := by decide +kernel
theorem dX5_doOrder_83 : decode cX5_doOrder 83 = .ok (.iload_n 3, 1) := by decide +kernel
theorem dX5_doOrder_84 : decode cX5_doOrder 84 = .ok (.invokevirtual 253, 3) := by decide +kernel
theorem dX5_doOrder_87 : decode cX5_doOrder 87 = .ok (.ireturn, 1) := by decide +kernel
theorem dX5_doOrder_88 : decode cX5_doOrder 88 = .ok (.aload_n 0, 1) := by decide +kernel
theorem dX5_doOrder_89 : decode cX5_doOrder 89 = .ok (.iload_n 3, 1) := by decide +kernel
theorem dX5_doOrder_90 : decode cX5_doOrder 90 = .ok (.invokevirtual 256, 3) := by decide +kernel
theorem dX5_doOrder_93 : decode cX5_doOrder 93 = .ok (.ireturn, 1) := by decide +kernel
theorem dX5_doOrder_94 : decode cX5_doOrder 94 = .ok (.aload_n 0, 1) := by decide +kernel
theorem dX5_doOrder_95 : decode cX5_doOrder 95 = .ok (.iload_n 2, 1) := by decide +kernel
theorem dX5_doOrder_96 : decode cX5_doOrder 96 = .ok (.iload_n 3, 1) := by decide +kernel
theorem dX5_doOrder_97 : decode cX5_doOrder 97 = .ok (.aload_n 0, 1) := by decide +kernel
theorem dX5_doOrder_98 : decode cX5_doOrder 98 = .ok (.getfield 34, 3) := by decide +kernel
theorem dX5_doOrder_101 : decode cX5_doOrder 101 = .ok (.iload_n 1, 1) := by decide +kernel
theorem dX5_doOrder_102 : decode cX5_doOrder 102 = .ok (.iconst 3, 1) := by decide +kernel
theorem dX5_doOrder_103 : decode cX5_doOrder 103 = .ok (.iadd, 1) := by decide +kernel
theorem dX5_doOrder_104 : decode cX5_doOrder 104 = .ok (.invokevirtual 250, 3) := by decide +kernel
theorem dX5_doOrder_107 : decode cX5_doOrder 107 = .ok (.invokevirtual 259, 3) := by decide +kernel
theorem dX5_doOrder_110 : decode cX5_doOrder 110 = .ok (.ireturn, 1) := by decide +kernel
theorem dX5_turnIfKind_0 : decode cX5_turnIfKind 0 = .ok (.iload_n 1, 1) := by decide +kernel
theorem dX5_turnIfKind_1 : decode cX5_turnIfKind 1 = .ok (.invokestatic 231, 3) := by decide +kernel
theorem dX5_turnIfKind_4 : decode cX5_turnIfKind 4 = .ok (.ifCond .ne 5, 3) := by decide +kernel
theorem dX5_turnIfKind_7 : decode cX5_turnIfKind 7 = .ok (.iconst 0, 1) := by decide +kernel
theorem dX5_turnIfKind_8 : decode cX5_turnIfKind 8 = .ok (.ireturn, 1) := by decide +kernel
theorem dX5_turnIfKind_9 : decode cX5_turnIfKind 9 = .ok (.aload_n 0, 1) := by decide +kernel
theorem dX5_turnIfKind_10 : decode cX5_turnIfKind 10 = .ok (.getfield 10, 3) := by decide +kernel
theorem dX5_turnIfKind_13 : decode cX5_turnIfKind 13 = .ok (.getfield 80, 3) := by decide +kernel
theorem dX5_turnIfKind_16 : decode cX5_turnIfKind 16 = .ok (.iload_n 1, 1) := by decide +kernel
theorem dX5_turnIfKind_17 : decode cX5_turnIfKind 17 = .ok (.invokevirtual 84, 3) := by decide +kernel
theorem dX5_turnIfKind_20 : decode cX5_turnIfKind 20 = .ok (.iconst 1, 1) := by decide +kernel
theorem dX5_turnIfKind_21 : decode cX5_turnIfKind 21 = .ok (.ireturn, 1) := by decide +kernel
theorem dX5_passIfCan_0 : decode cX5_passIfCan 0 = .ok (.aload_n 0, 1) := by decide +kernel
theorem dX5_passIfCan_1 : decode cX5_passIfCan 1 = .ok (.getfield 10, 3) := by decide +kernel
theorem dX5_passIfCan_4 : decode cX5_passIfCan 4 = .ok (.getfield 80, 3) := by decide +kernel
theorem dX5_passIfCan_7 : decode cX5_passIfCan 7 = .ok (.iload_n 1, 1) := by decide +kernel
theorem dX5_passIfCan_8 : decode cX5_passIfCan 8 = .ok (.invokevirtual 103, 3) := by decide +kernel
theorem dX5_passIfCan_11 : decode cX5_passIfCan 11 = .ok (.ifCond .ne 5, 3) := by decide +kernel
theorem dX5_passIfCan_14 : decode cX5_passIfCan 14 = .ok (.iconst 0, 1) := by decide +kernel
theorem dX5_passIfCan_15 : decode cX5_passIfCan 15 = .ok (.ireturn, 1) := by decide +kernel
theorem dX5_passIfCan_16 : decode cX5_passIfCan 16 = .ok (.aload_n 0, 1) := by decide +kernel
theorem dX5_passIfCan_17 : decode cX5_passIfCan 17 = .ok (.getfield 10, 3) := by decide +kernel
theorem dX5_passIfCan_20 : decode cX5_passIfCan 20 = .ok (.getfield 80, 3) := by decide +kernel
theorem dX5_passIfCan_23 : decode cX5_passIfCan 23 = .ok (.iload_n 1, 1) := by decide +kernel
theorem dX5_passIfCan_24 : decode cX5_passIfCan 24 = .ok (.invokevirtual 109, 3) := by decide +kernel
theorem dX5_passIfCan_27 : decode cX5_passIfCan 27 = .ok (.iconst 1, 1) := by decide +kernel
theorem dX5_passIfCan_28 : decode cX5_passIfCan 28 = .ok (.ireturn, 1) := by decide +kernel
theorem dX5_doRowOrder_0 : decode cX5_doRowOrder 0 = .ok (.iload_n 2, 1) := by decide +kernel
theorem dX5_doRowOrder_1 : decode cX5_doRowOrder 1 = .ok (.invokestatic 231, 3) := by decide +kernel
theorem dX5_doRowOrder_4 : decode cX5_doRowOrder 4 = .ok (.ifCond .eq 10, 3) := by decide +kernel
theorem dX5_doRowOrder_7 : decode cX5_doRowOrder 7 = .ok (.iload_n 3, 1) := by decide +kernel
theorem dX5_doRowOrder_8 : decode cX5_doRowOrder 8 = .ok (.invokestatic 239, 3) := by decide +kernel
theorem dX5_doRowOrder_11 : decode cX5_doRowOrder 11 = .ok (.ifCond .ne 5, 3) := by decide +kernel
theorem dX5_doRowOrder_14 : decode cX5_doRowOrder 14 = .ok (.iconst 0, 1) := by decide +kernel
theorem dX5_doRowOrder_15 : decode cX5_doRowOrder 15 = .ok (.ireturn, 1) := by decide +kernel
theorem dX5_doRowOrder_16 : decode cX5_doRowOrder 16 = .ok (.iload_n 1, 1) := by decide +kernel
theorem dX5_doRowOrder_17 : decode cX5_doRowOrder 17 = .ok (.bipush 100, 2) := by decide +kernel
theorem dX5_doRowOrder_19 : decode cX5_doRowOrder 19 = .ok (.if_icmp .ne 27, 3) := by decide +kernel
theorem dX5_doRowOrder_22 : decode cX5_doRowOrder 22 = .ok (.aload_n 0, 1) := by decide +kernel
theorem dX5_doRowOrder_23 : decode cX5_doRowOrder 23 = .ok (.getfield 10, 3) := by decide +kernel
theorem dX5_doRowOrder_26 : decode cX5_doRowOrder 26 = .ok (.iload_n 2, 1) := by decide +kernel
theorem dX5_doRowOrder_27 : decode cX5_doRowOrder 27 = .ok (.iload_n 3, 1) := by decide +kernel
theorem dX5_doRowOrder_28 : decode cX5_doRowOrder 28 = .ok (.invokevirtual 58, 3) := by decide +kernel
theorem dX5_doRowOrder_31 : decode cX5_doRowOrder 31 = .ok (.ifCond .eq 15, 3) := by decide +kernel
theorem dX5_doRowOrder_34 : decode cX5_doRowOrder 34 = .ok (.aload_n 0, 1) := by decide +kernel
theorem dX5_doRowOrder_35 : decode cX5_doRowOrder 35 = .ok (.getfield 10, 3) := by decide +kernel
theorem dX5_doRowOrder_38 : decode cX5_doRowOrder 38 = .ok (.iload_n 2, 1) := by decide +kernel
theorem dX5_doRowOrder_39 : decode cX5_doRowOrder 39 = .ok (.iload_n 3, 1) := by decide +kernel
theorem dX5_doRowOrder_40 : decode cX5_doRowOrder 40 = .ok (.invokevirtual 69, 3) := by decide +kernel
theorem dX5_doRowOrder_43 : decode cX5_doRowOrder 43 = .ok (.pop, 1) := by decide +kernel
theorem dX5_doRowOrder_44 : decode cX5_doRowOrder 44 = .ok (.iconst 1, 1) := by decide +kernel
theorem dX5_doRowOrder_45 : decode cX5_doRowOrder 45 = .ok (.ireturn, 1) := by decide +kernel
theorem dX5_doRowOrder_46 : decode cX5_doRowOrder 46 = .ok (.iload_n 1, 1) := by decide +kernel
theorem dX5_doRowOrder_47 : decode cX5_doRowOrder 47 = .ok (.bipush 98, 2) := by decide +kernel
theorem dX5_doRowOrder_49 : decode cX5_doRowOrder 49 = .ok (.if_icmp .ne 27, 3) := by decide +kernel
theorem dX5_doRowOrder_52 : decode cX5_doRowOrder 52 = .ok (.aload_n 0, 1) := by decide +kernel
theorem dX5_doRowOrder_53 : decode cX5_doRowOrder 53 = .ok (.getfield 10, 3) := by decide +kernel
theorem dX5_doRowOrder_56 : decode cX5_doRowOrder 56 = .ok (.iload_n 2, 1) := by decide +kernel
theorem dX5_doRowOrder_57 : decode cX5_doRowOrder 57 = .ok (.iload_n 3, 1) := by decide +kernel
theorem dX5_doRowOrder_58 : decode cX5_doRowOrder 58 = .ok (.invokevirtual 72, 3) := by decide +kernel
theorem dX5_doRowOrder_61 : decode cX5_doRowOrder 61 = .ok (.ifCond .eq 15, 3) := by decide +kernel
theorem dX5_doRowOrder_64 : decode cX5_doRowOrder 64 = .ok (.aload_n 0, 1) := by decide +kernel
theorem dX5_doRowOrder_65 : decode cX5_doRowOrder 65 = .ok (.getfield 10, 3) := by decide +kernel
theorem dX5_doRowOrder_68 : decode cX5_doRowOrder 68 = .ok (.iload_n 2, 1) := by decide +kernel
theorem dX5_doRowOrder_69 : decode cX5_doRowOrder 69 = .ok (.iload_n 3, 1) := by decide +kernel
theorem dX5_doRowOrder_70 : decode cX5_doRowOrder 70 = .ok (.invokevirtual 77, 3) := by decide +kernel
theorem dX5_doRowOrder_73 : decode cX5_doRowOrder 73 = .ok (.pop, 1) := by decide +kernel
theorem dX5_doRowOrder_74 : decode cX5_doRowOrder 74 = .ok (.iconst 1, 1) := by decide +kernel
theorem dX5_doRowOrder_75 : decode cX5_doRowOrder 75 = .ok (.ireturn, 1) := by decide +kernel
theorem dX5_doRowOrder_76 : decode cX5_doRowOrder 76 = .ok (.iconst 0, 1) := by decide +kernel
theorem dX5_doRowOrder_77 : decode cX5_doRowOrder 77 = .ok (.ireturn, 1) := by decide +kernel
theorem dX5_numberOf_0 : decode cX5_numberOf 0 = .ok (.iload_n 1, 1) := by decide +kernel
theorem dX5_numberOf_1 : decode cX5_numberOf 1 = .ok (.tableswitch 152 0 8 #[51, 62, 74, 85, 97, 108, 119, 130, 141], 51) := by decide +kernel
theorem dX5_numberOf_52 : decode cX5_numberOf 52 = .ok (.aload_n 0, 1) := by decide +kernel
theorem dX5_numberOf_53 : decode cX5_numberOf 53 = .ok (.getfield 10, 3) := by decide +kernel
theorem dX5_numberOf_56 : decode cX5_numberOf 56 = .ok (.getfield 80, 3) := by decide +kernel
theorem dX5_numberOf_59 : decode cX5_numberOf 59 = .ok (.getfield 166, 3) := by decide +kernel
theorem dX5_numberOf_62 : decode cX5_numberOf 62 = .ok (.ireturn, 1) := by decide +kernel
theorem dX5_numberOf_63 : decode cX5_numberOf 63 = .ok (.aload_n 0, 1) := by decide +kernel
theorem dX5_numberOf_64 : decode cX5_numberOf 64 = .ok (.getfield 10, 3) := by decide +kernel
theorem dX5_numberOf_67 : decode cX5_numberOf 67 = .ok (.getfield 80, 3) := by decide +kernel
theorem dX5_numberOf_70 : decode cX5_numberOf 70 = .ok (.iconst 1, 1) := by decide +kernel
theorem dX5_numberOf_71 : decode cX5_numberOf 71 = .ok (.invokevirtual 263, 3) := by decide +kernel
theorem dX5_numberOf_74 : decode cX5_numberOf 74 = .ok (.ireturn, 1) := by decide +kernel
theorem dX5_numberOf_75 : decode cX5_numberOf 75 = .ok (.aload_n 0, 1) := by decide +kernel
theorem dX5_numberOf_76 : decode cX5_numberOf 76 = .ok (.getfield 10, 3) := by decide +kernel
theorem dX5_numberOf_79 : decode cX5_numberOf 79 = .ok (.getfield 266, 3) := by decide +kernel
theorem dX5_numberOf_82 : decode cX5_numberOf 82 = .ok (.invokevirtual 270, 3) := by decide +kernel
theorem dX5_numberOf_85 : decode cX5_numberOf 85 = .ok (.ireturn, 1) := by decide +kernel
theorem dX5_numberOf_86 : decode cX5_numberOf 86 = .ok (.aload_n 0, 1) := by decide +kernel
theorem dX5_numberOf_87 : decode cX5_numberOf 87 = .ok (.getfield 10, 3) := by decide +kernel
theorem dX5_numberOf_90 : decode cX5_numberOf 90 = .ok (.getfield 80, 3) := by decide +kernel
theorem dX5_numberOf_93 : decode cX5_numberOf 93 = .ok (.iconst 2, 1) := by decide +kernel
theorem dX5_numberOf_94 : decode cX5_numberOf 94 = .ok (.invokevirtual 263, 3) := by decide +kernel
theorem dX5_numberOf_97 : decode cX5_numberOf 97 = .ok (.ireturn, 1) := by decide +kernel
theorem dX5_numberOf_98 : decode cX5_numberOf 98 = .ok (.aload_n 0, 1) := by decide +kernel
theorem dX5_numberOf_99 : decode cX5_numberOf 99 = .ok (.getfield 10, 3) := by decide +kernel
theorem dX5_numberOf_102 : decode cX5_numberOf 102 = .ok (.getfield 80, 3) := by decide +kernel
theorem dX5_numberOf_105 : decode cX5_numberOf 105 = .ok (.invokevirtual 112, 3) := by decide +kernel
theorem dX5_numberOf_108 : decode cX5_numberOf 108 = .ok (.ireturn, 1) := by decide +kernel
theorem dX5_numberOf_109 : decode cX5_numberOf 109 = .ok (.aload_n 0, 1) := by decide +kernel
theorem dX5_numberOf_110 : decode cX5_numberOf 110 = .ok (.getfield 10, 3) := by decide +kernel
theorem dX5_numberOf_113 : decode cX5_numberOf 113 = .ok (.getfield 266, 3) := by decide +kernel
theorem dX5_numberOf_116 : decode cX5_numberOf 116 = .ok (.getfield 275, 3) := by decide +kernel
theorem dX5_numberOf_119 : decode cX5_numberOf 119 = .ok (.ireturn, 1) := by decide +kernel
theorem dX5_numberOf_120 : decode cX5_numberOf 120 = .ok (.aload_n 0, 1) := by decide +kernel
theorem dX5_numberOf_121 : decode cX5_numberOf 121 = .ok (.getfield 10, 3) := by decide +kernel
theorem dX5_numberOf_124 : decode cX5_numberOf 124 = .ok (.getfield 266, 3) := by decide +kernel
theorem dX5_numberOf_127 : decode cX5_numberOf 127 = .ok (.getfield 278, 3) := by decide +kernel
theorem dX5_numberOf_130 : decode cX5_numberOf 130 = .ok (.ireturn, 1) := by decide +kernel
theorem dX5_numberOf_131 : decode cX5_numberOf 131 = .ok (.aload_n 0, 1) := by decide +kernel
theorem dX5_numberOf_132 : decode cX5_numberOf 132 = .ok (.getfield 10, 3) := by decide +kernel
theorem dX5_numberOf_135 : decode cX5_numberOf 135 = .ok (.getfield 266, 3) := by decide +kernel
theorem dX5_numberOf_138 : decode cX5_numberOf 138 = .ok (.getfield 281, 3) := by decide +kernel
theorem dX5_numberOf_141 : decode cX5_numberOf 141 = .ok (.ireturn, 1) := by decide +kernel
theorem dX5_numberOf_142 : decode cX5_numberOf 142 = .ok (.aload_n 0, 1) := by decide +kernel
theorem dX5_numberOf_143 : decode cX5_numberOf 143 = .ok (.getfield 10, 3) := by decide +kernel
theorem dX5_numberOf_146 : decode cX5_numberOf 146 = .ok (.getfield 80, 3) := by decide +kernel
theorem dX5_numberOf_149 : decode cX5_numberOf 149 = .ok (.invokevirtual 284, 3) := by decide +kernel
theorem dX5_numberOf_152 : decode cX5_numberOf 152 = .ok (.ireturn, 1) := by decide +kernel
theorem dX5_numberOf_153 : decode cX5_numberOf 153 = .ok (.aload_n 0, 1) := by decide +kernel
theorem dX5_numberOf_154 : decode cX5_numberOf 154 = .ok (.getfield 19, 3) := by decide +kernel
theorem dX5_numberOf_157 : decode cX5_numberOf 157 = .ok (.getfield 171, 3) := by decide +kernel
theorem dX5_numberOf_160 : decode cX5_numberOf 160 = .ok (.ireturn, 1) := by decide +kernel
theorem dX5_mix_0 : decode cX5_mix 0 = .ok (.ldc2_w 287, 3) := by decide +kernel
theorem dX5_mix_3 : decode cX5_mix 3 = .ok (.lload_n 0, 1) := by decide +kernel
theorem dX5_mix_4 : decode cX5_mix 4 = .ok (.lmul, 1) := by decide +kernel
theorem dX5_mix_5 : decode cX5_mix 5 = .ok (.lload_n 2, 1) := by decide +kernel
theorem dX5_mix_6 : decode cX5_mix 6 = .ok (.ladd, 1) := by decide +kernel
theorem dX5_mix_7 : decode cX5_mix 7 = .ok (.lreturn, 1) := by decide +kernel
theorem dX5_mixKind_0 : decode cX5_mixKind 0 = .ok (.lload_n 1, 1) := by decide +kernel
theorem dX5_mixKind_1 : decode cX5_mixKind 1 = .ok (.lstore 4, 2) := by decide +kernel
theorem dX5_mixKind_3 : decode cX5_mixKind 3 = .ok (.iconst 0, 1) := by decide +kernel
theorem dX5_mixKind_4 : decode cX5_mixKind 4 = .ok (.istore 6, 2) := by decide +kernel
theorem dX5_mixKind_6 : decode cX5_mixKind 6 = .ok (.iload 6, 2) := by decide +kernel
theorem dX5_mixKind_8 : decode cX5_mixKind 8 = .ok (.bipush 10, 2) := by decide +kernel
theorem dX5_mixKind_10 : decode cX5_mixKind 10 = .ok (.if_icmp .gt 27, 3) := by decide +kernel
theorem dX5_mixKind_13 : decode cX5_mixKind 13 = .ok (.lload 4, 2) := by decide +kernel
theorem dX5_mixKind_15 : decode cX5_mixKind 15 = .ok (.aload_n 0, 1) := by decide +kernel
theorem dX5_mixKind_16 : decode cX5_mixKind 16 = .ok (.getfield 10, 3) := by decide +kernel
theorem dX5_mixKind_19 : decode cX5_mixKind 19 = .ok (.iload_n 3, 1) := by decide +kernel
theorem dX5_mixKind_20 : decode cX5_mixKind 20 = .ok (.iload 6, 2) := by decide +kernel
theorem dX5_mixKind_22 : decode cX5_mixKind 22 = .ok (.invokevirtual 182, 3) := by decide +kernel
theorem dX5_mixKind_25 : decode cX5_mixKind 25 = .ok (.i2l, 1) := by decide +kernel
theorem dX5_mixKind_26 : decode cX5_mixKind 26 = .ok (.invokestatic 216, 3) := by decide +kernel
theorem dX5_mixKind_29 : decode cX5_mixKind 29 = .ok (.lstore 4, 2) := by decide +kernel
theorem dX5_mixKind_31 : decode cX5_mixKind 31 = .ok (.iinc 6 1, 3) := by decide +kernel
theorem dX5_mixKind_34 : decode cX5_mixKind 34 = .ok (.goto (-28), 3) := by decide +kernel
theorem dX5_mixKind_37 : decode cX5_mixKind 37 = .ok (.iconst 0, 1) := by decide +kernel
theorem dX5_mixKind_38 : decode cX5_mixKind 38 = .ok (.istore 6, 2) := by decide +kernel
theorem dX5_mixKind_40 : decode cX5_mixKind 40 = .ok (.iload 6, 2) := by decide +kernel
theorem dX5_mixKind_42 : decode cX5_mixKind 42 = .ok (.bipush 16, 2) := by decide +kernel
theorem dX5_mixKind_44 : decode cX5_mixKind 44 = .ok (.if_icmp .ge 47, 3) := by decide +kernel
theorem dX5_mixKind_47 : decode cX5_mixKind 47 = .ok (.iconst 0, 1) := by decide +kernel
theorem dX5_mixKind_48 : decode cX5_mixKind 48 = .ok (.istore 7, 2) := by decide +kernel
theorem dX5_mixKind_50 : decode cX5_mixKind 50 = .ok (.iload 7, 2) := by decide +kernel
theorem dX5_mixKind_52 : decode cX5_mixKind 52 = .ok (.iconst 4, 1) := by decide +kernel
theorem dX5_mixKind_53 : decode cX5_mixKind 53 = .ok (.if_icmp .gt 32, 3) := by decide +kernel
theorem dX5_mixKind_56 : decode cX5_mixKind 56 = .ok (.lload 4, 2) := by decide +kernel
theorem dX5_mixKind_58 : decode cX5_mixKind 58 = .ok (.aload_n 0, 1) := by decide +kernel
theorem dX5_mixKind_59 : decode cX5_mixKind 59 = .ok (.getfield 10, 3) := by decide +kernel
theorem dX5_mixKind_62 : decode cX5_mixKind 62 = .ok (.getfield 80, 3) := by decide +kernel
theorem dX5_mixKind_65 : decode cX5_mixKind 65 = .ok (.iload_n 3, 1) := by decide +kernel
theorem dX5_mixKind_66 : decode cX5_mixKind 66 = .ok (.iload 6, 2) := by decide +kernel
theorem dX5_mixKind_68 : decode cX5_mixKind 68 = .ok (.iload 7, 2) := by decide +kernel
theorem dX5_mixKind_70 : decode cX5_mixKind 70 = .ok (.invokevirtual 179, 3) := by decide +kernel
theorem dX5_mixKind_73 : decode cX5_mixKind 73 = .ok (.i2l, 1) := by decide +kernel
theorem dX5_mixKind_74 : decode cX5_mixKind 74 = .ok (.invokestatic 216, 3) := by decide +kernel
theorem dX5_mixKind_77 : decode cX5_mixKind 77 = .ok (.lstore 4, 2) := by decide +kernel
theorem dX5_mixKind_79 : decode cX5_mixKind 79 = .ok (.iinc 7 1, 3) := by decide +kernel
theorem dX5_mixKind_82 : decode cX5_mixKind 82 = .ok (.goto (-32), 3) := by decide +kernel
theorem dX5_mixKind_85 : decode cX5_mixKind 85 = .ok (.iinc 6 1, 3) := by decide +kernel
theorem dX5_mixKind_88 : decode cX5_mixKind 88 = .ok (.goto (-48), 3) := by decide +kernel
theorem dX5_mixKind_91 : decode cX5_mixKind 91 = .ok (.iconst 0, 1) := by decide +kernel
theorem dX5_mixKind_92 : decode cX5_mixKind 92 = .ok (.istore 6, 2) := by decide +kernel
theorem dX5_mixKind_94 : decode cX5_mixKind 94 = .ok (.iload 6, 2) := by decide +kernel
theorem dX5_mixKind_96 : decode cX5_mixKind 96 = .ok (.iconst 3, 1) := by decide +kernel
theorem dX5_mixKind_97 : decode cX5_mixKind 97 = .ok (.if_icmp .gt 30, 3) := by decide +kernel
theorem dX5_mixKind_100 : decode cX5_mixKind 100 = .ok (.lload 4, 2) := by decide +kernel
theorem dX5_mixKind_102 : decode cX5_mixKind 102 = .ok (.aload_n 0, 1) := by decide +kernel
theorem dX5_mixKind_103 : decode cX5_mixKind 103 = .ok (.getfield 10, 3) := by decide +kernel
theorem dX5_mixKind_106 : decode cX5_mixKind 106 = .ok (.getfield 80, 3) := by decide +kernel
theorem dX5_mixKind_109 : decode cX5_mixKind 109 = .ok (.iload_n 3, 1) := by decide +kernel
theorem dX5_mixKind_110 : decode cX5_mixKind 110 = .ok (.iload 6, 2) := by decide +kernel
theorem dX5_mixKind_112 : decode cX5_mixKind 112 = .ok (.invokevirtual 89, 3) := by decide +kernel
theorem dX5_mixKind_115 : decode cX5_mixKind 115 = .ok (.i2l, 1) := by decide +kernel
theorem dX5_mixKind_116 : decode cX5_mixKind 116 = .ok (.invokestatic 216, 3) := by decide +kernel
theorem dX5_mixKind_119 : decode cX5_mixKind 119 = .ok (.lstore 4, 2) := by decide +kernel
theorem dX5_mixKind_121 : decode cX5_mixKind 121 = .ok (.iinc 6 1, 3) := by decide +kernel
theorem dX5_mixKind_124 : decode cX5_mixKind 124 = .ok (.goto (-30), 3) := by decide +kernel
theorem dX5_mixKind_127 : decode cX5_mixKind 127 = .ok (.lload 4, 2) := by decide +kernel
theorem dX5_mixKind_129 : decode cX5_mixKind 129 = .ok (.aload_n 0, 1) := by decide +kernel
theorem dX5_mixKind_130 : decode cX5_mixKind 130 = .ok (.getfield 10, 3) := by decide +kernel
theorem dX5_mixKind_133 : decode cX5_mixKind 133 = .ok (.iload_n 3, 1) := by decide +kernel
theorem dX5_mixKind_134 : decode cX5_mixKind 134 = .ok (.invokevirtual 188, 3) := by decide +kernel
theorem dX5_mixKind_137 : decode cX5_mixKind 137 = .ok (.i2l, 1) := by decide +kernel
theorem dX5_mixKind_138 : decode cX5_mixKind 138 = .ok (.invokestatic 216, 3) := by decide +kernel
theorem dX5_mixKind_141 : decode cX5_mixKind 141 = .ok (.lstore 4, 2) := by decide +kernel
theorem dX5_mixKind_143 : decode cX5_mixKind 143 = .ok (.lload 4, 2) := by decide +kernel
theorem dX5_mixKind_145 : decode cX5_mixKind 145 = .ok (.aload_n 0, 1) := by decide +kernel
theorem dX5_mixKind_146 : decode cX5_mixKind 146 = .ok (.getfield 10, 3) := by decide +kernel
theorem dX5_mixKind_149 : decode cX5_mixKind 149 = .ok (.getfield 80, 3) := by decide +kernel
theorem dX5_mixKind_152 : decode cX5_mixKind 152 = .ok (.iload_n 3, 1) := by decide +kernel
theorem dX5_mixKind_153 : decode cX5_mixKind 153 = .ok (.invokevirtual 191, 3) := by decide +kernel
theorem dX5_mixKind_156 : decode cX5_mixKind 156 = .ok (.i2l, 1) := by decide +kernel
theorem dX5_mixKind_157 : decode cX5_mixKind 157 = .ok (.invokestatic 216, 3) := by decide +kernel
theorem dX5_mixKind_160 : decode cX5_mixKind 160 = .ok (.lstore 4, 2) := by decide +kernel
theorem dX5_mixKind_162 : decode cX5_mixKind 162 = .ok (.iconst 1, 1) := by decide +kernel
theorem dX5_mixKind_163 : decode cX5_mixKind 163 = .ok (.istore 6, 2) := by decide +kernel
theorem dX5_mixKind_165 : decode cX5_mixKind 165 = .ok (.iload 6, 2) := by decide +kernel
theorem dX5_mixKind_167 : decode cX5_mixKind 167 = .ok (.iconst 3, 1) := by decide +kernel
theorem dX5_mixKind_168 : decode cX5_mixKind 168 = .ok (.if_icmp .gt 27, 3) := by decide +kernel
theorem dX5_mixKind_171 : decode cX5_mixKind 171 = .ok (.lload 4, 2) := by decide +kernel
theorem dX5_mixKind_173 : decode cX5_mixKind 173 = .ok (.aload_n 0, 1) := by decide +kernel
theorem dX5_mixKind_174 : decode cX5_mixKind 174 = .ok (.getfield 10, 3) := by decide +kernel
theorem dX5_mixKind_177 : decode cX5_mixKind 177 = .ok (.iload_n 3, 1) := by decide +kernel
theorem dX5_mixKind_178 : decode cX5_mixKind 178 = .ok (.iload 6, 2) := by decide +kernel
theorem dX5_mixKind_180 : decode cX5_mixKind 180 = .ok (.invokevirtual 194, 3) := by decide +kernel
theorem dX5_mixKind_183 : decode cX5_mixKind 183 = .ok (.i2l, 1) := by decide +kernel
theorem dX5_mixKind_184 : decode cX5_mixKind 184 = .ok (.invokestatic 216, 3) := by decide +kernel
theorem dX5_mixKind_187 : decode cX5_mixKind 187 = .ok (.lstore 4, 2) := by decide +kernel
theorem dX5_mixKind_189 : decode cX5_mixKind 189 = .ok (.iinc 6 1, 3) := by decide +kernel
theorem dX5_mixKind_192 : decode cX5_mixKind 192 = .ok (.goto (-27), 3) := by decide +kernel
theorem dX5_mixKind_195 : decode cX5_mixKind 195 = .ok (.lload 4, 2) := by decide +kernel
theorem dX5_mixKind_197 : decode cX5_mixKind 197 = .ok (.aload_n 0, 1) := by decide +kernel
theorem dX5_mixKind_198 : decode cX5_mixKind 198 = .ok (.getfield 10, 3) := by decide +kernel
theorem dX5_mixKind_201 : decode cX5_mixKind 201 = .ok (.getfield 80, 3) := by decide +kernel
theorem dX5_mixKind_204 : decode cX5_mixKind 204 = .ok (.iload_n 3, 1) := by decide +kernel
theorem dX5_mixKind_205 : decode cX5_mixKind 205 = .ok (.invokevirtual 197, 3) := by decide +kernel
theorem dX5_mixKind_208 : decode cX5_mixKind 208 = .ok (.i2l, 1) := by decide +kernel
theorem dX5_mixKind_209 : decode cX5_mixKind 209 = .ok (.invokestatic 216, 3) := by decide +kernel
theorem dX5_mixKind_212 : decode cX5_mixKind 212 = .ok (.lstore 4, 2) := by decide +kernel
theorem dX5_mixKind_214 : decode cX5_mixKind 214 = .ok (.lload 4, 2) := by decide +kernel
theorem dX5_mixKind_216 : decode cX5_mixKind 216 = .ok (.aload_n 0, 1) := by decide +kernel
theorem dX5_mixKind_217 : decode cX5_mixKind 217 = .ok (.getfield 10, 3) := by decide +kernel
theorem dX5_mixKind_220 : decode cX5_mixKind 220 = .ok (.getfield 80, 3) := by decide +kernel
theorem dX5_mixKind_223 : decode cX5_mixKind 223 = .ok (.iload_n 3, 1) := by decide +kernel
theorem dX5_mixKind_224 : decode cX5_mixKind 224 = .ok (.invokevirtual 210, 3) := by decide +kernel
theorem dX5_mixKind_227 : decode cX5_mixKind 227 = .ok (.f2d, 1) := by decide +kernel
theorem dX5_mixKind_228 : decode cX5_mixKind 228 = .ok (.bipush 23, 2) := by decide +kernel
theorem dX5_mixKind_230 : decode cX5_mixKind 230 = .ok (.bipush 127, 2) := by decide +kernel
theorem dX5_mixKind_232 : decode cX5_mixKind 232 = .ok (.invokestatic 224, 3) := by decide +kernel
theorem dX5_mixKind_235 : decode cX5_mixKind 235 = .ok (.invokestatic 216, 3) := by decide +kernel
theorem dX5_mixKind_238 : decode cX5_mixKind 238 = .ok (.lreturn, 1) := by decide +kernel
theorem dX5_bitsOf_0 : decode cX5_bitsOf 0 = .ok (.dload_n 0, 1) := by decide +kernel
theorem dX5_bitsOf_1 : decode cX5_bitsOf 1 = .ok (.dconst 0, 1) := by decide +kernel
theorem dX5_bitsOf_2 : decode cX5_bitsOf 2 = .ok (.dcmp .g, 1) := by decide +kernel
theorem dX5_bitsOf_3 : decode cX5_bitsOf 3 = .ok (.ifCond .gt 5, 3) := by decide +kernel
theorem dX5_bitsOf_6 : decode cX5_bitsOf 6 = .ok (.lconst 0, 1) := by decide +kernel
theorem dX5_bitsOf_7 : decode cX5_bitsOf 7 = .ok (.lreturn, 1) := by decide +kernel
theorem dX5_bitsOf_8 : decode cX5_bitsOf 8 = .ok (.dload_n 0, 1) := by decide +kernel
theorem dX5_bitsOf_9 : decode cX5_bitsOf 9 = .ok (.dstore 4, 2) := by decide +kernel
theorem dX5_bitsOf_11 : decode cX5_bitsOf 11 = .ok (.iload_n 3, 1) := by decide +kernel
theorem dX5_bitsOf_12 : decode cX5_bitsOf 12 = .ok (.i2l, 1) := by decide +kernel
theorem dX5_bitsOf_13 : decode cX5_bitsOf 13 = .ok (.lstore 6, 2) := by decide +kernel
theorem dX5_bitsOf_15 : decode cX5_bitsOf 15 = .ok (.dload 4, 2) := by decide +kernel
theorem dX5_bitsOf_17 : decode cX5_bitsOf 17 = .ok (.ldc2_w 289, 3) := by decide +kernel
theorem dX5_bitsOf_20 : decode cX5_bitsOf 20 = .ok (.dcmp .l, 1) := by decide +kernel
theorem dX5_bitsOf_21 : decode cX5_bitsOf 21 = .ok (.ifCond .lt 32, 3) := by decide +kernel
theorem dX5_bitsOf_24 : decode cX5_bitsOf 24 = .ok (.lload 6, 2) := by decide +kernel
theorem dX5_bitsOf_26 : decode cX5_bitsOf 26 = .ok (.ldc2_w 291, 3) := by decide +kernel
theorem dX5_bitsOf_29 : decode cX5_bitsOf 29 = .ok (.iload_n 3, 1) := by decide +kernel
theorem dX5_bitsOf_30 : decode cX5_bitsOf 30 = .ok (.i2l, 1) := by decide +kernel
theorem dX5_bitsOf_31 : decode cX5_bitsOf 31 = .ok (.lmul, 1) := by decide +kernel
theorem dX5_bitsOf_32 : decode cX5_bitsOf 32 = .ok (.lcmp, 1) := by decide +kernel
theorem dX5_bitsOf_33 : decode cX5_bitsOf 33 = .ok (.ifCond .ge 20, 3) := by decide +kernel
theorem dX5_bitsOf_36 : decode cX5_bitsOf 36 = .ok (.dload 4, 2) := by decide +kernel
theorem dX5_bitsOf_38 : decode cX5_bitsOf 38 = .ok (.ldc2_w 289, 3) := by decide +kernel
theorem dX5_bitsOf_41 : decode cX5_bitsOf 41 = .ok (.ddiv, 1) := by decide +kernel
theorem dX5_bitsOf_42 : decode cX5_bitsOf 42 = .ok (.dstore 4, 2) := by decide +kernel
theorem dX5_bitsOf_44 : decode cX5_bitsOf 44 = .ok (.lload 6, 2) := by decide +kernel
theorem dX5_bitsOf_46 : decode cX5_bitsOf 46 = .ok (.lconst 1, 1) := by decide +kernel
theorem dX5_bitsOf_47 : decode cX5_bitsOf 47 = .ok (.ladd, 1) := by decide +kernel
theorem dX5_bitsOf_48 : decode cX5_bitsOf 48 = .ok (.lstore 6, 2) := by decide +kernel
theorem dX5_bitsOf_50 : decode cX5_bitsOf 50 = .ok (.goto (-35), 3) := by decide +kernel
theorem dX5_bitsOf_53 : decode cX5_bitsOf 53 = .ok (.dload 4, 2) := by decide +kernel
theorem dX5_bitsOf_55 : decode cX5_bitsOf 55 = .ok (.dconst 1, 1) := by decide +kernel
theorem dX5_bitsOf_56 : decode cX5_bitsOf 56 = .ok (.dcmp .g, 1) := by decide +kernel
theorem dX5_bitsOf_57 : decode cX5_bitsOf 57 = .ok (.ifCond .ge 27, 3) := by decide +kernel
theorem dX5_bitsOf_60 : decode cX5_bitsOf 60 = .ok (.lload 6, 2) := by decide +kernel
theorem dX5_bitsOf_62 : decode cX5_bitsOf 62 = .ok (.lconst 1, 1) := by decide +kernel
theorem dX5_bitsOf_63 : decode cX5_bitsOf 63 = .ok (.lcmp, 1) := by decide +kernel
theorem dX5_bitsOf_64 : decode cX5_bitsOf 64 = .ok (.ifCond .le 20, 3) := by decide +kernel
theorem dX5_bitsOf_67 : decode cX5_bitsOf 67 = .ok (.dload 4, 2) := by decide +kernel
theorem dX5_bitsOf_69 : decode cX5_bitsOf 69 = .ok (.ldc2_w 289, 3) := by decide +kernel
theorem dX5_bitsOf_72 : decode cX5_bitsOf 72 = .ok (.dmul, 1) := by decide +kernel
theorem dX5_bitsOf_73 : decode cX5_bitsOf 73 = .ok (.dstore 4, 2) := by decide +kernel
theorem dX5_bitsOf_75 : decode cX5_bitsOf 75 = .ok (.lload 6, 2) := by decide +kernel
theorem dX5_bitsOf_77 : decode cX5_bitsOf 77 = .ok (.lconst 1, 1) := by decide +kernel
theorem dX5_bitsOf_78 : decode cX5_bitsOf 78 = .ok (.lsub, 1) := by decide +kernel
theorem dX5_bitsOf_79 : decode cX5_bitsOf 79 = .ok (.lstore 6, 2) := by decide +kernel
theorem dX5_bitsOf_81 : decode cX5_bitsOf 81 = .ok (.goto (-28), 3) := by decide +kernel
theorem dX5_bitsOf_84 : decode cX5_bitsOf 84 = .ok (.dload 4, 2) := by decide +kernel
theorem dX5_bitsOf_86 : decode cX5_bitsOf 86 = .ok (.dconst 1, 1) := by decide +kernel
theorem dX5_bitsOf_87 : decode cX5_bitsOf 87 = .ok (.dsub, 1) := by decide +kernel
theorem dX5_bitsOf_88 : decode cX5_bitsOf 88 = .ok (.lconst 1, 1) := by decide +kernel
theorem dX5_bitsOf_89 : decode cX5_bitsOf 89 = .ok (.iload_n 2, 1) := by decide +kernel
theorem dX5_bitsOf_90 : decode cX5_bitsOf 90 = .ok (.lshl, 1) := by decide +kernel
theorem dX5_bitsOf_91 : decode cX5_bitsOf 91 = .ok (.l2d, 1) := by decide +kernel
theorem dX5_bitsOf_92 : decode cX5_bitsOf 92 = .ok (.dmul, 1) := by decide +kernel
theorem dX5_bitsOf_93 : decode cX5_bitsOf 93 = .ok (.d2l, 1) := by decide +kernel
theorem dX5_bitsOf_94 : decode cX5_bitsOf 94 = .ok (.lstore 8, 2) := by decide +kernel
theorem dX5_bitsOf_96 : decode cX5_bitsOf 96 = .ok (.lload 6, 2) := by decide +kernel
theorem dX5_bitsOf_98 : decode cX5_bitsOf 98 = .ok (.iload_n 2, 1) := by decide +kernel
theorem dX5_bitsOf_99 : decode cX5_bitsOf 99 = .ok (.lshl, 1) := by decide +kernel
theorem dX5_bitsOf_100 : decode cX5_bitsOf 100 = .ok (.lload 8, 2) := by decide +kernel
theorem dX5_bitsOf_102 : decode cX5_bitsOf 102 = .ok (.ladd, 1) := by decide +kernel
theorem dX5_bitsOf_103 : decode cX5_bitsOf 103 = .ok (.lreturn, 1) := by decide +kernel
theorem dX6_init_0 : decode cX6_init 0 = .ok (.aload_n 0, 1) := by decide +kernel
theorem dX6_init_1 : decode cX6_init 1 = .ok (.invokespecial 1, 3) := by decide +kernel
theorem dX6_init_4 : decode cX6_init 4 = .ok (.aload_n 0, 1) := by decide +kernel
theorem dX6_init_5 : decode cX6_init 5 = .ok (.sipush 2910, 3) := by decide +kernel
theorem dX6_init_8 : decode cX6_init 8 = .ok (.newarray .int, 2) := by decide +kernel
theorem dX6_init_10 : decode cX6_init 10 = .ok (.putfield 7, 3) := by decide +kernel
theorem dX6_init_13 : decode cX6_init 13 = .ok (.aload_n 0, 1) := by decide +kernel
theorem dX6_init_14 : decode cX6_init 14 = .ok (.iconst 2, 1) := by decide +kernel
theorem dX6_init_15 : decode cX6_init 15 = .ok (.newarray .boolean, 2) := by decide +kernel
theorem dX6_init_17 : decode cX6_init 17 = .ok (.putfield 13, 3) := by decide +kernel
theorem dX6_init_20 : decode cX6_init 20 = .ok (.aload_n 0, 1) := by decide +kernel
theorem dX6_init_21 : decode cX6_init 21 = .ok (.bipush 60, 2) := by decide +kernel
theorem dX6_init_23 : decode cX6_init 23 = .ok (.newarray .char, 2) := by decide +kernel
theorem dX6_init_25 : decode cX6_init 25 = .ok (.putfield 17, 3) := by decide +kernel
theorem dX6_init_28 : decode cX6_init 28 = .ok (.aload_n 0, 1) := by decide +kernel
theorem dX6_init_29 : decode cX6_init 29 = .ok (.getfield 7, 3) := by decide +kernel
theorem dX6_init_32 : decode cX6_init 32 = .ok (.iconst 1, 1) := by decide +kernel
theorem dX6_init_33 : decode cX6_init 33 = .ok (.iconst 4, 1) := by decide +kernel
theorem dX6_init_34 : decode cX6_init 34 = .ok (.iastore, 1) := by decide +kernel
theorem dX6_init_35 : decode cX6_init 35 = .ok (.aload_n 0, 1) := by decide +kernel
theorem dX6_init_36 : decode cX6_init 36 = .ok (.getfield 7, 3) := by decide +kernel
theorem dX6_init_39 : decode cX6_init 39 = .ok (.iconst 2, 1) := by decide +kernel
theorem dX6_init_40 : decode cX6_init 40 = .ok (.iconst 3, 1) := by decide +kernel
theorem dX6_init_41 : decode cX6_init 41 = .ok (.iastore, 1) := by decide +kernel
theorem dX6_init_42 : decode cX6_init 42 = .ok (.iconst 0, 1) := by decide +kernel
theorem dX6_init_43 : decode cX6_init 43 = .ok (.istore_n 1, 1) := by decide +kernel
theorem dX6_init_44 : decode cX6_init 44 = .ok (.iload_n 1, 1) := by decide +kernel
theorem dX6_init_45 : decode cX6_init 45 = .ok (.iconst 4, 1) := by decide +kernel
theorem dX6_init_46 : decode cX6_init 46 = .ok (.if_icmp .ge 18, 3) := by decide +kernel
theorem dX6_init_49 : decode cX6_init 49 = .ok (.aload_n 0, 1) := by decide +kernel
theorem dX6_init_50 : decode cX6_init 50 = .ok (.getfield 7, 3) := by decide +kernel
theorem dX6_init_53 : decode cX6_init 53 = .ok (.iconst 4, 1) := by decide +kernel
theorem dX6_init_54 : decode cX6_init 54 = .ok (.iload_n 1, 1) := by decide +kernel
theorem dX6_init_55 : decode cX6_init 55 = .ok (.iadd, 1) := by decide +kernel
theorem dX6_init_56 : decode cX6_init 56 = .ok (.iconst 5, 1) := by decide +kernel
theorem dX6_init_57 : decode cX6_init 57 = .ok (.iastore, 1) := by decide +kernel
theorem dX6_init_58 : decode cX6_init 58 = .ok (.iinc 1 1, 3) := by decide +kernel
theorem dX6_init_61 : decode cX6_init 61 = .ok (.goto (-17), 3) := by decide +kernel
theorem dX6_init_64 : decode cX6_init 64 = .ok (.return_, 1) := by decide +kernel
theorem dX6_thrown_0 : decode cX6_thrown 0 = .ok (.aload_n 0, 1) := by decide +kernel
theorem dX6_thrown_1 : decode cX6_thrown 1 = .ok (.getfield 21, 3) := by decide +kernel
theorem dX6_thrown_4 : decode cX6_thrown 4 = .ok (.ireturn, 1) := by decide +kernel
theorem dX6_in_0 : decode cX6_in 0 = .ok (.iload_n 0, 1) := by decide +kernel
theorem dX6_in_1 : decode cX6_in 1 = .ok (.iload_n 1, 1) := by decide +kernel
theorem dX6_in_2 : decode cX6_in 2 = .ok (.if_icmp .lt 12, 3) := by decide +kernel
theorem dX6_in_5 : decode cX6_in 5 = .ok (.iload_n 0, 1) := by decide +kernel
theorem dX6_in_6 : decode cX6_in 6 = .ok (.iload_n 2, 1) := by decide +kernel
theorem dX6_in_7 : decode cX6_in 7 = .ok (.if_icmp .gt 7, 3) := by decide +kernel
theorem dX6_in_10 : decode cX6_in 10 = .ok (.iconst 1, 1) := by decide +kernel
theorem dX6_in_11 : decode cX6_in 11 = .ok (.goto 4, 3) := by decide +kernel
theorem dX6_in_14 : decode cX6_in 14 = .ok (.iconst 0, 1) := by decide +kernel
theorem dX6_in_15 : decode cX6_in 15 = .ok (.ireturn, 1) := by decide +kernel
theorem dX6_goes_0 : decode cX6_goes 0 = .ok (.aload_n 0, 1) := by decide +kernel
theorem dX6_goes_1 : decode cX6_goes 1 = .ok (.iload_n 1, 1) := by decide +kernel
theorem dX6_goes_2 : decode cX6_goes 2 = .ok (.ifCond .ne 7, 3) := by decide +kernel
theorem dX6_goes_5 : decode cX6_goes 5 = .ok (.iconst 1, 1) := by decide +kernel
theorem dX6_goes_6 : decode cX6_goes 6 = .ok (.goto 12, 3) := by decide +kernel
theorem dX6_goes_9 : decode cX6_goes 9 = .ok (.iload_n 2, 1) := by decide +kernel
theorem dX6_goes_10 : decode cX6_goes 10 = .ok (.ifCond .ne 7, 3) := by decide +kernel
theorem dX6_goes_13 : decode cX6_goes 13 = .ok (.iconst 2, 1) := by decide +kernel
theorem dX6_goes_14 : decode cX6_goes 14 = .ok (.goto 4, 3) := by decide +kernel
theorem dX6_goes_17 : decode cX6_goes 17 = .ok (.iconst 0, 1) := by decide +kernel
theorem dX6_goes_18 : decode cX6_goes 18 = .ok (.putfield 21, 3) := by decide +kernel
theorem dX6_goes_21 : decode cX6_goes 21 = .ok (.aload_n 0, 1) := by decide +kernel
theorem dX6_goes_22 : decode cX6_goes 22 = .ok (.getfield 21, 3) := by decide +kernel
theorem dX6_goes_25 : decode cX6_goes 25 = .ok (.ifCond .ne 7, 3) := by decide +kernel
theorem dX6_goes_28 : decode cX6_goes 28 = .ok (.iconst 1, 1) := by decide +kernel
theorem dX6_goes_29 : decode cX6_goes 29 = .ok (.goto 4, 3) := by decide +kernel
theorem dX6_goes_32 : decode cX6_goes 32 = .ok (.iconst 0, 1) := by decide +kernel
theorem dX6_goes_33 : decode cX6_goes 33 = .ok (.ireturn, 1) := by decide +kernel
theorem dX6_copies_0 : decode cX6_copies 0 = .ok (.iconst 0, 1) := by decide +kernel
theorem dX6_copies_1 : decode cX6_copies 1 = .ok (.istore_n 3, 1) := by decide +kernel
theorem dX6_copies_2 : decode cX6_copies 2 = .ok (.iload_n 3, 1) := by decide +kernel
theorem dX6_copies_3 : decode cX6_copies 3 = .ok (.sipush 291, 3) := by decide +kernel
theorem dX6_copies_6 : decode cX6_copies 6 = .ok (.if_icmp .ge 33, 3) := by decide +kernel
theorem dX6_copies_9 : decode cX6_copies 9 = .ok (.aload_n 0, 1) := by decide +kernel
theorem dX6_copies_10 : decode cX6_copies 10 = .ok (.getfield 7, 3) := by decide +kernel
theorem dX6_copies_13 : decode cX6_copies 13 = .ok (.sipush 291, 3) := by decide +kernel
theorem dX6_copies_16 : decode cX6_copies 16 = .ok (.iload_n 2, 1) := by decide +kernel
theorem dX6_copies_17 : decode cX6_copies 17 = .ok (.imul, 1) := by decide +kernel
theorem dX6_copies_18 : decode cX6_copies 18 = .ok (.iload_n 3, 1) := by decide +kernel
theorem dX6_copies_19 : decode cX6_copies 19 = .ok (.iadd, 1) := by decide +kernel
theorem dX6_copies_20 : decode cX6_copies 20 = .ok (.aload_n 0, 1) := by decide +kernel
theorem dX6_copies_21 : decode cX6_copies 21 = .ok (.getfield 7, 3) := by decide +kernel
theorem dX6_copies_24 : decode cX6_copies 24 = .ok (.sipush 291, 3) := by decide +kernel
theorem dX6_copies_27 : decode cX6_copies 27 = .ok (.iload_n 1, 1) := by decide +kernel
theorem dX6_copies_28 : decode cX6_copies 28 = .ok (.imul, 1) := by decide +kernel
theorem dX6_copies_29 : decode cX6_copies 29 = .ok (.iload_n 3, 1) := by decide +kernel
theorem dX6_copies_30 : decode cX6_copies 30 = .ok (.iadd, 1) := by decide +kernel
theorem dX6_copies_31 : decode cX6_copies 31 = .ok (.iaload, 1) := by decide +kernel
theorem dX6_copies_32 : decode cX6_copies 32 = .ok (.iastore, 1) := by decide +kernel
theorem dX6_copies_33 : decode cX6_copies 33 = .ok (.iinc 3 1, 3) := by decide +kernel
theorem dX6_copies_36 : decode cX6_copies 36 = .ok (.goto (-34), 3) := by decide +kernel
theorem dX6_copies_39 : decode cX6_copies 39 = .ok (.return_, 1) := by decide +kernel
theorem dX6_saves_0 : decode cX6_saves 0 = .ok (.aload_n 0, 1) := by decide +kernel
theorem dX6_saves_1 : decode cX6_saves 1 = .ok (.getfield 25, 3) := by decide +kernel
theorem dX6_saves_4 : decode cX6_saves 4 = .ok (.bipush 6, 2) := by decide +kernel
theorem dX6_saves_6 : decode cX6_saves 6 = .ok (.if_icmp .ne 35, 3) := by decide +kernel
theorem dX6_saves_9 : decode cX6_saves 9 = .ok (.iconst 1, 1) := by decide +kernel
theorem dX6_saves_10 : decode cX6_saves 10 = .ok (.istore_n 1, 1) := by decide +kernel
theorem dX6_saves_11 : decode cX6_saves 11 = .ok (.iload_n 1, 1) := by decide +kernel
theorem dX6_saves_12 : decode cX6_saves 12 = .ok (.bipush 6, 2) := by decide +kernel
theorem dX6_saves_14 : decode cX6_saves 14 = .ok (.if_icmp .ge 17, 3) := by decide +kernel
theorem dX6_saves_17 : decode cX6_saves 17 = .ok (.aload_n 0, 1) := by decide +kernel
theorem dX6_saves_18 : decode cX6_saves 18 = .ok (.iload_n 1, 1) := by decide +kernel
theorem dX6_saves_19 : decode cX6_saves 19 = .ok (.iconst 1, 1) := by decide +kernel
theorem dX6_saves_20 : decode cX6_saves 20 = .ok (.iadd, 1) := by decide +kernel
theorem dX6_saves_21 : decode cX6_saves 21 = .ok (.iload_n 1, 1) := by decide +kernel
theorem dX6_saves_22 : decode cX6_saves 22 = .ok (.invokevirtual 28, 3) := by decide +kernel
theorem dX6_saves_25 : decode cX6_saves 25 = .ok (.iinc 1 1, 3) := by decide +kernel
theorem dX6_saves_28 : decode cX6_saves 28 = .ok (.goto (-17), 3) := by decide +kernel
theorem dX6_saves_31 : decode cX6_saves 31 = .ok (.aload_n 0, 1) := by decide +kernel
theorem dX6_saves_32 : decode cX6_saves 32 = .ok (.dup, 1) := by decide +kernel
theorem dX6_saves_33 : decode cX6_saves 33 = .ok (.getfield 25, 3) := by decide +kernel
theorem dX6_saves_36 : decode cX6_saves 36 = .ok (.iconst 1, 1) := by decide +kernel
theorem dX6_saves_37 : decode cX6_saves 37 = .ok (.isub, 1) := by decide +kernel
theorem dX6_saves_38 : decode cX6_saves 38 = .ok (.putfield 25, 3) := by decide +kernel
theorem dX6_saves_41 : decode cX6_saves 41 = .ok (.aload_n 0, 1) := by decide +kernel
theorem dX6_saves_42 : decode cX6_saves 42 = .ok (.dup, 1) := by decide +kernel
theorem dX6_saves_43 : decode cX6_saves 43 = .ok (.getfield 25, 3) := by decide +kernel
theorem dX6_saves_46 : decode cX6_saves 46 = .ok (.iconst 1, 1) := by decide +kernel
theorem dX6_saves_47 : decode cX6_saves 47 = .ok (.iadd, 1) := by decide +kernel
theorem dX6_saves_48 : decode cX6_saves 48 = .ok (.putfield 25, 3) := by decide +kernel
theorem dX6_saves_51 : decode cX6_saves 51 = .ok (.aload_n 0, 1) := by decide +kernel
theorem dX6_saves_52 : decode cX6_saves 52 = .ok (.iconst 0, 1) := by decide +kernel
theorem dX6_saves_53 : decode cX6_saves 53 = .ok (.aload_n 0, 1) := by decide +kernel
theorem dX6_saves_54 : decode cX6_saves 54 = .ok (.getfield 25, 3) := by decide +kernel
theorem dX6_saves_57 : decode cX6_saves 57 = .ok (.invokevirtual 28, 3) := by decide +kernel
theorem dX6_saves_60 : decode cX6_saves 60 = .ok (.return_, 1) := by decide +kernel
theorem dX6_isKind_0 : decode cX6_isKind 0 = .ok (.iload_n 0, 1) := by decide +kernel
theorem dX6_isKind_1 : decode cX6_isKind 1 = .ok (.iconst 0, 1) := by decide +kernel
theorem dX6_isKind_2 : decode cX6_isKind 2 = .ok (.iconst 3, 1) := by decide +kernel
theorem dX6_isKind_3 : decode cX6_isKind 3 = .ok (.invokestatic 32, 3) := by decide +kernel
theorem dX6_isKind_6 : decode cX6_isKind 6 = .ok (.ireturn, 1) := by decide +kernel
theorem dX6_isKey_0 : decode cX6_isKey 0 = .ok (.iload_n 0, 1) := by decide +kernel
theorem dX6_isKey_1 : decode cX6_isKey 1 = .ok (.invokestatic 36, 3) := by decide +kernel
theorem dX6_isKey_4 : decode cX6_isKey 4 = .ok (.ifCond .eq 17, 3) := by decide +kernel
theorem dX6_isKey_7 : decode cX6_isKey 7 = .ok (.iload_n 1, 1) := by decide +kernel
theorem dX6_isKey_8 : decode cX6_isKey 8 = .ok (.iconst 0, 1) := by decide +kernel
theorem dX6_isKey_9 : decode cX6_isKey 9 = .ok (.bipush 15, 2) := by decide +kernel
theorem dX6_isKey_11 : decode cX6_isKey 11 = .ok (.invokestatic 32, 3) := by decide +kernel
theorem dX6_isKey_14 : decode cX6_isKey 14 = .ok (.ifCond .eq 7, 3) := by decide +kernel
theorem dX6_isKey_17 : decode cX6_isKey 17 = .ok (.iconst 1, 1) := by decide +kernel
theorem dX6_isKey_18 : decode cX6_isKey 18 = .ok (.goto 4, 3) := by decide +kernel
theorem dX6_isKey_21 : decode cX6_isKey 21 = .ok (.iconst 0, 1) := by decide +kernel
theorem dX6_isKey_22 : decode cX6_isKey 22 = .ok (.ireturn, 1) := by decide +kernel
theorem dX6_keyAt_0 : decode cX6_keyAt 0 = .ok (.iload_n 0, 1) := by decide +kernel
theorem dX6_keyAt_1 : decode cX6_keyAt 1 = .ok (.bipush 8, 2) := by decide +kernel
theorem dX6_keyAt_3 : decode cX6_keyAt 3 = .ok (.iadd, 1) := by decide +kernel
theorem dX6_keyAt_4 : decode cX6_keyAt 4 = .ok (.iconst 3, 1) := by decide +kernel
theorem dX6_keyAt_5 : decode cX6_keyAt 5 = .ok (.bipush 16, 2) := by decide +kernel
theorem dX6_keyAt_7 : decode cX6_keyAt 7 = .ok (.iload_n 1, 1) := by decide +kernel
theorem dX6_keyAt_8 : decode cX6_keyAt 8 = .ok (.imul, 1) := by decide +kernel
theorem dX6_keyAt_9 : decode cX6_keyAt 9 = .ok (.iload_n 2, 1) := by decide +kernel
theorem dX6_keyAt_10 : decode cX6_keyAt 10 = .ok (.iadd, 1) := by decide +kernel
theorem dX6_keyAt_11 : decode cX6_keyAt 11 = .ok (.imul, 1) := by decide +kernel
theorem dX6_keyAt_12 : decode cX6_keyAt 12 = .ok (.iadd, 1) := by decide +kernel
theorem dX6_keyAt_13 : decode cX6_keyAt 13 = .ok (.ireturn, 1) := by decide +kernel
theorem dX6_pileAt_0 : decode cX6_pileAt 0 = .ok (.aload_n 0, 1) := by decide +kernel
theorem dX6_pileAt_1 : decode cX6_pileAt 1 = .ok (.getfield 7, 3) := by decide +kernel
theorem dX6_pileAt_4 : decode cX6_pileAt 4 = .ok (.iload_n 1, 1) := by decide +kernel
theorem dX6_pileAt_5 : decode cX6_pileAt 5 = .ok (.sipush 200, 3) := by decide +kernel
theorem dX6_pileAt_8 : decode cX6_pileAt 8 = .ok (.iadd, 1) := by decide +kernel
theorem dX6_pileAt_9 : decode cX6_pileAt 9 = .ok (.bipush 16, 2) := by decide +kernel
theorem dX6_pileAt_11 : decode cX6_pileAt 11 = .ok (.iload_n 2, 1) := by decide +kernel
theorem dX6_pileAt_12 : decode cX6_pileAt 12 = .ok (.imul, 1) := by decide +kernel
theorem dX6_pileAt_13 : decode cX6_pileAt 13 = .ok (.iadd, 1) := by decide +kernel
theorem dX6_pileAt_14 : decode cX6_pileAt 14 = .ok (.iload_n 3, 1) := by decide +kernel
theorem dX6_pileAt_15 : decode cX6_pileAt 15 = .ok (.iadd, 1) := by decide +kernel
theorem dX6_pileAt_16 : decode cX6_pileAt 16 = .ok (.iaload, 1) := by decide +kernel
theorem dX6_pileAt_17 : decode cX6_pileAt 17 = .ok (.ireturn, 1) := by decide +kernel
theorem dX6_age_0 : decode cX6_age 0 = .ok (.aload_n 0, 1) := by decide +kernel
theorem dX6_age_1 : decode cX6_age 1 = .ok (.getfield 7, 3) := by decide +kernel
theorem dX6_age_4 : decode cX6_age 4 = .ok (.iload_n 1, 1) := by decide +kernel
theorem dX6_age_5 : decode cX6_age 5 = .ok (.iconst 3, 1) := by decide +kernel
theorem dX6_age_6 : decode cX6_age 6 = .ok (.iadd, 1) := by decide +kernel
theorem dX6_age_7 : decode cX6_age 7 = .ok (.iaload, 1) := by decide +kernel
theorem dX6_age_8 : decode cX6_age 8 = .ok (.aload_n 0, 1) := by decide +kernel
theorem dX6_age_9 : decode cX6_age 9 = .ok (.getfield 7, 3) := by decide +kernel
theorem dX6_age_12 : decode cX6_age 12 = .ok (.iload_n 1, 1) := by decide +kernel
theorem dX6_age_13 : decode cX6_age 13 = .ok (.iload_n 2, 1) := by decide +kernel
theorem dX6_age_14 : decode cX6_age 14 = .ok (.iload_n 3, 1) := by decide +kernel
theorem dX6_age_15 : decode cX6_age 15 = .ok (.invokestatic 40, 3) := by decide +kernel
theorem dX6_age_18 : decode cX6_age 18 = .ok (.iconst 2, 1) := by decide +kernel
theorem dX6_age_19 : decode cX6_age 19 = .ok (.iadd, 1) := by decide +kernel
theorem dX6_age_20 : decode cX6_age 20 = .ok (.iaload, 1) := by decide +kernel
theorem dX6_age_21 : decode cX6_age 21 = .ok (.isub, 1) := by decide +kernel
theorem dX6_age_22 : decode cX6_age 22 = .ok (.ireturn, 1) := by decide +kernel
theorem dX6_isRipe_0 : decode cX6_isRipe 0 = .ok (.aload_n 0, 1) := by decide +kernel
theorem dX6_isRipe_1 : decode cX6_isRipe 1 = .ok (.getfield 7, 3) := by decide +kernel
theorem dX6_isRipe_4 : decode cX6_isRipe 4 = .ok (.iload_n 1, 1) := by decide +kernel
theorem dX6_isRipe_5 : decode cX6_isRipe 5 = .ok (.iload_n 2, 1) := by decide +kernel
theorem dX6_isRipe_6 : decode cX6_isRipe 6 = .ok (.iload_n 3, 1) := by decide +kernel
theorem dX6_isRipe_7 : decode cX6_isRipe 7 = .ok (.invokestatic 40, 3) := by decide +kernel
theorem dX6_isRipe_10 : decode cX6_isRipe 10 = .ok (.iaload, 1) := by decide +kernel
theorem dX6_isRipe_11 : decode cX6_isRipe 11 = .ok (.iconst 2, 1) := by decide +kernel
theorem dX6_isRipe_12 : decode cX6_isRipe 12 = .ok (.if_icmp .ne 27, 3) := by decide +kernel
theorem dX6_isRipe_15 : decode cX6_isRipe 15 = .ok (.aload_n 0, 1) := by decide +kernel
theorem dX6_isRipe_16 : decode cX6_isRipe 16 = .ok (.iload_n 1, 1) := by decide +kernel
theorem dX6_isRipe_17 : decode cX6_isRipe 17 = .ok (.iload_n 2, 1) := by decide +kernel
theorem dX6_isRipe_18 : decode cX6_isRipe 18 = .ok (.iload_n 3, 1) := by decide +kernel
theorem dX6_isRipe_19 : decode cX6_isRipe 19 = .ok (.invokevirtual 44, 3) := by decide +kernel
theorem dX6_isRipe_22 : decode cX6_isRipe 22 = .ok (.aload_n 0, 1) := by decide +kernel
theorem dX6_isRipe_23 : decode cX6_isRipe 23 = .ok (.getfield 7, 3) := by decide +kernel
theorem dX6_isRipe_26 : decode cX6_isRipe 26 = .ok (.iload_n 1, 1) := by decide +kernel
theorem dX6_isRipe_27 : decode cX6_isRipe 27 = .ok (.iconst 4, 1) := by decide +kernel
theorem dX6_isRipe_28 : decode cX6_isRipe 28 = .ok (.iadd, 1) := by decide +kernel
theorem dX6_isRipe_29 : decode cX6_isRipe 29 = .ok (.iload_n 2, 1) := by decide +kernel
theorem dX6_isRipe_30 : decode cX6_isRipe 30 = .ok (.iadd, 1) := by decide +kernel
theorem dX6_isRipe_31 : decode cX6_isRipe 31 = .ok (.iaload, 1) := by decide +kernel
theorem dX6_isRipe_32 : decode cX6_isRipe 32 = .ok (.if_icmp .lt 7, 3) := by decide +kernel
theorem dX6_isRipe_35 : decode cX6_isRipe 35 = .ok (.iconst 1, 1) := by decide +kernel
theorem dX6_isRipe_36 : decode cX6_isRipe 36 = .ok (.goto 4, 3) := by decide +kernel
theorem dX6_isRipe_39 : decode cX6_isRipe 39 = .ok (.iconst 0, 1) := by decide +kernel
theorem dX6_isRipe_40 : decode cX6_isRipe 40 = .ok (.ireturn, 1) := by decide +kernel
theorem dX6_canGive_0 : decode cX6_canGive 0 = .ok (.aload_n 0, 1) := by decide +kernel
theorem dX6_canGive_1 : decode cX6_canGive 1 = .ok (.getfield 7, 3) := by decide +kernel
theorem dX6_canGive_4 : decode cX6_canGive 4 = .ok (.iload_n 1, 1) := by decide +kernel
theorem dX6_canGive_5 : decode cX6_canGive 5 = .ok (.iload_n 2, 1) := by decide +kernel
theorem dX6_canGive_6 : decode cX6_canGive 6 = .ok (.iload_n 3, 1) := by decide +kernel
theorem dX6_canGive_7 : decode cX6_canGive 7 = .ok (.invokestatic 40, 3) := by decide +kernel
theorem dX6_canGive_10 : decode cX6_canGive 10 = .ok (.iaload, 1) := by decide +kernel
theorem dX6_canGive_11 : decode cX6_canGive 11 = .ok (.ifCond .eq 13, 3) := by decide +kernel
theorem dX6_canGive_14 : decode cX6_canGive 14 = .ok (.aload_n 0, 1) := by decide +kernel
theorem dX6_canGive_15 : decode cX6_canGive 15 = .ok (.iload_n 1, 1) := by decide +kernel
theorem dX6_canGive_16 : decode cX6_canGive 16 = .ok (.iload_n 2, 1) := by decide +kernel
theorem dX6_canGive_17 : decode cX6_canGive 17 = .ok (.iload_n 3, 1) := by decide +kernel
theorem dX6_canGive_18 : decode cX6_canGive 18 = .ok (.invokevirtual 47, 3) := by decide +kernel
theorem dX6_canGive_21 : decode cX6_canGive 21 = .ok (.ifCond .eq 7, 3) := by decide +kernel
theorem dX6_canGive_24 : decode cX6_canGive 24 = .ok (.iconst 1, 1) := by decide +kernel
theorem dX6_canGive_25 : decode cX6_canGive 25 = .ok (.goto 4, 3) := by decide +kernel
theorem dX6_canGive_28 : decode cX6_canGive 28 = .ok (.iconst 0, 1) := by decide +kernel
theorem dX6_canGive_29 : decode cX6_canGive 29 = .ok (.ireturn, 1) := by decide +kernel
theorem dX6_placeOf_0 : decode cX6_placeOf 0 = .ok (.iconst (-1), 1) := by decide +kernel
theorem dX6_placeOf_1 : decode cX6_placeOf 1 = .ok (.istore 4, 2) := by decide +kernel
theorem dX6_placeOf_3 : decode cX6_placeOf 3 = .ok (.iconst 0, 1) := by decide +kernel
theorem dX6_placeOf_4 : decode cX6_placeOf 4 = .ok (.istore 5, 2) := by decide +kernel
theorem dX6_placeOf_6 : decode cX6_placeOf 6 = .ok (.iload 5, 2) := by decide +kernel
theorem dX6_placeOf_8 : decode cX6_placeOf 8 = .ok (.aload_n 0, 1) := by decide +kernel
theorem dX6_placeOf_9 : decode cX6_placeOf 9 = .ok (.getfield 7, 3) := by decide +kernel
theorem dX6_placeOf_12 : decode cX6_placeOf 12 = .ok (.iload_n 1, 1) := by decide +kernel
theorem dX6_placeOf_13 : decode cX6_placeOf 13 = .ok (.sipush 264, 3) := by decide +kernel
theorem dX6_placeOf_16 : decode cX6_placeOf 16 = .ok (.iadd, 1) := by decide +kernel
theorem dX6_placeOf_17 : decode cX6_placeOf 17 = .ok (.iload_n 2, 1) := by decide +kernel
theorem dX6_placeOf_18 : decode cX6_placeOf 18 = .ok (.iadd, 1) := by decide +kernel
theorem dX6_placeOf_19 : decode cX6_placeOf 19 = .ok (.iaload, 1) := by decide +kernel
theorem dX6_placeOf_20 : decode cX6_placeOf 20 = .ok (.if_icmp .ge 30, 3) := by decide +kernel
theorem dX6_placeOf_23 : decode cX6_placeOf 23 = .ok (.aload_n 0, 1) := by decide +kernel
theorem dX6_placeOf_24 : decode cX6_placeOf 24 = .ok (.iload_n 1, 1) := by decide +kernel
theorem dX6_placeOf_25 : decode cX6_placeOf 25 = .ok (.iload_n 2, 1) := by decide +kernel
theorem dX6_placeOf_26 : decode cX6_placeOf 26 = .ok (.iload 5, 2) := by decide +kernel
theorem dX6_placeOf_28 : decode cX6_placeOf 28 = .ok (.invokevirtual 50, 3) := by decide +kernel
theorem dX6_placeOf_31 : decode cX6_placeOf 31 = .ok (.iload_n 3, 1) := by decide +kernel
theorem dX6_placeOf_32 : decode cX6_placeOf 32 = .ok (.if_icmp .ne 8, 3) := by decide +kernel
theorem dX6_placeOf_35 : decode cX6_placeOf 35 = .ok (.iload 5, 2) := by decide +kernel
theorem dX6_placeOf_37 : decode cX6_placeOf 37 = .ok (.goto 5, 3) := by decide +kernel
theorem dX6_placeOf_40 : decode cX6_placeOf 40 = .ok (.iload 4, 2) := by decide +kernel
theorem dX6_placeOf_42 : decode cX6_placeOf 42 = .ok (.istore 4, 2) := by decide +kernel
theorem dX6_placeOf_44 : decode cX6_placeOf 44 = .ok (.iinc 5 1, 3) := by decide +kernel
theorem dX6_placeOf_47 : decode cX6_placeOf 47 = .ok (.goto (-41), 3) := by decide +kernel
theorem dX6_placeOf_50 : decode cX6_placeOf 50 = .ok (.iload 4, 2) := by decide +kernel
theorem dX6_placeOf_52 : decode cX6_placeOf 52 = .ok (.ireturn, 1) := by decide +kernel
theorem dX6_takes_0 : decode cX6_takes 0 = .ok (.aload_n 0, 1) := by decide +kernel
theorem dX6_takes_1 : decode cX6_takes 1 = .ok (.iload_n 1, 1) := by decide +kernel
theorem dX6_takes_2 : decode cX6_takes 2 = .ok (.iload_n 2, 1) := by decide +kernel
theorem dX6_takes_3 : decode cX6_takes 3 = .ok (.iload_n 3, 1) := by decide +kernel
theorem dX6_takes_4 : decode cX6_takes 4 = .ok (.invokevirtual 53, 3) := by decide +kernel
theorem dX6_takes_7 : decode cX6_takes 7 = .ok (.istore 4, 2) := by decide +kernel
theorem dX6_takes_9 : decode cX6_takes 9 = .ok (.aload_n 0, 1) := by decide +kernel
theorem dX6_takes_10 : decode cX6_takes 10 = .ok (.getfield 7, 3) := by decide +kernel
theorem dX6_takes_13 : decode cX6_takes 13 = .ok (.iload_n 1, 1) := by decide +kernel
theorem dX6_takes_14 : decode cX6_takes 14 = .ok (.sipush 264, 3) := by decide +kernel
theorem dX6_takes_17 : decode cX6_takes 17 = .ok (.iadd, 1) := by decide +kernel
theorem dX6_takes_18 : decode cX6_takes 18 = .ok (.iload_n 2, 1) := by decide +kernel
theorem dX6_takes_19 : decode cX6_takes 19 = .ok (.iadd, 1) := by decide +kernel
theorem dX6_takes_20 : decode cX6_takes 20 = .ok (.dup2, 1) := by decide +kernel
theorem dX6_takes_21 : decode cX6_takes 21 = .ok (.iaload, 1) := by decide +kernel
theorem dX6_takes_22 : decode cX6_takes 22 = .ok (.iconst 1, 1) := by decide +kernel
theorem dX6_takes_23 : decode cX6_takes 23 = .ok (.isub, 1) := by decide +kernel
theorem dX6_takes_24 : decode cX6_takes 24 = .ok (.iastore, 1) := by decide +kernel
theorem dX6_takes_25 : decode cX6_takes 25 = .ok (.iload 4, 2) := by decide +kernel
theorem dX6_takes_27 : decode cX6_takes 27 = .ok (.istore 5, 2) := by decide +kernel
theorem dX6_takes_29 : decode cX6_takes 29 = .ok (.iload 5, 2) := by decide +kernel
theorem dX6_takes_31 : decode cX6_takes 31 = .ok (.aload_n 0, 1) := by decide +kernel
theorem dX6_takes_32 : decode cX6_takes 32 = .ok (.getfield 7, 3) := by decide +kernel
theorem dX6_takes_35 : decode cX6_takes 35 = .ok (.iload_n 1, 1) := by decide +kernel
theorem dX6_takes_36 : decode cX6_takes 36 = .ok (.sipush 264, 3) := by decide +kernel
theorem dX6_takes_39 : decode cX6_takes 39 = .ok (.iadd, 1) := by decide +kernel
theorem dX6_takes_40 : decode cX6_takes 40 = .ok (.iload_n 2, 1) := by decide +kernel
theorem dX6_takes_41 : decode cX6_takes 41 = .ok (.iadd, 1) := by decide +kernel
theorem dX6_takes_42 : decode cX6_takes 42 = .ok (.iaload, 1) := by decide +kernel
theorem dX6_takes_43 : decode cX6_takes 43 = .ok (.if_icmp .ge 37, 3) := by decide +kernel
theorem dX6_takes_46 : decode cX6_takes 46 = .ok (.aload_n 0, 1) := by decide +kernel
theorem dX6_takes_47 : decode cX6_takes 47 = .ok (.getfield 7, 3) := by decide +kernel
theorem dX6_takes_50 : decode cX6_takes 50 = .ok (.iload_n 1, 1) := by decide +kernel
theorem dX6_takes_51 : decode cX6_takes 51 = .ok (.sipush 200, 3) := by decide +kernel
theorem dX6_takes_54 : decode cX6_takes 54 = .ok (.iadd, 1) := by decide +kernel
theorem dX6_takes_55 : decode cX6_takes 55 = .ok (.bipush 16, 2) := by decide +kernel
theorem dX6_takes_57 : decode cX6_takes 57 = .ok (.iload_n 2, 1) := by decide +kernel
theorem dX6_takes_58 : decode cX6_takes 58 = .ok (.imul, 1) := by decide +kernel
theorem dX6_takes_59 : decode cX6_takes 59 = .ok (.iadd, 1) := by decide +kernel
theorem dX6_takes_60 : decode cX6_takes 60 = .ok (.iload 5, 2) := by decide +kernel
theorem dX6_takes_62 : decode cX6_takes 62 = .ok (.iadd, 1) := by decide +kernel
theorem dX6_takes_63 : decode cX6_takes 63 = .ok (.aload_n 0, 1) := by decide +kernel
theorem dX6_takes_64 : decode cX6_takes 64 = .ok (.iload_n 1, 1) := by decide +kernel
theorem dX6_takes_65 : decode cX6_takes 65 = .ok (.iload_n 2, 1) := by decide +kernel
theorem dX6_takes_66 : decode cX6_takes 66 = .ok (.iload 5, 2) := by decide +kernel
theorem dX6_takes_68 : decode cX6_takes 68 = .ok (.iconst 1, 1) := by decide +kernel
theorem dX6_takes_69 : decode cX6_takes 69 = .ok (.iadd, 1) := by decide +kernel
theorem dX6_takes_70 : decode cX6_takes 70 = .ok (.invokevirtual 50, 3) := by decide +kernel
theorem dX6_takes_73 : decode cX6_takes 73 = .ok (.iastore, 1) := by decide +kernel
theorem dX6_takes_74 : decode cX6_takes 74 = .ok (.iinc 5 1, 3) := by decide +kernel
theorem dX6_takes_77 : decode cX6_takes 77 = .ok (.goto (-48), 3) := by decide +kernel
theorem dX6_takes_80 : decode cX6_takes 80 = .ok (.return_, 1) := by decide +kernel
theorem dX6_lowestFresh_0 : decode cX6_lowestFresh 0 = .ok (.iconst (-1), 1) := by decide +kernel
theorem dX6_lowestFresh_1 : decode cX6_lowestFresh 1 = .ok (.istore_n 3, 1) := by decide +kernel
theorem dX6_lowestFresh_2 : decode cX6_lowestFresh 2 = .ok (.bipush 15, 2) := by decide +kernel
theorem dX6_lowestFresh_4 : decode cX6_lowestFresh 4 = .ok (.istore 4, 2) := by decide +kernel
theorem dX6_lowestFresh_6 : decode cX6_lowestFresh 6 = .ok (.iload 4, 2) := by decide +kernel
theorem dX6_lowestFresh_8 : decode cX6_lowestFresh 8 = .ok (.ifCond .lt 31, 3) := by decide +kernel
theorem dX6_lowestFresh_11 : decode cX6_lowestFresh 11 = .ok (.aload_n 0, 1) := by decide +kernel
theorem dX6_lowestFresh_12 : decode cX6_lowestFresh 12 = .ok (.getfield 7, 3) := by decide +kernel
theorem dX6_lowestFresh_15 : decode cX6_lowestFresh 15 = .ok (.iload_n 1, 1) := by decide +kernel
theorem dX6_lowestFresh_16 : decode cX6_lowestFresh 16 = .ok (.iload_n 2, 1) := by decide +kernel
theorem dX6_lowestFresh_17 : decode cX6_lowestFresh 17 = .ok (.iload 4, 2) := by decide +kernel
theorem dX6_lowestFresh_19 : decode cX6_lowestFresh 19 = .ok (.invokestatic 40, 3) := by decide +kernel
theorem dX6_lowestFresh_22 : decode cX6_lowestFresh 22 = .ok (.iaload, 1) := by decide +kernel
theorem dX6_lowestFresh_23 : decode cX6_lowestFresh 23 = .ok (.ifCond .ne 8, 3) := by decide +kernel
theorem dX6_lowestFresh_26 : decode cX6_lowestFresh 26 = .ok (.iload 4, 2) := by decide +kernel
theorem dX6_lowestFresh_28 : decode cX6_lowestFresh 28 = .ok (.goto 4, 3) := by decide +kernel
theorem dX6_lowestFresh_31 : decode cX6_lowestFresh 31 = .ok (.iload_n 3, 1) := by decide +kernel
theorem dX6_lowestFresh_32 : decode cX6_lowestFresh 32 = .ok (.istore_n 3, 1) := by decide +kernel
theorem dX6_lowestFresh_33 : decode cX6_lowestFresh 33 = .ok (.iinc 4 (-1), 3) := by decide +kernel
theorem dX6_lowestFresh_36 : decode cX6_lowestFresh 36 = .ok (.goto (-30), 3) := by decide +kernel
theorem dX6_lowestFresh_39 : decode cX6_lowestFresh 39 = .ok (.iload_n 3, 1) := by decide +kernel
theorem dX6_lowestFresh_40 : decode cX6_lowestFresh 40 = .ok (.ireturn, 1) := by decide +kernel
theorem dX6_topRipe_0 : decode cX6_topRipe 0 = .ok (.iconst (-1), 1) := by decide +kernel
theorem dX6_topRipe_1 : decode cX6_topRipe 1 = .ok (.istore_n 3, 1) := by decide +kernel
theorem dX6_topRipe_2 : decode cX6_topRipe 2 = .ok (.aload_n 0, 1) := by decide +kernel
theorem dX6_topRipe_3 : decode cX6_topRipe 3 = .ok (.getfield 7, 3) := by decide +kernel
theorem dX6_topRipe_6 : decode cX6_topRipe 6 = .ok (.iload_n 1, 1) := by decide +kernel
theorem dX6_topRipe_7 : decode cX6_topRipe 7 = .ok (.sipush 264, 3) := by decide +kernel
theorem dX6_topRipe_10 : decode cX6_topRipe 10 = .ok (.iadd, 1) := by decide +kernel
theorem dX6_topRipe_11 : decode cX6_topRipe 11 = .ok (.iload_n 2, 1) := by decide +kernel
theorem dX6_topRipe_12 : decode cX6_topRipe 12 = .ok (.iadd, 1) := by decide +kernel
theorem dX6_topRipe_13 : decode cX6_topRipe 13 = .ok (.iaload, 1) := by decide +kernel
theorem dX6_topRipe_14 : decode cX6_topRipe 14 = .ok (.iconst 1, 1) := by decide +kernel
theorem dX6_topRipe_15 : decode cX6_topRipe 15 = .ok (.isub, 1) := by decide +kernel
theorem dX6_topRipe_16 : decode cX6_topRipe 16 = .ok (.istore 4, 2) := by decide +kernel
theorem dX6_topRipe_18 : decode cX6_topRipe 18 = .ok (.iload 4, 2) := by decide +kernel
theorem dX6_topRipe_20 : decode cX6_topRipe 20 = .ok (.ifCond .lt 37, 3) := by decide +kernel
theorem dX6_topRipe_23 : decode cX6_topRipe 23 = .ok (.aload_n 0, 1) := by decide +kernel
theorem dX6_topRipe_24 : decode cX6_topRipe 24 = .ok (.iload_n 1, 1) := by decide +kernel
theorem dX6_topRipe_25 : decode cX6_topRipe 25 = .ok (.iload_n 2, 1) := by decide +kernel
theorem dX6_topRipe_26 : decode cX6_topRipe 26 = .ok (.iload 4, 2) := by decide +kernel
theorem dX6_topRipe_28 : decode cX6_topRipe 28 = .ok (.invokevirtual 50, 3) := by decide +kernel
theorem dX6_topRipe_31 : decode cX6_topRipe 31 = .ok (.istore 5, 2) := by decide +kernel
theorem dX6_topRipe_33 : decode cX6_topRipe 33 = .ok (.aload_n 0, 1) := by decide +kernel
theorem dX6_topRipe_34 : decode cX6_topRipe 34 = .ok (.iload_n 1, 1) := by decide +kernel
theorem dX6_topRipe_35 : decode cX6_topRipe 35 = .ok (.iload_n 2, 1) := by decide +kernel
theorem dX6_topRipe_36 : decode cX6_topRipe 36 = .ok (.iload 5, 2) := by decide +kernel
theorem dX6_topRipe_38 : decode cX6_topRipe 38 = .ok (.invokevirtual 47, 3) := by decide +kernel
theorem dX6_topRipe_41 : decode cX6_topRipe 41 = .ok (.ifCond .eq 8, 3) := by decide +kernel
theorem dX6_topRipe_44 : decode cX6_topRipe 44 = .ok (.iload 5, 2) := by decide +kernel
theorem dX6_topRipe_46 : decode cX6_topRipe 46 = .ok (.goto 4, 3) := by decide +kernel
theorem dX6_topRipe_49 : decode cX6_topRipe 49 = .ok (.iload_n 3, 1) := by decide +kernel
theorem dX6_topRipe_50 : decode cX6_topRipe 50 = .ok (.istore_n 3, 1) := by decide +kernel
theorem dX6_topRipe_51 : decode cX6_topRipe 51 = .ok (.iinc 4 (-1), 3) := by decide +kernel
theorem dX6_topRipe_54 : decode cX6_topRipe 54 = .ok (.goto (-36), 3) := by decide +kernel
theorem dX6_topRipe_57 : decode cX6_topRipe 57 = .ok (.iload_n 3, 1) := by decide +kernel
theorem dX6_topRipe_58 : decode cX6_topRipe 58 = .ok (.ireturn, 1) := by decide +kernel
theorem dX6_draws_0 : decode cX6_draws 0 = .ok (.aload_n 0, 1) := by decide +kernel
theorem dX6_draws_1 : decode cX6_draws 1 = .ok (.iload_n 1, 1) := by decide +kernel
theorem dX6_draws_2 : decode cX6_draws 2 = .ok (.iload_n 2, 1) := by decide +kernel
theorem dX6_draws_3 : decode cX6_draws 3 = .ok (.invokevirtual 56, 3) := by decide +kernel
theorem dX6_draws_6 : decode cX6_draws 6 = .ok (.istore_n 3, 1) := by decide +kernel
theorem dX6_draws_7 : decode cX6_draws 7 = .ok (.aload_n 0, 1) := by decide +kernel
theorem dX6_draws_8 : decode cX6_draws 8 = .ok (.iload_n 1, 1) := by decide +kernel
theorem dX6_draws_9 : decode cX6_draws 9 = .ok (.iload_n 2, 1) := by decide +kernel
theorem dX6_draws_10 : decode cX6_draws 10 = .ok (.invokevirtual 60, 3) := by decide +kernel
theorem dX6_draws_13 : decode cX6_draws 13 = .ok (.istore 4, 2) := by decide +kernel
theorem dX6_draws_15 : decode cX6_draws 15 = .ok (.aload_n 0, 1) := by decide +kernel
theorem dX6_draws_16 : decode cX6_draws 16 = .ok (.getfield 7, 3) := by decide +kernel
theorem dX6_draws_19 : decode cX6_draws 19 = .ok (.iload_n 1, 1) := by decide +kernel
theorem dX6_draws_20 : decode cX6_draws 20 = .ok (.iaload, 1) := by decide +kernel
theorem dX6_draws_21 : decode cX6_draws 21 = .ok (.ifCond .ne 14, 3) := by decide +kernel
theorem dX6_draws_24 : decode cX6_draws 24 = .ok (.iload_n 3, 1) := by decide +kernel
theorem dX6_draws_25 : decode cX6_draws 25 = .ok (.ifCond .lt 7, 3) := by decide +kernel
theorem dX6_draws_28 : decode cX6_draws 28 = .ok (.iload_n 3, 1) := by decide +kernel
theorem dX6_draws_29 : decode cX6_draws 29 = .ok (.goto 5, 3) := by decide +kernel
theorem dX6_draws_32 : decode cX6_draws 32 = .ok (.iload 4, 2) := by decide +kernel
theorem dX6_draws_34 : decode cX6_draws 34 = .ok (.ireturn, 1) := by decide +kernel
theorem dX6_draws_35 : decode cX6_draws 35 = .ok (.aload_n 0, 1) := by decide +kernel
theorem dX6_draws_36 : decode cX6_draws 36 = .ok (.getfield 7, 3) := by decide +kernel
theorem dX6_draws_39 : decode cX6_draws 39 = .ok (.iload_n 1, 1) := by decide +kernel
theorem dX6_draws_40 : decode cX6_draws 40 = .ok (.iaload, 1) := by decide +kernel
theorem dX6_draws_41 : decode cX6_draws 41 = .ok (.iconst 1, 1) := by decide +kernel
theorem dX6_draws_42 : decode cX6_draws 42 = .ok (.if_icmp .ne 15, 3) := by decide +kernel
theorem dX6_draws_45 : decode cX6_draws 45 = .ok (.iload 4, 2) := by decide +kernel
theorem dX6_draws_47 : decode cX6_draws 47 = .ok (.ifCond .lt 8, 3) := by decide +kernel
theorem dX6_draws_50 : decode cX6_draws 50 = .ok (.iload 4, 2) := by decide +kernel
theorem dX6_draws_52 : decode cX6_draws 52 = .ok (.goto 4, 3) := by decide +kernel
theorem dX6_draws_55 : decode cX6_draws 55 = .ok (.iload_n 3, 1) := by decide +kernel
theorem dX6_draws_56 : decode cX6_draws 56 = .ok (.ireturn, 1) := by decide +kernel
theorem dX6_draws_57 : decode cX6_draws 57 = .ok (.iconst (-1), 1) := by decide +kernel
theorem dX6_draws_58 : decode cX6_draws 58 = .ok (.istore 5, 2) := by decide +kernel
theorem dX6_draws_60 : decode cX6_draws 60 = .ok (.iconst 0, 1) := by decide +kernel
theorem dX6_draws_61 : decode cX6_draws 61 = .ok (.istore 6, 2) := by decide +kernel
theorem dX6_draws_63 : decode cX6_draws 63 = .ok (.iconst 0, 1) := by decide +kernel
theorem dX6_draws_64 : decode cX6_draws 64 = .ok (.istore 7, 2) := by decide +kernel
theorem dX6_draws_66 : decode cX6_draws 66 = .ok (.iload 7, 2) := by decide +kernel
theorem dX6_draws_68 : decode cX6_draws 68 = .ok (.bipush 16, 2) := by decide +kernel
theorem dX6_draws_70 : decode cX6_draws 70 = .ok (.if_icmp .ge 70, 3) := by decide +kernel
theorem dX6_draws_73 : decode cX6_draws 73 = .ok (.aload_n 0, 1) := by decide +kernel
theorem dX6_draws_74 : decode cX6_draws 74 = .ok (.getfield 7, 3) := by decide +kernel
theorem dX6_draws_77 : decode cX6_draws 77 = .ok (.iload_n 1, 1) := by decide +kernel
theorem dX6_draws_78 : decode cX6_draws 78 = .ok (.iaload, 1) := by decide +kernel
theorem dX6_draws_79 : decode cX6_draws 79 = .ok (.iconst 2, 1) := by decide +kernel
theorem dX6_draws_80 : decode cX6_draws 80 = .ok (.if_icmp .ne 7, 3) := by decide +kernel
theorem dX6_draws_83 : decode cX6_draws 83 = .ok (.iconst 0, 1) := by decide +kernel
theorem dX6_draws_84 : decode cX6_draws 84 = .ok (.goto 17, 3) := by decide +kernel
theorem dX6_draws_87 : decode cX6_draws 87 = .ok (.aload_n 0, 1) := by decide +kernel
theorem dX6_draws_88 : decode cX6_draws 88 = .ok (.getfield 7, 3) := by decide +kernel
theorem dX6_draws_91 : decode cX6_draws 91 = .ok (.iload_n 1, 1) := by decide +kernel
theorem dX6_draws_92 : decode cX6_draws 92 = .ok (.iload_n 2, 1) := by decide +kernel
theorem dX6_draws_93 : decode cX6_draws 93 = .ok (.iload 7, 2) := by decide +kernel
theorem dX6_draws_95 : decode cX6_draws 95 = .ok (.invokestatic 40, 3) := by decide +kernel
theorem dX6_draws_98 : decode cX6_draws 98 = .ok (.iconst 1, 1) := by decide +kernel
theorem dX6_draws_99 : decode cX6_draws 99 = .ok (.iadd, 1) := by decide +kernel
theorem dX6_draws_100 : decode cX6_draws 100 = .ok (.iaload, 1) := by decide +kernel
theorem dX6_draws_101 : decode cX6_draws 101 = .ok (.istore 8, 2) := by decide +kernel
theorem dX6_draws_103 : decode cX6_draws 103 = .ok (.aload_n 0, 1) := by decide +kernel
theorem dX6_draws_104 : decode cX6_draws 104 = .ok (.iload_n 1, 1) := by decide +kernel
theorem dX6_draws_105 : decode cX6_draws 105 = .ok (.iload_n 2, 1) := by decide +kernel
theorem dX6_draws_106 : decode cX6_draws 106 = .ok (.iload 7, 2) := by decide +kernel
theorem dX6_draws_108 : decode cX6_draws 108 = .ok (.invokevirtual 63, 3) := by decide +kernel
theorem dX6_draws_111 : decode cX6_draws 111 = .ok (.ifCond .eq 23, 3) := by decide +kernel
theorem dX6_draws_114 : decode cX6_draws 114 = .ok (.iload 5, 2) := by decide +kernel
theorem dX6_draws_116 : decode cX6_draws 116 = .ok (.ifCond .lt 10, 3) := by decide +kernel
theorem dX6_draws_119 : decode cX6_draws 119 = .ok (.iload 8, 2) := by decide +kernel
theorem dX6_draws_121 : decode cX6_draws 121 = .ok (.iload 6, 2) := by decide +kernel
theorem dX6_draws_123 : decode cX6_draws 123 = .ok (.if_icmp .ge 11, 3) := by decide +kernel
theorem dX6_draws_126 : decode cX6_draws 126 = .ok (.iload 7, 2) := by decide +kernel
theorem dX6_draws_128 : decode cX6_draws 128 = .ok (.istore 5, 2) := by decide +kernel
theorem dX6_draws_130 : decode cX6_draws 130 = .ok (.iload 8, 2) := by decide +kernel
theorem dX6_draws_132 : decode cX6_draws 132 = .ok (.istore 6, 2) := by decide +kernel
theorem dX6_draws_134 : decode cX6_draws 134 = .ok (.iinc 7 1, 3) := by decide +kernel
theorem dX6_draws_137 : decode cX6_draws 137 = .ok (.goto (-71), 3) := by decide +kernel
theorem dX6_draws_140 : decode cX6_draws 140 = .ok (.iload 5, 2) := by decide +kernel
theorem dX6_draws_142 : decode cX6_draws 142 = .ok (.ireturn, 1) := by decide +kernel
theorem dX6_gives_0 : decode cX6_gives 0 = .ok (.iload_n 1, 1) := by decide +kernel
theorem dX6_gives_1 : decode cX6_gives 1 = .ok (.iload_n 2, 1) := by decide +kernel
theorem dX6_gives_2 : decode cX6_gives 2 = .ok (.iload_n 3, 1) := by decide +kernel
theorem dX6_gives_3 : decode cX6_gives 3 = .ok (.invokestatic 40, 3) := by decide +kernel
theorem dX6_gives_6 : decode cX6_gives 6 = .ok (.istore 4, 2) := by decide +kernel
theorem dX6_gives_8 : decode cX6_gives 8 = .ok (.aload_n 0, 1) := by decide +kernel
theorem dX6_gives_9 : decode cX6_gives 9 = .ok (.getfield 7, 3) := by decide +kernel
theorem dX6_gives_12 : decode cX6_gives 12 = .ok (.iload 4, 2) := by decide +kernel
theorem dX6_gives_14 : decode cX6_gives 14 = .ok (.iaload, 1) := by decide +kernel
theorem dX6_gives_15 : decode cX6_gives 15 = .ok (.iconst 2, 1) := by decide +kernel
theorem dX6_gives_16 : decode cX6_gives 16 = .ok (.if_icmp .ne 10, 3) := by decide +kernel
theorem dX6_gives_19 : decode cX6_gives 19 = .ok (.aload_n 0, 1) := by decide +kernel
theorem dX6_gives_20 : decode cX6_gives 20 = .ok (.iload_n 1, 1) := by decide +kernel
theorem dX6_gives_21 : decode cX6_gives 21 = .ok (.iload_n 2, 1) := by decide +kernel
theorem dX6_gives_22 : decode cX6_gives 22 = .ok (.iload_n 3, 1) := by decide +kernel
theorem dX6_gives_23 : decode cX6_gives 23 = .ok (.invokevirtual 66, 3) := by decide +kernel
theorem dX6_gives_26 : decode cX6_gives 26 = .ok (.aload_n 0, 1) := by decide +kernel
theorem dX6_gives_27 : decode cX6_gives 27 = .ok (.getfield 7, 3) := by decide +kernel
theorem dX6_gives_30 : decode cX6_gives 30 = .ok (.iload 4, 2) := by decide +kernel
theorem dX6_gives_32 : decode cX6_gives 32 = .ok (.iconst 1, 1) := by decide +kernel
theorem dX6_gives_33 : decode cX6_gives 33 = .ok (.iastore, 1) := by decide +kernel
theorem dX6_gives_34 : decode cX6_gives 34 = .ok (.aload_n 0, 1) := by decide +kernel
theorem dX6_gives_35 : decode cX6_gives 35 = .ok (.getfield 7, 3) := by decide +kernel
theorem dX6_gives_38 : decode cX6_gives 38 = .ok (.iload 4, 2) := by decide +kernel
theorem dX6_gives_40 : decode cX6_gives 40 = .ok (.iconst 1, 1) := by decide +kernel
theorem dX6_gives_41 : decode cX6_gives 41 = .ok (.iadd, 1) := by decide +kernel
theorem dX6_gives_42 : decode cX6_gives 42 = .ok (.dup2, 1) := by decide +kernel
theorem dX6_gives_43 : decode cX6_gives 43 = .ok (.iaload, 1) := by decide +kernel
theorem dX6_gives_44 : decode cX6_gives 44 = .ok (.iconst 1, 1) := by decide +kernel
theorem dX6_gives_45 : decode cX6_gives 45 = .ok (.iadd, 1) := by decide +kernel
theorem dX6_gives_46 : decode cX6_gives 46 = .ok (.iastore, 1) := by decide +kernel
theorem dX6_gives_47 : decode cX6_gives 47 = .ok (.aload_n 0, 1) := by decide +kernel
theorem dX6_gives_48 : decode cX6_gives 48 = .ok (.getfield 7, 3) := by decide +kernel
theorem dX6_gives_51 : decode cX6_gives 51 = .ok (.iload_n 1, 1) := by decide +kernel
theorem dX6_gives_52 : decode cX6_gives 52 = .ok (.sipush 268, 3) := by decide +kernel
theorem dX6_gives_55 : decode cX6_gives 55 = .ok (.iadd, 1) := by decide +kernel
theorem dX6_gives_56 : decode cX6_gives 56 = .ok (.iload_n 2, 1) := by decide +kernel
theorem dX6_gives_57 : decode cX6_gives 57 = .ok (.iadd, 1) := by decide +kernel
theorem dX6_gives_58 : decode cX6_gives 58 = .ok (.dup2, 1) := by decide +kernel
theorem dX6_gives_59 : decode cX6_gives 59 = .ok (.iaload, 1) := by decide +kernel
theorem dX6_gives_60 : decode cX6_gives 60 = .ok (.iconst 1, 1) := by decide +kernel
theorem dX6_gives_61 : decode cX6_gives 61 = .ok (.iadd, 1) := by decide +kernel
theorem dX6_gives_62 : decode cX6_gives 62 = .ok (.iastore, 1) := by decide +kernel
theorem dX6_gives_63 : decode cX6_gives 63 = .ok (.return_, 1) := by decide +kernel
theorem dX6_without_0 : decode cX6_without 0 = .ok (.aload_n 0, 1) := by decide +kernel
theorem dX6_without_1 : decode cX6_without 1 = .ok (.getfield 7, 3) := by decide +kernel
theorem dX6_without_4 : decode cX6_without 4 = .ok (.sipush 276, 3) := by decide +kernel
theorem dX6_without_7 : decode cX6_without 7 = .ok (.iload_n 1, 1) := by decide +kernel
theorem dX6_without_8 : decode cX6_without 8 = .ok (.iadd, 1) := by decide +kernel
theorem dX6_without_9 : decode cX6_without 9 = .ok (.dup2, 1) := by decide +kernel
theorem dX6_without_10 : decode cX6_without 10 = .ok (.iaload, 1) := by decide +kernel
theorem dX6_without_11 : decode cX6_without 11 = .ok (.iconst 1, 1) := by decide +kernel
theorem dX6_without_12 : decode cX6_without 12 = .ok (.iadd, 1) := by decide +kernel
theorem dX6_without_13 : decode cX6_without 13 = .ok (.iastore, 1) := by decide +kernel
theorem dX6_without_14 : decode cX6_without 14 = .ok (.aload_n 0, 1) := by decide +kernel
theorem dX6_without_15 : decode cX6_without 15 = .ok (.getfield 7, 3) := by decide +kernel
theorem dX6_without_18 : decode cX6_without 18 = .ok (.sipush 280, 3) := by decide +kernel
theorem dX6_without_21 : decode cX6_without 21 = .ok (.iload_n 1, 1) := by decide +kernel
theorem dX6_without_22 : decode cX6_without 22 = .ok (.iadd, 1) := by decide +kernel
theorem dX6_without_23 : decode cX6_without 23 = .ok (.dup2, 1) := by decide +kernel
theorem dX6_without_24 : decode cX6_without 24 = .ok (.iaload, 1) := by decide +kernel
theorem dX6_without_25 : decode cX6_without 25 = .ok (.iload_n 2, 1) := by decide +kernel
theorem dX6_without_26 : decode cX6_without 26 = .ok (.iconst 2, 1) := by decide +kernel
theorem dX6_without_27 : decode cX6_without 27 = .ok (.if_icmp .eq 8, 3) := by decide +kernel
theorem dX6_without_30 : decode cX6_without 30 = .ok (.iload_n 2, 1) := by decide +kernel
theorem dX6_without_31 : decode cX6_without 31 = .ok (.iconst 5, 1) := by decide +kernel
theorem dX6_without_32 : decode cX6_without 32 = .ok (.if_icmp .ne 7, 3) := by decide +kernel
theorem dX6_without_35 : decode cX6_without 35 = .ok (.iconst 1, 1) := by decide +kernel
theorem dX6_without_36 : decode cX6_without 36 = .ok (.goto 4, 3) := by decide +kernel
theorem dX6_without_39 : decode cX6_without 39 = .ok (.iconst 0, 1) := by decide +kernel
theorem dX6_without_40 : decode cX6_without 40 = .ok (.iadd, 1) := by decide +kernel
theorem dX6_without_41 : decode cX6_without 41 = .ok (.iastore, 1) := by decide +kernel
theorem dX6_without_42 : decode cX6_without 42 = .ok (.bipush 100, 2) := by decide +kernel
theorem dX6_without_44 : decode cX6_without 44 = .ok (.iload_n 2, 1) := by decide +kernel
theorem dX6_without_45 : decode cX6_without 45 = .ok (.iadd, 1) := by decide +kernel
theorem dX6_without_46 : decode cX6_without 46 = .ok (.ireturn, 1) := by decide +kernel
theorem dX6_reason_0 : decode cX6_reason 0 = .ok (.aload_n 0, 1) := by decide +kernel
theorem dX6_reason_1 : decode cX6_reason 1 = .ok (.getfield 7, 3) := by decide +kernel
theorem dX6_reason_4 : decode cX6_reason 4 = .ok (.sipush 264, 3) := by decide +kernel
theorem dX6_reason_7 : decode cX6_reason 7 = .ok (.iload_n 1, 1) := by decide +kernel
theorem dX6_reason_8 : decode cX6_reason 8 = .ok (.iadd, 1) := by decide +kernel
theorem dX6_reason_9 : decode cX6_reason 9 = .ok (.iaload, 1) := by decide +kernel
theorem dX6_reason_10 : decode cX6_reason 10 = .ok (.ifCond .ne 7, 3) := by decide +kernel
theorem dX6_reason_13 : decode cX6_reason 13 = .ok (.iconst 1, 1) := by decide +kernel
theorem dX6_reason_14 : decode cX6_reason 14 = .ok (.goto 4, 3) := by decide +kernel
theorem dX6_reason_17 : decode cX6_reason 17 = .ok (.iconst 2, 1) := by decide +kernel
theorem dX6_reason_18 : decode cX6_reason 18 = .ok (.ireturn, 1) := by decide +kernel
theorem dX6_asks_0 : decode cX6_asks 0 = .ok (.aload_n 0, 1) := by decide +kernel
theorem dX6_asks_1 : decode cX6_asks 1 = .ok (.iconst 0, 1) := by decide +kernel
theorem dX6_asks_2 : decode cX6_asks 2 = .ok (.iload_n 1, 1) := by decide +kernel
theorem dX6_asks_3 : decode cX6_asks 3 = .ok (.invokevirtual 70, 3) := by decide +kernel
theorem dX6_asks_6 : decode cX6_asks 6 = .ok (.istore_n 2, 1) := by decide +kernel
theorem dX6_asks_7 : decode cX6_asks 7 = .ok (.iload_n 2, 1) := by decide +kernel
theorem dX6_asks_8 : decode cX6_asks 8 = .ok (.ifCond .ge 14, 3) := by decide +kernel
theorem dX6_asks_11 : decode cX6_asks 11 = .ok (.aload_n 0, 1) := by decide +kernel
theorem dX6_asks_12 : decode cX6_asks 12 = .ok (.iload_n 1, 1) := by decide +kernel
theorem dX6_asks_13 : decode cX6_asks 13 = .ok (.aload_n 0, 1) := by decide +kernel
theorem dX6_asks_14 : decode cX6_asks 14 = .ok (.iload_n 1, 1) := by decide +kernel
theorem dX6_asks_15 : decode cX6_asks 15 = .ok (.invokevirtual 73, 3) := by decide +kernel
theorem dX6_asks_18 : decode cX6_asks 18 = .ok (.invokevirtual 77, 3) := by decide +kernel
theorem dX6_asks_21 : decode cX6_asks 21 = .ok (.ireturn, 1) := by decide +kernel
theorem dX6_asks_22 : decode cX6_asks 22 = .ok (.aload_n 0, 1) := by decide +kernel
theorem dX6_asks_23 : decode cX6_asks 23 = .ok (.iconst 0, 1) := by decide +kernel
theorem dX6_asks_24 : decode cX6_asks 24 = .ok (.iload_n 1, 1) := by decide +kernel
theorem dX6_asks_25 : decode cX6_asks 25 = .ok (.iload_n 2, 1) := by decide +kernel
theorem dX6_asks_26 : decode cX6_asks 26 = .ok (.invokevirtual 80, 3) := by decide +kernel
theorem dX6_asks_29 : decode cX6_asks 29 = .ok (.iload_n 2, 1) := by decide +kernel
theorem dX6_asks_30 : decode cX6_asks 30 = .ok (.ireturn, 1) := by decide +kernel
theorem dX6_ask_0 : decode cX6_ask 0 = .ok (.aload_n 0, 1) := by decide +kernel
theorem dX6_ask_1 : decode cX6_ask 1 = .ok (.iload_n 1, 1) := by decide +kernel
theorem dX6_ask_2 : decode cX6_ask 2 = .ok (.invokestatic 36, 3) := by decide +kernel
theorem dX6_ask_5 : decode cX6_ask 5 = .ok (.iconst 1, 1) := by decide +kernel
theorem dX6_ask_6 : decode cX6_ask 6 = .ok (.invokevirtual 83, 3) := by decide +kernel
theorem dX6_ask_9 : decode cX6_ask 9 = .ok (.ifCond .ne 5, 3) := by decide +kernel
theorem dX6_ask_12 : decode cX6_ask 12 = .ok (.iconst 0, 1) := by decide +kernel
theorem dX6_ask_13 : decode cX6_ask 13 = .ok (.ireturn, 1) := by decide +kernel
theorem dX6_ask_14 : decode cX6_ask 14 = .ok (.aload_n 0, 1) := by decide +kernel
theorem dX6_ask_15 : decode cX6_ask 15 = .ok (.invokevirtual 87, 3) := by decide +kernel
theorem dX6_ask_18 : decode cX6_ask 18 = .ok (.aload_n 0, 1) := by decide +kernel
theorem dX6_ask_19 : decode cX6_ask 19 = .ok (.iload_n 1, 1) := by decide +kernel
theorem dX6_ask_20 : decode cX6_ask 20 = .ok (.invokevirtual 90, 3) := by decide +kernel
theorem dX6_ask_23 : decode cX6_ask 23 = .ok (.ireturn, 1) := by decide +kernel
theorem dX6_wants_0 : decode cX6_wants 0 = .ok (.iconst 0, 1) := by decide +kernel
theorem dX6_wants_1 : decode cX6_wants 1 = .ok (.iload_n 1, 1) := by decide +kernel
theorem dX6_wants_2 : decode cX6_wants 2 = .ok (.iload_n 2, 1) := by decide +kernel
theorem dX6_wants_3 : decode cX6_wants 3 = .ok (.invokestatic 40, 3) := by decide +kernel
theorem dX6_wants_6 : decode cX6_wants 6 = .ok (.istore_n 3, 1) := by decide +kernel
theorem dX6_wants_7 : decode cX6_wants 7 = .ok (.aload_n 0, 1) := by decide +kernel
theorem dX6_wants_8 : decode cX6_wants 8 = .ok (.iconst 0, 1) := by decide +kernel
theorem dX6_wants_9 : decode cX6_wants 9 = .ok (.iload_n 1, 1) := by decide +kernel
theorem dX6_wants_10 : decode cX6_wants 10 = .ok (.iload_n 2, 1) := by decide +kernel
theorem dX6_wants_11 : decode cX6_wants 11 = .ok (.invokevirtual 63, 3) := by decide +kernel
theorem dX6_wants_14 : decode cX6_wants 14 = .ok (.ifCond .ne 38, 3) := by decide +kernel
theorem dX6_wants_17 : decode cX6_wants 17 = .ok (.aload_n 0, 1) := by decide +kernel
theorem dX6_wants_18 : decode cX6_wants 18 = .ok (.iload_n 1, 1) := by decide +kernel
theorem dX6_wants_19 : decode cX6_wants 19 = .ok (.aload_n 0, 1) := by decide +kernel
theorem dX6_wants_20 : decode cX6_wants 20 = .ok (.getfield 7, 3) := by decide +kernel
theorem dX6_wants_23 : decode cX6_wants 23 = .ok (.iload_n 3, 1) := by decide +kernel
theorem dX6_wants_24 : decode cX6_wants 24 = .ok (.iaload, 1) := by decide +kernel
theorem dX6_wants_25 : decode cX6_wants 25 = .ok (.iconst 1, 1) := by decide +kernel
theorem dX6_wants_26 : decode cX6_wants 26 = .ok (.if_icmp .ne 7, 3) := by decide +kernel
theorem dX6_wants_29 : decode cX6_wants 29 = .ok (.iconst 3, 1) := by decide +kernel
theorem dX6_wants_30 : decode cX6_wants 30 = .ok (.goto 18, 3) := by decide +kernel
theorem dX6_wants_33 : decode cX6_wants 33 = .ok (.aload_n 0, 1) := by decide +kernel
theorem dX6_wants_34 : decode cX6_wants 34 = .ok (.getfield 7, 3) := by decide +kernel
theorem dX6_wants_37 : decode cX6_wants 37 = .ok (.iload_n 3, 1) := by decide +kernel
theorem dX6_wants_38 : decode cX6_wants 38 = .ok (.iaload, 1) := by decide +kernel
theorem dX6_wants_39 : decode cX6_wants 39 = .ok (.iconst 3, 1) := by decide +kernel
theorem dX6_wants_40 : decode cX6_wants 40 = .ok (.if_icmp .ne 7, 3) := by decide +kernel
theorem dX6_wants_43 : decode cX6_wants 43 = .ok (.iconst 4, 1) := by decide +kernel
theorem dX6_wants_44 : decode cX6_wants 44 = .ok (.goto 4, 3) := by decide +kernel
theorem dX6_wants_47 : decode cX6_wants 47 = .ok (.iconst 5, 1) := by decide +kernel
theorem dX6_wants_48 : decode cX6_wants 48 = .ok (.invokevirtual 77, 3) := by decide +kernel
theorem dX6_wants_51 : decode cX6_wants 51 = .ok (.ireturn, 1) := by decide +kernel
theorem dX6_wants_52 : decode cX6_wants 52 = .ok (.aload_n 0, 1) := by decide +kernel
theorem dX6_wants_53 : decode cX6_wants 53 = .ok (.iconst 0, 1) := by decide +kernel
theorem dX6_wants_54 : decode cX6_wants 54 = .ok (.iload_n 1, 1) := by decide +kernel
theorem dX6_wants_55 : decode cX6_wants 55 = .ok (.iload_n 2, 1) := by decide +kernel
theorem dX6_wants_56 : decode cX6_wants 56 = .ok (.invokevirtual 80, 3) := by decide +kernel
theorem dX6_wants_59 : decode cX6_wants 59 = .ok (.aload_n 0, 1) := by decide +kernel
theorem dX6_wants_60 : decode cX6_wants 60 = .ok (.getfield 7, 3) := by decide +kernel
theorem dX6_wants_63 : decode cX6_wants 63 = .ok (.iload_n 3, 1) := by decide +kernel
theorem dX6_wants_64 : decode cX6_wants 64 = .ok (.iconst 1, 1) := by decide +kernel
theorem dX6_wants_65 : decode cX6_wants 65 = .ok (.iadd, 1) := by decide +kernel
theorem dX6_wants_66 : decode cX6_wants 66 = .ok (.iaload, 1) := by decide +kernel
theorem dX6_wants_67 : decode cX6_wants 67 = .ok (.ireturn, 1) := by decide +kernel
theorem dX6_want_0 : decode cX6_want 0 = .ok (.aload_n 0, 1) := by decide +kernel
theorem dX6_want_1 : decode cX6_want 1 = .ok (.iload_n 1, 1) := by decide +kernel
theorem dX6_want_2 : decode cX6_want 2 = .ok (.iload_n 2, 1) := by decide +kernel
theorem dX6_want_3 : decode cX6_want 3 = .ok (.invokestatic 93, 3) := by decide +kernel
theorem dX6_want_6 : decode cX6_want 6 = .ok (.iconst 1, 1) := by decide +kernel
theorem dX6_want_7 : decode cX6_want 7 = .ok (.invokevirtual 83, 3) := by decide +kernel
theorem dX6_want_10 : decode cX6_want 10 = .ok (.ifCond .ne 5, 3) := by decide +kernel
theorem dX6_want_13 : decode cX6_want 13 = .ok (.iconst 0, 1) := by decide +kernel
theorem dX6_want_14 : decode cX6_want 14 = .ok (.ireturn, 1) := by decide +kernel
theorem dX6_want_15 : decode cX6_want 15 = .ok (.aload_n 0, 1) := by decide +kernel
theorem dX6_want_16 : decode cX6_want 16 = .ok (.invokevirtual 87, 3) := by decide +kernel
theorem dX6_want_19 : decode cX6_want 19 = .ok (.aload_n 0, 1) := by decide +kernel
theorem dX6_want_20 : decode cX6_want 20 = .ok (.iload_n 1, 1) := by decide +kernel
theorem dX6_want_21 : decode cX6_want 21 = .ok (.iload_n 2, 1) := by decide +kernel
theorem dX6_want_22 : decode cX6_want 22 = .ok (.invokevirtual 97, 3) := by decide +kernel
theorem dX6_want_25 : decode cX6_want 25 = .ok (.ireturn, 1) := by decide +kernel
theorem dX6_isAlive_0 : decode cX6_isAlive 0 = .ok (.aload_n 0, 1) := by decide +kernel
theorem dX6_isAlive_1 : decode cX6_isAlive 1 = .ok (.getfield 7, 3) := by decide +kernel
theorem dX6_isAlive_4 : decode cX6_isAlive 4 = .ok (.iconst 0, 1) := by decide +kernel
theorem dX6_isAlive_5 : decode cX6_isAlive 5 = .ok (.iload_n 1, 1) := by decide +kernel
theorem dX6_isAlive_6 : decode cX6_isAlive 6 = .ok (.iload_n 2, 1) := by decide +kernel
theorem dX6_isAlive_7 : decode cX6_isAlive 7 = .ok (.invokestatic 40, 3) := by decide +kernel
theorem dX6_isAlive_10 : decode cX6_isAlive 10 = .ok (.iaload, 1) := by decide +kernel
theorem dX6_isAlive_11 : decode cX6_isAlive 11 = .ok (.iconst 1, 1) := by decide +kernel
theorem dX6_isAlive_12 : decode cX6_isAlive 12 = .ok (.if_icmp .ne 7, 3) := by decide +kernel
theorem dX6_isAlive_15 : decode cX6_isAlive 15 = .ok (.iconst 1, 1) := by decide +kernel
theorem dX6_isAlive_16 : decode cX6_isAlive 16 = .ok (.goto 4, 3) := by decide +kernel
theorem dX6_isAlive_19 : decode cX6_isAlive 19 = .ok (.iconst 0, 1) := by decide +kernel
theorem dX6_isAlive_20 : decode cX6_isAlive 20 = .ok (.ireturn, 1) := by decide +kernel
theorem dX6_deletes_0 : decode cX6_deletes 0 = .ok (.iconst 0, 1) := by decide +kernel
theorem dX6_deletes_1 : decode cX6_deletes 1 = .ok (.iload_n 1, 1) := by decide +kernel
theorem dX6_deletes_2 : decode cX6_deletes 2 = .ok (.iload_n 2, 1) := by decide +kernel
theorem dX6_deletes_3 : decode cX6_deletes 3 = .ok (.invokestatic 40, 3) := by decide +kernel
theorem dX6_deletes_6 : decode cX6_deletes 6 = .ok (.istore_n 3, 1) := by decide +kernel
theorem dX6_deletes_7 : decode cX6_deletes 7 = .ok (.aload_n 0, 1) := by decide +kernel
theorem dX6_deletes_8 : decode cX6_deletes 8 = .ok (.getfield 7, 3) := by decide +kernel
theorem dX6_deletes_11 : decode cX6_deletes 11 = .ok (.sipush 272, 3) := by decide +kernel
theorem dX6_deletes_14 : decode cX6_deletes 14 = .ok (.iload_n 1, 1) := by decide +kernel
theorem dX6_deletes_15 : decode cX6_deletes 15 = .ok (.iadd, 1) := by decide +kernel
theorem dX6_deletes_16 : decode cX6_deletes 16 = .ok (.dup2, 1) := by decide +kernel
theorem dX6_deletes_17 : decode cX6_deletes 17 = .ok (.iaload, 1) := by decide +kernel
theorem dX6_deletes_18 : decode cX6_deletes 18 = .ok (.iconst 1, 1) := by decide +kernel
theorem dX6_deletes_19 : decode cX6_deletes 19 = .ok (.iadd, 1) := by decide +kernel
theorem dX6_deletes_20 : decode cX6_deletes 20 = .ok (.iastore, 1) := by decide +kernel
theorem dX6_deletes_21 : decode cX6_deletes 21 = .ok (.aload_n 0, 1) := by decide +kernel
theorem dX6_deletes_22 : decode cX6_deletes 22 = .ok (.getfield 7, 3) := by decide +kernel
theorem dX6_deletes_25 : decode cX6_deletes 25 = .ok (.iload_n 3, 1) := by decide +kernel
theorem dX6_deletes_26 : decode cX6_deletes 26 = .ok (.iconst 1, 1) := by decide +kernel
theorem dX6_deletes_27 : decode cX6_deletes 27 = .ok (.iadd, 1) := by decide +kernel
theorem dX6_deletes_28 : decode cX6_deletes 28 = .ok (.iaload, 1) := by decide +kernel
theorem dX6_deletes_29 : decode cX6_deletes 29 = .ok (.aload_n 0, 1) := by decide +kernel
theorem dX6_deletes_30 : decode cX6_deletes 30 = .ok (.getfield 7, 3) := by decide +kernel
theorem dX6_deletes_33 : decode cX6_deletes 33 = .ok (.iconst 1, 1) := by decide +kernel
theorem dX6_deletes_34 : decode cX6_deletes 34 = .ok (.iaload, 1) := by decide +kernel
theorem dX6_deletes_35 : decode cX6_deletes 35 = .ok (.if_icmp .lt 12, 3) := by decide +kernel
theorem dX6_deletes_38 : decode cX6_deletes 38 = .ok (.aload_n 0, 1) := by decide +kernel
theorem dX6_deletes_39 : decode cX6_deletes 39 = .ok (.getfield 7, 3) := by decide +kernel
theorem dX6_deletes_42 : decode cX6_deletes 42 = .ok (.iload_n 3, 1) := by decide +kernel
theorem dX6_deletes_43 : decode cX6_deletes 43 = .ok (.iconst 3, 1) := by decide +kernel
theorem dX6_deletes_44 : decode cX6_deletes 44 = .ok (.iastore, 1) := by decide +kernel
theorem dX6_deletes_45 : decode cX6_deletes 45 = .ok (.iconst 1, 1) := by decide +kernel
theorem dX6_deletes_46 : decode cX6_deletes 46 = .ok (.ireturn, 1) := by decide +kernel
theorem dX6_deletes_47 : decode cX6_deletes 47 = .ok (.aload_n 0, 1) := by decide +kernel
theorem dX6_deletes_48 : decode cX6_deletes 48 = .ok (.getfield 7, 3) := by decide +kernel
theorem dX6_deletes_51 : decode cX6_deletes 51 = .ok (.iload_n 3, 1) := by decide +kernel
theorem dX6_deletes_52 : decode cX6_deletes 52 = .ok (.iconst 2, 1) := by decide +kernel
theorem dX6_deletes_53 : decode cX6_deletes 53 = .ok (.iastore, 1) := by decide +kernel
theorem dX6_deletes_54 : decode cX6_deletes 54 = .ok (.aload_n 0, 1) := by decide +kernel
theorem dX6_deletes_55 : decode cX6_deletes 55 = .ok (.getfield 7, 3) := by decide +kernel
theorem dX6_deletes_58 : decode cX6_deletes 58 = .ok (.iload_n 3, 1) := by decide +kernel
theorem dX6_deletes_59 : decode cX6_deletes 59 = .ok (.iconst 2, 1) := by decide +kernel
theorem dX6_deletes_60 : decode cX6_deletes 60 = .ok (.iadd, 1) := by decide +kernel
theorem dX6_deletes_61 : decode cX6_deletes 61 = .ok (.aload_n 0, 1) := by decide +kernel
theorem dX6_deletes_62 : decode cX6_deletes 62 = .ok (.getfield 7, 3) := by decide +kernel
theorem dX6_deletes_65 : decode cX6_deletes 65 = .ok (.iconst 3, 1) := by decide +kernel
theorem dX6_deletes_66 : decode cX6_deletes 66 = .ok (.iaload, 1) := by decide +kernel
theorem dX6_deletes_67 : decode cX6_deletes 67 = .ok (.iastore, 1) := by decide +kernel
theorem dX6_deletes_68 : decode cX6_deletes 68 = .ok (.aload_n 0, 1) := by decide +kernel
theorem dX6_deletes_69 : decode cX6_deletes 69 = .ok (.getfield 7, 3) := by decide +kernel
theorem dX6_deletes_72 : decode cX6_deletes 72 = .ok (.sipush 264, 3) := by decide +kernel
theorem dX6_deletes_75 : decode cX6_deletes 75 = .ok (.iload_n 1, 1) := by decide +kernel
theorem dX6_deletes_76 : decode cX6_deletes 76 = .ok (.iadd, 1) := by decide +kernel
theorem dX6_deletes_77 : decode cX6_deletes 77 = .ok (.iaload, 1) := by decide +kernel
theorem dX6_deletes_78 : decode cX6_deletes 78 = .ok (.istore 4, 2) := by decide +kernel
theorem dX6_deletes_80 : decode cX6_deletes 80 = .ok (.iload 4, 2) := by decide +kernel
theorem dX6_deletes_82 : decode cX6_deletes 82 = .ok (.ifCond .le 35, 3) := by decide +kernel
theorem dX6_deletes_85 : decode cX6_deletes 85 = .ok (.aload_n 0, 1) := by decide +kernel
theorem dX6_deletes_86 : decode cX6_deletes 86 = .ok (.getfield 7, 3) := by decide +kernel
theorem dX6_deletes_89 : decode cX6_deletes 89 = .ok (.sipush 200, 3) := by decide +kernel
theorem dX6_deletes_92 : decode cX6_deletes 92 = .ok (.bipush 16, 2) := by decide +kernel
theorem dX6_deletes_94 : decode cX6_deletes 94 = .ok (.iload_n 1, 1) := by decide +kernel
theorem dX6_deletes_95 : decode cX6_deletes 95 = .ok (.imul, 1) := by decide +kernel
theorem dX6_deletes_96 : decode cX6_deletes 96 = .ok (.iadd, 1) := by decide +kernel
theorem dX6_deletes_97 : decode cX6_deletes 97 = .ok (.iload 4, 2) := by decide +kernel
theorem dX6_deletes_99 : decode cX6_deletes 99 = .ok (.iadd, 1) := by decide +kernel
theorem dX6_deletes_100 : decode cX6_deletes 100 = .ok (.aload_n 0, 1) := by decide +kernel
theorem dX6_deletes_101 : decode cX6_deletes 101 = .ok (.iconst 0, 1) := by decide +kernel
theorem dX6_deletes_102 : decode cX6_deletes 102 = .ok (.iload_n 1, 1) := by decide +kernel
theorem dX6_deletes_103 : decode cX6_deletes 103 = .ok (.iload 4, 2) := by decide +kernel
theorem dX6_deletes_105 : decode cX6_deletes 105 = .ok (.iconst 1, 1) := by decide +kernel
theorem dX6_deletes_106 : decode cX6_deletes 106 = .ok (.isub, 1) := by decide +kernel
theorem dX6_deletes_107 : decode cX6_deletes 107 = .ok (.invokevirtual 50, 3) := by decide +kernel
theorem dX6_deletes_110 : decode cX6_deletes 110 = .ok (.iastore, 1) := by decide +kernel
theorem dX6_deletes_111 : decode cX6_deletes 111 = .ok (.iinc 4 (-1), 3) := by decide +kernel
theorem dX6_deletes_114 : decode cX6_deletes 114 = .ok (.goto (-34), 3) := by decide +kernel
theorem dX6_deletes_117 : decode cX6_deletes 117 = .ok (.aload_n 0, 1) := by decide +kernel
theorem dX6_deletes_118 : decode cX6_deletes 118 = .ok (.getfield 7, 3) := by decide +kernel
theorem dX6_deletes_121 : decode cX6_deletes 121 = .ok (.sipush 200, 3) := by decide +kernel
theorem dX6_deletes_124 : decode cX6_deletes 124 = .ok (.bipush 16, 2) := by decide +kernel
theorem dX6_deletes_126 : decode cX6_deletes 126 = .ok (.iload_n 1, 1) := by decide +kernel
theorem dX6_deletes_127 : decode cX6_deletes 127 = .ok (.imul, 1) := by decide +kernel
theorem dX6_deletes_128 : decode cX6_deletes 128 = .ok (.iadd, 1) := by decide +kernel
theorem dX6_deletes_129 : decode cX6_deletes 129 = .ok (.iload_n 2, 1) := by decide +kernel
theorem dX6_deletes_130 : decode cX6_deletes 130 = .ok (.iastore, 1) := by decide +kernel
theorem dX6_deletes_131 : decode cX6_deletes 131 = .ok (.aload_n 0, 1) := by decide +kernel
theorem dX6_deletes_132 : decode cX6_deletes 132 = .ok (.getfield 7, 3) := by decide +kernel
theorem dX6_deletes_135 : decode cX6_deletes 135 = .ok (.sipush 264, 3) := by decide +kernel
theorem dX6_deletes_138 : decode cX6_deletes 138 = .ok (.iload_n 1, 1) := by decide +kernel
theorem dX6_deletes_139 : decode cX6_deletes 139 = .ok (.iadd, 1) := by decide +kernel
theorem dX6_deletes_140 : decode cX6_deletes 140 = .ok (.dup2, 1) := by decide +kernel
theorem dX6_deletes_141 : decode cX6_deletes 141 = .ok (.iaload, 1) := by decide +kernel
theorem dX6_deletes_142 : decode cX6_deletes 142 = .ok (.iconst 1, 1) := by decide +kernel
theorem dX6_deletes_143 : decode cX6_deletes 143 = .ok (.iadd, 1) := by decide +kernel
theorem dX6_deletes_144 : decode cX6_deletes 144 = .ok (.iastore, 1) := by decide +kernel
theorem dX6_deletes_145 : decode cX6_deletes 145 = .ok (.iconst 0, 1) := by decide +kernel
theorem dX6_deletes_146 : decode cX6_deletes 146 = .ok (.ireturn, 1) := by decide +kernel
theorem dX6_delete_0 : decode cX6_delete 0 = .ok (.iload_n 1, 1) := by decide +kernel
theorem dX6_delete_1 : decode cX6_delete 1 = .ok (.iload_n 2, 1) := by decide +kernel
theorem dX6_delete_2 : decode cX6_delete 2 = .ok (.invokestatic 93, 3) := by decide +kernel
theorem dX6_delete_5 : decode cX6_delete 5 = .ok (.istore_n 3, 1) := by decide +kernel
theorem dX6_delete_6 : decode cX6_delete 6 = .ok (.aload_n 0, 1) := by decide +kernel
theorem dX6_delete_7 : decode cX6_delete 7 = .ok (.iload_n 3, 1) := by decide +kernel
theorem dX6_delete_8 : decode cX6_delete 8 = .ok (.iload_n 3, 1) := by decide +kernel
theorem dX6_delete_9 : decode cX6_delete 9 = .ok (.ifCond .eq 16, 3) := by decide +kernel
theorem dX6_delete_12 : decode cX6_delete 12 = .ok (.aload_n 0, 1) := by decide +kernel
theorem dX6_delete_13 : decode cX6_delete 13 = .ok (.iload_n 1, 1) := by decide +kernel
theorem dX6_delete_14 : decode cX6_delete 14 = .ok (.iload_n 2, 1) := by decide +kernel
theorem dX6_delete_15 : decode cX6_delete 15 = .ok (.invokevirtual 100, 3) := by decide +kernel
theorem dX6_delete_18 : decode cX6_delete 18 = .ok (.ifCond .eq 7, 3) := by decide +kernel
theorem dX6_delete_21 : decode cX6_delete 21 = .ok (.iconst 1, 1) := by decide +kernel
theorem dX6_delete_22 : decode cX6_delete 22 = .ok (.goto 4, 3) := by decide +kernel
theorem dX6_delete_25 : decode cX6_delete 25 = .ok (.iconst 0, 1) := by decide +kernel
theorem dX6_delete_26 : decode cX6_delete 26 = .ok (.invokevirtual 83, 3) := by decide +kernel
theorem dX6_delete_29 : decode cX6_delete 29 = .ok (.ifCond .ne 5, 3) := by decide +kernel
theorem dX6_delete_32 : decode cX6_delete 32 = .ok (.iconst 0, 1) := by decide +kernel
theorem dX6_delete_33 : decode cX6_delete 33 = .ok (.ireturn, 1) := by decide +kernel
theorem dX6_delete_34 : decode cX6_delete 34 = .ok (.aload_n 0, 1) := by decide +kernel
theorem dX6_delete_35 : decode cX6_delete 35 = .ok (.invokevirtual 87, 3) := by decide +kernel
theorem dX6_delete_38 : decode cX6_delete 38 = .ok (.aload_n 0, 1) := by decide +kernel
theorem dX6_delete_39 : decode cX6_delete 39 = .ok (.iload_n 1, 1) := by decide +kernel
theorem dX6_delete_40 : decode cX6_delete 40 = .ok (.iload_n 2, 1) := by decide +kernel
theorem dX6_delete_41 : decode cX6_delete 41 = .ok (.invokevirtual 103, 3) := by decide +kernel
theorem dX6_delete_44 : decode cX6_delete 44 = .ok (.ireturn, 1) := by decide +kernel
theorem dX6_canComeBack_0 : decode cX6_canComeBack 0 = .ok (.aload_n 0, 1) := by decide +kernel
theorem dX6_canComeBack_1 : decode cX6_canComeBack 1 = .ok (.getfield 7, 3) := by decide +kernel
theorem dX6_canComeBack_4 : decode cX6_canComeBack 4 = .ok (.iconst 0, 1) := by decide +kernel
theorem dX6_canComeBack_5 : decode cX6_canComeBack 5 = .ok (.iload_n 1, 1) := by decide +kernel
theorem dX6_canComeBack_6 : decode cX6_canComeBack 6 = .ok (.iload_n 2, 1) := by decide +kernel
theorem dX6_canComeBack_7 : decode cX6_canComeBack 7 = .ok (.invokestatic 40, 3) := by decide +kernel
theorem dX6_canComeBack_10 : decode cX6_canComeBack 10 = .ok (.iaload, 1) := by decide +kernel
theorem dX6_canComeBack_11 : decode cX6_canComeBack 11 = .ok (.iconst 2, 1) := by decide +kernel
theorem dX6_canComeBack_12 : decode cX6_canComeBack 12 = .ok (.if_icmp .ne 23, 3) := by decide +kernel
theorem dX6_canComeBack_15 : decode cX6_canComeBack 15 = .ok (.aload_n 0, 1) := by decide +kernel
theorem dX6_canComeBack_16 : decode cX6_canComeBack 16 = .ok (.iconst 0, 1) := by decide +kernel
theorem dX6_canComeBack_17 : decode cX6_canComeBack 17 = .ok (.iload_n 1, 1) := by decide +kernel
theorem dX6_canComeBack_18 : decode cX6_canComeBack 18 = .ok (.iload_n 2, 1) := by decide +kernel
theorem dX6_canComeBack_19 : decode cX6_canComeBack 19 = .ok (.invokevirtual 44, 3) := by decide +kernel
theorem dX6_canComeBack_22 : decode cX6_canComeBack 22 = .ok (.aload_n 0, 1) := by decide +kernel
theorem dX6_canComeBack_23 : decode cX6_canComeBack 23 = .ok (.getfield 7, 3) := by decide +kernel
theorem dX6_canComeBack_26 : decode cX6_canComeBack 26 = .ok (.iconst 2, 1) := by decide +kernel
theorem dX6_canComeBack_27 : decode cX6_canComeBack 27 = .ok (.iaload, 1) := by decide +kernel
theorem dX6_canComeBack_28 : decode cX6_canComeBack 28 = .ok (.if_icmp .gt 7, 3) := by decide +kernel
theorem dX6_canComeBack_31 : decode cX6_canComeBack 31 = .ok (.iconst 1, 1) := by decide +kernel
theorem dX6_canComeBack_32 : decode cX6_canComeBack 32 = .ok (.goto 4, 3) := by decide +kernel
theorem dX6_canComeBack_35 : decode cX6_canComeBack 35 = .ok (.iconst 0, 1) := by decide +kernel
theorem dX6_canComeBack_36 : decode cX6_canComeBack 36 = .ok (.ireturn, 1) := by decide +kernel
theorem dX6_comesBack_0 : decode cX6_comesBack 0 = .ok (.iconst 0, 1) := by decide +kernel
theorem dX6_comesBack_1 : decode cX6_comesBack 1 = .ok (.iload_n 1, 1) := by decide +kernel
theorem dX6_comesBack_2 : decode cX6_comesBack 2 = .ok (.iload_n 2, 1) := by decide +kernel
theorem dX6_comesBack_3 : decode cX6_comesBack 3 = .ok (.invokestatic 40, 3) := by decide +kernel
theorem dX6_comesBack_6 : decode cX6_comesBack 6 = .ok (.istore_n 3, 1) := by decide +kernel
theorem dX6_comesBack_7 : decode cX6_comesBack 7 = .ok (.aload_n 0, 1) := by decide +kernel
theorem dX6_comesBack_8 : decode cX6_comesBack 8 = .ok (.iconst 0, 1) := by decide +kernel
theorem dX6_comesBack_9 : decode cX6_comesBack 9 = .ok (.iload_n 1, 1) := by decide +kernel
theorem dX6_comesBack_10 : decode cX6_comesBack 10 = .ok (.iload_n 2, 1) := by decide +kernel
theorem dX6_comesBack_11 : decode cX6_comesBack 11 = .ok (.invokevirtual 66, 3) := by decide +kernel
theorem dX6_comesBack_14 : decode cX6_comesBack 14 = .ok (.aload_n 0, 1) := by decide +kernel
theorem dX6_comesBack_15 : decode cX6_comesBack 15 = .ok (.getfield 7, 3) := by decide +kernel
theorem dX6_comesBack_18 : decode cX6_comesBack 18 = .ok (.iload_n 3, 1) := by decide +kernel
theorem dX6_comesBack_19 : decode cX6_comesBack 19 = .ok (.iconst 1, 1) := by decide +kernel
theorem dX6_comesBack_20 : decode cX6_comesBack 20 = .ok (.iastore, 1) := by decide +kernel
theorem dX6_comesBack_21 : decode cX6_comesBack 21 = .ok (.aload_n 0, 1) := by decide +kernel
theorem dX6_comesBack_22 : decode cX6_comesBack 22 = .ok (.getfield 7, 3) := by decide +kernel
theorem dX6_comesBack_25 : decode cX6_comesBack 25 = .ok (.sipush 284, 3) := by decide +kernel
theorem dX6_comesBack_28 : decode cX6_comesBack 28 = .ok (.iload_n 1, 1) := by decide +kernel
theorem dX6_comesBack_29 : decode cX6_comesBack 29 = .ok (.iadd, 1) := by decide +kernel
theorem dX6_comesBack_30 : decode cX6_comesBack 30 = .ok (.dup2, 1) := by decide +kernel
theorem dX6_comesBack_31 : decode cX6_comesBack 31 = .ok (.iaload, 1) := by decide +kernel
theorem dX6_comesBack_32 : decode cX6_comesBack 32 = .ok (.iconst 1, 1) := by decide +kernel
theorem dX6_comesBack_33 : decode cX6_comesBack 33 = .ok (.iadd, 1) := by decide +kernel
theorem dX6_comesBack_34 : decode cX6_comesBack 34 = .ok (.iastore, 1) := by decide +kernel
theorem dX6_comesBack_35 : decode cX6_comesBack 35 = .ok (.aload_n 0, 1) := by decide +kernel
theorem dX6_comesBack_36 : decode cX6_comesBack 36 = .ok (.getfield 7, 3) := by decide +kernel
theorem dX6_comesBack_39 : decode cX6_comesBack 39 = .ok (.iload_n 3, 1) := by decide +kernel
theorem dX6_comesBack_40 : decode cX6_comesBack 40 = .ok (.iconst 1, 1) := by decide +kernel
theorem dX6_comesBack_41 : decode cX6_comesBack 41 = .ok (.iadd, 1) := by decide +kernel
theorem dX6_comesBack_42 : decode cX6_comesBack 42 = .ok (.iaload, 1) := by decide +kernel
theorem dX6_comesBack_43 : decode cX6_comesBack 43 = .ok (.ireturn, 1) := by decide +kernel
theorem dX6_bringBack_0 : decode cX6_bringBack 0 = .ok (.iload_n 1, 1) := by decide +kernel
theorem dX6_bringBack_1 : decode cX6_bringBack 1 = .ok (.iload_n 2, 1) := by decide +kernel
theorem dX6_bringBack_2 : decode cX6_bringBack 2 = .ok (.invokestatic 93, 3) := by decide +kernel
theorem dX6_bringBack_5 : decode cX6_bringBack 5 = .ok (.istore_n 3, 1) := by decide +kernel
theorem dX6_bringBack_6 : decode cX6_bringBack 6 = .ok (.aload_n 0, 1) := by decide +kernel
theorem dX6_bringBack_7 : decode cX6_bringBack 7 = .ok (.iload_n 3, 1) := by decide +kernel
theorem dX6_bringBack_8 : decode cX6_bringBack 8 = .ok (.iload_n 3, 1) := by decide +kernel
theorem dX6_bringBack_9 : decode cX6_bringBack 9 = .ok (.ifCond .eq 16, 3) := by decide +kernel
theorem dX6_bringBack_12 : decode cX6_bringBack 12 = .ok (.aload_n 0, 1) := by decide +kernel
theorem dX6_bringBack_13 : decode cX6_bringBack 13 = .ok (.iload_n 1, 1) := by decide +kernel
theorem dX6_bringBack_14 : decode cX6_bringBack 14 = .ok (.iload_n 2, 1) := by decide +kernel
theorem dX6_bringBack_15 : decode cX6_bringBack 15 = .ok (.invokevirtual 106, 3) := by decide +kernel
theorem dX6_bringBack_18 : decode cX6_bringBack 18 = .ok (.ifCond .eq 7, 3) := by decide +kernel
theorem dX6_bringBack_21 : decode cX6_bringBack 21 = .ok (.iconst 1, 1) := by decide +kernel
theorem dX6_bringBack_22 : decode cX6_bringBack 22 = .ok (.goto 4, 3) := by decide +kernel
theorem dX6_bringBack_25 : decode cX6_bringBack 25 = .ok (.iconst 0, 1) := by decide +kernel
theorem dX6_bringBack_26 : decode cX6_bringBack 26 = .ok (.invokevirtual 83, 3) := by decide +kernel
theorem dX6_bringBack_29 : decode cX6_bringBack 29 = .ok (.ifCond .ne 5, 3) := by decide +kernel
theorem dX6_bringBack_32 : decode cX6_bringBack 32 = .ok (.iconst 0, 1) := by decide +kernel
theorem dX6_bringBack_33 : decode cX6_bringBack 33 = .ok (.ireturn, 1) := by decide +kernel
theorem dX6_bringBack_34 : decode cX6_bringBack 34 = .ok (.aload_n 0, 1) := by decide +kernel
theorem dX6_bringBack_35 : decode cX6_bringBack 35 = .ok (.invokevirtual 87, 3) := by decide +kernel
theorem dX6_bringBack_38 : decode cX6_bringBack 38 = .ok (.aload_n 0, 1) := by decide +kernel
theorem dX6_bringBack_39 : decode cX6_bringBack 39 = .ok (.iload_n 1, 1) := by decide +kernel
theorem dX6_bringBack_40 : decode cX6_bringBack 40 = .ok (.iload_n 2, 1) := by decide +kernel
theorem dX6_bringBack_41 : decode cX6_bringBack 41 = .ok (.invokevirtual 109, 3) := by decide +kernel
theorem dX6_bringBack_44 : decode cX6_bringBack 44 = .ok (.ireturn, 1) := by decide +kernel
theorem dX6_turns_0 : decode cX6_turns 0 = .ok (.aload_n 0, 1) := by decide +kernel
theorem dX6_turns_1 : decode cX6_turns 1 = .ok (.getfield 7, 3) := by decide +kernel
theorem dX6_turns_4 : decode cX6_turns 4 = .ok (.sipush 264, 3) := by decide +kernel
theorem dX6_turns_7 : decode cX6_turns 7 = .ok (.iload_n 1, 1) := by decide +kernel
theorem dX6_turns_8 : decode cX6_turns 8 = .ok (.iadd, 1) := by decide +kernel
theorem dX6_turns_9 : decode cX6_turns 9 = .ok (.iaload, 1) := by decide +kernel
theorem dX6_turns_10 : decode cX6_turns 10 = .ok (.istore_n 2, 1) := by decide +kernel
theorem dX6_turns_11 : decode cX6_turns 11 = .ok (.iconst 0, 1) := by decide +kernel
theorem dX6_turns_12 : decode cX6_turns 12 = .ok (.istore_n 3, 1) := by decide +kernel
theorem dX6_turns_13 : decode cX6_turns 13 = .ok (.iload_n 3, 1) := by decide +kernel
theorem dX6_turns_14 : decode cX6_turns 14 = .ok (.iload_n 2, 1) := by decide +kernel
theorem dX6_turns_15 : decode cX6_turns 15 = .ok (.iconst 2, 1) := by decide +kernel
theorem dX6_turns_16 : decode cX6_turns 16 = .ok (.idiv, 1) := by decide +kernel
theorem dX6_turns_17 : decode cX6_turns 17 = .ok (.if_icmp .ge 69, 3) := by decide +kernel
theorem dX6_turns_20 : decode cX6_turns 20 = .ok (.sipush 200, 3) := by decide +kernel
theorem dX6_turns_23 : decode cX6_turns 23 = .ok (.bipush 16, 2) := by decide +kernel
theorem dX6_turns_25 : decode cX6_turns 25 = .ok (.iload_n 1, 1) := by decide +kernel
theorem dX6_turns_26 : decode cX6_turns 26 = .ok (.imul, 1) := by decide +kernel
theorem dX6_turns_27 : decode cX6_turns 27 = .ok (.iadd, 1) := by decide +kernel
theorem dX6_turns_28 : decode cX6_turns 28 = .ok (.iload_n 3, 1) := by decide +kernel
theorem dX6_turns_29 : decode cX6_turns 29 = .ok (.iadd, 1) := by decide +kernel
theorem dX6_turns_30 : decode cX6_turns 30 = .ok (.istore 4, 2) := by decide +kernel
theorem dX6_turns_32 : decode cX6_turns 32 = .ok (.sipush 200, 3) := by decide +kernel
theorem dX6_turns_35 : decode cX6_turns 35 = .ok (.bipush 16, 2) := by decide +kernel
theorem dX6_turns_37 : decode cX6_turns 37 = .ok (.iload_n 1, 1) := by decide +kernel
theorem dX6_turns_38 : decode cX6_turns 38 = .ok (.imul, 1) := by decide +kernel
theorem dX6_turns_39 : decode cX6_turns 39 = .ok (.iadd, 1) := by decide +kernel
theorem dX6_turns_40 : decode cX6_turns 40 = .ok (.iload_n 2, 1) := by decide +kernel
theorem dX6_turns_41 : decode cX6_turns 41 = .ok (.iadd, 1) := by decide +kernel
theorem dX6_turns_42 : decode cX6_turns 42 = .ok (.iconst 1, 1) := by decide +kernel
theorem dX6_turns_43 : decode cX6_turns 43 = .ok (.isub, 1) := by decide +kernel
theorem dX6_turns_44 : decode cX6_turns 44 = .ok (.iload_n 3, 1) := by decide +kernel
theorem dX6_turns_45 : decode cX6_turns 45 = .ok (.isub, 1) := by decide +kernel
theorem dX6_turns_46 : decode cX6_turns 46 = .ok (.istore 5, 2) := by decide +kernel
theorem dX6_turns_48 : decode cX6_turns 48 = .ok (.aload_n 0, 1) := by decide +kernel
theorem dX6_turns_49 : decode cX6_turns 49 = .ok (.getfield 7, 3) := by decide +kernel
theorem dX6_turns_52 : decode cX6_turns 52 = .ok (.iload 4, 2) := by decide +kernel
theorem dX6_turns_54 : decode cX6_turns 54 = .ok (.iaload, 1) := by decide +kernel
theorem dX6_turns_55 : decode cX6_turns 55 = .ok (.istore 6, 2) := by decide +kernel
theorem dX6_turns_57 : decode cX6_turns 57 = .ok (.aload_n 0, 1) := by decide +kernel
theorem dX6_turns_58 : decode cX6_turns 58 = .ok (.getfield 7, 3) := by decide +kernel
theorem dX6_turns_61 : decode cX6_turns 61 = .ok (.iload 4, 2) := by decide +kernel
theorem dX6_turns_63 : decode cX6_turns 63 = .ok (.aload_n 0, 1) := by decide +kernel
theorem dX6_turns_64 : decode cX6_turns 64 = .ok (.getfield 7, 3) := by decide +kernel
theorem dX6_turns_67 : decode cX6_turns 67 = .ok (.iload 5, 2) := by decide +kernel
theorem dX6_turns_69 : decode cX6_turns 69 = .ok (.iaload, 1) := by decide +kernel
theorem dX6_turns_70 : decode cX6_turns 70 = .ok (.iastore, 1) := by decide +kernel
theorem dX6_turns_71 : decode cX6_turns 71 = .ok (.aload_n 0, 1) := by decide +kernel
theorem dX6_turns_72 : decode cX6_turns 72 = .ok (.getfield 7, 3) := by decide +kernel
theorem dX6_turns_75 : decode cX6_turns 75 = .ok (.iload 5, 2) := by decide +kernel
theorem dX6_turns_77 : decode cX6_turns 77 = .ok (.iload 6, 2) := by decide +kernel
theorem dX6_turns_79 : decode cX6_turns 79 = .ok (.iastore, 1) := by decide +kernel
theorem dX6_turns_80 : decode cX6_turns 80 = .ok (.iinc 3 1, 3) := by decide +kernel
theorem dX6_turns_83 : decode cX6_turns 83 = .ok (.goto (-70), 3) := by decide +kernel
theorem dX6_turns_86 : decode cX6_turns 86 = .ok (.iload_n 2, 1) := by decide +kernel
theorem dX6_turns_87 : decode cX6_turns 87 = .ok (.ifCond .ne 7, 3) := by decide +kernel
theorem dX6_turns_90 : decode cX6_turns 90 = .ok (.iconst (-1), 1) := by decide +kernel
theorem dX6_turns_91 : decode cX6_turns 91 = .ok (.goto 10, 3) := by decide +kernel
theorem dX6_turns_94 : decode cX6_turns 94 = .ok (.aload_n 0, 1) := by decide +kernel
theorem dX6_turns_95 : decode cX6_turns 95 = .ok (.iconst 0, 1) := by decide +kernel
theorem dX6_turns_96 : decode cX6_turns 96 = .ok (.iload_n 1, 1) := by decide +kernel
theorem dX6_turns_97 : decode cX6_turns 97 = .ok (.iconst 0, 1) := by decide +kernel
theorem dX6_turns_98 : decode cX6_turns 98 = .ok (.invokevirtual 50, 3) := by decide +kernel
theorem dX6_turns_101 : decode cX6_turns 101 = .ok (.ireturn, 1) := by decide +kernel
theorem dX6_turn_0 : decode cX6_turn 0 = .ok (.aload_n 0, 1) := by decide +kernel
theorem dX6_turn_1 : decode cX6_turn 1 = .ok (.iload_n 1, 1) := by decide +kernel
theorem dX6_turn_2 : decode cX6_turn 2 = .ok (.invokestatic 36, 3) := by decide +kernel
theorem dX6_turn_5 : decode cX6_turn 5 = .ok (.iconst 1, 1) := by decide +kernel
theorem dX6_turn_6 : decode cX6_turn 6 = .ok (.invokevirtual 83, 3) := by decide +kernel
theorem dX6_turn_9 : decode cX6_turn 9 = .ok (.ifCond .ne 5, 3) := by decide +kernel
theorem dX6_turn_12 : decode cX6_turn 12 = .ok (.iconst 0, 1) := by decide +kernel
theorem dX6_turn_13 : decode cX6_turn 13 = .ok (.ireturn, 1) := by decide +kernel
theorem dX6_turn_14 : decode cX6_turn 14 = .ok (.aload_n 0, 1) := by decide +kernel
theorem dX6_turn_15 : decode cX6_turn 15 = .ok (.invokevirtual 87, 3) := by decide +kernel
theorem dX6_turn_18 : decode cX6_turn 18 = .ok (.aload_n 0, 1) := by decide +kernel
theorem dX6_turn_19 : decode cX6_turn 19 = .ok (.iload_n 1, 1) := by decide +kernel
theorem dX6_turn_20 : decode cX6_turn 20 = .ok (.invokevirtual 112, 3) := by decide +kernel
theorem dX6_turn_23 : decode cX6_turn 23 = .ok (.ireturn, 1) := by decide +kernel
theorem dX6_refers_0 : decode cX6_refers 0 = .ok (.aload_n 0, 1) := by decide +kernel
theorem dX6_refers_1 : decode cX6_refers 1 = .ok (.getfield 7, 3) := by decide +kernel
theorem dX6_refers_4 : decode cX6_refers 4 = .ok (.iconst 0, 1) := by decide +kernel
theorem dX6_refers_5 : decode cX6_refers 5 = .ok (.iload_n 1, 1) := by decide +kernel
theorem dX6_refers_6 : decode cX6_refers 6 = .ok (.iload_n 2, 1) := by decide +kernel
theorem dX6_refers_7 : decode cX6_refers 7 = .ok (.invokestatic 40, 3) := by decide +kernel
theorem dX6_refers_10 : decode cX6_refers 10 = .ok (.iconst 1, 1) := by decide +kernel
theorem dX6_refers_11 : decode cX6_refers 11 = .ok (.iadd, 1) := by decide +kernel
theorem dX6_refers_12 : decode cX6_refers 12 = .ok (.iaload, 1) := by decide +kernel
theorem dX6_refers_13 : decode cX6_refers 13 = .ok (.istore 4, 2) := by decide +kernel
theorem dX6_refers_15 : decode cX6_refers 15 = .ok (.aload_n 0, 1) := by decide +kernel
theorem dX6_refers_16 : decode cX6_refers 16 = .ok (.iload_n 1, 1) := by decide +kernel
theorem dX6_refers_17 : decode cX6_refers 17 = .ok (.iload_n 2, 1) := by decide +kernel
theorem dX6_refers_18 : decode cX6_refers 18 = .ok (.invokevirtual 100, 3) := by decide +kernel
theorem dX6_refers_21 : decode cX6_refers 21 = .ok (.ifCond .eq 9, 3) := by decide +kernel
theorem dX6_refers_24 : decode cX6_refers 24 = .ok (.iload 4, 2) := by decide +kernel
theorem dX6_refers_26 : decode cX6_refers 26 = .ok (.iload_n 3, 1) := by decide +kernel
theorem dX6_refers_27 : decode cX6_refers 27 = .ok (.if_icmp .ge 7, 3) := by decide +kernel
theorem dX6_refers_30 : decode cX6_refers 30 = .ok (.iconst 1, 1) := by decide +kernel
theorem dX6_refers_31 : decode cX6_refers 31 = .ok (.goto 14, 3) := by decide +kernel
theorem dX6_refers_34 : decode cX6_refers 34 = .ok (.iload 4, 2) := by decide +kernel
theorem dX6_refers_36 : decode cX6_refers 36 = .ok (.iload_n 3, 1) := by decide +kernel
theorem dX6_refers_37 : decode cX6_refers 37 = .ok (.if_icmp .ne 7, 3) := by decide +kernel
theorem dX6_refers_40 : decode cX6_refers 40 = .ok (.iconst 0, 1) := by decide +kernel
theorem dX6_refers_41 : decode cX6_refers 41 = .ok (.goto 4, 3) := by decide +kernel
theorem dX6_refers_44 : decode cX6_refers 44 = .ok (.iconst 2, 1) := by decide +kernel
theorem dX6_refers_45 : decode cX6_refers 45 = .ok (.ireturn, 1) := by decide +kernel
theorem dX6_follow_0 : decode cX6_follow 0 = .ok (.aload_n 0, 1) := by decide +kernel
theorem dX6_follow_1 : decode cX6_follow 1 = .ok (.iload_n 1, 1) := by decide +kernel
theorem dX6_follow_2 : decode cX6_follow 2 = .ok (.iload_n 2, 1) := by decide +kernel
theorem dX6_follow_3 : decode cX6_follow 3 = .ok (.invokestatic 93, 3) := by decide +kernel
theorem dX6_follow_6 : decode cX6_follow 6 = .ok (.iload_n 3, 1) := by decide +kernel
theorem dX6_follow_7 : decode cX6_follow 7 = .ok (.iconst 1, 1) := by decide +kernel
theorem dX6_follow_8 : decode cX6_follow 8 = .ok (.if_icmp .lt 7, 3) := by decide +kernel
theorem dX6_follow_11 : decode cX6_follow 11 = .ok (.iconst 1, 1) := by decide +kernel
theorem dX6_follow_12 : decode cX6_follow 12 = .ok (.goto 4, 3) := by decide +kernel
theorem dX6_follow_15 : decode cX6_follow 15 = .ok (.iconst 0, 1) := by decide +kernel
theorem dX6_follow_16 : decode cX6_follow 16 = .ok (.invokevirtual 83, 3) := by decide +kernel
theorem dX6_follow_19 : decode cX6_follow 19 = .ok (.ifCond .ne 5, 3) := by decide +kernel
theorem dX6_follow_22 : decode cX6_follow 22 = .ok (.iconst 0, 1) := by decide +kernel
theorem dX6_follow_23 : decode cX6_follow 23 = .ok (.ireturn, 1) := by decide +kernel
theorem dX6_follow_24 : decode cX6_follow 24 = .ok (.aload_n 0, 1) := by decide +kernel
theorem dX6_follow_25 : decode cX6_follow 25 = .ok (.invokevirtual 87, 3) := by decide +kernel
theorem dX6_follow_28 : decode cX6_follow 28 = .ok (.aload_n 0, 1) := by decide +kernel
theorem dX6_follow_29 : decode cX6_follow 29 = .ok (.iload_n 1, 1) := by decide +kernel
theorem dX6_follow_30 : decode cX6_follow 30 = .ok (.iload_n 2, 1) := by decide +kernel
theorem dX6_follow_31 : decode cX6_follow 31 = .ok (.iload_n 3, 1) := by decide +kernel
theorem dX6_follow_32 : decode cX6_follow 32 = .ok (.invokevirtual 115, 3) := by decide +kernel
theorem dX6_follow_35 : decode cX6_follow 35 = .ok (.istore 4, 2) := by decide +kernel
theorem dX6_follow_37 : decode cX6_follow 37 = .ok (.aload_n 0, 1) := by decide +kernel
theorem dX6_follow_38 : decode cX6_follow 38 = .ok (.getfield 7, 3) := by decide +kernel
theorem dX6_follow_41 : decode cX6_follow 41 = .ok (.sipush 288, 3) := by decide +kernel
theorem dX6_follow_44 : decode cX6_follow 44 = .ok (.dup2, 1) := by decide +kernel
theorem dX6_follow_45 : decode cX6_follow 45 = .ok (.iaload, 1) := by decide +kernel
theorem dX6_follow_46 : decode cX6_follow 46 = .ok (.iconst 1, 1) := by decide +kernel
theorem dX6_follow_47 : decode cX6_follow 47 = .ok (.iadd, 1) := by decide +kernel
theorem dX6_follow_48 : decode cX6_follow 48 = .ok (.iastore, 1) := by decide +kernel
theorem dX6_follow_49 : decode cX6_follow 49 = .ok (.aload_n 0, 1) := by decide +kernel
theorem dX6_follow_50 : decode cX6_follow 50 = .ok (.getfield 7, 3) := by decide +kernel
theorem dX6_follow_53 : decode cX6_follow 53 = .ok (.sipush 289, 3) := by decide +kernel
theorem dX6_follow_56 : decode cX6_follow 56 = .ok (.dup2, 1) := by decide +kernel
theorem dX6_follow_57 : decode cX6_follow 57 = .ok (.iaload, 1) := by decide +kernel
theorem dX6_follow_58 : decode cX6_follow 58 = .ok (.iload 4, 2) := by decide +kernel
theorem dX6_follow_60 : decode cX6_follow 60 = .ok (.iconst 2, 1) := by decide +kernel
theorem dX6_follow_61 : decode cX6_follow 61 = .ok (.if_icmp .ne 7, 3) := by decide +kernel
theorem dX6_follow_64 : decode cX6_follow 64 = .ok (.iconst 1, 1) := by decide +kernel
theorem dX6_follow_65 : decode cX6_follow 65 = .ok (.goto 4, 3) := by decide +kernel
theorem dX6_follow_68 : decode cX6_follow 68 = .ok (.iconst 0, 1) := by decide +kernel
theorem dX6_follow_69 : decode cX6_follow 69 = .ok (.iadd, 1) := by decide +kernel
theorem dX6_follow_70 : decode cX6_follow 70 = .ok (.iastore, 1) := by decide +kernel
theorem dX6_follow_71 : decode cX6_follow 71 = .ok (.aload_n 0, 1) := by decide +kernel
theorem dX6_follow_72 : decode cX6_follow 72 = .ok (.getfield 7, 3) := by decide +kernel
theorem dX6_follow_75 : decode cX6_follow 75 = .ok (.sipush 290, 3) := by decide +kernel
theorem dX6_follow_78 : decode cX6_follow 78 = .ok (.dup2, 1) := by decide +kernel
theorem dX6_follow_79 : decode cX6_follow 79 = .ok (.iaload, 1) := by decide +kernel
theorem dX6_follow_80 : decode cX6_follow 80 = .ok (.iload 4, 2) := by decide +kernel
theorem dX6_follow_82 : decode cX6_follow 82 = .ok (.iconst 1, 1) := by decide +kernel
theorem dX6_follow_83 : decode cX6_follow 83 = .ok (.if_icmp .ne 7, 3) := by decide +kernel
theorem dX6_follow_86 : decode cX6_follow 86 = .ok (.iconst 1, 1) := by decide +kernel
theorem dX6_follow_87 : decode cX6_follow 87 = .ok (.goto 4, 3) := by decide +kernel
theorem dX6_follow_90 : decode cX6_follow 90 = .ok (.iconst 0, 1) := by decide +kernel
theorem dX6_follow_91 : decode cX6_follow 91 = .ok (.iadd, 1) := by decide +kernel
theorem dX6_follow_92 : decode cX6_follow 92 = .ok (.iastore, 1) := by decide +kernel
theorem dX6_follow_93 : decode cX6_follow 93 = .ok (.iload 4, 2) := by decide +kernel
theorem dX6_follow_95 : decode cX6_follow 95 = .ok (.ireturn, 1) := by decide +kernel
theorem dX6_keysIn_0 : decode cX6_keysIn 0 = .ok (.iconst 0, 1) := by decide +kernel
theorem dX6_keysIn_1 : decode cX6_keysIn 1 = .ok (.istore_n 3, 1) := by decide +kernel
theorem dX6_keysIn_2 : decode cX6_keysIn 2 = .ok (.iconst 0, 1) := by decide +kernel
theorem dX6_keysIn_3 : decode cX6_keysIn 3 = .ok (.istore 4, 2) := by decide +kernel
theorem dX6_keysIn_5 : decode cX6_keysIn 5 = .ok (.iload 4, 2) := by decide +kernel
theorem dX6_keysIn_7 : decode cX6_keysIn 7 = .ok (.bipush 64, 2) := by decide +kernel
theorem dX6_keysIn_9 : decode cX6_keysIn 9 = .ok (.if_icmp .ge 88, 3) := by decide +kernel
theorem dX6_keysIn_12 : decode cX6_keysIn 12 = .ok (.iload_n 2, 1) := by decide +kernel
theorem dX6_keysIn_13 : decode cX6_keysIn 13 = .ok (.iconst 4, 1) := by decide +kernel
theorem dX6_keysIn_14 : decode cX6_keysIn 14 = .ok (.if_icmp .ne 21, 3) := by decide +kernel
theorem dX6_keysIn_17 : decode cX6_keysIn 17 = .ok (.aload_n 0, 1) := by decide +kernel
theorem dX6_keysIn_18 : decode cX6_keysIn 18 = .ok (.iconst 0, 1) := by decide +kernel
theorem dX6_keysIn_19 : decode cX6_keysIn 19 = .ok (.iload 4, 2) := by decide +kernel
theorem dX6_keysIn_21 : decode cX6_keysIn 21 = .ok (.bipush 16, 2) := by decide +kernel
theorem dX6_keysIn_23 : decode cX6_keysIn 23 = .ok (.idiv, 1) := by decide +kernel
theorem dX6_keysIn_24 : decode cX6_keysIn 24 = .ok (.iload 4, 2) := by decide +kernel
theorem dX6_keysIn_26 : decode cX6_keysIn 26 = .ok (.bipush 16, 2) := by decide +kernel
theorem dX6_keysIn_28 : decode cX6_keysIn 28 = .ok (.irem, 1) := by decide +kernel
theorem dX6_keysIn_29 : decode cX6_keysIn 29 = .ok (.invokevirtual 47, 3) := by decide +kernel
theorem dX6_keysIn_32 : decode cX6_keysIn 32 = .ok (.goto 31, 3) := by decide +kernel
theorem dX6_keysIn_35 : decode cX6_keysIn 35 = .ok (.aload_n 0, 1) := by decide +kernel
theorem dX6_keysIn_36 : decode cX6_keysIn 36 = .ok (.getfield 7, 3) := by decide +kernel
theorem dX6_keysIn_39 : decode cX6_keysIn 39 = .ok (.iconst 0, 1) := by decide +kernel
theorem dX6_keysIn_40 : decode cX6_keysIn 40 = .ok (.iload 4, 2) := by decide +kernel
theorem dX6_keysIn_42 : decode cX6_keysIn 42 = .ok (.bipush 16, 2) := by decide +kernel
theorem dX6_keysIn_44 : decode cX6_keysIn 44 = .ok (.idiv, 1) := by decide +kernel
theorem dX6_keysIn_45 : decode cX6_keysIn 45 = .ok (.iload 4, 2) := by decide +kernel
theorem dX6_keysIn_47 : decode cX6_keysIn 47 = .ok (.bipush 16, 2) := by decide +kernel
theorem dX6_keysIn_49 : decode cX6_keysIn 49 = .ok (.irem, 1) := by decide +kernel
theorem dX6_keysIn_50 : decode cX6_keysIn 50 = .ok (.invokestatic 40, 3) := by decide +kernel
theorem dX6_keysIn_53 : decode cX6_keysIn 53 = .ok (.iaload, 1) := by decide +kernel
theorem dX6_keysIn_54 : decode cX6_keysIn 54 = .ok (.iload_n 2, 1) := by decide +kernel
theorem dX6_keysIn_55 : decode cX6_keysIn 55 = .ok (.if_icmp .ne 7, 3) := by decide +kernel
theorem dX6_keysIn_58 : decode cX6_keysIn 58 = .ok (.iconst 1, 1) := by decide +kernel
theorem dX6_keysIn_59 : decode cX6_keysIn 59 = .ok (.goto 4, 3) := by decide +kernel
theorem dX6_keysIn_62 : decode cX6_keysIn 62 = .ok (.iconst 0, 1) := by decide +kernel
theorem dX6_keysIn_63 : decode cX6_keysIn 63 = .ok (.istore 5, 2) := by decide +kernel
theorem dX6_keysIn_65 : decode cX6_keysIn 65 = .ok (.iload_n 3, 1) := by decide +kernel
theorem dX6_keysIn_66 : decode cX6_keysIn 66 = .ok (.iload 5, 2) := by decide +kernel
theorem dX6_keysIn_68 : decode cX6_keysIn 68 = .ok (.ifCond .eq 20, 3) := by decide +kernel
theorem dX6_keysIn_71 : decode cX6_keysIn 71 = .ok (.iload_n 1, 1) := by decide +kernel
theorem dX6_keysIn_72 : decode cX6_keysIn 72 = .ok (.ifCond .lt 12, 3) := by decide +kernel
theorem dX6_keysIn_75 : decode cX6_keysIn 75 = .ok (.iload 4, 2) := by decide +kernel
theorem dX6_keysIn_77 : decode cX6_keysIn 77 = .ok (.bipush 16, 2) := by decide +kernel
theorem dX6_keysIn_79 : decode cX6_keysIn 79 = .ok (.idiv, 1) := by decide +kernel
theorem dX6_keysIn_80 : decode cX6_keysIn 80 = .ok (.iload_n 1, 1) := by decide +kernel
theorem dX6_keysIn_81 : decode cX6_keysIn 81 = .ok (.if_icmp .ne 7, 3) := by decide +kernel
theorem dX6_keysIn_84 : decode cX6_keysIn 84 = .ok (.iconst 1, 1) := by decide +kernel
theorem dX6_keysIn_85 : decode cX6_keysIn 85 = .ok (.goto 4, 3) := by decide +kernel
theorem dX6_keysIn_88 : decode cX6_keysIn 88 = .ok (.iconst 0, 1) := by decide +kernel
theorem dX6_keysIn_89 : decode cX6_keysIn 89 = .ok (.iadd, 1) := by decide +kernel
theorem dX6_keysIn_90 : decode cX6_keysIn 90 = .ok (.istore_n 3, 1) := by decide +kernel
theorem dX6_keysIn_91 : decode cX6_keysIn 91 = .ok (.iinc 4 1, 3) := by decide +kernel
theorem dX6_keysIn_94 : decode cX6_keysIn 94 = .ok (.goto (-89), 3) := by decide +kernel
theorem dX6_keysIn_97 : decode cX6_keysIn 97 = .ok (.iload_n 3, 1) := by decide +kernel
theorem dX6_keysIn_98 : decode cX6_keysIn 98 = .ok (.ireturn, 1) := by decide +kernel
theorem dX6_passes_0 : decode cX6_passes 0 = .ok (.aload_n 0, 1) := by decide +kernel
theorem dX6_passes_1 : decode cX6_passes 1 = .ok (.getfield 7, 3) := by decide +kernel
theorem dX6_passes_4 : decode cX6_passes 4 = .ok (.iconst 3, 1) := by decide +kernel
theorem dX6_passes_5 : decode cX6_passes 5 = .ok (.dup2, 1) := by decide +kernel
theorem dX6_passes_6 : decode cX6_passes 6 = .ok (.iaload, 1) := by decide +kernel
theorem dX6_passes_7 : decode cX6_passes 7 = .ok (.iload_n 1, 1) := by decide +kernel
theorem dX6_passes_8 : decode cX6_passes 8 = .ok (.iadd, 1) := by decide +kernel
theorem dX6_passes_9 : decode cX6_passes 9 = .ok (.iastore, 1) := by decide +kernel
theorem dX6_passes_10 : decode cX6_passes 10 = .ok (.aload_n 0, 1) := by decide +kernel
theorem dX6_passes_11 : decode cX6_passes 11 = .ok (.iconst (-1), 1) := by decide +kernel
theorem dX6_passes_12 : decode cX6_passes 12 = .ok (.iconst 4, 1) := by decide +kernel
theorem dX6_passes_13 : decode cX6_passes 13 = .ok (.invokevirtual 118, 3) := by decide +kernel
theorem dX6_passes_16 : decode cX6_passes 16 = .ok (.ireturn, 1) := by decide +kernel
theorem dX6_pass_0 : decode cX6_pass 0 = .ok (.iload_n 1, 1) := by decide +kernel
theorem dX6_pass_1 : decode cX6_pass 1 = .ok (.iconst 1, 1) := by decide +kernel
theorem dX6_pass_2 : decode cX6_pass 2 = .ok (.bipush 99, 2) := by decide +kernel
theorem dX6_pass_4 : decode cX6_pass 4 = .ok (.invokestatic 32, 3) := by decide +kernel
theorem dX6_pass_7 : decode cX6_pass 7 = .ok (.istore_n 2, 1) := by decide +kernel
theorem dX6_pass_8 : decode cX6_pass 8 = .ok (.aload_n 0, 1) := by decide +kernel
theorem dX6_pass_9 : decode cX6_pass 9 = .ok (.iload_n 2, 1) := by decide +kernel
theorem dX6_pass_10 : decode cX6_pass 10 = .ok (.iload_n 2, 1) := by decide +kernel
theorem dX6_pass_11 : decode cX6_pass 11 = .ok (.ifCond .eq 21, 3) := by decide +kernel
theorem dX6_pass_14 : decode cX6_pass 14 = .ok (.aload_n 0, 1) := by decide +kernel
theorem dX6_pass_15 : decode cX6_pass 15 = .ok (.getfield 7, 3) := by decide +kernel
theorem dX6_pass_18 : decode cX6_pass 18 = .ok (.iconst 3, 1) := by decide +kernel
theorem dX6_pass_19 : decode cX6_pass 19 = .ok (.iaload, 1) := by decide +kernel
theorem dX6_pass_20 : decode cX6_pass 20 = .ok (.sipush 9999, 3) := by decide +kernel
theorem dX6_pass_23 : decode cX6_pass 23 = .ok (.iload_n 1, 1) := by decide +kernel
theorem dX6_pass_24 : decode cX6_pass 24 = .ok (.isub, 1) := by decide +kernel
theorem dX6_pass_25 : decode cX6_pass 25 = .ok (.if_icmp .gt 7, 3) := by decide +kernel
theorem dX6_pass_28 : decode cX6_pass 28 = .ok (.iconst 1, 1) := by decide +kernel
theorem dX6_pass_29 : decode cX6_pass 29 = .ok (.goto 4, 3) := by decide +kernel
theorem dX6_pass_32 : decode cX6_pass 32 = .ok (.iconst 0, 1) := by decide +kernel
theorem dX6_pass_33 : decode cX6_pass 33 = .ok (.invokevirtual 83, 3) := by decide +kernel
theorem dX6_pass_36 : decode cX6_pass 36 = .ok (.ifCond .ne 5, 3) := by decide +kernel
theorem dX6_pass_39 : decode cX6_pass 39 = .ok (.iconst 0, 1) := by decide +kernel
theorem dX6_pass_40 : decode cX6_pass 40 = .ok (.ireturn, 1) := by decide +kernel
theorem dX6_pass_41 : decode cX6_pass 41 = .ok (.aload_n 0, 1) := by decide +kernel
theorem dX6_pass_42 : decode cX6_pass 42 = .ok (.invokevirtual 87, 3) := by decide +kernel
theorem dX6_pass_45 : decode cX6_pass 45 = .ok (.aload_n 0, 1) := by decide +kernel
theorem dX6_pass_46 : decode cX6_pass 46 = .ok (.iload_n 1, 1) := by decide +kernel
theorem dX6_pass_47 : decode cX6_pass 47 = .ok (.invokevirtual 121, 3) := by decide +kernel
theorem dX6_pass_50 : decode cX6_pass 50 = .ok (.ireturn, 1) := by decide +kernel
theorem dX6_changes_0 : decode cX6_changes 0 = .ok (.aload_n 0, 1) := by decide +kernel
theorem dX6_changes_1 : decode cX6_changes 1 = .ok (.getfield 7, 3) := by decide +kernel
theorem dX6_changes_4 : decode cX6_changes 4 = .ok (.iload_n 1, 1) := by decide +kernel
theorem dX6_changes_5 : decode cX6_changes 5 = .ok (.iaload, 1) := by decide +kernel
theorem dX6_changes_6 : decode cX6_changes 6 = .ok (.istore_n 3, 1) := by decide +kernel
theorem dX6_changes_7 : decode cX6_changes 7 = .ok (.aload_n 0, 1) := by decide +kernel
theorem dX6_changes_8 : decode cX6_changes 8 = .ok (.getfield 7, 3) := by decide +kernel
theorem dX6_changes_11 : decode cX6_changes 11 = .ok (.iload_n 1, 1) := by decide +kernel
theorem dX6_changes_12 : decode cX6_changes 12 = .ok (.iload_n 2, 1) := by decide +kernel
theorem dX6_changes_13 : decode cX6_changes 13 = .ok (.iastore, 1) := by decide +kernel
theorem dX6_changes_14 : decode cX6_changes 14 = .ok (.iload_n 3, 1) := by decide +kernel
theorem dX6_changes_15 : decode cX6_changes 15 = .ok (.ireturn, 1) := by decide +kernel
theorem dX6_season_0 : decode cX6_season 0 = .ok (.aload_n 0, 1) := by decide +kernel
theorem dX6_season_1 : decode cX6_season 1 = .ok (.iload_n 1, 1) := by decide +kernel
theorem dX6_season_2 : decode cX6_season 2 = .ok (.invokestatic 36, 3) := by decide +kernel
theorem dX6_season_5 : decode cX6_season 5 = .ok (.iload_n 2, 1) := by decide +kernel
theorem dX6_season_6 : decode cX6_season 6 = .ok (.iconst 0, 1) := by decide +kernel
theorem dX6_season_7 : decode cX6_season 7 = .ok (.bipush 99, 2) := by decide +kernel
theorem dX6_season_9 : decode cX6_season 9 = .ok (.invokestatic 32, 3) := by decide +kernel
theorem dX6_season_12 : decode cX6_season 12 = .ok (.invokevirtual 83, 3) := by decide +kernel
theorem dX6_season_15 : decode cX6_season 15 = .ok (.ifCond .ne 5, 3) := by decide +kernel
theorem dX6_season_18 : decode cX6_season 18 = .ok (.iconst 0, 1) := by decide +kernel
theorem dX6_season_19 : decode cX6_season 19 = .ok (.ireturn, 1) := by decide +kernel
theorem dX6_season_20 : decode cX6_season 20 = .ok (.aload_n 0, 1) := by decide +kernel
theorem dX6_season_21 : decode cX6_season 21 = .ok (.invokevirtual 87, 3) := by decide +kernel
theorem dX6_season_24 : decode cX6_season 24 = .ok (.aload_n 0, 1) := by decide +kernel
theorem dX6_season_25 : decode cX6_season 25 = .ok (.iconst 4, 1) := by decide +kernel
theorem dX6_season_26 : decode cX6_season 26 = .ok (.iload_n 1, 1) := by decide +kernel
theorem dX6_season_27 : decode cX6_season 27 = .ok (.iadd, 1) := by decide +kernel
theorem dX6_season_28 : decode cX6_season 28 = .ok (.iload_n 2, 1) := by decide +kernel
theorem dX6_season_29 : decode cX6_season 29 = .ok (.invokevirtual 124, 3) := by decide +kernel
theorem dX6_season_32 : decode cX6_season 32 = .ok (.ireturn, 1) := by decide +kernel
theorem dX6_set_0 : decode cX6_set 0 = .ok (.aload_n 0, 1) := by decide +kernel
theorem dX6_set_1 : decode cX6_set 1 = .ok (.iload_n 1, 1) := by decide +kernel
theorem dX6_set_2 : decode cX6_set 2 = .ok (.iconst 0, 1) := by decide +kernel
theorem dX6_set_3 : decode cX6_set 3 = .ok (.iconst 2, 1) := by decide +kernel
theorem dX6_set_4 : decode cX6_set 4 = .ok (.invokestatic 32, 3) := by decide +kernel
theorem dX6_set_7 : decode cX6_set 7 = .ok (.iload_n 2, 1) := by decide +kernel
theorem dX6_set_8 : decode cX6_set 8 = .ok (.iload_n 1, 1) := by decide +kernel
theorem dX6_set_9 : decode cX6_set 9 = .ok (.iconst 1, 1) := by decide +kernel
theorem dX6_set_10 : decode cX6_set 10 = .ok (.if_icmp .ne 7, 3) := by decide +kernel
theorem dX6_set_13 : decode cX6_set 13 = .ok (.iconst 1, 1) := by decide +kernel
theorem dX6_set_14 : decode cX6_set 14 = .ok (.goto 4, 3) := by decide +kernel
theorem dX6_set_17 : decode cX6_set 17 = .ok (.iconst 0, 1) := by decide +kernel
theorem dX6_set_18 : decode cX6_set 18 = .ok (.iload_n 1, 1) := by decide +kernel
theorem dX6_set_19 : decode cX6_set 19 = .ok (.ifCond .ne 7, 3) := by decide +kernel
theorem dX6_set_22 : decode cX6_set 22 = .ok (.iconst 3, 1) := by decide +kernel
theorem dX6_set_23 : decode cX6_set 23 = .ok (.goto 15, 3) := by decide +kernel
theorem dX6_set_26 : decode cX6_set 26 = .ok (.iload_n 1, 1) := by decide +kernel
theorem dX6_set_27 : decode cX6_set 27 = .ok (.iconst 1, 1) := by decide +kernel
theorem dX6_set_28 : decode cX6_set 28 = .ok (.if_icmp .ne 8, 3) := by decide +kernel
theorem dX6_set_31 : decode cX6_set 31 = .ok (.bipush 9, 2) := by decide +kernel
theorem dX6_set_33 : decode cX6_set 33 = .ok (.goto 5, 3) := by decide +kernel
theorem dX6_set_36 : decode cX6_set 36 = .ok (.bipush 20, 2) := by decide +kernel
theorem dX6_set_38 : decode cX6_set 38 = .ok (.invokestatic 32, 3) := by decide +kernel
theorem dX6_set_41 : decode cX6_set 41 = .ok (.invokevirtual 83, 3) := by decide +kernel
theorem dX6_set_44 : decode cX6_set 44 = .ok (.ifCond .ne 5, 3) := by decide +kernel
theorem dX6_set_47 : decode cX6_set 47 = .ok (.iconst 0, 1) := by decide +kernel
theorem dX6_set_48 : decode cX6_set 48 = .ok (.ireturn, 1) := by decide +kernel
theorem dX6_set_49 : decode cX6_set 49 = .ok (.aload_n 0, 1) := by decide +kernel
theorem dX6_set_50 : decode cX6_set 50 = .ok (.invokevirtual 87, 3) := by decide +kernel
theorem dX6_set_53 : decode cX6_set 53 = .ok (.aload_n 0, 1) := by decide +kernel
theorem dX6_set_54 : decode cX6_set 54 = .ok (.iload_n 1, 1) := by decide +kernel
theorem dX6_set_55 : decode cX6_set 55 = .ok (.iload_n 2, 1) := by decide +kernel
theorem dX6_set_56 : decode cX6_set 56 = .ok (.invokevirtual 124, 3) := by decide +kernel
theorem dX6_set_59 : decode cX6_set 59 = .ok (.ireturn, 1) := by decide +kernel
theorem dX6_append_0 : decode cX6_append 0 = .ok (.aload_n 0, 1) := by decide +kernel
theorem dX6_append_1 : decode cX6_append 1 = .ok (.iload_n 1, 1) := by decide +kernel
theorem dX6_append_2 : decode cX6_append 2 = .ok (.bipush 33, 2) := by decide +kernel
theorem dX6_append_4 : decode cX6_append 4 = .ok (.bipush 126, 2) := by decide +kernel
theorem dX6_append_6 : decode cX6_append 6 = .ok (.invokestatic 32, 3) := by decide +kernel
theorem dX6_append_9 : decode cX6_append 9 = .ok (.aload_n 0, 1) := by decide +kernel
theorem dX6_append_10 : decode cX6_append 10 = .ok (.getfield 127, 3) := by decide +kernel
theorem dX6_append_13 : decode cX6_append 13 = .ok (.bipush 60, 2) := by decide +kernel
theorem dX6_append_15 : decode cX6_append 15 = .ok (.if_icmp .ge 7, 3) := by decide +kernel
theorem dX6_append_18 : decode cX6_append 18 = .ok (.iconst 1, 1) := by decide +kernel
theorem dX6_append_19 : decode cX6_append 19 = .ok (.goto 4, 3) := by decide +kernel
theorem dX6_append_22 : decode cX6_append 22 = .ok (.iconst 0, 1) := by decide +kernel
theorem dX6_append_23 : decode cX6_append 23 = .ok (.invokevirtual 83, 3) := by decide +kernel
theorem dX6_append_26 : decode cX6_append 26 = .ok (.ifCond .ne 5, 3) := by decide +kernel
theorem dX6_append_29 : decode cX6_append 29 = .ok (.iconst 0, 1) := by decide +kernel
theorem dX6_append_30 : decode cX6_append 30 = .ok (.ireturn, 1) := by decide +kernel
theorem dX6_append_31 : decode cX6_append 31 = .ok (.aload_n 0, 1) := by decide +kernel
theorem dX6_append_32 : decode cX6_append 32 = .ok (.getfield 17, 3) := by decide +kernel
theorem dX6_append_35 : decode cX6_append 35 = .ok (.aload_n 0, 1) := by decide +kernel
theorem dX6_append_36 : decode cX6_append 36 = .ok (.getfield 127, 3) := by decide +kernel
theorem dX6_append_39 : decode cX6_append 39 = .ok (.iload_n 1, 1) := by decide +kernel
theorem dX6_append_40 : decode cX6_append 40 = .ok (.i2c, 1) := by decide +kernel
theorem dX6_append_41 : decode cX6_append 41 = .ok (.castore, 1) := by decide +kernel
theorem dX6_append_42 : decode cX6_append 42 = .ok (.aload_n 0, 1) := by decide +kernel
theorem dX6_append_43 : decode cX6_append 43 = .ok (.dup, 1) := by decide +kernel
theorem dX6_append_44 : decode cX6_append 44 = .ok (.getfield 127, 3) := by decide +kernel
theorem dX6_append_47 : decode cX6_append 47 = .ok (.iconst 1, 1) := by decide +kernel
theorem dX6_append_48 : decode cX6_append 48 = .ok (.iadd, 1) := by decide +kernel
theorem dX6_append_49 : decode cX6_append 49 = .ok (.putfield 127, 3) := by decide +kernel
theorem dX6_append_52 : decode cX6_append 52 = .ok (.aload_n 0, 1) := by decide +kernel
theorem dX6_append_53 : decode cX6_append 53 = .ok (.getfield 127, 3) := by decide +kernel
theorem dX6_append_56 : decode cX6_append 56 = .ok (.ireturn, 1) := by decide +kernel
theorem dX6_clearBuffer_0 : decode cX6_clearBuffer 0 = .ok (.aload_n 0, 1) := by decide +kernel
theorem dX6_clearBuffer_1 : decode cX6_clearBuffer 1 = .ok (.iconst 0, 1) := by decide +kernel
theorem dX6_clearBuffer_2 : decode cX6_clearBuffer 2 = .ok (.putfield 21, 3) := by decide +kernel
theorem dX6_clearBuffer_5 : decode cX6_clearBuffer 5 = .ok (.aload_n 0, 1) := by decide +kernel
theorem dX6_clearBuffer_6 : decode cX6_clearBuffer 6 = .ok (.getfield 127, 3) := by decide +kernel
theorem dX6_clearBuffer_9 : decode cX6_clearBuffer 9 = .ok (.istore_n 1, 1) := by decide +kernel
theorem dX6_clearBuffer_10 : decode cX6_clearBuffer 10 = .ok (.aload_n 0, 1) := by decide +kernel
theorem dX6_clearBuffer_11 : decode cX6_clearBuffer 11 = .ok (.iconst 0, 1) := by decide +kernel
theorem dX6_clearBuffer_12 : decode cX6_clearBuffer 12 = .ok (.putfield 127, 3) := by decide +kernel
theorem dX6_clearBuffer_15 : decode cX6_clearBuffer 15 = .ok (.iload_n 1, 1) := by decide +kernel
theorem dX6_clearBuffer_16 : decode cX6_clearBuffer 16 = .ok (.ireturn, 1) := by decide +kernel
theorem dX6_isSign_0 : decode cX6_isSign 0 = .ok (.aload_n 0, 1) := by decide +kernel
theorem dX6_isSign_1 : decode cX6_isSign 1 = .ok (.getfield 130, 3) := by decide +kernel
theorem dX6_isSign_4 : decode cX6_isSign 4 = .ok (.aload_n 0, 1) := by decide +kernel
theorem dX6_isSign_5 : decode cX6_isSign 5 = .ok (.getfield 127, 3) := by decide +kernel
theorem dX6_isSign_8 : decode cX6_isSign 8 = .ok (.if_icmp .ge 24, 3) := by decide +kernel
theorem dX6_isSign_11 : decode cX6_isSign 11 = .ok (.aload_n 0, 1) := by decide +kernel
theorem dX6_isSign_12 : decode cX6_isSign 12 = .ok (.getfield 17, 3) := by decide +kernel
theorem dX6_isSign_15 : decode cX6_isSign 15 = .ok (.aload_n 0, 1) := by decide +kernel
theorem dX6_isSign_16 : decode cX6_isSign 16 = .ok (.getfield 130, 3) := by decide +kernel
theorem dX6_isSign_19 : decode cX6_isSign 19 = .ok (.caload, 1) := by decide +kernel
theorem dX6_isSign_20 : decode cX6_isSign 20 = .ok (.iload_n 1, 1) := by decide +kernel
theorem dX6_isSign_21 : decode cX6_isSign 21 = .ok (.iload_n 2, 1) := by decide +kernel
theorem dX6_isSign_22 : decode cX6_isSign 22 = .ok (.invokestatic 32, 3) := by decide +kernel
theorem dX6_isSign_25 : decode cX6_isSign 25 = .ok (.ifCond .eq 7, 3) := by decide +kernel
theorem dX6_isSign_28 : decode cX6_isSign 28 = .ok (.iconst 1, 1) := by decide +kernel
theorem dX6_isSign_29 : decode cX6_isSign 29 = .ok (.goto 4, 3) := by decide +kernel
theorem dX6_isSign_32 : decode cX6_isSign 32 = .ok (.iconst 0, 1) := by decide +kernel
theorem dX6_isSign_33 : decode cX6_isSign 33 = .ok (.ireturn, 1) := by decide +kernel
theorem dX6_takesKind_0 : decode cX6_takesKind 0 = .ok (.aload_n 0, 1) := by decide +kernel
theorem dX6_takesKind_1 : decode cX6_takesKind 1 = .ok (.bipush 48, 2) := by decide +kernel
theorem dX6_takesKind_3 : decode cX6_takesKind 3 = .ok (.bipush 51, 2) := by decide +kernel
theorem dX6_takesKind_5 : decode cX6_takesKind 5 = .ok (.invokevirtual 133, 3) := by decide +kernel
theorem dX6_takesKind_8 : decode cX6_takesKind 8 = .ok (.istore_n 1, 1) := by decide +kernel
theorem dX6_takesKind_9 : decode cX6_takesKind 9 = .ok (.aload_n 0, 1) := by decide +kernel
theorem dX6_takesKind_10 : decode cX6_takesKind 10 = .ok (.iload_n 1, 1) := by decide +kernel
theorem dX6_takesKind_11 : decode cX6_takesKind 11 = .ok (.ifCond .eq 18, 3) := by decide +kernel
theorem dX6_takesKind_14 : decode cX6_takesKind 14 = .ok (.aload_n 0, 1) := by decide +kernel
theorem dX6_takesKind_15 : decode cX6_takesKind 15 = .ok (.getfield 17, 3) := by decide +kernel
theorem dX6_takesKind_18 : decode cX6_takesKind 18 = .ok (.aload_n 0, 1) := by decide +kernel
theorem dX6_takesKind_19 : decode cX6_takesKind 19 = .ok (.getfield 130, 3) := by decide +kernel
theorem dX6_takesKind_22 : decode cX6_takesKind 22 = .ok (.caload, 1) := by decide +kernel
theorem dX6_takesKind_23 : decode cX6_takesKind 23 = .ok (.bipush 48, 2) := by decide +kernel
theorem dX6_takesKind_25 : decode cX6_takesKind 25 = .ok (.isub, 1) := by decide +kernel
theorem dX6_takesKind_26 : decode cX6_takesKind 26 = .ok (.goto 4, 3) := by decide +kernel
theorem dX6_takesKind_29 : decode cX6_takesKind 29 = .ok (.iconst (-1), 1) := by decide +kernel
theorem dX6_takesKind_30 : decode cX6_takesKind 30 = .ok (.putfield 137, 3) := by decide +kernel
theorem dX6_takesKind_33 : decode cX6_takesKind 33 = .ok (.aload_n 0, 1) := by decide +kernel
theorem dX6_takesKind_34 : decode cX6_takesKind 34 = .ok (.dup, 1) := by decide +kernel
theorem dX6_takesKind_35 : decode cX6_takesKind 35 = .ok (.getfield 130, 3) := by decide +kernel
theorem dX6_takesKind_38 : decode cX6_takesKind 38 = .ok (.iload_n 1, 1) := by decide +kernel
theorem dX6_takesKind_39 : decode cX6_takesKind 39 = .ok (.ifCond .eq 7, 3) := by decide +kernel
theorem dX6_takesKind_42 : decode cX6_takesKind 42 = .ok (.iconst 1, 1) := by decide +kernel
theorem dX6_takesKind_43 : decode cX6_takesKind 43 = .ok (.goto 4, 3) := by decide +kernel
theorem dX6_takesKind_46 : decode cX6_takesKind 46 = .ok (.iconst 0, 1) := by decide +kernel
theorem dX6_takesKind_47 : decode cX6_takesKind 47 = .ok (.iadd, 1) := by decide +kernel
theorem dX6_takesKind_48 : decode cX6_takesKind 48 = .ok (.putfield 130, 3) := by decide +kernel
theorem dX6_takesKind_51 : decode cX6_takesKind 51 = .ok (.iload_n 1, 1) := by decide +kernel
theorem dX6_takesKind_52 : decode cX6_takesKind 52 = .ok (.ireturn, 1) := by decide +kernel
theorem dX6_takesKey_0 : decode cX6_takesKey 0 = .ok (.aload_n 0, 1) := by decide +kernel
theorem dX6_takesKey_1 : decode cX6_takesKey 1 = .ok (.bipush 46, 2) := by decide +kernel
theorem dX6_takesKey_3 : decode cX6_takesKey 3 = .ok (.bipush 46, 2) := by decide +kernel
theorem dX6_takesKey_5 : decode cX6_takesKey 5 = .ok (.invokevirtual 133, 3) := by decide +kernel
theorem dX6_takesKey_8 : decode cX6_takesKey 8 = .ok (.ifCond .ne 5, 3) := by decide +kernel
theorem dX6_takesKey_11 : decode cX6_takesKey 11 = .ok (.iconst 0, 1) := by decide +kernel
theorem dX6_takesKey_12 : decode cX6_takesKey 12 = .ok (.ireturn, 1) := by decide +kernel
theorem dX6_takesKey_13 : decode cX6_takesKey 13 = .ok (.aload_n 0, 1) := by decide +kernel
theorem dX6_takesKey_14 : decode cX6_takesKey 14 = .ok (.dup, 1) := by decide +kernel
theorem dX6_takesKey_15 : decode cX6_takesKey 15 = .ok (.getfield 130, 3) := by decide +kernel
theorem dX6_takesKey_18 : decode cX6_takesKey 18 = .ok (.iconst 1, 1) := by decide +kernel
theorem dX6_takesKey_19 : decode cX6_takesKey 19 = .ok (.iadd, 1) := by decide +kernel
theorem dX6_takesKey_20 : decode cX6_takesKey 20 = .ok (.putfield 130, 3) := by decide +kernel
theorem dX6_takesKey_23 : decode cX6_takesKey 23 = .ok (.aload_n 0, 1) := by decide +kernel
theorem dX6_takesKey_24 : decode cX6_takesKey 24 = .ok (.bipush 48, 2) := by decide +kernel
theorem dX6_takesKey_26 : decode cX6_takesKey 26 = .ok (.bipush 57, 2) := by decide +kernel
theorem dX6_takesKey_28 : decode cX6_takesKey 28 = .ok (.invokevirtual 133, 3) := by decide +kernel
theorem dX6_takesKey_31 : decode cX6_takesKey 31 = .ok (.ifCond .ne 5, 3) := by decide +kernel
theorem dX6_takesKey_34 : decode cX6_takesKey 34 = .ok (.iconst 0, 1) := by decide +kernel
theorem dX6_takesKey_35 : decode cX6_takesKey 35 = .ok (.ireturn, 1) := by decide +kernel
theorem dX6_takesKey_36 : decode cX6_takesKey 36 = .ok (.aload_n 0, 1) := by decide +kernel
theorem dX6_takesKey_37 : decode cX6_takesKey 37 = .ok (.aload_n 0, 1) := by decide +kernel
theorem dX6_takesKey_38 : decode cX6_takesKey 38 = .ok (.getfield 17, 3) := by decide +kernel
theorem dX6_takesKey_41 : decode cX6_takesKey 41 = .ok (.aload_n 0, 1) := by decide +kernel
theorem dX6_takesKey_42 : decode cX6_takesKey 42 = .ok (.getfield 130, 3) := by decide +kernel
theorem dX6_takesKey_45 : decode cX6_takesKey 45 = .ok (.caload, 1) := by decide +kernel
theorem dX6_takesKey_46 : decode cX6_takesKey 46 = .ok (.bipush 48, 2) := by decide +kernel
theorem dX6_takesKey_48 : decode cX6_takesKey 48 = .ok (.isub, 1) := by decide +kernel
theorem dX6_takesKey_49 : decode cX6_takesKey 49 = .ok (.putfield 140, 3) := by decide +kernel
theorem dX6_takesKey_52 : decode cX6_takesKey 52 = .ok (.aload_n 0, 1) := by decide +kernel
theorem dX6_takesKey_53 : decode cX6_takesKey 53 = .ok (.dup, 1) := by decide +kernel
theorem dX6_takesKey_54 : decode cX6_takesKey 54 = .ok (.getfield 130, 3) := by decide +kernel
theorem dX6_takesKey_57 : decode cX6_takesKey 57 = .ok (.iconst 1, 1) := by decide +kernel
theorem dX6_takesKey_58 : decode cX6_takesKey 58 = .ok (.iadd, 1) := by decide +kernel
theorem dX6_takesKey_59 : decode cX6_takesKey 59 = .ok (.putfield 130, 3) := by decide +kernel
theorem dX6_takesKey_62 : decode cX6_takesKey 62 = .ok (.aload_n 0, 1) := by decide +kernel
theorem dX6_takesKey_63 : decode cX6_takesKey 63 = .ok (.getfield 140, 3) := by decide +kernel
theorem dX6_takesKey_66 : decode cX6_takesKey 66 = .ok (.iconst 1, 1) := by decide +kernel
theorem dX6_takesKey_67 : decode cX6_takesKey 67 = .ok (.if_icmp .ne 43, 3) := by decide +kernel
theorem dX6_takesKey_70 : decode cX6_takesKey 70 = .ok (.aload_n 0, 1) := by decide +kernel
theorem dX6_takesKey_71 : decode cX6_takesKey 71 = .ok (.bipush 48, 2) := by decide +kernel
theorem dX6_takesKey_73 : decode cX6_takesKey 73 = .ok (.bipush 53, 2) := by decide +kernel
theorem dX6_takesKey_75 : decode cX6_takesKey 75 = .ok (.invokevirtual 133, 3) := by decide +kernel
theorem dX6_takesKey_78 : decode cX6_takesKey 78 = .ok (.ifCond .eq 32, 3) := by decide +kernel
theorem dX6_takesKey_81 : decode cX6_takesKey 81 = .ok (.aload_n 0, 1) := by decide +kernel
theorem dX6_takesKey_82 : decode cX6_takesKey 82 = .ok (.bipush 10, 2) := by decide +kernel
theorem dX6_takesKey_84 : decode cX6_takesKey 84 = .ok (.aload_n 0, 1) := by decide +kernel
theorem dX6_takesKey_85 : decode cX6_takesKey 85 = .ok (.getfield 17, 3) := by decide +kernel
theorem dX6_takesKey_88 : decode cX6_takesKey 88 = .ok (.aload_n 0, 1) := by decide +kernel
theorem dX6_takesKey_89 : decode cX6_takesKey 89 = .ok (.getfield 130, 3) := by decide +kernel
theorem dX6_takesKey_92 : decode cX6_takesKey 92 = .ok (.caload, 1) := by decide +kernel
theorem dX6_takesKey_93 : decode cX6_takesKey 93 = .ok (.iadd, 1) := by decide +kernel
theorem dX6_takesKey_94 : decode cX6_takesKey 94 = .ok (.bipush 48, 2) := by decide +kernel
theorem dX6_takesKey_96 : decode cX6_takesKey 96 = .ok (.isub, 1) := by decide +kernel
theorem dX6_takesKey_97 : decode cX6_takesKey 97 = .ok (.putfield 140, 3) := by decide +kernel
theorem dX6_takesKey_100 : decode cX6_takesKey 100 = .ok (.aload_n 0, 1) := by decide +kernel
theorem dX6_takesKey_101 : decode cX6_takesKey 101 = .ok (.dup, 1) := by decide +kernel
theorem dX6_takesKey_102 : decode cX6_takesKey 102 = .ok (.getfield 130, 3) := by decide +kernel
theorem dX6_takesKey_105 : decode cX6_takesKey 105 = .ok (.iconst 1, 1) := by decide +kernel
theorem dX6_takesKey_106 : decode cX6_takesKey 106 = .ok (.iadd, 1) := by decide +kernel
theorem dX6_takesKey_107 : decode cX6_takesKey 107 = .ok (.putfield 130, 3) := by decide +kernel
theorem dX6_takesKey_110 : decode cX6_takesKey 110 = .ok (.iconst 1, 1) := by decide +kernel
theorem dX6_takesKey_111 : decode cX6_takesKey 111 = .ok (.ireturn, 1) := by decide +kernel
theorem dX6_takesDays_0 : decode cX6_takesDays 0 = .ok (.aload_n 0, 1) := by decide +kernel
theorem dX6_takesDays_1 : decode cX6_takesDays 1 = .ok (.bipush 49, 2) := by decide +kernel
theorem dX6_takesDays_3 : decode cX6_takesDays 3 = .ok (.bipush 57, 2) := by decide +kernel
theorem dX6_takesDays_5 : decode cX6_takesDays 5 = .ok (.invokevirtual 133, 3) := by decide +kernel
theorem dX6_takesDays_8 : decode cX6_takesDays 8 = .ok (.ifCond .ne 5, 3) := by decide +kernel
theorem dX6_takesDays_11 : decode cX6_takesDays 11 = .ok (.iconst 0, 1) := by decide +kernel
theorem dX6_takesDays_12 : decode cX6_takesDays 12 = .ok (.ireturn, 1) := by decide +kernel
theorem dX6_takesDays_13 : decode cX6_takesDays 13 = .ok (.aload_n 0, 1) := by decide +kernel
theorem dX6_takesDays_14 : decode cX6_takesDays 14 = .ok (.aload_n 0, 1) := by decide +kernel
theorem dX6_takesDays_15 : decode cX6_takesDays 15 = .ok (.getfield 17, 3) := by decide +kernel
