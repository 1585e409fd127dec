theorem dX4_push_22 : decode cX4_push 22 = .ok (.aaload, 1) := by decide +kernel
theorem dX4_push_23 : decode cX4_push 23 = .ok (.invokestatic 25, 3) := by decide +kernel
theorem dX4_push_26 : decode cX4_push 26 = .ok (.aload_n 0, 1) := by decide +kernel
theorem dX4_push_27 : decode cX4_push 27 = .ok (.dup, 1) := by decide +kernel
theorem dX4_push_28 : decode cX4_push 28 = .ok (.getfield 18, 3) := by decide +kernel
theorem dX4_push_31 : decode cX4_push 31 = .ok (.iconst 1, 1) := by decide +kernel
theorem dX4_push_32 : decode cX4_push 32 = .ok (.iadd, 1) := by decide +kernel
theorem dX4_push_33 : decode cX4_push 33 = .ok (.putfield 18, 3) := by decide +kernel
theorem dX4_push_36 : decode cX4_push 36 = .ok (.return_, 1) := by decide +kernel
theorem dX4_dropOldest_0 : decode cX4_dropOldest 0 = .ok (.aload_n 0, 1) := by decide +kernel
theorem dX4_dropOldest_1 : decode cX4_dropOldest 1 = .ok (.getfield 11, 3) := by decide +kernel
theorem dX4_dropOldest_4 : decode cX4_dropOldest 4 = .ok (.iconst 0, 1) := by decide +kernel
theorem dX4_dropOldest_5 : decode cX4_dropOldest 5 = .ok (.aaload, 1) := by decide +kernel
theorem dX4_dropOldest_6 : decode cX4_dropOldest 6 = .ok (.astore_n 1, 1) := by decide +kernel
theorem dX4_dropOldest_7 : decode cX4_dropOldest 7 = .ok (.iconst 1, 1) := by decide +kernel
theorem dX4_dropOldest_8 : decode cX4_dropOldest 8 = .ok (.istore_n 2, 1) := by decide +kernel
theorem dX4_dropOldest_9 : decode cX4_dropOldest 9 = .ok (.iload_n 2, 1) := by decide +kernel
theorem dX4_dropOldest_10 : decode cX4_dropOldest 10 = .ok (.bipush 6, 2) := by decide +kernel
theorem dX4_dropOldest_12 : decode cX4_dropOldest 12 = .ok (.if_icmp .ge 23, 3) := by decide +kernel
theorem dX4_dropOldest_15 : decode cX4_dropOldest 15 = .ok (.aload_n 0, 1) := by decide +kernel
theorem dX4_dropOldest_16 : decode cX4_dropOldest 16 = .ok (.getfield 11, 3) := by decide +kernel
theorem dX4_dropOldest_19 : decode cX4_dropOldest 19 = .ok (.iload_n 2, 1) := by decide +kernel
theorem dX4_dropOldest_20 : decode cX4_dropOldest 20 = .ok (.iconst 1, 1) := by decide +kernel
theorem dX4_dropOldest_21 : decode cX4_dropOldest 21 = .ok (.isub, 1) := by decide +kernel
theorem dX4_dropOldest_22 : decode cX4_dropOldest 22 = .ok (.aload_n 0, 1) := by decide +kernel
theorem dX4_dropOldest_23 : decode cX4_dropOldest 23 = .ok (.getfield 11, 3) := by decide +kernel
theorem dX4_dropOldest_26 : decode cX4_dropOldest 26 = .ok (.iload_n 2, 1) := by decide +kernel
theorem dX4_dropOldest_27 : decode cX4_dropOldest 27 = .ok (.aaload, 1) := by decide +kernel
theorem dX4_dropOldest_28 : decode cX4_dropOldest 28 = .ok (.aastore, 1) := by decide +kernel
theorem dX4_dropOldest_29 : decode cX4_dropOldest 29 = .ok (.iinc 2 1, 3) := by decide +kernel
theorem dX4_dropOldest_32 : decode cX4_dropOldest 32 = .ok (.goto (-23), 3) := by decide +kernel
theorem dX4_dropOldest_35 : decode cX4_dropOldest 35 = .ok (.aload_n 0, 1) := by decide +kernel
theorem dX4_dropOldest_36 : decode cX4_dropOldest 36 = .ok (.getfield 11, 3) := by decide +kernel
theorem dX4_dropOldest_39 : decode cX4_dropOldest 39 = .ok (.iconst 5, 1) := by decide +kernel
theorem dX4_dropOldest_40 : decode cX4_dropOldest 40 = .ok (.aload_n 1, 1) := by decide +kernel
theorem dX4_dropOldest_41 : decode cX4_dropOldest 41 = .ok (.aastore, 1) := by decide +kernel
theorem dX4_dropOldest_42 : decode cX4_dropOldest 42 = .ok (.aload_n 0, 1) := by decide +kernel
theorem dX4_dropOldest_43 : decode cX4_dropOldest 43 = .ok (.iconst 5, 1) := by decide +kernel
theorem dX4_dropOldest_44 : decode cX4_dropOldest 44 = .ok (.putfield 18, 3) := by decide +kernel
theorem dX4_dropOldest_47 : decode cX4_dropOldest 47 = .ok (.return_, 1) := by decide +kernel
theorem dX4_popInto_0 : decode cX4_popInto 0 = .ok (.aload_n 0, 1) := by decide +kernel
theorem dX4_popInto_1 : decode cX4_popInto 1 = .ok (.getfield 18, 3) := by decide +kernel
theorem dX4_popInto_4 : decode cX4_popInto 4 = .ok (.ifCond .gt 4, 3) := by decide +kernel
theorem dX4_popInto_7 : decode cX4_popInto 7 = .ok (.return_, 1) := by decide +kernel
theorem dX4_popInto_8 : decode cX4_popInto 8 = .ok (.aload_n 0, 1) := by decide +kernel
theorem dX4_popInto_9 : decode cX4_popInto 9 = .ok (.dup, 1) := by decide +kernel
theorem dX4_popInto_10 : decode cX4_popInto 10 = .ok (.getfield 18, 3) := by decide +kernel
theorem dX4_popInto_13 : decode cX4_popInto 13 = .ok (.iconst 1, 1) := by decide +kernel
theorem dX4_popInto_14 : decode cX4_popInto 14 = .ok (.isub, 1) := by decide +kernel
theorem dX4_popInto_15 : decode cX4_popInto 15 = .ok (.putfield 18, 3) := by decide +kernel
theorem dX4_popInto_18 : decode cX4_popInto 18 = .ok (.aload_n 0, 1) := by decide +kernel
theorem dX4_popInto_19 : decode cX4_popInto 19 = .ok (.getfield 11, 3) := by decide +kernel
theorem dX4_popInto_22 : decode cX4_popInto 22 = .ok (.aload_n 0, 1) := by decide +kernel
theorem dX4_popInto_23 : decode cX4_popInto 23 = .ok (.getfield 18, 3) := by decide +kernel
theorem dX4_popInto_26 : decode cX4_popInto 26 = .ok (.aaload, 1) := by decide +kernel
theorem dX4_popInto_27 : decode cX4_popInto 27 = .ok (.aload_n 1, 1) := by decide +kernel
theorem dX4_popInto_28 : decode cX4_popInto 28 = .ok (.invokestatic 25, 3) := by decide +kernel
theorem dX4_popInto_31 : decode cX4_popInto 31 = .ok (.return_, 1) := by decide +kernel
theorem dX5_init_0 : decode cX5_init 0 = .ok (.aload_n 0, 1) := by decide +kernel
theorem dX5_init_1 : decode cX5_init 1 = .ok (.invokespecial 1, 3) := by decide +kernel
theorem dX5_init_4 : decode cX5_init 4 = .ok (.aload_n 0, 1) := by decide +kernel
theorem dX5_init_5 : decode cX5_init 5 = .ok (.new 7, 3) := by decide +kernel
theorem dX5_init_8 : decode cX5_init 8 = .ok (.dup, 1) := by decide +kernel
theorem dX5_init_9 : decode cX5_init 9 = .ok (.invokespecial 9, 3) := by decide +kernel
theorem dX5_init_12 : decode cX5_init 12 = .ok (.putfield 10, 3) := by decide +kernel
theorem dX5_init_15 : decode cX5_init 15 = .ok (.aload_n 0, 1) := by decide +kernel
theorem dX5_init_16 : decode cX5_init 16 = .ok (.new 16, 3) := by decide +kernel
theorem dX5_init_19 : decode cX5_init 19 = .ok (.dup, 1) := by decide +kernel
theorem dX5_init_20 : decode cX5_init 20 = .ok (.invokespecial 18, 3) := by decide +kernel
theorem dX5_init_23 : decode cX5_init 23 = .ok (.putfield 19, 3) := by decide +kernel
theorem dX5_init_26 : decode cX5_init 26 = .ok (.aload_n 0, 1) := by decide +kernel
theorem dX5_init_27 : decode cX5_init 27 = .ok (.iconst 2, 1) := by decide +kernel
theorem dX5_init_28 : decode cX5_init 28 = .ok (.anewarray 7, 3) := by decide +kernel
theorem dX5_init_31 : decode cX5_init 31 = .ok (.putfield 23, 3) := by decide +kernel
theorem dX5_init_34 : decode cX5_init 34 = .ok (.iconst 0, 1) := by decide +kernel
theorem dX5_init_35 : decode cX5_init 35 = .ok (.istore_n 1, 1) := by decide +kernel
theorem dX5_init_36 : decode cX5_init 36 = .ok (.iload_n 1, 1) := by decide +kernel
theorem dX5_init_37 : decode cX5_init 37 = .ok (.iconst 2, 1) := by decide +kernel
theorem dX5_init_38 : decode cX5_init 38 = .ok (.if_icmp .ge 22, 3) := by decide +kernel
theorem dX5_init_41 : decode cX5_init 41 = .ok (.aload_n 0, 1) := by decide +kernel
theorem dX5_init_42 : decode cX5_init 42 = .ok (.getfield 23, 3) := by decide +kernel
theorem dX5_init_45 : decode cX5_init 45 = .ok (.iload_n 1, 1) := by decide +kernel
theorem dX5_init_46 : decode cX5_init 46 = .ok (.new 7, 3) := by decide +kernel
theorem dX5_init_49 : decode cX5_init 49 = .ok (.dup, 1) := by decide +kernel
theorem dX5_init_50 : decode cX5_init 50 = .ok (.invokespecial 9, 3) := by decide +kernel
theorem dX5_init_53 : decode cX5_init 53 = .ok (.aastore, 1) := by decide +kernel
theorem dX5_init_54 : decode cX5_init 54 = .ok (.iinc 1 1, 3) := by decide +kernel
theorem dX5_init_57 : decode cX5_init 57 = .ok (.goto (-21), 3) := by decide +kernel
theorem dX5_init_60 : decode cX5_init 60 = .ok (.aload_n 0, 1) := by decide +kernel
theorem dX5_init_61 : decode cX5_init 61 = .ok (.iconst 2, 1) := by decide +kernel
theorem dX5_init_62 : decode cX5_init 62 = .ok (.newarray .boolean, 2) := by decide +kernel
theorem dX5_init_64 : decode cX5_init 64 = .ok (.putfield 27, 3) := by decide +kernel
theorem dX5_init_67 : decode cX5_init 67 = .ok (.aload_n 0, 1) := by decide +kernel
theorem dX5_init_68 : decode cX5_init 68 = .ok (.new 31, 3) := by decide +kernel
theorem dX5_init_71 : decode cX5_init 71 = .ok (.dup, 1) := by decide +kernel
theorem dX5_init_72 : decode cX5_init 72 = .ok (.invokespecial 33, 3) := by decide +kernel
theorem dX5_init_75 : decode cX5_init 75 = .ok (.putfield 34, 3) := by decide +kernel
theorem dX5_init_78 : decode cX5_init 78 = .ok (.return_, 1) := by decide +kernel
theorem dX5_ask_0 : decode cX5_ask 0 = .ok (.iload_n 1, 1) := by decide +kernel
theorem dX5_ask_1 : decode cX5_ask 1 = .ok (.invokestatic 38, 3) := by decide +kernel
theorem dX5_ask_4 : decode cX5_ask 4 = .ok (.aload_n 0, 1) := by decide +kernel
theorem dX5_ask_5 : decode cX5_ask 5 = .ok (.getfield 19, 3) := by decide +kernel
theorem dX5_ask_8 : decode cX5_ask 8 = .ok (.aload_n 0, 1) := by decide +kernel
theorem dX5_ask_9 : decode cX5_ask 9 = .ok (.getfield 10, 3) := by decide +kernel
theorem dX5_ask_12 : decode cX5_ask 12 = .ok (.invokevirtual 42, 3) := by decide +kernel
theorem dX5_ask_15 : decode cX5_ask 15 = .ok (.aload_n 0, 1) := by decide +kernel
theorem dX5_ask_16 : decode cX5_ask 16 = .ok (.getfield 10, 3) := by decide +kernel
theorem dX5_ask_19 : decode cX5_ask 19 = .ok (.iload_n 1, 1) := by decide +kernel
theorem dX5_ask_20 : decode cX5_ask 20 = .ok (.invokevirtual 46, 3) := by decide +kernel
theorem dX5_ask_23 : decode cX5_ask 23 = .ok (.ireturn, 1) := by decide +kernel
theorem dX5_want_0 : decode cX5_want 0 = .ok (.iload_n 1, 1) := by decide +kernel
theorem dX5_want_1 : decode cX5_want 1 = .ok (.iload_n 2, 1) := by decide +kernel
theorem dX5_want_2 : decode cX5_want 2 = .ok (.invokestatic 50, 3) := by decide +kernel
theorem dX5_want_5 : decode cX5_want 5 = .ok (.aload_n 0, 1) := by decide +kernel
theorem dX5_want_6 : decode cX5_want 6 = .ok (.getfield 19, 3) := by decide +kernel
theorem dX5_want_9 : decode cX5_want 9 = .ok (.aload_n 0, 1) := by decide +kernel
theorem dX5_want_10 : decode cX5_want 10 = .ok (.getfield 10, 3) := by decide +kernel
theorem dX5_want_13 : decode cX5_want 13 = .ok (.invokevirtual 42, 3) := by decide +kernel
theorem dX5_want_16 : decode cX5_want 16 = .ok (.aload_n 0, 1) := by decide +kernel
theorem dX5_want_17 : decode cX5_want 17 = .ok (.getfield 10, 3) := by decide +kernel
theorem dX5_want_20 : decode cX5_want 20 = .ok (.iload_n 1, 1) := by decide +kernel
theorem dX5_want_21 : decode cX5_want 21 = .ok (.iload_n 2, 1) := by decide +kernel
theorem dX5_want_22 : decode cX5_want 22 = .ok (.invokevirtual 54, 3) := by decide +kernel
theorem dX5_want_25 : decode cX5_want 25 = .ok (.ireturn, 1) := by decide +kernel
theorem dX5_delete_0 : decode cX5_delete 0 = .ok (.iload_n 1, 1) := by decide +kernel
theorem dX5_delete_1 : decode cX5_delete 1 = .ok (.iload_n 2, 1) := by decide +kernel
theorem dX5_delete_2 : decode cX5_delete 2 = .ok (.invokestatic 50, 3) := by decide +kernel
theorem dX5_delete_5 : decode cX5_delete 5 = .ok (.aload_n 0, 1) := by decide +kernel
theorem dX5_delete_6 : decode cX5_delete 6 = .ok (.getfield 10, 3) := by decide +kernel
theorem dX5_delete_9 : decode cX5_delete 9 = .ok (.iload_n 1, 1) := by decide +kernel
theorem dX5_delete_10 : decode cX5_delete 10 = .ok (.iload_n 2, 1) := by decide +kernel
theorem dX5_delete_11 : decode cX5_delete 11 = .ok (.invokevirtual 58, 3) := by decide +kernel
theorem dX5_delete_14 : decode cX5_delete 14 = .ok (.ifCond .ne 13, 3) := by decide +kernel
theorem dX5_delete_17 : decode cX5_delete 17 = .ok (.new 62, 3) := by decide +kernel
theorem dX5_delete_20 : decode cX5_delete 20 = .ok (.dup, 1) := by decide +kernel
theorem dX5_delete_21 : decode cX5_delete 21 = .ok (.ldc 64, 2) := by decide +kernel
theorem dX5_delete_23 : decode cX5_delete 23 = .ok (.invokespecial 66, 3) := by decide +kernel
theorem dX5_delete_26 : decode cX5_delete 26 = .ok (.athrow, 1) := by decide +kernel
theorem dX5_delete_27 : decode cX5_delete 27 = .ok (.aload_n 0, 1) := by decide +kernel
theorem dX5_delete_28 : decode cX5_delete 28 = .ok (.getfield 19, 3) := by decide +kernel
theorem dX5_delete_31 : decode cX5_delete 31 = .ok (.aload_n 0, 1) := by decide +kernel
theorem dX5_delete_32 : decode cX5_delete 32 = .ok (.getfield 10, 3) := by decide +kernel
theorem dX5_delete_35 : decode cX5_delete 35 = .ok (.invokevirtual 42, 3) := by decide +kernel
theorem dX5_delete_38 : decode cX5_delete 38 = .ok (.aload_n 0, 1) := by decide +kernel
theorem dX5_delete_39 : decode cX5_delete 39 = .ok (.getfield 10, 3) := by decide +kernel
theorem dX5_delete_42 : decode cX5_delete 42 = .ok (.iload_n 1, 1) := by decide +kernel
theorem dX5_delete_43 : decode cX5_delete 43 = .ok (.iload_n 2, 1) := by decide +kernel
theorem dX5_delete_44 : decode cX5_delete 44 = .ok (.invokevirtual 69, 3) := by decide +kernel
theorem dX5_delete_47 : decode cX5_delete 47 = .ok (.ireturn, 1) := by decide +kernel
theorem dX5_bringBack_0 : decode cX5_bringBack 0 = .ok (.iload_n 1, 1) := by decide +kernel
theorem dX5_bringBack_1 : decode cX5_bringBack 1 = .ok (.iload_n 2, 1) := by decide +kernel
theorem dX5_bringBack_2 : decode cX5_bringBack 2 = .ok (.invokestatic 50, 3) := by decide +kernel
theorem dX5_bringBack_5 : decode cX5_bringBack 5 = .ok (.aload_n 0, 1) := by decide +kernel
theorem dX5_bringBack_6 : decode cX5_bringBack 6 = .ok (.getfield 10, 3) := by decide +kernel
theorem dX5_bringBack_9 : decode cX5_bringBack 9 = .ok (.iload_n 1, 1) := by decide +kernel
theorem dX5_bringBack_10 : decode cX5_bringBack 10 = .ok (.iload_n 2, 1) := by decide +kernel
theorem dX5_bringBack_11 : decode cX5_bringBack 11 = .ok (.invokevirtual 72, 3) := by decide +kernel
theorem dX5_bringBack_14 : decode cX5_bringBack 14 = .ok (.ifCond .ne 13, 3) := by decide +kernel
theorem dX5_bringBack_17 : decode cX5_bringBack 17 = .ok (.new 62, 3) := by decide +kernel
theorem dX5_bringBack_20 : decode cX5_bringBack 20 = .ok (.dup, 1) := by decide +kernel
theorem dX5_bringBack_21 : decode cX5_bringBack 21 = .ok (.ldc 75, 2) := by decide +kernel
theorem dX5_bringBack_23 : decode cX5_bringBack 23 = .ok (.invokespecial 66, 3) := by decide +kernel
theorem dX5_bringBack_26 : decode cX5_bringBack 26 = .ok (.athrow, 1) := by decide +kernel
theorem dX5_bringBack_27 : decode cX5_bringBack 27 = .ok (.aload_n 0, 1) := by decide +kernel
theorem dX5_bringBack_28 : decode cX5_bringBack 28 = .ok (.getfield 19, 3) := by decide +kernel
theorem dX5_bringBack_31 : decode cX5_bringBack 31 = .ok (.aload_n 0, 1) := by decide +kernel
theorem dX5_bringBack_32 : decode cX5_bringBack 32 = .ok (.getfield 10, 3) := by decide +kernel
theorem dX5_bringBack_35 : decode cX5_bringBack 35 = .ok (.invokevirtual 42, 3) := by decide +kernel
theorem dX5_bringBack_38 : decode cX5_bringBack 38 = .ok (.aload_n 0, 1) := by decide +kernel
theorem dX5_bringBack_39 : decode cX5_bringBack 39 = .ok (.getfield 10, 3) := by decide +kernel
theorem dX5_bringBack_42 : decode cX5_bringBack 42 = .ok (.iload_n 1, 1) := by decide +kernel
theorem dX5_bringBack_43 : decode cX5_bringBack 43 = .ok (.iload_n 2, 1) := by decide +kernel
theorem dX5_bringBack_44 : decode cX5_bringBack 44 = .ok (.invokevirtual 77, 3) := by decide +kernel
theorem dX5_bringBack_47 : decode cX5_bringBack 47 = .ok (.ireturn, 1) := by decide +kernel
theorem dX5_turn_0 : decode cX5_turn 0 = .ok (.iload_n 1, 1) := by decide +kernel
theorem dX5_turn_1 : decode cX5_turn 1 = .ok (.invokestatic 38, 3) := by decide +kernel
theorem dX5_turn_4 : decode cX5_turn 4 = .ok (.aload_n 0, 1) := by decide +kernel
theorem dX5_turn_5 : decode cX5_turn 5 = .ok (.getfield 19, 3) := by decide +kernel
theorem dX5_turn_8 : decode cX5_turn 8 = .ok (.aload_n 0, 1) := by decide +kernel
theorem dX5_turn_9 : decode cX5_turn 9 = .ok (.getfield 10, 3) := by decide +kernel
theorem dX5_turn_12 : decode cX5_turn 12 = .ok (.invokevirtual 42, 3) := by decide +kernel
theorem dX5_turn_15 : decode cX5_turn 15 = .ok (.aload_n 0, 1) := by decide +kernel
theorem dX5_turn_16 : decode cX5_turn 16 = .ok (.getfield 10, 3) := by decide +kernel
theorem dX5_turn_19 : decode cX5_turn 19 = .ok (.getfield 80, 3) := by decide +kernel
theorem dX5_turn_22 : decode cX5_turn 22 = .ok (.iload_n 1, 1) := by decide +kernel
theorem dX5_turn_23 : decode cX5_turn 23 = .ok (.invokevirtual 84, 3) := by decide +kernel
theorem dX5_turn_26 : decode cX5_turn 26 = .ok (.aload_n 0, 1) := by decide +kernel
theorem dX5_turn_27 : decode cX5_turn 27 = .ok (.getfield 10, 3) := by decide +kernel
theorem dX5_turn_30 : decode cX5_turn 30 = .ok (.getfield 80, 3) := by decide +kernel
theorem dX5_turn_33 : decode cX5_turn 33 = .ok (.iload_n 1, 1) := by decide +kernel
theorem dX5_turn_34 : decode cX5_turn 34 = .ok (.iconst 0, 1) := by decide +kernel
theorem dX5_turn_35 : decode cX5_turn 35 = .ok (.invokevirtual 89, 3) := by decide +kernel
theorem dX5_turn_38 : decode cX5_turn 38 = .ok (.ireturn, 1) := by decide +kernel
theorem dX5_follow_0 : decode cX5_follow 0 = .ok (.iload_n 1, 1) := by decide +kernel
theorem dX5_follow_1 : decode cX5_follow 1 = .ok (.iload_n 2, 1) := by decide +kernel
theorem dX5_follow_2 : decode cX5_follow 2 = .ok (.invokestatic 50, 3) := by decide +kernel
theorem dX5_follow_5 : decode cX5_follow 5 = .ok (.iload_n 3, 1) := by decide +kernel
theorem dX5_follow_6 : decode cX5_follow 6 = .ok (.iconst 1, 1) := by decide +kernel
theorem dX5_follow_7 : decode cX5_follow 7 = .ok (.invokestatic 92, 3) := by decide +kernel
theorem dX5_follow_10 : decode cX5_follow 10 = .ok (.aload_n 0, 1) := by decide +kernel
theorem dX5_follow_11 : decode cX5_follow 11 = .ok (.getfield 19, 3) := by decide +kernel
theorem dX5_follow_14 : decode cX5_follow 14 = .ok (.aload_n 0, 1) := by decide +kernel
theorem dX5_follow_15 : decode cX5_follow 15 = .ok (.getfield 10, 3) := by decide +kernel
theorem dX5_follow_18 : decode cX5_follow 18 = .ok (.invokevirtual 42, 3) := by decide +kernel
theorem dX5_follow_21 : decode cX5_follow 21 = .ok (.aload_n 0, 1) := by decide +kernel
theorem dX5_follow_22 : decode cX5_follow 22 = .ok (.getfield 10, 3) := by decide +kernel
theorem dX5_follow_25 : decode cX5_follow 25 = .ok (.iload_n 1, 1) := by decide +kernel
theorem dX5_follow_26 : decode cX5_follow 26 = .ok (.iload_n 2, 1) := by decide +kernel
theorem dX5_follow_27 : decode cX5_follow 27 = .ok (.iload_n 3, 1) := by decide +kernel
theorem dX5_follow_28 : decode cX5_follow 28 = .ok (.invokevirtual 95, 3) := by decide +kernel
theorem dX5_follow_31 : decode cX5_follow 31 = .ok (.ireturn, 1) := by decide +kernel
theorem dX5_pass_0 : decode cX5_pass 0 = .ok (.iload_n 1, 1) := by decide +kernel
theorem dX5_pass_1 : decode cX5_pass 1 = .ok (.iconst 1, 1) := by decide +kernel
theorem dX5_pass_2 : decode cX5_pass 2 = .ok (.bipush 99, 2) := by decide +kernel
theorem dX5_pass_4 : decode cX5_pass 4 = .ok (.invokestatic 99, 3) := by decide +kernel
theorem dX5_pass_7 : decode cX5_pass 7 = .ok (.aload_n 0, 1) := by decide +kernel
theorem dX5_pass_8 : decode cX5_pass 8 = .ok (.getfield 10, 3) := by decide +kernel
theorem dX5_pass_11 : decode cX5_pass 11 = .ok (.getfield 80, 3) := by decide +kernel
theorem dX5_pass_14 : decode cX5_pass 14 = .ok (.iload_n 1, 1) := by decide +kernel
theorem dX5_pass_15 : decode cX5_pass 15 = .ok (.invokevirtual 103, 3) := by decide +kernel
theorem dX5_pass_18 : decode cX5_pass 18 = .ok (.ifCond .ne 13, 3) := by decide +kernel
theorem dX5_pass_21 : decode cX5_pass 21 = .ok (.new 62, 3) := by decide +kernel
theorem dX5_pass_24 : decode cX5_pass 24 = .ok (.dup, 1) := by decide +kernel
theorem dX5_pass_25 : decode cX5_pass 25 = .ok (.ldc 107, 2) := by decide +kernel
theorem dX5_pass_27 : decode cX5_pass 27 = .ok (.invokespecial 66, 3) := by decide +kernel
theorem dX5_pass_30 : decode cX5_pass 30 = .ok (.athrow, 1) := by decide +kernel
theorem dX5_pass_31 : decode cX5_pass 31 = .ok (.aload_n 0, 1) := by decide +kernel
theorem dX5_pass_32 : decode cX5_pass 32 = .ok (.getfield 19, 3) := by decide +kernel
theorem dX5_pass_35 : decode cX5_pass 35 = .ok (.aload_n 0, 1) := by decide +kernel
theorem dX5_pass_36 : decode cX5_pass 36 = .ok (.getfield 10, 3) := by decide +kernel
theorem dX5_pass_39 : decode cX5_pass 39 = .ok (.invokevirtual 42, 3) := by decide +kernel
theorem dX5_pass_42 : decode cX5_pass 42 = .ok (.aload_n 0, 1) := by decide +kernel
theorem dX5_pass_43 : decode cX5_pass 43 = .ok (.getfield 10, 3) := by decide +kernel
theorem dX5_pass_46 : decode cX5_pass 46 = .ok (.getfield 80, 3) := by decide +kernel
theorem dX5_pass_49 : decode cX5_pass 49 = .ok (.iload_n 1, 1) := by decide +kernel
theorem dX5_pass_50 : decode cX5_pass 50 = .ok (.invokevirtual 109, 3) := by decide +kernel
theorem dX5_pass_53 : decode cX5_pass 53 = .ok (.aload_n 0, 1) := by decide +kernel
theorem dX5_pass_54 : decode cX5_pass 54 = .ok (.getfield 10, 3) := by decide +kernel
theorem dX5_pass_57 : decode cX5_pass 57 = .ok (.getfield 80, 3) := by decide +kernel
theorem dX5_pass_60 : decode cX5_pass 60 = .ok (.invokevirtual 112, 3) := by decide +kernel
theorem dX5_pass_63 : decode cX5_pass 63 = .ok (.ireturn, 1) := by decide +kernel
theorem dX5_season_0 : decode cX5_season 0 = .ok (.iload_n 1, 1) := by decide +kernel
theorem dX5_season_1 : decode cX5_season 1 = .ok (.invokestatic 38, 3) := by decide +kernel
theorem dX5_season_4 : decode cX5_season 4 = .ok (.iload_n 2, 1) := by decide +kernel
theorem dX5_season_5 : decode cX5_season 5 = .ok (.iconst 0, 1) := by decide +kernel
theorem dX5_season_6 : decode cX5_season 6 = .ok (.bipush 99, 2) := by decide +kernel
theorem dX5_season_8 : decode cX5_season 8 = .ok (.invokestatic 99, 3) := by decide +kernel
theorem dX5_season_11 : decode cX5_season 11 = .ok (.aload_n 0, 1) := by decide +kernel
theorem dX5_season_12 : decode cX5_season 12 = .ok (.getfield 19, 3) := by decide +kernel
theorem dX5_season_15 : decode cX5_season 15 = .ok (.aload_n 0, 1) := by decide +kernel
theorem dX5_season_16 : decode cX5_season 16 = .ok (.getfield 10, 3) := by decide +kernel
theorem dX5_season_19 : decode cX5_season 19 = .ok (.invokevirtual 42, 3) := by decide +kernel
theorem dX5_season_22 : decode cX5_season 22 = .ok (.aload_n 0, 1) := by decide +kernel
theorem dX5_season_23 : decode cX5_season 23 = .ok (.getfield 10, 3) := by decide +kernel
theorem dX5_season_26 : decode cX5_season 26 = .ok (.getfield 80, 3) := by decide +kernel
theorem dX5_season_29 : decode cX5_season 29 = .ok (.getfield 116, 3) := by decide +kernel
theorem dX5_season_32 : decode cX5_season 32 = .ok (.iload_n 1, 1) := by decide +kernel
theorem dX5_season_33 : decode cX5_season 33 = .ok (.iaload, 1) := by decide +kernel
theorem dX5_season_34 : decode cX5_season 34 = .ok (.istore_n 3, 1) := by decide +kernel
theorem dX5_season_35 : decode cX5_season 35 = .ok (.aload_n 0, 1) := by decide +kernel
theorem dX5_season_36 : decode cX5_season 36 = .ok (.getfield 10, 3) := by decide +kernel
theorem dX5_season_39 : decode cX5_season 39 = .ok (.getfield 80, 3) := by decide +kernel
theorem dX5_season_42 : decode cX5_season 42 = .ok (.getfield 116, 3) := by decide +kernel
theorem dX5_season_45 : decode cX5_season 45 = .ok (.iload_n 1, 1) := by decide +kernel
theorem dX5_season_46 : decode cX5_season 46 = .ok (.iload_n 2, 1) := by decide +kernel
theorem dX5_season_47 : decode cX5_season 47 = .ok (.iastore, 1) := by decide +kernel
theorem dX5_season_48 : decode cX5_season 48 = .ok (.iload_n 3, 1) := by decide +kernel
theorem dX5_season_49 : decode cX5_season 49 = .ok (.ireturn, 1) := by decide +kernel
theorem dX5_set_0 : decode cX5_set 0 = .ok (.iload_n 1, 1) := by decide +kernel
theorem dX5_set_1 : decode cX5_set 1 = .ok (.invokestatic 120, 3) := by decide +kernel
theorem dX5_set_4 : decode cX5_set 4 = .ok (.iload_n 2, 1) := by decide +kernel
theorem dX5_set_5 : decode cX5_set 5 = .ok (.getstatic 123, 3) := by decide +kernel
theorem dX5_set_8 : decode cX5_set 8 = .ok (.iload_n 1, 1) := by decide +kernel
theorem dX5_set_9 : decode cX5_set 9 = .ok (.iaload, 1) := by decide +kernel
theorem dX5_set_10 : decode cX5_set 10 = .ok (.getstatic 126, 3) := by decide +kernel
theorem dX5_set_13 : decode cX5_set 13 = .ok (.iload_n 1, 1) := by decide +kernel
theorem dX5_set_14 : decode cX5_set 14 = .ok (.iaload, 1) := by decide +kernel
theorem dX5_set_15 : decode cX5_set 15 = .ok (.invokestatic 99, 3) := by decide +kernel
theorem dX5_set_18 : decode cX5_set 18 = .ok (.aload_n 0, 1) := by decide +kernel
theorem dX5_set_19 : decode cX5_set 19 = .ok (.getfield 19, 3) := by decide +kernel
theorem dX5_set_22 : decode cX5_set 22 = .ok (.aload_n 0, 1) := by decide +kernel
theorem dX5_set_23 : decode cX5_set 23 = .ok (.getfield 10, 3) := by decide +kernel
theorem dX5_set_26 : decode cX5_set 26 = .ok (.invokevirtual 42, 3) := by decide +kernel
theorem dX5_set_29 : decode cX5_set 29 = .ok (.aload_n 0, 1) := by decide +kernel
theorem dX5_set_30 : decode cX5_set 30 = .ok (.getfield 10, 3) := by decide +kernel
theorem dX5_set_33 : decode cX5_set 33 = .ok (.getfield 129, 3) := by decide +kernel
theorem dX5_set_36 : decode cX5_set 36 = .ok (.iload_n 1, 1) := by decide +kernel
theorem dX5_set_37 : decode cX5_set 37 = .ok (.iaload, 1) := by decide +kernel
theorem dX5_set_38 : decode cX5_set 38 = .ok (.istore_n 3, 1) := by decide +kernel
theorem dX5_set_39 : decode cX5_set 39 = .ok (.aload_n 0, 1) := by decide +kernel
theorem dX5_set_40 : decode cX5_set 40 = .ok (.getfield 10, 3) := by decide +kernel
theorem dX5_set_43 : decode cX5_set 43 = .ok (.getfield 129, 3) := by decide +kernel
theorem dX5_set_46 : decode cX5_set 46 = .ok (.iload_n 1, 1) := by decide +kernel
theorem dX5_set_47 : decode cX5_set 47 = .ok (.iload_n 2, 1) := by decide +kernel
theorem dX5_set_48 : decode cX5_set 48 = .ok (.iastore, 1) := by decide +kernel
theorem dX5_set_49 : decode cX5_set 49 = .ok (.iload_n 3, 1) := by decide +kernel
theorem dX5_set_50 : decode cX5_set 50 = .ok (.ireturn, 1) := by decide +kernel
theorem dX5_append_0 : decode cX5_append 0 = .ok (.iload_n 1, 1) := by decide +kernel
theorem dX5_append_1 : decode cX5_append 1 = .ok (.bipush 33, 2) := by decide +kernel
theorem dX5_append_3 : decode cX5_append 3 = .ok (.bipush 126, 2) := by decide +kernel
theorem dX5_append_5 : decode cX5_append 5 = .ok (.invokestatic 99, 3) := by decide +kernel
theorem dX5_append_8 : decode cX5_append 8 = .ok (.aload_n 0, 1) := by decide +kernel
theorem dX5_append_9 : decode cX5_append 9 = .ok (.getfield 34, 3) := by decide +kernel
theorem dX5_append_12 : decode cX5_append 12 = .ok (.invokevirtual 132, 3) := by decide +kernel
theorem dX5_append_15 : decode cX5_append 15 = .ok (.ifCond .eq 13, 3) := by decide +kernel
theorem dX5_append_18 : decode cX5_append 18 = .ok (.new 62, 3) := by decide +kernel
theorem dX5_append_21 : decode cX5_append 21 = .ok (.dup, 1) := by decide +kernel
theorem dX5_append_22 : decode cX5_append 22 = .ok (.ldc 136, 2) := by decide +kernel
theorem dX5_append_24 : decode cX5_append 24 = .ok (.invokespecial 66, 3) := by decide +kernel
theorem dX5_append_27 : decode cX5_append 27 = .ok (.athrow, 1) := by decide +kernel
theorem dX5_append_28 : decode cX5_append 28 = .ok (.aload_n 0, 1) := by decide +kernel
theorem dX5_append_29 : decode cX5_append 29 = .ok (.getfield 34, 3) := by decide +kernel
theorem dX5_append_32 : decode cX5_append 32 = .ok (.iload_n 1, 1) := by decide +kernel
theorem dX5_append_33 : decode cX5_append 33 = .ok (.invokevirtual 138, 3) := by decide +kernel
theorem dX5_append_36 : decode cX5_append 36 = .ok (.aload_n 0, 1) := by decide +kernel
theorem dX5_append_37 : decode cX5_append 37 = .ok (.getfield 34, 3) := by decide +kernel
theorem dX5_append_40 : decode cX5_append 40 = .ok (.getfield 141, 3) := by decide +kernel
theorem dX5_append_43 : decode cX5_append 43 = .ok (.ireturn, 1) := by decide +kernel
theorem dX5_run_0 : decode cX5_run 0 = .ok (.aload_n 0, 1) := by decide +kernel
theorem dX5_run_1 : decode cX5_run 1 = .ok (.getfield 34, 3) := by decide +kernel
theorem dX5_run_4 : decode cX5_run 4 = .ok (.invokevirtual 148, 3) := by decide +kernel
theorem dX5_run_7 : decode cX5_run 7 = .ok (.ifCond .ne 13, 3) := by decide +kernel
theorem dX5_run_10 : decode cX5_run 10 = .ok (.new 151, 3) := by decide +kernel
theorem dX5_run_13 : decode cX5_run 13 = .ok (.dup, 1) := by decide +kernel
theorem dX5_run_14 : decode cX5_run 14 = .ok (.ldc 153, 2) := by decide +kernel
theorem dX5_run_16 : decode cX5_run 16 = .ok (.invokespecial 155, 3) := by decide +kernel
theorem dX5_run_19 : decode cX5_run 19 = .ok (.athrow, 1) := by decide +kernel
theorem dX5_run_20 : decode cX5_run 20 = .ok (.aload_n 0, 1) := by decide +kernel
theorem dX5_run_21 : decode cX5_run 21 = .ok (.getfield 19, 3) := by decide +kernel
theorem dX5_run_24 : decode cX5_run 24 = .ok (.aload_n 0, 1) := by decide +kernel
theorem dX5_run_25 : decode cX5_run 25 = .ok (.getfield 10, 3) := by decide +kernel
theorem dX5_run_28 : decode cX5_run 28 = .ok (.invokevirtual 42, 3) := by decide +kernel
theorem dX5_run_31 : decode cX5_run 31 = .ok (.iconst 0, 1) := by decide +kernel
theorem dX5_run_32 : decode cX5_run 32 = .ok (.istore_n 1, 1) := by decide +kernel
theorem dX5_run_33 : decode cX5_run 33 = .ok (.iconst 0, 1) := by decide +kernel
theorem dX5_run_34 : decode cX5_run 34 = .ok (.istore_n 2, 1) := by decide +kernel
theorem dX5_run_35 : decode cX5_run 35 = .ok (.iload_n 2, 1) := by decide +kernel
theorem dX5_run_36 : decode cX5_run 36 = .ok (.aload_n 0, 1) := by decide +kernel
theorem dX5_run_37 : decode cX5_run 37 = .ok (.getfield 34, 3) := by decide +kernel
theorem dX5_run_40 : decode cX5_run 40 = .ok (.getfield 141, 3) := by decide +kernel
theorem dX5_run_43 : decode cX5_run 43 = .ok (.if_icmp .ge 37, 3) := by decide +kernel
theorem dX5_run_46 : decode cX5_run 46 = .ok (.aload_n 0, 1) := by decide +kernel
theorem dX5_run_47 : decode cX5_run 47 = .ok (.getfield 34, 3) := by decide +kernel
theorem dX5_run_50 : decode cX5_run 50 = .ok (.iload_n 2, 1) := by decide +kernel
theorem dX5_run_51 : decode cX5_run 51 = .ok (.invokevirtual 156, 3) := by decide +kernel
theorem dX5_run_54 : decode cX5_run 54 = .ok (.ifCond .ne 6, 3) := by decide +kernel
theorem dX5_run_57 : decode cX5_run 57 = .ok (.goto 17, 3) := by decide +kernel
theorem dX5_run_60 : decode cX5_run 60 = .ok (.aload_n 0, 1) := by decide +kernel
theorem dX5_run_61 : decode cX5_run 61 = .ok (.iload_n 2, 1) := by decide +kernel
theorem dX5_run_62 : decode cX5_run 62 = .ok (.invokevirtual 159, 3) := by decide +kernel
theorem dX5_run_65 : decode cX5_run 65 = .ok (.ifCond .ne 6, 3) := by decide +kernel
theorem dX5_run_68 : decode cX5_run 68 = .ok (.goto 12, 3) := by decide +kernel
theorem dX5_run_71 : decode cX5_run 71 = .ok (.iinc 1 1, 3) := by decide +kernel
theorem dX5_run_74 : decode cX5_run 74 = .ok (.iinc 2 1, 3) := by decide +kernel
theorem dX5_run_77 : decode cX5_run 77 = .ok (.goto (-42), 3) := by decide +kernel
theorem dX5_run_80 : decode cX5_run 80 = .ok (.aload_n 0, 1) := by decide +kernel
theorem dX5_run_81 : decode cX5_run 81 = .ok (.getfield 34, 3) := by decide +kernel
theorem dX5_run_84 : decode cX5_run 84 = .ok (.iconst 0, 1) := by decide +kernel
theorem dX5_run_85 : decode cX5_run 85 = .ok (.putfield 141, 3) := by decide +kernel
theorem dX5_run_88 : decode cX5_run 88 = .ok (.iload_n 1, 1) := by decide +kernel
theorem dX5_run_89 : decode cX5_run 89 = .ok (.ireturn, 1) := by decide +kernel
theorem dX5_keep_0 : decode cX5_keep 0 = .ok (.iload_n 1, 1) := by decide +kernel
theorem dX5_keep_1 : decode cX5_keep 1 = .ok (.iconst 0, 1) := by decide +kernel
theorem dX5_keep_2 : decode cX5_keep 2 = .ok (.iconst 1, 1) := by decide +kernel
theorem dX5_keep_3 : decode cX5_keep 3 = .ok (.invokestatic 99, 3) := by decide +kernel
theorem dX5_keep_6 : decode cX5_keep 6 = .ok (.aload_n 0, 1) := by decide +kernel
theorem dX5_keep_7 : decode cX5_keep 7 = .ok (.getfield 10, 3) := by decide +kernel
theorem dX5_keep_10 : decode cX5_keep 10 = .ok (.aload_n 0, 1) := by decide +kernel
theorem dX5_keep_11 : decode cX5_keep 11 = .ok (.getfield 23, 3) := by decide +kernel
theorem dX5_keep_14 : decode cX5_keep 14 = .ok (.iload_n 1, 1) := by decide +kernel
theorem dX5_keep_15 : decode cX5_keep 15 = .ok (.aaload, 1) := by decide +kernel
theorem dX5_keep_16 : decode cX5_keep 16 = .ok (.invokestatic 162, 3) := by decide +kernel
theorem dX5_keep_19 : decode cX5_keep 19 = .ok (.aload_n 0, 1) := by decide +kernel
theorem dX5_keep_20 : decode cX5_keep 20 = .ok (.getfield 27, 3) := by decide +kernel
theorem dX5_keep_23 : decode cX5_keep 23 = .ok (.iload_n 1, 1) := by decide +kernel
theorem dX5_keep_24 : decode cX5_keep 24 = .ok (.iconst 1, 1) := by decide +kernel
theorem dX5_keep_25 : decode cX5_keep 25 = .ok (.bastore, 1) := by decide +kernel
theorem dX5_keep_26 : decode cX5_keep 26 = .ok (.aload_n 0, 1) := by decide +kernel
theorem dX5_keep_27 : decode cX5_keep 27 = .ok (.getfield 10, 3) := by decide +kernel
theorem dX5_keep_30 : decode cX5_keep 30 = .ok (.getfield 80, 3) := by decide +kernel
theorem dX5_keep_33 : decode cX5_keep 33 = .ok (.getfield 166, 3) := by decide +kernel
theorem dX5_keep_36 : decode cX5_keep 36 = .ok (.ireturn, 1) := by decide +kernel
theorem dX5_goBack_0 : decode cX5_goBack 0 = .ok (.iload_n 1, 1) := by decide +kernel
theorem dX5_goBack_1 : decode cX5_goBack 1 = .ok (.iconst 0, 1) := by decide +kernel
theorem dX5_goBack_2 : decode cX5_goBack 2 = .ok (.iconst 1, 1) := by decide +kernel
theorem dX5_goBack_3 : decode cX5_goBack 3 = .ok (.invokestatic 99, 3) := by decide +kernel
theorem dX5_goBack_6 : decode cX5_goBack 6 = .ok (.aload_n 0, 1) := by decide +kernel
theorem dX5_goBack_7 : decode cX5_goBack 7 = .ok (.getfield 27, 3) := by decide +kernel
theorem dX5_goBack_10 : decode cX5_goBack 10 = .ok (.iload_n 1, 1) := by decide +kernel
theorem dX5_goBack_11 : decode cX5_goBack 11 = .ok (.baload, 1) := by decide +kernel
theorem dX5_goBack_12 : decode cX5_goBack 12 = .ok (.ifCond .ne 13, 3) := by decide +kernel
theorem dX5_goBack_15 : decode cX5_goBack 15 = .ok (.new 62, 3) := by decide +kernel
theorem dX5_goBack_18 : decode cX5_goBack 18 = .ok (.dup, 1) := by decide +kernel
theorem dX5_goBack_19 : decode cX5_goBack 19 = .ok (.ldc 169, 2) := by decide +kernel
theorem dX5_goBack_21 : decode cX5_goBack 21 = .ok (.invokespecial 66, 3) := by decide +kernel
theorem dX5_goBack_24 : decode cX5_goBack 24 = .ok (.athrow, 1) := by decide +kernel
theorem dX5_goBack_25 : decode cX5_goBack 25 = .ok (.aload_n 0, 1) := by decide +kernel
theorem dX5_goBack_26 : decode cX5_goBack 26 = .ok (.getfield 19, 3) := by decide +kernel
theorem dX5_goBack_29 : decode cX5_goBack 29 = .ok (.aload_n 0, 1) := by decide +kernel
theorem dX5_goBack_30 : decode cX5_goBack 30 = .ok (.getfield 10, 3) := by decide +kernel
theorem dX5_goBack_33 : decode cX5_goBack 33 = .ok (.invokevirtual 42, 3) := by decide +kernel
theorem dX5_goBack_36 : decode cX5_goBack 36 = .ok (.aload_n 0, 1) := by decide +kernel
theorem dX5_goBack_37 : decode cX5_goBack 37 = .ok (.getfield 23, 3) := by decide +kernel
theorem dX5_goBack_40 : decode cX5_goBack 40 = .ok (.iload_n 1, 1) := by decide +kernel
theorem dX5_goBack_41 : decode cX5_goBack 41 = .ok (.aaload, 1) := by decide +kernel
theorem dX5_goBack_42 : decode cX5_goBack 42 = .ok (.aload_n 0, 1) := by decide +kernel
theorem dX5_goBack_43 : decode cX5_goBack 43 = .ok (.getfield 10, 3) := by decide +kernel
theorem dX5_goBack_46 : decode cX5_goBack 46 = .ok (.invokestatic 162, 3) := by decide +kernel
theorem dX5_goBack_49 : decode cX5_goBack 49 = .ok (.aload_n 0, 1) := by decide +kernel
theorem dX5_goBack_50 : decode cX5_goBack 50 = .ok (.getfield 10, 3) := by decide +kernel
theorem dX5_goBack_53 : decode cX5_goBack 53 = .ok (.getfield 80, 3) := by decide +kernel
theorem dX5_goBack_56 : decode cX5_goBack 56 = .ok (.getfield 166, 3) := by decide +kernel
theorem dX5_goBack_59 : decode cX5_goBack 59 = .ok (.ireturn, 1) := by decide +kernel
theorem dX5_undo_0 : decode cX5_undo 0 = .ok (.aload_n 0, 1) := by decide +kernel
theorem dX5_undo_1 : decode cX5_undo 1 = .ok (.getfield 19, 3) := by decide +kernel
theorem dX5_undo_4 : decode cX5_undo 4 = .ok (.getfield 171, 3) := by decide +kernel
theorem dX5_undo_7 : decode cX5_undo 7 = .ok (.ifCond .ne 13, 3) := by decide +kernel
theorem dX5_undo_10 : decode cX5_undo 10 = .ok (.new 62, 3) := by decide +kernel
theorem dX5_undo_13 : decode cX5_undo 13 = .ok (.dup, 1) := by decide +kernel
theorem dX5_undo_14 : decode cX5_undo 14 = .ok (.ldc 174, 2) := by decide +kernel
theorem dX5_undo_16 : decode cX5_undo 16 = .ok (.invokespecial 66, 3) := by decide +kernel
theorem dX5_undo_19 : decode cX5_undo 19 = .ok (.athrow, 1) := by decide +kernel
theorem dX5_undo_20 : decode cX5_undo 20 = .ok (.aload_n 0, 1) := by decide +kernel
theorem dX5_undo_21 : decode cX5_undo 21 = .ok (.getfield 19, 3) := by decide +kernel
theorem dX5_undo_24 : decode cX5_undo 24 = .ok (.aload_n 0, 1) := by decide +kernel
theorem dX5_undo_25 : decode cX5_undo 25 = .ok (.getfield 10, 3) := by decide +kernel
theorem dX5_undo_28 : decode cX5_undo 28 = .ok (.invokevirtual 176, 3) := by decide +kernel
theorem dX5_undo_31 : decode cX5_undo 31 = .ok (.aload_n 0, 1) := by decide +kernel
theorem dX5_undo_32 : decode cX5_undo 32 = .ok (.getfield 19, 3) := by decide +kernel
theorem dX5_undo_35 : decode cX5_undo 35 = .ok (.getfield 171, 3) := by decide +kernel
theorem dX5_undo_38 : decode cX5_undo 38 = .ok (.ireturn, 1) := by decide +kernel
theorem dX5_keyOf_0 : decode cX5_keyOf 0 = .ok (.iload_n 1, 1) := by decide +kernel
theorem dX5_keyOf_1 : decode cX5_keyOf 1 = .ok (.iload_n 2, 1) := by decide +kernel
theorem dX5_keyOf_2 : decode cX5_keyOf 2 = .ok (.invokestatic 50, 3) := by decide +kernel
theorem dX5_keyOf_5 : decode cX5_keyOf 5 = .ok (.iload_n 3, 1) := by decide +kernel
theorem dX5_keyOf_6 : decode cX5_keyOf 6 = .ok (.iconst 0, 1) := by decide +kernel
theorem dX5_keyOf_7 : decode cX5_keyOf 7 = .ok (.iconst 4, 1) := by decide +kernel
theorem dX5_keyOf_8 : decode cX5_keyOf 8 = .ok (.invokestatic 99, 3) := by decide +kernel
theorem dX5_keyOf_11 : decode cX5_keyOf 11 = .ok (.aload_n 0, 1) := by decide +kernel
theorem dX5_keyOf_12 : decode cX5_keyOf 12 = .ok (.getfield 10, 3) := by decide +kernel
theorem dX5_keyOf_15 : decode cX5_keyOf 15 = .ok (.getfield 80, 3) := by decide +kernel
theorem dX5_keyOf_18 : decode cX5_keyOf 18 = .ok (.iload_n 1, 1) := by decide +kernel
theorem dX5_keyOf_19 : decode cX5_keyOf 19 = .ok (.iload_n 2, 1) := by decide +kernel
theorem dX5_keyOf_20 : decode cX5_keyOf 20 = .ok (.iload_n 3, 1) := by decide +kernel
theorem dX5_keyOf_21 : decode cX5_keyOf 21 = .ok (.invokevirtual 179, 3) := by decide +kernel
theorem dX5_keyOf_24 : decode cX5_keyOf 24 = .ok (.ireturn, 1) := by decide +kernel
theorem dX5_kindOf_0 : decode cX5_kindOf 0 = .ok (.iload_n 1, 1) := by decide +kernel
theorem dX5_kindOf_1 : decode cX5_kindOf 1 = .ok (.invokestatic 38, 3) := by decide +kernel
theorem dX5_kindOf_4 : decode cX5_kindOf 4 = .ok (.iload_n 2, 1) := by decide +kernel
theorem dX5_kindOf_5 : decode cX5_kindOf 5 = .ok (.iconst 0, 1) := by decide +kernel
theorem dX5_kindOf_6 : decode cX5_kindOf 6 = .ok (.bipush 10, 2) := by decide +kernel
theorem dX5_kindOf_8 : decode cX5_kindOf 8 = .ok (.invokestatic 99, 3) := by decide +kernel
theorem dX5_kindOf_11 : decode cX5_kindOf 11 = .ok (.aload_n 0, 1) := by decide +kernel
theorem dX5_kindOf_12 : decode cX5_kindOf 12 = .ok (.getfield 10, 3) := by decide +kernel
theorem dX5_kindOf_15 : decode cX5_kindOf 15 = .ok (.iload_n 1, 1) := by decide +kernel
theorem dX5_kindOf_16 : decode cX5_kindOf 16 = .ok (.iload_n 2, 1) := by decide +kernel
theorem dX5_kindOf_17 : decode cX5_kindOf 17 = .ok (.invokevirtual 182, 3) := by decide +kernel
theorem dX5_kindOf_20 : decode cX5_kindOf 20 = .ok (.ireturn, 1) := by decide +kernel
theorem dX5_pile_0 : decode cX5_pile 0 = .ok (.iload_n 1, 1) := by decide +kernel
theorem dX5_pile_1 : decode cX5_pile 1 = .ok (.invokestatic 38, 3) := by decide +kernel
theorem dX5_pile_4 : decode cX5_pile 4 = .ok (.iload_n 2, 1) := by decide +kernel
theorem dX5_pile_5 : decode cX5_pile 5 = .ok (.iconst 0, 1) := by decide +kernel
theorem dX5_pile_6 : decode cX5_pile 6 = .ok (.invokestatic 92, 3) := by decide +kernel
theorem dX5_pile_9 : decode cX5_pile 9 = .ok (.aload_n 0, 1) := by decide +kernel
theorem dX5_pile_10 : decode cX5_pile 10 = .ok (.getfield 10, 3) := by decide +kernel
theorem dX5_pile_13 : decode cX5_pile 13 = .ok (.getfield 80, 3) := by decide +kernel
theorem dX5_pile_16 : decode cX5_pile 16 = .ok (.iload_n 1, 1) := by decide +kernel
theorem dX5_pile_17 : decode cX5_pile 17 = .ok (.iload_n 2, 1) := by decide +kernel
theorem dX5_pile_18 : decode cX5_pile 18 = .ok (.invokevirtual 89, 3) := by decide +kernel
theorem dX5_pile_21 : decode cX5_pile 21 = .ok (.ireturn, 1) := by decide +kernel
theorem dX5_count_0 : decode cX5_count 0 = .ok (.iload_n 1, 1) := by decide +kernel
theorem dX5_count_1 : decode cX5_count 1 = .ok (.iconst 0, 1) := by decide +kernel
theorem dX5_count_2 : decode cX5_count 2 = .ok (.bipush 9, 2) := by decide +kernel
theorem dX5_count_4 : decode cX5_count 4 = .ok (.invokestatic 99, 3) := by decide +kernel
theorem dX5_count_7 : decode cX5_count 7 = .ok (.aload_n 0, 1) := by decide +kernel
theorem dX5_count_8 : decode cX5_count 8 = .ok (.iload_n 1, 1) := by decide +kernel
theorem dX5_count_9 : decode cX5_count 9 = .ok (.invokevirtual 185, 3) := by decide +kernel
theorem dX5_count_12 : decode cX5_count 12 = .ok (.ireturn, 1) := by decide +kernel
theorem dX5_setting_0 : decode cX5_setting 0 = .ok (.iload_n 1, 1) := by decide +kernel
theorem dX5_setting_1 : decode cX5_setting 1 = .ok (.invokestatic 120, 3) := by decide +kernel
theorem dX5_setting_4 : decode cX5_setting 4 = .ok (.aload_n 0, 1) := by decide +kernel
theorem dX5_setting_5 : decode cX5_setting 5 = .ok (.getfield 10, 3) := by decide +kernel
theorem dX5_setting_8 : decode cX5_setting 8 = .ok (.getfield 129, 3) := by decide +kernel
theorem dX5_setting_11 : decode cX5_setting 11 = .ok (.iload_n 1, 1) := by decide +kernel
theorem dX5_setting_12 : decode cX5_setting 12 = .ok (.iaload, 1) := by decide +kernel
theorem dX5_setting_13 : decode cX5_setting 13 = .ok (.ireturn, 1) := by decide +kernel
theorem dX5_ifAsked_0 : decode cX5_ifAsked 0 = .ok (.iload_n 1, 1) := by decide +kernel
theorem dX5_ifAsked_1 : decode cX5_ifAsked 1 = .ok (.invokestatic 38, 3) := by decide +kernel
theorem dX5_ifAsked_4 : decode cX5_ifAsked 4 = .ok (.aload_n 0, 1) := by decide +kernel
theorem dX5_ifAsked_5 : decode cX5_ifAsked 5 = .ok (.getfield 10, 3) := by decide +kernel
theorem dX5_ifAsked_8 : decode cX5_ifAsked 8 = .ok (.iload_n 1, 1) := by decide +kernel
theorem dX5_ifAsked_9 : decode cX5_ifAsked 9 = .ok (.invokevirtual 188, 3) := by decide +kernel
theorem dX5_ifAsked_12 : decode cX5_ifAsked 12 = .ok (.ireturn, 1) := by decide +kernel
theorem dX5_keyIn_0 : decode cX5_keyIn 0 = .ok (.iload_n 1, 1) := by decide +kernel
theorem dX5_keyIn_1 : decode cX5_keyIn 1 = .ok (.invokestatic 38, 3) := by decide +kernel
theorem dX5_keyIn_4 : decode cX5_keyIn 4 = .ok (.aload_n 0, 1) := by decide +kernel
theorem dX5_keyIn_5 : decode cX5_keyIn 5 = .ok (.getfield 10, 3) := by decide +kernel
theorem dX5_keyIn_8 : decode cX5_keyIn 8 = .ok (.getfield 80, 3) := by decide +kernel
theorem dX5_keyIn_11 : decode cX5_keyIn 11 = .ok (.iload_n 1, 1) := by decide +kernel
theorem dX5_keyIn_12 : decode cX5_keyIn 12 = .ok (.invokevirtual 191, 3) := by decide +kernel
theorem dX5_keyIn_15 : decode cX5_keyIn 15 = .ok (.ireturn, 1) := by decide +kernel
theorem dX5_coming_0 : decode cX5_coming 0 = .ok (.iload_n 1, 1) := by decide +kernel
theorem dX5_coming_1 : decode cX5_coming 1 = .ok (.invokestatic 38, 3) := by decide +kernel
theorem dX5_coming_4 : decode cX5_coming 4 = .ok (.iload_n 2, 1) := by decide +kernel
theorem dX5_coming_5 : decode cX5_coming 5 = .ok (.iconst 1, 1) := by decide +kernel
theorem dX5_coming_6 : decode cX5_coming 6 = .ok (.bipush 16, 2) := by decide +kernel
theorem dX5_coming_8 : decode cX5_coming 8 = .ok (.invokestatic 99, 3) := by decide +kernel
theorem dX5_coming_11 : decode cX5_coming 11 = .ok (.aload_n 0, 1) := by decide +kernel
theorem dX5_coming_12 : decode cX5_coming 12 = .ok (.getfield 10, 3) := by decide +kernel
theorem dX5_coming_15 : decode cX5_coming 15 = .ok (.iload_n 1, 1) := by decide +kernel
theorem dX5_coming_16 : decode cX5_coming 16 = .ok (.iload_n 2, 1) := by decide +kernel
theorem dX5_coming_17 : decode cX5_coming 17 = .ok (.invokevirtual 194, 3) := by decide +kernel
theorem dX5_coming_20 : decode cX5_coming 20 = .ok (.ireturn, 1) := by decide +kernel
theorem dX5_longest_0 : decode cX5_longest 0 = .ok (.iload_n 1, 1) := by decide +kernel
theorem dX5_longest_1 : decode cX5_longest 1 = .ok (.invokestatic 38, 3) := by decide +kernel
theorem dX5_longest_4 : decode cX5_longest 4 = .ok (.aload_n 0, 1) := by decide +kernel
theorem dX5_longest_5 : decode cX5_longest 5 = .ok (.getfield 10, 3) := by decide +kernel
theorem dX5_longest_8 : decode cX5_longest 8 = .ok (.getfield 80, 3) := by decide +kernel
theorem dX5_longest_11 : decode cX5_longest 11 = .ok (.iload_n 1, 1) := by decide +kernel
theorem dX5_longest_12 : decode cX5_longest 12 = .ok (.invokevirtual 197, 3) := by decide +kernel
theorem dX5_longest_15 : decode cX5_longest 15 = .ok (.ireturn, 1) := by decide +kernel
theorem dX5_ifFollowed_0 : decode cX5_ifFollowed 0 = .ok (.iload_n 1, 1) := by decide +kernel
theorem dX5_ifFollowed_1 : decode cX5_ifFollowed 1 = .ok (.iload_n 2, 1) := by decide +kernel
theorem dX5_ifFollowed_2 : decode cX5_ifFollowed 2 = .ok (.invokestatic 50, 3) := by decide +kernel
theorem dX5_ifFollowed_5 : decode cX5_ifFollowed 5 = .ok (.iload_n 3, 1) := by decide +kernel
theorem dX5_ifFollowed_6 : decode cX5_ifFollowed 6 = .ok (.iconst 1, 1) := by decide +kernel
theorem dX5_ifFollowed_7 : decode cX5_ifFollowed 7 = .ok (.invokestatic 92, 3) := by decide +kernel
theorem dX5_ifFollowed_10 : decode cX5_ifFollowed 10 = .ok (.aload_n 0, 1) := by decide +kernel
theorem dX5_ifFollowed_11 : decode cX5_ifFollowed 11 = .ok (.getfield 10, 3) := by decide +kernel
theorem dX5_ifFollowed_14 : decode cX5_ifFollowed 14 = .ok (.getfield 80, 3) := by decide +kernel
theorem dX5_ifFollowed_17 : decode cX5_ifFollowed 17 = .ok (.iload_n 1, 1) := by decide +kernel
theorem dX5_ifFollowed_18 : decode cX5_ifFollowed 18 = .ok (.iload_n 2, 1) := by decide +kernel
theorem dX5_ifFollowed_19 : decode cX5_ifFollowed 19 = .ok (.iload_n 3, 1) := by decide +kernel
theorem dX5_ifFollowed_20 : decode cX5_ifFollowed 20 = .ok (.invokevirtual 200, 3) := by decide +kernel
theorem dX5_ifFollowed_23 : decode cX5_ifFollowed 23 = .ok (.ireturn, 1) := by decide +kernel
theorem dX5_scarcest_0 : decode cX5_scarcest 0 = .ok (.aload_n 0, 1) := by decide +kernel
theorem dX5_scarcest_1 : decode cX5_scarcest 1 = .ok (.getfield 10, 3) := by decide +kernel
theorem dX5_scarcest_4 : decode cX5_scarcest 4 = .ok (.getfield 80, 3) := by decide +kernel
theorem dX5_scarcest_7 : decode cX5_scarcest 7 = .ok (.invokevirtual 203, 3) := by decide +kernel
theorem dX5_scarcest_10 : decode cX5_scarcest 10 = .ok (.ireturn, 1) := by decide +kernel
theorem dX5_ripeShare_0 : decode cX5_ripeShare 0 = .ok (.aload_n 0, 1) := by decide +kernel
theorem dX5_ripeShare_1 : decode cX5_ripeShare 1 = .ok (.getfield 10, 3) := by decide +kernel
theorem dX5_ripeShare_4 : decode cX5_ripeShare 4 = .ok (.getfield 80, 3) := by decide +kernel
theorem dX5_ripeShare_7 : decode cX5_ripeShare 7 = .ok (.invokevirtual 206, 3) := by decide +kernel
theorem dX5_ripeShare_10 : decode cX5_ripeShare 10 = .ok (.dreturn, 1) := by decide +kernel
theorem dX5_isKind_0 : decode cX5_isKind 0 = .ok (.iload_n 0, 1) := by decide +kernel
theorem dX5_isKind_1 : decode cX5_isKind 1 = .ok (.ifCond .lt 12, 3) := by decide +kernel
theorem dX5_isKind_4 : decode cX5_isKind 4 = .ok (.iload_n 0, 1) := by decide +kernel
theorem dX5_isKind_5 : decode cX5_isKind 5 = .ok (.iconst 4, 1) := by decide +kernel
theorem dX5_isKind_6 : decode cX5_isKind 6 = .ok (.if_icmp .ge 7, 3) := by decide +kernel
theorem dX5_isKind_9 : decode cX5_isKind 9 = .ok (.iconst 1, 1) := by decide +kernel
theorem dX5_isKind_10 : decode cX5_isKind 10 = .ok (.goto 4, 3) := by decide +kernel
theorem dX5_isKind_13 : decode cX5_isKind 13 = .ok (.iconst 0, 1) := by decide +kernel
theorem dX5_isKind_14 : decode cX5_isKind 14 = .ok (.ireturn, 1) := by decide +kernel
theorem dX5_isKey_0 : decode cX5_isKey 0 = .ok (.iload_n 0, 1) := by decide +kernel
theorem dX5_isKey_1 : decode cX5_isKey 1 = .ok (.ifCond .lt 13, 3) := by decide +kernel
theorem dX5_isKey_4 : decode cX5_isKey 4 = .ok (.iload_n 0, 1) := by decide +kernel
theorem dX5_isKey_5 : decode cX5_isKey 5 = .ok (.bipush 16, 2) := by decide +kernel
theorem dX5_isKey_7 : decode cX5_isKey 7 = .ok (.if_icmp .ge 7, 3) := by decide +kernel
theorem dX5_isKey_10 : decode cX5_isKey 10 = .ok (.iconst 1, 1) := by decide +kernel
theorem dX5_isKey_11 : decode cX5_isKey 11 = .ok (.goto 4, 3) := by decide +kernel
theorem dX5_isKey_14 : decode cX5_isKey 14 = .ok (.iconst 0, 1) := by decide +kernel
theorem dX5_isKey_15 : decode cX5_isKey 15 = .ok (.ireturn, 1) := by decide +kernel
theorem dX5_needKind_0 : decode cX5_needKind 0 = .ok (.iload_n 0, 1) := by decide +kernel
theorem dX5_needKind_1 : decode cX5_needKind 1 = .ok (.invokestatic 231, 3) := by decide +kernel
theorem dX5_needKind_4 : decode cX5_needKind 4 = .ok (.ifCond .ne 13, 3) := by decide +kernel
theorem dX5_needKind_7 : decode cX5_needKind 7 = .ok (.new 234, 3) := by decide +kernel
theorem dX5_needKind_10 : decode cX5_needKind 10 = .ok (.dup, 1) := by decide +kernel
theorem dX5_needKind_11 : decode cX5_needKind 11 = .ok (.ldc 236, 2) := by decide +kernel
theorem dX5_needKind_13 : decode cX5_needKind 13 = .ok (.invokespecial 238, 3) := by decide +kernel
theorem dX5_needKind_16 : decode cX5_needKind 16 = .ok (.athrow, 1) := by decide +kernel
theorem dX5_needKind_17 : decode cX5_needKind 17 = .ok (.return_, 1) := by decide +kernel
theorem dX5_needKey_0 : decode cX5_needKey 0 = .ok (.iload_n 0, 1) := by decide +kernel
theorem dX5_needKey_1 : decode cX5_needKey 1 = .ok (.invokestatic 231, 3) := by decide +kernel
theorem dX5_needKey_4 : decode cX5_needKey 4 = .ok (.ifCond .eq 10, 3) := by decide +kernel
theorem dX5_needKey_7 : decode cX5_needKey 7 = .ok (.iload_n 1, 1) := by decide +kernel
theorem dX5_needKey_8 : decode cX5_needKey 8 = .ok (.invokestatic 239, 3) := by decide +kernel
theorem dX5_needKey_11 : decode cX5_needKey 11 = .ok (.ifCond .ne 13, 3) := by decide +kernel
theorem dX5_needKey_14 : decode cX5_needKey 14 = .ok (.new 234, 3) := by decide +kernel
theorem dX5_needKey_17 : decode cX5_needKey 17 = .ok (.dup, 1) := by decide +kernel
theorem dX5_needKey_18 : decode cX5_needKey 18 = .ok (.ldc 242, 2) := by decide +kernel
theorem dX5_needKey_20 : decode cX5_needKey 20 = .ok (.invokespecial 238, 3) := by decide +kernel
theorem dX5_needKey_23 : decode cX5_needKey 23 = .ok (.athrow, 1) := by decide +kernel
theorem dX5_needKey_24 : decode cX5_needKey 24 = .ok (.return_, 1) := by decide +kernel
theorem dX5_needSetting_0 : decode cX5_needSetting 0 = .ok (.iload_n 0, 1) := by decide +kernel
theorem dX5_needSetting_1 : decode cX5_needSetting 1 = .ok (.ifCond .lt 8, 3) := by decide +kernel
theorem dX5_needSetting_4 : decode cX5_needSetting 4 = .ok (.iload_n 0, 1) := by decide +kernel
theorem dX5_needSetting_5 : decode cX5_needSetting 5 = .ok (.iconst 3, 1) := by decide +kernel
theorem dX5_needSetting_6 : decode cX5_needSetting 6 = .ok (.if_icmp .lt 13, 3) := by decide +kernel
theorem dX5_needSetting_9 : decode cX5_needSetting 9 = .ok (.new 234, 3) := by decide +kernel
theorem dX5_needSetting_12 : decode cX5_needSetting 12 = .ok (.dup, 1) := by decide +kernel
theorem dX5_needSetting_13 : decode cX5_needSetting 13 = .ok (.ldc 244, 2) := by decide +kernel
theorem dX5_needSetting_15 : decode cX5_needSetting 15 = .ok (.invokespecial 238, 3) := by decide +kernel
theorem dX5_needSetting_18 : decode cX5_needSetting 18 = .ok (.athrow, 1) := by decide +kernel
theorem dX5_needSetting_19 : decode cX5_needSetting 19 = .ok (.return_, 1) := by decide +kernel
theorem dX5_needAtLeast_0 : decode cX5_needAtLeast 0 = .ok (.iload_n 0, 1) := by decide +kernel
theorem dX5_needAtLeast_1 : decode cX5_needAtLeast 1 = .ok (.iload_n 1, 1) := by decide +kernel
theorem dX5_needAtLeast_2 : decode cX5_needAtLeast 2 = .ok (.if_icmp .ge 13, 3) := by decide +kernel
theorem dX5_needAtLeast_5 : decode cX5_needAtLeast 5 = .ok (.new 151, 3) := by decide +kernel
theorem dX5_needAtLeast_8 : decode cX5_needAtLeast 8 = .ok (.dup, 1) := by decide +kernel
theorem dX5_needAtLeast_9 : decode cX5_needAtLeast 9 = .ok (.ldc 246, 2) := by decide +kernel
theorem dX5_needAtLeast_11 : decode cX5_needAtLeast 11 = .ok (.invokespecial 155, 3) := by decide +kernel
theorem dX5_needAtLeast_14 : decode cX5_needAtLeast 14 = .ok (.athrow, 1) := by decide +kernel
theorem dX5_needAtLeast_15 : decode cX5_needAtLeast 15 = .ok (.return_, 1) := by decide +kernel
theorem dX5_needRange_0 : decode cX5_needRange 0 = .ok (.iload_n 0, 1) := by decide +kernel
theorem dX5_needRange_1 : decode cX5_needRange 1 = .ok (.iload_n 1, 1) := by decide +kernel
theorem dX5_needRange_2 : decode cX5_needRange 2 = .ok (.if_icmp .lt 8, 3) := by decide +kernel
theorem dX5_needRange_5 : decode cX5_needRange 5 = .ok (.iload_n 0, 1) := by decide +kernel
theorem dX5_needRange_6 : decode cX5_needRange 6 = .ok (.iload_n 2, 1) := by decide +kernel
theorem dX5_needRange_7 : decode cX5_needRange 7 = .ok (.if_icmp .le 13, 3) := by decide +kernel
theorem dX5_needRange_10 : decode cX5_needRange 10 = .ok (.new 151, 3) := by decide +kernel
theorem dX5_needRange_13 : decode cX5_needRange 13 = .ok (.dup, 1) := by decide +kernel
theorem dX5_needRange_14 : decode cX5_needRange 14 = .ok (.ldc 248, 2) := by decide +kernel
theorem dX5_needRange_16 : decode cX5_needRange 16 = .ok (.invokespecial 155, 3) := by decide +kernel
theorem dX5_needRange_19 : decode cX5_needRange 19 = .ok (.athrow, 1) := by decide +kernel
theorem dX5_needRange_20 : decode cX5_needRange 20 = .ok (.return_, 1) := by decide +kernel
theorem dX5_doOrder_0 : decode cX5_doOrder 0 = .ok (.aload_n 0, 1) := by decide +kernel
theorem dX5_doOrder_1 : decode cX5_doOrder 1 = .ok (.getfield 34, 3) := by decide +kernel
theorem dX5_doOrder_4 : decode cX5_doOrder 4 = .ok (.iload_n 1, 1) := by decide +kernel
theorem dX5_doOrder_5 : decode cX5_doOrder 5 = .ok (.invokevirtual 228, 3) := by decide +kernel
theorem dX5_doOrder_8 : decode cX5_doOrder 8 = .ok (.istore_n 2, 1) := by decide +kernel
theorem dX5_doOrder_9 : decode cX5_doOrder 9 = .ok (.aload_n 0, 1) := by decide +kernel
theorem dX5_doOrder_10 : decode cX5_doOrder 10 = .ok (.getfield 34, 3) := by decide +kernel
theorem dX5_doOrder_13 : decode cX5_doOrder 13 = .ok (.iload_n 1, 1) := by decide +kernel
theorem dX5_doOrder_14 : decode cX5_doOrder 14 = .ok (.iconst 1, 1) := by decide +kernel
theorem dX5_doOrder_15 : decode cX5_doOrder 15 = .ok (.iadd, 1) := by decide +kernel
theorem dX5_doOrder_16 : decode cX5_doOrder 16 = .ok (.invokevirtual 250, 3) := by decide +kernel
theorem dX5_doOrder_19 : decode cX5_doOrder 19 = .ok (.istore_n 3, 1) := by decide +kernel
theorem dX5_doOrder_20 : decode cX5_doOrder 20 = .ok (.iload_n 2, 1) := by decide +kernel
theorem dX5_doOrder_21 : decode cX5_doOrder 21 = .ok (.lookupswitch 73 #[(97, 35), (112, 61), (116, 67)], 35) := by decide +kernel
theorem dX5_doOrder_56 : decode cX5_doOrder 56 = .ok (.iload_n 3, 1) := by decide +kernel
theorem dX5_doOrder_57 : decode cX5_doOrder 57 = .ok (.invokestatic 231, 3) := by decide +kernel
theorem dX5_doOrder_60 : decode cX5_doOrder 60 = .ok (.ifCond .eq 20, 3) := by decide +kernel
theorem dX5_doOrder_63 : decode cX5_doOrder 63 = .ok (.aload_n 0, 1) := by decide +kernel
theorem dX5_doOrder_64 : decode cX5_doOrder 64 = .ok (.getfield 10, 3) := by decide +kernel
theorem dX5_doOrder_67 : decode cX5_doOrder 67 = .ok (.iload_n 3, 1) := by decide +kernel
theorem dX5_doOrder_68 : decode cX5_doOrder 68 = .ok (.invokevirtual 46, 3) := by decide +kernel
theorem dX5_doOrder_71 : decode cX5_doOrder 71 = .ok (.bipush 100, 2) := by decide +kernel
theorem dX5_doOrder_73 : decode cX5_doOrder 73 = .ok (.if_icmp .ge 7, 3) := by decide +kernel
theorem dX5_doOrder_76 : decode cX5_doOrder 76 = .ok (.iconst 1, 1) := by decide +kernel
theorem dX5_doOrder_77 : decode cX5_doOrder 77 = .ok (.goto 4, 3) := by decide +kernel
theorem dX5_doOrder_80 : decode cX5_doOrder 80 = .ok (.iconst 0, 1) := by decide +kernel
theorem dX5_doOrder_81 : decode cX5_doOrder 81 = .ok (.ireturn, 1) := by decide +kernel
theorem dX5_doOrder_82 : decode cX5_doOrder 82 = .ok (.aload_n 0, 1) := by decide +kernel
theorem dX5_doOrder_83 : decode cX5_doOrder 83 = .ok (.iload_n 3, 1) := by decide +kernel
theorem dX5_doOrder_84 : decode cX5_doOrder 84 = .ok (.invokevirtual 253, 3) := by decide +kernel
theorem dX5_doOrder_87 : decode cX5_doOrder 87 = .ok (.ireturn, 1) := by decide +kernel
theorem dX5_doOrder_88 : decode cX5_doOrder 88 = .ok (.aload_n 0, 1) := by decide +kernel
theorem dX5_doOrder_89 : decode cX5_doOrder 89 = .ok (.iload_n 3, 1) := by decide +kernel
theorem dX5_doOrder_90 : decode cX5_doOrder 90 = .ok (.invokevirtual 256, 3) := by decide +kernel
theorem dX5_doOrder_93 : decode cX5_doOrder 93 = .ok (.ireturn, 1) := by decide +kernel
theorem dX5_doOrder_94 : decode cX5_doOrder 94 = .ok (.aload_n 0, 1) := by decide +kernel
theorem dX5_doOrder_95 : decode cX5_doOrder 95 = .ok (.iload_n 2, 1) := by decide +kernel
theorem dX5_doOrder_96 : decode cX5_doOrder 96 = .ok (.iload_n 3, 1) := by decide +kernel
theorem dX5_doOrder_97 : decode cX5_doOrder 97 = .ok (.aload_n 0, 1) := by decide +kernel
theorem dX5_doOrder_98 : decode cX5_doOrder 98 = .ok (.getfield 34, 3) := by decide +kernel
theorem dX5_doOrder_101 : decode cX5_doOrder 101 = .ok (.iload_n 1, 1) := by decide +kernel
theorem dX5_doOrder_102 : decode cX5_doOrder 102 = .ok (.iconst 3, 1) := by decide +kernel
theorem dX5_doOrder_103 : decode cX5_doOrder 103 = .ok (.iadd, 1) := by decide +kernel
theorem dX5_doOrder_104 : decode cX5_doOrder 104 = .ok (.invokevirtual 250, 3) := by decide +kernel
theorem dX5_doOrder_107 : decode cX5_doOrder 107 = .ok (.invokevirtual 259, 3) := by decide +kernel
theorem dX5_doOrder_110 : decode cX5_doOrder 110 = .ok (.ireturn, 1) := by decide +kernel
theorem dX5_turnIfKind_0 : decode cX5_turnIfKind 0 = .ok (.iload_n 1, 1) := by decide +kernel
theorem dX5_turnIfKind_1 : decode cX5_turnIfKind 1 = .ok (.invokestatic 231, 3) := by decide +kernel
theorem dX5_turnIfKind_4 : decode cX5_turnIfKind 4 = .ok (.ifCond .ne 5, 3) := by decide +kernel
theorem dX5_turnIfKind_7 : decode cX5_turnIfKind 7 = .ok (.iconst 0, 1) := by decide +kernel
theorem dX5_turnIfKind_8 : decode cX5_turnIfKind 8 = .ok (.ireturn, 1) := by decide +kernel
theorem dX5_turnIfKind_9 : decode cX5_turnIfKind 9 = .ok (.aload_n 0, 1) := by decide +kernel
theorem dX5_turnIfKind_10 : decode cX5_turnIfKind 10 = .ok (.getfield 10, 3) := by decide +kernel
theorem dX5_turnIfKind_13 : decode cX5_turnIfKind 13 = .ok (.getfield 80, 3) := by decide +kernel
theorem dX5_turnIfKind_16 : decode cX5_turnIfKind 16 = .ok (.iload_n 1, 1) := by decide +kernel
theorem dX5_turnIfKind_17 : decode cX5_turnIfKind 17 = .ok (.invokevirtual 84, 3) := by decide +kernel
theorem dX5_turnIfKind_20 : decode cX5_turnIfKind 20 = .ok (.iconst 1, 1) := by decide +kernel
theorem dX5_turnIfKind_21 : decode cX5_turnIfKind 21 = .ok (.ireturn, 1) := by decide +kernel
theorem dX5_passIfCan_0 : decode cX5_passIfCan 0 = .ok (.aload_n 0, 1) := by decide +kernel
theorem dX5_passIfCan_1 : decode cX5_passIfCan 1 = .ok (.getfield 10, 3) := by decide +kernel
theorem dX5_passIfCan_4 : decode cX5_passIfCan 4 = .ok (.getfield 80, 3) := by decide +kernel
theorem dX5_passIfCan_7 : decode cX5_passIfCan 7 = .ok (.iload_n 1, 1) := by decide +kernel
theorem dX5_passIfCan_8 : decode cX5_passIfCan 8 = .ok (.invokevirtual 103, 3) := by decide +kernel
theorem dX5_passIfCan_11 : decode cX5_passIfCan 11 = .ok (.ifCond .ne 5, 3) := by decide +kernel
theorem dX5_passIfCan_14 : decode cX5_passIfCan 14 = .ok (.iconst 0, 1) := by decide +kernel
theorem dX5_passIfCan_15 : decode cX5_passIfCan 15 = .ok (.ireturn, 1) := by decide +kernel
theorem dX5_passIfCan_16 : decode cX5_passIfCan 16 = .ok (.aload_n 0, 1) := by decide +kernel
theorem dX5_passIfCan_17 : decode cX5_passIfCan 17 = .ok (.getfield 10, 3) := by decide +kernel
theorem dX5_passIfCan_20 : decode cX5_passIfCan 20 = .ok (.getfield 80, 3) := by decide +kernel
theorem dX5_passIfCan_23 : decode cX5_passIfCan 23 = .ok (.iload_n 1, 1) := by decide +kernel
theorem dX5_passIfCan_24 : decode cX5_passIfCan 24 = .ok (.invokevirtual 109, 3) := by decide +kernel
theorem dX5_passIfCan_27 : decode cX5_passIfCan 27 = .ok (.iconst 1, 1) := by decide +kernel
theorem dX5_passIfCan_28 : decode cX5_passIfCan 28 = .ok (.ireturn, 1) := by decide +kernel
theorem dX5_doRowOrder_0 : decode cX5_doRowOrder 0 = .ok (.iload_n 2, 1) := by decide +kernel
theorem dX5_doRowOrder_1 : decode cX5_doRowOrder 1 = .ok (.invokestatic 231, 3) := by decide +kernel
theorem dX5_doRowOrder_4 : decode cX5_doRowOrder 4 = .ok (.ifCond .eq 10, 3) := by decide +kernel
theorem dX5_doRowOrder_7 : decode cX5_doRowOrder 7 = .ok (.iload_n 3, 1) := by decide +kernel
theorem dX5_doRowOrder_8 : decode cX5_doRowOrder 8 = .ok (.invokestatic 239, 3) := by decide +kernel
theorem dX5_doRowOrder_11 : decode cX5_doRowOrder 11 = .ok (.ifCond .ne 5, 3) := by decide +kernel
theorem dX5_doRowOrder_14 : decode cX5_doRowOrder 14 = .ok (.iconst 0, 1) := by decide +kernel
theorem dX5_doRowOrder_15 : decode cX5_doRowOrder 15 = .ok (.ireturn, 1) := by decide +kernel
theorem dX5_doRowOrder_16 : decode cX5_doRowOrder 16 = .ok (.iload_n 1, 1) := by decide +kernel
theorem dX5_doRowOrder_17 : decode cX5_doRowOrder 17 = .ok (.bipush 100, 2) := by decide +kernel
theorem dX5_doRowOrder_19 : decode cX5_doRowOrder 19 = .ok (.if_icmp .ne 27, 3) := by decide +kernel
theorem dX5_doRowOrder_22 : decode cX5_doRowOrder 22 = .ok (.aload_n 0, 1) := by decide +kernel
theorem dX5_doRowOrder_23 : decode cX5_doRowOrder 23 = .ok (.getfield 10, 3) := by decide +kernel
theorem dX5_doRowOrder_26 : decode cX5_doRowOrder 26 = .ok (.iload_n 2, 1) := by decide +kernel
theorem dX5_doRowOrder_27 : decode cX5_doRowOrder 27 = .ok (.iload_n 3, 1) := by decide +kernel
theorem dX5_doRowOrder_28 : decode cX5_doRowOrder 28 = .ok (.invokevirtual 58, 3) := by decide +kernel
theorem dX5_doRowOrder_31 : decode cX5_doRowOrder 31 = .ok (.ifCond .eq 15, 3) := by decide +kernel
theorem dX5_doRowOrder_34 : decode cX5_doRowOrder 34 = .ok (.aload_n 0, 1) := by decide +kernel
theorem dX5_doRowOrder_35 : decode cX5_doRowOrder 35 = .ok (.getfield 10, 3) := by decide +kernel
theorem dX5_doRowOrder_38 : decode cX5_doRowOrder 38 = .ok (.iload_n 2, 1) := by decide +kernel
theorem dX5_doRowOrder_39 : decode cX5_doRowOrder 39 = .ok (.iload_n 3, 1) := by decide +kernel
theorem dX5_doRowOrder_40 : decode cX5_doRowOrder 40 = .ok (.invokevirtual 69, 3) := by decide +kernel
theorem dX5_doRowOrder_43 : decode cX5_doRowOrder 43 = .ok (.pop, 1) := by decide +kernel
theorem dX5_doRowOrder_44 : decode cX5_doRowOrder 44 = .ok (.iconst 1, 1) := by decide +kernel
theorem dX5_doRowOrder_45 : decode cX5_doRowOrder 45 = .ok (.ireturn, 1) := by decide +kernel
theorem dX5_doRowOrder_46 : decode cX5_doRowOrder 46 = .ok (.iload_n 1, 1) := by decide +kernel
theorem dX5_doRowOrder_47 : decode cX5_doRowOrder 47 = .ok (.bipush 98, 2) := by decide +kernel
theorem dX5_doRowOrder_49 : decode cX5_doRowOrder 49 = .ok (.if_icmp .ne 27, 3) := by decide +kernel
theorem dX5_doRowOrder_52 : decode cX5_doRowOrder 52 = .ok (.aload_n 0, 1) := by decide +kernel
theorem dX5_doRowOrder_53 : decode cX5_doRowOrder 53 = .ok (.getfield 10, 3) := by decide +kernel
theorem dX5_doRowOrder_56 : decode cX5_doRowOrder 56 = .ok (.iload_n 2, 1) := by decide +kernel
theorem dX5_doRowOrder_57 : decode cX5_doRowOrder 57 = .ok (.iload_n 3, 1) := by decide +kernel
theorem dX5_doRowOrder_58 : decode cX5_doRowOrder 58 = .ok (.invokevirtual 72, 3) := by decide +kernel
theorem dX5_doRowOrder_61 : decode cX5_doRowOrder 61 = .ok (.ifCond .eq 15, 3) := by decide +kernel
theorem dX5_doRowOrder_64 : decode cX5_doRowOrder 64 = .ok (.aload_n 0, 1) := by decide +kernel
theorem dX5_doRowOrder_65 : decode cX5_doRowOrder 65 = .ok (.getfield 10, 3) := by decide +kernel
theorem dX5_doRowOrder_68 : decode cX5_doRowOrder 68 = .ok (.iload_n 2, 1) := by decide +kernel
theorem dX5_doRowOrder_69 : decode cX5_doRowOrder 69 = .ok (.iload_n 3, 1) := by decide +kernel
theorem dX5_doRowOrder_70 : decode cX5_doRowOrder 70 = .ok (.invokevirtual 77, 3) := by decide +kernel
theorem dX5_doRowOrder_73 : decode cX5_doRowOrder 73 = .ok (.pop, 1) := by decide +kernel
theorem dX5_doRowOrder_74 : decode cX5_doRowOrder 74 = .ok (.iconst 1, 1) := by decide +kernel
theorem dX5_doRowOrder_75 : decode cX5_doRowOrder 75 = .ok (.ireturn, 1) := by decide +kernel
theorem dX5_doRowOrder_76 : decode cX5_doRowOrder 76 = .ok (.iconst 0, 1) := by decide +kernel
theorem dX5_doRowOrder_77 : decode cX5_doRowOrder 77 = .ok (.ireturn, 1) := by decide +kernel
theorem dX5_numberOf_0 : decode cX5_numberOf 0 = .ok (.iload_n 1, 1) := by decide +kernel
theorem dX5_numberOf_1 : decode cX5_numberOf 1 = .ok (.tableswitch 152 0 8 #[51, 62, 74, 85, 97, 108, 119, 130, 141], 51) := by decide +kernel
theorem dX5_numberOf_52 : decode cX5_numberOf 52 = .ok (.aload_n 0, 1) := by decide +kernel
theorem dX5_numberOf_53 : decode cX5_numberOf 53 = .ok (.getfield 10, 3) := by decide +kernel
theorem dX5_numberOf_56 : decode cX5_numberOf 56 = .ok (.getfield 80, 3) := by decide +kernel
theorem dX5_numberOf_59 : decode cX5_numberOf 59 = .ok (.getfield 166, 3) := by decide +kernel
theorem dX5_numberOf_62 : decode cX5_numberOf 62 = .ok (.ireturn, 1) := by decide +kernel
theorem dX5_numberOf_63 : decode cX5_numberOf 63 = .ok (.aload_n 0, 1) := by decide +kernel
theorem dX5_numberOf_64 : decode cX5_numberOf 64 = .ok (.getfield 10, 3) := by decide +kernel
theorem dX5_numberOf_67 : decode cX5_numberOf 67 = .ok (.getfield 80, 3) := by decide +kernel
theorem dX5_numberOf_70 : decode cX5_numberOf 70 = .ok (.iconst 1, 1) := by decide +kernel
theorem dX5_numberOf_71 : decode cX5_numberOf 71 = .ok (.invokevirtual 263, 3) := by decide +kernel
theorem dX5_numberOf_74 : decode cX5_numberOf 74 = .ok (.ireturn, 1) := by decide +kernel
theorem dX5_numberOf_75 : decode cX5_numberOf 75 = .ok (.aload_n 0, 1) := by decide +kernel
theorem dX5_numberOf_76 : decode cX5_numberOf 76 = .ok (.getfield 10, 3) := by decide +kernel
theorem dX5_numberOf_79 : decode cX5_numberOf 79 = .ok (.getfield 266, 3) := by decide +kernel
theorem dX5_numberOf_82 : decode cX5_numberOf 82 = .ok (.invokevirtual 270, 3) := by decide +kernel
theorem dX5_numberOf_85 : decode cX5_numberOf 85 = .ok (.ireturn, 1) := by decide +kernel
theorem dX5_numberOf_86 : decode cX5_numberOf 86 = .ok (.aload_n 0, 1) := by decide +kernel
theorem dX5_numberOf_87 : decode cX5_numberOf 87 = .ok (.getfield 10, 3) := by decide +kernel
theorem dX5_numberOf_90 : decode cX5_numberOf 90 = .ok (.getfield 80, 3) := by decide +kernel
theorem dX5_numberOf_93 : decode cX5_numberOf 93 = .ok (.iconst 2, 1) := by decide +kernel
theorem dX5_numberOf_94 : decode cX5_numberOf 94 = .ok (.invokevirtual 263, 3) := by decide +kernel
theorem dX5_numberOf_97 : decode cX5_numberOf 97 = .ok (.ireturn, 1) := by decide +kernel
theorem dX5_numberOf_98 : decode cX5_numberOf 98 = .ok (.aload_n 0, 1) := by decide +kernel
theorem dX5_numberOf_99 : decode cX5_numberOf 99 = .ok (.getfield 10, 3) := by decide +kernel
theorem dX5_numberOf_102 : decode cX5_numberOf 102 = .ok (.getfield 80, 3) := by decide +kernel
theorem dX5_numberOf_105 : decode cX5_numberOf 105 = .ok (.invokevirtual 112, 3) := by decide +kernel
theorem dX5_numberOf_108 : decode cX5_numberOf 108 = .ok (.ireturn, 1) := by decide +kernel
theorem dX5_numberOf_109 : decode cX5_numberOf 109 = .ok (.aload_n 0, 1) := by decide +kernel
theorem dX5_numberOf_110 : decode cX5_numberOf 110 = .ok (.getfield 10, 3) := by decide +kernel
theorem dX5_numberOf_113 : decode cX5_numberOf 113 = .ok (.getfield 266, 3) := by decide +kernel
theorem dX5_numberOf_116 : decode cX5_numberOf 116 = .ok (.getfield 275, 3) := by decide +kernel
theorem dX5_numberOf_119 : decode cX5_numberOf 119 = .ok (.ireturn, 1) := by decide +kernel
theorem dX5_numberOf_120 : decode cX5_numberOf 120 = .ok (.aload_n 0, 1) := by decide +kernel
theorem dX5_numberOf_121 : decode cX5_numberOf 121 = .ok (.getfield 10, 3) := by decide +kernel
theorem dX5_numberOf_124 : decode cX5_numberOf 124 = .ok (.getfield 266, 3) := by decide +kernel
theorem dX5_numberOf_127 : decode cX5_numberOf 127 = .ok (.getfield 278, 3) := by decide +kernel
theorem dX5_numberOf_130 : decode cX5_numberOf 130 = .ok (.ireturn, 1) := by decide +kernel
theorem dX5_numberOf_131 : decode cX5_numberOf 131 = .ok (.aload_n 0, 1) := by decide +kernel
theorem dX5_numberOf_132 : decode cX5_numberOf 132 = .ok (.getfield 10, 3) := by decide +kernel
theorem dX5_numberOf_135 : decode cX5_numberOf 135 = .ok (.getfield 266, 3) := by decide +kernel
theorem dX5_numberOf_138 : decode cX5_numberOf 138 = .ok (.getfield 281, 3) := by decide +kernel
theorem dX5_numberOf_141 : decode cX5_numberOf 141 = .ok (.ireturn, 1) := by decide +kernel
theorem dX5_numberOf_142 : decode cX5_numberOf 142 = .ok (.aload_n 0, 1) := by decide +kernel
theorem dX5_numberOf_143 : decode cX5_numberOf 143 = .ok (.getfield 10, 3) := by decide +kernel
theorem dX5_numberOf_146 : decode cX5_numberOf 146 = .ok (.getfield 80, 3) := by decide +kernel
theorem dX5_numberOf_149 : decode cX5_numberOf 149 = .ok (.invokevirtual 284, 3) := by decide +kernel
theorem dX5_numberOf_152 : decode cX5_numberOf 152 = .ok (.ireturn, 1) := by decide +kernel
theorem dX5_numberOf_153 : decode cX5_numberOf 153 = .ok (.aload_n 0, 1) := by decide +kernel
theorem dX5_numberOf_154 : decode cX5_numberOf 154 = .ok (.getfield 19, 3) := by decide +kernel
theorem dX5_numberOf_157 : decode cX5_numberOf 157 = .ok (.getfield 171, 3) := by decide +kernel
theorem dX5_numberOf_160 : decode cX5_numberOf 160 = .ok (.ireturn, 1) := by decide +kernel
theorem dJ9_max_7cf53_0 : decode cJ9_max_7cf53 0 = .ok (.iload_n 0, 1) := by decide +kernel
theorem dJ9_max_7cf53_1 : decode cJ9_max_7cf53 1 = .ok (.iload_n 1, 1) := by decide +kernel
theorem dJ9_max_7cf53_2 : decode cJ9_max_7cf53 2 = .ok (.if_icmp .lt 7, 3) := by decide +kernel
theorem dJ9_max_7cf53_5 : decode cJ9_max_7cf53 5 = .ok (.iload_n 0, 1) := by decide +kernel
theorem dJ9_max_7cf53_6 : decode cJ9_max_7cf53 6 = .ok (.goto 4, 3) := by decide +kernel
theorem dJ9_max_7cf53_9 : decode cJ9_max_7cf53 9 = .ok (.iload_n 1, 1) := by decide +kernel
theorem dJ9_max_7cf53_10 : decode cJ9_max_7cf53 10 = .ok (.ireturn, 1) := by decide +kernel
theorem dJ9_min_7cf53_0 : decode cJ9_min_7cf53 0 = .ok (.iload_n 0, 1) := by decide +kernel
theorem dJ9_min_7cf53_1 : decode cJ9_min_7cf53 1 = .ok (.iload_n 1, 1) := by decide +kernel
theorem dJ9_min_7cf53_2 : decode cJ9_min_7cf53 2 = .ok (.if_icmp .gt 7, 3) := by decide +kernel
theorem dJ9_min_7cf53_5 : decode cJ9_min_7cf53 5 = .ok (.iload_n 0, 1) := by decide +kernel
theorem dJ9_min_7cf53_6 : decode cJ9_min_7cf53 6 = .ok (.goto 4, 3) := by decide +kernel
theorem dJ9_min_7cf53_9 : decode cJ9_min_7cf53 9 = .ok (.iload_n 1, 1) := by decide +kernel
theorem dJ9_min_7cf53_10 : decode cJ9_min_7cf53 10 = .ok (.ireturn, 1) := by decide +kernel
theorem dL_cell_0 : decode cL_cell 0 = .ok (.iload_n 1, 1) := by decide +kernel
theorem dL_cell_1 : decode cL_cell 1 = .ok (.aload_n 0, 1) := by decide +kernel
theorem dL_cell_2 : decode cL_cell 2 = .ok (.arraylength, 1) := by decide +kernel
theorem dL_cell_3 : decode cL_cell 3 = .ok (.if_icmp .ge 9, 3) := by decide +kernel
theorem dL_cell_6 : decode cL_cell 6 = .ok (.aload_n 0, 1) := by decide +kernel
theorem dL_cell_7 : decode cL_cell 7 = .ok (.iload_n 1, 1) := by decide +kernel
theorem dL_cell_8 : decode cL_cell 8 = .ok (.iaload, 1) := by decide +kernel
theorem dL_cell_9 : decode cL_cell 9 = .ok (.goto 15, 3) := by decide +kernel
theorem dL_cell_12 : decode cL_cell 12 = .ok (.ldc 7, 2) := by decide +kernel
theorem dL_cell_14 : decode cL_cell 14 = .ok (.iload_n 1, 1) := by decide +kernel
theorem dL_cell_15 : decode cL_cell 15 = .ok (.sipush 4096, 3) := by decide +kernel
theorem dL_cell_18 : decode cL_cell 18 = .ok (.irem, 1) := by decide +kernel
theorem dL_cell_19 : decode cL_cell 19 = .ok (.imul, 1) := by decide +kernel
theorem dL_cell_20 : decode cL_cell 20 = .ok (.sipush 359, 3) := by decide +kernel
theorem dL_cell_23 : decode cL_cell 23 = .ok (.iadd, 1) := by decide +kernel
theorem dL_cell_24 : decode cL_cell 24 = .ok (.ldc 8, 2) := by decide +kernel
theorem dL_cell_26 : decode cL_cell 26 = .ok (.iand, 1) := by decide +kernel
theorem dL_cell_27 : decode cL_cell 27 = .ok (.ireturn, 1) := by decide +kernel
theorem dL_ask_0 : decode cL_ask 0 = .ok (.aload_n 0, 1) := by decide +kernel
theorem dL_ask_1 : decode cL_ask 1 = .ok (.iload_n 1, 1) := by decide +kernel
theorem dL_ask_2 : decode cL_ask 2 = .ok (.invokevirtual 9, 3) := by decide +kernel
theorem dL_ask_5 : decode cL_ask 5 = .ok (.ireturn, 1) := by decide +kernel
theorem dL_ask_6 : decode cL_ask 6 = .ok (.astore_n 2, 1) := by decide +kernel
theorem dL_ask_7 : decode cL_ask 7 = .ok (.ldc 17, 2) := by decide +kernel
theorem dL_ask_9 : decode cL_ask 9 = .ok (.ireturn, 1) := by decide +kernel
theorem dL_want_0 : decode cL_want 0 = .ok (.aload_n 0, 1) := by decide +kernel
theorem dL_want_1 : decode cL_want 1 = .ok (.iload_n 1, 1) := by decide +kernel
theorem dL_want_2 : decode cL_want 2 = .ok (.iload_n 2, 1) := by decide +kernel
theorem dL_want_3 : decode cL_want 3 = .ok (.invokevirtual 18, 3) := by decide +kernel
theorem dL_want_6 : decode cL_want 6 = .ok (.ireturn, 1) := by decide +kernel
theorem dL_want_7 : decode cL_want 7 = .ok (.astore_n 3, 1) := by decide +kernel
theorem dL_want_8 : decode cL_want 8 = .ok (.ldc 17, 2) := by decide +kernel
theorem dL_want_10 : decode cL_want 10 = .ok (.ireturn, 1) := by decide +kernel
theorem dL_delete_0 : decode cL_delete 0 = .ok (.aload_n 0, 1) := by decide +kernel
theorem dL_delete_1 : decode cL_delete 1 = .ok (.iload_n 1, 1) := by decide +kernel
theorem dL_delete_2 : decode cL_delete 2 = .ok (.iload_n 2, 1) := by decide +kernel
theorem dL_delete_3 : decode cL_delete 3 = .ok (.invokevirtual 22, 3) := by decide +kernel
theorem dL_delete_6 : decode cL_delete 6 = .ok (.ireturn, 1) := by decide +kernel
theorem dL_delete_7 : decode cL_delete 7 = .ok (.astore_n 3, 1) := by decide +kernel
theorem dL_delete_8 : decode cL_delete 8 = .ok (.ldc 17, 2) := by decide +kernel
theorem dL_delete_10 : decode cL_delete 10 = .ok (.ireturn, 1) := by decide +kernel
theorem dL_delete_11 : decode cL_delete 11 = .ok (.astore_n 3, 1) := by decide +kernel
theorem dL_delete_12 : decode cL_delete 12 = .ok (.ldc 27, 2) := by decide +kernel
theorem dL_delete_14 : decode cL_delete 14 = .ok (.ireturn, 1) := by decide +kernel
theorem dL_bringBack_0 : decode cL_bringBack 0 = .ok (.aload_n 0, 1) := by decide +kernel
theorem dL_bringBack_1 : decode cL_bringBack 1 = .ok (.iload_n 1, 1) := by decide +kernel
theorem dL_bringBack_2 : decode cL_bringBack 2 = .ok (.iload_n 2, 1) := by decide +kernel
theorem dL_bringBack_3 : decode cL_bringBack 3 = .ok (.invokevirtual 28, 3) := by decide +kernel
theorem dL_bringBack_6 : decode cL_bringBack 6 = .ok (.ireturn, 1) := by decide +kernel
theorem dL_bringBack_7 : decode cL_bringBack 7 = .ok (.astore_n 3, 1) := by decide +kernel
theorem dL_bringBack_8 : decode cL_bringBack 8 = .ok (.ldc 17, 2) := by decide +kernel
theorem dL_bringBack_10 : decode cL_bringBack 10 = .ok (.ireturn, 1) := by decide +kernel
theorem dL_bringBack_11 : decode cL_bringBack 11 = .ok (.astore_n 3, 1) := by decide +kernel
theorem dL_bringBack_12 : decode cL_bringBack 12 = .ok (.ldc 27, 2) := by decide +kernel
theorem dL_bringBack_14 : decode cL_bringBack 14 = .ok (.ireturn, 1) := by decide +kernel
theorem dL_turn_0 : decode cL_turn 0 = .ok (.aload_n 0, 1) := by decide +kernel
theorem dL_turn_1 : decode cL_turn 1 = .ok (.iload_n 1, 1) := by decide +kernel
theorem dL_turn_2 : decode cL_turn 2 = .ok (.invokevirtual 31, 3) := by decide +kernel
theorem dL_turn_5 : decode cL_turn 5 = .ok (.ireturn, 1) := by decide +kernel
theorem dL_turn_6 : decode cL_turn 6 = .ok (.astore_n 2, 1) := by decide +kernel
theorem dL_turn_7 : decode cL_turn 7 = .ok (.ldc 17, 2) := by decide +kernel
theorem dL_turn_9 : decode cL_turn 9 = .ok (.ireturn, 1) := by decide +kernel
theorem dL_follow_0 : decode cL_follow 0 = .ok (.aload_n 0, 1) := by decide +kernel
theorem dL_follow_1 : decode cL_follow 1 = .ok (.iload_n 1, 1) := by decide +kernel
theorem dL_follow_2 : decode cL_follow 2 = .ok (.iload_n 2, 1) := by decide +kernel
theorem dL_follow_3 : decode cL_follow 3 = .ok (.iload_n 3, 1) := by decide +kernel
theorem dL_follow_4 : decode cL_follow 4 = .ok (.invokevirtual 34, 3) := by decide +kernel
theorem dL_follow_7 : decode cL_follow 7 = .ok (.ireturn, 1) := by decide +kernel
theorem dL_follow_8 : decode cL_follow 8 = .ok (.astore 4, 2) := by decide +kernel
theorem dL_follow_10 : decode cL_follow 10 = .ok (.ldc 17, 2) := by decide +kernel
theorem dL_follow_12 : decode cL_follow 12 = .ok (.ireturn, 1) := by decide +kernel
theorem dL_follow_13 : decode cL_follow 13 = .ok (.astore 4, 2) := by decide +kernel
theorem dL_follow_15 : decode cL_follow 15 = .ok (.ldc 27, 2) := by decide +kernel
theorem dL_follow_17 : decode cL_follow 17 = .ok (.ireturn, 1) := by decide +kernel
theorem dL_pass_0 : decode cL_pass 0 = .ok (.aload_n 0, 1) := by decide +kernel
theorem dL_pass_1 : decode cL_pass 1 = .ok (.iload_n 1, 1) := by decide +kernel
theorem dL_pass_2 : decode cL_pass 2 = .ok (.invokevirtual 40, 3) := by decide +kernel
theorem dL_pass_5 : decode cL_pass 5 = .ok (.ireturn, 1) := by decide +kernel
theorem dL_pass_6 : decode cL_pass 6 = .ok (.astore_n 2, 1) := by decide +kernel
theorem dL_pass_7 : decode cL_pass 7 = .ok (.ldc 17, 2) := by decide +kernel
theorem dL_pass_9 : decode cL_pass 9 = .ok (.ireturn, 1) := by decide +kernel
theorem dL_pass_10 : decode cL_pass 10 = .ok (.astore_n 2, 1) := by decide +kernel
theorem dL_pass_11 : decode cL_pass 11 = .ok (.ldc 27, 2) := by decide +kernel
theorem dL_pass_13 : decode cL_pass 13 = .ok (.ireturn, 1) := by decide +kernel
theorem dL_season_0 : decode cL_season 0 = .ok (.aload_n 0, 1) := by decide +kernel
theorem dL_season_1 : decode cL_season 1 = .ok (.iload_n 1, 1) := by decide +kernel
theorem dL_season_2 : decode cL_season 2 = .ok (.iload_n 2, 1) := by decide +kernel
theorem dL_season_3 : decode cL_season 3 = .ok (.invokevirtual 43, 3) := by decide +kernel
theorem dL_season_6 : decode cL_season 6 = .ok (.ireturn, 1) := by decide +kernel
theorem dL_season_7 : decode cL_season 7 = .ok (.astore_n 3, 1) := by decide +kernel
theorem dL_season_8 : decode cL_season 8 = .ok (.ldc 17, 2) := by decide +kernel
theorem dL_season_10 : decode cL_season 10 = .ok (.ireturn, 1) := by decide +kernel
theorem dL_season_11 : decode cL_season 11 = .ok (.astore_n 3, 1) := by decide +kernel
theorem dL_season_12 : decode cL_season 12 = .ok (.ldc 27, 2) := by decide +kernel
theorem dL_season_14 : decode cL_season 14 = .ok (.ireturn, 1) := by decide +kernel
theorem dL_set_0 : decode cL_set 0 = .ok (.aload_n 0, 1) := by decide +kernel
theorem dL_set_1 : decode cL_set 1 = .ok (.iload_n 1, 1) := by decide +kernel
theorem dL_set_2 : decode cL_set 2 = .ok (.iload_n 2, 1) := by decide +kernel
theorem dL_set_3 : decode cL_set 3 = .ok (.invokevirtual 46, 3) := by decide +kernel
theorem dL_set_6 : decode cL_set 6 = .ok (.ireturn, 1) := by decide +kernel
theorem dL_set_7 : decode cL_set 7 = .ok (.astore_n 3, 1) := by decide +kernel
theorem dL_set_8 : decode cL_set 8 = .ok (.ldc 17, 2) := by decide +kernel
theorem dL_set_10 : decode cL_set 10 = .ok (.ireturn, 1) := by decide +kernel
theorem dL_set_11 : decode cL_set 11 = .ok (.astore_n 3, 1) := by decide +kernel
theorem dL_set_12 : decode cL_set 12 = .ok (.ldc 27, 2) := by decide +kernel
theorem dL_set_14 : decode cL_set 14 = .ok (.ireturn, 1) := by decide +kernel
theorem dL_append_0 : decode cL_append 0 = .ok (.aload_n 0, 1) := by decide +kernel
theorem dL_append_1 : decode cL_append 1 = .ok (.iload_n 1, 1) := by decide +kernel
theorem dL_append_2 : decode cL_append 2 = .ok (.invokevirtual 49, 3) := by decide +kernel
theorem dL_append_5 : decode cL_append 5 = .ok (.ireturn, 1) := by decide +kernel
theorem dL_append_6 : decode cL_append 6 = .ok (.astore_n 2, 1) := by decide +kernel
theorem dL_append_7 : decode cL_append 7 = .ok (.ldc 17, 2) := by decide +kernel
theorem dL_append_9 : decode cL_append 9 = .ok (.ireturn, 1) := by decide +kernel
theorem dL_append_10 : decode cL_append 10 = .ok (.astore_n 2, 1) := by decide +kernel
theorem dL_append_11 : decode cL_append 11 = .ok (.ldc 27, 2) := by decide +kernel
theorem dL_append_13 : decode cL_append 13 = .ok (.ireturn, 1) := by decide +kernel
theorem dL_run_0 : decode cL_run 0 = .ok (.aload_n 0, 1) := by decide +kernel
theorem dL_run_1 : decode cL_run 1 = .ok (.invokevirtual 52, 3) := by decide +kernel
theorem dL_run_4 : decode cL_run 4 = .ok (.ireturn, 1) := by decide +kernel
theorem dL_run_5 : decode cL_run 5 = .ok (.astore_n 1, 1) := by decide +kernel
theorem dL_run_6 : decode cL_run 6 = .ok (.ldc 17, 2) := by decide +kernel
theorem dL_run_8 : decode cL_run 8 = .ok (.ireturn, 1) := by decide +kernel
theorem dL_keep_0 : decode cL_keep 0 = .ok (.aload_n 0, 1) := by decide +kernel
theorem dL_keep_1 : decode cL_keep 1 = .ok (.iload_n 1, 1) := by decide +kernel
theorem dL_keep_2 : decode cL_keep 2 = .ok (.invokevirtual 56, 3) := by decide +kernel
theorem dL_keep_5 : decode cL_keep 5 = .ok (.ireturn, 1) := by decide +kernel
theorem dL_keep_6 : decode cL_keep 6 = .ok (.astore_n 2, 1) := by decide +kernel
theorem dL_keep_7 : decode cL_keep 7 = .ok (.ldc 17, 2) := by decide +kernel
theorem dL_keep_9 : decode cL_keep 9 = .ok (.ireturn, 1) := by decide +kernel
theorem dL_goBack_0 : decode cL_goBack 0 = .ok (.aload_n 0, 1) := by decide +kernel
theorem dL_goBack_1 : decode cL_goBack 1 = .ok (.iload_n 1, 1) := by decide +kernel
theorem dL_goBack_2 : decode cL_goBack 2 = .ok (.invokevirtual 59, 3) := by decide +kernel
theorem dL_goBack_5 : decode cL_goBack 5 = .ok (.ireturn, 1) := by decide +kernel
theorem dL_goBack_6 : decode cL_goBack 6 = .ok (.astore_n 2, 1) := by decide +kernel
theorem dL_goBack_7 : decode cL_goBack 7 = .ok (.ldc 17, 2) := by decide +kernel
theorem dL_goBack_9 : decode cL_goBack 9 = .ok (.ireturn, 1) := by decide +kernel
theorem dL_goBack_10 : decode cL_goBack 10 = .ok (.astore_n 2, 1) := by decide +kernel
theorem dL_goBack_11 : decode cL_goBack 11 = .ok (.ldc 27, 2) := by decide +kernel
theorem dL_goBack_13 : decode cL_goBack 13 = .ok (.ireturn, 1) := by decide +kernel
theorem dL_undo_0 : decode cL_undo 0 = .ok (.aload_n 0, 1) := by decide +kernel
theorem dL_undo_1 : decode cL_undo 1 = .ok (.invokevirtual 62, 3) := by decide +kernel
theorem dL_undo_4 : decode cL_undo 4 = .ok (.ireturn, 1) := by decide +kernel
theorem dL_undo_5 : decode cL_undo 5 = .ok (.astore_n 1, 1) := by decide +kernel
theorem dL_undo_6 : decode cL_undo 6 = .ok (.ldc 17, 2) := by decide +kernel
theorem dL_undo_8 : decode cL_undo 8 = .ok (.ireturn, 1) := by decide +kernel
theorem dL_keyOf_0 : decode cL_keyOf 0 = .ok (.aload_n 0, 1) := by decide +kernel
theorem dL_keyOf_1 : decode cL_keyOf 1 = .ok (.iload_n 1, 1) := by decide +kernel
theorem dL_keyOf_2 : decode cL_keyOf 2 = .ok (.iload_n 2, 1) := by decide +kernel
theorem dL_keyOf_3 : decode cL_keyOf 3 = .ok (.iload_n 3, 1) := by decide +kernel
theorem dL_keyOf_4 : decode cL_keyOf 4 = .ok (.invokevirtual 65, 3) := by decide +kernel
theorem dL_keyOf_7 : decode cL_keyOf 7 = .ok (.ireturn, 1) := by decide +kernel
theorem dL_keyOf_8 : decode cL_keyOf 8 = .ok (.astore 4, 2) := by decide +kernel
theorem dL_keyOf_10 : decode cL_keyOf 10 = .ok (.ldc 17, 2) := by decide +kernel
theorem dL_keyOf_12 : decode cL_keyOf 12 = .ok (.ireturn, 1) := by decide +kernel
theorem dL_keyOf_13 : decode cL_keyOf 13 = .ok (.astore 4, 2) := by decide +kernel
theorem dL_keyOf_15 : decode cL_keyOf 15 = .ok (.ldc 27, 2) := by decide +kernel
theorem dL_keyOf_17 : decode cL_keyOf 17 = .ok (.ireturn, 1) := by decide +kernel
theorem dL_kindOf_0 : decode cL_kindOf 0 = .ok (.aload_n 0, 1) := by decide +kernel
theorem dL_kindOf_1 : decode cL_kindOf 1 = .ok (.iload_n 1, 1) := by decide +kernel
theorem dL_kindOf_2 : decode cL_kindOf 2 = .ok (.iload_n 2, 1) := by decide +kernel
theorem dL_kindOf_3 : decode cL_kindOf 3 = .ok (.invokevirtual 68, 3) := by decide +kernel
theorem dL_kindOf_6 : decode cL_kindOf 6 = .ok (.ireturn, 1) := by decide +kernel
theorem dL_kindOf_7 : decode cL_kindOf 7 = .ok (.astore_n 3, 1) := by decide +kernel
theorem dL_kindOf_8 : decode cL_kindOf 8 = .ok (.ldc 17, 2) := by decide +kernel
theorem dL_kindOf_10 : decode cL_kindOf 10 = .ok (.ireturn, 1) := by decide +kernel
theorem dL_kindOf_11 : decode cL_kindOf 11 = .ok (.astore_n 3, 1) := by decide +kernel
theorem dL_kindOf_12 : decode cL_kindOf 12 = .ok (.ldc 27, 2) := by decide +kernel
theorem dL_kindOf_14 : decode cL_kindOf 14 = .ok (.ireturn, 1) := by decide +kernel
theorem dL_pile_0 : decode cL_pile 0 = .ok (.aload_n 0, 1) := by decide +kernel
theorem dL_pile_1 : decode cL_pile 1 = .ok (.iload_n 1, 1) := by decide +kernel
theorem dL_pile_2 : decode cL_pile 2 = .ok (.iload_n 2, 1) := by decide +kernel
theorem dL_pile_3 : decode cL_pile 3 = .ok (.invokevirtual 71, 3) := by decide +kernel
theorem dL_pile_6 : decode cL_pile 6 = .ok (.ireturn, 1) := by decide +kernel
theorem dL_pile_7 : decode cL_pile 7 = .ok (.astore_n 3, 1) := by decide +kernel
theorem dL_pile_8 : decode cL_pile 8 = .ok (.ldc 17, 2) := by decide +kernel
theorem dL_pile_10 : decode cL_pile 10 = .ok (.ireturn, 1) := by decide +kernel
theorem dL_pile_11 : decode cL_pile 11 = .ok (.astore_n 3, 1) := by decide +kernel
theorem dL_pile_12 : decode cL_pile 12 = .ok (.ldc 27, 2) := by decide +kernel
theorem dL_pile_14 : decode cL_pile 14 = .ok (.ireturn, 1) := by decide +kernel
theorem dL_count_0 : decode cL_count 0 = .ok (.aload_n 0, 1) := by decide +kernel
theorem dL_count_1 : decode cL_count 1 = .ok (.iload_n 1, 1) := by decide +kernel
theorem dL_count_2 : decode cL_count 2 = .ok (.invokevirtual 74, 3) := by decide +kernel
theorem dL_count_5 : decode cL_count 5 = .ok (.ireturn, 1) := by decide +kernel
theorem dL_count_6 : decode cL_count 6 = .ok (.astore_n 2, 1) := by decide +kernel
theorem dL_count_7 : decode cL_count 7 = .ok (.ldc 17, 2) := by decide +kernel
theorem dL_count_9 : decode cL_count 9 = .ok (.ireturn, 1) := by decide +kernel
theorem dL_setting_0 : decode cL_setting 0 = .ok (.aload_n 0, 1) := by decide +kernel
theorem dL_setting_1 : decode cL_setting 1 = .ok (.iload_n 1, 1) := by decide +kernel
theorem dL_setting_2 : decode cL_setting 2 = .ok (.invokevirtual 77, 3) := by decide +kernel
theorem dL_setting_5 : decode cL_setting 5 = .ok (.ireturn, 1) := by decide +kernel
theorem dL_setting_6 : decode cL_setting 6 = .ok (.astore_n 2, 1) := by decide +kernel
theorem dL_setting_7 : decode cL_setting 7 = .ok (.ldc 17, 2) := by decide +kernel
theorem dL_setting_9 : decode cL_setting 9 = .ok (.ireturn, 1) := by decide +kernel
theorem dL_ifAsked_0 : decode cL_ifAsked 0 = .ok (.aload_n 0, 1) := by decide +kernel
theorem dL_ifAsked_1 : decode cL_ifAsked 1 = .ok (.iload_n 1, 1) := by decide +kernel
theorem dL_ifAsked_2 : decode cL_ifAsked 2 = .ok (.invokevirtual 80, 3) := by decide +kernel
theorem dL_ifAsked_5 : decode cL_ifAsked 5 = .ok (.ireturn, 1) := by decide +kernel
theorem dL_ifAsked_6 : decode cL_ifAsked 6 = .ok (.astore_n 2, 1) := by decide +kernel
theorem dL_ifAsked_7 : decode cL_ifAsked 7 = .ok (.ldc 17, 2) := by decide +kernel
theorem dL_ifAsked_9 : decode cL_ifAsked 9 = .ok (.ireturn, 1) := by decide +kernel
theorem dL_keyIn_0 : decode cL_keyIn 0 = .ok (.aload_n 0, 1) := by decide +kernel
theorem dL_keyIn_1 : decode cL_keyIn 1 = .ok (.iload_n 1, 1) := by decide +kernel
theorem dL_keyIn_2 : decode cL_keyIn 2 = .ok (.invokevirtual 83, 3) := by decide +kernel
theorem dL_keyIn_5 : decode cL_keyIn 5 = .ok (.ireturn, 1) := by decide +kernel
theorem dL_keyIn_6 : decode cL_keyIn 6 = .ok (.astore_n 2, 1) := by decide +kernel
theorem dL_keyIn_7 : decode cL_keyIn 7 = .ok (.ldc 17, 2) := by decide +kernel
theorem dL_keyIn_9 : decode cL_keyIn 9 = .ok (.ireturn, 1) := by decide +kernel
theorem dL_coming_0 : decode cL_coming 0 = .ok (.aload_n 0, 1) := by decide +kernel
theorem dL_coming_1 : decode cL_coming 1 = .ok (.iload_n 1, 1) := by decide +kernel
theorem dL_coming_2 : decode cL_coming 2 = .ok (.iload_n 2, 1) := by decide +kernel
theorem dL_coming_3 : decode cL_coming 3 = .ok (.invokevirtual 86, 3) := by decide +kernel
theorem dL_coming_6 : decode cL_coming 6 = .ok (.ireturn, 1) := by decide +kernel
theorem dL_coming_7 : decode cL_coming 7 = .ok (.astore_n 3, 1) := by decide +kernel
theorem dL_coming_8 : decode cL_coming 8 = .ok (.ldc 17, 2) := by decide +kernel
theorem dL_coming_10 : decode cL_coming 10 = .ok (.ireturn, 1) := by decide +kernel
theorem dL_coming_11 : decode cL_coming 11 = .ok (.astore_n 3, 1) := by decide +kernel
theorem dL_coming_12 : decode cL_coming 12 = .ok (.ldc 27, 2) := by decide +kernel
theorem dL_coming_14 : decode cL_coming 14 = .ok (.ireturn, 1) := by decide +kernel
theorem dL_longest_0 : decode cL_longest 0 = .ok (.aload_n 0, 1) := by decide +kernel
theorem dL_longest_1 : decode cL_longest 1 = .ok (.iload_n 1, 1) := by decide +kernel
theorem dL_longest_2 : decode cL_longest 2 = .ok (.invokevirtual 89, 3) := by decide +kernel
theorem dL_longest_5 : decode cL_longest 5 = .ok (.ireturn, 1) := by decide +kernel
theorem dL_longest_6 : decode cL_longest 6 = .ok (.astore_n 2, 1) := by decide +kernel
theorem dL_longest_7 : decode cL_longest 7 = .ok (.ldc 17, 2) := by decide +kernel
theorem dL_longest_9 : decode cL_longest 9 = .ok (.ireturn, 1) := by decide +kernel
theorem dL_ifFollowed_0 : decode cL_ifFollowed 0 = .ok (.aload_n 0, 1) := by decide +kernel
theorem dL_ifFollowed_1 : decode cL_ifFollowed 1 = .ok (.iload_n 1, 1) := by decide +kernel
theorem dL_ifFollowed_2 : decode cL_ifFollowed 2 = .ok (.iload_n 2, 1) := by decide +kernel
theorem dL_ifFollowed_3 : decode cL_ifFollowed 3 = .ok (.iload_n 3, 1) := by decide +kernel
theorem dL_ifFollowed_4 : decode cL_ifFollowed 4 = .ok (.invokevirtual 92, 3) := by decide +kernel
theorem dL_ifFollowed_7 : decode cL_ifFollowed 7 = .ok (.ireturn, 1) := by decide +kernel
theorem dL_ifFollowed_8 : decode cL_ifFollowed 8 = .ok (.astore 4, 2) := by decide +kernel
theorem dL_ifFollowed_10 : decode cL_ifFollowed 10 = .ok (.ldc 17, 2) := by decide +kernel
theorem dL_ifFollowed_12 : decode cL_ifFollowed 12 = .ok (.ireturn, 1) := by decide +kernel
theorem dL_ifFollowed_13 : decode cL_ifFollowed 13 = .ok (.astore 4, 2) := by decide +kernel
theorem dL_ifFollowed_15 : decode cL_ifFollowed 15 = .ok (.ldc 27, 2) := by decide +kernel
theorem dL_ifFollowed_17 : decode cL_ifFollowed 17 = .ok (.ireturn, 1) := by decide +kernel
theorem dL_acts_0 : decode cL_acts 0 = .ok (.iload_n 1, 1) := by decide +kernel
theorem dL_acts_1 : decode cL_acts 1 = .ok (.bipush 16, 2) := by decide +kernel
theorem dL_acts_3 : decode cL_acts 3 = .ok (.idiv, 1) := by decide +kernel
theorem dL_acts_4 : decode cL_acts 4 = .ok (.istore_n 2, 1) := by decide +kernel
theorem dL_acts_5 : decode cL_acts 5 = .ok (.iload_n 1, 1) := by decide +kernel
theorem dL_acts_6 : decode cL_acts 6 = .ok (.bipush 16, 2) := by decide +kernel
theorem dL_acts_8 : decode cL_acts 8 = .ok (.irem, 1) := by decide +kernel
theorem dL_acts_9 : decode cL_acts 9 = .ok (.tableswitch 243 0 11 #[63, 77, 122, 169, 183, 197, 197, 207, 229, 229, 229, 229], 63) := by decide +kernel
theorem dL_acts_72 : decode cL_acts 72 = .ok (.aload_n 0, 1) := by decide +kernel
theorem dL_acts_73 : decode cL_acts 73 = .ok (.iload_n 2, 1) := by decide +kernel
theorem dL_acts_74 : decode cL_acts 74 = .ok (.iconst 2, 1) := by decide +kernel
theorem dL_acts_75 : decode cL_acts 75 = .ok (.irem, 1) := by decide +kernel
theorem dL_acts_76 : decode cL_acts 76 = .ok (.iload_n 2, 1) := by decide +kernel
theorem dL_acts_77 : decode cL_acts 77 = .ok (.iconst 4, 1) := by decide +kernel
theorem dL_acts_78 : decode cL_acts 78 = .ok (.idiv, 1) := by decide +kernel
theorem dL_acts_79 : decode cL_acts 79 = .ok (.bipush 12, 2) := by decide +kernel
theorem dL_acts_81 : decode cL_acts 81 = .ok (.irem, 1) := by decide +kernel
theorem dL_acts_82 : decode cL_acts 82 = .ok (.invokestatic 95, 3) := by decide +kernel
theorem dL_acts_85 : decode cL_acts 85 = .ok (.ireturn, 1) := by decide +kernel
theorem dL_acts_86 : decode cL_acts 86 = .ok (.aload_n 0, 1) := by decide +kernel
theorem dL_acts_87 : decode cL_acts 87 = .ok (.iload_n 2, 1) := by decide +kernel
theorem dL_acts_88 : decode cL_acts 88 = .ok (.iconst 3, 1) := by decide +kernel
theorem dL_acts_89 : decode cL_acts 89 = .ok (.irem, 1) := by decide +kernel
theorem dL_acts_90 : decode cL_acts 90 = .ok (.iload_n 2, 1) := by decide +kernel
theorem dL_acts_91 : decode cL_acts 91 = .ok (.iconst 3, 1) := by decide +kernel
theorem dL_acts_92 : decode cL_acts 92 = .ok (.irem, 1) := by decide +kernel
theorem dL_acts_93 : decode cL_acts 93 = .ok (.ifCond .ne 11, 3) := by decide +kernel
theorem dL_acts_96 : decode cL_acts 96 = .ok (.iload_n 2, 1) := by decide +kernel
theorem dL_acts_97 : decode cL_acts 97 = .ok (.iconst 4, 1) := by decide +kernel
theorem dL_acts_98 : decode cL_acts 98 = .ok (.idiv, 1) := by decide +kernel
theorem dL_acts_99 : decode cL_acts 99 = .ok (.iconst 4, 1) := by decide +kernel
theorem dL_acts_100 : decode cL_acts 100 = .ok (.irem, 1) := by decide +kernel
theorem dL_acts_101 : decode cL_acts 101 = .ok (.goto 26, 3) := by decide +kernel
theorem dL_acts_104 : decode cL_acts 104 = .ok (.iload_n 2, 1) := by decide +kernel
theorem dL_acts_105 : decode cL_acts 105 = .ok (.iconst 3, 1) := by decide +kernel
theorem dL_acts_106 : decode cL_acts 106 = .ok (.irem, 1) := by decide +kernel
theorem dL_acts_107 : decode cL_acts 107 = .ok (.iconst 1, 1) := by decide +kernel
theorem dL_acts_108 : decode cL_acts 108 = .ok (.if_icmp .ne 13, 3) := by decide +kernel
theorem dL_acts_111 : decode cL_acts 111 = .ok (.iconst 1, 1) := by decide +kernel
theorem dL_acts_112 : decode cL_acts 112 = .ok (.iload_n 2, 1) := by decide +kernel
theorem dL_acts_113 : decode cL_acts 113 = .ok (.iconst 4, 1) := by decide +kernel
theorem dL_acts_114 : decode cL_acts 114 = .ok (.idiv, 1) := by decide +kernel
theorem dL_acts_115 : decode cL_acts 115 = .ok (.iconst 4, 1) := by decide +kernel
theorem dL_acts_116 : decode cL_acts 116 = .ok (.irem, 1) := by decide +kernel
theorem dL_acts_117 : decode cL_acts 117 = .ok (.iadd, 1) := by decide +kernel
theorem dL_acts_118 : decode cL_acts 118 = .ok (.goto 9, 3) := by decide +kernel
theorem dL_acts_121 : decode cL_acts 121 = .ok (.iload_n 2, 1) := by decide +kernel
theorem dL_acts_122 : decode cL_acts 122 = .ok (.iconst 4, 1) := by decide +kernel
theorem dL_acts_123 : decode cL_acts 123 = .ok (.idiv, 1) := by decide +kernel
theorem dL_acts_124 : decode cL_acts 124 = .ok (.bipush 8, 2) := by decide +kernel
theorem dL_acts_126 : decode cL_acts 126 = .ok (.irem, 1) := by decide +kernel
theorem dL_acts_127 : decode cL_acts 127 = .ok (.invokestatic 100, 3) := by decide +kernel
theorem dL_acts_130 : decode cL_acts 130 = .ok (.ireturn, 1) := by decide +kernel
theorem dL_acts_131 : decode cL_acts 131 = .ok (.iload_n 2, 1) := by decide +kernel
theorem dL_acts_132 : decode cL_acts 132 = .ok (.iconst 3, 1) := by decide +kernel
theorem dL_acts_133 : decode cL_acts 133 = .ok (.irem, 1) := by decide +kernel
theorem dL_acts_134 : decode cL_acts 134 = .ok (.ifCond .ne 15, 3) := by decide +kernel
theorem dL_acts_137 : decode cL_acts 137 = .ok (.aload_n 0, 1) := by decide +kernel
theorem dL_acts_138 : decode cL_acts 138 = .ok (.iload_n 2, 1) := by decide +kernel
theorem dL_acts_139 : decode cL_acts 139 = .ok (.iconst 3, 1) := by decide +kernel
theorem dL_acts_140 : decode cL_acts 140 = .ok (.idiv, 1) := by decide +kernel
theorem dL_acts_141 : decode cL_acts 141 = .ok (.iconst 2, 1) := by decide +kernel
theorem dL_acts_142 : decode cL_acts 142 = .ok (.irem, 1) := by decide +kernel
theorem dL_acts_143 : decode cL_acts 143 = .ok (.invokestatic 102, 3) := by decide +kernel
theorem dL_acts_146 : decode cL_acts 146 = .ok (.goto 31, 3) := by decide +kernel
theorem dL_acts_149 : decode cL_acts 149 = .ok (.iload_n 2, 1) := by decide +kernel
theorem dL_acts_150 : decode cL_acts 150 = .ok (.iconst 3, 1) := by decide +kernel
theorem dL_acts_151 : decode cL_acts 151 = .ok (.irem, 1) := by decide +kernel
theorem dL_acts_152 : decode cL_acts 152 = .ok (.iconst 1, 1) := by decide +kernel
theorem dL_acts_153 : decode cL_acts 153 = .ok (.if_icmp .ne 15, 3) := by decide +kernel
theorem dL_acts_156 : decode cL_acts 156 = .ok (.aload_n 0, 1) := by decide +kernel
theorem dL_acts_157 : decode cL_acts 157 = .ok (.iload_n 2, 1) := by decide +kernel
theorem dL_acts_158 : decode cL_acts 158 = .ok (.iconst 3, 1) := by decide +kernel
theorem dL_acts_159 : decode cL_acts 159 = .ok (.idiv, 1) := by decide +kernel
theorem dL_acts_160 : decode cL_acts 160 = .ok (.iconst 2, 1) := by decide +kernel
theorem dL_acts_161 : decode cL_acts 161 = .ok (.irem, 1) := by decide +kernel
theorem dL_acts_162 : decode cL_acts 162 = .ok (.invokestatic 105, 3) := by decide +kernel
theorem dL_acts_165 : decode cL_acts 165 = .ok (.goto 12, 3) := by decide +kernel
theorem dL_acts_168 : decode cL_acts 168 = .ok (.aload_n 0, 1) := by decide +kernel
theorem dL_acts_169 : decode cL_acts 169 = .ok (.iload_n 2, 1) := by decide +kernel
theorem dL_acts_170 : decode cL_acts 170 = .ok (.iconst 3, 1) := by decide +kernel
theorem dL_acts_171 : decode cL_acts 171 = .ok (.idiv, 1) := by decide +kernel
theorem dL_acts_172 : decode cL_acts 172 = .ok (.iconst 2, 1) := by decide +kernel
theorem dL_acts_173 : decode cL_acts 173 = .ok (.irem, 1) := by decide +kernel
theorem dL_acts_174 : decode cL_acts 174 = .ok (.invokestatic 107, 3) := by decide +kernel
theorem dL_acts_177 : decode cL_acts 177 = .ok (.ireturn, 1) := by decide +kernel
theorem dL_acts_178 : decode cL_acts 178 = .ok (.aload_n 0, 1) := by decide +kernel
theorem dL_acts_179 : decode cL_acts 179 = .ok (.iload_n 2, 1) := by decide +kernel
theorem dL_acts_180 : decode cL_acts 180 = .ok (.iconst 2, 1) := by decide +kernel
theorem dL_acts_181 : decode cL_acts 181 = .ok (.irem, 1) := by decide +kernel
theorem dL_acts_182 : decode cL_acts 182 = .ok (.iload_n 2, 1) := by decide +kernel
theorem dL_acts_183 : decode cL_acts 183 = .ok (.iconst 4, 1) := by decide +kernel
theorem dL_acts_184 : decode cL_acts 184 = .ok (.idiv, 1) := by decide +kernel
theorem dL_acts_185 : decode cL_acts 185 = .ok (.bipush 16, 2) := by decide +kernel
theorem dL_acts_187 : decode cL_acts 187 = .ok (.irem, 1) := by decide +kernel
theorem dL_acts_188 : decode cL_acts 188 = .ok (.invokestatic 109, 3) := by decide +kernel
theorem dL_acts_191 : decode cL_acts 191 = .ok (.ireturn, 1) := by decide +kernel
theorem dL_acts_192 : decode cL_acts 192 = .ok (.aload_n 0, 1) := by decide +kernel
theorem dL_acts_193 : decode cL_acts 193 = .ok (.iload_n 2, 1) := by decide +kernel
theorem dL_acts_194 : decode cL_acts 194 = .ok (.iconst 2, 1) := by decide +kernel
theorem dL_acts_195 : decode cL_acts 195 = .ok (.irem, 1) := by decide +kernel
theorem dL_acts_196 : decode cL_acts 196 = .ok (.iload_n 2, 1) := by decide +kernel
theorem dL_acts_197 : decode cL_acts 197 = .ok (.iconst 4, 1) := by decide +kernel
theorem dL_acts_198 : decode cL_acts 198 = .ok (.idiv, 1) := by decide +kernel
theorem dL_acts_199 : decode cL_acts 199 = .ok (.bipush 8, 2) := by decide +kernel
theorem dL_acts_201 : decode cL_acts 201 = .ok (.irem, 1) := by decide +kernel
theorem dL_acts_202 : decode cL_acts 202 = .ok (.invokestatic 111, 3) := by decide +kernel
theorem dL_acts_205 : decode cL_acts 205 = .ok (.ireturn, 1) := by decide +kernel
theorem dL_acts_206 : decode cL_acts 206 = .ok (.aload_n 0, 1) := by decide +kernel
theorem dL_acts_207 : decode cL_acts 207 = .ok (.iconst 1, 1) := by decide +kernel
theorem dL_acts_208 : decode cL_acts 208 = .ok (.iload_n 2, 1) := by decide +kernel
theorem dL_acts_209 : decode cL_acts 209 = .ok (.iconst 5, 1) := by decide +kernel
theorem dL_acts_210 : decode cL_acts 210 = .ok (.irem, 1) := by decide +kernel
theorem dL_acts_211 : decode cL_acts 211 = .ok (.iadd, 1) := by decide +kernel
theorem dL_acts_212 : decode cL_acts 212 = .ok (.invokestatic 113, 3) := by decide +kernel
theorem dL_acts_215 : decode cL_acts 215 = .ok (.ireturn, 1) := by decide +kernel
theorem dL_acts_216 : decode cL_acts 216 = .ok (.aload_n 0, 1) := by decide +kernel
theorem dL_acts_217 : decode cL_acts 217 = .ok (.iload_n 2, 1) := by decide +kernel
theorem dL_acts_218 : decode cL_acts 218 = .ok (.iconst 2, 1) := by decide +kernel
theorem dL_acts_219 : decode cL_acts 219 = .ok (.irem, 1) := by decide +kernel
theorem dL_acts_220 : decode cL_acts 220 = .ok (.iload_n 2, 1) := by decide +kernel
theorem dL_acts_221 : decode cL_acts 221 = .ok (.iconst 4, 1) := by decide +kernel
theorem dL_acts_222 : decode cL_acts 222 = .ok (.idiv, 1) := by decide +kernel
theorem dL_acts_223 : decode cL_acts 223 = .ok (.bipush 8, 2) := by decide +kernel
theorem dL_acts_225 : decode cL_acts 225 = .ok (.irem, 1) := by decide +kernel
theorem dL_acts_226 : decode cL_acts 226 = .ok (.iconst 1, 1) := by decide +kernel
theorem dL_acts_227 : decode cL_acts 227 = .ok (.iload_n 2, 1) := by decide +kernel
theorem dL_acts_228 : decode cL_acts 228 = .ok (.bipush 32, 2) := by decide +kernel
theorem dL_acts_230 : decode cL_acts 230 = .ok (.idiv, 1) := by decide +kernel
theorem dL_acts_231 : decode cL_acts 231 = .ok (.iconst 4, 1) := by decide +kernel
theorem dL_acts_232 : decode cL_acts 232 = .ok (.irem, 1) := by decide +kernel
theorem dL_acts_233 : decode cL_acts 233 = .ok (.iadd, 1) := by decide +kernel
theorem dL_acts_234 : decode cL_acts 234 = .ok (.invokestatic 115, 3) := by decide +kernel
theorem dL_acts_237 : decode cL_acts 237 = .ok (.ireturn, 1) := by decide +kernel
theorem dL_acts_238 : decode cL_acts 238 = .ok (.aload_n 0, 1) := by decide +kernel
theorem dL_acts_239 : decode cL_acts 239 = .ok (.iload_n 2, 1) := by decide +kernel
theorem dL_acts_240 : decode cL_acts 240 = .ok (.iconst 2, 1) := by decide +kernel
theorem dL_acts_241 : decode cL_acts 241 = .ok (.irem, 1) := by decide +kernel
theorem dL_acts_242 : decode cL_acts 242 = .ok (.iload_n 2, 1) := by decide +kernel
theorem dL_acts_243 : decode cL_acts 243 = .ok (.iconst 4, 1) := by decide +kernel
theorem dL_acts_244 : decode cL_acts 244 = .ok (.idiv, 1) := by decide +kernel
theorem dL_acts_245 : decode cL_acts 245 = .ok (.bipush 8, 2) := by decide +kernel
theorem dL_acts_247 : decode cL_acts 247 = .ok (.irem, 1) := by decide +kernel
theorem dL_acts_248 : decode cL_acts 248 = .ok (.invokestatic 118, 3) := by decide +kernel
theorem dL_acts_251 : decode cL_acts 251 = .ok (.ireturn, 1) := by decide +kernel
theorem dL_acts_252 : decode cL_acts 252 = .ok (.aload_n 0, 1) := by decide +kernel
theorem dL_acts_253 : decode cL_acts 253 = .ok (.iload_n 2, 1) := by decide +kernel
theorem dL_acts_254 : decode cL_acts 254 = .ok (.iconst 2, 1) := by decide +kernel
theorem dL_acts_255 : decode cL_acts 255 = .ok (.irem, 1) := by decide +kernel
theorem dL_acts_256 : decode cL_acts 256 = .ok (.invokestatic 120, 3) := by decide +kernel
theorem dL_acts_259 : decode cL_acts 259 = .ok (.ireturn, 1) := by decide +kernel
theorem dL_kind_0 : decode cL_kind 0 = .ok (.iconst 4, 1) := by decide +kernel
theorem dL_kind_1 : decode cL_kind 1 = .ok (.newarray .int, 2) := by decide +kernel
theorem dL_kind_3 : decode cL_kind 3 = .ok (.astore_n 2, 1) := by decide +kernel
theorem dL_kind_4 : decode cL_kind 4 = .ok (.iconst 0, 1) := by decide +kernel
theorem dL_kind_5 : decode cL_kind 5 = .ok (.istore_n 3, 1) := by decide +kernel
theorem dL_kind_6 : decode cL_kind 6 = .ok (.iconst 0, 1) := by decide +kernel
theorem dL_kind_7 : decode cL_kind 7 = .ok (.istore 4, 2) := by decide +kernel
theorem dL_kind_9 : decode cL_kind 9 = .ok (.iconst (-1), 1) := by decide +kernel
theorem dL_kind_10 : decode cL_kind 10 = .ok (.istore 5, 2) := by decide +kernel
theorem dL_kind_12 : decode cL_kind 12 = .ok (.iconst (-1), 1) := by decide +kernel
theorem dL_kind_13 : decode cL_kind 13 = .ok (.istore 6, 2) := by decide +kernel
theorem dL_kind_15 : decode cL_kind 15 = .ok (.iconst (-1), 1) := by decide +kernel
theorem dL_kind_16 : decode cL_kind 16 = .ok (.istore 7, 2) := by decide +kernel
theorem dL_kind_18 : decode cL_kind 18 = .ok (.iconst (-1), 1) := by decide +kernel
theorem dL_kind_19 : decode cL_kind 19 = .ok (.istore 8, 2) := by decide +kernel
theorem dL_kind_21 : decode cL_kind 21 = .ok (.iconst (-1), 1) := by decide +kernel
theorem dL_kind_22 : decode cL_kind 22 = .ok (.istore 9, 2) := by decide +kernel
theorem dL_kind_24 : decode cL_kind 24 = .ok (.aload_n 0, 1) := by decide +kernel
theorem dL_kind_25 : decode cL_kind 25 = .ok (.iload_n 1, 1) := by decide +kernel
theorem dL_kind_26 : decode cL_kind 26 = .ok (.iconst 0, 1) := by decide +kernel
theorem dL_kind_27 : decode cL_kind 27 = .ok (.invokestatic 122, 3) := by decide +kernel
theorem dL_kind_30 : decode cL_kind 30 = .ok (.istore 10, 2) := by decide +kernel
theorem dL_kind_32 : decode cL_kind 32 = .ok (.iconst 1, 1) := by decide +kernel
theorem dL_kind_33 : decode cL_kind 33 = .ok (.istore 11, 2) := by decide +kernel
theorem dL_kind_35 : decode cL_kind 35 = .ok (.bipush 15, 2) := by decide +kernel
theorem dL_kind_37 : decode cL_kind 37 = .ok (.istore 12, 2) := by decide +kernel
theorem dL_kind_39 : decode cL_kind 39 = .ok (.iload 12, 2) := by decide +kernel
theorem dL_kind_41 : decode cL_kind 41 = .ok (.ifCond .lt 354, 3) := by decide +kernel
theorem dL_kind_44 : decode cL_kind 44 = .ok (.iload 11, 2) := by decide +kernel
theorem dL_kind_46 : decode cL_kind 46 = .ok (.ifCond .eq 349, 3) := by decide +kernel
theorem dL_kind_49 : decode cL_kind 49 = .ok (.aload_n 0, 1) := by decide +kernel
theorem dL_kind_50 : decode cL_kind 50 = .ok (.iload_n 1, 1) := by decide +kernel
theorem dL_kind_51 : decode cL_kind 51 = .ok (.iload 12, 2) := by decide +kernel
theorem dL_kind_53 : decode cL_kind 53 = .ok (.iconst 0, 1) := by decide +kernel
theorem dL_kind_54 : decode cL_kind 54 = .ok (.invokestatic 124, 3) := by decide +kernel
theorem dL_kind_57 : decode cL_kind 57 = .ok (.istore 13, 2) := by decide +kernel
theorem dL_kind_59 : decode cL_kind 59 = .ok (.aload_n 0, 1) := by decide +kernel
theorem dL_kind_60 : decode cL_kind 60 = .ok (.iload_n 1, 1) := by decide +kernel
theorem dL_kind_61 : decode cL_kind 61 = .ok (.iload 12, 2) := by decide +kernel
theorem dL_kind_63 : decode cL_kind 63 = .ok (.iconst 1, 1) := by decide +kernel
theorem dL_kind_64 : decode cL_kind 64 = .ok (.invokestatic 124, 3) := by decide +kernel
theorem dL_kind_67 : decode cL_kind 67 = .ok (.istore 14, 2) := by decide +kernel
theorem dL_kind_69 : decode cL_kind 69 = .ok (.aload_n 0, 1) := by decide +kernel
theorem dL_kind_70 : decode cL_kind 70 = .ok (.iload_n 1, 1) := by decide +kernel
theorem dL_kind_71 : decode cL_kind 71 = .ok (.iload 12, 2) := by decide +kernel
theorem dL_kind_73 : decode cL_kind 73 = .ok (.iconst 2, 1) := by decide +kernel
theorem dL_kind_74 : decode cL_kind 74 = .ok (.invokestatic 124, 3) := by decide +kernel
theorem dL_kind_77 : decode cL_kind 77 = .ok (.istore 15, 2) := by decide +kernel
theorem dL_kind_79 : decode cL_kind 79 = .ok (.aload_n 0, 1) := by decide +kernel
theorem dL_kind_80 : decode cL_kind 80 = .ok (.iload_n 1, 1) := by decide +kernel
theorem dL_kind_81 : decode cL_kind 81 = .ok (.iload 12, 2) := by decide +kernel
theorem dL_kind_83 : decode cL_kind 83 = .ok (.iconst 3, 1) := by decide +kernel
theorem dL_kind_84 : decode cL_kind 84 = .ok (.invokestatic 124, 3) := by decide +kernel
theorem dL_kind_87 : decode cL_kind 87 = .ok (.istore 16, 2) := by decide +kernel
theorem dL_kind_89 : decode cL_kind 89 = .ok (.aload_n 0, 1) := by decide +kernel
theorem dL_kind_90 : decode cL_kind 90 = .ok (.iload_n 1, 1) := by decide +kernel
theorem dL_kind_91 : decode cL_kind 91 = .ok (.iload 12, 2) := by decide +kernel
theorem dL_kind_93 : decode cL_kind 93 = .ok (.iconst 4, 1) := by decide +kernel
theorem dL_kind_94 : decode cL_kind 94 = .ok (.invokestatic 124, 3) := by decide +kernel
theorem dL_kind_97 : decode cL_kind 97 = .ok (.istore 17, 2) := by decide +kernel
theorem dL_kind_99 : decode cL_kind 99 = .ok (.iload 13, 2) := by decide +kernel
theorem dL_kind_101 : decode cL_kind 101 = .ok (.ifCond .lt 106, 3) := by decide +kernel
theorem dL_kind_104 : decode cL_kind 104 = .ok (.iload 13, 2) := by decide +kernel
theorem dL_kind_106 : decode cL_kind 106 = .ok (.iconst 4, 1) := by decide +kernel
theorem dL_kind_107 : decode cL_kind 107 = .ok (.if_icmp .ge 100, 3) := by decide +kernel
theorem dL_kind_110 : decode cL_kind 110 = .ok (.iload 13, 2) := by decide +kernel
theorem dL_kind_112 : decode cL_kind 112 = .ok (.ifCond .ne 7, 3) := by decide +kernel
theorem dL_kind_115 : decode cL_kind 115 = .ok (.iconst 1, 1) := by decide +kernel
theorem dL_kind_116 : decode cL_kind 116 = .ok (.goto 4, 3) := by decide +kernel
theorem dL_kind_119 : decode cL_kind 119 = .ok (.iconst 0, 1) := by decide +kernel
theorem dL_kind_120 : decode cL_kind 120 = .ok (.iload 14, 2) := by decide +kernel
theorem dL_kind_122 : decode cL_kind 122 = .ok (.ifCond .ne 7, 3) := by decide +kernel
theorem dL_kind_125 : decode cL_kind 125 = .ok (.iconst 1, 1) := by decide +kernel
theorem dL_kind_126 : decode cL_kind 126 = .ok (.goto 4, 3) := by decide +kernel
theorem dL_kind_129 : decode cL_kind 129 = .ok (.iconst 0, 1) := by decide +kernel
theorem dL_kind_130 : decode cL_kind 130 = .ok (.if_icmp .ne 77, 3) := by decide +kernel
theorem dL_kind_133 : decode cL_kind 133 = .ok (.iload 13, 2) := by decide +kernel
theorem dL_kind_135 : decode cL_kind 135 = .ok (.iconst 2, 1) := by decide +kernel
theorem dL_kind_136 : decode cL_kind 136 = .ok (.if_icmp .ne 49, 3) := by decide +kernel
theorem dL_kind_139 : decode cL_kind 139 = .ok (.iload 15, 2) := by decide +kernel
theorem dL_kind_141 : decode cL_kind 141 = .ok (.ifCond .lt 66, 3) := by decide +kernel
theorem dL_kind_144 : decode cL_kind 144 = .ok (.aload_n 0, 1) := by decide +kernel
theorem dL_kind_145 : decode cL_kind 145 = .ok (.iload_n 1, 1) := by decide +kernel
theorem dL_kind_146 : decode cL_kind 146 = .ok (.iload 15, 2) := by decide +kernel
theorem dL_kind_148 : decode cL_kind 148 = .ok (.invokestatic 126, 3) := by decide +kernel
theorem dL_kind_151 : decode cL_kind 151 = .ok (.iload 12, 2) := by decide +kernel
theorem dL_kind_153 : decode cL_kind 153 = .ok (.if_icmp .ne 54, 3) := by decide +kernel
theorem dL_kind_156 : decode cL_kind 156 = .ok (.iload 16, 2) := by decide +kernel
theorem dL_kind_158 : decode cL_kind 158 = .ok (.ifCond .lt 49, 3) := by decide +kernel
theorem dL_kind_161 : decode cL_kind 161 = .ok (.iload 17, 2) := by decide +kernel
theorem dL_kind_163 : decode cL_kind 163 = .ok (.iload 16, 2) := by decide +kernel
theorem dL_kind_165 : decode cL_kind 165 = .ok (.iload 10, 2) := by decide +kernel
theorem dL_kind_167 : decode cL_kind 167 = .ok (.if_icmp .ge 11, 3) := by decide +kernel
theorem dL_kind_170 : decode cL_kind 170 = .ok (.iload 10, 2) := by decide +kernel
theorem dL_kind_172 : decode cL_kind 172 = .ok (.iload 16, 2) := by decide +kernel
theorem dL_kind_174 : decode cL_kind 174 = .ok (.isub, 1) := by decide +kernel
theorem dL_kind_175 : decode cL_kind 175 = .ok (.goto 4, 3) := by decide +kernel
theorem dL_kind_178 : decode cL_kind 178 = .ok (.iconst 0, 1) := by decide +kernel
theorem dL_kind_179 : decode cL_kind 179 = .ok (.if_icmp .ne 28, 3) := by decide +kernel
theorem dL_kind_182 : decode cL_kind 182 = .ok (.goto 21, 3) := by decide +kernel
theorem dL_kind_185 : decode cL_kind 185 = .ok (.iload 15, 2) := by decide +kernel
theorem dL_kind_187 : decode cL_kind 187 = .ok (.iconst (-1), 1) := by decide +kernel
theorem dL_kind_188 : decode cL_kind 188 = .ok (.if_icmp .ne 19, 3) := by decide +kernel
theorem dL_kind_191 : decode cL_kind 191 = .ok (.iload 16, 2) := by decide +kernel
theorem dL_kind_193 : decode cL_kind 193 = .ok (.iconst (-1), 1) := by decide +kernel
theorem dL_kind_194 : decode cL_kind 194 = .ok (.if_icmp .ne 13, 3) := by decide +kernel
theorem dL_kind_197 : decode cL_kind 197 = .ok (.iload 17, 2) := by decide +kernel
theorem dL_kind_199 : decode cL_kind 199 = .ok (.iconst (-1), 1) := by decide +kernel
theorem dL_kind_200 : decode cL_kind 200 = .ok (.if_icmp .ne 7, 3) := by decide +kernel
theorem dL_kind_203 : decode cL_kind 203 = .ok (.iconst 1, 1) := by decide +kernel
theorem dL_kind_204 : decode cL_kind 204 = .ok (.goto 4, 3) := by decide +kernel
theorem dL_kind_207 : decode cL_kind 207 = .ok (.iconst 0, 1) := by decide +kernel
theorem dL_kind_208 : decode cL_kind 208 = .ok (.istore 11, 2) := by decide +kernel
theorem dL_kind_210 : decode cL_kind 210 = .ok (.iload 11, 2) := by decide +kernel
theorem dL_kind_212 : decode cL_kind 212 = .ok (.ifCond .eq 177, 3) := by decide +kernel
theorem dL_kind_215 : decode cL_kind 215 = .ok (.aload_n 2, 1) := by decide +kernel
theorem dL_kind_216 : decode cL_kind 216 = .ok (.iload 13, 2) := by decide +kernel
theorem dL_kind_218 : decode cL_kind 218 = .ok (.dup2, 1) := by decide +kernel
theorem dL_kind_219 : decode cL_kind 219 = .ok (.iaload, 1) := by decide +kernel
theorem dL_kind_220 : decode cL_kind 220 = .ok (.iconst 1, 1) := by decide +kernel
theorem dL_kind_221 : decode cL_kind 221 = .ok (.iadd, 1) := by decide +kernel
theorem dL_kind_222 : decode cL_kind 222 = .ok (.iastore, 1) := by decide +kernel
theorem dL_kind_223 : decode cL_kind 223 = .ok (.iload 13, 2) := by decide +kernel
theorem dL_kind_225 : decode cL_kind 225 = .ok (.ifCond .eq 14, 3) := by decide +kernel
theorem dL_kind_228 : decode cL_kind 228 = .ok (.iload 13, 2) := by decide +kernel
theorem dL_kind_230 : decode cL_kind 230 = .ok (.iconst 2, 1) := by decide +kernel
theorem dL_kind_231 : decode cL_kind 231 = .ok (.if_icmp .ne 12, 3) := by decide +kernel
theorem dL_kind_234 : decode cL_kind 234 = .ok (.iload 17, 2) := by decide +kernel
theorem dL_kind_236 : decode cL_kind 236 = .ok (.ifCond .ne 7, 3) := by decide +kernel
theorem dL_kind_239 : decode cL_kind 239 = .ok (.iconst 1, 1) := by decide +kernel
theorem dL_kind_240 : decode cL_kind 240 = .ok (.goto 4, 3) := by decide +kernel
theorem dL_kind_243 : decode cL_kind 243 = .ok (.iconst 0, 1) := by decide +kernel
theorem dL_kind_244 : decode cL_kind 244 = .ok (.istore 18, 2) := by decide +kernel
theorem dL_kind_246 : decode cL_kind 246 = .ok (.iload_n 3, 1) := by decide +kernel
theorem dL_kind_247 : decode cL_kind 247 = .ok (.iload 13, 2) := by decide +kernel
theorem dL_kind_249 : decode cL_kind 249 = .ok (.iconst 2, 1) := by decide +kernel
theorem dL_kind_250 : decode cL_kind 250 = .ok (.if_icmp .ne 12, 3) := by decide +kernel
theorem dL_kind_253 : decode cL_kind 253 = .ok (.iload 17, 2) := by decide +kernel
theorem dL_kind_255 : decode cL_kind 255 = .ok (.ifCond .ne 7, 3) := by decide +kernel
theorem dL_kind_258 : decode cL_kind 258 = .ok (.iconst 1, 1) := by decide +kernel
theorem dL_kind_259 : decode cL_kind 259 = .ok (.goto 4, 3) := by decide +kernel
theorem dL_kind_262 : decode cL_kind 262 = .ok (.iconst 0, 1) := by decide +kernel
theorem dL_kind_263 : decode cL_kind 263 = .ok (.iadd, 1) := by decide +kernel
theorem dL_kind_264 : decode cL_kind 264 = .ok (.istore_n 3, 1) := by decide +kernel
theorem dL_kind_265 : decode cL_kind 265 = .ok (.iload 4, 2) := by decide +kernel
theorem dL_kind_267 : decode cL_kind 267 = .ok (.iload 18, 2) := by decide +kernel
theorem dL_kind_269 : decode cL_kind 269 = .ok (.ifCond .eq 7, 3) := by decide +kernel
theorem dL_kind_272 : decode cL_kind 272 = .ok (.iconst 1, 1) := by decide +kernel
theorem dL_kind_273 : decode cL_kind 273 = .ok (.goto 4, 3) := by decide +kernel
theorem dL_kind_276 : decode cL_kind 276 = .ok (.iconst 0, 1) := by decide +kernel
theorem dL_kind_277 : decode cL_kind 277 = .ok (.iadd, 1) := by decide +kernel
theorem dL_kind_278 : decode cL_kind 278 = .ok (.istore 4, 2) := by decide +kernel
theorem dL_kind_280 : decode cL_kind 280 = .ok (.iload 13, 2) := by decide +kernel
theorem dL_kind_282 : decode cL_kind 282 = .ok (.ifCond .ne 8, 3) := by decide +kernel
theorem dL_kind_285 : decode cL_kind 285 = .ok (.iload 12, 2) := by decide +kernel
theorem dL_kind_287 : decode cL_kind 287 = .ok (.goto 5, 3) := by decide +kernel
theorem dL_kind_290 : decode cL_kind 290 = .ok (.iload 8, 2) := by decide +kernel
theorem dL_kind_292 : decode cL_kind 292 = .ok (.istore 8, 2) := by decide +kernel
theorem dL_kind_294 : decode cL_kind 294 = .ok (.iload 18, 2) := by decide +kernel
theorem dL_kind_296 : decode cL_kind 296 = .ok (.ifCond .eq 8, 3) := by decide +kernel
theorem dL_kind_299 : decode cL_kind 299 = .ok (.iload 12, 2) := by decide +kernel
theorem dL_kind_301 : decode cL_kind 301 = .ok (.goto 5, 3) := by decide +kernel
theorem dL_kind_304 : decode cL_kind 304 = .ok (.iload 7, 2) := by decide +kernel
theorem dL_kind_306 : decode cL_kind 306 = .ok (.istore 7, 2) := by decide +kernel
theorem dL_kind_308 : decode cL_kind 308 = .ok (.iload 18, 2) := by decide +kernel
theorem dL_kind_310 : decode cL_kind 310 = .ok (.ifCond .eq 26, 3) := by decide +kernel
theorem dL_kind_313 : decode cL_kind 313 = .ok (.iload 9, 2) := by decide +kernel
theorem dL_kind_315 : decode cL_kind 315 = .ok (.ifCond .lt 16, 3) := by decide +kernel
theorem dL_kind_318 : decode cL_kind 318 = .ok (.iload 14, 2) := by decide +kernel
theorem dL_kind_320 : decode cL_kind 320 = .ok (.aload_n 0, 1) := by decide +kernel
theorem dL_kind_321 : decode cL_kind 321 = .ok (.iload_n 1, 1) := by decide +kernel
theorem dL_kind_322 : decode cL_kind 322 = .ok (.iload 9, 2) := by decide +kernel
theorem dL_kind_324 : decode cL_kind 324 = .ok (.iconst 1, 1) := by decide +kernel
theorem dL_kind_325 : decode cL_kind 325 = .ok (.invokestatic 124, 3) := by decide +kernel
theorem dL_kind_328 : decode cL_kind 328 = .ok (.if_icmp .gt 8, 3) := by decide +kernel
theorem dL_kind_331 : decode cL_kind 331 = .ok (.iload 12, 2) := by decide +kernel
theorem dL_kind_333 : decode cL_kind 333 = .ok (.goto 5, 3) := by decide +kernel
theorem dL_kind_336 : decode cL_kind 336 = .ok (.iload 9, 2) := by decide +kernel
theorem dL_kind_338 : decode cL_kind 338 = .ok (.istore 9, 2) := by decide +kernel
theorem dL_kind_340 : decode cL_kind 340 = .ok (.iload 13, 2) := by decide +kernel
theorem dL_kind_342 : decode cL_kind 342 = .ok (.iconst 2, 1) := by decide +kernel
theorem dL_kind_343 : decode cL_kind 343 = .ok (.if_icmp .ne 20, 3) := by decide +kernel
theorem dL_kind_346 : decode cL_kind 346 = .ok (.iload 5, 2) := by decide +kernel
theorem dL_kind_348 : decode cL_kind 348 = .ok (.ifCond .lt 10, 3) := by decide +kernel
theorem dL_kind_351 : decode cL_kind 351 = .ok (.iload 17, 2) := by decide +kernel
theorem dL_kind_353 : decode cL_kind 353 = .ok (.iload 5, 2) := by decide +kernel
theorem dL_kind_355 : decode cL_kind 355 = .ok (.if_icmp .ge 8, 3) := by decide +kernel
theorem dL_kind_358 : decode cL_kind 358 = .ok (.iload 17, 2) := by decide +kernel
theorem dL_kind_360 : decode cL_kind 360 = .ok (.goto 5, 3) := by decide +kernel
theorem dL_kind_363 : decode cL_kind 363 = .ok (.iload 5, 2) := by decide +kernel
theorem dL_kind_365 : decode cL_kind 365 = .ok (.istore 5, 2) := by decide +kernel
theorem dL_kind_367 : decode cL_kind 367 = .ok (.iload 13, 2) := by decide +kernel
theorem dL_kind_369 : decode cL_kind 369 = .ok (.iconst 2, 1) := by decide +kernel
theorem dL_kind_370 : decode cL_kind 370 = .ok (.if_icmp .ne 15, 3) := by decide +kernel
theorem dL_kind_373 : decode cL_kind 373 = .ok (.iload 16, 2) := by decide +kernel
theorem dL_kind_375 : decode cL_kind 375 = .ok (.iload 6, 2) := by decide +kernel
theorem dL_kind_377 : decode cL_kind 377 = .ok (.if_icmp .le 8, 3) := by decide +kernel
theorem dL_kind_380 : decode cL_kind 380 = .ok (.iload 16, 2) := by decide +kernel
theorem dL_kind_382 : decode cL_kind 382 = .ok (.goto 5, 3) := by decide +kernel
theorem dL_kind_385 : decode cL_kind 385 = .ok (.iload 6, 2) := by decide +kernel
theorem dL_kind_387 : decode cL_kind 387 = .ok (.istore 6, 2) := by decide +kernel
theorem dL_kind_389 : decode cL_kind 389 = .ok (.iinc 12 (-1), 3) := by decide +kernel
theorem dL_kind_392 : decode cL_kind 392 = .ok (.goto (-353), 3) := by decide +kernel
theorem dL_kind_395 : decode cL_kind 395 = .ok (.iconst (-1), 1) := by decide +kernel
theorem dL_kind_396 : decode cL_kind 396 = .ok (.istore 12, 2) := by decide +kernel
theorem dL_kind_398 : decode cL_kind 398 = .ok (.aload_n 2, 1) := by decide +kernel
theorem dL_kind_399 : decode cL_kind 399 = .ok (.iconst 2, 1) := by decide +kernel
theorem dL_kind_400 : decode cL_kind 400 = .ok (.iaload, 1) := by decide +kernel
theorem dL_kind_401 : decode cL_kind 401 = .ok (.iconst 1, 1) := by decide +kernel
theorem dL_kind_402 : decode cL_kind 402 = .ok (.isub, 1) := by decide +kernel
theorem dL_kind_403 : decode cL_kind 403 = .ok (.istore 13, 2) := by decide +kernel
theorem dL_kind_405 : decode cL_kind 405 = .ok (.iload 13, 2) := by decide +kernel
theorem dL_kind_407 : decode cL_kind 407 = .ok (.ifCond .lt 44, 3) := by decide +kernel
theorem dL_kind_410 : decode cL_kind 410 = .ok (.iload 11, 2) := by decide +kernel
theorem dL_kind_412 : decode cL_kind 412 = .ok (.ifCond .eq 39, 3) := by decide +kernel
theorem dL_kind_415 : decode cL_kind 415 = .ok (.aload_n 0, 1) := by decide +kernel
theorem dL_kind_416 : decode cL_kind 416 = .ok (.iload_n 1, 1) := by decide +kernel
theorem dL_kind_417 : decode cL_kind 417 = .ok (.aload_n 0, 1) := by decide +kernel
theorem dL_kind_418 : decode cL_kind 418 = .ok (.iload_n 1, 1) := by decide +kernel
theorem dL_kind_419 : decode cL_kind 419 = .ok (.iload 13, 2) := by decide +kernel
theorem dL_kind_421 : decode cL_kind 421 = .ok (.invokestatic 126, 3) := by decide +kernel
theorem dL_kind_424 : decode cL_kind 424 = .ok (.iconst 4, 1) := by decide +kernel
theorem dL_kind_425 : decode cL_kind 425 = .ok (.invokestatic 124, 3) := by decide +kernel
theorem dL_kind_428 : decode cL_kind 428 = .ok (.ifCond .ne 13, 3) := by decide +kernel
theorem dL_kind_431 : decode cL_kind 431 = .ok (.aload_n 0, 1) := by decide +kernel
theorem dL_kind_432 : decode cL_kind 432 = .ok (.iload_n 1, 1) := by decide +kernel
theorem dL_kind_433 : decode cL_kind 433 = .ok (.iload 13, 2) := by decide +kernel
theorem dL_kind_435 : decode cL_kind 435 = .ok (.invokestatic 126, 3) := by decide +kernel
theorem dL_kind_438 : decode cL_kind 438 = .ok (.goto 5, 3) := by decide +kernel
theorem dL_kind_441 : decode cL_kind 441 = .ok (.iload 12, 2) := by decide +kernel
theorem dL_kind_443 : decode cL_kind 443 = .ok (.istore 12, 2) := by decide +kernel
theorem dL_kind_445 : decode cL_kind 445 = .ok (.iinc 13 (-1), 3) := by decide +kernel
theorem dL_kind_448 : decode cL_kind 448 = .ok (.goto (-43), 3) := by decide +kernel
theorem dL_kind_451 : decode cL_kind 451 = .ok (.aload_n 0, 1) := by decide +kernel
theorem dL_kind_452 : decode cL_kind 452 = .ok (.iconst 0, 1) := by decide +kernel
theorem dL_kind_453 : decode cL_kind 453 = .ok (.invokestatic 128, 3) := by decide +kernel
theorem dL_kind_456 : decode cL_kind 456 = .ok (.istore 13, 2) := by decide +kernel
theorem dL_kind_458 : decode cL_kind 458 = .ok (.iload 13, 2) := by decide +kernel
theorem dL_kind_460 : decode cL_kind 460 = .ok (.ifCond .ne 18, 3) := by decide +kernel
theorem dL_kind_463 : decode cL_kind 463 = .ok (.iload 8, 2) := by decide +kernel
theorem dL_kind_465 : decode cL_kind 465 = .ok (.ifCond .lt 8, 3) := by decide +kernel
theorem dL_kind_468 : decode cL_kind 468 = .ok (.iload 8, 2) := by decide +kernel
theorem dL_kind_470 : decode cL_kind 470 = .ok (.goto 42, 3) := by decide +kernel
theorem dL_kind_473 : decode cL_kind 473 = .ok (.iload 12, 2) := by decide +kernel
theorem dL_kind_475 : decode cL_kind 475 = .ok (.goto 37, 3) := by decide +kernel
theorem dL_kind_478 : decode cL_kind 478 = .ok (.iload 13, 2) := by decide +kernel
theorem dL_kind_480 : decode cL_kind 480 = .ok (.iconst 1, 1) := by decide +kernel
theorem dL_kind_481 : decode cL_kind 481 = .ok (.if_icmp .ne 18, 3) := by decide +kernel
theorem dL_kind_484 : decode cL_kind 484 = .ok (.iload 12, 2) := by decide +kernel
theorem dL_kind_486 : decode cL_kind 486 = .ok (.ifCond .lt 8, 3) := by decide +kernel
theorem dL_kind_489 : decode cL_kind 489 = .ok (.iload 12, 2) := by decide +kernel
theorem dL_kind_491 : decode cL_kind 491 = .ok (.goto 21, 3) := by decide +kernel
theorem dL_kind_494 : decode cL_kind 494 = .ok (.iload 8, 2) := by decide +kernel
theorem dL_kind_496 : decode cL_kind 496 = .ok (.goto 16, 3) := by decide +kernel
theorem dL_kind_499 : decode cL_kind 499 = .ok (.iload 13, 2) := by decide +kernel
theorem dL_kind_501 : decode cL_kind 501 = .ok (.iconst 2, 1) := by decide +kernel
theorem dL_kind_502 : decode cL_kind 502 = .ok (.if_icmp .ne 8, 3) := by decide +kernel
theorem dL_kind_505 : decode cL_kind 505 = .ok (.iload 7, 2) := by decide +kernel
theorem dL_kind_507 : decode cL_kind 507 = .ok (.goto 5, 3) := by decide +kernel
theorem dL_kind_510 : decode cL_kind 510 = .ok (.iload 9, 2) := by decide +kernel
theorem dL_kind_512 : decode cL_kind 512 = .ok (.istore 14, 2) := by decide +kernel
theorem dL_kind_514 : decode cL_kind 514 = .ok (.aload_n 0, 1) := by decide +kernel
theorem dL_kind_515 : decode cL_kind 515 = .ok (.iload_n 1, 1) := by decide +kernel
theorem dL_kind_516 : decode cL_kind 516 = .ok (.invokestatic 130, 3) := by decide +kernel
theorem dL_kind_519 : decode cL_kind 519 = .ok (.istore 15, 2) := by decide +kernel
theorem dL_kind_521 : decode cL_kind 521 = .ok (.iload 11, 2) := by decide +kernel
theorem dL_kind_523 : decode cL_kind 523 = .ok (.ifCond .eq 111, 3) := by decide +kernel
theorem dL_kind_526 : decode cL_kind 526 = .ok (.aload_n 0, 1) := by decide +kernel
theorem dL_kind_527 : decode cL_kind 527 = .ok (.iload_n 1, 1) := by decide +kernel
theorem dL_kind_528 : decode cL_kind 528 = .ok (.aload_n 2, 1) := by decide +kernel
theorem dL_kind_529 : decode cL_kind 529 = .ok (.iconst 2, 1) := by decide +kernel
theorem dL_kind_530 : decode cL_kind 530 = .ok (.iaload, 1) := by decide +kernel
theorem dL_kind_531 : decode cL_kind 531 = .ok (.invokestatic 126, 3) := by decide +kernel
theorem dL_kind_534 : decode cL_kind 534 = .ok (.iconst (-1), 1) := by decide +kernel
theorem dL_kind_535 : decode cL_kind 535 = .ok (.if_icmp .ne 99, 3) := by decide +kernel
theorem dL_kind_538 : decode cL_kind 538 = .ok (.iload 15, 2) := by decide +kernel
theorem dL_kind_540 : decode cL_kind 540 = .ok (.iload 14, 2) := by decide +kernel
theorem dL_kind_542 : decode cL_kind 542 = .ok (.ifCond .lt 8, 3) := by decide +kernel
theorem dL_kind_545 : decode cL_kind 545 = .ok (.iload 14, 2) := by decide +kernel
theorem dL_kind_547 : decode cL_kind 547 = .ok (.goto 16, 3) := by decide +kernel
theorem dL_kind_550 : decode cL_kind 550 = .ok (.aload_n 2, 1) := by decide +kernel
theorem dL_kind_551 : decode cL_kind 551 = .ok (.iconst 2, 1) := by decide +kernel
theorem dL_kind_552 : decode cL_kind 552 = .ok (.iaload, 1) := by decide +kernel
theorem dL_kind_553 : decode cL_kind 553 = .ok (.ifCond .ne 8, 3) := by decide +kernel
theorem dL_kind_556 : decode cL_kind 556 = .ok (.bipush 101, 2) := by decide +kernel
theorem dL_kind_558 : decode cL_kind 558 = .ok (.goto 5, 3) := by decide +kernel
theorem dL_kind_561 : decode cL_kind 561 = .ok (.bipush 102, 2) := by decide +kernel
theorem dL_kind_563 : decode cL_kind 563 = .ok (.if_icmp .ne 71, 3) := by decide +kernel
theorem dL_kind_566 : decode cL_kind 566 = .ok (.aload_n 0, 1) := by decide +kernel
theorem dL_kind_567 : decode cL_kind 567 = .ok (.iload_n 1, 1) := by decide +kernel
theorem dL_kind_568 : decode cL_kind 568 = .ok (.iconst 1, 1) := by decide +kernel
theorem dL_kind_569 : decode cL_kind 569 = .ok (.invokestatic 132, 3) := by decide +kernel
theorem dL_kind_572 : decode cL_kind 572 = .ok (.iload 14, 2) := by decide +kernel
theorem dL_kind_574 : decode cL_kind 574 = .ok (.if_icmp .ne 60, 3) := by decide +kernel
theorem dL_kind_577 : decode cL_kind 577 = .ok (.iload 4, 2) := by decide +kernel
theorem dL_kind_579 : decode cL_kind 579 = .ok (.ifCond .le 36, 3) := by decide +kernel
theorem dL_kind_582 : decode cL_kind 582 = .ok (.iload 4, 2) := by decide +kernel
theorem dL_kind_584 : decode cL_kind 584 = .ok (.bipush 16, 2) := by decide +kernel
theorem dL_kind_586 : decode cL_kind 586 = .ok (.if_icmp .ge 29, 3) := by decide +kernel
theorem dL_kind_589 : decode cL_kind 589 = .ok (.aload_n 0, 1) := by decide +kernel
theorem dL_kind_590 : decode cL_kind 590 = .ok (.iload_n 1, 1) := by decide +kernel
theorem dL_kind_591 : decode cL_kind 591 = .ok (.iload 4, 2) := by decide +kernel
theorem dL_kind_593 : decode cL_kind 593 = .ok (.invokestatic 132, 3) := by decide +kernel
theorem dL_kind_596 : decode cL_kind 596 = .ok (.ifCond .lt 38, 3) := by decide +kernel
theorem dL_kind_599 : decode cL_kind 599 = .ok (.aload_n 0, 1) := by decide +kernel
theorem dL_kind_600 : decode cL_kind 600 = .ok (.iload_n 1, 1) := by decide +kernel
theorem dL_kind_601 : decode cL_kind 601 = .ok (.iload 4, 2) := by decide +kernel
theorem dL_kind_603 : decode cL_kind 603 = .ok (.iconst 1, 1) := by decide +kernel
theorem dL_kind_604 : decode cL_kind 604 = .ok (.iadd, 1) := by decide +kernel
theorem dL_kind_605 : decode cL_kind 605 = .ok (.invokestatic 132, 3) := by decide +kernel
theorem dL_kind_608 : decode cL_kind 608 = .ok (.iconst (-1), 1) := by decide +kernel
theorem dL_kind_609 : decode cL_kind 609 = .ok (.if_icmp .ne 25, 3) := by decide +kernel
