theorem dX0_init_0 : decode cX0_init 0 = .ok (.aload_n 0, 1) := by decide +kernel
theorem dX0_init_1 : decode cX0_init 1 = .ok (.invokespecial 3, 3) := by decide +kernel
theorem dX0_init_4 : decode cX0_init 4 = .ok (.aload_n 0, 1) := by decide +kernel
theorem dX0_init_5 : decode cX0_init 5 = .ok (.iconst 4, 1) := by decide +kernel
theorem dX0_init_6 : decode cX0_init 6 = .ok (.newarray .int, 2) := by decide +kernel
theorem dX0_init_8 : decode cX0_init 8 = .ok (.putfield 9, 3) := by decide +kernel
theorem dX0_init_11 : decode cX0_init 11 = .ok (.aload_n 0, 1) := by decide +kernel
theorem dX0_init_12 : decode cX0_init 12 = .ok (.iconst 4, 1) := by decide +kernel
theorem dX0_init_13 : decode cX0_init 13 = .ok (.newarray .int, 2) := by decide +kernel
theorem dX0_init_15 : decode cX0_init 15 = .ok (.putfield 15, 3) := by decide +kernel
theorem dX0_init_18 : decode cX0_init 18 = .ok (.aload_n 0, 1) := by decide +kernel
theorem dX0_init_19 : decode cX0_init 19 = .ok (.iconst 4, 1) := by decide +kernel
theorem dX0_init_20 : decode cX0_init 20 = .ok (.newarray .int, 2) := by decide +kernel
theorem dX0_init_22 : decode cX0_init 22 = .ok (.putfield 18, 3) := by decide +kernel
theorem dX0_init_25 : decode cX0_init 25 = .ok (.aload_n 0, 1) := by decide +kernel
theorem dX0_init_26 : decode cX0_init 26 = .ok (.iconst 4, 1) := by decide +kernel
theorem dX0_init_27 : decode cX0_init 27 = .ok (.newarray .int, 2) := by decide +kernel
theorem dX0_init_29 : decode cX0_init 29 = .ok (.putfield 21, 3) := by decide +kernel
theorem dX0_init_32 : decode cX0_init 32 = .ok (.aload_n 0, 1) := by decide +kernel
theorem dX0_init_33 : decode cX0_init 33 = .ok (.iconst 4, 1) := by decide +kernel
theorem dX0_init_34 : decode cX0_init 34 = .ok (.newarray .int, 2) := by decide +kernel
theorem dX0_init_36 : decode cX0_init 36 = .ok (.putfield 24, 3) := by decide +kernel
theorem dX0_init_39 : decode cX0_init 39 = .ok (.return_, 1) := by decide +kernel
theorem dX0_copyFrom_0 : decode cX0_copyFrom 0 = .ok (.aload_n 1, 1) := by decide +kernel
theorem dX0_copyFrom_1 : decode cX0_copyFrom 1 = .ok (.getfield 9, 3) := by decide +kernel
theorem dX0_copyFrom_4 : decode cX0_copyFrom 4 = .ok (.iconst 0, 1) := by decide +kernel
theorem dX0_copyFrom_5 : decode cX0_copyFrom 5 = .ok (.aload_n 0, 1) := by decide +kernel
theorem dX0_copyFrom_6 : decode cX0_copyFrom 6 = .ok (.getfield 9, 3) := by decide +kernel
theorem dX0_copyFrom_9 : decode cX0_copyFrom 9 = .ok (.iconst 0, 1) := by decide +kernel
theorem dX0_copyFrom_10 : decode cX0_copyFrom 10 = .ok (.iconst 4, 1) := by decide +kernel
theorem dX0_copyFrom_11 : decode cX0_copyFrom 11 = .ok (.invokestatic 27, 3) := by decide +kernel
theorem dX0_copyFrom_14 : decode cX0_copyFrom 14 = .ok (.aload_n 1, 1) := by decide +kernel
theorem dX0_copyFrom_15 : decode cX0_copyFrom 15 = .ok (.getfield 15, 3) := by decide +kernel
theorem dX0_copyFrom_18 : decode cX0_copyFrom 18 = .ok (.iconst 0, 1) := by decide +kernel
theorem dX0_copyFrom_19 : decode cX0_copyFrom 19 = .ok (.aload_n 0, 1) := by decide +kernel
theorem dX0_copyFrom_20 : decode cX0_copyFrom 20 = .ok (.getfield 15, 3) := by decide +kernel
theorem dX0_copyFrom_23 : decode cX0_copyFrom 23 = .ok (.iconst 0, 1) := by decide +kernel
theorem dX0_copyFrom_24 : decode cX0_copyFrom 24 = .ok (.iconst 4, 1) := by decide +kernel
theorem dX0_copyFrom_25 : decode cX0_copyFrom 25 = .ok (.invokestatic 27, 3) := by decide +kernel
theorem dX0_copyFrom_28 : decode cX0_copyFrom 28 = .ok (.aload_n 1, 1) := by decide +kernel
theorem dX0_copyFrom_29 : decode cX0_copyFrom 29 = .ok (.getfield 18, 3) := by decide +kernel
theorem dX0_copyFrom_32 : decode cX0_copyFrom 32 = .ok (.iconst 0, 1) := by decide +kernel
theorem dX0_copyFrom_33 : decode cX0_copyFrom 33 = .ok (.aload_n 0, 1) := by decide +kernel
theorem dX0_copyFrom_34 : decode cX0_copyFrom 34 = .ok (.getfield 18, 3) := by decide +kernel
theorem dX0_copyFrom_37 : decode cX0_copyFrom 37 = .ok (.iconst 0, 1) := by decide +kernel
theorem dX0_copyFrom_38 : decode cX0_copyFrom 38 = .ok (.iconst 4, 1) := by decide +kernel
theorem dX0_copyFrom_39 : decode cX0_copyFrom 39 = .ok (.invokestatic 27, 3) := by decide +kernel
theorem dX0_copyFrom_42 : decode cX0_copyFrom 42 = .ok (.aload_n 1, 1) := by decide +kernel
theorem dX0_copyFrom_43 : decode cX0_copyFrom 43 = .ok (.getfield 21, 3) := by decide +kernel
theorem dX0_copyFrom_46 : decode cX0_copyFrom 46 = .ok (.iconst 0, 1) := by decide +kernel
theorem dX0_copyFrom_47 : decode cX0_copyFrom 47 = .ok (.aload_n 0, 1) := by decide +kernel
theorem dX0_copyFrom_48 : decode cX0_copyFrom 48 = .ok (.getfield 21, 3) := by decide +kernel
theorem dX0_copyFrom_51 : decode cX0_copyFrom 51 = .ok (.iconst 0, 1) := by decide +kernel
theorem dX0_copyFrom_52 : decode cX0_copyFrom 52 = .ok (.iconst 4, 1) := by decide +kernel
theorem dX0_copyFrom_53 : decode cX0_copyFrom 53 = .ok (.invokestatic 27, 3) := by decide +kernel
theorem dX0_copyFrom_56 : decode cX0_copyFrom 56 = .ok (.aload_n 1, 1) := by decide +kernel
theorem dX0_copyFrom_57 : decode cX0_copyFrom 57 = .ok (.getfield 24, 3) := by decide +kernel
theorem dX0_copyFrom_60 : decode cX0_copyFrom 60 = .ok (.iconst 0, 1) := by decide +kernel
theorem dX0_copyFrom_61 : decode cX0_copyFrom 61 = .ok (.aload_n 0, 1) := by decide +kernel
theorem dX0_copyFrom_62 : decode cX0_copyFrom 62 = .ok (.getfield 24, 3) := by decide +kernel
theorem dX0_copyFrom_65 : decode cX0_copyFrom 65 = .ok (.iconst 0, 1) := by decide +kernel
theorem dX0_copyFrom_66 : decode cX0_copyFrom 66 = .ok (.iconst 4, 1) := by decide +kernel
theorem dX0_copyFrom_67 : decode cX0_copyFrom 67 = .ok (.invokestatic 27, 3) := by decide +kernel
theorem dX0_copyFrom_70 : decode cX0_copyFrom 70 = .ok (.aload_n 0, 1) := by decide +kernel
theorem dX0_copyFrom_71 : decode cX0_copyFrom 71 = .ok (.aload_n 1, 1) := by decide +kernel
theorem dX0_copyFrom_72 : decode cX0_copyFrom 72 = .ok (.getfield 33, 3) := by decide +kernel
theorem dX0_copyFrom_75 : decode cX0_copyFrom 75 = .ok (.putfield 33, 3) := by decide +kernel
theorem dX0_copyFrom_78 : decode cX0_copyFrom 78 = .ok (.aload_n 0, 1) := by decide +kernel
theorem dX0_copyFrom_79 : decode cX0_copyFrom 79 = .ok (.aload_n 1, 1) := by decide +kernel
theorem dX0_copyFrom_80 : decode cX0_copyFrom 80 = .ok (.getfield 37, 3) := by decide +kernel
theorem dX0_copyFrom_83 : decode cX0_copyFrom 83 = .ok (.putfield 37, 3) := by decide +kernel
theorem dX0_copyFrom_86 : decode cX0_copyFrom 86 = .ok (.aload_n 0, 1) := by decide +kernel
theorem dX0_copyFrom_87 : decode cX0_copyFrom 87 = .ok (.aload_n 1, 1) := by decide +kernel
theorem dX0_copyFrom_88 : decode cX0_copyFrom 88 = .ok (.getfield 40, 3) := by decide +kernel
theorem dX0_copyFrom_91 : decode cX0_copyFrom 91 = .ok (.putfield 40, 3) := by decide +kernel
theorem dX0_copyFrom_94 : decode cX0_copyFrom 94 = .ok (.return_, 1) := by decide +kernel
theorem dX0_noteWithout_0 : decode cX0_noteWithout 0 = .ok (.aload_n 0, 1) := by decide +kernel
theorem dX0_noteWithout_1 : decode cX0_noteWithout 1 = .ok (.getfield 21, 3) := by decide +kernel
theorem dX0_noteWithout_4 : decode cX0_noteWithout 4 = .ok (.iload_n 1, 1) := by decide +kernel
theorem dX0_noteWithout_5 : decode cX0_noteWithout 5 = .ok (.dup2, 1) := by decide +kernel
theorem dX0_noteWithout_6 : decode cX0_noteWithout 6 = .ok (.iaload, 1) := by decide +kernel
theorem dX0_noteWithout_7 : decode cX0_noteWithout 7 = .ok (.iconst 1, 1) := by decide +kernel
theorem dX0_noteWithout_8 : decode cX0_noteWithout 8 = .ok (.iadd, 1) := by decide +kernel
theorem dX0_noteWithout_9 : decode cX0_noteWithout 9 = .ok (.iastore, 1) := by decide +kernel
theorem dX0_noteWithout_10 : decode cX0_noteWithout 10 = .ok (.iload_n 2, 1) := by decide +kernel
theorem dX0_noteWithout_11 : decode cX0_noteWithout 11 = .ok (.iconst 2, 1) := by decide +kernel
theorem dX0_noteWithout_12 : decode cX0_noteWithout 12 = .ok (.if_icmp .eq 8, 3) := by decide +kernel
theorem dX0_noteWithout_15 : decode cX0_noteWithout 15 = .ok (.iload_n 2, 1) := by decide +kernel
theorem dX0_noteWithout_16 : decode cX0_noteWithout 16 = .ok (.iconst 5, 1) := by decide +kernel
theorem dX0_noteWithout_17 : decode cX0_noteWithout 17 = .ok (.if_icmp .ne 13, 3) := by decide +kernel
theorem dX0_noteWithout_20 : decode cX0_noteWithout 20 = .ok (.aload_n 0, 1) := by decide +kernel
theorem dX0_noteWithout_21 : decode cX0_noteWithout 21 = .ok (.getfield 24, 3) := by decide +kernel
theorem dX0_noteWithout_24 : decode cX0_noteWithout 24 = .ok (.iload_n 1, 1) := by decide +kernel
theorem dX0_noteWithout_25 : decode cX0_noteWithout 25 = .ok (.dup2, 1) := by decide +kernel
theorem dX0_noteWithout_26 : decode cX0_noteWithout 26 = .ok (.iaload, 1) := by decide +kernel
theorem dX0_noteWithout_27 : decode cX0_noteWithout 27 = .ok (.iconst 1, 1) := by decide +kernel
theorem dX0_noteWithout_28 : decode cX0_noteWithout 28 = .ok (.iadd, 1) := by decide +kernel
theorem dX0_noteWithout_29 : decode cX0_noteWithout 29 = .ok (.iastore, 1) := by decide +kernel
theorem dX0_noteWithout_30 : decode cX0_noteWithout 30 = .ok (.return_, 1) := by decide +kernel
theorem dX0_noteFollowed_0 : decode cX0_noteFollowed 0 = .ok (.aload_n 0, 1) := by decide +kernel
theorem dX0_noteFollowed_1 : decode cX0_noteFollowed 1 = .ok (.dup, 1) := by decide +kernel
theorem dX0_noteFollowed_2 : decode cX0_noteFollowed 2 = .ok (.getfield 33, 3) := by decide +kernel
theorem dX0_noteFollowed_5 : decode cX0_noteFollowed 5 = .ok (.iconst 1, 1) := by decide +kernel
theorem dX0_noteFollowed_6 : decode cX0_noteFollowed 6 = .ok (.iadd, 1) := by decide +kernel
theorem dX0_noteFollowed_7 : decode cX0_noteFollowed 7 = .ok (.putfield 33, 3) := by decide +kernel
theorem dX0_noteFollowed_10 : decode cX0_noteFollowed 10 = .ok (.iload_n 1, 1) := by decide +kernel
theorem dX0_noteFollowed_11 : decode cX0_noteFollowed 11 = .ok (.iconst 2, 1) := by decide +kernel
theorem dX0_noteFollowed_12 : decode cX0_noteFollowed 12 = .ok (.if_icmp .ne 13, 3) := by decide +kernel
theorem dX0_noteFollowed_15 : decode cX0_noteFollowed 15 = .ok (.aload_n 0, 1) := by decide +kernel
theorem dX0_noteFollowed_16 : decode cX0_noteFollowed 16 = .ok (.dup, 1) := by decide +kernel
theorem dX0_noteFollowed_17 : decode cX0_noteFollowed 17 = .ok (.getfield 37, 3) := by decide +kernel
theorem dX0_noteFollowed_20 : decode cX0_noteFollowed 20 = .ok (.iconst 1, 1) := by decide +kernel
theorem dX0_noteFollowed_21 : decode cX0_noteFollowed 21 = .ok (.iadd, 1) := by decide +kernel
theorem dX0_noteFollowed_22 : decode cX0_noteFollowed 22 = .ok (.putfield 37, 3) := by decide +kernel
theorem dX0_noteFollowed_25 : decode cX0_noteFollowed 25 = .ok (.iload_n 1, 1) := by decide +kernel
theorem dX0_noteFollowed_26 : decode cX0_noteFollowed 26 = .ok (.iconst 1, 1) := by decide +kernel
theorem dX0_noteFollowed_27 : decode cX0_noteFollowed 27 = .ok (.if_icmp .ne 13, 3) := by decide +kernel
theorem dX0_noteFollowed_30 : decode cX0_noteFollowed 30 = .ok (.aload_n 0, 1) := by decide +kernel
theorem dX0_noteFollowed_31 : decode cX0_noteFollowed 31 = .ok (.dup, 1) := by decide +kernel
theorem dX0_noteFollowed_32 : decode cX0_noteFollowed 32 = .ok (.getfield 40, 3) := by decide +kernel
theorem dX0_noteFollowed_35 : decode cX0_noteFollowed 35 = .ok (.iconst 1, 1) := by decide +kernel
theorem dX0_noteFollowed_36 : decode cX0_noteFollowed 36 = .ok (.iadd, 1) := by decide +kernel
theorem dX0_noteFollowed_37 : decode cX0_noteFollowed 37 = .ok (.putfield 40, 3) := by decide +kernel
theorem dX0_noteFollowed_40 : decode cX0_noteFollowed 40 = .ok (.return_, 1) := by decide +kernel
theorem dX0_aliveByAccount_0 : decode cX0_aliveByAccount 0 = .ok (.iconst 0, 1) := by decide +kernel
theorem dX0_aliveByAccount_1 : decode cX0_aliveByAccount 1 = .ok (.istore_n 1, 1) := by decide +kernel
theorem dX0_aliveByAccount_2 : decode cX0_aliveByAccount 2 = .ok (.iconst 0, 1) := by decide +kernel
theorem dX0_aliveByAccount_3 : decode cX0_aliveByAccount 3 = .ok (.istore_n 2, 1) := by decide +kernel
theorem dX0_aliveByAccount_4 : decode cX0_aliveByAccount 4 = .ok (.iload_n 2, 1) := by decide +kernel
theorem dX0_aliveByAccount_5 : decode cX0_aliveByAccount 5 = .ok (.iconst 4, 1) := by decide +kernel
theorem dX0_aliveByAccount_6 : decode cX0_aliveByAccount 6 = .ok (.if_icmp .ge 32, 3) := by decide +kernel
theorem dX0_aliveByAccount_9 : decode cX0_aliveByAccount 9 = .ok (.iload_n 1, 1) := by decide +kernel
theorem dX0_aliveByAccount_10 : decode cX0_aliveByAccount 10 = .ok (.aload_n 0, 1) := by decide +kernel
theorem dX0_aliveByAccount_11 : decode cX0_aliveByAccount 11 = .ok (.getfield 9, 3) := by decide +kernel
theorem dX0_aliveByAccount_14 : decode cX0_aliveByAccount 14 = .ok (.iload_n 2, 1) := by decide +kernel
theorem dX0_aliveByAccount_15 : decode cX0_aliveByAccount 15 = .ok (.iaload, 1) := by decide +kernel
theorem dX0_aliveByAccount_16 : decode cX0_aliveByAccount 16 = .ok (.aload_n 0, 1) := by decide +kernel
theorem dX0_aliveByAccount_17 : decode cX0_aliveByAccount 17 = .ok (.getfield 18, 3) := by decide +kernel
theorem dX0_aliveByAccount_20 : decode cX0_aliveByAccount 20 = .ok (.iload_n 2, 1) := by decide +kernel
theorem dX0_aliveByAccount_21 : decode cX0_aliveByAccount 21 = .ok (.iaload, 1) := by decide +kernel
theorem dX0_aliveByAccount_22 : decode cX0_aliveByAccount 22 = .ok (.iadd, 1) := by decide +kernel
theorem dX0_aliveByAccount_23 : decode cX0_aliveByAccount 23 = .ok (.aload_n 0, 1) := by decide +kernel
theorem dX0_aliveByAccount_24 : decode cX0_aliveByAccount 24 = .ok (.getfield 15, 3) := by decide +kernel
theorem dX0_aliveByAccount_27 : decode cX0_aliveByAccount 27 = .ok (.iload_n 2, 1) := by decide +kernel
theorem dX0_aliveByAccount_28 : decode cX0_aliveByAccount 28 = .ok (.iaload, 1) := by decide +kernel
theorem dX0_aliveByAccount_29 : decode cX0_aliveByAccount 29 = .ok (.isub, 1) := by decide +kernel
theorem dX0_aliveByAccount_30 : decode cX0_aliveByAccount 30 = .ok (.iadd, 1) := by decide +kernel
theorem dX0_aliveByAccount_31 : decode cX0_aliveByAccount 31 = .ok (.istore_n 1, 1) := by decide +kernel
theorem dX0_aliveByAccount_32 : decode cX0_aliveByAccount 32 = .ok (.iinc 2 1, 3) := by decide +kernel
theorem dX0_aliveByAccount_35 : decode cX0_aliveByAccount 35 = .ok (.goto (-31), 3) := by decide +kernel
theorem dX0_aliveByAccount_38 : decode cX0_aliveByAccount 38 = .ok (.iload_n 1, 1) := by decide +kernel
theorem dX0_aliveByAccount_39 : decode cX0_aliveByAccount 39 = .ok (.ireturn, 1) := by decide +kernel
theorem dX1_init_0 : decode cX1_init 0 = .ok (.aload_n 0, 1) := by decide +kernel
theorem dX1_init_1 : decode cX1_init 1 = .ok (.invokespecial 3, 3) := by decide +kernel
theorem dX1_init_4 : decode cX1_init 4 = .ok (.aload_n 0, 1) := by decide +kernel
theorem dX1_init_5 : decode cX1_init 5 = .ok (.new 9, 3) := by decide +kernel
theorem dX1_init_8 : decode cX1_init 8 = .ok (.dup, 1) := by decide +kernel
theorem dX1_init_9 : decode cX1_init 9 = .ok (.invokespecial 11, 3) := by decide +kernel
theorem dX1_init_12 : decode cX1_init 12 = .ok (.putfield 12, 3) := by decide +kernel
theorem dX1_init_15 : decode cX1_init 15 = .ok (.aload_n 0, 1) := by decide +kernel
theorem dX1_init_16 : decode cX1_init 16 = .ok (.new 18, 3) := by decide +kernel
theorem dX1_init_19 : decode cX1_init 19 = .ok (.dup, 1) := by decide +kernel
theorem dX1_init_20 : decode cX1_init 20 = .ok (.invokespecial 20, 3) := by decide +kernel
theorem dX1_init_23 : decode cX1_init 23 = .ok (.putfield 21, 3) := by decide +kernel
theorem dX1_init_26 : decode cX1_init 26 = .ok (.aload_n 0, 1) := by decide +kernel
theorem dX1_init_27 : decode cX1_init 27 = .ok (.iconst 3, 1) := by decide +kernel
theorem dX1_init_28 : decode cX1_init 28 = .ok (.newarray .int, 2) := by decide +kernel
theorem dX1_init_30 : decode cX1_init 30 = .ok (.putfield 25, 3) := by decide +kernel
theorem dX1_init_33 : decode cX1_init 33 = .ok (.getstatic 29, 3) := by decide +kernel
theorem dX1_init_36 : decode cX1_init 36 = .ok (.iconst 0, 1) := by decide +kernel
theorem dX1_init_37 : decode cX1_init 37 = .ok (.aload_n 0, 1) := by decide +kernel
theorem dX1_init_38 : decode cX1_init 38 = .ok (.getfield 25, 3) := by decide +kernel
theorem dX1_init_41 : decode cX1_init 41 = .ok (.iconst 0, 1) := by decide +kernel
theorem dX1_init_42 : decode cX1_init 42 = .ok (.iconst 3, 1) := by decide +kernel
theorem dX1_init_43 : decode cX1_init 43 = .ok (.invokestatic 32, 3) := by decide +kernel
theorem dX1_init_46 : decode cX1_init 46 = .ok (.return_, 1) := by decide +kernel
theorem dX1_copyState_0 : decode cX1_copyState 0 = .ok (.aload_n 0, 1) := by decide +kernel
theorem dX1_copyState_1 : decode cX1_copyState 1 = .ok (.ifnull 7, 3) := by decide +kernel
theorem dX1_copyState_4 : decode cX1_copyState 4 = .ok (.aload_n 1, 1) := by decide +kernel
theorem dX1_copyState_5 : decode cX1_copyState 5 = .ok (.ifnonnull 4, 3) := by decide +kernel
theorem dX1_copyState_8 : decode cX1_copyState 8 = .ok (.return_, 1) := by decide +kernel
theorem dX1_copyState_9 : decode cX1_copyState 9 = .ok (.aload_n 1, 1) := by decide +kernel
theorem dX1_copyState_10 : decode cX1_copyState 10 = .ok (.getfield 12, 3) := by decide +kernel
theorem dX1_copyState_13 : decode cX1_copyState 13 = .ok (.aload_n 0, 1) := by decide +kernel
theorem dX1_copyState_14 : decode cX1_copyState 14 = .ok (.getfield 12, 3) := by decide +kernel
theorem dX1_copyState_17 : decode cX1_copyState 17 = .ok (.invokevirtual 38, 3) := by decide +kernel
theorem dX1_copyState_20 : decode cX1_copyState 20 = .ok (.aload_n 1, 1) := by decide +kernel
theorem dX1_copyState_21 : decode cX1_copyState 21 = .ok (.getfield 21, 3) := by decide +kernel
theorem dX1_copyState_24 : decode cX1_copyState 24 = .ok (.aload_n 0, 1) := by decide +kernel
theorem dX1_copyState_25 : decode cX1_copyState 25 = .ok (.getfield 21, 3) := by decide +kernel
theorem dX1_copyState_28 : decode cX1_copyState 28 = .ok (.invokevirtual 42, 3) := by decide +kernel
theorem dX1_copyState_31 : decode cX1_copyState 31 = .ok (.aload_n 0, 1) := by decide +kernel
theorem dX1_copyState_32 : decode cX1_copyState 32 = .ok (.getfield 25, 3) := by decide +kernel
theorem dX1_copyState_35 : decode cX1_copyState 35 = .ok (.iconst 0, 1) := by decide +kernel
theorem dX1_copyState_36 : decode cX1_copyState 36 = .ok (.aload_n 1, 1) := by decide +kernel
theorem dX1_copyState_37 : decode cX1_copyState 37 = .ok (.getfield 25, 3) := by decide +kernel
theorem dX1_copyState_40 : decode cX1_copyState 40 = .ok (.iconst 0, 1) := by decide +kernel
theorem dX1_copyState_41 : decode cX1_copyState 41 = .ok (.iconst 3, 1) := by decide +kernel
theorem dX1_copyState_42 : decode cX1_copyState 42 = .ok (.invokestatic 32, 3) := by decide +kernel
theorem dX1_copyState_45 : decode cX1_copyState 45 = .ok (.return_, 1) := by decide +kernel
theorem dX1_answerToRow_0 : decode cX1_answerToRow 0 = .ok (.aload_n 0, 1) := by decide +kernel
theorem dX1_answerToRow_1 : decode cX1_answerToRow 1 = .ok (.getfield 12, 3) := by decide +kernel
theorem dX1_answerToRow_4 : decode cX1_answerToRow 4 = .ok (.iload_n 1, 1) := by decide +kernel
theorem dX1_answerToRow_5 : decode cX1_answerToRow 5 = .ok (.aload_n 0, 1) := by decide +kernel
theorem dX1_answerToRow_6 : decode cX1_answerToRow 6 = .ok (.getfield 25, 3) := by decide +kernel
theorem dX1_answerToRow_9 : decode cX1_answerToRow 9 = .ok (.iconst 0, 1) := by decide +kernel
theorem dX1_answerToRow_10 : decode cX1_answerToRow 10 = .ok (.iaload, 1) := by decide +kernel
theorem dX1_answerToRow_11 : decode cX1_answerToRow 11 = .ok (.iconst 0, 1) := by decide +kernel
theorem dX1_answerToRow_12 : decode cX1_answerToRow 12 = .ok (.invokevirtual 45, 3) := by decide +kernel
theorem dX1_answerToRow_15 : decode cX1_answerToRow 15 = .ok (.istore_n 2, 1) := by decide +kernel
theorem dX1_answerToRow_16 : decode cX1_answerToRow 16 = .ok (.iload_n 2, 1) := by decide +kernel
theorem dX1_answerToRow_17 : decode cX1_answerToRow 17 = .ok (.iconst (-1), 1) := by decide +kernel
theorem dX1_answerToRow_18 : decode cX1_answerToRow 18 = .ok (.if_icmp .eq 5, 3) := by decide +kernel
theorem dX1_answerToRow_21 : decode cX1_answerToRow 21 = .ok (.iload_n 2, 1) := by decide +kernel
theorem dX1_answerToRow_22 : decode cX1_answerToRow 22 = .ok (.ireturn, 1) := by decide +kernel
theorem dX1_answerToRow_23 : decode cX1_answerToRow 23 = .ok (.bipush 100, 2) := by decide +kernel
theorem dX1_answerToRow_25 : decode cX1_answerToRow 25 = .ok (.aload_n 0, 1) := by decide +kernel
theorem dX1_answerToRow_26 : decode cX1_answerToRow 26 = .ok (.getfield 12, 3) := by decide +kernel
theorem dX1_answerToRow_29 : decode cX1_answerToRow 29 = .ok (.iload_n 1, 1) := by decide +kernel
theorem dX1_answerToRow_30 : decode cX1_answerToRow 30 = .ok (.iconst 2, 1) := by decide +kernel
theorem dX1_answerToRow_31 : decode cX1_answerToRow 31 = .ok (.invokevirtual 49, 3) := by decide +kernel
theorem dX1_answerToRow_34 : decode cX1_answerToRow 34 = .ok (.ifCond .ne 7, 3) := by decide +kernel
theorem dX1_answerToRow_37 : decode cX1_answerToRow 37 = .ok (.iconst 1, 1) := by decide +kernel
theorem dX1_answerToRow_38 : decode cX1_answerToRow 38 = .ok (.goto 4, 3) := by decide +kernel
theorem dX1_answerToRow_41 : decode cX1_answerToRow 41 = .ok (.iconst 2, 1) := by decide +kernel
theorem dX1_answerToRow_42 : decode cX1_answerToRow 42 = .ok (.iadd, 1) := by decide +kernel
theorem dX1_answerToRow_43 : decode cX1_answerToRow 43 = .ok (.ireturn, 1) := by decide +kernel
theorem dX1_serveRow_0 : decode cX1_serveRow 0 = .ok (.aload_n 0, 1) := by decide +kernel
theorem dX1_serveRow_1 : decode cX1_serveRow 1 = .ok (.iload_n 1, 1) := by decide +kernel
theorem dX1_serveRow_2 : decode cX1_serveRow 2 = .ok (.invokevirtual 53, 3) := by decide +kernel
theorem dX1_serveRow_5 : decode cX1_serveRow 5 = .ok (.istore_n 2, 1) := by decide +kernel
theorem dX1_serveRow_6 : decode cX1_serveRow 6 = .ok (.iload_n 2, 1) := by decide +kernel
theorem dX1_serveRow_7 : decode cX1_serveRow 7 = .ok (.bipush 100, 2) := by decide +kernel
theorem dX1_serveRow_9 : decode cX1_serveRow 9 = .ok (.if_icmp .lt 18, 3) := by decide +kernel
theorem dX1_serveRow_12 : decode cX1_serveRow 12 = .ok (.aload_n 0, 1) := by decide +kernel
theorem dX1_serveRow_13 : decode cX1_serveRow 13 = .ok (.getfield 21, 3) := by decide +kernel
theorem dX1_serveRow_16 : decode cX1_serveRow 16 = .ok (.iload_n 1, 1) := by decide +kernel
theorem dX1_serveRow_17 : decode cX1_serveRow 17 = .ok (.iload_n 2, 1) := by decide +kernel
theorem dX1_serveRow_18 : decode cX1_serveRow 18 = .ok (.bipush 100, 2) := by decide +kernel
theorem dX1_serveRow_20 : decode cX1_serveRow 20 = .ok (.isub, 1) := by decide +kernel
theorem dX1_serveRow_21 : decode cX1_serveRow 21 = .ok (.invokevirtual 57, 3) := by decide +kernel
theorem dX1_serveRow_24 : decode cX1_serveRow 24 = .ok (.goto 9, 3) := by decide +kernel
theorem dX1_serveRow_27 : decode cX1_serveRow 27 = .ok (.aload_n 0, 1) := by decide +kernel
theorem dX1_serveRow_28 : decode cX1_serveRow 28 = .ok (.iload_n 1, 1) := by decide +kernel
theorem dX1_serveRow_29 : decode cX1_serveRow 29 = .ok (.iload_n 2, 1) := by decide +kernel
theorem dX1_serveRow_30 : decode cX1_serveRow 30 = .ok (.invokevirtual 61, 3) := by decide +kernel
theorem dX1_serveRow_33 : decode cX1_serveRow 33 = .ok (.iload_n 2, 1) := by decide +kernel
theorem dX1_serveRow_34 : decode cX1_serveRow 34 = .ok (.ireturn, 1) := by decide +kernel
theorem dX1_serveWish_0 : decode cX1_serveWish 0 = .ok (.aload_n 0, 1) := by decide +kernel
theorem dX1_serveWish_1 : decode cX1_serveWish 1 = .ok (.iload_n 1, 1) := by decide +kernel
theorem dX1_serveWish_2 : decode cX1_serveWish 2 = .ok (.iload_n 2, 1) := by decide +kernel
theorem dX1_serveWish_3 : decode cX1_serveWish 3 = .ok (.invokevirtual 64, 3) := by decide +kernel
theorem dX1_serveWish_6 : decode cX1_serveWish 6 = .ok (.istore_n 3, 1) := by decide +kernel
theorem dX1_serveWish_7 : decode cX1_serveWish 7 = .ok (.iload_n 3, 1) := by decide +kernel
theorem dX1_serveWish_8 : decode cX1_serveWish 8 = .ok (.ifCond .eq 17, 3) := by decide +kernel
theorem dX1_serveWish_11 : decode cX1_serveWish 11 = .ok (.aload_n 0, 1) := by decide +kernel
theorem dX1_serveWish_12 : decode cX1_serveWish 12 = .ok (.getfield 21, 3) := by decide +kernel
theorem dX1_serveWish_15 : decode cX1_serveWish 15 = .ok (.iload_n 1, 1) := by decide +kernel
theorem dX1_serveWish_16 : decode cX1_serveWish 16 = .ok (.iload_n 3, 1) := by decide +kernel
theorem dX1_serveWish_17 : decode cX1_serveWish 17 = .ok (.invokevirtual 57, 3) := by decide +kernel
theorem dX1_serveWish_20 : decode cX1_serveWish 20 = .ok (.bipush 100, 2) := by decide +kernel
theorem dX1_serveWish_22 : decode cX1_serveWish 22 = .ok (.iload_n 3, 1) := by decide +kernel
theorem dX1_serveWish_23 : decode cX1_serveWish 23 = .ok (.iadd, 1) := by decide +kernel
theorem dX1_serveWish_24 : decode cX1_serveWish 24 = .ok (.ireturn, 1) := by decide +kernel
theorem dX1_serveWish_25 : decode cX1_serveWish 25 = .ok (.aload_n 0, 1) := by decide +kernel
theorem dX1_serveWish_26 : decode cX1_serveWish 26 = .ok (.iload_n 1, 1) := by decide +kernel
theorem dX1_serveWish_27 : decode cX1_serveWish 27 = .ok (.iload_n 2, 1) := by decide +kernel
theorem dX1_serveWish_28 : decode cX1_serveWish 28 = .ok (.invokevirtual 61, 3) := by decide +kernel
theorem dX1_serveWish_31 : decode cX1_serveWish 31 = .ok (.aload_n 0, 1) := by decide +kernel
theorem dX1_serveWish_32 : decode cX1_serveWish 32 = .ok (.getfield 12, 3) := by decide +kernel
theorem dX1_serveWish_35 : decode cX1_serveWish 35 = .ok (.iload_n 1, 1) := by decide +kernel
theorem dX1_serveWish_36 : decode cX1_serveWish 36 = .ok (.iload_n 2, 1) := by decide +kernel
theorem dX1_serveWish_37 : decode cX1_serveWish 37 = .ok (.invokevirtual 67, 3) := by decide +kernel
theorem dX1_serveWish_40 : decode cX1_serveWish 40 = .ok (.ireturn, 1) := by decide +kernel
theorem dX1_reasonAgainst_0 : decode cX1_reasonAgainst 0 = .ok (.aload_n 0, 1) := by decide +kernel
theorem dX1_reasonAgainst_1 : decode cX1_reasonAgainst 1 = .ok (.getfield 12, 3) := by decide +kernel
theorem dX1_reasonAgainst_4 : decode cX1_reasonAgainst 4 = .ok (.iload_n 1, 1) := by decide +kernel
theorem dX1_reasonAgainst_5 : decode cX1_reasonAgainst 5 = .ok (.iload_n 2, 1) := by decide +kernel
theorem dX1_reasonAgainst_6 : decode cX1_reasonAgainst 6 = .ok (.invokevirtual 70, 3) := by decide +kernel
theorem dX1_reasonAgainst_9 : decode cX1_reasonAgainst 9 = .ok (.lookupswitch 31 #[(1, 27), (3, 29)], 27) := by decide +kernel
theorem dX1_reasonAgainst_36 : decode cX1_reasonAgainst 36 = .ok (.iconst 3, 1) := by decide +kernel
theorem dX1_reasonAgainst_37 : decode cX1_reasonAgainst 37 = .ok (.ireturn, 1) := by decide +kernel
theorem dX1_reasonAgainst_38 : decode cX1_reasonAgainst 38 = .ok (.iconst 4, 1) := by decide +kernel
theorem dX1_reasonAgainst_39 : decode cX1_reasonAgainst 39 = .ok (.ireturn, 1) := by decide +kernel
theorem dX1_reasonAgainst_40 : decode cX1_reasonAgainst 40 = .ok (.aload_n 0, 1) := by decide +kernel
theorem dX1_reasonAgainst_41 : decode cX1_reasonAgainst 41 = .ok (.getfield 12, 3) := by decide +kernel
theorem dX1_reasonAgainst_44 : decode cX1_reasonAgainst 44 = .ok (.iload_n 1, 1) := by decide +kernel
theorem dX1_reasonAgainst_45 : decode cX1_reasonAgainst 45 = .ok (.iload_n 2, 1) := by decide +kernel
theorem dX1_reasonAgainst_46 : decode cX1_reasonAgainst 46 = .ok (.invokevirtual 73, 3) := by decide +kernel
theorem dX1_reasonAgainst_49 : decode cX1_reasonAgainst 49 = .ok (.ifCond .eq 7, 3) := by decide +kernel
theorem dX1_reasonAgainst_52 : decode cX1_reasonAgainst 52 = .ok (.iconst 0, 1) := by decide +kernel
theorem dX1_reasonAgainst_53 : decode cX1_reasonAgainst 53 = .ok (.goto 4, 3) := by decide +kernel
theorem dX1_reasonAgainst_56 : decode cX1_reasonAgainst 56 = .ok (.iconst 5, 1) := by decide +kernel
theorem dX1_reasonAgainst_57 : decode cX1_reasonAgainst 57 = .ok (.ireturn, 1) := by decide +kernel
theorem dX1_giveKey_0 : decode cX1_giveKey 0 = .ok (.aload_n 0, 1) := by decide +kernel
theorem dX1_giveKey_1 : decode cX1_giveKey 1 = .ok (.getfield 12, 3) := by decide +kernel
theorem dX1_giveKey_4 : decode cX1_giveKey 4 = .ok (.iload_n 1, 1) := by decide +kernel
theorem dX1_giveKey_5 : decode cX1_giveKey 5 = .ok (.iload_n 2, 1) := by decide +kernel
theorem dX1_giveKey_6 : decode cX1_giveKey 6 = .ok (.invokevirtual 77, 3) := by decide +kernel
theorem dX1_giveKey_9 : decode cX1_giveKey 9 = .ok (.aload_n 0, 1) := by decide +kernel
theorem dX1_giveKey_10 : decode cX1_giveKey 10 = .ok (.getfield 21, 3) := by decide +kernel
theorem dX1_giveKey_13 : decode cX1_giveKey 13 = .ok (.getfield 80, 3) := by decide +kernel
theorem dX1_giveKey_16 : decode cX1_giveKey 16 = .ok (.iload_n 1, 1) := by decide +kernel
theorem dX1_giveKey_17 : decode cX1_giveKey 17 = .ok (.dup2, 1) := by decide +kernel
theorem dX1_giveKey_18 : decode cX1_giveKey 18 = .ok (.iaload, 1) := by decide +kernel
theorem dX1_giveKey_19 : decode cX1_giveKey 19 = .ok (.iconst 1, 1) := by decide +kernel
theorem dX1_giveKey_20 : decode cX1_giveKey 20 = .ok (.iadd, 1) := by decide +kernel
theorem dX1_giveKey_21 : decode cX1_giveKey 21 = .ok (.iastore, 1) := by decide +kernel
theorem dX1_giveKey_22 : decode cX1_giveKey 22 = .ok (.return_, 1) := by decide +kernel
theorem dX1_canDelete_0 : decode cX1_canDelete 0 = .ok (.aload_n 0, 1) := by decide +kernel
theorem dX1_canDelete_1 : decode cX1_canDelete 1 = .ok (.getfield 12, 3) := by decide +kernel
theorem dX1_canDelete_4 : decode cX1_canDelete 4 = .ok (.iload_n 1, 1) := by decide +kernel
theorem dX1_canDelete_5 : decode cX1_canDelete 5 = .ok (.iload_n 2, 1) := by decide +kernel
theorem dX1_canDelete_6 : decode cX1_canDelete 6 = .ok (.invokevirtual 70, 3) := by decide +kernel
theorem dX1_canDelete_9 : decode cX1_canDelete 9 = .ok (.iconst 1, 1) := by decide +kernel
theorem dX1_canDelete_10 : decode cX1_canDelete 10 = .ok (.if_icmp .ne 7, 3) := by decide +kernel
theorem dX1_canDelete_13 : decode cX1_canDelete 13 = .ok (.iconst 1, 1) := by decide +kernel
theorem dX1_canDelete_14 : decode cX1_canDelete 14 = .ok (.goto 4, 3) := by decide +kernel
theorem dX1_canDelete_17 : decode cX1_canDelete 17 = .ok (.iconst 0, 1) := by decide +kernel
theorem dX1_canDelete_18 : decode cX1_canDelete 18 = .ok (.ireturn, 1) := by decide +kernel
theorem dX1_deleteRow_0 : decode cX1_deleteRow 0 = .ok (.aload_n 0, 1) := by decide +kernel
theorem dX1_deleteRow_1 : decode cX1_deleteRow 1 = .ok (.getfield 21, 3) := by decide +kernel
theorem dX1_deleteRow_4 : decode cX1_deleteRow 4 = .ok (.getfield 83, 3) := by decide +kernel
theorem dX1_deleteRow_7 : decode cX1_deleteRow 7 = .ok (.iload_n 1, 1) := by decide +kernel
theorem dX1_deleteRow_8 : decode cX1_deleteRow 8 = .ok (.dup2, 1) := by decide +kernel
theorem dX1_deleteRow_9 : decode cX1_deleteRow 9 = .ok (.iaload, 1) := by decide +kernel
theorem dX1_deleteRow_10 : decode cX1_deleteRow 10 = .ok (.iconst 1, 1) := by decide +kernel
theorem dX1_deleteRow_11 : decode cX1_deleteRow 11 = .ok (.iadd, 1) := by decide +kernel
theorem dX1_deleteRow_12 : decode cX1_deleteRow 12 = .ok (.iastore, 1) := by decide +kernel
theorem dX1_deleteRow_13 : decode cX1_deleteRow 13 = .ok (.aload_n 0, 1) := by decide +kernel
theorem dX1_deleteRow_14 : decode cX1_deleteRow 14 = .ok (.getfield 12, 3) := by decide +kernel
theorem dX1_deleteRow_17 : decode cX1_deleteRow 17 = .ok (.iload_n 1, 1) := by decide +kernel
theorem dX1_deleteRow_18 : decode cX1_deleteRow 18 = .ok (.iload_n 2, 1) := by decide +kernel
theorem dX1_deleteRow_19 : decode cX1_deleteRow 19 = .ok (.invokevirtual 67, 3) := by decide +kernel
theorem dX1_deleteRow_22 : decode cX1_deleteRow 22 = .ok (.aload_n 0, 1) := by decide +kernel
theorem dX1_deleteRow_23 : decode cX1_deleteRow 23 = .ok (.getfield 25, 3) := by decide +kernel
theorem dX1_deleteRow_26 : decode cX1_deleteRow 26 = .ok (.iconst 1, 1) := by decide +kernel
theorem dX1_deleteRow_27 : decode cX1_deleteRow 27 = .ok (.iaload, 1) := by decide +kernel
theorem dX1_deleteRow_28 : decode cX1_deleteRow 28 = .ok (.if_icmp .lt 14, 3) := by decide +kernel
theorem dX1_deleteRow_31 : decode cX1_deleteRow 31 = .ok (.aload_n 0, 1) := by decide +kernel
theorem dX1_deleteRow_32 : decode cX1_deleteRow 32 = .ok (.getfield 12, 3) := by decide +kernel
theorem dX1_deleteRow_35 : decode cX1_deleteRow 35 = .ok (.iload_n 1, 1) := by decide +kernel
theorem dX1_deleteRow_36 : decode cX1_deleteRow 36 = .ok (.iload_n 2, 1) := by decide +kernel
theorem dX1_deleteRow_37 : decode cX1_deleteRow 37 = .ok (.invokevirtual 86, 3) := by decide +kernel
theorem dX1_deleteRow_40 : decode cX1_deleteRow 40 = .ok (.iconst 1, 1) := by decide +kernel
theorem dX1_deleteRow_41 : decode cX1_deleteRow 41 = .ok (.ireturn, 1) := by decide +kernel
theorem dX1_deleteRow_42 : decode cX1_deleteRow 42 = .ok (.aload_n 0, 1) := by decide +kernel
theorem dX1_deleteRow_43 : decode cX1_deleteRow 43 = .ok (.getfield 12, 3) := by decide +kernel
theorem dX1_deleteRow_46 : decode cX1_deleteRow 46 = .ok (.iload_n 1, 1) := by decide +kernel
theorem dX1_deleteRow_47 : decode cX1_deleteRow 47 = .ok (.iload_n 2, 1) := by decide +kernel
theorem dX1_deleteRow_48 : decode cX1_deleteRow 48 = .ok (.invokevirtual 89, 3) := by decide +kernel
theorem dX1_deleteRow_51 : decode cX1_deleteRow 51 = .ok (.iconst 0, 1) := by decide +kernel
theorem dX1_deleteRow_52 : decode cX1_deleteRow 52 = .ok (.ireturn, 1) := by decide +kernel
theorem dX1_canBringBack_0 : decode cX1_canBringBack 0 = .ok (.aload_n 0, 1) := by decide +kernel
theorem dX1_canBringBack_1 : decode cX1_canBringBack 1 = .ok (.getfield 12, 3) := by decide +kernel
theorem dX1_canBringBack_4 : decode cX1_canBringBack 4 = .ok (.iload_n 1, 1) := by decide +kernel
theorem dX1_canBringBack_5 : decode cX1_canBringBack 5 = .ok (.iload_n 2, 1) := by decide +kernel
theorem dX1_canBringBack_6 : decode cX1_canBringBack 6 = .ok (.invokevirtual 70, 3) := by decide +kernel
theorem dX1_canBringBack_9 : decode cX1_canBringBack 9 = .ok (.iconst 2, 1) := by decide +kernel
theorem dX1_canBringBack_10 : decode cX1_canBringBack 10 = .ok (.if_icmp .ne 25, 3) := by decide +kernel
theorem dX1_canBringBack_13 : decode cX1_canBringBack 13 = .ok (.aload_n 0, 1) := by decide +kernel
theorem dX1_canBringBack_14 : decode cX1_canBringBack 14 = .ok (.getfield 12, 3) := by decide +kernel
theorem dX1_canBringBack_17 : decode cX1_canBringBack 17 = .ok (.iload_n 1, 1) := by decide +kernel
theorem dX1_canBringBack_18 : decode cX1_canBringBack 18 = .ok (.iload_n 2, 1) := by decide +kernel
theorem dX1_canBringBack_19 : decode cX1_canBringBack 19 = .ok (.invokevirtual 92, 3) := by decide +kernel
theorem dX1_canBringBack_22 : decode cX1_canBringBack 22 = .ok (.aload_n 0, 1) := by decide +kernel
theorem dX1_canBringBack_23 : decode cX1_canBringBack 23 = .ok (.getfield 25, 3) := by decide +kernel
theorem dX1_canBringBack_26 : decode cX1_canBringBack 26 = .ok (.iconst 2, 1) := by decide +kernel
theorem dX1_canBringBack_27 : decode cX1_canBringBack 27 = .ok (.iaload, 1) := by decide +kernel
theorem dX1_canBringBack_28 : decode cX1_canBringBack 28 = .ok (.if_icmp .gt 7, 3) := by decide +kernel
theorem dX1_canBringBack_31 : decode cX1_canBringBack 31 = .ok (.iconst 1, 1) := by decide +kernel
theorem dX1_canBringBack_32 : decode cX1_canBringBack 32 = .ok (.goto 4, 3) := by decide +kernel
theorem dX1_canBringBack_35 : decode cX1_canBringBack 35 = .ok (.iconst 0, 1) := by decide +kernel
theorem dX1_canBringBack_36 : decode cX1_canBringBack 36 = .ok (.ireturn, 1) := by decide +kernel
theorem dX1_bringRowBack_0 : decode cX1_bringRowBack 0 = .ok (.aload_n 0, 1) := by decide +kernel
theorem dX1_bringRowBack_1 : decode cX1_bringRowBack 1 = .ok (.getfield 12, 3) := by decide +kernel
theorem dX1_bringRowBack_4 : decode cX1_bringRowBack 4 = .ok (.iload_n 1, 1) := by decide +kernel
theorem dX1_bringRowBack_5 : decode cX1_bringRowBack 5 = .ok (.iload_n 2, 1) := by decide +kernel
theorem dX1_bringRowBack_6 : decode cX1_bringRowBack 6 = .ok (.invokevirtual 95, 3) := by decide +kernel
theorem dX1_bringRowBack_9 : decode cX1_bringRowBack 9 = .ok (.aload_n 0, 1) := by decide +kernel
theorem dX1_bringRowBack_10 : decode cX1_bringRowBack 10 = .ok (.getfield 21, 3) := by decide +kernel
theorem dX1_bringRowBack_13 : decode cX1_bringRowBack 13 = .ok (.getfield 98, 3) := by decide +kernel
theorem dX1_bringRowBack_16 : decode cX1_bringRowBack 16 = .ok (.iload_n 1, 1) := by decide +kernel
theorem dX1_bringRowBack_17 : decode cX1_bringRowBack 17 = .ok (.dup2, 1) := by decide +kernel
theorem dX1_bringRowBack_18 : decode cX1_bringRowBack 18 = .ok (.iaload, 1) := by decide +kernel
theorem dX1_bringRowBack_19 : decode cX1_bringRowBack 19 = .ok (.iconst 1, 1) := by decide +kernel
theorem dX1_bringRowBack_20 : decode cX1_bringRowBack 20 = .ok (.iadd, 1) := by decide +kernel
theorem dX1_bringRowBack_21 : decode cX1_bringRowBack 21 = .ok (.iastore, 1) := by decide +kernel
theorem dX1_bringRowBack_22 : decode cX1_bringRowBack 22 = .ok (.aload_n 0, 1) := by decide +kernel
theorem dX1_bringRowBack_23 : decode cX1_bringRowBack 23 = .ok (.getfield 12, 3) := by decide +kernel
theorem dX1_bringRowBack_26 : decode cX1_bringRowBack 26 = .ok (.iload_n 1, 1) := by decide +kernel
theorem dX1_bringRowBack_27 : decode cX1_bringRowBack 27 = .ok (.iload_n 2, 1) := by decide +kernel
theorem dX1_bringRowBack_28 : decode cX1_bringRowBack 28 = .ok (.invokevirtual 67, 3) := by decide +kernel
theorem dX1_bringRowBack_31 : decode cX1_bringRowBack 31 = .ok (.ireturn, 1) := by decide +kernel
theorem dX1_followReference_0 : decode cX1_followReference 0 = .ok (.aload_n 0, 1) := by decide +kernel
theorem dX1_followReference_1 : decode cX1_followReference 1 = .ok (.getfield 12, 3) := by decide +kernel
theorem dX1_followReference_4 : decode cX1_followReference 4 = .ok (.iload_n 1, 1) := by decide +kernel
theorem dX1_followReference_5 : decode cX1_followReference 5 = .ok (.iload_n 2, 1) := by decide +kernel
theorem dX1_followReference_6 : decode cX1_followReference 6 = .ok (.iload_n 3, 1) := by decide +kernel
theorem dX1_followReference_7 : decode cX1_followReference 7 = .ok (.invokevirtual 101, 3) := by decide +kernel
theorem dX1_followReference_10 : decode cX1_followReference 10 = .ok (.istore 4, 2) := by decide +kernel
theorem dX1_followReference_12 : decode cX1_followReference 12 = .ok (.aload_n 0, 1) := by decide +kernel
theorem dX1_followReference_13 : decode cX1_followReference 13 = .ok (.getfield 21, 3) := by decide +kernel
theorem dX1_followReference_16 : decode cX1_followReference 16 = .ok (.iload 4, 2) := by decide +kernel
theorem dX1_followReference_18 : decode cX1_followReference 18 = .ok (.invokevirtual 104, 3) := by decide +kernel
theorem dX1_followReference_21 : decode cX1_followReference 21 = .ok (.iload 4, 2) := by decide +kernel
theorem dX1_followReference_23 : decode cX1_followReference 23 = .ok (.ireturn, 1) := by decide +kernel
theorem dX1_keyOfRow_0 : decode cX1_keyOfRow 0 = .ok (.iconst 0, 1) := by decide +kernel
theorem dX1_keyOfRow_1 : decode cX1_keyOfRow 1 = .ok (.istore_n 3, 1) := by decide +kernel
theorem dX1_keyOfRow_2 : decode cX1_keyOfRow 2 = .ok (.iconst (-1), 1) := by decide +kernel
theorem dX1_keyOfRow_3 : decode cX1_keyOfRow 3 = .ok (.istore 4, 2) := by decide +kernel
theorem dX1_keyOfRow_5 : decode cX1_keyOfRow 5 = .ok (.iconst 1, 1) := by decide +kernel
theorem dX1_keyOfRow_6 : decode cX1_keyOfRow 6 = .ok (.istore 5, 2) := by decide +kernel
theorem dX1_keyOfRow_8 : decode cX1_keyOfRow 8 = .ok (.iload 5, 2) := by decide +kernel
theorem dX1_keyOfRow_10 : decode cX1_keyOfRow 10 = .ok (.iload_n 2, 1) := by decide +kernel
theorem dX1_keyOfRow_11 : decode cX1_keyOfRow 11 = .ok (.if_icmp .gt 41, 3) := by decide +kernel
theorem dX1_keyOfRow_14 : decode cX1_keyOfRow 14 = .ok (.aload_n 0, 1) := by decide +kernel
theorem dX1_keyOfRow_15 : decode cX1_keyOfRow 15 = .ok (.getfield 12, 3) := by decide +kernel
theorem dX1_keyOfRow_18 : decode cX1_keyOfRow 18 = .ok (.iload_n 1, 1) := by decide +kernel
theorem dX1_keyOfRow_19 : decode cX1_keyOfRow 19 = .ok (.aload_n 0, 1) := by decide +kernel
theorem dX1_keyOfRow_20 : decode cX1_keyOfRow 20 = .ok (.getfield 25, 3) := by decide +kernel
theorem dX1_keyOfRow_23 : decode cX1_keyOfRow 23 = .ok (.iconst 0, 1) := by decide +kernel
theorem dX1_keyOfRow_24 : decode cX1_keyOfRow 24 = .ok (.iaload, 1) := by decide +kernel
theorem dX1_keyOfRow_25 : decode cX1_keyOfRow 25 = .ok (.iload_n 3, 1) := by decide +kernel
theorem dX1_keyOfRow_26 : decode cX1_keyOfRow 26 = .ok (.invokevirtual 45, 3) := by decide +kernel
theorem dX1_keyOfRow_29 : decode cX1_keyOfRow 29 = .ok (.istore 4, 2) := by decide +kernel
theorem dX1_keyOfRow_31 : decode cX1_keyOfRow 31 = .ok (.iload 4, 2) := by decide +kernel
theorem dX1_keyOfRow_33 : decode cX1_keyOfRow 33 = .ok (.iconst (-1), 1) := by decide +kernel
theorem dX1_keyOfRow_34 : decode cX1_keyOfRow 34 = .ok (.if_icmp .ne 5, 3) := by decide +kernel
theorem dX1_keyOfRow_37 : decode cX1_keyOfRow 37 = .ok (.iconst (-1), 1) := by decide +kernel
theorem dX1_keyOfRow_38 : decode cX1_keyOfRow 38 = .ok (.ireturn, 1) := by decide +kernel
theorem dX1_keyOfRow_39 : decode cX1_keyOfRow 39 = .ok (.iload_n 3, 1) := by decide +kernel
theorem dX1_keyOfRow_40 : decode cX1_keyOfRow 40 = .ok (.iconst 1, 1) := by decide +kernel
theorem dX1_keyOfRow_41 : decode cX1_keyOfRow 41 = .ok (.iload 4, 2) := by decide +kernel
theorem dX1_keyOfRow_43 : decode cX1_keyOfRow 43 = .ok (.ishl, 1) := by decide +kernel
theorem dX1_keyOfRow_44 : decode cX1_keyOfRow 44 = .ok (.ior, 1) := by decide +kernel
theorem dX1_keyOfRow_45 : decode cX1_keyOfRow 45 = .ok (.istore_n 3, 1) := by decide +kernel
theorem dX1_keyOfRow_46 : decode cX1_keyOfRow 46 = .ok (.iinc 5 1, 3) := by decide +kernel
theorem dX1_keyOfRow_49 : decode cX1_keyOfRow 49 = .ok (.goto (-41), 3) := by decide +kernel
theorem dX1_keyOfRow_52 : decode cX1_keyOfRow 52 = .ok (.iload 4, 2) := by decide +kernel
theorem dX1_keyOfRow_54 : decode cX1_keyOfRow 54 = .ok (.ireturn, 1) := by decide +kernel
theorem dX1_propertyOfKind_0 : decode cX1_propertyOfKind 0 = .ok (.iload_n 2, 1) := by decide +kernel
theorem dX1_propertyOfKind_1 : decode cX1_propertyOfKind 1 = .ok (.tableswitch 154 0 9 #[55, 65, 75, 85, 95, 104, 114, 124, 134, 144], 55) := by decide +kernel
theorem dX1_propertyOfKind_56 : decode cX1_propertyOfKind 56 = .ok (.aload_n 0, 1) := by decide +kernel
theorem dX1_propertyOfKind_57 : decode cX1_propertyOfKind 57 = .ok (.getfield 12, 3) := by decide +kernel
theorem dX1_propertyOfKind_60 : decode cX1_propertyOfKind 60 = .ok (.getfield 108, 3) := by decide +kernel
theorem dX1_propertyOfKind_63 : decode cX1_propertyOfKind 63 = .ok (.iload_n 1, 1) := by decide +kernel
theorem dX1_propertyOfKind_64 : decode cX1_propertyOfKind 64 = .ok (.iaload, 1) := by decide +kernel
theorem dX1_propertyOfKind_65 : decode cX1_propertyOfKind 65 = .ok (.ireturn, 1) := by decide +kernel
theorem dX1_propertyOfKind_66 : decode cX1_propertyOfKind 66 = .ok (.aload_n 0, 1) := by decide +kernel
theorem dX1_propertyOfKind_67 : decode cX1_propertyOfKind 67 = .ok (.getfield 12, 3) := by decide +kernel
theorem dX1_propertyOfKind_70 : decode cX1_propertyOfKind 70 = .ok (.iload_n 1, 1) := by decide +kernel
theorem dX1_propertyOfKind_71 : decode cX1_propertyOfKind 71 = .ok (.iconst 0, 1) := by decide +kernel
theorem dX1_propertyOfKind_72 : decode cX1_propertyOfKind 72 = .ok (.invokevirtual 49, 3) := by decide +kernel
theorem dX1_propertyOfKind_75 : decode cX1_propertyOfKind 75 = .ok (.ireturn, 1) := by decide +kernel
theorem dX1_propertyOfKind_76 : decode cX1_propertyOfKind 76 = .ok (.aload_n 0, 1) := by decide +kernel
theorem dX1_propertyOfKind_77 : decode cX1_propertyOfKind 77 = .ok (.getfield 12, 3) := by decide +kernel
theorem dX1_propertyOfKind_80 : decode cX1_propertyOfKind 80 = .ok (.iload_n 1, 1) := by decide +kernel
theorem dX1_propertyOfKind_81 : decode cX1_propertyOfKind 81 = .ok (.iconst 1, 1) := by decide +kernel
theorem dX1_propertyOfKind_82 : decode cX1_propertyOfKind 82 = .ok (.invokevirtual 49, 3) := by decide +kernel
theorem dX1_propertyOfKind_85 : decode cX1_propertyOfKind 85 = .ok (.ireturn, 1) := by decide +kernel
theorem dX1_propertyOfKind_86 : decode cX1_propertyOfKind 86 = .ok (.aload_n 0, 1) := by decide +kernel
theorem dX1_propertyOfKind_87 : decode cX1_propertyOfKind 87 = .ok (.getfield 12, 3) := by decide +kernel
theorem dX1_propertyOfKind_90 : decode cX1_propertyOfKind 90 = .ok (.iload_n 1, 1) := by decide +kernel
theorem dX1_propertyOfKind_91 : decode cX1_propertyOfKind 91 = .ok (.iconst 2, 1) := by decide +kernel
theorem dX1_propertyOfKind_92 : decode cX1_propertyOfKind 92 = .ok (.invokevirtual 49, 3) := by decide +kernel
theorem dX1_propertyOfKind_95 : decode cX1_propertyOfKind 95 = .ok (.ireturn, 1) := by decide +kernel
theorem dX1_propertyOfKind_96 : decode cX1_propertyOfKind 96 = .ok (.aload_n 0, 1) := by decide +kernel
theorem dX1_propertyOfKind_97 : decode cX1_propertyOfKind 97 = .ok (.getfield 12, 3) := by decide +kernel
theorem dX1_propertyOfKind_100 : decode cX1_propertyOfKind 100 = .ok (.iload_n 1, 1) := by decide +kernel
theorem dX1_propertyOfKind_101 : decode cX1_propertyOfKind 101 = .ok (.invokevirtual 111, 3) := by decide +kernel
theorem dX1_propertyOfKind_104 : decode cX1_propertyOfKind 104 = .ok (.ireturn, 1) := by decide +kernel
theorem dX1_propertyOfKind_105 : decode cX1_propertyOfKind 105 = .ok (.aload_n 0, 1) := by decide +kernel
theorem dX1_propertyOfKind_106 : decode cX1_propertyOfKind 106 = .ok (.getfield 12, 3) := by decide +kernel
theorem dX1_propertyOfKind_109 : decode cX1_propertyOfKind 109 = .ok (.iload_n 1, 1) := by decide +kernel
theorem dX1_propertyOfKind_110 : decode cX1_propertyOfKind 110 = .ok (.iconst 3, 1) := by decide +kernel
theorem dX1_propertyOfKind_111 : decode cX1_propertyOfKind 111 = .ok (.invokevirtual 49, 3) := by decide +kernel
theorem dX1_propertyOfKind_114 : decode cX1_propertyOfKind 114 = .ok (.ireturn, 1) := by decide +kernel
theorem dX1_propertyOfKind_115 : decode cX1_propertyOfKind 115 = .ok (.aload_n 0, 1) := by decide +kernel
theorem dX1_propertyOfKind_116 : decode cX1_propertyOfKind 116 = .ok (.getfield 21, 3) := by decide +kernel
theorem dX1_propertyOfKind_119 : decode cX1_propertyOfKind 119 = .ok (.getfield 80, 3) := by decide +kernel
theorem dX1_propertyOfKind_122 : decode cX1_propertyOfKind 122 = .ok (.iload_n 1, 1) := by decide +kernel
theorem dX1_propertyOfKind_123 : decode cX1_propertyOfKind 123 = .ok (.iaload, 1) := by decide +kernel
theorem dX1_propertyOfKind_124 : decode cX1_propertyOfKind 124 = .ok (.ireturn, 1) := by decide +kernel
theorem dX1_propertyOfKind_125 : decode cX1_propertyOfKind 125 = .ok (.aload_n 0, 1) := by decide +kernel
theorem dX1_propertyOfKind_126 : decode cX1_propertyOfKind 126 = .ok (.getfield 21, 3) := by decide +kernel
theorem dX1_propertyOfKind_129 : decode cX1_propertyOfKind 129 = .ok (.getfield 83, 3) := by decide +kernel
theorem dX1_propertyOfKind_132 : decode cX1_propertyOfKind 132 = .ok (.iload_n 1, 1) := by decide +kernel
theorem dX1_propertyOfKind_133 : decode cX1_propertyOfKind 133 = .ok (.iaload, 1) := by decide +kernel
theorem dX1_propertyOfKind_134 : decode cX1_propertyOfKind 134 = .ok (.ireturn, 1) := by decide +kernel
theorem dX1_propertyOfKind_135 : decode cX1_propertyOfKind 135 = .ok (.aload_n 0, 1) := by decide +kernel
theorem dX1_propertyOfKind_136 : decode cX1_propertyOfKind 136 = .ok (.getfield 21, 3) := by decide +kernel
theorem dX1_propertyOfKind_139 : decode cX1_propertyOfKind 139 = .ok (.getfield 114, 3) := by decide +kernel
theorem dX1_propertyOfKind_142 : decode cX1_propertyOfKind 142 = .ok (.iload_n 1, 1) := by decide +kernel
theorem dX1_propertyOfKind_143 : decode cX1_propertyOfKind 143 = .ok (.iaload, 1) := by decide +kernel
theorem dX1_propertyOfKind_144 : decode cX1_propertyOfKind 144 = .ok (.ireturn, 1) := by decide +kernel
theorem dX1_propertyOfKind_145 : decode cX1_propertyOfKind 145 = .ok (.aload_n 0, 1) := by decide +kernel
theorem dX1_propertyOfKind_146 : decode cX1_propertyOfKind 146 = .ok (.getfield 21, 3) := by decide +kernel
theorem dX1_propertyOfKind_149 : decode cX1_propertyOfKind 149 = .ok (.getfield 117, 3) := by decide +kernel
theorem dX1_propertyOfKind_152 : decode cX1_propertyOfKind 152 = .ok (.iload_n 1, 1) := by decide +kernel
theorem dX1_propertyOfKind_153 : decode cX1_propertyOfKind 153 = .ok (.iaload, 1) := by decide +kernel
theorem dX1_propertyOfKind_154 : decode cX1_propertyOfKind 154 = .ok (.ireturn, 1) := by decide +kernel
theorem dX1_propertyOfKind_155 : decode cX1_propertyOfKind 155 = .ok (.aload_n 0, 1) := by decide +kernel
theorem dX1_propertyOfKind_156 : decode cX1_propertyOfKind 156 = .ok (.getfield 21, 3) := by decide +kernel
theorem dX1_propertyOfKind_159 : decode cX1_propertyOfKind 159 = .ok (.getfield 98, 3) := by decide +kernel
theorem dX1_propertyOfKind_162 : decode cX1_propertyOfKind 162 = .ok (.iload_n 1, 1) := by decide +kernel
theorem dX1_propertyOfKind_163 : decode cX1_propertyOfKind 163 = .ok (.iaload, 1) := by decide +kernel
theorem dX1_propertyOfKind_164 : decode cX1_propertyOfKind 164 = .ok (.ireturn, 1) := by decide +kernel
theorem dX2_init_0 : decode cX2_init 0 = .ok (.aload_n 0, 1) := by decide +kernel
theorem dX2_init_1 : decode cX2_init 1 = .ok (.invokespecial 3, 3) := by decide +kernel
theorem dX2_init_4 : decode cX2_init 4 = .ok (.aload_n 0, 1) := by decide +kernel
theorem dX2_init_5 : decode cX2_init 5 = .ok (.bipush 60, 2) := by decide +kernel
theorem dX2_init_7 : decode cX2_init 7 = .ok (.newarray .int, 2) := by decide +kernel
theorem dX2_init_9 : decode cX2_init 9 = .ok (.putfield 9, 3) := by decide +kernel
theorem dX2_init_12 : decode cX2_init 12 = .ok (.return_, 1) := by decide +kernel
theorem dX2_isFull_0 : decode cX2_isFull 0 = .ok (.aload_n 0, 1) := by decide +kernel
theorem dX2_isFull_1 : decode cX2_isFull 1 = .ok (.getfield 15, 3) := by decide +kernel
theorem dX2_isFull_4 : decode cX2_isFull 4 = .ok (.bipush 60, 2) := by decide +kernel
theorem dX2_isFull_6 : decode cX2_isFull 6 = .ok (.if_icmp .lt 7, 3) := by decide +kernel
theorem dX2_isFull_9 : decode cX2_isFull 9 = .ok (.iconst 1, 1) := by decide +kernel
theorem dX2_isFull_10 : decode cX2_isFull 10 = .ok (.goto 4, 3) := by decide +kernel
theorem dX2_isFull_13 : decode cX2_isFull 13 = .ok (.iconst 0, 1) := by decide +kernel
theorem dX2_isFull_14 : decode cX2_isFull 14 = .ok (.ireturn, 1) := by decide +kernel
theorem dX2_add_0 : decode cX2_add 0 = .ok (.aload_n 0, 1) := by decide +kernel
theorem dX2_add_1 : decode cX2_add 1 = .ok (.invokevirtual 19, 3) := by decide +kernel
theorem dX2_add_4 : decode cX2_add 4 = .ok (.ifCond .ne 23, 3) := by decide +kernel
theorem dX2_add_7 : decode cX2_add 7 = .ok (.aload_n 0, 1) := by decide +kernel
theorem dX2_add_8 : decode cX2_add 8 = .ok (.getfield 9, 3) := by decide +kernel
theorem dX2_add_11 : decode cX2_add 11 = .ok (.aload_n 0, 1) := by decide +kernel
theorem dX2_add_12 : decode cX2_add 12 = .ok (.getfield 15, 3) := by decide +kernel
theorem dX2_add_15 : decode cX2_add 15 = .ok (.iload_n 1, 1) := by decide +kernel
theorem dX2_add_16 : decode cX2_add 16 = .ok (.iastore, 1) := by decide +kernel
theorem dX2_add_17 : decode cX2_add 17 = .ok (.aload_n 0, 1) := by decide +kernel
theorem dX2_add_18 : decode cX2_add 18 = .ok (.dup, 1) := by decide +kernel
theorem dX2_add_19 : decode cX2_add 19 = .ok (.getfield 15, 3) := by decide +kernel
theorem dX2_add_22 : decode cX2_add 22 = .ok (.iconst 1, 1) := by decide +kernel
theorem dX2_add_23 : decode cX2_add 23 = .ok (.iadd, 1) := by decide +kernel
theorem dX2_add_24 : decode cX2_add 24 = .ok (.putfield 15, 3) := by decide +kernel
theorem dX2_add_27 : decode cX2_add 27 = .ok (.return_, 1) := by decide +kernel
theorem dX2_codeAt_0 : decode cX2_codeAt 0 = .ok (.iload_n 1, 1) := by decide +kernel
theorem dX2_codeAt_1 : decode cX2_codeAt 1 = .ok (.ifCond .lt 20, 3) := by decide +kernel
theorem dX2_codeAt_4 : decode cX2_codeAt 4 = .ok (.iload_n 1, 1) := by decide +kernel
theorem dX2_codeAt_5 : decode cX2_codeAt 5 = .ok (.aload_n 0, 1) := by decide +kernel
theorem dX2_codeAt_6 : decode cX2_codeAt 6 = .ok (.getfield 15, 3) := by decide +kernel
theorem dX2_codeAt_9 : decode cX2_codeAt 9 = .ok (.if_icmp .ge 12, 3) := by decide +kernel
theorem dX2_codeAt_12 : decode cX2_codeAt 12 = .ok (.aload_n 0, 1) := by decide +kernel
theorem dX2_codeAt_13 : decode cX2_codeAt 13 = .ok (.getfield 9, 3) := by decide +kernel
theorem dX2_codeAt_16 : decode cX2_codeAt 16 = .ok (.iload_n 1, 1) := by decide +kernel
theorem dX2_codeAt_17 : decode cX2_codeAt 17 = .ok (.iaload, 1) := by decide +kernel
theorem dX2_codeAt_18 : decode cX2_codeAt 18 = .ok (.goto 4, 3) := by decide +kernel
theorem dX2_codeAt_21 : decode cX2_codeAt 21 = .ok (.iconst (-1), 1) := by decide +kernel
theorem dX2_codeAt_22 : decode cX2_codeAt 22 = .ok (.ireturn, 1) := by decide +kernel
theorem dX2_tellsDays_0 : decode cX2_tellsDays 0 = .ok (.iconst 0, 1) := by decide +kernel
theorem dX2_tellsDays_1 : decode cX2_tellsDays 1 = .ok (.istore_n 1, 1) := by decide +kernel
theorem dX2_tellsDays_2 : decode cX2_tellsDays 2 = .ok (.iconst 0, 1) := by decide +kernel
theorem dX2_tellsDays_3 : decode cX2_tellsDays 3 = .ok (.istore_n 2, 1) := by decide +kernel
theorem dX2_tellsDays_4 : decode cX2_tellsDays 4 = .ok (.iload_n 2, 1) := by decide +kernel
theorem dX2_tellsDays_5 : decode cX2_tellsDays 5 = .ok (.aload_n 0, 1) := by decide +kernel
theorem dX2_tellsDays_6 : decode cX2_tellsDays 6 = .ok (.getfield 15, 3) := by decide +kernel
theorem dX2_tellsDays_9 : decode cX2_tellsDays 9 = .ok (.if_icmp .ge 19, 3) := by decide +kernel
theorem dX2_tellsDays_12 : decode cX2_tellsDays 12 = .ok (.iload_n 1, 1) := by decide +kernel
theorem dX2_tellsDays_13 : decode cX2_tellsDays 13 = .ok (.aload_n 0, 1) := by decide +kernel
theorem dX2_tellsDays_14 : decode cX2_tellsDays 14 = .ok (.iload_n 2, 1) := by decide +kernel
theorem dX2_tellsDays_15 : decode cX2_tellsDays 15 = .ok (.invokevirtual 23, 3) := by decide +kernel
theorem dX2_tellsDays_18 : decode cX2_tellsDays 18 = .ok (.invokestatic 27, 3) := by decide +kernel
theorem dX2_tellsDays_21 : decode cX2_tellsDays 21 = .ok (.istore_n 1, 1) := by decide +kernel
theorem dX2_tellsDays_22 : decode cX2_tellsDays 22 = .ok (.iinc 2 1, 3) := by decide +kernel
theorem dX2_tellsDays_25 : decode cX2_tellsDays 25 = .ok (.goto (-21), 3) := by decide +kernel
theorem dX2_tellsDays_28 : decode cX2_tellsDays 28 = .ok (.iload_n 1, 1) := by decide +kernel
theorem dX2_tellsDays_29 : decode cX2_tellsDays 29 = .ok (.invokestatic 31, 3) := by decide +kernel
theorem dX2_tellsDays_32 : decode cX2_tellsDays 32 = .ok (.ireturn, 1) := by decide +kernel
theorem dX2_mayEnd_0 : decode cX2_mayEnd 0 = .ok (.iload_n 0, 1) := by decide +kernel
theorem dX2_mayEnd_1 : decode cX2_mayEnd 1 = .ok (.bipush 8, 2) := by decide +kernel
theorem dX2_mayEnd_3 : decode cX2_mayEnd 3 = .ok (.if_icmp .eq 14, 3) := by decide +kernel
theorem dX2_mayEnd_6 : decode cX2_mayEnd 6 = .ok (.iload_n 0, 1) := by decide +kernel
theorem dX2_mayEnd_7 : decode cX2_mayEnd 7 = .ok (.iconst 5, 1) := by decide +kernel
theorem dX2_mayEnd_8 : decode cX2_mayEnd 8 = .ok (.if_icmp .eq 9, 3) := by decide +kernel
theorem dX2_mayEnd_11 : decode cX2_mayEnd 11 = .ok (.iload_n 0, 1) := by decide +kernel
theorem dX2_mayEnd_12 : decode cX2_mayEnd 12 = .ok (.bipush 7, 2) := by decide +kernel
theorem dX2_mayEnd_14 : decode cX2_mayEnd 14 = .ok (.if_icmp .ne 7, 3) := by decide +kernel
theorem dX2_mayEnd_17 : decode cX2_mayEnd 17 = .ok (.iconst 1, 1) := by decide +kernel
theorem dX2_mayEnd_18 : decode cX2_mayEnd 18 = .ok (.goto 4, 3) := by decide +kernel
theorem dX2_mayEnd_21 : decode cX2_mayEnd 21 = .ok (.iconst 0, 1) := by decide +kernel
theorem dX2_mayEnd_22 : decode cX2_mayEnd 22 = .ok (.ireturn, 1) := by decide +kernel
theorem dX2_stateBehind_0 : decode cX2_stateBehind 0 = .ok (.iload_n 1, 1) := by decide +kernel
theorem dX2_stateBehind_1 : decode cX2_stateBehind 1 = .ok (.bipush 59, 2) := by decide +kernel
theorem dX2_stateBehind_3 : decode cX2_stateBehind 3 = .ok (.if_icmp .ne 12, 3) := by decide +kernel
theorem dX2_stateBehind_6 : decode cX2_stateBehind 6 = .ok (.iload_n 0, 1) := by decide +kernel
theorem dX2_stateBehind_7 : decode cX2_stateBehind 7 = .ok (.invokestatic 31, 3) := by decide +kernel
theorem dX2_stateBehind_10 : decode cX2_stateBehind 10 = .ok (.ifCond .eq 5, 3) := by decide +kernel
theorem dX2_stateBehind_13 : decode cX2_stateBehind 13 = .ok (.iconst 0, 1) := by decide +kernel
theorem dX2_stateBehind_14 : decode cX2_stateBehind 14 = .ok (.ireturn, 1) := by decide +kernel
theorem dX2_stateBehind_15 : decode cX2_stateBehind 15 = .ok (.iload_n 0, 1) := by decide +kernel
theorem dX2_stateBehind_16 : decode cX2_stateBehind 16 = .ok (.tableswitch 184 0 7 #[48, 53, 73, 92, 105, 128, 148, 169], 48) := by decide +kernel
theorem dX2_stateBehind_64 : decode cX2_stateBehind 64 = .ok (.iload_n 1, 1) := by decide +kernel
theorem dX2_stateBehind_65 : decode cX2_stateBehind 65 = .ok (.invokestatic 35, 3) := by decide +kernel
theorem dX2_stateBehind_68 : decode cX2_stateBehind 68 = .ok (.ireturn, 1) := by decide +kernel
theorem dX2_stateBehind_69 : decode cX2_stateBehind 69 = .ok (.iload_n 1, 1) := by decide +kernel
theorem dX2_stateBehind_70 : decode cX2_stateBehind 70 = .ok (.bipush 48, 2) := by decide +kernel
theorem dX2_stateBehind_72 : decode cX2_stateBehind 72 = .ok (.if_icmp .lt 14, 3) := by decide +kernel
theorem dX2_stateBehind_75 : decode cX2_stateBehind 75 = .ok (.iload_n 1, 1) := by decide +kernel
theorem dX2_stateBehind_76 : decode cX2_stateBehind 76 = .ok (.bipush 51, 2) := by decide +kernel
theorem dX2_stateBehind_78 : decode cX2_stateBehind 78 = .ok (.if_icmp .gt 8, 3) := by decide +kernel
theorem dX2_stateBehind_81 : decode cX2_stateBehind 81 = .ok (.bipush 8, 2) := by decide +kernel
theorem dX2_stateBehind_83 : decode cX2_stateBehind 83 = .ok (.goto 5, 3) := by decide +kernel
theorem dX2_stateBehind_86 : decode cX2_stateBehind 86 = .ok (.bipush 9, 2) := by decide +kernel
theorem dX2_stateBehind_88 : decode cX2_stateBehind 88 = .ok (.ireturn, 1) := by decide +kernel
theorem dX2_stateBehind_89 : decode cX2_stateBehind 89 = .ok (.iload_n 1, 1) := by decide +kernel
theorem dX2_stateBehind_90 : decode cX2_stateBehind 90 = .ok (.bipush 48, 2) := by decide +kernel
theorem dX2_stateBehind_92 : decode cX2_stateBehind 92 = .ok (.if_icmp .lt 13, 3) := by decide +kernel
theorem dX2_stateBehind_95 : decode cX2_stateBehind 95 = .ok (.iload_n 1, 1) := by decide +kernel
theorem dX2_stateBehind_96 : decode cX2_stateBehind 96 = .ok (.bipush 51, 2) := by decide +kernel
theorem dX2_stateBehind_98 : decode cX2_stateBehind 98 = .ok (.if_icmp .gt 7, 3) := by decide +kernel
theorem dX2_stateBehind_101 : decode cX2_stateBehind 101 = .ok (.iconst 3, 1) := by decide +kernel
theorem dX2_stateBehind_102 : decode cX2_stateBehind 102 = .ok (.goto 5, 3) := by decide +kernel
theorem dX2_stateBehind_105 : decode cX2_stateBehind 105 = .ok (.bipush 9, 2) := by decide +kernel
theorem dX2_stateBehind_107 : decode cX2_stateBehind 107 = .ok (.ireturn, 1) := by decide +kernel
theorem dX2_stateBehind_108 : decode cX2_stateBehind 108 = .ok (.iload_n 1, 1) := by decide +kernel
theorem dX2_stateBehind_109 : decode cX2_stateBehind 109 = .ok (.bipush 46, 2) := by decide +kernel
theorem dX2_stateBehind_111 : decode cX2_stateBehind 111 = .ok (.if_icmp .ne 7, 3) := by decide +kernel
theorem dX2_stateBehind_114 : decode cX2_stateBehind 114 = .ok (.iconst 4, 1) := by decide +kernel
theorem dX2_stateBehind_115 : decode cX2_stateBehind 115 = .ok (.goto 5, 3) := by decide +kernel
theorem dX2_stateBehind_118 : decode cX2_stateBehind 118 = .ok (.bipush 9, 2) := by decide +kernel
theorem dX2_stateBehind_120 : decode cX2_stateBehind 120 = .ok (.ireturn, 1) := by decide +kernel
theorem dX2_stateBehind_121 : decode cX2_stateBehind 121 = .ok (.iload_n 1, 1) := by decide +kernel
theorem dX2_stateBehind_122 : decode cX2_stateBehind 122 = .ok (.bipush 49, 2) := by decide +kernel
theorem dX2_stateBehind_124 : decode cX2_stateBehind 124 = .ok (.if_icmp .ne 5, 3) := by decide +kernel
theorem dX2_stateBehind_127 : decode cX2_stateBehind 127 = .ok (.iconst 5, 1) := by decide +kernel
theorem dX2_stateBehind_128 : decode cX2_stateBehind 128 = .ok (.ireturn, 1) := by decide +kernel
theorem dX2_stateBehind_129 : decode cX2_stateBehind 129 = .ok (.iload_n 1, 1) := by decide +kernel
theorem dX2_stateBehind_130 : decode cX2_stateBehind 130 = .ok (.invokestatic 38, 3) := by decide +kernel
theorem dX2_stateBehind_133 : decode cX2_stateBehind 133 = .ok (.ifCond .eq 8, 3) := by decide +kernel
theorem dX2_stateBehind_136 : decode cX2_stateBehind 136 = .ok (.bipush 8, 2) := by decide +kernel
theorem dX2_stateBehind_138 : decode cX2_stateBehind 138 = .ok (.goto 5, 3) := by decide +kernel
theorem dX2_stateBehind_141 : decode cX2_stateBehind 141 = .ok (.bipush 9, 2) := by decide +kernel
theorem dX2_stateBehind_143 : decode cX2_stateBehind 143 = .ok (.ireturn, 1) := by decide +kernel
theorem dX2_stateBehind_144 : decode cX2_stateBehind 144 = .ok (.iload_n 1, 1) := by decide +kernel
theorem dX2_stateBehind_145 : decode cX2_stateBehind 145 = .ok (.bipush 48, 2) := by decide +kernel
theorem dX2_stateBehind_147 : decode cX2_stateBehind 147 = .ok (.if_icmp .lt 14, 3) := by decide +kernel
theorem dX2_stateBehind_150 : decode cX2_stateBehind 150 = .ok (.iload_n 1, 1) := by decide +kernel
theorem dX2_stateBehind_151 : decode cX2_stateBehind 151 = .ok (.bipush 53, 2) := by decide +kernel
theorem dX2_stateBehind_153 : decode cX2_stateBehind 153 = .ok (.if_icmp .gt 8, 3) := by decide +kernel
theorem dX2_stateBehind_156 : decode cX2_stateBehind 156 = .ok (.bipush 8, 2) := by decide +kernel
theorem dX2_stateBehind_158 : decode cX2_stateBehind 158 = .ok (.goto 5, 3) := by decide +kernel
theorem dX2_stateBehind_161 : decode cX2_stateBehind 161 = .ok (.bipush 9, 2) := by decide +kernel
theorem dX2_stateBehind_163 : decode cX2_stateBehind 163 = .ok (.ireturn, 1) := by decide +kernel
theorem dX2_stateBehind_164 : decode cX2_stateBehind 164 = .ok (.iload_n 1, 1) := by decide +kernel
theorem dX2_stateBehind_165 : decode cX2_stateBehind 165 = .ok (.invokestatic 38, 3) := by decide +kernel
theorem dX2_stateBehind_168 : decode cX2_stateBehind 168 = .ok (.ifCond .eq 14, 3) := by decide +kernel
theorem dX2_stateBehind_171 : decode cX2_stateBehind 171 = .ok (.iload_n 1, 1) := by decide +kernel
theorem dX2_stateBehind_172 : decode cX2_stateBehind 172 = .ok (.bipush 48, 2) := by decide +kernel
theorem dX2_stateBehind_174 : decode cX2_stateBehind 174 = .ok (.if_icmp .eq 8, 3) := by decide +kernel
theorem dX2_stateBehind_177 : decode cX2_stateBehind 177 = .ok (.bipush 7, 2) := by decide +kernel
theorem dX2_stateBehind_179 : decode cX2_stateBehind 179 = .ok (.goto 5, 3) := by decide +kernel
theorem dX2_stateBehind_182 : decode cX2_stateBehind 182 = .ok (.bipush 9, 2) := by decide +kernel
theorem dX2_stateBehind_184 : decode cX2_stateBehind 184 = .ok (.ireturn, 1) := by decide +kernel
theorem dX2_stateBehind_185 : decode cX2_stateBehind 185 = .ok (.iload_n 1, 1) := by decide +kernel
theorem dX2_stateBehind_186 : decode cX2_stateBehind 186 = .ok (.invokestatic 38, 3) := by decide +kernel
theorem dX2_stateBehind_189 : decode cX2_stateBehind 189 = .ok (.ifCond .eq 8, 3) := by decide +kernel
theorem dX2_stateBehind_192 : decode cX2_stateBehind 192 = .ok (.bipush 8, 2) := by decide +kernel
theorem dX2_stateBehind_194 : decode cX2_stateBehind 194 = .ok (.goto 5, 3) := by decide +kernel
theorem dX2_stateBehind_197 : decode cX2_stateBehind 197 = .ok (.bipush 9, 2) := by decide +kernel
theorem dX2_stateBehind_199 : decode cX2_stateBehind 199 = .ok (.ireturn, 1) := by decide +kernel
theorem dX2_stateBehind_200 : decode cX2_stateBehind 200 = .ok (.bipush 9, 2) := by decide +kernel
theorem dX2_stateBehind_202 : decode cX2_stateBehind 202 = .ok (.ireturn, 1) := by decide +kernel
theorem dX2_stateBehindVerb_0 : decode cX2_stateBehindVerb 0 = .ok (.iload_n 0, 1) := by decide +kernel
theorem dX2_stateBehindVerb_1 : decode cX2_stateBehindVerb 1 = .ok (.lookupswitch 58 #[(97, 51), (98, 53), (100, 53), (112, 51), (116, 55)], 51) := by decide +kernel
theorem dX2_stateBehindVerb_52 : decode cX2_stateBehindVerb 52 = .ok (.iconst 1, 1) := by decide +kernel
theorem dX2_stateBehindVerb_53 : decode cX2_stateBehindVerb 53 = .ok (.ireturn, 1) := by decide +kernel
theorem dX2_stateBehindVerb_54 : decode cX2_stateBehindVerb 54 = .ok (.iconst 2, 1) := by decide +kernel
theorem dX2_stateBehindVerb_55 : decode cX2_stateBehindVerb 55 = .ok (.ireturn, 1) := by decide +kernel
theorem dX2_stateBehindVerb_56 : decode cX2_stateBehindVerb 56 = .ok (.bipush 6, 2) := by decide +kernel
theorem dX2_stateBehindVerb_58 : decode cX2_stateBehindVerb 58 = .ok (.ireturn, 1) := by decide +kernel
theorem dX2_stateBehindVerb_59 : decode cX2_stateBehindVerb 59 = .ok (.bipush 9, 2) := by decide +kernel
theorem dX2_stateBehindVerb_61 : decode cX2_stateBehindVerb 61 = .ok (.ireturn, 1) := by decide +kernel
theorem dX2_isDigit_0 : decode cX2_isDigit 0 = .ok (.iload_n 0, 1) := by decide +kernel
theorem dX2_isDigit_1 : decode cX2_isDigit 1 = .ok (.bipush 48, 2) := by decide +kernel
theorem dX2_isDigit_3 : decode cX2_isDigit 3 = .ok (.if_icmp .lt 13, 3) := by decide +kernel
theorem dX2_isDigit_6 : decode cX2_isDigit 6 = .ok (.iload_n 0, 1) := by decide +kernel
theorem dX2_isDigit_7 : decode cX2_isDigit 7 = .ok (.bipush 57, 2) := by decide +kernel
theorem dX2_isDigit_9 : decode cX2_isDigit 9 = .ok (.if_icmp .gt 7, 3) := by decide +kernel
theorem dX2_isDigit_12 : decode cX2_isDigit 12 = .ok (.iconst 1, 1) := by decide +kernel
theorem dX2_isDigit_13 : decode cX2_isDigit 13 = .ok (.goto 4, 3) := by decide +kernel
theorem dX2_isDigit_16 : decode cX2_isDigit 16 = .ok (.iconst 0, 1) := by decide +kernel
theorem dX2_isDigit_17 : decode cX2_isDigit 17 = .ok (.ireturn, 1) := by decide +kernel
theorem dX2_beginsOrder_0 : decode cX2_beginsOrder 0 = .ok (.iload_n 1, 1) := by decide +kernel
theorem dX2_beginsOrder_1 : decode cX2_beginsOrder 1 = .ok (.ifCond .eq 15, 3) := by decide +kernel
theorem dX2_beginsOrder_4 : decode cX2_beginsOrder 4 = .ok (.aload_n 0, 1) := by decide +kernel
theorem dX2_beginsOrder_5 : decode cX2_beginsOrder 5 = .ok (.iload_n 1, 1) := by decide +kernel
theorem dX2_beginsOrder_6 : decode cX2_beginsOrder 6 = .ok (.iconst 1, 1) := by decide +kernel
theorem dX2_beginsOrder_7 : decode cX2_beginsOrder 7 = .ok (.isub, 1) := by decide +kernel
theorem dX2_beginsOrder_8 : decode cX2_beginsOrder 8 = .ok (.invokevirtual 23, 3) := by decide +kernel
theorem dX2_beginsOrder_11 : decode cX2_beginsOrder 11 = .ok (.bipush 59, 2) := by decide +kernel
theorem dX2_beginsOrder_13 : decode cX2_beginsOrder 13 = .ok (.if_icmp .ne 7, 3) := by decide +kernel
theorem dX2_beginsOrder_16 : decode cX2_beginsOrder 16 = .ok (.iconst 1, 1) := by decide +kernel
theorem dX2_beginsOrder_17 : decode cX2_beginsOrder 17 = .ok (.goto 4, 3) := by decide +kernel
theorem dX2_beginsOrder_20 : decode cX2_beginsOrder 20 = .ok (.iconst 0, 1) := by decide +kernel
theorem dX2_beginsOrder_21 : decode cX2_beginsOrder 21 = .ok (.ireturn, 1) := by decide +kernel
theorem dX2_numberAt_0 : decode cX2_numberAt 0 = .ok (.iconst 0, 1) := by decide +kernel
theorem dX2_numberAt_1 : decode cX2_numberAt 1 = .ok (.istore_n 2, 1) := by decide +kernel
theorem dX2_numberAt_2 : decode cX2_numberAt 2 = .ok (.iload_n 1, 1) := by decide +kernel
theorem dX2_numberAt_3 : decode cX2_numberAt 3 = .ok (.istore_n 3, 1) := by decide +kernel
theorem dX2_numberAt_4 : decode cX2_numberAt 4 = .ok (.iload_n 3, 1) := by decide +kernel
theorem dX2_numberAt_5 : decode cX2_numberAt 5 = .ok (.aload_n 0, 1) := by decide +kernel
theorem dX2_numberAt_6 : decode cX2_numberAt 6 = .ok (.getfield 15, 3) := by decide +kernel
theorem dX2_numberAt_9 : decode cX2_numberAt 9 = .ok (.if_icmp .ge 34, 3) := by decide +kernel
theorem dX2_numberAt_12 : decode cX2_numberAt 12 = .ok (.aload_n 0, 1) := by decide +kernel
theorem dX2_numberAt_13 : decode cX2_numberAt 13 = .ok (.iload_n 3, 1) := by decide +kernel
theorem dX2_numberAt_14 : decode cX2_numberAt 14 = .ok (.invokevirtual 23, 3) := by decide +kernel
theorem dX2_numberAt_17 : decode cX2_numberAt 17 = .ok (.invokestatic 38, 3) := by decide +kernel
theorem dX2_numberAt_20 : decode cX2_numberAt 20 = .ok (.ifCond .eq 23, 3) := by decide +kernel
theorem dX2_numberAt_23 : decode cX2_numberAt 23 = .ok (.iload_n 2, 1) := by decide +kernel
theorem dX2_numberAt_24 : decode cX2_numberAt 24 = .ok (.bipush 10, 2) := by decide +kernel
theorem dX2_numberAt_26 : decode cX2_numberAt 26 = .ok (.imul, 1) := by decide +kernel
theorem dX2_numberAt_27 : decode cX2_numberAt 27 = .ok (.aload_n 0, 1) := by decide +kernel
theorem dX2_numberAt_28 : decode cX2_numberAt 28 = .ok (.iload_n 3, 1) := by decide +kernel
theorem dX2_numberAt_29 : decode cX2_numberAt 29 = .ok (.invokevirtual 23, 3) := by decide +kernel
theorem dX2_numberAt_32 : decode cX2_numberAt 32 = .ok (.iadd, 1) := by decide +kernel
theorem dX2_numberAt_33 : decode cX2_numberAt 33 = .ok (.bipush 48, 2) := by decide +kernel
theorem dX2_numberAt_35 : decode cX2_numberAt 35 = .ok (.isub, 1) := by decide +kernel
theorem dX2_numberAt_36 : decode cX2_numberAt 36 = .ok (.istore_n 2, 1) := by decide +kernel
theorem dX2_numberAt_37 : decode cX2_numberAt 37 = .ok (.iinc 3 1, 3) := by decide +kernel
theorem dX2_numberAt_40 : decode cX2_numberAt 40 = .ok (.goto (-36), 3) := by decide +kernel
theorem dX2_numberAt_43 : decode cX2_numberAt 43 = .ok (.iload_n 2, 1) := by decide +kernel
theorem dX2_numberAt_44 : decode cX2_numberAt 44 = .ok (.ireturn, 1) := by decide +kernel
theorem dX3_init_0 : decode cX3_init 0 = .ok (.aload_n 0, 1) := by decide +kernel
theorem dX3_init_1 : decode cX3_init 1 = .ok (.invokespecial 3, 3) := by decide +kernel
theorem dX3_init_4 : decode cX3_init 4 = .ok (.aload_n 0, 1) := by decide +kernel
theorem dX3_init_5 : decode cX3_init 5 = .ok (.iconst 4, 1) := by decide +kernel
theorem dX3_init_6 : decode cX3_init 6 = .ok (.newarray .int, 2) := by decide +kernel
theorem dX3_init_8 : decode cX3_init 8 = .ok (.putfield 9, 3) := by decide +kernel
theorem dX3_init_11 : decode cX3_init 11 = .ok (.iconst 0, 1) := by decide +kernel
theorem dX3_init_12 : decode cX3_init 12 = .ok (.istore_n 1, 1) := by decide +kernel
theorem dX3_init_13 : decode cX3_init 13 = .ok (.iload_n 1, 1) := by decide +kernel
theorem dX3_init_14 : decode cX3_init 14 = .ok (.iconst 4, 1) := by decide +kernel
theorem dX3_init_15 : decode cX3_init 15 = .ok (.if_icmp .ge 16, 3) := by decide +kernel
theorem dX3_init_18 : decode cX3_init 18 = .ok (.aload_n 0, 1) := by decide +kernel
theorem dX3_init_19 : decode cX3_init 19 = .ok (.getfield 9, 3) := by decide +kernel
theorem dX3_init_22 : decode cX3_init 22 = .ok (.iload_n 1, 1) := by decide +kernel
theorem dX3_init_23 : decode cX3_init 23 = .ok (.iconst 5, 1) := by decide +kernel
theorem dX3_init_24 : decode cX3_init 24 = .ok (.iastore, 1) := by decide +kernel
theorem dX3_init_25 : decode cX3_init 25 = .ok (.iinc 1 1, 3) := by decide +kernel
theorem dX3_init_28 : decode cX3_init 28 = .ok (.goto (-15), 3) := by decide +kernel
theorem dX3_init_31 : decode cX3_init 31 = .ok (.aload_n 0, 1) := by decide +kernel
theorem dX3_init_32 : decode cX3_init 32 = .ok (.bipush 64, 2) := by decide +kernel
theorem dX3_init_34 : decode cX3_init 34 = .ok (.newarray .int, 2) := by decide +kernel
theorem dX3_init_36 : decode cX3_init 36 = .ok (.putfield 15, 3) := by decide +kernel
theorem dX3_init_39 : decode cX3_init 39 = .ok (.aload_n 0, 1) := by decide +kernel
theorem dX3_init_40 : decode cX3_init 40 = .ok (.bipush 64, 2) := by decide +kernel
theorem dX3_init_42 : decode cX3_init 42 = .ok (.newarray .int, 2) := by decide +kernel
theorem dX3_init_44 : decode cX3_init 44 = .ok (.putfield 18, 3) := by decide +kernel
theorem dX3_init_47 : decode cX3_init 47 = .ok (.aload_n 0, 1) := by decide +kernel
theorem dX3_init_48 : decode cX3_init 48 = .ok (.bipush 64, 2) := by decide +kernel
theorem dX3_init_50 : decode cX3_init 50 = .ok (.newarray .int, 2) := by decide +kernel
theorem dX3_init_52 : decode cX3_init 52 = .ok (.putfield 21, 3) := by decide +kernel
theorem dX3_init_55 : decode cX3_init 55 = .ok (.aload_n 0, 1) := by decide +kernel
theorem dX3_init_56 : decode cX3_init 56 = .ok (.bipush 64, 2) := by decide +kernel
theorem dX3_init_58 : decode cX3_init 58 = .ok (.newarray .int, 2) := by decide +kernel
theorem dX3_init_60 : decode cX3_init 60 = .ok (.putfield 24, 3) := by decide +kernel
theorem dX3_init_63 : decode cX3_init 63 = .ok (.return_, 1) := by decide +kernel
theorem dX3_copyFrom_0 : decode cX3_copyFrom 0 = .ok (.aload_n 0, 1) := by decide +kernel
theorem dX3_copyFrom_1 : decode cX3_copyFrom 1 = .ok (.aload_n 1, 1) := by decide +kernel
theorem dX3_copyFrom_2 : decode cX3_copyFrom 2 = .ok (.getfield 27, 3) := by decide +kernel
theorem dX3_copyFrom_5 : decode cX3_copyFrom 5 = .ok (.putfield 27, 3) := by decide +kernel
theorem dX3_copyFrom_8 : decode cX3_copyFrom 8 = .ok (.aload_n 1, 1) := by decide +kernel
theorem dX3_copyFrom_9 : decode cX3_copyFrom 9 = .ok (.getfield 9, 3) := by decide +kernel
theorem dX3_copyFrom_12 : decode cX3_copyFrom 12 = .ok (.iconst 0, 1) := by decide +kernel
theorem dX3_copyFrom_13 : decode cX3_copyFrom 13 = .ok (.aload_n 0, 1) := by decide +kernel
theorem dX3_copyFrom_14 : decode cX3_copyFrom 14 = .ok (.getfield 9, 3) := by decide +kernel
theorem dX3_copyFrom_17 : decode cX3_copyFrom 17 = .ok (.iconst 0, 1) := by decide +kernel
theorem dX3_copyFrom_18 : decode cX3_copyFrom 18 = .ok (.iconst 4, 1) := by decide +kernel
theorem dX3_copyFrom_19 : decode cX3_copyFrom 19 = .ok (.invokestatic 31, 3) := by decide +kernel
theorem dX3_copyFrom_22 : decode cX3_copyFrom 22 = .ok (.aload_n 1, 1) := by decide +kernel
theorem dX3_copyFrom_23 : decode cX3_copyFrom 23 = .ok (.getfield 15, 3) := by decide +kernel
theorem dX3_copyFrom_26 : decode cX3_copyFrom 26 = .ok (.iconst 0, 1) := by decide +kernel
theorem dX3_copyFrom_27 : decode cX3_copyFrom 27 = .ok (.aload_n 0, 1) := by decide +kernel
theorem dX3_copyFrom_28 : decode cX3_copyFrom 28 = .ok (.getfield 15, 3) := by decide +kernel
theorem dX3_copyFrom_31 : decode cX3_copyFrom 31 = .ok (.iconst 0, 1) := by decide +kernel
theorem dX3_copyFrom_32 : decode cX3_copyFrom 32 = .ok (.bipush 64, 2) := by decide +kernel
theorem dX3_copyFrom_34 : decode cX3_copyFrom 34 = .ok (.invokestatic 31, 3) := by decide +kernel
theorem dX3_copyFrom_37 : decode cX3_copyFrom 37 = .ok (.aload_n 1, 1) := by decide +kernel
theorem dX3_copyFrom_38 : decode cX3_copyFrom 38 = .ok (.getfield 18, 3) := by decide +kernel
theorem dX3_copyFrom_41 : decode cX3_copyFrom 41 = .ok (.iconst 0, 1) := by decide +kernel
theorem dX3_copyFrom_42 : decode cX3_copyFrom 42 = .ok (.aload_n 0, 1) := by decide +kernel
theorem dX3_copyFrom_43 : decode cX3_copyFrom 43 = .ok (.getfield 18, 3) := by decide +kernel
theorem dX3_copyFrom_46 : decode cX3_copyFrom 46 = .ok (.iconst 0, 1) := by decide +kernel
theorem dX3_copyFrom_47 : decode cX3_copyFrom 47 = .ok (.bipush 64, 2) := by decide +kernel
theorem dX3_copyFrom_49 : decode cX3_copyFrom 49 = .ok (.invokestatic 31, 3) := by decide +kernel
theorem dX3_copyFrom_52 : decode cX3_copyFrom 52 = .ok (.aload_n 1, 1) := by decide +kernel
theorem dX3_copyFrom_53 : decode cX3_copyFrom 53 = .ok (.getfield 21, 3) := by decide +kernel
theorem dX3_copyFrom_56 : decode cX3_copyFrom 56 = .ok (.iconst 0, 1) := by decide +kernel
theorem dX3_copyFrom_57 : decode cX3_copyFrom 57 = .ok (.aload_n 0, 1) := by decide +kernel
theorem dX3_copyFrom_58 : decode cX3_copyFrom 58 = .ok (.getfield 21, 3) := by decide +kernel
theorem dX3_copyFrom_61 : decode cX3_copyFrom 61 = .ok (.iconst 0, 1) := by decide +kernel
theorem dX3_copyFrom_62 : decode cX3_copyFrom 62 = .ok (.bipush 64, 2) := by decide +kernel
theorem dX3_copyFrom_64 : decode cX3_copyFrom 64 = .ok (.invokestatic 31, 3) := by decide +kernel
theorem dX3_copyFrom_67 : decode cX3_copyFrom 67 = .ok (.aload_n 1, 1) := by decide +kernel
theorem dX3_copyFrom_68 : decode cX3_copyFrom 68 = .ok (.getfield 24, 3) := by decide +kernel
theorem dX3_copyFrom_71 : decode cX3_copyFrom 71 = .ok (.iconst 0, 1) := by decide +kernel
theorem dX3_copyFrom_72 : decode cX3_copyFrom 72 = .ok (.aload_n 0, 1) := by decide +kernel
theorem dX3_copyFrom_73 : decode cX3_copyFrom 73 = .ok (.getfield 24, 3) := by decide +kernel
theorem dX3_copyFrom_76 : decode cX3_copyFrom 76 = .ok (.iconst 0, 1) := by decide +kernel
theorem dX3_copyFrom_77 : decode cX3_copyFrom 77 = .ok (.bipush 64, 2) := by decide +kernel
theorem dX3_copyFrom_79 : decode cX3_copyFrom 79 = .ok (.invokestatic 31, 3) := by decide +kernel
theorem dX3_copyFrom_82 : decode cX3_copyFrom 82 = .ok (.return_, 1) := by decide +kernel
theorem dX3_statusOf_0 : decode cX3_statusOf 0 = .ok (.aload_n 0, 1) := by decide +kernel
theorem dX3_statusOf_1 : decode cX3_statusOf 1 = .ok (.getfield 15, 3) := by decide +kernel
theorem dX3_statusOf_4 : decode cX3_statusOf 4 = .ok (.iload_n 1, 1) := by decide +kernel
theorem dX3_statusOf_5 : decode cX3_statusOf 5 = .ok (.bipush 16, 2) := by decide +kernel
theorem dX3_statusOf_7 : decode cX3_statusOf 7 = .ok (.imul, 1) := by decide +kernel
theorem dX3_statusOf_8 : decode cX3_statusOf 8 = .ok (.iload_n 2, 1) := by decide +kernel
theorem dX3_statusOf_9 : decode cX3_statusOf 9 = .ok (.iadd, 1) := by decide +kernel
theorem dX3_statusOf_10 : decode cX3_statusOf 10 = .ok (.iaload, 1) := by decide +kernel
theorem dX3_statusOf_11 : decode cX3_statusOf 11 = .ok (.ireturn, 1) := by decide +kernel
theorem dX3_roundOf_0 : decode cX3_roundOf 0 = .ok (.aload_n 0, 1) := by decide +kernel
theorem dX3_roundOf_1 : decode cX3_roundOf 1 = .ok (.getfield 18, 3) := by decide +kernel
theorem dX3_roundOf_4 : decode cX3_roundOf 4 = .ok (.iload_n 1, 1) := by decide +kernel
theorem dX3_roundOf_5 : decode cX3_roundOf 5 = .ok (.bipush 16, 2) := by decide +kernel
theorem dX3_roundOf_7 : decode cX3_roundOf 7 = .ok (.imul, 1) := by decide +kernel
theorem dX3_roundOf_8 : decode cX3_roundOf 8 = .ok (.iload_n 2, 1) := by decide +kernel
theorem dX3_roundOf_9 : decode cX3_roundOf 9 = .ok (.iadd, 1) := by decide +kernel
theorem dX3_roundOf_10 : decode cX3_roundOf 10 = .ok (.iaload, 1) := by decide +kernel
theorem dX3_roundOf_11 : decode cX3_roundOf 11 = .ok (.ireturn, 1) := by decide +kernel
theorem dX3_daysLain_0 : decode cX3_daysLain 0 = .ok (.aload_n 0, 1) := by decide +kernel
theorem dX3_daysLain_1 : decode cX3_daysLain 1 = .ok (.getfield 27, 3) := by decide +kernel
theorem dX3_daysLain_4 : decode cX3_daysLain 4 = .ok (.aload_n 0, 1) := by decide +kernel
theorem dX3_daysLain_5 : decode cX3_daysLain 5 = .ok (.getfield 24, 3) := by decide +kernel
theorem dX3_daysLain_8 : decode cX3_daysLain 8 = .ok (.iload_n 1, 1) := by decide +kernel
theorem dX3_daysLain_9 : decode cX3_daysLain 9 = .ok (.bipush 16, 2) := by decide +kernel
theorem dX3_daysLain_11 : decode cX3_daysLain 11 = .ok (.imul, 1) := by decide +kernel
theorem dX3_daysLain_12 : decode cX3_daysLain 12 = .ok (.iload_n 2, 1) := by decide +kernel
theorem dX3_daysLain_13 : decode cX3_daysLain 13 = .ok (.iadd, 1) := by decide +kernel
theorem dX3_daysLain_14 : decode cX3_daysLain 14 = .ok (.iaload, 1) := by decide +kernel
theorem dX3_daysLain_15 : decode cX3_daysLain 15 = .ok (.isub, 1) := by decide +kernel
theorem dX3_daysLain_16 : decode cX3_daysLain 16 = .ok (.ireturn, 1) := by decide +kernel
theorem dX3_daysToRipe_0 : decode cX3_daysToRipe 0 = .ok (.iconst 0, 1) := by decide +kernel
theorem dX3_daysToRipe_1 : decode cX3_daysToRipe 1 = .ok (.aload_n 0, 1) := by decide +kernel
theorem dX3_daysToRipe_2 : decode cX3_daysToRipe 2 = .ok (.getfield 9, 3) := by decide +kernel
theorem dX3_daysToRipe_5 : decode cX3_daysToRipe 5 = .ok (.iload_n 1, 1) := by decide +kernel
theorem dX3_daysToRipe_6 : decode cX3_daysToRipe 6 = .ok (.iaload, 1) := by decide +kernel
theorem dX3_daysToRipe_7 : decode cX3_daysToRipe 7 = .ok (.aload_n 0, 1) := by decide +kernel
theorem dX3_daysToRipe_8 : decode cX3_daysToRipe 8 = .ok (.iload_n 1, 1) := by decide +kernel
theorem dX3_daysToRipe_9 : decode cX3_daysToRipe 9 = .ok (.iload_n 2, 1) := by decide +kernel
theorem dX3_daysToRipe_10 : decode cX3_daysToRipe 10 = .ok (.invokevirtual 37, 3) := by decide +kernel
theorem dX3_daysToRipe_13 : decode cX3_daysToRipe 13 = .ok (.isub, 1) := by decide +kernel
theorem dX3_daysToRipe_14 : decode cX3_daysToRipe 14 = .ok (.invokestatic 41, 3) := by decide +kernel
theorem dX3_daysToRipe_17 : decode cX3_daysToRipe 17 = .ok (.ireturn, 1) := by decide +kernel
theorem dX3_isRipe_0 : decode cX3_isRipe 0 = .ok (.iload_n 1, 1) := by decide +kernel
theorem dX3_isRipe_1 : decode cX3_isRipe 1 = .ok (.bipush 16, 2) := by decide +kernel
theorem dX3_isRipe_3 : decode cX3_isRipe 3 = .ok (.imul, 1) := by decide +kernel
theorem dX3_isRipe_4 : decode cX3_isRipe 4 = .ok (.iload_n 2, 1) := by decide +kernel
theorem dX3_isRipe_5 : decode cX3_isRipe 5 = .ok (.iadd, 1) := by decide +kernel
theorem dX3_isRipe_6 : decode cX3_isRipe 6 = .ok (.istore_n 3, 1) := by decide +kernel
theorem dX3_isRipe_7 : decode cX3_isRipe 7 = .ok (.aload_n 0, 1) := by decide +kernel
theorem dX3_isRipe_8 : decode cX3_isRipe 8 = .ok (.getfield 15, 3) := by decide +kernel
theorem dX3_isRipe_11 : decode cX3_isRipe 11 = .ok (.iload_n 3, 1) := by decide +kernel
theorem dX3_isRipe_12 : decode cX3_isRipe 12 = .ok (.iaload, 1) := by decide +kernel
theorem dX3_isRipe_13 : decode cX3_isRipe 13 = .ok (.iconst 2, 1) := by decide +kernel
theorem dX3_isRipe_14 : decode cX3_isRipe 14 = .ok (.if_icmp .ne 27, 3) := by decide +kernel
theorem dX3_isRipe_17 : decode cX3_isRipe 17 = .ok (.aload_n 0, 1) := by decide +kernel
theorem dX3_isRipe_18 : decode cX3_isRipe 18 = .ok (.getfield 27, 3) := by decide +kernel
theorem dX3_isRipe_21 : decode cX3_isRipe 21 = .ok (.aload_n 0, 1) := by decide +kernel
theorem dX3_isRipe_22 : decode cX3_isRipe 22 = .ok (.getfield 24, 3) := by decide +kernel
theorem dX3_isRipe_25 : decode cX3_isRipe 25 = .ok (.iload_n 3, 1) := by decide +kernel
theorem dX3_isRipe_26 : decode cX3_isRipe 26 = .ok (.iaload, 1) := by decide +kernel
theorem dX3_isRipe_27 : decode cX3_isRipe 27 = .ok (.isub, 1) := by decide +kernel
theorem dX3_isRipe_28 : decode cX3_isRipe 28 = .ok (.aload_n 0, 1) := by decide +kernel
theorem dX3_isRipe_29 : decode cX3_isRipe 29 = .ok (.getfield 9, 3) := by decide +kernel
theorem dX3_isRipe_32 : decode cX3_isRipe 32 = .ok (.iload_n 1, 1) := by decide +kernel
theorem dX3_isRipe_33 : decode cX3_isRipe 33 = .ok (.iaload, 1) := by decide +kernel
theorem dX3_isRipe_34 : decode cX3_isRipe 34 = .ok (.if_icmp .lt 7, 3) := by decide +kernel
theorem dX3_isRipe_37 : decode cX3_isRipe 37 = .ok (.iconst 1, 1) := by decide +kernel
theorem dX3_isRipe_38 : decode cX3_isRipe 38 = .ok (.goto 4, 3) := by decide +kernel
theorem dX3_isRipe_41 : decode cX3_isRipe 41 = .ok (.iconst 0, 1) := by decide +kernel
theorem dX3_isRipe_42 : decode cX3_isRipe 42 = .ok (.ireturn, 1) := by decide +kernel
theorem dX3_canBeGiven_0 : decode cX3_canBeGiven 0 = .ok (.aload_n 0, 1) := by decide +kernel
theorem dX3_canBeGiven_1 : decode cX3_canBeGiven 1 = .ok (.iload_n 1, 1) := by decide +kernel
theorem dX3_canBeGiven_2 : decode cX3_canBeGiven 2 = .ok (.iload_n 2, 1) := by decide +kernel
theorem dX3_canBeGiven_3 : decode cX3_canBeGiven 3 = .ok (.invokevirtual 46, 3) := by decide +kernel
theorem dX3_canBeGiven_6 : decode cX3_canBeGiven 6 = .ok (.ifCond .eq 12, 3) := by decide +kernel
theorem dX3_canBeGiven_9 : decode cX3_canBeGiven 9 = .ok (.aload_n 0, 1) := by decide +kernel
theorem dX3_canBeGiven_10 : decode cX3_canBeGiven 10 = .ok (.iload_n 1, 1) := by decide +kernel
theorem dX3_canBeGiven_11 : decode cX3_canBeGiven 11 = .ok (.iload_n 2, 1) := by decide +kernel
theorem dX3_canBeGiven_12 : decode cX3_canBeGiven 12 = .ok (.invokevirtual 49, 3) := by decide +kernel
theorem dX3_canBeGiven_15 : decode cX3_canBeGiven 15 = .ok (.ifCond .eq 7, 3) := by decide +kernel
theorem dX3_canBeGiven_18 : decode cX3_canBeGiven 18 = .ok (.iconst 1, 1) := by decide +kernel
theorem dX3_canBeGiven_19 : decode cX3_canBeGiven 19 = .ok (.goto 4, 3) := by decide +kernel
theorem dX3_canBeGiven_22 : decode cX3_canBeGiven 22 = .ok (.iconst 0, 1) := by decide +kernel
theorem dX3_canBeGiven_23 : decode cX3_canBeGiven 23 = .ok (.ireturn, 1) := by decide +kernel
theorem dX3_give_0 : decode cX3_give 0 = .ok (.aload_n 0, 1) := by decide +kernel
theorem dX3_give_1 : decode cX3_give 1 = .ok (.iload_n 1, 1) := by decide +kernel
theorem dX3_give_2 : decode cX3_give 2 = .ok (.iload_n 2, 1) := by decide +kernel
theorem dX3_give_3 : decode cX3_give 3 = .ok (.invokevirtual 53, 3) := by decide +kernel
theorem dX3_give_6 : decode cX3_give 6 = .ok (.aload_n 0, 1) := by decide +kernel
theorem dX3_give_7 : decode cX3_give 7 = .ok (.getfield 18, 3) := by decide +kernel
theorem dX3_give_10 : decode cX3_give 10 = .ok (.iload_n 1, 1) := by decide +kernel
theorem dX3_give_11 : decode cX3_give 11 = .ok (.bipush 16, 2) := by decide +kernel
theorem dX3_give_13 : decode cX3_give 13 = .ok (.imul, 1) := by decide +kernel
theorem dX3_give_14 : decode cX3_give 14 = .ok (.iload_n 2, 1) := by decide +kernel
theorem dX3_give_15 : decode cX3_give 15 = .ok (.iadd, 1) := by decide +kernel
theorem dX3_give_16 : decode cX3_give 16 = .ok (.dup2, 1) := by decide +kernel
theorem dX3_give_17 : decode cX3_give 17 = .ok (.iaload, 1) := by decide +kernel
theorem dX3_give_18 : decode cX3_give 18 = .ok (.iconst 1, 1) := by decide +kernel
theorem dX3_give_19 : decode cX3_give 19 = .ok (.iadd, 1) := by decide +kernel
theorem dX3_give_20 : decode cX3_give 20 = .ok (.iastore, 1) := by decide +kernel
theorem dX3_give_21 : decode cX3_give 21 = .ok (.aload_n 0, 1) := by decide +kernel
theorem dX3_give_22 : decode cX3_give 22 = .ok (.getfield 15, 3) := by decide +kernel
theorem dX3_give_25 : decode cX3_give 25 = .ok (.iload_n 1, 1) := by decide +kernel
theorem dX3_give_26 : decode cX3_give 26 = .ok (.bipush 16, 2) := by decide +kernel
theorem dX3_give_28 : decode cX3_give 28 = .ok (.imul, 1) := by decide +kernel
theorem dX3_give_29 : decode cX3_give 29 = .ok (.iload_n 2, 1) := by decide +kernel
theorem dX3_give_30 : decode cX3_give 30 = .ok (.iadd, 1) := by decide +kernel
theorem dX3_give_31 : decode cX3_give 31 = .ok (.iconst 1, 1) := by decide +kernel
theorem dX3_give_32 : decode cX3_give 32 = .ok (.iastore, 1) := by decide +kernel
theorem dX3_give_33 : decode cX3_give 33 = .ok (.return_, 1) := by decide +kernel
theorem dX3_revive_0 : decode cX3_revive 0 = .ok (.aload_n 0, 1) := by decide +kernel
theorem dX3_revive_1 : decode cX3_revive 1 = .ok (.iload_n 1, 1) := by decide +kernel
theorem dX3_revive_2 : decode cX3_revive 2 = .ok (.iload_n 2, 1) := by decide +kernel
theorem dX3_revive_3 : decode cX3_revive 3 = .ok (.invokevirtual 53, 3) := by decide +kernel
theorem dX3_revive_6 : decode cX3_revive 6 = .ok (.aload_n 0, 1) := by decide +kernel
theorem dX3_revive_7 : decode cX3_revive 7 = .ok (.getfield 15, 3) := by decide +kernel
theorem dX3_revive_10 : decode cX3_revive 10 = .ok (.iload_n 1, 1) := by decide +kernel
theorem dX3_revive_11 : decode cX3_revive 11 = .ok (.bipush 16, 2) := by decide +kernel
theorem dX3_revive_13 : decode cX3_revive 13 = .ok (.imul, 1) := by decide +kernel
theorem dX3_revive_14 : decode cX3_revive 14 = .ok (.iload_n 2, 1) := by decide +kernel
theorem dX3_revive_15 : decode cX3_revive 15 = .ok (.iadd, 1) := by decide +kernel
theorem dX3_revive_16 : decode cX3_revive 16 = .ok (.iconst 1, 1) := by decide +kernel
theorem dX3_revive_17 : decode cX3_revive 17 = .ok (.iastore, 1) := by decide +kernel
theorem dX3_revive_18 : decode cX3_revive 18 = .ok (.return_, 1) := by decide +kernel
theorem dX3_wearOut_0 : decode cX3_wearOut 0 = .ok (.aload_n 0, 1) := by decide +kernel
theorem dX3_wearOut_1 : decode cX3_wearOut 1 = .ok (.getfield 15, 3) := by decide +kernel
theorem dX3_wearOut_4 : decode cX3_wearOut 4 = .ok (.iload_n 1, 1) := by decide +kernel
theorem dX3_wearOut_5 : decode cX3_wearOut 5 = .ok (.bipush 16, 2) := by decide +kernel
theorem dX3_wearOut_7 : decode cX3_wearOut 7 = .ok (.imul, 1) := by decide +kernel
theorem dX3_wearOut_8 : decode cX3_wearOut 8 = .ok (.iload_n 2, 1) := by decide +kernel
theorem dX3_wearOut_9 : decode cX3_wearOut 9 = .ok (.iadd, 1) := by decide +kernel
theorem dX3_wearOut_10 : decode cX3_wearOut 10 = .ok (.iconst 3, 1) := by decide +kernel
theorem dX3_wearOut_11 : decode cX3_wearOut 11 = .ok (.iastore, 1) := by decide +kernel
theorem dX3_wearOut_12 : decode cX3_wearOut 12 = .ok (.return_, 1) := by decide +kernel
theorem dX3_layOnTop_0 : decode cX3_layOnTop 0 = .ok (.iload_n 1, 1) := by decide +kernel
theorem dX3_layOnTop_1 : decode cX3_layOnTop 1 = .ok (.bipush 16, 2) := by decide +kernel
theorem dX3_layOnTop_3 : decode cX3_layOnTop 3 = .ok (.imul, 1) := by decide +kernel
theorem dX3_layOnTop_4 : decode cX3_layOnTop 4 = .ok (.istore_n 3, 1) := by decide +kernel
theorem dX3_layOnTop_5 : decode cX3_layOnTop 5 = .ok (.iload_n 3, 1) := by decide +kernel
theorem dX3_layOnTop_6 : decode cX3_layOnTop 6 = .ok (.iload_n 1, 1) := by decide +kernel
theorem dX3_layOnTop_7 : decode cX3_layOnTop 7 = .ok (.iconst 1, 1) := by decide +kernel
theorem dX3_layOnTop_8 : decode cX3_layOnTop 8 = .ok (.iadd, 1) := by decide +kernel
theorem dX3_layOnTop_9 : decode cX3_layOnTop 9 = .ok (.bipush 16, 2) := by decide +kernel
theorem dX3_layOnTop_11 : decode cX3_layOnTop 11 = .ok (.imul, 1) := by decide +kernel
theorem dX3_layOnTop_12 : decode cX3_layOnTop 12 = .ok (.if_icmp .ge 19, 3) := by decide +kernel
theorem dX3_layOnTop_15 : decode cX3_layOnTop 15 = .ok (.aload_n 0, 1) := by decide +kernel
theorem dX3_layOnTop_16 : decode cX3_layOnTop 16 = .ok (.getfield 21, 3) := by decide +kernel
theorem dX3_layOnTop_19 : decode cX3_layOnTop 19 = .ok (.iload_n 3, 1) := by decide +kernel
theorem dX3_layOnTop_20 : decode cX3_layOnTop 20 = .ok (.dup2, 1) := by decide +kernel
theorem dX3_layOnTop_21 : decode cX3_layOnTop 21 = .ok (.iaload, 1) := by decide +kernel
theorem dX3_layOnTop_22 : decode cX3_layOnTop 22 = .ok (.iconst 1, 1) := by decide +kernel
theorem dX3_layOnTop_23 : decode cX3_layOnTop 23 = .ok (.iadd, 1) := by decide +kernel
theorem dX3_layOnTop_24 : decode cX3_layOnTop 24 = .ok (.iastore, 1) := by decide +kernel
theorem dX3_layOnTop_25 : decode cX3_layOnTop 25 = .ok (.iinc 3 1, 3) := by decide +kernel
theorem dX3_layOnTop_28 : decode cX3_layOnTop 28 = .ok (.goto (-23), 3) := by decide +kernel
theorem dX3_layOnTop_31 : decode cX3_layOnTop 31 = .ok (.iload_n 1, 1) := by decide +kernel
theorem dX3_layOnTop_32 : decode cX3_layOnTop 32 = .ok (.bipush 16, 2) := by decide +kernel
theorem dX3_layOnTop_34 : decode cX3_layOnTop 34 = .ok (.imul, 1) := by decide +kernel
theorem dX3_layOnTop_35 : decode cX3_layOnTop 35 = .ok (.iload_n 2, 1) := by decide +kernel
theorem dX3_layOnTop_36 : decode cX3_layOnTop 36 = .ok (.iadd, 1) := by decide +kernel
theorem dX3_layOnTop_37 : decode cX3_layOnTop 37 = .ok (.istore_n 3, 1) := by decide +kernel
theorem dX3_layOnTop_38 : decode cX3_layOnTop 38 = .ok (.aload_n 0, 1) := by decide +kernel
theorem dX3_layOnTop_39 : decode cX3_layOnTop 39 = .ok (.getfield 15, 3) := by decide +kernel
theorem dX3_layOnTop_42 : decode cX3_layOnTop 42 = .ok (.iload_n 3, 1) := by decide +kernel
theorem dX3_layOnTop_43 : decode cX3_layOnTop 43 = .ok (.iconst 2, 1) := by decide +kernel
theorem dX3_layOnTop_44 : decode cX3_layOnTop 44 = .ok (.iastore, 1) := by decide +kernel
theorem dX3_layOnTop_45 : decode cX3_layOnTop 45 = .ok (.aload_n 0, 1) := by decide +kernel
theorem dX3_layOnTop_46 : decode cX3_layOnTop 46 = .ok (.getfield 21, 3) := by decide +kernel
theorem dX3_layOnTop_49 : decode cX3_layOnTop 49 = .ok (.iload_n 3, 1) := by decide +kernel
theorem dX3_layOnTop_50 : decode cX3_layOnTop 50 = .ok (.iconst 0, 1) := by decide +kernel
theorem dX3_layOnTop_51 : decode cX3_layOnTop 51 = .ok (.iastore, 1) := by decide +kernel
theorem dX3_layOnTop_52 : decode cX3_layOnTop 52 = .ok (.aload_n 0, 1) := by decide +kernel
theorem dX3_layOnTop_53 : decode cX3_layOnTop 53 = .ok (.getfield 24, 3) := by decide +kernel
theorem dX3_layOnTop_56 : decode cX3_layOnTop 56 = .ok (.iload_n 3, 1) := by decide +kernel
theorem dX3_layOnTop_57 : decode cX3_layOnTop 57 = .ok (.aload_n 0, 1) := by decide +kernel
theorem dX3_layOnTop_58 : decode cX3_layOnTop 58 = .ok (.getfield 27, 3) := by decide +kernel
theorem dX3_layOnTop_61 : decode cX3_layOnTop 61 = .ok (.iastore, 1) := by decide +kernel
theorem dX3_layOnTop_62 : decode cX3_layOnTop 62 = .ok (.return_, 1) := by decide +kernel
theorem dX3_takeOut_0 : decode cX3_takeOut 0 = .ok (.iload_n 1, 1) := by decide +kernel
theorem dX3_takeOut_1 : decode cX3_takeOut 1 = .ok (.bipush 16, 2) := by decide +kernel
theorem dX3_takeOut_3 : decode cX3_takeOut 3 = .ok (.imul, 1) := by decide +kernel
theorem dX3_takeOut_4 : decode cX3_takeOut 4 = .ok (.iload_n 2, 1) := by decide +kernel
theorem dX3_takeOut_5 : decode cX3_takeOut 5 = .ok (.iadd, 1) := by decide +kernel
theorem dX3_takeOut_6 : decode cX3_takeOut 6 = .ok (.istore_n 3, 1) := by decide +kernel
theorem dX3_takeOut_7 : decode cX3_takeOut 7 = .ok (.aload_n 0, 1) := by decide +kernel
theorem dX3_takeOut_8 : decode cX3_takeOut 8 = .ok (.getfield 15, 3) := by decide +kernel
theorem dX3_takeOut_11 : decode cX3_takeOut 11 = .ok (.iload_n 3, 1) := by decide +kernel
theorem dX3_takeOut_12 : decode cX3_takeOut 12 = .ok (.iaload, 1) := by decide +kernel
theorem dX3_takeOut_13 : decode cX3_takeOut 13 = .ok (.iconst 2, 1) := by decide +kernel
theorem dX3_takeOut_14 : decode cX3_takeOut 14 = .ok (.if_icmp .eq 4, 3) := by decide +kernel
theorem dX3_takeOut_17 : decode cX3_takeOut 17 = .ok (.return_, 1) := by decide +kernel
theorem dX3_takeOut_18 : decode cX3_takeOut 18 = .ok (.iload_n 1, 1) := by decide +kernel
theorem dX3_takeOut_19 : decode cX3_takeOut 19 = .ok (.bipush 16, 2) := by decide +kernel
theorem dX3_takeOut_21 : decode cX3_takeOut 21 = .ok (.imul, 1) := by decide +kernel
theorem dX3_takeOut_22 : decode cX3_takeOut 22 = .ok (.istore 4, 2) := by decide +kernel
theorem dX3_takeOut_24 : decode cX3_takeOut 24 = .ok (.iload 4, 2) := by decide +kernel
theorem dX3_takeOut_26 : decode cX3_takeOut 26 = .ok (.iload_n 1, 1) := by decide +kernel
theorem dX3_takeOut_27 : decode cX3_takeOut 27 = .ok (.iconst 1, 1) := by decide +kernel
theorem dX3_takeOut_28 : decode cX3_takeOut 28 = .ok (.iadd, 1) := by decide +kernel
theorem dX3_takeOut_29 : decode cX3_takeOut 29 = .ok (.bipush 16, 2) := by decide +kernel
theorem dX3_takeOut_31 : decode cX3_takeOut 31 = .ok (.imul, 1) := by decide +kernel
theorem dX3_takeOut_32 : decode cX3_takeOut 32 = .ok (.if_icmp .ge 36, 3) := by decide +kernel
theorem dX3_takeOut_35 : decode cX3_takeOut 35 = .ok (.aload_n 0, 1) := by decide +kernel
theorem dX3_takeOut_36 : decode cX3_takeOut 36 = .ok (.getfield 21, 3) := by decide +kernel
theorem dX3_takeOut_39 : decode cX3_takeOut 39 = .ok (.iload 4, 2) := by decide +kernel
theorem dX3_takeOut_41 : decode cX3_takeOut 41 = .ok (.iaload, 1) := by decide +kernel
theorem dX3_takeOut_42 : decode cX3_takeOut 42 = .ok (.aload_n 0, 1) := by decide +kernel
theorem dX3_takeOut_43 : decode cX3_takeOut 43 = .ok (.getfield 21, 3) := by decide +kernel
theorem dX3_takeOut_46 : decode cX3_takeOut 46 = .ok (.iload_n 3, 1) := by decide +kernel
theorem dX3_takeOut_47 : decode cX3_takeOut 47 = .ok (.iaload, 1) := by decide +kernel
theorem dX3_takeOut_48 : decode cX3_takeOut 48 = .ok (.if_icmp .le 14, 3) := by decide +kernel
theorem dX3_takeOut_51 : decode cX3_takeOut 51 = .ok (.aload_n 0, 1) := by decide +kernel
theorem dX3_takeOut_52 : decode cX3_takeOut 52 = .ok (.getfield 21, 3) := by decide +kernel
theorem dX3_takeOut_55 : decode cX3_takeOut 55 = .ok (.iload 4, 2) := by decide +kernel
theorem dX3_takeOut_57 : decode cX3_takeOut 57 = .ok (.dup2, 1) := by decide +kernel
theorem dX3_takeOut_58 : decode cX3_takeOut 58 = .ok (.iaload, 1) := by decide +kernel
theorem dX3_takeOut_59 : decode cX3_takeOut 59 = .ok (.iconst 1, 1) := by decide +kernel
theorem dX3_takeOut_60 : decode cX3_takeOut 60 = .ok (.isub, 1) := by decide +kernel
theorem dX3_takeOut_61 : decode cX3_takeOut 61 = .ok (.iastore, 1) := by decide +kernel
theorem dX3_takeOut_62 : decode cX3_takeOut 62 = .ok (.iinc 4 1, 3) := by decide +kernel
theorem dX3_takeOut_65 : decode cX3_takeOut 65 = .ok (.goto (-41), 3) := by decide +kernel
theorem dX3_takeOut_68 : decode cX3_takeOut 68 = .ok (.return_, 1) := by decide +kernel
theorem dX3_turnPile_0 : decode cX3_turnPile 0 = .ok (.aload_n 0, 1) := by decide +kernel
theorem dX3_turnPile_1 : decode cX3_turnPile 1 = .ok (.iload_n 1, 1) := by decide +kernel
theorem dX3_turnPile_2 : decode cX3_turnPile 2 = .ok (.iconst 2, 1) := by decide +kernel
theorem dX3_turnPile_3 : decode cX3_turnPile 3 = .ok (.invokevirtual 57, 3) := by decide +kernel
theorem dX3_turnPile_6 : decode cX3_turnPile 6 = .ok (.iconst 1, 1) := by decide +kernel
theorem dX3_turnPile_7 : decode cX3_turnPile 7 = .ok (.isub, 1) := by decide +kernel
theorem dX3_turnPile_8 : decode cX3_turnPile 8 = .ok (.istore_n 2, 1) := by decide +kernel
theorem dX3_turnPile_9 : decode cX3_turnPile 9 = .ok (.iload_n 1, 1) := by decide +kernel
theorem dX3_turnPile_10 : decode cX3_turnPile 10 = .ok (.bipush 16, 2) := by decide +kernel
theorem dX3_turnPile_12 : decode cX3_turnPile 12 = .ok (.imul, 1) := by decide +kernel
theorem dX3_turnPile_13 : decode cX3_turnPile 13 = .ok (.istore_n 3, 1) := by decide +kernel
theorem dX3_turnPile_14 : decode cX3_turnPile 14 = .ok (.iload_n 3, 1) := by decide +kernel
theorem dX3_turnPile_15 : decode cX3_turnPile 15 = .ok (.iload_n 1, 1) := by decide +kernel
theorem dX3_turnPile_16 : decode cX3_turnPile 16 = .ok (.iconst 1, 1) := by decide +kernel
theorem dX3_turnPile_17 : decode cX3_turnPile 17 = .ok (.iadd, 1) := by decide +kernel
theorem dX3_turnPile_18 : decode cX3_turnPile 18 = .ok (.bipush 16, 2) := by decide +kernel
theorem dX3_turnPile_20 : decode cX3_turnPile 20 = .ok (.imul, 1) := by decide +kernel
theorem dX3_turnPile_21 : decode cX3_turnPile 21 = .ok (.if_icmp .ge 23, 3) := by decide +kernel
theorem dX3_turnPile_24 : decode cX3_turnPile 24 = .ok (.aload_n 0, 1) := by decide +kernel
theorem dX3_turnPile_25 : decode cX3_turnPile 25 = .ok (.getfield 21, 3) := by decide +kernel
theorem dX3_turnPile_28 : decode cX3_turnPile 28 = .ok (.iload_n 3, 1) := by decide +kernel
theorem dX3_turnPile_29 : decode cX3_turnPile 29 = .ok (.iload_n 2, 1) := by decide +kernel
theorem dX3_turnPile_30 : decode cX3_turnPile 30 = .ok (.aload_n 0, 1) := by decide +kernel
theorem dX3_turnPile_31 : decode cX3_turnPile 31 = .ok (.getfield 21, 3) := by decide +kernel
theorem dX3_turnPile_34 : decode cX3_turnPile 34 = .ok (.iload_n 3, 1) := by decide +kernel
theorem dX3_turnPile_35 : decode cX3_turnPile 35 = .ok (.iaload, 1) := by decide +kernel
theorem dX3_turnPile_36 : decode cX3_turnPile 36 = .ok (.isub, 1) := by decide +kernel
theorem dX3_turnPile_37 : decode cX3_turnPile 37 = .ok (.iastore, 1) := by decide +kernel
theorem dX3_turnPile_38 : decode cX3_turnPile 38 = .ok (.iinc 3 1, 3) := by decide +kernel
theorem dX3_turnPile_41 : decode cX3_turnPile 41 = .ok (.goto (-27), 3) := by decide +kernel
theorem dX3_turnPile_44 : decode cX3_turnPile 44 = .ok (.return_, 1) := by decide +kernel
theorem dX3_keyAt_0 : decode cX3_keyAt 0 = .ok (.iconst 0, 1) := by decide +kernel
theorem dX3_keyAt_1 : decode cX3_keyAt 1 = .ok (.istore_n 3, 1) := by decide +kernel
theorem dX3_keyAt_2 : decode cX3_keyAt 2 = .ok (.iload_n 3, 1) := by decide +kernel
theorem dX3_keyAt_3 : decode cX3_keyAt 3 = .ok (.bipush 16, 2) := by decide +kernel
theorem dX3_keyAt_5 : decode cX3_keyAt 5 = .ok (.if_icmp .ge 36, 3) := by decide +kernel
theorem dX3_keyAt_8 : decode cX3_keyAt 8 = .ok (.aload_n 0, 1) := by decide +kernel
theorem dX3_keyAt_9 : decode cX3_keyAt 9 = .ok (.iload_n 1, 1) := by decide +kernel
theorem dX3_keyAt_10 : decode cX3_keyAt 10 = .ok (.iload_n 3, 1) := by decide +kernel
theorem dX3_keyAt_11 : decode cX3_keyAt 11 = .ok (.invokevirtual 46, 3) := by decide +kernel
theorem dX3_keyAt_14 : decode cX3_keyAt 14 = .ok (.iconst 2, 1) := by decide +kernel
theorem dX3_keyAt_15 : decode cX3_keyAt 15 = .ok (.if_icmp .ne 20, 3) := by decide +kernel
theorem dX3_keyAt_18 : decode cX3_keyAt 18 = .ok (.aload_n 0, 1) := by decide +kernel
theorem dX3_keyAt_19 : decode cX3_keyAt 19 = .ok (.getfield 21, 3) := by decide +kernel
theorem dX3_keyAt_22 : decode cX3_keyAt 22 = .ok (.iload_n 1, 1) := by decide +kernel
theorem dX3_keyAt_23 : decode cX3_keyAt 23 = .ok (.bipush 16, 2) := by decide +kernel
theorem dX3_keyAt_25 : decode cX3_keyAt 25 = .ok (.imul, 1) := by decide +kernel
theorem dX3_keyAt_26 : decode cX3_keyAt 26 = .ok (.iload_n 3, 1) := by decide +kernel
theorem dX3_keyAt_27 : decode cX3_keyAt 27 = .ok (.iadd, 1) := by decide +kernel
theorem dX3_keyAt_28 : decode cX3_keyAt 28 = .ok (.iaload, 1) := by decide +kernel
theorem dX3_keyAt_29 : decode cX3_keyAt 29 = .ok (.iload_n 2, 1) := by decide +kernel
theorem dX3_keyAt_30 : decode cX3_keyAt 30 = .ok (.if_icmp .ne 5, 3) := by decide +kernel
theorem dX3_keyAt_33 : decode cX3_keyAt 33 = .ok (.iload_n 3, 1) := by decide +kernel
theorem dX3_keyAt_34 : decode cX3_keyAt 34 = .ok (.ireturn, 1) := by decide +kernel
theorem dX3_keyAt_35 : decode cX3_keyAt 35 = .ok (.iinc 3 1, 3) := by decide +kernel
theorem dX3_keyAt_38 : decode cX3_keyAt 38 = .ok (.goto (-36), 3) := by decide +kernel
theorem dX3_keyAt_41 : decode cX3_keyAt 41 = .ok (.iconst (-1), 1) := by decide +kernel
theorem dX3_keyAt_42 : decode cX3_keyAt 42 = .ok (.ireturn, 1) := by decide +kernel
theorem dX3_draw_0 : decode cX3_draw 0 = .ok (.iconst (-1), 1) := by decide +kernel
theorem dX3_draw_1 : decode cX3_draw 1 = .ok (.istore 4, 2) := by decide +kernel
theorem dX3_draw_3 : decode cX3_draw 3 = .ok (.iconst 0, 1) := by decide +kernel
theorem dX3_draw_4 : decode cX3_draw 4 = .ok (.istore 5, 2) := by decide +kernel
theorem dX3_draw_6 : decode cX3_draw 6 = .ok (.iconst 0, 1) := by decide +kernel
theorem dX3_draw_7 : decode cX3_draw 7 = .ok (.istore 6, 2) := by decide +kernel
theorem dX3_draw_9 : decode cX3_draw 9 = .ok (.iload 6, 2) := by decide +kernel
theorem dX3_draw_11 : decode cX3_draw 11 = .ok (.bipush 16, 2) := by decide +kernel
theorem dX3_draw_13 : decode cX3_draw 13 = .ok (.if_icmp .ge 62, 3) := by decide +kernel
theorem dX3_draw_16 : decode cX3_draw 16 = .ok (.iload_n 3, 1) := by decide +kernel
theorem dX3_draw_17 : decode cX3_draw 17 = .ok (.iconst 1, 1) := by decide +kernel
theorem dX3_draw_18 : decode cX3_draw 18 = .ok (.iload 6, 2) := by decide +kernel
theorem dX3_draw_20 : decode cX3_draw 20 = .ok (.ishl, 1) := by decide +kernel
theorem dX3_draw_21 : decode cX3_draw 21 = .ok (.iand, 1) := by decide +kernel
theorem dX3_draw_22 : decode cX3_draw 22 = .ok (.ifCond .ne 47, 3) := by decide +kernel
theorem dX3_draw_25 : decode cX3_draw 25 = .ok (.aload_n 0, 1) := by decide +kernel
theorem dX3_draw_26 : decode cX3_draw 26 = .ok (.iload_n 1, 1) := by decide +kernel
theorem dX3_draw_27 : decode cX3_draw 27 = .ok (.iload 6, 2) := by decide +kernel
theorem dX3_draw_29 : decode cX3_draw 29 = .ok (.invokevirtual 60, 3) := by decide +kernel
theorem dX3_draw_32 : decode cX3_draw 32 = .ok (.ifCond .ne 6, 3) := by decide +kernel
theorem dX3_draw_35 : decode cX3_draw 35 = .ok (.goto 34, 3) := by decide +kernel
theorem dX3_draw_38 : decode cX3_draw 38 = .ok (.aload_n 0, 1) := by decide +kernel
theorem dX3_draw_39 : decode cX3_draw 39 = .ok (.iload_n 1, 1) := by decide +kernel
theorem dX3_draw_40 : decode cX3_draw 40 = .ok (.iload 6, 2) := by decide +kernel
theorem dX3_draw_42 : decode cX3_draw 42 = .ok (.iload_n 2, 1) := by decide +kernel
theorem dX3_draw_43 : decode cX3_draw 43 = .ok (.invokevirtual 63, 3) := by decide +kernel
theorem dX3_draw_46 : decode cX3_draw 46 = .ok (.istore 7, 2) := by decide +kernel
theorem dX3_draw_48 : decode cX3_draw 48 = .ok (.iload 4, 2) := by decide +kernel
theorem dX3_draw_50 : decode cX3_draw 50 = .ok (.iconst (-1), 1) := by decide +kernel
theorem dX3_draw_51 : decode cX3_draw 51 = .ok (.if_icmp .eq 10, 3) := by decide +kernel
theorem dX3_draw_54 : decode cX3_draw 54 = .ok (.iload 7, 2) := by decide +kernel
theorem dX3_draw_56 : decode cX3_draw 56 = .ok (.iload 5, 2) := by decide +kernel
theorem dX3_draw_58 : decode cX3_draw 58 = .ok (.if_icmp .ge 11, 3) := by decide +kernel
theorem dX3_draw_61 : decode cX3_draw 61 = .ok (.iload 6, 2) := by decide +kernel
theorem dX3_draw_63 : decode cX3_draw 63 = .ok (.istore 4, 2) := by decide +kernel
theorem dX3_draw_65 : decode cX3_draw 65 = .ok (.iload 7, 2) := by decide +kernel
theorem dX3_draw_67 : decode cX3_draw 67 = .ok (.istore 5, 2) := by decide +kernel
theorem dX3_draw_69 : decode cX3_draw 69 = .ok (.iinc 6 1, 3) := by decide +kernel
theorem dX3_draw_72 : decode cX3_draw 72 = .ok (.goto (-63), 3) := by decide +kernel
theorem dX3_draw_75 : decode cX3_draw 75 = .ok (.iload 4, 2) := by decide +kernel
theorem dX3_draw_77 : decode cX3_draw 77 = .ok (.ireturn, 1) := by decide +kernel
theorem dX3_rankByRule_0 : decode cX3_rankByRule 0 = .ok (.iload_n 1, 1) := by decide +kernel
theorem dX3_rankByRule_1 : decode cX3_rankByRule 1 = .ok (.bipush 16, 2) := by decide +kernel
theorem dX3_rankByRule_3 : decode cX3_rankByRule 3 = .ok (.imul, 1) := by decide +kernel
theorem dX3_rankByRule_4 : decode cX3_rankByRule 4 = .ok (.iload_n 2, 1) := by decide +kernel
theorem dX3_rankByRule_5 : decode cX3_rankByRule 5 = .ok (.iadd, 1) := by decide +kernel
theorem dX3_rankByRule_6 : decode cX3_rankByRule 6 = .ok (.istore 4, 2) := by decide +kernel
theorem dX3_rankByRule_8 : decode cX3_rankByRule 8 = .ok (.aload_n 0, 1) := by decide +kernel
theorem dX3_rankByRule_9 : decode cX3_rankByRule 9 = .ok (.getfield 15, 3) := by decide +kernel
theorem dX3_rankByRule_12 : decode cX3_rankByRule 12 = .ok (.iload 4, 2) := by decide +kernel
theorem dX3_rankByRule_14 : decode cX3_rankByRule 14 = .ok (.iaload, 1) := by decide +kernel
theorem dX3_rankByRule_15 : decode cX3_rankByRule 15 = .ok (.ifCond .ne 7, 3) := by decide +kernel
theorem dX3_rankByRule_18 : decode cX3_rankByRule 18 = .ok (.iconst 1, 1) := by decide +kernel
theorem dX3_rankByRule_19 : decode cX3_rankByRule 19 = .ok (.goto 4, 3) := by decide +kernel
theorem dX3_rankByRule_22 : decode cX3_rankByRule 22 = .ok (.iconst 0, 1) := by decide +kernel
theorem dX3_rankByRule_23 : decode cX3_rankByRule 23 = .ok (.istore 5, 2) := by decide +kernel
theorem dX3_rankByRule_25 : decode cX3_rankByRule 25 = .ok (.iload_n 3, 1) := by decide +kernel
theorem dX3_rankByRule_26 : decode cX3_rankByRule 26 = .ok (.tableswitch 68 0 2 #[26, 46, 66], 26) := by decide +kernel
theorem dX3_rankByRule_52 : decode cX3_rankByRule 52 = .ok (.iload 5, 2) := by decide +kernel
theorem dX3_rankByRule_54 : decode cX3_rankByRule 54 = .ok (.ifCond .eq 7, 3) := by decide +kernel
theorem dX3_rankByRule_57 : decode cX3_rankByRule 57 = .ok (.iload_n 2, 1) := by decide +kernel
theorem dX3_rankByRule_58 : decode cX3_rankByRule 58 = .ok (.goto 13, 3) := by decide +kernel
theorem dX3_rankByRule_61 : decode cX3_rankByRule 61 = .ok (.bipush 16, 2) := by decide +kernel
theorem dX3_rankByRule_63 : decode cX3_rankByRule 63 = .ok (.aload_n 0, 1) := by decide +kernel
theorem dX3_rankByRule_64 : decode cX3_rankByRule 64 = .ok (.getfield 21, 3) := by decide +kernel
theorem dX3_rankByRule_67 : decode cX3_rankByRule 67 = .ok (.iload 4, 2) := by decide +kernel
theorem dX3_rankByRule_69 : decode cX3_rankByRule 69 = .ok (.iaload, 1) := by decide +kernel
theorem dX3_rankByRule_70 : decode cX3_rankByRule 70 = .ok (.iadd, 1) := by decide +kernel
theorem dX3_rankByRule_71 : decode cX3_rankByRule 71 = .ok (.ireturn, 1) := by decide +kernel
theorem dX3_rankByRule_72 : decode cX3_rankByRule 72 = .ok (.iload 5, 2) := by decide +kernel
theorem dX3_rankByRule_74 : decode cX3_rankByRule 74 = .ok (.ifCond .eq 10, 3) := by decide +kernel
theorem dX3_rankByRule_77 : decode cX3_rankByRule 77 = .ok (.bipush 16, 2) := by decide +kernel
theorem dX3_rankByRule_79 : decode cX3_rankByRule 79 = .ok (.iload_n 2, 1) := by decide +kernel
theorem dX3_rankByRule_80 : decode cX3_rankByRule 80 = .ok (.iadd, 1) := by decide +kernel
theorem dX3_rankByRule_81 : decode cX3_rankByRule 81 = .ok (.goto 10, 3) := by decide +kernel
theorem dX3_rankByRule_84 : decode cX3_rankByRule 84 = .ok (.aload_n 0, 1) := by decide +kernel
theorem dX3_rankByRule_85 : decode cX3_rankByRule 85 = .ok (.getfield 21, 3) := by decide +kernel
theorem dX3_rankByRule_88 : decode cX3_rankByRule 88 = .ok (.iload 4, 2) := by decide +kernel
theorem dX3_rankByRule_90 : decode cX3_rankByRule 90 = .ok (.iaload, 1) := by decide +kernel
theorem dX3_rankByRule_91 : decode cX3_rankByRule 91 = .ok (.ireturn, 1) := by decide +kernel
theorem dX3_rankByRule_92 : decode cX3_rankByRule 92 = .ok (.iload_n 2, 1) := by decide +kernel
theorem dX3_rankByRule_93 : decode cX3_rankByRule 93 = .ok (.ireturn, 1) := by decide +kernel
theorem dX3_rankByRule_94 : decode cX3_rankByRule 94 = .ok (.aload_n 0, 1) := by decide +kernel
theorem dX3_rankByRule_95 : decode cX3_rankByRule 95 = .ok (.getfield 18, 3) := by decide +kernel
theorem dX3_rankByRule_98 : decode cX3_rankByRule 98 = .ok (.iload 4, 2) := by decide +kernel
theorem dX3_rankByRule_100 : decode cX3_rankByRule 100 = .ok (.iaload, 1) := by decide +kernel
theorem dX3_rankByRule_101 : decode cX3_rankByRule 101 = .ok (.bipush 16, 2) := by decide +kernel
theorem dX3_rankByRule_103 : decode cX3_rankByRule 103 = .ok (.imul, 1) := by decide +kernel
theorem dX3_rankByRule_104 : decode cX3_rankByRule 104 = .ok (.iload_n 2, 1) := by decide +kernel
theorem dX3_rankByRule_105 : decode cX3_rankByRule 105 = .ok (.iadd, 1) := by decide +kernel
theorem dX3_rankByRule_106 : decode cX3_rankByRule 106 = .ok (.ireturn, 1) := by decide +kernel
theorem dX3_judge_0 : decode cX3_judge 0 = .ok (.aload_n 0, 1) := by decide +kernel
theorem dX3_judge_1 : decode cX3_judge 1 = .ok (.iload_n 1, 1) := by decide +kernel
theorem dX3_judge_2 : decode cX3_judge 2 = .ok (.iload_n 2, 1) := by decide +kernel
theorem dX3_judge_3 : decode cX3_judge 3 = .ok (.invokevirtual 46, 3) := by decide +kernel
theorem dX3_judge_6 : decode cX3_judge 6 = .ok (.iconst 1, 1) := by decide +kernel
theorem dX3_judge_7 : decode cX3_judge 7 = .ok (.if_icmp .ne 13, 3) := by decide +kernel
theorem dX3_judge_10 : decode cX3_judge 10 = .ok (.iload_n 3, 1) := by decide +kernel
theorem dX3_judge_11 : decode cX3_judge 11 = .ok (.aload_n 0, 1) := by decide +kernel
theorem dX3_judge_12 : decode cX3_judge 12 = .ok (.iload_n 1, 1) := by decide +kernel
theorem dX3_judge_13 : decode cX3_judge 13 = .ok (.iload_n 2, 1) := by decide +kernel
theorem dX3_judge_14 : decode cX3_judge 14 = .ok (.invokevirtual 67, 3) := by decide +kernel
theorem dX3_judge_17 : decode cX3_judge 17 = .ok (.if_icmp .le 5, 3) := by decide +kernel
theorem dX3_judge_20 : decode cX3_judge 20 = .ok (.iconst 1, 1) := by decide +kernel
theorem dX3_judge_21 : decode cX3_judge 21 = .ok (.ireturn, 1) := by decide +kernel
theorem dX3_judge_22 : decode cX3_judge 22 = .ok (.iload_n 3, 1) := by decide +kernel
theorem dX3_judge_23 : decode cX3_judge 23 = .ok (.aload_n 0, 1) := by decide +kernel
theorem dX3_judge_24 : decode cX3_judge 24 = .ok (.iload_n 1, 1) := by decide +kernel
theorem dX3_judge_25 : decode cX3_judge 25 = .ok (.iload_n 2, 1) := by decide +kernel
theorem dX3_judge_26 : decode cX3_judge 26 = .ok (.invokevirtual 67, 3) := by decide +kernel
theorem dX3_judge_29 : decode cX3_judge 29 = .ok (.if_icmp .ge 7, 3) := by decide +kernel
theorem dX3_judge_32 : decode cX3_judge 32 = .ok (.iconst 2, 1) := by decide +kernel
theorem dX3_judge_33 : decode cX3_judge 33 = .ok (.goto 4, 3) := by decide +kernel
theorem dX3_judge_36 : decode cX3_judge 36 = .ok (.iconst 0, 1) := by decide +kernel
theorem dX3_judge_37 : decode cX3_judge 37 = .ok (.ireturn, 1) := by decide +kernel
theorem dX3_canPass_0 : decode cX3_canPass 0 = .ok (.iload_n 1, 1) := by decide +kernel
theorem dX3_canPass_1 : decode cX3_canPass 1 = .ok (.sipush 9999, 3) := by decide +kernel
theorem dX3_canPass_4 : decode cX3_canPass 4 = .ok (.aload_n 0, 1) := by decide +kernel
theorem dX3_canPass_5 : decode cX3_canPass 5 = .ok (.getfield 27, 3) := by decide +kernel
theorem dX3_canPass_8 : decode cX3_canPass 8 = .ok (.isub, 1) := by decide +kernel
theorem dX3_canPass_9 : decode cX3_canPass 9 = .ok (.if_icmp .gt 7, 3) := by decide +kernel
theorem dX3_canPass_12 : decode cX3_canPass 12 = .ok (.iconst 1, 1) := by decide +kernel
theorem dX3_canPass_13 : decode cX3_canPass 13 = .ok (.goto 4, 3) := by decide +kernel
theorem dX3_canPass_16 : decode cX3_canPass 16 = .ok (.iconst 0, 1) := by decide +kernel
theorem dX3_canPass_17 : decode cX3_canPass 17 = .ok (.ireturn, 1) := by decide +kernel
theorem dX3_letPass_0 : decode cX3_letPass 0 = .ok (.aload_n 0, 1) := by decide +kernel
theorem dX3_letPass_1 : decode cX3_letPass 1 = .ok (.dup, 1) := by decide +kernel
theorem dX3_letPass_2 : decode cX3_letPass 2 = .ok (.getfield 27, 3) := by decide +kernel
theorem dX3_letPass_5 : decode cX3_letPass 5 = .ok (.iload_n 1, 1) := by decide +kernel
theorem dX3_letPass_6 : decode cX3_letPass 6 = .ok (.iadd, 1) := by decide +kernel
theorem dX3_letPass_7 : decode cX3_letPass 7 = .ok (.putfield 27, 3) := by decide +kernel
theorem dX3_letPass_10 : decode cX3_letPass 10 = .ok (.return_, 1) := by decide +kernel
theorem dX3_howMany_0 : decode cX3_howMany 0 = .ok (.iconst 0, 1) := by decide +kernel
theorem dX3_howMany_1 : decode cX3_howMany 1 = .ok (.istore_n 3, 1) := by decide +kernel
theorem dX3_howMany_2 : decode cX3_howMany 2 = .ok (.iconst 0, 1) := by decide +kernel
theorem dX3_howMany_3 : decode cX3_howMany 3 = .ok (.istore 4, 2) := by decide +kernel
theorem dX3_howMany_5 : decode cX3_howMany 5 = .ok (.iload 4, 2) := by decide +kernel
theorem dX3_howMany_7 : decode cX3_howMany 7 = .ok (.bipush 16, 2) := by decide +kernel
theorem dX3_howMany_9 : decode cX3_howMany 9 = .ok (.if_icmp .ge 23, 3) := by decide +kernel
theorem dX3_howMany_12 : decode cX3_howMany 12 = .ok (.aload_n 0, 1) := by decide +kernel
theorem dX3_howMany_13 : decode cX3_howMany 13 = .ok (.iload_n 1, 1) := by decide +kernel
theorem dX3_howMany_14 : decode cX3_howMany 14 = .ok (.iload 4, 2) := by decide +kernel
theorem dX3_howMany_16 : decode cX3_howMany 16 = .ok (.invokevirtual 46, 3) := by decide +kernel
theorem dX3_howMany_19 : decode cX3_howMany 19 = .ok (.iload_n 2, 1) := by decide +kernel
theorem dX3_howMany_20 : decode cX3_howMany 20 = .ok (.if_icmp .ne 6, 3) := by decide +kernel
theorem dX3_howMany_23 : decode cX3_howMany 23 = .ok (.iinc 3 1, 3) := by decide +kernel
theorem dX3_howMany_26 : decode cX3_howMany 26 = .ok (.iinc 4 1, 3) := by decide +kernel
theorem dX3_howMany_29 : decode cX3_howMany 29 = .ok (.goto (-24), 3) := by decide +kernel
theorem dX3_howMany_32 : decode cX3_howMany 32 = .ok (.iload_n 3, 1) := by decide +kernel
theorem dX3_howMany_33 : decode cX3_howMany 33 = .ok (.ireturn, 1) := by decide +kernel
theorem dX3_howManyOfAll_0 : decode cX3_howManyOfAll 0 = .ok (.iconst 0, 1) := by decide +kernel
theorem dX3_howManyOfAll_1 : decode cX3_howManyOfAll 1 = .ok (.istore_n 2, 1) := by decide +kernel
theorem dX3_howManyOfAll_2 : decode cX3_howManyOfAll 2 = .ok (.iconst 0, 1) := by decide +kernel
theorem dX3_howManyOfAll_3 : decode cX3_howManyOfAll 3 = .ok (.istore_n 3, 1) := by decide +kernel
theorem dX3_howManyOfAll_4 : decode cX3_howManyOfAll 4 = .ok (.iload_n 3, 1) := by decide +kernel
theorem dX3_howManyOfAll_5 : decode cX3_howManyOfAll 5 = .ok (.iconst 4, 1) := by decide +kernel
theorem dX3_howManyOfAll_6 : decode cX3_howManyOfAll 6 = .ok (.if_icmp .ge 18, 3) := by decide +kernel
theorem dX3_howManyOfAll_9 : decode cX3_howManyOfAll 9 = .ok (.iload_n 2, 1) := by decide +kernel
theorem dX3_howManyOfAll_10 : decode cX3_howManyOfAll 10 = .ok (.aload_n 0, 1) := by decide +kernel
theorem dX3_howManyOfAll_11 : decode cX3_howManyOfAll 11 = .ok (.iload_n 3, 1) := by decide +kernel
theorem dX3_howManyOfAll_12 : decode cX3_howManyOfAll 12 = .ok (.iload_n 1, 1) := by decide +kernel
theorem dX3_howManyOfAll_13 : decode cX3_howManyOfAll 13 = .ok (.invokevirtual 57, 3) := by decide +kernel
theorem dX3_howManyOfAll_16 : decode cX3_howManyOfAll 16 = .ok (.iadd, 1) := by decide +kernel
theorem dX3_howManyOfAll_17 : decode cX3_howManyOfAll 17 = .ok (.istore_n 2, 1) := by decide +kernel
theorem dX3_howManyOfAll_18 : decode cX3_howManyOfAll 18 = .ok (.iinc 3 1, 3) := by decide +kernel
theorem dX3_howManyOfAll_21 : decode cX3_howManyOfAll 21 = .ok (.goto (-17), 3) := by decide +kernel
theorem dX3_howManyOfAll_24 : decode cX3_howManyOfAll 24 = .ok (.iload_n 2, 1) := by decide +kernel
theorem dX3_howManyOfAll_25 : decode cX3_howManyOfAll 25 = .ok (.ireturn, 1) := by decide +kernel
theorem dX3_howManyRipe_0 : decode cX3_howManyRipe 0 = .ok (.iconst 0, 1) := by decide +kernel
theorem dX3_howManyRipe_1 : decode cX3_howManyRipe 1 = .ok (.istore_n 2, 1) := by decide +kernel
theorem dX3_howManyRipe_2 : decode cX3_howManyRipe 2 = .ok (.iconst 0, 1) := by decide +kernel
theorem dX3_howManyRipe_3 : decode cX3_howManyRipe 3 = .ok (.istore_n 3, 1) := by decide +kernel
theorem dX3_howManyRipe_4 : decode cX3_howManyRipe 4 = .ok (.iload_n 3, 1) := by decide +kernel
theorem dX3_howManyRipe_5 : decode cX3_howManyRipe 5 = .ok (.bipush 16, 2) := by decide +kernel
theorem dX3_howManyRipe_7 : decode cX3_howManyRipe 7 = .ok (.if_icmp .ge 21, 3) := by decide +kernel
theorem dX3_howManyRipe_10 : decode cX3_howManyRipe 10 = .ok (.aload_n 0, 1) := by decide +kernel
theorem dX3_howManyRipe_11 : decode cX3_howManyRipe 11 = .ok (.iload_n 1, 1) := by decide +kernel
theorem dX3_howManyRipe_12 : decode cX3_howManyRipe 12 = .ok (.iload_n 3, 1) := by decide +kernel
theorem dX3_howManyRipe_13 : decode cX3_howManyRipe 13 = .ok (.invokevirtual 49, 3) := by decide +kernel
theorem dX3_howManyRipe_16 : decode cX3_howManyRipe 16 = .ok (.ifCond .eq 6, 3) := by decide +kernel
theorem dX3_howManyRipe_19 : decode cX3_howManyRipe 19 = .ok (.iinc 2 1, 3) := by decide +kernel
theorem dX3_howManyRipe_22 : decode cX3_howManyRipe 22 = .ok (.iinc 3 1, 3) := by decide +kernel
theorem dX3_howManyRipe_25 : decode cX3_howManyRipe 25 = .ok (.goto (-21), 3) := by decide +kernel
theorem dX3_howManyRipe_28 : decode cX3_howManyRipe 28 = .ok (.iload_n 2, 1) := by decide +kernel
theorem dX3_howManyRipe_29 : decode cX3_howManyRipe 29 = .ok (.ireturn, 1) := by decide +kernel
theorem dX3_howManyRipeOfAll_0 : decode cX3_howManyRipeOfAll 0 = .ok (.iconst 0, 1) := by decide +kernel
theorem dX3_howManyRipeOfAll_1 : decode cX3_howManyRipeOfAll 1 = .ok (.istore_n 1, 1) := by decide +kernel
theorem dX3_howManyRipeOfAll_2 : decode cX3_howManyRipeOfAll 2 = .ok (.iconst 0, 1) := by decide +kernel
theorem dX3_howManyRipeOfAll_3 : decode cX3_howManyRipeOfAll 3 = .ok (.istore_n 2, 1) := by decide +kernel
theorem dX3_howManyRipeOfAll_4 : decode cX3_howManyRipeOfAll 4 = .ok (.iload_n 2, 1) := by decide +kernel
theorem dX3_howManyRipeOfAll_5 : decode cX3_howManyRipeOfAll 5 = .ok (.iconst 4, 1) := by decide +kernel
theorem dX3_howManyRipeOfAll_6 : decode cX3_howManyRipeOfAll 6 = .ok (.if_icmp .ge 17, 3) := by decide +kernel
theorem dX3_howManyRipeOfAll_9 : decode cX3_howManyRipeOfAll 9 = .ok (.iload_n 1, 1) := by decide +kernel
theorem dX3_howManyRipeOfAll_10 : decode cX3_howManyRipeOfAll 10 = .ok (.aload_n 0, 1) := by decide +kernel
theorem dX3_howManyRipeOfAll_11 : decode cX3_howManyRipeOfAll 11 = .ok (.iload_n 2, 1) := by decide +kernel
theorem dX3_howManyRipeOfAll_12 : decode cX3_howManyRipeOfAll 12 = .ok (.invokevirtual 70, 3) := by decide +kernel
theorem dX3_howManyRipeOfAll_15 : decode cX3_howManyRipeOfAll 15 = .ok (.iadd, 1) := by decide +kernel
theorem dX3_howManyRipeOfAll_16 : decode cX3_howManyRipeOfAll 16 = .ok (.istore_n 1, 1) := by decide +kernel
theorem dX3_howManyRipeOfAll_17 : decode cX3_howManyRipeOfAll 17 = .ok (.iinc 2 1, 3) := by decide +kernel
theorem dX3_howManyRipeOfAll_20 : decode cX3_howManyRipeOfAll 20 = .ok (.goto (-16), 3) := by decide +kernel
theorem dX3_howManyRipeOfAll_23 : decode cX3_howManyRipeOfAll 23 = .ok (.iload_n 1, 1) := by decide +kernel
theorem dX3_howManyRipeOfAll_24 : decode cX3_howManyRipeOfAll 24 = .ok (.ireturn, 1) := by decide +kernel
theorem dX3_greatestRound_0 : decode cX3_greatestRound 0 = .ok (.iconst 0, 1) := by decide +kernel
theorem dX3_greatestRound_1 : decode cX3_greatestRound 1 = .ok (.istore_n 1, 1) := by decide +kernel
theorem dX3_greatestRound_2 : decode cX3_greatestRound 2 = .ok (.iconst 0, 1) := by decide +kernel
theorem dX3_greatestRound_3 : decode cX3_greatestRound 3 = .ok (.istore_n 2, 1) := by decide +kernel
theorem dX3_greatestRound_4 : decode cX3_greatestRound 4 = .ok (.iload_n 2, 1) := by decide +kernel
theorem dX3_greatestRound_5 : decode cX3_greatestRound 5 = .ok (.bipush 64, 2) := by decide +kernel
theorem dX3_greatestRound_7 : decode cX3_greatestRound 7 = .ok (.if_icmp .ge 20, 3) := by decide +kernel
theorem dX3_greatestRound_10 : decode cX3_greatestRound 10 = .ok (.iload_n 1, 1) := by decide +kernel
theorem dX3_greatestRound_11 : decode cX3_greatestRound 11 = .ok (.aload_n 0, 1) := by decide +kernel
theorem dX3_greatestRound_12 : decode cX3_greatestRound 12 = .ok (.getfield 18, 3) := by decide +kernel
theorem dX3_greatestRound_15 : decode cX3_greatestRound 15 = .ok (.iload_n 2, 1) := by decide +kernel
theorem dX3_greatestRound_16 : decode cX3_greatestRound 16 = .ok (.iaload, 1) := by decide +kernel
theorem dX3_greatestRound_17 : decode cX3_greatestRound 17 = .ok (.invokestatic 41, 3) := by decide +kernel
theorem dX3_greatestRound_20 : decode cX3_greatestRound 20 = .ok (.istore_n 1, 1) := by decide +kernel
theorem dX3_greatestRound_21 : decode cX3_greatestRound 21 = .ok (.iinc 2 1, 3) := by decide +kernel
theorem dX3_greatestRound_24 : decode cX3_greatestRound 24 = .ok (.goto (-20), 3) := by decide +kernel
theorem dX3_greatestRound_27 : decode cX3_greatestRound 27 = .ok (.iload_n 1, 1) := by decide +kernel
theorem dX3_greatestRound_28 : decode cX3_greatestRound 28 = .ok (.ireturn, 1) := by decide +kernel
theorem dX3_propertyOfKey_0 : decode cX3_propertyOfKey 0 = .ok (.iload_n 3, 1) := by decide +kernel
theorem dX3_propertyOfKey_1 : decode cX3_propertyOfKey 1 = .ok (.ifCond .ne 10, 3) := by decide +kernel
theorem dX3_propertyOfKey_4 : decode cX3_propertyOfKey 4 = .ok (.aload_n 0, 1) := by decide +kernel
theorem dX3_propertyOfKey_5 : decode cX3_propertyOfKey 5 = .ok (.iload_n 1, 1) := by decide +kernel
theorem dX3_propertyOfKey_6 : decode cX3_propertyOfKey 6 = .ok (.iload_n 2, 1) := by decide +kernel
theorem dX3_propertyOfKey_7 : decode cX3_propertyOfKey 7 = .ok (.invokevirtual 46, 3) := by decide +kernel
theorem dX3_propertyOfKey_10 : decode cX3_propertyOfKey 10 = .ok (.ireturn, 1) := by decide +kernel
theorem dX3_propertyOfKey_11 : decode cX3_propertyOfKey 11 = .ok (.iload_n 3, 1) := by decide +kernel
theorem dX3_propertyOfKey_12 : decode cX3_propertyOfKey 12 = .ok (.iconst 1, 1) := by decide +kernel
theorem dX3_propertyOfKey_13 : decode cX3_propertyOfKey 13 = .ok (.if_icmp .ne 10, 3) := by decide +kernel
theorem dX3_propertyOfKey_16 : decode cX3_propertyOfKey 16 = .ok (.aload_n 0, 1) := by decide +kernel
theorem dX3_propertyOfKey_17 : decode cX3_propertyOfKey 17 = .ok (.iload_n 1, 1) := by decide +kernel
theorem dX3_propertyOfKey_18 : decode cX3_propertyOfKey 18 = .ok (.iload_n 2, 1) := by decide +kernel
theorem dX3_propertyOfKey_19 : decode cX3_propertyOfKey 19 = .ok (.invokevirtual 67, 3) := by decide +kernel
theorem dX3_propertyOfKey_22 : decode cX3_propertyOfKey 22 = .ok (.ireturn, 1) := by decide +kernel
theorem dX3_propertyOfKey_23 : decode cX3_propertyOfKey 23 = .ok (.aload_n 0, 1) := by decide +kernel
theorem dX3_propertyOfKey_24 : decode cX3_propertyOfKey 24 = .ok (.iload_n 1, 1) := by decide +kernel
theorem dX3_propertyOfKey_25 : decode cX3_propertyOfKey 25 = .ok (.iload_n 2, 1) := by decide +kernel
theorem dX3_propertyOfKey_26 : decode cX3_propertyOfKey 26 = .ok (.invokevirtual 46, 3) := by decide +kernel
theorem dX3_propertyOfKey_29 : decode cX3_propertyOfKey 29 = .ok (.iconst 2, 1) := by decide +kernel
theorem dX3_propertyOfKey_30 : decode cX3_propertyOfKey 30 = .ok (.if_icmp .eq 5, 3) := by decide +kernel
theorem dX3_propertyOfKey_33 : decode cX3_propertyOfKey 33 = .ok (.iconst (-1), 1) := by decide +kernel
theorem dX3_propertyOfKey_34 : decode cX3_propertyOfKey 34 = .ok (.ireturn, 1) := by decide +kernel
theorem dX3_propertyOfKey_35 : decode cX3_propertyOfKey 35 = .ok (.iload_n 3, 1) := by decide +kernel
theorem dX3_propertyOfKey_36 : decode cX3_propertyOfKey 36 = .ok (.iconst 2, 1) := by decide +kernel
theorem dX3_propertyOfKey_37 : decode cX3_propertyOfKey 37 = .ok (.if_icmp .ne 15, 3) := by decide +kernel
theorem dX3_propertyOfKey_40 : decode cX3_propertyOfKey 40 = .ok (.aload_n 0, 1) := by decide +kernel
theorem dX3_propertyOfKey_41 : decode cX3_propertyOfKey 41 = .ok (.getfield 21, 3) := by decide +kernel
theorem dX3_propertyOfKey_44 : decode cX3_propertyOfKey 44 = .ok (.iload_n 1, 1) := by decide +kernel
theorem dX3_propertyOfKey_45 : decode cX3_propertyOfKey 45 = .ok (.bipush 16, 2) := by decide +kernel
theorem dX3_propertyOfKey_47 : decode cX3_propertyOfKey 47 = .ok (.imul, 1) := by decide +kernel
theorem dX3_propertyOfKey_48 : decode cX3_propertyOfKey 48 = .ok (.iload_n 2, 1) := by decide +kernel
theorem dX3_propertyOfKey_49 : decode cX3_propertyOfKey 49 = .ok (.iadd, 1) := by decide +kernel
theorem dX3_propertyOfKey_50 : decode cX3_propertyOfKey 50 = .ok (.iaload, 1) := by decide +kernel
theorem dX3_propertyOfKey_51 : decode cX3_propertyOfKey 51 = .ok (.ireturn, 1) := by decide +kernel
theorem dX3_propertyOfKey_52 : decode cX3_propertyOfKey 52 = .ok (.iload_n 3, 1) := by decide +kernel
theorem dX3_propertyOfKey_53 : decode cX3_propertyOfKey 53 = .ok (.iconst 3, 1) := by decide +kernel
theorem dX3_propertyOfKey_54 : decode cX3_propertyOfKey 54 = .ok (.if_icmp .ne 12, 3) := by decide +kernel
theorem dX3_propertyOfKey_57 : decode cX3_propertyOfKey 57 = .ok (.aload_n 0, 1) := by decide +kernel
theorem dX3_propertyOfKey_58 : decode cX3_propertyOfKey 58 = .ok (.iload_n 1, 1) := by decide +kernel
theorem dX3_propertyOfKey_59 : decode cX3_propertyOfKey 59 = .ok (.iload_n 2, 1) := by decide +kernel
theorem dX3_propertyOfKey_60 : decode cX3_propertyOfKey 60 = .ok (.invokevirtual 37, 3) := by decide +kernel
theorem dX3_propertyOfKey_63 : decode cX3_propertyOfKey 63 = .ok (.goto 9, 3) := by decide +kernel
theorem dX3_propertyOfKey_66 : decode cX3_propertyOfKey 66 = .ok (.aload_n 0, 1) := by decide +kernel
theorem dX3_propertyOfKey_67 : decode cX3_propertyOfKey 67 = .ok (.iload_n 1, 1) := by decide +kernel
theorem dX3_propertyOfKey_68 : decode cX3_propertyOfKey 68 = .ok (.iload_n 2, 1) := by decide +kernel
theorem dX3_propertyOfKey_69 : decode cX3_propertyOfKey 69 = .ok (.invokevirtual 74, 3) := by decide +kernel
theorem dX3_propertyOfKey_72 : decode cX3_propertyOfKey 72 = .ok (.ireturn, 1) := by decide +kernel
theorem dX3_daysToKey_0 : decode cX3_daysToKey 0 = .ok (.aload_n 0, 1) := by decide +kernel
theorem dX3_daysToKey_1 : decode cX3_daysToKey 1 = .ok (.iload_n 1, 1) := by decide +kernel
theorem dX3_daysToKey_2 : decode cX3_daysToKey 2 = .ok (.iconst 0, 1) := by decide +kernel
theorem dX3_daysToKey_3 : decode cX3_daysToKey 3 = .ok (.invokevirtual 57, 3) := by decide +kernel
theorem dX3_daysToKey_6 : decode cX3_daysToKey 6 = .ok (.ifCond .le 5, 3) := by decide +kernel
theorem dX3_daysToKey_9 : decode cX3_daysToKey 9 = .ok (.iconst 0, 1) := by decide +kernel
theorem dX3_daysToKey_10 : decode cX3_daysToKey 10 = .ok (.ireturn, 1) := by decide +kernel
theorem dX3_daysToKey_11 : decode cX3_daysToKey 11 = .ok (.iconst (-1), 1) := by decide +kernel
theorem dX3_daysToKey_12 : decode cX3_daysToKey 12 = .ok (.istore_n 2, 1) := by decide +kernel
theorem dX3_daysToKey_13 : decode cX3_daysToKey 13 = .ok (.iconst 0, 1) := by decide +kernel
theorem dX3_daysToKey_14 : decode cX3_daysToKey 14 = .ok (.istore_n 3, 1) := by decide +kernel
theorem dX3_daysToKey_15 : decode cX3_daysToKey 15 = .ok (.iload_n 3, 1) := by decide +kernel
theorem dX3_daysToKey_16 : decode cX3_daysToKey 16 = .ok (.bipush 16, 2) := by decide +kernel
theorem dX3_daysToKey_18 : decode cX3_daysToKey 18 = .ok (.if_icmp .ge 44, 3) := by decide +kernel
theorem dX3_daysToKey_21 : decode cX3_daysToKey 21 = .ok (.aload_n 0, 1) := by decide +kernel
theorem dX3_daysToKey_22 : decode cX3_daysToKey 22 = .ok (.iload_n 1, 1) := by decide +kernel
theorem dX3_daysToKey_23 : decode cX3_daysToKey 23 = .ok (.iload_n 3, 1) := by decide +kernel
theorem dX3_daysToKey_24 : decode cX3_daysToKey 24 = .ok (.invokevirtual 46, 3) := by decide +kernel
theorem dX3_daysToKey_27 : decode cX3_daysToKey 27 = .ok (.iconst 2, 1) := by decide +kernel
theorem dX3_daysToKey_28 : decode cX3_daysToKey 28 = .ok (.if_icmp .eq 6, 3) := by decide +kernel
theorem dX3_daysToKey_31 : decode cX3_daysToKey 31 = .ok (.goto 25, 3) := by decide +kernel
theorem dX3_daysToKey_34 : decode cX3_daysToKey 34 = .ok (.aload_n 0, 1) := by decide +kernel
theorem dX3_daysToKey_35 : decode cX3_daysToKey 35 = .ok (.iload_n 1, 1) := by decide +kernel
theorem dX3_daysToKey_36 : decode cX3_daysToKey 36 = .ok (.iload_n 3, 1) := by decide +kernel
theorem dX3_daysToKey_37 : decode cX3_daysToKey 37 = .ok (.invokevirtual 74, 3) := by decide +kernel
theorem dX3_daysToKey_40 : decode cX3_daysToKey 40 = .ok (.istore 4, 2) := by decide +kernel
theorem dX3_daysToKey_42 : decode cX3_daysToKey 42 = .ok (.iload_n 2, 1) := by decide +kernel
theorem dX3_daysToKey_43 : decode cX3_daysToKey 43 = .ok (.iconst (-1), 1) := by decide +kernel
theorem dX3_daysToKey_44 : decode cX3_daysToKey 44 = .ok (.if_icmp .eq 9, 3) := by decide +kernel
theorem dX3_daysToKey_47 : decode cX3_daysToKey 47 = .ok (.iload 4, 2) := by decide +kernel
theorem dX3_daysToKey_49 : decode cX3_daysToKey 49 = .ok (.iload_n 2, 1) := by decide +kernel
theorem dX3_daysToKey_50 : decode cX3_daysToKey 50 = .ok (.if_icmp .ge 6, 3) := by decide +kernel
theorem dX3_daysToKey_53 : decode cX3_daysToKey 53 = .ok (.iload 4, 2) := by decide +kernel
theorem dX3_daysToKey_55 : decode cX3_daysToKey 55 = .ok (.istore_n 2, 1) := by decide +kernel
theorem dX3_daysToKey_56 : decode cX3_daysToKey 56 = .ok (.iinc 3 1, 3) := by decide +kernel
theorem dX3_daysToKey_59 : decode cX3_daysToKey 59 = .ok (.goto (-44), 3) := by decide +kernel
theorem dX3_daysToKey_62 : decode cX3_daysToKey 62 = .ok (.iload_n 2, 1) := by decide +kernel
theorem dX3_daysToKey_63 : decode cX3_daysToKey 63 = .ok (.ireturn, 1) := by decide +kernel
theorem dX3_longestSeason_0 : decode cX3_longestSeason 0 = .ok (.aload_n 0, 1) := by decide +kernel
theorem dX3_longestSeason_1 : decode cX3_longestSeason 1 = .ok (.iload_n 1, 1) := by decide +kernel
theorem dX3_longestSeason_2 : decode cX3_longestSeason 2 = .ok (.iconst 0, 1) := by decide +kernel
theorem dX3_longestSeason_3 : decode cX3_longestSeason 3 = .ok (.invokevirtual 57, 3) := by decide +kernel
theorem dX3_longestSeason_6 : decode cX3_longestSeason 6 = .ok (.ifCond .le 6, 3) := by decide +kernel
theorem dX3_longestSeason_9 : decode cX3_longestSeason 9 = .ok (.bipush 99, 2) := by decide +kernel
theorem dX3_longestSeason_11 : decode cX3_longestSeason 11 = .ok (.ireturn, 1) := by decide +kernel
theorem dX3_longestSeason_12 : decode cX3_longestSeason 12 = .ok (.iconst (-1), 1) := by decide +kernel
theorem dX3_longestSeason_13 : decode cX3_longestSeason 13 = .ok (.istore_n 2, 1) := by decide +kernel
theorem dX3_longestSeason_14 : decode cX3_longestSeason 14 = .ok (.iconst 0, 1) := by decide +kernel
theorem dX3_longestSeason_15 : decode cX3_longestSeason 15 = .ok (.istore_n 3, 1) := by decide +kernel
theorem dX3_longestSeason_16 : decode cX3_longestSeason 16 = .ok (.iload_n 3, 1) := by decide +kernel
theorem dX3_longestSeason_17 : decode cX3_longestSeason 17 = .ok (.bipush 16, 2) := by decide +kernel
theorem dX3_longestSeason_19 : decode cX3_longestSeason 19 = .ok (.if_icmp .ge 30, 3) := by decide +kernel
theorem dX3_longestSeason_22 : decode cX3_longestSeason 22 = .ok (.aload_n 0, 1) := by decide +kernel
theorem dX3_longestSeason_23 : decode cX3_longestSeason 23 = .ok (.iload_n 1, 1) := by decide +kernel
theorem dX3_longestSeason_24 : decode cX3_longestSeason 24 = .ok (.iload_n 3, 1) := by decide +kernel
theorem dX3_longestSeason_25 : decode cX3_longestSeason 25 = .ok (.invokevirtual 46, 3) := by decide +kernel
theorem dX3_longestSeason_28 : decode cX3_longestSeason 28 = .ok (.iconst 2, 1) := by decide +kernel
theorem dX3_longestSeason_29 : decode cX3_longestSeason 29 = .ok (.if_icmp .ne 14, 3) := by decide +kernel
theorem dX3_longestSeason_32 : decode cX3_longestSeason 32 = .ok (.iload_n 2, 1) := by decide +kernel
theorem dX3_longestSeason_33 : decode cX3_longestSeason 33 = .ok (.aload_n 0, 1) := by decide +kernel
theorem dX3_longestSeason_34 : decode cX3_longestSeason 34 = .ok (.iload_n 1, 1) := by decide +kernel
theorem dX3_longestSeason_35 : decode cX3_longestSeason 35 = .ok (.iload_n 3, 1) := by decide +kernel
theorem dX3_longestSeason_36 : decode cX3_longestSeason 36 = .ok (.invokevirtual 37, 3) := by decide +kernel
theorem dX3_longestSeason_39 : decode cX3_longestSeason 39 = .ok (.invokestatic 41, 3) := by decide +kernel
theorem dX3_longestSeason_42 : decode cX3_longestSeason 42 = .ok (.istore_n 2, 1) := by decide +kernel
theorem dX3_longestSeason_43 : decode cX3_longestSeason 43 = .ok (.iinc 3 1, 3) := by decide +kernel
theorem dX3_longestSeason_46 : decode cX3_longestSeason 46 = .ok (.goto (-30), 3) := by decide +kernel
theorem dX3_longestSeason_49 : decode cX3_longestSeason 49 = .ok (.iload_n 2, 1) := by decide +kernel
theorem dX3_longestSeason_50 : decode cX3_longestSeason 50 = .ok (.bipush 99, 2) := by decide +kernel
theorem dX3_longestSeason_52 : decode cX3_longestSeason 52 = .ok (.invokestatic 77, 3) := by decide +kernel
theorem dX3_longestSeason_55 : decode cX3_longestSeason 55 = .ok (.ireturn, 1) := by decide +kernel
theorem dX3_scarcestKind_0 : decode cX3_scarcestKind 0 = .ok (.iconst 0, 1) := by decide +kernel
theorem dX3_scarcestKind_1 : decode cX3_scarcestKind 1 = .ok (.istore_n 1, 1) := by decide +kernel
theorem dX3_scarcestKind_2 : decode cX3_scarcestKind 2 = .ok (.bipush 17, 2) := by decide +kernel
theorem dX3_scarcestKind_4 : decode cX3_scarcestKind 4 = .ok (.istore_n 2, 1) := by decide +kernel
theorem dX3_scarcestKind_5 : decode cX3_scarcestKind 5 = .ok (.iconst 0, 1) := by decide +kernel
theorem dX3_scarcestKind_6 : decode cX3_scarcestKind 6 = .ok (.istore_n 3, 1) := by decide +kernel
theorem dX3_scarcestKind_7 : decode cX3_scarcestKind 7 = .ok (.iload_n 3, 1) := by decide +kernel
theorem dX3_scarcestKind_8 : decode cX3_scarcestKind 8 = .ok (.iconst 4, 1) := by decide +kernel
theorem dX3_scarcestKind_9 : decode cX3_scarcestKind 9 = .ok (.if_icmp .ge 34, 3) := by decide +kernel
theorem dX3_scarcestKind_12 : decode cX3_scarcestKind 12 = .ok (.aload_n 0, 1) := by decide +kernel
theorem dX3_scarcestKind_13 : decode cX3_scarcestKind 13 = .ok (.iload_n 3, 1) := by decide +kernel
theorem dX3_scarcestKind_14 : decode cX3_scarcestKind 14 = .ok (.iconst 0, 1) := by decide +kernel
theorem dX3_scarcestKind_15 : decode cX3_scarcestKind 15 = .ok (.invokevirtual 57, 3) := by decide +kernel
theorem dX3_scarcestKind_18 : decode cX3_scarcestKind 18 = .ok (.aload_n 0, 1) := by decide +kernel
theorem dX3_scarcestKind_19 : decode cX3_scarcestKind 19 = .ok (.iload_n 3, 1) := by decide +kernel
theorem dX3_scarcestKind_20 : decode cX3_scarcestKind 20 = .ok (.invokevirtual 70, 3) := by decide +kernel
theorem dX3_scarcestKind_23 : decode cX3_scarcestKind 23 = .ok (.iadd, 1) := by decide +kernel
theorem dX3_scarcestKind_24 : decode cX3_scarcestKind 24 = .ok (.istore 4, 2) := by decide +kernel
theorem dX3_scarcestKind_26 : decode cX3_scarcestKind 26 = .ok (.iload 4, 2) := by decide +kernel
theorem dX3_scarcestKind_28 : decode cX3_scarcestKind 28 = .ok (.iload_n 2, 1) := by decide +kernel
theorem dX3_scarcestKind_29 : decode cX3_scarcestKind 29 = .ok (.if_icmp .ge 8, 3) := by decide +kernel
theorem dX3_scarcestKind_32 : decode cX3_scarcestKind 32 = .ok (.iload_n 3, 1) := by decide +kernel
theorem dX3_scarcestKind_33 : decode cX3_scarcestKind 33 = .ok (.istore_n 1, 1) := by decide +kernel
theorem dX3_scarcestKind_34 : decode cX3_scarcestKind 34 = .ok (.iload 4, 2) := by decide +kernel
theorem dX3_scarcestKind_36 : decode cX3_scarcestKind 36 = .ok (.istore_n 2, 1) := by decide +kernel
theorem dX3_scarcestKind_37 : decode cX3_scarcestKind 37 = .ok (.iinc 3 1, 3) := by decide +kernel
theorem dX3_scarcestKind_40 : decode cX3_scarcestKind 40 = .ok (.goto (-33), 3) := by decide +kernel
theorem dX3_scarcestKind_43 : decode cX3_scarcestKind 43 = .ok (.iload_n 1, 1) := by decide +kernel
theorem dX3_scarcestKind_44 : decode cX3_scarcestKind 44 = .ok (.ireturn, 1) := by decide +kernel
theorem dX3_shareOfRipe_0 : decode cX3_shareOfRipe 0 = .ok (.aload_n 0, 1) := by decide +kernel
theorem dX3_shareOfRipe_1 : decode cX3_shareOfRipe 1 = .ok (.iconst 2, 1) := by decide +kernel
theorem dX3_shareOfRipe_2 : decode cX3_shareOfRipe 2 = .ok (.invokevirtual 80, 3) := by decide +kernel
theorem dX3_shareOfRipe_5 : decode cX3_shareOfRipe 5 = .ok (.istore_n 1, 1) := by decide +kernel
theorem dX3_shareOfRipe_6 : decode cX3_shareOfRipe 6 = .ok (.iload_n 1, 1) := by decide +kernel
theorem dX3_shareOfRipe_7 : decode cX3_shareOfRipe 7 = .ok (.ifCond .ne 7, 3) := by decide +kernel
theorem dX3_shareOfRipe_10 : decode cX3_shareOfRipe 10 = .ok (.dconst 1, 1) := by decide +kernel
theorem dX3_shareOfRipe_11 : decode cX3_shareOfRipe 11 = .ok (.goto 11, 3) := by decide +kernel
theorem dX3_shareOfRipe_14 : decode cX3_shareOfRipe 14 = .ok (.aload_n 0, 1) := by decide +kernel
theorem dX3_shareOfRipe_15 : decode cX3_shareOfRipe 15 = .ok (.invokevirtual 83, 3) := by decide +kernel
theorem dX3_shareOfRipe_18 : decode cX3_shareOfRipe 18 = .ok (.i2d, 1) := by decide +kernel
theorem dX3_shareOfRipe_19 : decode cX3_shareOfRipe 19 = .ok (.iload_n 1, 1) := by decide +kernel
theorem dX3_shareOfRipe_20 : decode cX3_shareOfRipe 20 = .ok (.i2d, 1) := by decide +kernel
theorem dX3_shareOfRipe_21 : decode cX3_shareOfRipe 21 = .ok (.ddiv, 1) := by decide +kernel
theorem dX3_shareOfRipe_22 : decode cX3_shareOfRipe 22 = .ok (.dreturn, 1) := by decide +kernel
theorem dX4_init_0 : decode cX4_init 0 = .ok (.aload_n 0, 1) := by decide +kernel
theorem dX4_init_1 : decode cX4_init 1 = .ok (.invokespecial 3, 3) := by decide +kernel
theorem dX4_init_4 : decode cX4_init 4 = .ok (.aload_n 0, 1) := by decide +kernel
theorem dX4_init_5 : decode cX4_init 5 = .ok (.bipush 6, 2) := by decide +kernel
theorem dX4_init_7 : decode cX4_init 7 = .ok (.anewarray 9, 3) := by decide +kernel
theorem dX4_init_10 : decode cX4_init 10 = .ok (.putfield 11, 3) := by decide +kernel
theorem dX4_init_13 : decode cX4_init 13 = .ok (.iconst 0, 1) := by decide +kernel
theorem dX4_init_14 : decode cX4_init 14 = .ok (.istore_n 1, 1) := by decide +kernel
theorem dX4_init_15 : decode cX4_init 15 = .ok (.iload_n 1, 1) := by decide +kernel
theorem dX4_init_16 : decode cX4_init 16 = .ok (.bipush 6, 2) := by decide +kernel
theorem dX4_init_18 : decode cX4_init 18 = .ok (.if_icmp .ge 22, 3) := by decide +kernel
theorem dX4_init_21 : decode cX4_init 21 = .ok (.aload_n 0, 1) := by decide +kernel
theorem dX4_init_22 : decode cX4_init 22 = .ok (.getfield 11, 3) := by decide +kernel
theorem dX4_init_25 : decode cX4_init 25 = .ok (.iload_n 1, 1) := by decide +kernel
theorem dX4_init_26 : decode cX4_init 26 = .ok (.new 9, 3) := by decide +kernel
theorem dX4_init_29 : decode cX4_init 29 = .ok (.dup, 1) := by decide +kernel
theorem dX4_init_30 : decode cX4_init 30 = .ok (.invokespecial 17, 3) := by decide +kernel
theorem dX4_init_33 : decode cX4_init 33 = .ok (.aastore, 1) := by decide +kernel
theorem dX4_init_34 : decode cX4_init 34 = .ok (.iinc 1 1, 3) := by decide +kernel
theorem dX4_init_37 : decode cX4_init 37 = .ok (.goto (-22), 3) := by decide +kernel
theorem dX4_init_40 : decode cX4_init 40 = .ok (.return_, 1) := by decide +kernel
theorem dX4_push_0 : decode cX4_push 0 = .ok (.aload_n 0, 1) := by decide +kernel
theorem dX4_push_1 : decode cX4_push 1 = .ok (.getfield 18, 3) := by decide +kernel
theorem dX4_push_4 : decode cX4_push 4 = .ok (.bipush 6, 2) := by decide +kernel
theorem dX4_push_6 : decode cX4_push 6 = .ok (.if_icmp .lt 7, 3) := by decide +kernel
theorem dX4_push_9 : decode cX4_push 9 = .ok (.aload_n 0, 1) := by decide +kernel
theorem dX4_push_10 : decode cX4_push 10 = .ok (.invokevirtual 22, 3) := by decide +kernel
theorem dX4_push_13 : decode cX4_push 13 = .ok (.aload_n 1, 1) := by decide +kernel
theorem dX4_push_14 : decode cX4_push 14 = .ok (.aload_n 0, 1) := by decide +kernel
theorem dX4_push_15 : decode cX4_push 15 = .ok (.getfield 11, 3) := by decide +kernel
theorem dX4_push_18 : decode cX4_push 18 = .ok (.aload_n 0, 1) := by decide +kernel
theorem dX4_push_19 : decode cX4_push 19 = .ok (.getfield 18, 3) := by decide +kernel
