theorem dX0_init_0 : decode cX0_init 0 = .ok (.aload_n 0, 1) := by decide +kernel
theorem dX0_init_1 : decode cX0_init 1 = .ok (.invokespecial 3, 3) := by decide +kernel
theorem dX0_init_4 : decode cX0_init 4 = .ok (.aload_n 0, 1) := by decide +kernel
theorem dX0_init_5 : decode cX0_init 5 = .ok (.bipush 64, 2) := by decide +kernel
theorem dX0_init_7 : decode cX0_init 7 = .ok (.newarray .long, 2) := by decide +kernel
theorem dX0_init_9 : decode cX0_init 9 = .ok (.putfield 11, 3) := by decide +kernel
theorem dX0_init_12 : decode cX0_init 12 = .ok (.return_, 1) := by decide +kernel
theorem dX0_run_0 : decode cX0_run 0 = .ok (.aload_n 0, 1) := by decide +kernel
theorem dX0_run_1 : decode cX0_run 1 = .ok (.getfield 11, 3) := by decide +kernel
theorem dX0_run_4 : decode cX0_run 4 = .ok (.lconst 0, 1) := by decide +kernel
theorem dX0_run_5 : decode cX0_run 5 = .ok (.invokestatic 15, 3) := by decide +kernel
theorem dX0_run_8 : decode cX0_run 8 = .ok (.aload_n 0, 1) := by decide +kernel
theorem dX0_run_9 : decode cX0_run 9 = .ok (.iload_n 2, 1) := by decide +kernel
theorem dX0_run_10 : decode cX0_run 10 = .ok (.putfield 21, 3) := by decide +kernel
theorem dX0_run_13 : decode cX0_run 13 = .ok (.aload_n 0, 1) := by decide +kernel
theorem dX0_run_14 : decode cX0_run 14 = .ok (.iconst 0, 1) := by decide +kernel
theorem dX0_run_15 : decode cX0_run 15 = .ok (.putfield 25, 3) := by decide +kernel
theorem dX0_run_18 : decode cX0_run 18 = .ok (.aload_n 0, 1) := by decide +kernel
theorem dX0_run_19 : decode cX0_run 19 = .ok (.iconst 0, 1) := by decide +kernel
theorem dX0_run_20 : decode cX0_run 20 = .ok (.putfield 28, 3) := by decide +kernel
theorem dX0_run_23 : decode cX0_run 23 = .ok (.iconst 0, 1) := by decide +kernel
theorem dX0_run_24 : decode cX0_run 24 = .ok (.istore_n 3, 1) := by decide +kernel
theorem dX0_run_25 : decode cX0_run 25 = .ok (.iload_n 3, 1) := by decide +kernel
theorem dX0_run_26 : decode cX0_run 26 = .ok (.sipush 4096, 3) := by decide +kernel
theorem dX0_run_29 : decode cX0_run 29 = .ok (.if_icmp .gt 86, 3) := by decide +kernel
theorem dX0_run_32 : decode cX0_run 32 = .ok (.aload_n 0, 1) := by decide +kernel
theorem dX0_run_33 : decode cX0_run 33 = .ok (.aload_n 0, 1) := by decide +kernel
theorem dX0_run_34 : decode cX0_run 34 = .ok (.getfield 21, 3) := by decide +kernel
theorem dX0_run_37 : decode cX0_run 37 = .ok (.invokevirtual 31, 3) := by decide +kernel
theorem dX0_run_40 : decode cX0_run 40 = .ok (.aload_n 0, 1) := by decide +kernel
theorem dX0_run_41 : decode cX0_run 41 = .ok (.getfield 21, 3) := by decide +kernel
theorem dX0_run_44 : decode cX0_run 44 = .ok (.istore 4, 2) := by decide +kernel
theorem dX0_run_46 : decode cX0_run 46 = .ok (.aload_n 0, 1) := by decide +kernel
theorem dX0_run_47 : decode cX0_run 47 = .ok (.aload_n 1, 1) := by decide +kernel
theorem dX0_run_48 : decode cX0_run 48 = .ok (.iload 4, 2) := by decide +kernel
theorem dX0_run_50 : decode cX0_run 50 = .ok (.invokevirtual 35, 3) := by decide +kernel
theorem dX0_run_53 : decode cX0_run 53 = .ok (.putfield 21, 3) := by decide +kernel
theorem dX0_run_56 : decode cX0_run 56 = .ok (.aload_n 0, 1) := by decide +kernel
theorem dX0_run_57 : decode cX0_run 57 = .ok (.dup, 1) := by decide +kernel
theorem dX0_run_58 : decode cX0_run 58 = .ok (.getfield 25, 3) := by decide +kernel
theorem dX0_run_61 : decode cX0_run 61 = .ok (.iload 4, 2) := by decide +kernel
theorem dX0_run_63 : decode cX0_run 63 = .ok (.aload_n 0, 1) := by decide +kernel
theorem dX0_run_64 : decode cX0_run 64 = .ok (.getfield 21, 3) := by decide +kernel
theorem dX0_run_67 : decode cX0_run 67 = .ok (.ixor, 1) := by decide +kernel
theorem dX0_run_68 : decode cX0_run 68 = .ok (.invokestatic 41, 3) := by decide +kernel
theorem dX0_run_71 : decode cX0_run 71 = .ok (.iadd, 1) := by decide +kernel
theorem dX0_run_72 : decode cX0_run 72 = .ok (.putfield 25, 3) := by decide +kernel
theorem dX0_run_75 : decode cX0_run 75 = .ok (.aload_n 0, 1) := by decide +kernel
theorem dX0_run_76 : decode cX0_run 76 = .ok (.getfield 21, 3) := by decide +kernel
theorem dX0_run_79 : decode cX0_run 79 = .ok (.iload 4, 2) := by decide +kernel
theorem dX0_run_81 : decode cX0_run 81 = .ok (.if_icmp .ne 4, 3) := by decide +kernel
theorem dX0_run_84 : decode cX0_run 84 = .ok (.return_, 1) := by decide +kernel
theorem dX0_run_85 : decode cX0_run 85 = .ok (.aload_n 0, 1) := by decide +kernel
theorem dX0_run_86 : decode cX0_run 86 = .ok (.aload_n 0, 1) := by decide +kernel
theorem dX0_run_87 : decode cX0_run 87 = .ok (.getfield 21, 3) := by decide +kernel
theorem dX0_run_90 : decode cX0_run 90 = .ok (.invokevirtual 46, 3) := by decide +kernel
theorem dX0_run_93 : decode cX0_run 93 = .ok (.ifCond .eq 16, 3) := by decide +kernel
theorem dX0_run_96 : decode cX0_run 96 = .ok (.aload_n 0, 1) := by decide +kernel
theorem dX0_run_97 : decode cX0_run 97 = .ok (.aload_n 1, 1) := by decide +kernel
theorem dX0_run_98 : decode cX0_run 98 = .ok (.aload_n 0, 1) := by decide +kernel
theorem dX0_run_99 : decode cX0_run 99 = .ok (.getfield 21, 3) := by decide +kernel
theorem dX0_run_102 : decode cX0_run 102 = .ok (.invokestatic 50, 3) := by decide +kernel
theorem dX0_run_105 : decode cX0_run 105 = .ok (.putfield 28, 3) := by decide +kernel
theorem dX0_run_108 : decode cX0_run 108 = .ok (.return_, 1) := by decide +kernel
theorem dX0_run_109 : decode cX0_run 109 = .ok (.iinc 3 1, 3) := by decide +kernel
theorem dX0_run_112 : decode cX0_run 112 = .ok (.goto (-87), 3) := by decide +kernel
theorem dX0_run_115 : decode cX0_run 115 = .ok (.return_, 1) := by decide +kernel
theorem dX0_roundsBackTo_0 : decode cX0_roundsBackTo 0 = .ok (.iload_n 1, 1) := by decide +kernel
theorem dX0_roundsBackTo_1 : decode cX0_roundsBackTo 1 = .ok (.istore_n 2, 1) := by decide +kernel
theorem dX0_roundsBackTo_2 : decode cX0_roundsBackTo 2 = .ok (.iconst 1, 1) := by decide +kernel
theorem dX0_roundsBackTo_3 : decode cX0_roundsBackTo 3 = .ok (.istore_n 3, 1) := by decide +kernel
theorem dX0_roundsBackTo_4 : decode cX0_roundsBackTo 4 = .ok (.iload_n 3, 1) := by decide +kernel
theorem dX0_roundsBackTo_5 : decode cX0_roundsBackTo 5 = .ok (.sipush 4096, 3) := by decide +kernel
theorem dX0_roundsBackTo_8 : decode cX0_roundsBackTo 8 = .ok (.if_icmp .gt 22, 3) := by decide +kernel
theorem dX0_roundsBackTo_11 : decode cX0_roundsBackTo 11 = .ok (.aload_n 0, 1) := by decide +kernel
theorem dX0_roundsBackTo_12 : decode cX0_roundsBackTo 12 = .ok (.iload_n 2, 1) := by decide +kernel
theorem dX0_roundsBackTo_13 : decode cX0_roundsBackTo 13 = .ok (.invokevirtual 35, 3) := by decide +kernel
theorem dX0_roundsBackTo_16 : decode cX0_roundsBackTo 16 = .ok (.istore_n 2, 1) := by decide +kernel
theorem dX0_roundsBackTo_17 : decode cX0_roundsBackTo 17 = .ok (.iload_n 2, 1) := by decide +kernel
theorem dX0_roundsBackTo_18 : decode cX0_roundsBackTo 18 = .ok (.iload_n 1, 1) := by decide +kernel
theorem dX0_roundsBackTo_19 : decode cX0_roundsBackTo 19 = .ok (.if_icmp .ne 5, 3) := by decide +kernel
theorem dX0_roundsBackTo_22 : decode cX0_roundsBackTo 22 = .ok (.iload_n 3, 1) := by decide +kernel
theorem dX0_roundsBackTo_23 : decode cX0_roundsBackTo 23 = .ok (.ireturn, 1) := by decide +kernel
theorem dX0_roundsBackTo_24 : decode cX0_roundsBackTo 24 = .ok (.iinc 3 1, 3) := by decide +kernel
theorem dX0_roundsBackTo_27 : decode cX0_roundsBackTo 27 = .ok (.goto (-23), 3) := by decide +kernel
theorem dX0_roundsBackTo_30 : decode cX0_roundsBackTo 30 = .ok (.iconst 0, 1) := by decide +kernel
theorem dX0_roundsBackTo_31 : decode cX0_roundsBackTo 31 = .ok (.ireturn, 1) := by decide +kernel
theorem dX0_see_0 : decode cX0_see 0 = .ok (.iload_n 1, 1) := by decide +kernel
theorem dX0_see_1 : decode cX0_see 1 = .ok (.ifCond .lt 28, 3) := by decide +kernel
theorem dX0_see_4 : decode cX0_see 4 = .ok (.iload_n 1, 1) := by decide +kernel
theorem dX0_see_5 : decode cX0_see 5 = .ok (.sipush 4096, 3) := by decide +kernel
theorem dX0_see_8 : decode cX0_see 8 = .ok (.if_icmp .ge 21, 3) := by decide +kernel
theorem dX0_see_11 : decode cX0_see 11 = .ok (.aload_n 0, 1) := by decide +kernel
theorem dX0_see_12 : decode cX0_see 12 = .ok (.getfield 11, 3) := by decide +kernel
theorem dX0_see_15 : decode cX0_see 15 = .ok (.iload_n 1, 1) := by decide +kernel
theorem dX0_see_16 : decode cX0_see 16 = .ok (.bipush 64, 2) := by decide +kernel
theorem dX0_see_18 : decode cX0_see 18 = .ok (.idiv, 1) := by decide +kernel
theorem dX0_see_19 : decode cX0_see 19 = .ok (.dup2, 1) := by decide +kernel
theorem dX0_see_20 : decode cX0_see 20 = .ok (.laload, 1) := by decide +kernel
theorem dX0_see_21 : decode cX0_see 21 = .ok (.lconst 1, 1) := by decide +kernel
theorem dX0_see_22 : decode cX0_see 22 = .ok (.iload_n 1, 1) := by decide +kernel
theorem dX0_see_23 : decode cX0_see 23 = .ok (.bipush 64, 2) := by decide +kernel
theorem dX0_see_25 : decode cX0_see 25 = .ok (.irem, 1) := by decide +kernel
theorem dX0_see_26 : decode cX0_see 26 = .ok (.lshl, 1) := by decide +kernel
theorem dX0_see_27 : decode cX0_see 27 = .ok (.lor, 1) := by decide +kernel
theorem dX0_see_28 : decode cX0_see 28 = .ok (.lastore, 1) := by decide +kernel
theorem dX0_see_29 : decode cX0_see 29 = .ok (.return_, 1) := by decide +kernel
theorem dX0_isSeen_0 : decode cX0_isSeen 0 = .ok (.iload_n 1, 1) := by decide +kernel
theorem dX0_isSeen_1 : decode cX0_isSeen 1 = .ok (.ifCond .lt 35, 3) := by decide +kernel
theorem dX0_isSeen_4 : decode cX0_isSeen 4 = .ok (.iload_n 1, 1) := by decide +kernel
theorem dX0_isSeen_5 : decode cX0_isSeen 5 = .ok (.sipush 4096, 3) := by decide +kernel
theorem dX0_isSeen_8 : decode cX0_isSeen 8 = .ok (.if_icmp .ge 28, 3) := by decide +kernel
theorem dX0_isSeen_11 : decode cX0_isSeen 11 = .ok (.aload_n 0, 1) := by decide +kernel
theorem dX0_isSeen_12 : decode cX0_isSeen 12 = .ok (.getfield 11, 3) := by decide +kernel
theorem dX0_isSeen_15 : decode cX0_isSeen 15 = .ok (.iload_n 1, 1) := by decide +kernel
theorem dX0_isSeen_16 : decode cX0_isSeen 16 = .ok (.bipush 64, 2) := by decide +kernel
theorem dX0_isSeen_18 : decode cX0_isSeen 18 = .ok (.idiv, 1) := by decide +kernel
theorem dX0_isSeen_19 : decode cX0_isSeen 19 = .ok (.laload, 1) := by decide +kernel
theorem dX0_isSeen_20 : decode cX0_isSeen 20 = .ok (.lconst 1, 1) := by decide +kernel
theorem dX0_isSeen_21 : decode cX0_isSeen 21 = .ok (.iload_n 1, 1) := by decide +kernel
theorem dX0_isSeen_22 : decode cX0_isSeen 22 = .ok (.bipush 64, 2) := by decide +kernel
theorem dX0_isSeen_24 : decode cX0_isSeen 24 = .ok (.irem, 1) := by decide +kernel
theorem dX0_isSeen_25 : decode cX0_isSeen 25 = .ok (.lshl, 1) := by decide +kernel
theorem dX0_isSeen_26 : decode cX0_isSeen 26 = .ok (.land, 1) := by decide +kernel
theorem dX0_isSeen_27 : decode cX0_isSeen 27 = .ok (.lconst 0, 1) := by decide +kernel
theorem dX0_isSeen_28 : decode cX0_isSeen 28 = .ok (.lcmp, 1) := by decide +kernel
theorem dX0_isSeen_29 : decode cX0_isSeen 29 = .ok (.ifCond .eq 7, 3) := by decide +kernel
theorem dX0_isSeen_32 : decode cX0_isSeen 32 = .ok (.iconst 1, 1) := by decide +kernel
theorem dX0_isSeen_33 : decode cX0_isSeen 33 = .ok (.goto 4, 3) := by decide +kernel
theorem dX0_isSeen_36 : decode cX0_isSeen 36 = .ok (.iconst 0, 1) := by decide +kernel
theorem dX0_isSeen_37 : decode cX0_isSeen 37 = .ok (.ireturn, 1) := by decide +kernel
theorem dX1_init_0 : decode cX1_init 0 = .ok (.aload_n 0, 1) := by decide +kernel
theorem dX1_init_1 : decode cX1_init 1 = .ok (.invokespecial 3, 3) := by decide +kernel
theorem dX1_init_4 : decode cX1_init 4 = .ok (.aload_n 0, 1) := by decide +kernel
theorem dX1_init_5 : decode cX1_init 5 = .ok (.sipush 160, 3) := by decide +kernel
theorem dX1_init_8 : decode cX1_init 8 = .ok (.newarray .int, 2) := by decide +kernel
theorem dX1_init_10 : decode cX1_init 10 = .ok (.putfield 9, 3) := by decide +kernel
theorem dX1_init_13 : decode cX1_init 13 = .ok (.return_, 1) := by decide +kernel
theorem dX1_append_0 : decode cX1_append 0 = .ok (.aload_n 0, 1) := by decide +kernel
theorem dX1_append_1 : decode cX1_append 1 = .ok (.getfield 15, 3) := by decide +kernel
theorem dX1_append_4 : decode cX1_append 4 = .ok (.sipush 160, 3) := by decide +kernel
theorem dX1_append_7 : decode cX1_append 7 = .ok (.if_icmp .ge 23, 3) := by decide +kernel
theorem dX1_append_10 : decode cX1_append 10 = .ok (.aload_n 0, 1) := by decide +kernel
theorem dX1_append_11 : decode cX1_append 11 = .ok (.getfield 9, 3) := by decide +kernel
theorem dX1_append_14 : decode cX1_append 14 = .ok (.aload_n 0, 1) := by decide +kernel
theorem dX1_append_15 : decode cX1_append 15 = .ok (.getfield 15, 3) := by decide +kernel
theorem dX1_append_18 : decode cX1_append 18 = .ok (.iload_n 1, 1) := by decide +kernel
theorem dX1_append_19 : decode cX1_append 19 = .ok (.iastore, 1) := by decide +kernel
theorem dX1_append_20 : decode cX1_append 20 = .ok (.aload_n 0, 1) := by decide +kernel
theorem dX1_append_21 : decode cX1_append 21 = .ok (.dup, 1) := by decide +kernel
theorem dX1_append_22 : decode cX1_append 22 = .ok (.getfield 15, 3) := by decide +kernel
theorem dX1_append_25 : decode cX1_append 25 = .ok (.iconst 1, 1) := by decide +kernel
theorem dX1_append_26 : decode cX1_append 26 = .ok (.iadd, 1) := by decide +kernel
theorem dX1_append_27 : decode cX1_append 27 = .ok (.putfield 15, 3) := by decide +kernel
theorem dX1_append_30 : decode cX1_append 30 = .ok (.return_, 1) := by decide +kernel
theorem dX1_empty_0 : decode cX1_empty 0 = .ok (.aload_n 0, 1) := by decide +kernel
theorem dX1_empty_1 : decode cX1_empty 1 = .ok (.iconst 0, 1) := by decide +kernel
theorem dX1_empty_2 : decode cX1_empty 2 = .ok (.putfield 15, 3) := by decide +kernel
theorem dX1_empty_5 : decode cX1_empty 5 = .ok (.return_, 1) := by decide +kernel
theorem dX1_readStreet_0 : decode cX1_readStreet 0 = .ok (.aload_n 0, 1) := by decide +kernel
theorem dX1_readStreet_1 : decode cX1_readStreet 1 = .ok (.iconst 0, 1) := by decide +kernel
theorem dX1_readStreet_2 : decode cX1_readStreet 2 = .ok (.putfield 19, 3) := by decide +kernel
theorem dX1_readStreet_5 : decode cX1_readStreet 5 = .ok (.aload_n 0, 1) := by decide +kernel
theorem dX1_readStreet_6 : decode cX1_readStreet 6 = .ok (.invokevirtual 22, 3) := by decide +kernel
theorem dX1_readStreet_9 : decode cX1_readStreet 9 = .ok (.aload_n 0, 1) := by decide +kernel
theorem dX1_readStreet_10 : decode cX1_readStreet 10 = .ok (.ldc 25, 2) := by decide +kernel
theorem dX1_readStreet_12 : decode cX1_readStreet 12 = .ok (.invokevirtual 27, 3) := by decide +kernel
theorem dX1_readStreet_15 : decode cX1_readStreet 15 = .ok (.ifCond .eq 13, 3) := by decide +kernel
theorem dX1_readStreet_18 : decode cX1_readStreet 18 = .ok (.aload_n 0, 1) := by decide +kernel
theorem dX1_readStreet_19 : decode cX1_readStreet 19 = .ok (.iconst 1, 1) := by decide +kernel
theorem dX1_readStreet_20 : decode cX1_readStreet 20 = .ok (.bipush 12, 2) := by decide +kernel
theorem dX1_readStreet_22 : decode cX1_readStreet 22 = .ok (.invokevirtual 31, 3) := by decide +kernel
theorem dX1_readStreet_25 : decode cX1_readStreet 25 = .ok (.ifCond .ne 5, 3) := by decide +kernel
theorem dX1_readStreet_28 : decode cX1_readStreet 28 = .ok (.iconst 0, 1) := by decide +kernel
theorem dX1_readStreet_29 : decode cX1_readStreet 29 = .ok (.ireturn, 1) := by decide +kernel
theorem dX1_readStreet_30 : decode cX1_readStreet 30 = .ok (.aload_n 1, 1) := by decide +kernel
theorem dX1_readStreet_31 : decode cX1_readStreet 31 = .ok (.aload_n 0, 1) := by decide +kernel
theorem dX1_readStreet_32 : decode cX1_readStreet 32 = .ok (.getfield 35, 3) := by decide +kernel
theorem dX1_readStreet_35 : decode cX1_readStreet 35 = .ok (.invokevirtual 38, 3) := by decide +kernel
theorem dX1_readStreet_38 : decode cX1_readStreet 38 = .ok (.iconst 0, 1) := by decide +kernel
theorem dX1_readStreet_39 : decode cX1_readStreet 39 = .ok (.istore_n 2, 1) := by decide +kernel
theorem dX1_readStreet_40 : decode cX1_readStreet 40 = .ok (.iload_n 2, 1) := by decide +kernel
theorem dX1_readStreet_41 : decode cX1_readStreet 41 = .ok (.sipush 160, 3) := by decide +kernel
theorem dX1_readStreet_44 : decode cX1_readStreet 44 = .ok (.if_icmp .ge 31, 3) := by decide +kernel
theorem dX1_readStreet_47 : decode cX1_readStreet 47 = .ok (.aload_n 0, 1) := by decide +kernel
theorem dX1_readStreet_48 : decode cX1_readStreet 48 = .ok (.getfield 44, 3) := by decide +kernel
theorem dX1_readStreet_51 : decode cX1_readStreet 51 = .ok (.iconst 3, 1) := by decide +kernel
theorem dX1_readStreet_52 : decode cX1_readStreet 52 = .ok (.if_icmp .ne 23, 3) := by decide +kernel
theorem dX1_readStreet_55 : decode cX1_readStreet 55 = .ok (.aload_n 0, 1) := by decide +kernel
theorem dX1_readStreet_56 : decode cX1_readStreet 56 = .ok (.invokevirtual 22, 3) := by decide +kernel
theorem dX1_readStreet_59 : decode cX1_readStreet 59 = .ok (.aload_n 0, 1) := by decide +kernel
theorem dX1_readStreet_60 : decode cX1_readStreet 60 = .ok (.aload_n 1, 1) := by decide +kernel
theorem dX1_readStreet_61 : decode cX1_readStreet 61 = .ok (.invokevirtual 47, 3) := by decide +kernel
theorem dX1_readStreet_64 : decode cX1_readStreet 64 = .ok (.ifCond .ne 5, 3) := by decide +kernel
theorem dX1_readStreet_67 : decode cX1_readStreet 67 = .ok (.iconst 0, 1) := by decide +kernel
theorem dX1_readStreet_68 : decode cX1_readStreet 68 = .ok (.ireturn, 1) := by decide +kernel
theorem dX1_readStreet_69 : decode cX1_readStreet 69 = .ok (.iinc 2 1, 3) := by decide +kernel
theorem dX1_readStreet_72 : decode cX1_readStreet 72 = .ok (.goto (-32), 3) := by decide +kernel
theorem dX1_readStreet_75 : decode cX1_readStreet 75 = .ok (.aload_n 0, 1) := by decide +kernel
theorem dX1_readStreet_76 : decode cX1_readStreet 76 = .ok (.getfield 44, 3) := by decide +kernel
theorem dX1_readStreet_79 : decode cX1_readStreet 79 = .ok (.ifCond .ne 7, 3) := by decide +kernel
theorem dX1_readStreet_82 : decode cX1_readStreet 82 = .ok (.iconst 1, 1) := by decide +kernel
theorem dX1_readStreet_83 : decode cX1_readStreet 83 = .ok (.goto 4, 3) := by decide +kernel
theorem dX1_readStreet_86 : decode cX1_readStreet 86 = .ok (.iconst 0, 1) := by decide +kernel
theorem dX1_readStreet_87 : decode cX1_readStreet 87 = .ok (.ireturn, 1) := by decide +kernel
theorem dX1_readStatement_0 : decode cX1_readStatement 0 = .ok (.aload_n 0, 1) := by decide +kernel
theorem dX1_readStatement_1 : decode cX1_readStatement 1 = .ok (.ldc 51, 2) := by decide +kernel
theorem dX1_readStatement_3 : decode cX1_readStatement 3 = .ok (.invokevirtual 27, 3) := by decide +kernel
theorem dX1_readStatement_6 : decode cX1_readStatement 6 = .ok (.ifCond .eq 12, 3) := by decide +kernel
theorem dX1_readStatement_9 : decode cX1_readStatement 9 = .ok (.aload_n 0, 1) := by decide +kernel
theorem dX1_readStatement_10 : decode cX1_readStatement 10 = .ok (.aload_n 1, 1) := by decide +kernel
theorem dX1_readStatement_11 : decode cX1_readStatement 11 = .ok (.getfield 53, 3) := by decide +kernel
theorem dX1_readStatement_14 : decode cX1_readStatement 14 = .ok (.invokevirtual 55, 3) := by decide +kernel
theorem dX1_readStatement_17 : decode cX1_readStatement 17 = .ok (.ireturn, 1) := by decide +kernel
theorem dX1_readStatement_18 : decode cX1_readStatement 18 = .ok (.aload_n 0, 1) := by decide +kernel
theorem dX1_readStatement_19 : decode cX1_readStatement 19 = .ok (.ldc 59, 2) := by decide +kernel
theorem dX1_readStatement_21 : decode cX1_readStatement 21 = .ok (.invokevirtual 27, 3) := by decide +kernel
theorem dX1_readStatement_24 : decode cX1_readStatement 24 = .ok (.ifCond .eq 12, 3) := by decide +kernel
theorem dX1_readStatement_27 : decode cX1_readStatement 27 = .ok (.aload_n 0, 1) := by decide +kernel
theorem dX1_readStatement_28 : decode cX1_readStatement 28 = .ok (.aload_n 1, 1) := by decide +kernel
theorem dX1_readStatement_29 : decode cX1_readStatement 29 = .ok (.getfield 61, 3) := by decide +kernel
theorem dX1_readStatement_32 : decode cX1_readStatement 32 = .ok (.invokevirtual 55, 3) := by decide +kernel
theorem dX1_readStatement_35 : decode cX1_readStatement 35 = .ok (.ireturn, 1) := by decide +kernel
theorem dX1_readStatement_36 : decode cX1_readStatement 36 = .ok (.aload_n 0, 1) := by decide +kernel
theorem dX1_readStatement_37 : decode cX1_readStatement 37 = .ok (.ldc 63, 2) := by decide +kernel
theorem dX1_readStatement_39 : decode cX1_readStatement 39 = .ok (.invokevirtual 27, 3) := by decide +kernel
theorem dX1_readStatement_42 : decode cX1_readStatement 42 = .ok (.ifCond .eq 9, 3) := by decide +kernel
theorem dX1_readStatement_45 : decode cX1_readStatement 45 = .ok (.aload_n 0, 1) := by decide +kernel
theorem dX1_readStatement_46 : decode cX1_readStatement 46 = .ok (.aload_n 1, 1) := by decide +kernel
theorem dX1_readStatement_47 : decode cX1_readStatement 47 = .ok (.invokevirtual 65, 3) := by decide +kernel
theorem dX1_readStatement_50 : decode cX1_readStatement 50 = .ok (.ireturn, 1) := by decide +kernel
theorem dX1_readStatement_51 : decode cX1_readStatement 51 = .ok (.aload_n 0, 1) := by decide +kernel
theorem dX1_readStatement_52 : decode cX1_readStatement 52 = .ok (.ldc 68, 2) := by decide +kernel
theorem dX1_readStatement_54 : decode cX1_readStatement 54 = .ok (.invokevirtual 27, 3) := by decide +kernel
theorem dX1_readStatement_57 : decode cX1_readStatement 57 = .ok (.ifCond .eq 9, 3) := by decide +kernel
theorem dX1_readStatement_60 : decode cX1_readStatement 60 = .ok (.aload_n 0, 1) := by decide +kernel
theorem dX1_readStatement_61 : decode cX1_readStatement 61 = .ok (.aload_n 1, 1) := by decide +kernel
theorem dX1_readStatement_62 : decode cX1_readStatement 62 = .ok (.invokevirtual 70, 3) := by decide +kernel
theorem dX1_readStatement_65 : decode cX1_readStatement 65 = .ok (.ireturn, 1) := by decide +kernel
theorem dX1_readStatement_66 : decode cX1_readStatement 66 = .ok (.aload_n 0, 1) := by decide +kernel
theorem dX1_readStatement_67 : decode cX1_readStatement 67 = .ok (.ldc 73, 2) := by decide +kernel
theorem dX1_readStatement_69 : decode cX1_readStatement 69 = .ok (.invokevirtual 27, 3) := by decide +kernel
theorem dX1_readStatement_72 : decode cX1_readStatement 72 = .ok (.ifCond .eq 9, 3) := by decide +kernel
theorem dX1_readStatement_75 : decode cX1_readStatement 75 = .ok (.aload_n 0, 1) := by decide +kernel
theorem dX1_readStatement_76 : decode cX1_readStatement 76 = .ok (.aload_n 1, 1) := by decide +kernel
theorem dX1_readStatement_77 : decode cX1_readStatement 77 = .ok (.invokevirtual 75, 3) := by decide +kernel
theorem dX1_readStatement_80 : decode cX1_readStatement 80 = .ok (.ireturn, 1) := by decide +kernel
theorem dX1_readStatement_81 : decode cX1_readStatement 81 = .ok (.aload_n 0, 1) := by decide +kernel
theorem dX1_readStatement_82 : decode cX1_readStatement 82 = .ok (.ldc 78, 2) := by decide +kernel
theorem dX1_readStatement_84 : decode cX1_readStatement 84 = .ok (.invokevirtual 27, 3) := by decide +kernel
theorem dX1_readStatement_87 : decode cX1_readStatement 87 = .ok (.ifCond .eq 9, 3) := by decide +kernel
theorem dX1_readStatement_90 : decode cX1_readStatement 90 = .ok (.aload_n 0, 1) := by decide +kernel
theorem dX1_readStatement_91 : decode cX1_readStatement 91 = .ok (.aload_n 1, 1) := by decide +kernel
theorem dX1_readStatement_92 : decode cX1_readStatement 92 = .ok (.invokevirtual 80, 3) := by decide +kernel
theorem dX1_readStatement_95 : decode cX1_readStatement 95 = .ok (.ireturn, 1) := by decide +kernel
theorem dX1_readStatement_96 : decode cX1_readStatement 96 = .ok (.aload_n 1, 1) := by decide +kernel
theorem dX1_readStatement_97 : decode cX1_readStatement 97 = .ok (.getfield 83, 3) := by decide +kernel
theorem dX1_readStatement_100 : decode cX1_readStatement 100 = .ok (.iconst 3, 1) := by decide +kernel
theorem dX1_readStatement_101 : decode cX1_readStatement 101 = .ok (.if_icmp .lt 18, 3) := by decide +kernel
theorem dX1_readStatement_104 : decode cX1_readStatement 104 = .ok (.aload_n 0, 1) := by decide +kernel
theorem dX1_readStatement_105 : decode cX1_readStatement 105 = .ok (.ldc 86, 2) := by decide +kernel
theorem dX1_readStatement_107 : decode cX1_readStatement 107 = .ok (.invokevirtual 27, 3) := by decide +kernel
theorem dX1_readStatement_110 : decode cX1_readStatement 110 = .ok (.ifCond .eq 9, 3) := by decide +kernel
theorem dX1_readStatement_113 : decode cX1_readStatement 113 = .ok (.aload_n 1, 1) := by decide +kernel
theorem dX1_readStatement_114 : decode cX1_readStatement 114 = .ok (.invokevirtual 88, 3) := by decide +kernel
theorem dX1_readStatement_117 : decode cX1_readStatement 117 = .ok (.iconst 1, 1) := by decide +kernel
theorem dX1_readStatement_118 : decode cX1_readStatement 118 = .ok (.ireturn, 1) := by decide +kernel
theorem dX1_readStatement_119 : decode cX1_readStatement 119 = .ok (.aload_n 0, 1) := by decide +kernel
theorem dX1_readStatement_120 : decode cX1_readStatement 120 = .ok (.ldc 91, 2) := by decide +kernel
theorem dX1_readStatement_122 : decode cX1_readStatement 122 = .ok (.invokevirtual 27, 3) := by decide +kernel
theorem dX1_readStatement_125 : decode cX1_readStatement 125 = .ok (.ifCond .eq 9, 3) := by decide +kernel
theorem dX1_readStatement_128 : decode cX1_readStatement 128 = .ok (.aload_n 1, 1) := by decide +kernel
theorem dX1_readStatement_129 : decode cX1_readStatement 129 = .ok (.invokevirtual 93, 3) := by decide +kernel
theorem dX1_readStatement_132 : decode cX1_readStatement 132 = .ok (.iconst 1, 1) := by decide +kernel
theorem dX1_readStatement_133 : decode cX1_readStatement 133 = .ok (.ireturn, 1) := by decide +kernel
theorem dX1_readStatement_134 : decode cX1_readStatement 134 = .ok (.iconst 0, 1) := by decide +kernel
theorem dX1_readStatement_135 : decode cX1_readStatement 135 = .ok (.ireturn, 1) := by decide +kernel
theorem dX1_readForAll_0 : decode cX1_readForAll 0 = .ok (.aload_n 0, 1) := by decide +kernel
theorem dX1_readForAll_1 : decode cX1_readForAll 1 = .ok (.iconst 0, 1) := by decide +kernel
theorem dX1_readForAll_2 : decode cX1_readForAll 2 = .ok (.bipush 99, 2) := by decide +kernel
theorem dX1_readForAll_4 : decode cX1_readForAll 4 = .ok (.invokevirtual 31, 3) := by decide +kernel
theorem dX1_readForAll_7 : decode cX1_readForAll 7 = .ok (.ifCond .ne 5, 3) := by decide +kernel
theorem dX1_readForAll_10 : decode cX1_readForAll 10 = .ok (.iconst 0, 1) := by decide +kernel
theorem dX1_readForAll_11 : decode cX1_readForAll 11 = .ok (.ireturn, 1) := by decide +kernel
theorem dX1_readForAll_12 : decode cX1_readForAll 12 = .ok (.aload_n 1, 1) := by decide +kernel
theorem dX1_readForAll_13 : decode cX1_readForAll 13 = .ok (.aload_n 0, 1) := by decide +kernel
theorem dX1_readForAll_14 : decode cX1_readForAll 14 = .ok (.getfield 35, 3) := by decide +kernel
theorem dX1_readForAll_17 : decode cX1_readForAll 17 = .ok (.invokestatic 96, 3) := by decide +kernel
theorem dX1_readForAll_20 : decode cX1_readForAll 20 = .ok (.iconst 1, 1) := by decide +kernel
theorem dX1_readForAll_21 : decode cX1_readForAll 21 = .ok (.ireturn, 1) := by decide +kernel
theorem dX1_readMore_0 : decode cX1_readMore 0 = .ok (.aload_n 0, 1) := by decide +kernel
theorem dX1_readMore_1 : decode cX1_readMore 1 = .ok (.iconst 0, 1) := by decide +kernel
theorem dX1_readMore_2 : decode cX1_readMore 2 = .ok (.bipush 9, 2) := by decide +kernel
theorem dX1_readMore_4 : decode cX1_readMore 4 = .ok (.invokevirtual 31, 3) := by decide +kernel
theorem dX1_readMore_7 : decode cX1_readMore 7 = .ok (.ifCond .ne 5, 3) := by decide +kernel
theorem dX1_readMore_10 : decode cX1_readMore 10 = .ok (.iconst 0, 1) := by decide +kernel
theorem dX1_readMore_11 : decode cX1_readMore 11 = .ok (.ireturn, 1) := by decide +kernel
theorem dX1_readMore_12 : decode cX1_readMore 12 = .ok (.aload_n 1, 1) := by decide +kernel
theorem dX1_readMore_13 : decode cX1_readMore 13 = .ok (.aload_n 0, 1) := by decide +kernel
theorem dX1_readMore_14 : decode cX1_readMore 14 = .ok (.getfield 35, 3) := by decide +kernel
theorem dX1_readMore_17 : decode cX1_readMore 17 = .ok (.putfield 102, 3) := by decide +kernel
theorem dX1_readMore_20 : decode cX1_readMore 20 = .ok (.iconst 1, 1) := by decide +kernel
theorem dX1_readMore_21 : decode cX1_readMore 21 = .ok (.ireturn, 1) := by decide +kernel
theorem dX1_readOne_0 : decode cX1_readOne 0 = .ok (.aload_n 0, 1) := by decide +kernel
theorem dX1_readOne_1 : decode cX1_readOne 1 = .ok (.iconst 0, 1) := by decide +kernel
theorem dX1_readOne_2 : decode cX1_readOne 2 = .ok (.aload_n 1, 1) := by decide +kernel
theorem dX1_readOne_3 : decode cX1_readOne 3 = .ok (.getfield 83, 3) := by decide +kernel
theorem dX1_readOne_6 : decode cX1_readOne 6 = .ok (.iconst 1, 1) := by decide +kernel
theorem dX1_readOne_7 : decode cX1_readOne 7 = .ok (.isub, 1) := by decide +kernel
theorem dX1_readOne_8 : decode cX1_readOne 8 = .ok (.invokevirtual 31, 3) := by decide +kernel
theorem dX1_readOne_11 : decode cX1_readOne 11 = .ok (.ifCond .ne 5, 3) := by decide +kernel
theorem dX1_readOne_14 : decode cX1_readOne 14 = .ok (.iconst 0, 1) := by decide +kernel
theorem dX1_readOne_15 : decode cX1_readOne 15 = .ok (.ireturn, 1) := by decide +kernel
theorem dX1_readOne_16 : decode cX1_readOne 16 = .ok (.aload_n 0, 1) := by decide +kernel
theorem dX1_readOne_17 : decode cX1_readOne 17 = .ok (.getfield 35, 3) := by decide +kernel
theorem dX1_readOne_20 : decode cX1_readOne 20 = .ok (.istore_n 2, 1) := by decide +kernel
theorem dX1_readOne_21 : decode cX1_readOne 21 = .ok (.aload_n 0, 1) := by decide +kernel
theorem dX1_readOne_22 : decode cX1_readOne 22 = .ok (.ldc 51, 2) := by decide +kernel
theorem dX1_readOne_24 : decode cX1_readOne 24 = .ok (.invokevirtual 27, 3) := by decide +kernel
theorem dX1_readOne_27 : decode cX1_readOne 27 = .ok (.ifCond .eq 13, 3) := by decide +kernel
theorem dX1_readOne_30 : decode cX1_readOne 30 = .ok (.aload_n 0, 1) := by decide +kernel
theorem dX1_readOne_31 : decode cX1_readOne 31 = .ok (.iconst 0, 1) := by decide +kernel
theorem dX1_readOne_32 : decode cX1_readOne 32 = .ok (.bipush 99, 2) := by decide +kernel
theorem dX1_readOne_34 : decode cX1_readOne 34 = .ok (.invokevirtual 31, 3) := by decide +kernel
theorem dX1_readOne_37 : decode cX1_readOne 37 = .ok (.ifCond .ne 5, 3) := by decide +kernel
theorem dX1_readOne_40 : decode cX1_readOne 40 = .ok (.iconst 0, 1) := by decide +kernel
theorem dX1_readOne_41 : decode cX1_readOne 41 = .ok (.ireturn, 1) := by decide +kernel
theorem dX1_readOne_42 : decode cX1_readOne 42 = .ok (.aload_n 0, 1) := by decide +kernel
theorem dX1_readOne_43 : decode cX1_readOne 43 = .ok (.getfield 35, 3) := by decide +kernel
theorem dX1_readOne_46 : decode cX1_readOne 46 = .ok (.istore_n 3, 1) := by decide +kernel
theorem dX1_readOne_47 : decode cX1_readOne 47 = .ok (.aload_n 0, 1) := by decide +kernel
theorem dX1_readOne_48 : decode cX1_readOne 48 = .ok (.ldc 59, 2) := by decide +kernel
theorem dX1_readOne_50 : decode cX1_readOne 50 = .ok (.invokevirtual 27, 3) := by decide +kernel
theorem dX1_readOne_53 : decode cX1_readOne 53 = .ok (.ifCond .eq 13, 3) := by decide +kernel
theorem dX1_readOne_56 : decode cX1_readOne 56 = .ok (.aload_n 0, 1) := by decide +kernel
theorem dX1_readOne_57 : decode cX1_readOne 57 = .ok (.iconst 0, 1) := by decide +kernel
theorem dX1_readOne_58 : decode cX1_readOne 58 = .ok (.bipush 99, 2) := by decide +kernel
theorem dX1_readOne_60 : decode cX1_readOne 60 = .ok (.invokevirtual 31, 3) := by decide +kernel
theorem dX1_readOne_63 : decode cX1_readOne 63 = .ok (.ifCond .ne 5, 3) := by decide +kernel
theorem dX1_readOne_66 : decode cX1_readOne 66 = .ok (.iconst 0, 1) := by decide +kernel
theorem dX1_readOne_67 : decode cX1_readOne 67 = .ok (.ireturn, 1) := by decide +kernel
theorem dX1_readOne_68 : decode cX1_readOne 68 = .ok (.aload_n 1, 1) := by decide +kernel
theorem dX1_readOne_69 : decode cX1_readOne 69 = .ok (.iload_n 2, 1) := by decide +kernel
theorem dX1_readOne_70 : decode cX1_readOne 70 = .ok (.iload_n 3, 1) := by decide +kernel
theorem dX1_readOne_71 : decode cX1_readOne 71 = .ok (.aload_n 0, 1) := by decide +kernel
theorem dX1_readOne_72 : decode cX1_readOne 72 = .ok (.getfield 35, 3) := by decide +kernel
theorem dX1_readOne_75 : decode cX1_readOne 75 = .ok (.invokevirtual 104, 3) := by decide +kernel
theorem dX1_readOne_78 : decode cX1_readOne 78 = .ok (.iconst 1, 1) := by decide +kernel
theorem dX1_readOne_79 : decode cX1_readOne 79 = .ok (.ireturn, 1) := by decide +kernel
theorem dX1_readTie_0 : decode cX1_readTie 0 = .ok (.aload_n 0, 1) := by decide +kernel
theorem dX1_readTie_1 : decode cX1_readTie 1 = .ok (.iconst 0, 1) := by decide +kernel
theorem dX1_readTie_2 : decode cX1_readTie 2 = .ok (.aload_n 1, 1) := by decide +kernel
theorem dX1_readTie_3 : decode cX1_readTie 3 = .ok (.getfield 83, 3) := by decide +kernel
theorem dX1_readTie_6 : decode cX1_readTie 6 = .ok (.iconst 1, 1) := by decide +kernel
theorem dX1_readTie_7 : decode cX1_readTie 7 = .ok (.isub, 1) := by decide +kernel
theorem dX1_readTie_8 : decode cX1_readTie 8 = .ok (.invokevirtual 31, 3) := by decide +kernel
theorem dX1_readTie_11 : decode cX1_readTie 11 = .ok (.ifCond .ne 5, 3) := by decide +kernel
theorem dX1_readTie_14 : decode cX1_readTie 14 = .ok (.iconst 0, 1) := by decide +kernel
theorem dX1_readTie_15 : decode cX1_readTie 15 = .ok (.ireturn, 1) := by decide +kernel
theorem dX1_readTie_16 : decode cX1_readTie 16 = .ok (.aload_n 0, 1) := by decide +kernel
theorem dX1_readTie_17 : decode cX1_readTie 17 = .ok (.getfield 35, 3) := by decide +kernel
theorem dX1_readTie_20 : decode cX1_readTie 20 = .ok (.istore_n 2, 1) := by decide +kernel
theorem dX1_readTie_21 : decode cX1_readTie 21 = .ok (.aload_n 0, 1) := by decide +kernel
theorem dX1_readTie_22 : decode cX1_readTie 22 = .ok (.getfield 44, 3) := by decide +kernel
theorem dX1_readTie_25 : decode cX1_readTie 25 = .ok (.iconst 2, 1) := by decide +kernel
theorem dX1_readTie_26 : decode cX1_readTie 26 = .ok (.if_icmp .ne 11, 3) := by decide +kernel
theorem dX1_readTie_29 : decode cX1_readTie 29 = .ok (.aload_n 0, 1) := by decide +kernel
theorem dX1_readTie_30 : decode cX1_readTie 30 = .ok (.invokevirtual 108, 3) := by decide +kernel
theorem dX1_readTie_33 : decode cX1_readTie 33 = .ok (.iload_n 2, 1) := by decide +kernel
theorem dX1_readTie_34 : decode cX1_readTie 34 = .ok (.if_icmp .eq 17, 3) := by decide +kernel
theorem dX1_readTie_37 : decode cX1_readTie 37 = .ok (.aload_n 0, 1) := by decide +kernel
theorem dX1_readTie_38 : decode cX1_readTie 38 = .ok (.iconst 0, 1) := by decide +kernel
theorem dX1_readTie_39 : decode cX1_readTie 39 = .ok (.aload_n 1, 1) := by decide +kernel
theorem dX1_readTie_40 : decode cX1_readTie 40 = .ok (.getfield 83, 3) := by decide +kernel
theorem dX1_readTie_43 : decode cX1_readTie 43 = .ok (.iconst 1, 1) := by decide +kernel
theorem dX1_readTie_44 : decode cX1_readTie 44 = .ok (.isub, 1) := by decide +kernel
theorem dX1_readTie_45 : decode cX1_readTie 45 = .ok (.invokevirtual 31, 3) := by decide +kernel
theorem dX1_readTie_48 : decode cX1_readTie 48 = .ok (.ifCond .ne 5, 3) := by decide +kernel
theorem dX1_readTie_51 : decode cX1_readTie 51 = .ok (.iconst 0, 1) := by decide +kernel
theorem dX1_readTie_52 : decode cX1_readTie 52 = .ok (.ireturn, 1) := by decide +kernel
theorem dX1_readTie_53 : decode cX1_readTie 53 = .ok (.aload_n 0, 1) := by decide +kernel
theorem dX1_readTie_54 : decode cX1_readTie 54 = .ok (.getfield 35, 3) := by decide +kernel
theorem dX1_readTie_57 : decode cX1_readTie 57 = .ok (.istore_n 3, 1) := by decide +kernel
theorem dX1_readTie_58 : decode cX1_readTie 58 = .ok (.iconst 0, 1) := by decide +kernel
theorem dX1_readTie_59 : decode cX1_readTie 59 = .ok (.istore 4, 2) := by decide +kernel
theorem dX1_readTie_61 : decode cX1_readTie 61 = .ok (.aload_n 0, 1) := by decide +kernel
theorem dX1_readTie_62 : decode cX1_readTie 62 = .ok (.ldc 112, 2) := by decide +kernel
theorem dX1_readTie_64 : decode cX1_readTie 64 = .ok (.invokevirtual 27, 3) := by decide +kernel
theorem dX1_readTie_67 : decode cX1_readTie 67 = .ok (.ifCond .eq 21, 3) := by decide +kernel
theorem dX1_readTie_70 : decode cX1_readTie 70 = .ok (.aload_n 0, 1) := by decide +kernel
theorem dX1_readTie_71 : decode cX1_readTie 71 = .ok (.iconst 0, 1) := by decide +kernel
theorem dX1_readTie_72 : decode cX1_readTie 72 = .ok (.bipush 9, 2) := by decide +kernel
theorem dX1_readTie_74 : decode cX1_readTie 74 = .ok (.invokevirtual 31, 3) := by decide +kernel
theorem dX1_readTie_77 : decode cX1_readTie 77 = .ok (.ifCond .ne 5, 3) := by decide +kernel
theorem dX1_readTie_80 : decode cX1_readTie 80 = .ok (.iconst 0, 1) := by decide +kernel
theorem dX1_readTie_81 : decode cX1_readTie 81 = .ok (.ireturn, 1) := by decide +kernel
theorem dX1_readTie_82 : decode cX1_readTie 82 = .ok (.aload_n 0, 1) := by decide +kernel
theorem dX1_readTie_83 : decode cX1_readTie 83 = .ok (.getfield 35, 3) := by decide +kernel
theorem dX1_readTie_86 : decode cX1_readTie 86 = .ok (.istore 4, 2) := by decide +kernel
theorem dX1_readTie_88 : decode cX1_readTie 88 = .ok (.aload_n 1, 1) := by decide +kernel
theorem dX1_readTie_89 : decode cX1_readTie 89 = .ok (.iload_n 2, 1) := by decide +kernel
theorem dX1_readTie_90 : decode cX1_readTie 90 = .ok (.iload_n 3, 1) := by decide +kernel
theorem dX1_readTie_91 : decode cX1_readTie 91 = .ok (.iload 4, 2) := by decide +kernel
theorem dX1_readTie_93 : decode cX1_readTie 93 = .ok (.invokevirtual 114, 3) := by decide +kernel
theorem dX1_readTie_96 : decode cX1_readTie 96 = .ok (.iconst 1, 1) := by decide +kernel
theorem dX1_readTie_97 : decode cX1_readTie 97 = .ok (.ireturn, 1) := by decide +kernel
theorem dX1_readMust_0 : decode cX1_readMust 0 = .ok (.aload_n 0, 1) := by decide +kernel
theorem dX1_readMust_1 : decode cX1_readMust 1 = .ok (.iconst 0, 1) := by decide +kernel
theorem dX1_readMust_2 : decode cX1_readMust 2 = .ok (.aload_n 1, 1) := by decide +kernel
theorem dX1_readMust_3 : decode cX1_readMust 3 = .ok (.getfield 83, 3) := by decide +kernel
theorem dX1_readMust_6 : decode cX1_readMust 6 = .ok (.iconst 1, 1) := by decide +kernel
theorem dX1_readMust_7 : decode cX1_readMust 7 = .ok (.isub, 1) := by decide +kernel
theorem dX1_readMust_8 : decode cX1_readMust 8 = .ok (.invokevirtual 31, 3) := by decide +kernel
theorem dX1_readMust_11 : decode cX1_readMust 11 = .ok (.ifCond .ne 5, 3) := by decide +kernel
theorem dX1_readMust_14 : decode cX1_readMust 14 = .ok (.iconst 0, 1) := by decide +kernel
theorem dX1_readMust_15 : decode cX1_readMust 15 = .ok (.ireturn, 1) := by decide +kernel
theorem dX1_readMust_16 : decode cX1_readMust 16 = .ok (.aload_n 1, 1) := by decide +kernel
theorem dX1_readMust_17 : decode cX1_readMust 17 = .ok (.aload_n 0, 1) := by decide +kernel
theorem dX1_readMust_18 : decode cX1_readMust 18 = .ok (.getfield 35, 3) := by decide +kernel
theorem dX1_readMust_21 : decode cX1_readMust 21 = .ok (.iconst 1, 1) := by decide +kernel
theorem dX1_readMust_22 : decode cX1_readMust 22 = .ok (.invokevirtual 117, 3) := by decide +kernel
theorem dX1_readMust_25 : decode cX1_readMust 25 = .ok (.iconst 1, 1) := by decide +kernel
theorem dX1_readMust_26 : decode cX1_readMust 26 = .ok (.ireturn, 1) := by decide +kernel
theorem dX1_passNumber_0 : decode cX1_passNumber 0 = .ok (.aload_n 0, 1) := by decide +kernel
theorem dX1_passNumber_1 : decode cX1_passNumber 1 = .ok (.getfield 44, 3) := by decide +kernel
theorem dX1_passNumber_4 : decode cX1_passNumber 4 = .ok (.iconst 2, 1) := by decide +kernel
theorem dX1_passNumber_5 : decode cX1_passNumber 5 = .ok (.if_icmp .ne 10, 3) := by decide +kernel
theorem dX1_passNumber_8 : decode cX1_passNumber 8 = .ok (.aload_n 0, 1) := by decide +kernel
theorem dX1_passNumber_9 : decode cX1_passNumber 9 = .ok (.invokevirtual 108, 3) := by decide +kernel
theorem dX1_passNumber_12 : decode cX1_passNumber 12 = .ok (.goto 4, 3) := by decide +kernel
theorem dX1_passNumber_15 : decode cX1_passNumber 15 = .ok (.iconst (-1), 1) := by decide +kernel
theorem dX1_passNumber_16 : decode cX1_passNumber 16 = .ok (.istore_n 3, 1) := by decide +kernel
theorem dX1_passNumber_17 : decode cX1_passNumber 17 = .ok (.aload_n 0, 1) := by decide +kernel
theorem dX1_passNumber_18 : decode cX1_passNumber 18 = .ok (.getfield 44, 3) := by decide +kernel
theorem dX1_passNumber_21 : decode cX1_passNumber 21 = .ok (.iconst 2, 1) := by decide +kernel
theorem dX1_passNumber_22 : decode cX1_passNumber 22 = .ok (.if_icmp .ne 13, 3) := by decide +kernel
theorem dX1_passNumber_25 : decode cX1_passNumber 25 = .ok (.iload_n 3, 1) := by decide +kernel
theorem dX1_passNumber_26 : decode cX1_passNumber 26 = .ok (.iload_n 1, 1) := by decide +kernel
theorem dX1_passNumber_27 : decode cX1_passNumber 27 = .ok (.if_icmp .lt 8, 3) := by decide +kernel
theorem dX1_passNumber_30 : decode cX1_passNumber 30 = .ok (.iload_n 3, 1) := by decide +kernel
theorem dX1_passNumber_31 : decode cX1_passNumber 31 = .ok (.iload_n 2, 1) := by decide +kernel
theorem dX1_passNumber_32 : decode cX1_passNumber 32 = .ok (.if_icmp .le 5, 3) := by decide +kernel
theorem dX1_passNumber_35 : decode cX1_passNumber 35 = .ok (.iconst 0, 1) := by decide +kernel
theorem dX1_passNumber_36 : decode cX1_passNumber 36 = .ok (.ireturn, 1) := by decide +kernel
theorem dX1_passNumber_37 : decode cX1_passNumber 37 = .ok (.aload_n 0, 1) := by decide +kernel
theorem dX1_passNumber_38 : decode cX1_passNumber 38 = .ok (.iload_n 3, 1) := by decide +kernel
theorem dX1_passNumber_39 : decode cX1_passNumber 39 = .ok (.putfield 35, 3) := by decide +kernel
theorem dX1_passNumber_42 : decode cX1_passNumber 42 = .ok (.aload_n 0, 1) := by decide +kernel
theorem dX1_passNumber_43 : decode cX1_passNumber 43 = .ok (.invokevirtual 22, 3) := by decide +kernel
theorem dX1_passNumber_46 : decode cX1_passNumber 46 = .ok (.iconst 1, 1) := by decide +kernel
theorem dX1_passNumber_47 : decode cX1_passNumber 47 = .ok (.ireturn, 1) := by decide +kernel
theorem dX1_passWord_0 : decode cX1_passWord 0 = .ok (.aload_n 0, 1) := by decide +kernel
theorem dX1_passWord_1 : decode cX1_passWord 1 = .ok (.aload_n 1, 1) := by decide +kernel
theorem dX1_passWord_2 : decode cX1_passWord 2 = .ok (.invokevirtual 121, 3) := by decide +kernel
theorem dX1_passWord_5 : decode cX1_passWord 5 = .ok (.ifCond .ne 5, 3) := by decide +kernel
theorem dX1_passWord_8 : decode cX1_passWord 8 = .ok (.iconst 0, 1) := by decide +kernel
theorem dX1_passWord_9 : decode cX1_passWord 9 = .ok (.ireturn, 1) := by decide +kernel
theorem dX1_passWord_10 : decode cX1_passWord 10 = .ok (.aload_n 0, 1) := by decide +kernel
theorem dX1_passWord_11 : decode cX1_passWord 11 = .ok (.invokevirtual 22, 3) := by decide +kernel
theorem dX1_passWord_14 : decode cX1_passWord 14 = .ok (.iconst 1, 1) := by decide +kernel
theorem dX1_passWord_15 : decode cX1_passWord 15 = .ok (.ireturn, 1) := by decide +kernel
theorem dX1_isWord_0 : decode cX1_isWord 0 = .ok (.aload_n 0, 1) := by decide +kernel
theorem dX1_isWord_1 : decode cX1_isWord 1 = .ok (.getfield 44, 3) := by decide +kernel
theorem dX1_isWord_4 : decode cX1_isWord 4 = .ok (.iconst 1, 1) := by decide +kernel
theorem dX1_isWord_5 : decode cX1_isWord 5 = .ok (.if_icmp .ne 19, 3) := by decide +kernel
theorem dX1_isWord_8 : decode cX1_isWord 8 = .ok (.aload_n 1, 1) := by decide +kernel
theorem dX1_isWord_9 : decode cX1_isWord 9 = .ok (.invokevirtual 124, 3) := by decide +kernel
theorem dX1_isWord_12 : decode cX1_isWord 12 = .ok (.aload_n 0, 1) := by decide +kernel
theorem dX1_isWord_13 : decode cX1_isWord 13 = .ok (.getfield 19, 3) := by decide +kernel
theorem dX1_isWord_16 : decode cX1_isWord 16 = .ok (.aload_n 0, 1) := by decide +kernel
theorem dX1_isWord_17 : decode cX1_isWord 17 = .ok (.getfield 129, 3) := by decide +kernel
theorem dX1_isWord_20 : decode cX1_isWord 20 = .ok (.isub, 1) := by decide +kernel
theorem dX1_isWord_21 : decode cX1_isWord 21 = .ok (.if_icmp .eq 5, 3) := by decide +kernel
theorem dX1_isWord_24 : decode cX1_isWord 24 = .ok (.iconst 0, 1) := by decide +kernel
theorem dX1_isWord_25 : decode cX1_isWord 25 = .ok (.ireturn, 1) := by decide +kernel
theorem dX1_isWord_26 : decode cX1_isWord 26 = .ok (.iconst 0, 1) := by decide +kernel
theorem dX1_isWord_27 : decode cX1_isWord 27 = .ok (.istore_n 2, 1) := by decide +kernel
theorem dX1_isWord_28 : decode cX1_isWord 28 = .ok (.iload_n 2, 1) := by decide +kernel
theorem dX1_isWord_29 : decode cX1_isWord 29 = .ok (.aload_n 1, 1) := by decide +kernel
theorem dX1_isWord_30 : decode cX1_isWord 30 = .ok (.invokevirtual 124, 3) := by decide +kernel
theorem dX1_isWord_33 : decode cX1_isWord 33 = .ok (.if_icmp .ge 42, 3) := by decide +kernel
theorem dX1_isWord_36 : decode cX1_isWord 36 = .ok (.aload_n 0, 1) := by decide +kernel
theorem dX1_isWord_37 : decode cX1_isWord 37 = .ok (.getfield 129, 3) := by decide +kernel
theorem dX1_isWord_40 : decode cX1_isWord 40 = .ok (.iload_n 2, 1) := by decide +kernel
theorem dX1_isWord_41 : decode cX1_isWord 41 = .ok (.iadd, 1) := by decide +kernel
theorem dX1_isWord_42 : decode cX1_isWord 42 = .ok (.sipush 160, 3) := by decide +kernel
theorem dX1_isWord_45 : decode cX1_isWord 45 = .ok (.if_icmp .ge 30, 3) := by decide +kernel
theorem dX1_isWord_48 : decode cX1_isWord 48 = .ok (.aload_n 0, 1) := by decide +kernel
theorem dX1_isWord_49 : decode cX1_isWord 49 = .ok (.getfield 9, 3) := by decide +kernel
theorem dX1_isWord_52 : decode cX1_isWord 52 = .ok (.aload_n 0, 1) := by decide +kernel
theorem dX1_isWord_53 : decode cX1_isWord 53 = .ok (.getfield 129, 3) := by decide +kernel
theorem dX1_isWord_56 : decode cX1_isWord 56 = .ok (.iload_n 2, 1) := by decide +kernel
theorem dX1_isWord_57 : decode cX1_isWord 57 = .ok (.iadd, 1) := by decide +kernel
theorem dX1_isWord_58 : decode cX1_isWord 58 = .ok (.iaload, 1) := by decide +kernel
theorem dX1_isWord_59 : decode cX1_isWord 59 = .ok (.aload_n 1, 1) := by decide +kernel
theorem dX1_isWord_60 : decode cX1_isWord 60 = .ok (.iload_n 2, 1) := by decide +kernel
theorem dX1_isWord_61 : decode cX1_isWord 61 = .ok (.invokevirtual 132, 3) := by decide +kernel
theorem dX1_isWord_64 : decode cX1_isWord 64 = .ok (.if_icmp .eq 5, 3) := by decide +kernel
theorem dX1_isWord_67 : decode cX1_isWord 67 = .ok (.iconst 0, 1) := by decide +kernel
theorem dX1_isWord_68 : decode cX1_isWord 68 = .ok (.ireturn, 1) := by decide +kernel
theorem dX1_isWord_69 : decode cX1_isWord 69 = .ok (.iinc 2 1, 3) := by decide +kernel
theorem dX1_isWord_72 : decode cX1_isWord 72 = .ok (.goto (-44), 3) := by decide +kernel
theorem dX1_isWord_75 : decode cX1_isWord 75 = .ok (.iconst 1, 1) := by decide +kernel
theorem dX1_isWord_76 : decode cX1_isWord 76 = .ok (.ireturn, 1) := by decide +kernel
theorem dX1_numberAtHand_0 : decode cX1_numberAtHand 0 = .ok (.aload_n 0, 1) := by decide +kernel
theorem dX1_numberAtHand_1 : decode cX1_numberAtHand 1 = .ok (.getfield 19, 3) := by decide +kernel
theorem dX1_numberAtHand_4 : decode cX1_numberAtHand 4 = .ok (.aload_n 0, 1) := by decide +kernel
theorem dX1_numberAtHand_5 : decode cX1_numberAtHand 5 = .ok (.getfield 129, 3) := by decide +kernel
theorem dX1_numberAtHand_8 : decode cX1_numberAtHand 8 = .ok (.isub, 1) := by decide +kernel
theorem dX1_numberAtHand_9 : decode cX1_numberAtHand 9 = .ok (.iconst 3, 1) := by decide +kernel
theorem dX1_numberAtHand_10 : decode cX1_numberAtHand 10 = .ok (.if_icmp .le 7, 3) := by decide +kernel
theorem dX1_numberAtHand_13 : decode cX1_numberAtHand 13 = .ok (.sipush 1000, 3) := by decide +kernel
theorem dX1_numberAtHand_16 : decode cX1_numberAtHand 16 = .ok (.ireturn, 1) := by decide +kernel
theorem dX1_numberAtHand_17 : decode cX1_numberAtHand 17 = .ok (.iconst 0, 1) := by decide +kernel
theorem dX1_numberAtHand_18 : decode cX1_numberAtHand 18 = .ok (.istore_n 1, 1) := by decide +kernel
theorem dX1_numberAtHand_19 : decode cX1_numberAtHand 19 = .ok (.aload_n 0, 1) := by decide +kernel
theorem dX1_numberAtHand_20 : decode cX1_numberAtHand 20 = .ok (.getfield 129, 3) := by decide +kernel
theorem dX1_numberAtHand_23 : decode cX1_numberAtHand 23 = .ok (.istore_n 2, 1) := by decide +kernel
theorem dX1_numberAtHand_24 : decode cX1_numberAtHand 24 = .ok (.iload_n 2, 1) := by decide +kernel
theorem dX1_numberAtHand_25 : decode cX1_numberAtHand 25 = .ok (.aload_n 0, 1) := by decide +kernel
theorem dX1_numberAtHand_26 : decode cX1_numberAtHand 26 = .ok (.getfield 19, 3) := by decide +kernel
theorem dX1_numberAtHand_29 : decode cX1_numberAtHand 29 = .ok (.if_icmp .ge 31, 3) := by decide +kernel
theorem dX1_numberAtHand_32 : decode cX1_numberAtHand 32 = .ok (.iload_n 2, 1) := by decide +kernel
theorem dX1_numberAtHand_33 : decode cX1_numberAtHand 33 = .ok (.sipush 160, 3) := by decide +kernel
theorem dX1_numberAtHand_36 : decode cX1_numberAtHand 36 = .ok (.if_icmp .ge 24, 3) := by decide +kernel
theorem dX1_numberAtHand_39 : decode cX1_numberAtHand 39 = .ok (.bipush 10, 2) := by decide +kernel
theorem dX1_numberAtHand_41 : decode cX1_numberAtHand 41 = .ok (.iload_n 1, 1) := by decide +kernel
theorem dX1_numberAtHand_42 : decode cX1_numberAtHand 42 = .ok (.imul, 1) := by decide +kernel
theorem dX1_numberAtHand_43 : decode cX1_numberAtHand 43 = .ok (.aload_n 0, 1) := by decide +kernel
theorem dX1_numberAtHand_44 : decode cX1_numberAtHand 44 = .ok (.getfield 9, 3) := by decide +kernel
theorem dX1_numberAtHand_47 : decode cX1_numberAtHand 47 = .ok (.iload_n 2, 1) := by decide +kernel
theorem dX1_numberAtHand_48 : decode cX1_numberAtHand 48 = .ok (.iaload, 1) := by decide +kernel
theorem dX1_numberAtHand_49 : decode cX1_numberAtHand 49 = .ok (.iadd, 1) := by decide +kernel
theorem dX1_numberAtHand_50 : decode cX1_numberAtHand 50 = .ok (.bipush 48, 2) := by decide +kernel
theorem dX1_numberAtHand_52 : decode cX1_numberAtHand 52 = .ok (.isub, 1) := by decide +kernel
theorem dX1_numberAtHand_53 : decode cX1_numberAtHand 53 = .ok (.istore_n 1, 1) := by decide +kernel
theorem dX1_numberAtHand_54 : decode cX1_numberAtHand 54 = .ok (.iinc 2 1, 3) := by decide +kernel
theorem dX1_numberAtHand_57 : decode cX1_numberAtHand 57 = .ok (.goto (-33), 3) := by decide +kernel
theorem dX1_numberAtHand_60 : decode cX1_numberAtHand 60 = .ok (.iload_n 1, 1) := by decide +kernel
theorem dX1_numberAtHand_61 : decode cX1_numberAtHand 61 = .ok (.ireturn, 1) := by decide +kernel
theorem dX1_advance_0 : decode cX1_advance 0 = .ok (.aload_n 0, 1) := by decide +kernel
theorem dX1_advance_1 : decode cX1_advance 1 = .ok (.aload_n 0, 1) := by decide +kernel
theorem dX1_advance_2 : decode cX1_advance 2 = .ok (.getfield 19, 3) := by decide +kernel
theorem dX1_advance_5 : decode cX1_advance 5 = .ok (.putfield 129, 3) := by decide +kernel
theorem dX1_advance_8 : decode cX1_advance 8 = .ok (.aload_n 0, 1) := by decide +kernel
theorem dX1_advance_9 : decode cX1_advance 9 = .ok (.getfield 129, 3) := by decide +kernel
theorem dX1_advance_12 : decode cX1_advance 12 = .ok (.aload_n 0, 1) := by decide +kernel
theorem dX1_advance_13 : decode cX1_advance 13 = .ok (.getfield 15, 3) := by decide +kernel
theorem dX1_advance_16 : decode cX1_advance 16 = .ok (.if_icmp .ge 40, 3) := by decide +kernel
theorem dX1_advance_19 : decode cX1_advance 19 = .ok (.aload_n 0, 1) := by decide +kernel
theorem dX1_advance_20 : decode cX1_advance 20 = .ok (.getfield 129, 3) := by decide +kernel
theorem dX1_advance_23 : decode cX1_advance 23 = .ok (.sipush 160, 3) := by decide +kernel
theorem dX1_advance_26 : decode cX1_advance 26 = .ok (.if_icmp .ge 30, 3) := by decide +kernel
theorem dX1_advance_29 : decode cX1_advance 29 = .ok (.aload_n 0, 1) := by decide +kernel
theorem dX1_advance_30 : decode cX1_advance 30 = .ok (.getfield 9, 3) := by decide +kernel
theorem dX1_advance_33 : decode cX1_advance 33 = .ok (.aload_n 0, 1) := by decide +kernel
theorem dX1_advance_34 : decode cX1_advance 34 = .ok (.getfield 129, 3) := by decide +kernel
theorem dX1_advance_37 : decode cX1_advance 37 = .ok (.iaload, 1) := by decide +kernel
theorem dX1_advance_38 : decode cX1_advance 38 = .ok (.bipush 32, 2) := by decide +kernel
theorem dX1_advance_40 : decode cX1_advance 40 = .ok (.if_icmp .ne 16, 3) := by decide +kernel
theorem dX1_advance_43 : decode cX1_advance 43 = .ok (.aload_n 0, 1) := by decide +kernel
theorem dX1_advance_44 : decode cX1_advance 44 = .ok (.dup, 1) := by decide +kernel
theorem dX1_advance_45 : decode cX1_advance 45 = .ok (.getfield 129, 3) := by decide +kernel
theorem dX1_advance_48 : decode cX1_advance 48 = .ok (.iconst 1, 1) := by decide +kernel
theorem dX1_advance_49 : decode cX1_advance 49 = .ok (.iadd, 1) := by decide +kernel
theorem dX1_advance_50 : decode cX1_advance 50 = .ok (.putfield 129, 3) := by decide +kernel
theorem dX1_advance_53 : decode cX1_advance 53 = .ok (.goto (-45), 3) := by decide +kernel
theorem dX1_advance_56 : decode cX1_advance 56 = .ok (.aload_n 0, 1) := by decide +kernel
theorem dX1_advance_57 : decode cX1_advance 57 = .ok (.aload_n 0, 1) := by decide +kernel
theorem dX1_advance_58 : decode cX1_advance 58 = .ok (.getfield 129, 3) := by decide +kernel
theorem dX1_advance_61 : decode cX1_advance 61 = .ok (.putfield 19, 3) := by decide +kernel
theorem dX1_advance_64 : decode cX1_advance 64 = .ok (.aload_n 0, 1) := by decide +kernel
theorem dX1_advance_65 : decode cX1_advance 65 = .ok (.getfield 129, 3) := by decide +kernel
theorem dX1_advance_68 : decode cX1_advance 68 = .ok (.aload_n 0, 1) := by decide +kernel
theorem dX1_advance_69 : decode cX1_advance 69 = .ok (.getfield 15, 3) := by decide +kernel
theorem dX1_advance_72 : decode cX1_advance 72 = .ok (.if_icmp .ge 13, 3) := by decide +kernel
theorem dX1_advance_75 : decode cX1_advance 75 = .ok (.aload_n 0, 1) := by decide +kernel
theorem dX1_advance_76 : decode cX1_advance 76 = .ok (.getfield 129, 3) := by decide +kernel
theorem dX1_advance_79 : decode cX1_advance 79 = .ok (.sipush 160, 3) := by decide +kernel
theorem dX1_advance_82 : decode cX1_advance 82 = .ok (.if_icmp .lt 9, 3) := by decide +kernel
theorem dX1_advance_85 : decode cX1_advance 85 = .ok (.aload_n 0, 1) := by decide +kernel
theorem dX1_advance_86 : decode cX1_advance 86 = .ok (.iconst 0, 1) := by decide +kernel
theorem dX1_advance_87 : decode cX1_advance 87 = .ok (.putfield 44, 3) := by decide +kernel
theorem dX1_advance_90 : decode cX1_advance 90 = .ok (.return_, 1) := by decide +kernel
theorem dX1_advance_91 : decode cX1_advance 91 = .ok (.aload_n 0, 1) := by decide +kernel
theorem dX1_advance_92 : decode cX1_advance 92 = .ok (.aload_n 0, 1) := by decide +kernel
theorem dX1_advance_93 : decode cX1_advance 93 = .ok (.getfield 9, 3) := by decide +kernel
theorem dX1_advance_96 : decode cX1_advance 96 = .ok (.aload_n 0, 1) := by decide +kernel
theorem dX1_advance_97 : decode cX1_advance 97 = .ok (.getfield 129, 3) := by decide +kernel
theorem dX1_advance_100 : decode cX1_advance 100 = .ok (.iaload, 1) := by decide +kernel
theorem dX1_advance_101 : decode cX1_advance 101 = .ok (.invokestatic 136, 3) := by decide +kernel
theorem dX1_advance_104 : decode cX1_advance 104 = .ok (.putfield 44, 3) := by decide +kernel
theorem dX1_advance_107 : decode cX1_advance 107 = .ok (.aload_n 0, 1) := by decide +kernel
theorem dX1_advance_108 : decode cX1_advance 108 = .ok (.dup, 1) := by decide +kernel
theorem dX1_advance_109 : decode cX1_advance 109 = .ok (.getfield 19, 3) := by decide +kernel
theorem dX1_advance_112 : decode cX1_advance 112 = .ok (.iconst 1, 1) := by decide +kernel
theorem dX1_advance_113 : decode cX1_advance 113 = .ok (.iadd, 1) := by decide +kernel
theorem dX1_advance_114 : decode cX1_advance 114 = .ok (.putfield 19, 3) := by decide +kernel
theorem dX1_advance_117 : decode cX1_advance 117 = .ok (.aload_n 0, 1) := by decide +kernel
theorem dX1_advance_118 : decode cX1_advance 118 = .ok (.getfield 44, 3) := by decide +kernel
theorem dX1_advance_121 : decode cX1_advance 121 = .ok (.iconst 3, 1) := by decide +kernel
theorem dX1_advance_122 : decode cX1_advance 122 = .ok (.if_icmp .eq 11, 3) := by decide +kernel
theorem dX1_advance_125 : decode cX1_advance 125 = .ok (.aload_n 0, 1) := by decide +kernel
theorem dX1_advance_126 : decode cX1_advance 126 = .ok (.getfield 44, 3) := by decide +kernel
theorem dX1_advance_129 : decode cX1_advance 129 = .ok (.iconst 4, 1) := by decide +kernel
theorem dX1_advance_130 : decode cX1_advance 130 = .ok (.if_icmp .ne 4, 3) := by decide +kernel
theorem dX1_advance_133 : decode cX1_advance 133 = .ok (.return_, 1) := by decide +kernel
theorem dX1_advance_134 : decode cX1_advance 134 = .ok (.aload_n 0, 1) := by decide +kernel
theorem dX1_advance_135 : decode cX1_advance 135 = .ok (.getfield 19, 3) := by decide +kernel
theorem dX1_advance_138 : decode cX1_advance 138 = .ok (.aload_n 0, 1) := by decide +kernel
theorem dX1_advance_139 : decode cX1_advance 139 = .ok (.getfield 15, 3) := by decide +kernel
theorem dX1_advance_142 : decode cX1_advance 142 = .ok (.if_icmp .ge 45, 3) := by decide +kernel
theorem dX1_advance_145 : decode cX1_advance 145 = .ok (.aload_n 0, 1) := by decide +kernel
theorem dX1_advance_146 : decode cX1_advance 146 = .ok (.getfield 19, 3) := by decide +kernel
theorem dX1_advance_149 : decode cX1_advance 149 = .ok (.sipush 160, 3) := by decide +kernel
theorem dX1_advance_152 : decode cX1_advance 152 = .ok (.if_icmp .ge 35, 3) := by decide +kernel
theorem dX1_advance_155 : decode cX1_advance 155 = .ok (.aload_n 0, 1) := by decide +kernel
theorem dX1_advance_156 : decode cX1_advance 156 = .ok (.getfield 9, 3) := by decide +kernel
theorem dX1_advance_159 : decode cX1_advance 159 = .ok (.aload_n 0, 1) := by decide +kernel
theorem dX1_advance_160 : decode cX1_advance 160 = .ok (.getfield 19, 3) := by decide +kernel
theorem dX1_advance_163 : decode cX1_advance 163 = .ok (.iaload, 1) := by decide +kernel
theorem dX1_advance_164 : decode cX1_advance 164 = .ok (.invokestatic 136, 3) := by decide +kernel
theorem dX1_advance_167 : decode cX1_advance 167 = .ok (.aload_n 0, 1) := by decide +kernel
theorem dX1_advance_168 : decode cX1_advance 168 = .ok (.getfield 44, 3) := by decide +kernel
theorem dX1_advance_171 : decode cX1_advance 171 = .ok (.if_icmp .ne 16, 3) := by decide +kernel
theorem dX1_advance_174 : decode cX1_advance 174 = .ok (.aload_n 0, 1) := by decide +kernel
theorem dX1_advance_175 : decode cX1_advance 175 = .ok (.dup, 1) := by decide +kernel
theorem dX1_advance_176 : decode cX1_advance 176 = .ok (.getfield 19, 3) := by decide +kernel
theorem dX1_advance_179 : decode cX1_advance 179 = .ok (.iconst 1, 1) := by decide +kernel
theorem dX1_advance_180 : decode cX1_advance 180 = .ok (.iadd, 1) := by decide +kernel
theorem dX1_advance_181 : decode cX1_advance 181 = .ok (.putfield 19, 3) := by decide +kernel
theorem dX1_advance_184 : decode cX1_advance 184 = .ok (.goto (-50), 3) := by decide +kernel
theorem dX1_advance_187 : decode cX1_advance 187 = .ok (.return_, 1) := by decide +kernel
theorem dX1_sortOf_0 : decode cX1_sortOf 0 = .ok (.iload_n 0, 1) := by decide +kernel
theorem dX1_sortOf_1 : decode cX1_sortOf 1 = .ok (.bipush 97, 2) := by decide +kernel
theorem dX1_sortOf_3 : decode cX1_sortOf 3 = .ok (.if_icmp .lt 11, 3) := by decide +kernel
theorem dX1_sortOf_6 : decode cX1_sortOf 6 = .ok (.iload_n 0, 1) := by decide +kernel
theorem dX1_sortOf_7 : decode cX1_sortOf 7 = .ok (.bipush 122, 2) := by decide +kernel
theorem dX1_sortOf_9 : decode cX1_sortOf 9 = .ok (.if_icmp .gt 5, 3) := by decide +kernel
theorem dX1_sortOf_12 : decode cX1_sortOf 12 = .ok (.iconst 1, 1) := by decide +kernel
theorem dX1_sortOf_13 : decode cX1_sortOf 13 = .ok (.ireturn, 1) := by decide +kernel
theorem dX1_sortOf_14 : decode cX1_sortOf 14 = .ok (.iload_n 0, 1) := by decide +kernel
theorem dX1_sortOf_15 : decode cX1_sortOf 15 = .ok (.bipush 48, 2) := by decide +kernel
theorem dX1_sortOf_17 : decode cX1_sortOf 17 = .ok (.if_icmp .lt 11, 3) := by decide +kernel
theorem dX1_sortOf_20 : decode cX1_sortOf 20 = .ok (.iload_n 0, 1) := by decide +kernel
theorem dX1_sortOf_21 : decode cX1_sortOf 21 = .ok (.bipush 57, 2) := by decide +kernel
theorem dX1_sortOf_23 : decode cX1_sortOf 23 = .ok (.if_icmp .gt 5, 3) := by decide +kernel
theorem dX1_sortOf_26 : decode cX1_sortOf 26 = .ok (.iconst 2, 1) := by decide +kernel
theorem dX1_sortOf_27 : decode cX1_sortOf 27 = .ok (.ireturn, 1) := by decide +kernel
theorem dX1_sortOf_28 : decode cX1_sortOf 28 = .ok (.iload_n 0, 1) := by decide +kernel
theorem dX1_sortOf_29 : decode cX1_sortOf 29 = .ok (.bipush 59, 2) := by decide +kernel
theorem dX1_sortOf_31 : decode cX1_sortOf 31 = .ok (.if_icmp .ne 7, 3) := by decide +kernel
theorem dX1_sortOf_34 : decode cX1_sortOf 34 = .ok (.iconst 3, 1) := by decide +kernel
theorem dX1_sortOf_35 : decode cX1_sortOf 35 = .ok (.goto 4, 3) := by decide +kernel
theorem dX1_sortOf_38 : decode cX1_sortOf 38 = .ok (.iconst 4, 1) := by decide +kernel
theorem dX1_sortOf_39 : decode cX1_sortOf 39 = .ok (.ireturn, 1) := by decide +kernel
theorem dX2_init_0 : decode cX2_init 0 = .ok (.aload_n 0, 1) := by decide +kernel
theorem dX2_init_1 : decode cX2_init 1 = .ok (.invokespecial 3, 3) := by decide +kernel
theorem dX2_init_4 : decode cX2_init 4 = .ok (.aload_n 0, 1) := by decide +kernel
theorem dX2_init_5 : decode cX2_init 5 = .ok (.new 9, 3) := by decide +kernel
theorem dX2_init_8 : decode cX2_init 8 = .ok (.dup, 1) := by decide +kernel
theorem dX2_init_9 : decode cX2_init 9 = .ok (.invokespecial 11, 3) := by decide +kernel
theorem dX2_init_12 : decode cX2_init 12 = .ok (.putfield 12, 3) := by decide +kernel
theorem dX2_init_15 : decode cX2_init 15 = .ok (.return_, 1) := by decide +kernel
theorem dX2_start_0 : decode cX2_start 0 = .ok (.aload_n 0, 1) := by decide +kernel
theorem dX2_start_1 : decode cX2_start 1 = .ok (.getfield 12, 3) := by decide +kernel
theorem dX2_start_4 : decode cX2_start 4 = .ok (.aload_n 1, 1) := by decide +kernel
theorem dX2_start_5 : decode cX2_start 5 = .ok (.invokevirtual 18, 3) := by decide +kernel
theorem dX2_start_8 : decode cX2_start 8 = .ok (.aload_n 0, 1) := by decide +kernel
theorem dX2_start_9 : decode cX2_start 9 = .ok (.iconst 1, 1) := by decide +kernel
theorem dX2_start_10 : decode cX2_start 10 = .ok (.putfield 22, 3) := by decide +kernel
theorem dX2_start_13 : decode cX2_start 13 = .ok (.aload_n 0, 1) := by decide +kernel
theorem dX2_start_14 : decode cX2_start 14 = .ok (.iload_n 2, 1) := by decide +kernel
theorem dX2_start_15 : decode cX2_start 15 = .ok (.putfield 26, 3) := by decide +kernel
theorem dX2_start_18 : decode cX2_start 18 = .ok (.aload_n 0, 1) := by decide +kernel
theorem dX2_start_19 : decode cX2_start 19 = .ok (.iconst 0, 1) := by decide +kernel
theorem dX2_start_20 : decode cX2_start 20 = .ok (.putfield 30, 3) := by decide +kernel
theorem dX2_start_23 : decode cX2_start 23 = .ok (.aload_n 0, 1) := by decide +kernel
theorem dX2_start_24 : decode cX2_start 24 = .ok (.iconst 0, 1) := by decide +kernel
theorem dX2_start_25 : decode cX2_start 25 = .ok (.putfield 33, 3) := by decide +kernel
theorem dX2_start_28 : decode cX2_start 28 = .ok (.aload_n 0, 1) := by decide +kernel
theorem dX2_start_29 : decode cX2_start 29 = .ok (.iconst (-1), 1) := by decide +kernel
theorem dX2_start_30 : decode cX2_start 30 = .ok (.putfield 36, 3) := by decide +kernel
theorem dX2_start_33 : decode cX2_start 33 = .ok (.return_, 1) := by decide +kernel
theorem dX2_become_0 : decode cX2_become 0 = .ok (.aload_n 0, 1) := by decide +kernel
theorem dX2_become_1 : decode cX2_become 1 = .ok (.getfield 12, 3) := by decide +kernel
theorem dX2_become_4 : decode cX2_become 4 = .ok (.aload_n 1, 1) := by decide +kernel
theorem dX2_become_5 : decode cX2_become 5 = .ok (.getfield 12, 3) := by decide +kernel
theorem dX2_become_8 : decode cX2_become 8 = .ok (.invokevirtual 18, 3) := by decide +kernel
theorem dX2_become_11 : decode cX2_become 11 = .ok (.aload_n 0, 1) := by decide +kernel
theorem dX2_become_12 : decode cX2_become 12 = .ok (.aload_n 1, 1) := by decide +kernel
theorem dX2_become_13 : decode cX2_become 13 = .ok (.getfield 22, 3) := by decide +kernel
theorem dX2_become_16 : decode cX2_become 16 = .ok (.putfield 22, 3) := by decide +kernel
theorem dX2_become_19 : decode cX2_become 19 = .ok (.aload_n 0, 1) := by decide +kernel
theorem dX2_become_20 : decode cX2_become 20 = .ok (.aload_n 1, 1) := by decide +kernel
theorem dX2_become_21 : decode cX2_become 21 = .ok (.getfield 26, 3) := by decide +kernel
theorem dX2_become_24 : decode cX2_become 24 = .ok (.putfield 26, 3) := by decide +kernel
theorem dX2_become_27 : decode cX2_become 27 = .ok (.aload_n 0, 1) := by decide +kernel
theorem dX2_become_28 : decode cX2_become 28 = .ok (.aload_n 1, 1) := by decide +kernel
theorem dX2_become_29 : decode cX2_become 29 = .ok (.getfield 30, 3) := by decide +kernel
theorem dX2_become_32 : decode cX2_become 32 = .ok (.putfield 30, 3) := by decide +kernel
theorem dX2_become_35 : decode cX2_become 35 = .ok (.aload_n 0, 1) := by decide +kernel
theorem dX2_become_36 : decode cX2_become 36 = .ok (.aload_n 1, 1) := by decide +kernel
theorem dX2_become_37 : decode cX2_become 37 = .ok (.getfield 33, 3) := by decide +kernel
theorem dX2_become_40 : decode cX2_become 40 = .ok (.putfield 33, 3) := by decide +kernel
theorem dX2_become_43 : decode cX2_become 43 = .ok (.aload_n 0, 1) := by decide +kernel
theorem dX2_become_44 : decode cX2_become 44 = .ok (.aload_n 1, 1) := by decide +kernel
theorem dX2_become_45 : decode cX2_become 45 = .ok (.getfield 36, 3) := by decide +kernel
theorem dX2_become_48 : decode cX2_become 48 = .ok (.putfield 36, 3) := by decide +kernel
theorem dX2_become_51 : decode cX2_become 51 = .ok (.return_, 1) := by decide +kernel
theorem dX2_isDone_0 : decode cX2_isDone 0 = .ok (.aload_n 0, 1) := by decide +kernel
theorem dX2_isDone_1 : decode cX2_isDone 1 = .ok (.getfield 30, 3) := by decide +kernel
theorem dX2_isDone_4 : decode cX2_isDone 4 = .ok (.aload_n 0, 1) := by decide +kernel
theorem dX2_isDone_5 : decode cX2_isDone 5 = .ok (.getfield 12, 3) := by decide +kernel
theorem dX2_isDone_8 : decode cX2_isDone 8 = .ok (.invokevirtual 39, 3) := by decide +kernel
theorem dX2_isDone_11 : decode cX2_isDone 11 = .ok (.if_icmp .lt 7, 3) := by decide +kernel
theorem dX2_isDone_14 : decode cX2_isDone 14 = .ok (.iconst 1, 1) := by decide +kernel
theorem dX2_isDone_15 : decode cX2_isDone 15 = .ok (.goto 4, 3) := by decide +kernel
theorem dX2_isDone_18 : decode cX2_isDone 18 = .ok (.iconst 0, 1) := by decide +kernel
theorem dX2_isDone_19 : decode cX2_isDone 19 = .ok (.ireturn, 1) := by decide +kernel
theorem dX2_advance_0 : decode cX2_advance 0 = .ok (.aload_n 0, 1) := by decide +kernel
theorem dX2_advance_1 : decode cX2_advance 1 = .ok (.getfield 33, 3) := by decide +kernel
theorem dX2_advance_4 : decode cX2_advance 4 = .ok (.istore_n 2, 1) := by decide +kernel
theorem dX2_advance_5 : decode cX2_advance 5 = .ok (.iconst 0, 1) := by decide +kernel
theorem dX2_advance_6 : decode cX2_advance 6 = .ok (.istore_n 3, 1) := by decide +kernel
theorem dX2_advance_7 : decode cX2_advance 7 = .ok (.iload_n 3, 1) := by decide +kernel
theorem dX2_advance_8 : decode cX2_advance 8 = .ok (.iload_n 1, 1) := by decide +kernel
theorem dX2_advance_9 : decode cX2_advance 9 = .ok (.if_icmp .ge 58, 3) := by decide +kernel
theorem dX2_advance_12 : decode cX2_advance 12 = .ok (.aload_n 0, 1) := by decide +kernel
theorem dX2_advance_13 : decode cX2_advance 13 = .ok (.invokevirtual 43, 3) := by decide +kernel
theorem dX2_advance_16 : decode cX2_advance 16 = .ok (.ifCond .ne 51, 3) := by decide +kernel
theorem dX2_advance_19 : decode cX2_advance 19 = .ok (.aload_n 0, 1) := by decide +kernel
theorem dX2_advance_20 : decode cX2_advance 20 = .ok (.getfield 12, 3) := by decide +kernel
theorem dX2_advance_23 : decode cX2_advance 23 = .ok (.aload_n 0, 1) := by decide +kernel
theorem dX2_advance_24 : decode cX2_advance 24 = .ok (.getfield 30, 3) := by decide +kernel
theorem dX2_advance_27 : decode cX2_advance 27 = .ok (.invokevirtual 47, 3) := by decide +kernel
theorem dX2_advance_30 : decode cX2_advance 30 = .ok (.ifCond .eq 21, 3) := by decide +kernel
theorem dX2_advance_33 : decode cX2_advance 33 = .ok (.aload_n 0, 1) := by decide +kernel
theorem dX2_advance_34 : decode cX2_advance 34 = .ok (.dup, 1) := by decide +kernel
theorem dX2_advance_35 : decode cX2_advance 35 = .ok (.getfield 33, 3) := by decide +kernel
theorem dX2_advance_38 : decode cX2_advance 38 = .ok (.iconst 1, 1) := by decide +kernel
theorem dX2_advance_39 : decode cX2_advance 39 = .ok (.iadd, 1) := by decide +kernel
theorem dX2_advance_40 : decode cX2_advance 40 = .ok (.putfield 33, 3) := by decide +kernel
theorem dX2_advance_43 : decode cX2_advance 43 = .ok (.aload_n 0, 1) := by decide +kernel
theorem dX2_advance_44 : decode cX2_advance 44 = .ok (.aload_n 0, 1) := by decide +kernel
theorem dX2_advance_45 : decode cX2_advance 45 = .ok (.getfield 30, 3) := by decide +kernel
theorem dX2_advance_48 : decode cX2_advance 48 = .ok (.putfield 36, 3) := by decide +kernel
theorem dX2_advance_51 : decode cX2_advance 51 = .ok (.aload_n 0, 1) := by decide +kernel
theorem dX2_advance_52 : decode cX2_advance 52 = .ok (.dup, 1) := by decide +kernel
theorem dX2_advance_53 : decode cX2_advance 53 = .ok (.getfield 30, 3) := by decide +kernel
theorem dX2_advance_56 : decode cX2_advance 56 = .ok (.iconst 1, 1) := by decide +kernel
theorem dX2_advance_57 : decode cX2_advance 57 = .ok (.iadd, 1) := by decide +kernel
theorem dX2_advance_58 : decode cX2_advance 58 = .ok (.putfield 30, 3) := by decide +kernel
theorem dX2_advance_61 : decode cX2_advance 61 = .ok (.iinc 3 1, 3) := by decide +kernel
theorem dX2_advance_64 : decode cX2_advance 64 = .ok (.goto (-57), 3) := by decide +kernel
theorem dX2_advance_67 : decode cX2_advance 67 = .ok (.aload_n 0, 1) := by decide +kernel
theorem dX2_advance_68 : decode cX2_advance 68 = .ok (.getfield 33, 3) := by decide +kernel
theorem dX2_advance_71 : decode cX2_advance 71 = .ok (.iload_n 2, 1) := by decide +kernel
theorem dX2_advance_72 : decode cX2_advance 72 = .ok (.isub, 1) := by decide +kernel
theorem dX2_advance_73 : decode cX2_advance 73 = .ok (.ireturn, 1) := by decide +kernel
theorem dX3_init_0 : decode cX3_init 0 = .ok (.aload_n 0, 1) := by decide +kernel
theorem dX3_init_1 : decode cX3_init 1 = .ok (.invokespecial 3, 3) := by decide +kernel
theorem dX3_init_4 : decode cX3_init 4 = .ok (.aload_n 0, 1) := by decide +kernel
theorem dX3_init_5 : decode cX3_init 5 = .ok (.bipush 40, 2) := by decide +kernel
theorem dX3_init_7 : decode cX3_init 7 = .ok (.newarray .long, 2) := by decide +kernel
theorem dX3_init_9 : decode cX3_init 9 = .ok (.putfield 9, 3) := by decide +kernel
theorem dX3_init_12 : decode cX3_init 12 = .ok (.aload_n 0, 1) := by decide +kernel
theorem dX3_init_13 : decode cX3_init 13 = .ok (.iconst (-1), 1) := by decide +kernel
theorem dX3_init_14 : decode cX3_init 14 = .ok (.putfield 15, 3) := by decide +kernel
theorem dX3_init_17 : decode cX3_init 17 = .ok (.return_, 1) := by decide +kernel
theorem dX3_isRow_0 : decode cX3_isRow 0 = .ok (.aload_n 0, 1) := by decide +kernel
theorem dX3_isRow_1 : decode cX3_isRow 1 = .ok (.getfield 15, 3) := by decide +kernel
theorem dX3_isRow_4 : decode cX3_isRow 4 = .ok (.ifCond .lt 15, 3) := by decide +kernel
theorem dX3_isRow_7 : decode cX3_isRow 7 = .ok (.aload_n 0, 1) := by decide +kernel
theorem dX3_isRow_8 : decode cX3_isRow 8 = .ok (.getfield 15, 3) := by decide +kernel
theorem dX3_isRow_11 : decode cX3_isRow 11 = .ok (.iconst 4, 1) := by decide +kernel
theorem dX3_isRow_12 : decode cX3_isRow 12 = .ok (.if_icmp .gt 7, 3) := by decide +kernel
theorem dX3_isRow_15 : decode cX3_isRow 15 = .ok (.iconst 1, 1) := by decide +kernel
theorem dX3_isRow_16 : decode cX3_isRow 16 = .ok (.goto 4, 3) := by decide +kernel
theorem dX3_isRow_19 : decode cX3_isRow 19 = .ok (.iconst 0, 1) := by decide +kernel
theorem dX3_isRow_20 : decode cX3_isRow 20 = .ok (.ireturn, 1) := by decide +kernel
theorem dX3_isWay_0 : decode cX3_isWay 0 = .ok (.aload_n 0, 1) := by decide +kernel
theorem dX3_isWay_1 : decode cX3_isWay 1 = .ok (.getfield 15, 3) := by decide +kernel
theorem dX3_isWay_4 : decode cX3_isWay 4 = .ok (.bipush 10, 2) := by decide +kernel
theorem dX3_isWay_6 : decode cX3_isWay 6 = .ok (.if_icmp .lt 7, 3) := by decide +kernel
theorem dX3_isWay_9 : decode cX3_isWay 9 = .ok (.iconst 1, 1) := by decide +kernel
theorem dX3_isWay_10 : decode cX3_isWay 10 = .ok (.goto 4, 3) := by decide +kernel
theorem dX3_isWay_13 : decode cX3_isWay 13 = .ok (.iconst 0, 1) := by decide +kernel
theorem dX3_isWay_14 : decode cX3_isWay 14 = .ok (.ireturn, 1) := by decide +kernel
theorem dX3_wayKind_0 : decode cX3_wayKind 0 = .ok (.aload_n 0, 1) := by decide +kernel
theorem dX3_wayKind_1 : decode cX3_wayKind 1 = .ok (.getfield 15, 3) := by decide +kernel
theorem dX3_wayKind_4 : decode cX3_wayKind 4 = .ok (.bipush 10, 2) := by decide +kernel
theorem dX3_wayKind_6 : decode cX3_wayKind 6 = .ok (.isub, 1) := by decide +kernel
theorem dX3_wayKind_7 : decode cX3_wayKind 7 = .ok (.ireturn, 1) := by decide +kernel
theorem dX3_putRow_0 : decode cX3_putRow 0 = .ok (.aload_n 0, 1) := by decide +kernel
theorem dX3_putRow_1 : decode cX3_putRow 1 = .ok (.iload_n 1, 1) := by decide +kernel
theorem dX3_putRow_2 : decode cX3_putRow 2 = .ok (.putfield 15, 3) := by decide +kernel
theorem dX3_putRow_5 : decode cX3_putRow 5 = .ok (.aload_n 0, 1) := by decide +kernel
theorem dX3_putRow_6 : decode cX3_putRow 6 = .ok (.iload_n 2, 1) := by decide +kernel
theorem dX3_putRow_7 : decode cX3_putRow 7 = .ok (.putfield 19, 3) := by decide +kernel
theorem dX3_putRow_10 : decode cX3_putRow 10 = .ok (.aload_n 0, 1) := by decide +kernel
theorem dX3_putRow_11 : decode cX3_putRow 11 = .ok (.getfield 9, 3) := by decide +kernel
theorem dX3_putRow_14 : decode cX3_putRow 14 = .ok (.lconst 0, 1) := by decide +kernel
theorem dX3_putRow_15 : decode cX3_putRow 15 = .ok (.invokestatic 22, 3) := by decide +kernel
theorem dX3_putRow_18 : decode cX3_putRow 18 = .ok (.return_, 1) := by decide +kernel
theorem dX3_putWay_0 : decode cX3_putWay 0 = .ok (.aload_n 0, 1) := by decide +kernel
theorem dX3_putWay_1 : decode cX3_putWay 1 = .ok (.bipush 10, 2) := by decide +kernel
theorem dX3_putWay_3 : decode cX3_putWay 3 = .ok (.iload_n 1, 1) := by decide +kernel
theorem dX3_putWay_4 : decode cX3_putWay 4 = .ok (.iadd, 1) := by decide +kernel
theorem dX3_putWay_5 : decode cX3_putWay 5 = .ok (.putfield 15, 3) := by decide +kernel
theorem dX3_putWay_8 : decode cX3_putWay 8 = .ok (.aload_n 0, 1) := by decide +kernel
theorem dX3_putWay_9 : decode cX3_putWay 9 = .ok (.iconst 0, 1) := by decide +kernel
theorem dX3_putWay_10 : decode cX3_putWay 10 = .ok (.putfield 19, 3) := by decide +kernel
theorem dX3_putWay_13 : decode cX3_putWay 13 = .ok (.aload_n 0, 1) := by decide +kernel
theorem dX3_putWay_14 : decode cX3_putWay 14 = .ok (.iload_n 2, 1) := by decide +kernel
theorem dX3_putWay_15 : decode cX3_putWay 15 = .ok (.putfield 28, 3) := by decide +kernel
theorem dX3_putWay_18 : decode cX3_putWay 18 = .ok (.return_, 1) := by decide +kernel
theorem dX3_hasPlaces_0 : decode cX3_hasPlaces 0 = .ok (.iload_n 1, 1) := by decide +kernel
theorem dX3_hasPlaces_1 : decode cX3_hasPlaces 1 = .ok (.ifCond .lt 29, 3) := by decide +kernel
theorem dX3_hasPlaces_4 : decode cX3_hasPlaces 4 = .ok (.iload_n 2, 1) := by decide +kernel
theorem dX3_hasPlaces_5 : decode cX3_hasPlaces 5 = .ok (.ifCond .lt 25, 3) := by decide +kernel
theorem dX3_hasPlaces_8 : decode cX3_hasPlaces 8 = .ok (.iload_n 1, 1) := by decide +kernel
theorem dX3_hasPlaces_9 : decode cX3_hasPlaces 9 = .ok (.aload_n 0, 1) := by decide +kernel
theorem dX3_hasPlaces_10 : decode cX3_hasPlaces 10 = .ok (.getfield 19, 3) := by decide +kernel
theorem dX3_hasPlaces_13 : decode cX3_hasPlaces 13 = .ok (.if_icmp .gt 17, 3) := by decide +kernel
theorem dX3_hasPlaces_16 : decode cX3_hasPlaces 16 = .ok (.iload_n 2, 1) := by decide +kernel
theorem dX3_hasPlaces_17 : decode cX3_hasPlaces 17 = .ok (.aload_n 0, 1) := by decide +kernel
theorem dX3_hasPlaces_18 : decode cX3_hasPlaces 18 = .ok (.getfield 19, 3) := by decide +kernel
theorem dX3_hasPlaces_21 : decode cX3_hasPlaces 21 = .ok (.iload_n 1, 1) := by decide +kernel
theorem dX3_hasPlaces_22 : decode cX3_hasPlaces 22 = .ok (.isub, 1) := by decide +kernel
theorem dX3_hasPlaces_23 : decode cX3_hasPlaces 23 = .ok (.if_icmp .gt 7, 3) := by decide +kernel
theorem dX3_hasPlaces_26 : decode cX3_hasPlaces 26 = .ok (.iconst 1, 1) := by decide +kernel
theorem dX3_hasPlaces_27 : decode cX3_hasPlaces 27 = .ok (.goto 4, 3) := by decide +kernel
theorem dX3_hasPlaces_30 : decode cX3_hasPlaces 30 = .ok (.iconst 0, 1) := by decide +kernel
theorem dX3_hasPlaces_31 : decode cX3_hasPlaces 31 = .ok (.ireturn, 1) := by decide +kernel
theorem dX3_put_0 : decode cX3_put 0 = .ok (.iload_n 1, 1) := by decide +kernel
theorem dX3_put_1 : decode cX3_put 1 = .ok (.ifCond .lt 9, 3) := by decide +kernel
theorem dX3_put_4 : decode cX3_put 4 = .ok (.iload_n 1, 1) := by decide +kernel
theorem dX3_put_5 : decode cX3_put 5 = .ok (.bipush 40, 2) := by decide +kernel
theorem dX3_put_7 : decode cX3_put 7 = .ok (.if_icmp .lt 4, 3) := by decide +kernel
theorem dX3_put_10 : decode cX3_put 10 = .ok (.return_, 1) := by decide +kernel
theorem dX3_put_11 : decode cX3_put 11 = .ok (.aload_n 0, 1) := by decide +kernel
theorem dX3_put_12 : decode cX3_put 12 = .ok (.getfield 15, 3) := by decide +kernel
theorem dX3_put_15 : decode cX3_put 15 = .ok (.tableswitch 91 0 4 #[33, 46, 59, 91, 71], 33) := by decide +kernel
theorem dX3_put_48 : decode cX3_put 48 = .ok (.aload_n 0, 1) := by decide +kernel
theorem dX3_put_49 : decode cX3_put 49 = .ok (.getfield 9, 3) := by decide +kernel
theorem dX3_put_52 : decode cX3_put 52 = .ok (.iload_n 1, 1) := by decide +kernel
theorem dX3_put_53 : decode cX3_put 53 = .ok (.lload_n 2, 1) := by decide +kernel
theorem dX3_put_54 : decode cX3_put 54 = .ok (.l2i, 1) := by decide +kernel
theorem dX3_put_55 : decode cX3_put 55 = .ok (.i2b, 1) := by decide +kernel
theorem dX3_put_56 : decode cX3_put 56 = .ok (.i2l, 1) := by decide +kernel
theorem dX3_put_57 : decode cX3_put 57 = .ok (.lastore, 1) := by decide +kernel
theorem dX3_put_58 : decode cX3_put 58 = .ok (.goto 55, 3) := by decide +kernel
theorem dX3_put_61 : decode cX3_put 61 = .ok (.aload_n 0, 1) := by decide +kernel
theorem dX3_put_62 : decode cX3_put 62 = .ok (.getfield 9, 3) := by decide +kernel
theorem dX3_put_65 : decode cX3_put 65 = .ok (.iload_n 1, 1) := by decide +kernel
theorem dX3_put_66 : decode cX3_put 66 = .ok (.lload_n 2, 1) := by decide +kernel
theorem dX3_put_67 : decode cX3_put 67 = .ok (.l2i, 1) := by decide +kernel
theorem dX3_put_68 : decode cX3_put 68 = .ok (.i2s, 1) := by decide +kernel
theorem dX3_put_69 : decode cX3_put 69 = .ok (.i2l, 1) := by decide +kernel
theorem dX3_put_70 : decode cX3_put 70 = .ok (.lastore, 1) := by decide +kernel
theorem dX3_put_71 : decode cX3_put 71 = .ok (.goto 42, 3) := by decide +kernel
theorem dX3_put_74 : decode cX3_put 74 = .ok (.aload_n 0, 1) := by decide +kernel
theorem dX3_put_75 : decode cX3_put 75 = .ok (.getfield 9, 3) := by decide +kernel
theorem dX3_put_78 : decode cX3_put 78 = .ok (.iload_n 1, 1) := by decide +kernel
theorem dX3_put_79 : decode cX3_put 79 = .ok (.lload_n 2, 1) := by decide +kernel
theorem dX3_put_80 : decode cX3_put 80 = .ok (.l2i, 1) := by decide +kernel
theorem dX3_put_81 : decode cX3_put 81 = .ok (.i2l, 1) := by decide +kernel
theorem dX3_put_82 : decode cX3_put 82 = .ok (.lastore, 1) := by decide +kernel
theorem dX3_put_83 : decode cX3_put 83 = .ok (.goto 30, 3) := by decide +kernel
theorem dX3_put_86 : decode cX3_put 86 = .ok (.aload_n 0, 1) := by decide +kernel
theorem dX3_put_87 : decode cX3_put 87 = .ok (.getfield 9, 3) := by decide +kernel
theorem dX3_put_90 : decode cX3_put 90 = .ok (.iload_n 1, 1) := by decide +kernel
theorem dX3_put_91 : decode cX3_put 91 = .ok (.lload_n 2, 1) := by decide +kernel
theorem dX3_put_92 : decode cX3_put 92 = .ok (.lconst 0, 1) := by decide +kernel
theorem dX3_put_93 : decode cX3_put 93 = .ok (.lcmp, 1) := by decide +kernel
theorem dX3_put_94 : decode cX3_put 94 = .ok (.ifCond .eq 7, 3) := by decide +kernel
theorem dX3_put_97 : decode cX3_put 97 = .ok (.lconst 1, 1) := by decide +kernel
theorem dX3_put_98 : decode cX3_put 98 = .ok (.goto 4, 3) := by decide +kernel
theorem dX3_put_101 : decode cX3_put 101 = .ok (.lconst 0, 1) := by decide +kernel
theorem dX3_put_102 : decode cX3_put 102 = .ok (.lastore, 1) := by decide +kernel
theorem dX3_put_103 : decode cX3_put 103 = .ok (.goto 10, 3) := by decide +kernel
theorem dX3_put_106 : decode cX3_put 106 = .ok (.aload_n 0, 1) := by decide +kernel
theorem dX3_put_107 : decode cX3_put 107 = .ok (.getfield 9, 3) := by decide +kernel
theorem dX3_put_110 : decode cX3_put 110 = .ok (.iload_n 1, 1) := by decide +kernel
theorem dX3_put_111 : decode cX3_put 111 = .ok (.lload_n 2, 1) := by decide +kernel
theorem dX3_put_112 : decode cX3_put 112 = .ok (.lastore, 1) := by decide +kernel
theorem dX3_put_113 : decode cX3_put 113 = .ok (.return_, 1) := by decide +kernel
theorem dX3_told_0 : decode cX3_told 0 = .ok (.aload_n 0, 1) := by decide +kernel
theorem dX3_told_1 : decode cX3_told 1 = .ok (.invokevirtual 31, 3) := by decide +kernel
theorem dX3_told_4 : decode cX3_told 4 = .ok (.ifCond .eq 21, 3) := by decide +kernel
theorem dX3_told_7 : decode cX3_told 7 = .ok (.aload_n 0, 1) := by decide +kernel
theorem dX3_told_8 : decode cX3_told 8 = .ok (.iload_n 1, 1) := by decide +kernel
theorem dX3_told_9 : decode cX3_told 9 = .ok (.iconst 1, 1) := by decide +kernel
theorem dX3_told_10 : decode cX3_told 10 = .ok (.invokevirtual 35, 3) := by decide +kernel
theorem dX3_told_13 : decode cX3_told 13 = .ok (.ifCond .eq 12, 3) := by decide +kernel
theorem dX3_told_16 : decode cX3_told 16 = .ok (.aload_n 0, 1) := by decide +kernel
theorem dX3_told_17 : decode cX3_told 17 = .ok (.getfield 9, 3) := by decide +kernel
theorem dX3_told_20 : decode cX3_told 20 = .ok (.iload_n 1, 1) := by decide +kernel
theorem dX3_told_21 : decode cX3_told 21 = .ok (.laload, 1) := by decide +kernel
theorem dX3_told_22 : decode cX3_told 22 = .ok (.goto 4, 3) := by decide +kernel
theorem dX3_told_25 : decode cX3_told 25 = .ok (.lconst 0, 1) := by decide +kernel
theorem dX3_told_26 : decode cX3_told 26 = .ok (.lreturn, 1) := by decide +kernel
theorem dX3_toldSet_0 : decode cX3_toldSet 0 = .ok (.iconst 0, 1) := by decide +kernel
theorem dX3_toldSet_1 : decode cX3_toldSet 1 = .ok (.istore_n 1, 1) := by decide +kernel
theorem dX3_toldSet_2 : decode cX3_toldSet 2 = .ok (.iconst 0, 1) := by decide +kernel
theorem dX3_toldSet_3 : decode cX3_toldSet 3 = .ok (.istore_n 2, 1) := by decide +kernel
theorem dX3_toldSet_4 : decode cX3_toldSet 4 = .ok (.iload_n 2, 1) := by decide +kernel
theorem dX3_toldSet_5 : decode cX3_toldSet 5 = .ok (.bipush 12, 2) := by decide +kernel
theorem dX3_toldSet_7 : decode cX3_toldSet 7 = .ok (.if_icmp .ge 25, 3) := by decide +kernel
theorem dX3_toldSet_10 : decode cX3_toldSet 10 = .ok (.aload_n 0, 1) := by decide +kernel
theorem dX3_toldSet_11 : decode cX3_toldSet 11 = .ok (.iload_n 2, 1) := by decide +kernel
theorem dX3_toldSet_12 : decode cX3_toldSet 12 = .ok (.invokevirtual 39, 3) := by decide +kernel
theorem dX3_toldSet_15 : decode cX3_toldSet 15 = .ok (.lconst 0, 1) := by decide +kernel
theorem dX3_toldSet_16 : decode cX3_toldSet 16 = .ok (.lcmp, 1) := by decide +kernel
theorem dX3_toldSet_17 : decode cX3_toldSet 17 = .ok (.ifCond .eq 9, 3) := by decide +kernel
theorem dX3_toldSet_20 : decode cX3_toldSet 20 = .ok (.iload_n 1, 1) := by decide +kernel
theorem dX3_toldSet_21 : decode cX3_toldSet 21 = .ok (.iconst 1, 1) := by decide +kernel
theorem dX3_toldSet_22 : decode cX3_toldSet 22 = .ok (.iload_n 2, 1) := by decide +kernel
theorem dX3_toldSet_23 : decode cX3_toldSet 23 = .ok (.ishl, 1) := by decide +kernel
theorem dX3_toldSet_24 : decode cX3_toldSet 24 = .ok (.ior, 1) := by decide +kernel
theorem dX3_toldSet_25 : decode cX3_toldSet 25 = .ok (.istore_n 1, 1) := by decide +kernel
theorem dX3_toldSet_26 : decode cX3_toldSet 26 = .ok (.iinc 2 1, 3) := by decide +kernel
theorem dX3_toldSet_29 : decode cX3_toldSet 29 = .ok (.goto (-25), 3) := by decide +kernel
theorem dX3_toldSet_32 : decode cX3_toldSet 32 = .ok (.iload_n 1, 1) := by decide +kernel
theorem dX3_toldSet_33 : decode cX3_toldSet 33 = .ok (.ireturn, 1) := by decide +kernel
theorem dX4_init_0 : decode cX4_init 0 = .ok (.aload_n 0, 1) := by decide +kernel
theorem dX4_init_1 : decode cX4_init 1 = .ok (.invokespecial 3, 3) := by decide +kernel
theorem dX4_init_4 : decode cX4_init 4 = .ok (.aload_n 0, 1) := by decide +kernel
theorem dX4_init_5 : decode cX4_init 5 = .ok (.bipush 12, 2) := by decide +kernel
theorem dX4_init_7 : decode cX4_init 7 = .ok (.newarray .int, 2) := by decide +kernel
theorem dX4_init_9 : decode cX4_init 9 = .ok (.putfield 9, 3) := by decide +kernel
theorem dX4_init_12 : decode cX4_init 12 = .ok (.aload_n 0, 1) := by decide +kernel
theorem dX4_init_13 : decode cX4_init 13 = .ok (.bipush 12, 2) := by decide +kernel
theorem dX4_init_15 : decode cX4_init 15 = .ok (.newarray .int, 2) := by decide +kernel
theorem dX4_init_17 : decode cX4_init 17 = .ok (.putfield 15, 3) := by decide +kernel
theorem dX4_init_20 : decode cX4_init 20 = .ok (.aload_n 0, 1) := by decide +kernel
theorem dX4_init_21 : decode cX4_init 21 = .ok (.bipush 12, 2) := by decide +kernel
theorem dX4_init_23 : decode cX4_init 23 = .ok (.newarray .int, 2) := by decide +kernel
theorem dX4_init_25 : decode cX4_init 25 = .ok (.putfield 18, 3) := by decide +kernel
theorem dX4_init_28 : decode cX4_init 28 = .ok (.aload_n 0, 1) := by decide +kernel
theorem dX4_init_29 : decode cX4_init 29 = .ok (.bipush 12, 2) := by decide +kernel
theorem dX4_init_31 : decode cX4_init 31 = .ok (.newarray .int, 2) := by decide +kernel
theorem dX4_init_33 : decode cX4_init 33 = .ok (.putfield 21, 3) := by decide +kernel
theorem dX4_init_36 : decode cX4_init 36 = .ok (.aload_n 0, 1) := by decide +kernel
theorem dX4_init_37 : decode cX4_init 37 = .ok (.bipush 12, 2) := by decide +kernel
theorem dX4_init_39 : decode cX4_init 39 = .ok (.newarray .int, 2) := by decide +kernel
theorem dX4_init_41 : decode cX4_init 41 = .ok (.putfield 24, 3) := by decide +kernel
theorem dX4_init_44 : decode cX4_init 44 = .ok (.aload_n 0, 1) := by decide +kernel
theorem dX4_init_45 : decode cX4_init 45 = .ok (.sipush 144, 3) := by decide +kernel
theorem dX4_init_48 : decode cX4_init 48 = .ok (.newarray .int, 2) := by decide +kernel
theorem dX4_init_50 : decode cX4_init 50 = .ok (.putfield 27, 3) := by decide +kernel
theorem dX4_init_53 : decode cX4_init 53 = .ok (.aload_n 0, 1) := by decide +kernel
theorem dX4_init_54 : decode cX4_init 54 = .ok (.bipush 12, 2) := by decide +kernel
theorem dX4_init_56 : decode cX4_init 56 = .ok (.newarray .int, 2) := by decide +kernel
theorem dX4_init_58 : decode cX4_init 58 = .ok (.putfield 30, 3) := by decide +kernel
theorem dX4_init_61 : decode cX4_init 61 = .ok (.return_, 1) := by decide +kernel
theorem dX4_clear_0 : decode cX4_clear 0 = .ok (.aload_n 0, 1) := by decide +kernel
theorem dX4_clear_1 : decode cX4_clear 1 = .ok (.iload_n 1, 1) := by decide +kernel
theorem dX4_clear_2 : decode cX4_clear 2 = .ok (.putfield 33, 3) := by decide +kernel
theorem dX4_clear_5 : decode cX4_clear 5 = .ok (.aload_n 0, 1) := by decide +kernel
theorem dX4_clear_6 : decode cX4_clear 6 = .ok (.iconst 0, 1) := by decide +kernel
theorem dX4_clear_7 : decode cX4_clear 7 = .ok (.putfield 37, 3) := by decide +kernel
theorem dX4_clear_10 : decode cX4_clear 10 = .ok (.aload_n 0, 1) := by decide +kernel
theorem dX4_clear_11 : decode cX4_clear 11 = .ok (.iconst 0, 1) := by decide +kernel
theorem dX4_clear_12 : decode cX4_clear 12 = .ok (.putfield 40, 3) := by decide +kernel
theorem dX4_clear_15 : decode cX4_clear 15 = .ok (.aload_n 0, 1) := by decide +kernel
theorem dX4_clear_16 : decode cX4_clear 16 = .ok (.getfield 9, 3) := by decide +kernel
theorem dX4_clear_19 : decode cX4_clear 19 = .ok (.iconst 0, 1) := by decide +kernel
theorem dX4_clear_20 : decode cX4_clear 20 = .ok (.invokestatic 43, 3) := by decide +kernel
theorem dX4_clear_23 : decode cX4_clear 23 = .ok (.aload_n 0, 1) := by decide +kernel
theorem dX4_clear_24 : decode cX4_clear 24 = .ok (.getfield 15, 3) := by decide +kernel
theorem dX4_clear_27 : decode cX4_clear 27 = .ok (.iconst 0, 1) := by decide +kernel
theorem dX4_clear_28 : decode cX4_clear 28 = .ok (.invokestatic 43, 3) := by decide +kernel
theorem dX4_clear_31 : decode cX4_clear 31 = .ok (.aload_n 0, 1) := by decide +kernel
theorem dX4_clear_32 : decode cX4_clear 32 = .ok (.getfield 18, 3) := by decide +kernel
theorem dX4_clear_35 : decode cX4_clear 35 = .ok (.iconst 0, 1) := by decide +kernel
theorem dX4_clear_36 : decode cX4_clear 36 = .ok (.invokestatic 43, 3) := by decide +kernel
theorem dX4_clear_39 : decode cX4_clear 39 = .ok (.aload_n 0, 1) := by decide +kernel
theorem dX4_clear_40 : decode cX4_clear 40 = .ok (.getfield 21, 3) := by decide +kernel
theorem dX4_clear_43 : decode cX4_clear 43 = .ok (.iconst (-1), 1) := by decide +kernel
theorem dX4_clear_44 : decode cX4_clear 44 = .ok (.invokestatic 43, 3) := by decide +kernel
theorem dX4_clear_47 : decode cX4_clear 47 = .ok (.aload_n 0, 1) := by decide +kernel
theorem dX4_clear_48 : decode cX4_clear 48 = .ok (.getfield 24, 3) := by decide +kernel
theorem dX4_clear_51 : decode cX4_clear 51 = .ok (.iconst 0, 1) := by decide +kernel
theorem dX4_clear_52 : decode cX4_clear 52 = .ok (.invokestatic 43, 3) := by decide +kernel
theorem dX4_clear_55 : decode cX4_clear 55 = .ok (.aload_n 0, 1) := by decide +kernel
theorem dX4_clear_56 : decode cX4_clear 56 = .ok (.getfield 27, 3) := by decide +kernel
theorem dX4_clear_59 : decode cX4_clear 59 = .ok (.iconst 0, 1) := by decide +kernel
theorem dX4_clear_60 : decode cX4_clear 60 = .ok (.invokestatic 43, 3) := by decide +kernel
theorem dX4_clear_63 : decode cX4_clear 63 = .ok (.aload_n 0, 1) := by decide +kernel
theorem dX4_clear_64 : decode cX4_clear 64 = .ok (.getfield 30, 3) := by decide +kernel
theorem dX4_clear_67 : decode cX4_clear 67 = .ok (.iconst 0, 1) := by decide +kernel
theorem dX4_clear_68 : decode cX4_clear 68 = .ok (.invokestatic 43, 3) := by decide +kernel
theorem dX4_clear_71 : decode cX4_clear 71 = .ok (.return_, 1) := by decide +kernel
theorem dX4_become_0 : decode cX4_become 0 = .ok (.aload_n 0, 1) := by decide +kernel
theorem dX4_become_1 : decode cX4_become 1 = .ok (.aload_n 1, 1) := by decide +kernel
theorem dX4_become_2 : decode cX4_become 2 = .ok (.getfield 33, 3) := by decide +kernel
theorem dX4_become_5 : decode cX4_become 5 = .ok (.putfield 33, 3) := by decide +kernel
theorem dX4_become_8 : decode cX4_become 8 = .ok (.aload_n 0, 1) := by decide +kernel
theorem dX4_become_9 : decode cX4_become 9 = .ok (.aload_n 1, 1) := by decide +kernel
theorem dX4_become_10 : decode cX4_become 10 = .ok (.getfield 37, 3) := by decide +kernel
theorem dX4_become_13 : decode cX4_become 13 = .ok (.putfield 37, 3) := by decide +kernel
theorem dX4_become_16 : decode cX4_become 16 = .ok (.aload_n 0, 1) := by decide +kernel
theorem dX4_become_17 : decode cX4_become 17 = .ok (.aload_n 1, 1) := by decide +kernel
theorem dX4_become_18 : decode cX4_become 18 = .ok (.getfield 40, 3) := by decide +kernel
theorem dX4_become_21 : decode cX4_become 21 = .ok (.putfield 40, 3) := by decide +kernel
theorem dX4_become_24 : decode cX4_become 24 = .ok (.aload_n 1, 1) := by decide +kernel
theorem dX4_become_25 : decode cX4_become 25 = .ok (.getfield 9, 3) := by decide +kernel
theorem dX4_become_28 : decode cX4_become 28 = .ok (.iconst 0, 1) := by decide +kernel
theorem dX4_become_29 : decode cX4_become 29 = .ok (.aload_n 0, 1) := by decide +kernel
theorem dX4_become_30 : decode cX4_become 30 = .ok (.getfield 9, 3) := by decide +kernel
theorem dX4_become_33 : decode cX4_become 33 = .ok (.iconst 0, 1) := by decide +kernel
theorem dX4_become_34 : decode cX4_become 34 = .ok (.bipush 12, 2) := by decide +kernel
theorem dX4_become_36 : decode cX4_become 36 = .ok (.invokestatic 49, 3) := by decide +kernel
theorem dX4_become_39 : decode cX4_become 39 = .ok (.aload_n 1, 1) := by decide +kernel
theorem dX4_become_40 : decode cX4_become 40 = .ok (.getfield 15, 3) := by decide +kernel
theorem dX4_become_43 : decode cX4_become 43 = .ok (.iconst 0, 1) := by decide +kernel
theorem dX4_become_44 : decode cX4_become 44 = .ok (.aload_n 0, 1) := by decide +kernel
theorem dX4_become_45 : decode cX4_become 45 = .ok (.getfield 15, 3) := by decide +kernel
theorem dX4_become_48 : decode cX4_become 48 = .ok (.iconst 0, 1) := by decide +kernel
theorem dX4_become_49 : decode cX4_become 49 = .ok (.bipush 12, 2) := by decide +kernel
theorem dX4_become_51 : decode cX4_become 51 = .ok (.invokestatic 49, 3) := by decide +kernel
theorem dX4_become_54 : decode cX4_become 54 = .ok (.aload_n 1, 1) := by decide +kernel
theorem dX4_become_55 : decode cX4_become 55 = .ok (.getfield 18, 3) := by decide +kernel
theorem dX4_become_58 : decode cX4_become 58 = .ok (.iconst 0, 1) := by decide +kernel
theorem dX4_become_59 : decode cX4_become 59 = .ok (.aload_n 0, 1) := by decide +kernel
theorem dX4_become_60 : decode cX4_become 60 = .ok (.getfield 18, 3) := by decide +kernel
theorem dX4_become_63 : decode cX4_become 63 = .ok (.iconst 0, 1) := by decide +kernel
theorem dX4_become_64 : decode cX4_become 64 = .ok (.bipush 12, 2) := by decide +kernel
theorem dX4_become_66 : decode cX4_become 66 = .ok (.invokestatic 49, 3) := by decide +kernel
theorem dX4_become_69 : decode cX4_become 69 = .ok (.aload_n 1, 1) := by decide +kernel
theorem dX4_become_70 : decode cX4_become 70 = .ok (.getfield 21, 3) := by decide +kernel
theorem dX4_become_73 : decode cX4_become 73 = .ok (.iconst 0, 1) := by decide +kernel
theorem dX4_become_74 : decode cX4_become 74 = .ok (.aload_n 0, 1) := by decide +kernel
theorem dX4_become_75 : decode cX4_become 75 = .ok (.getfield 21, 3) := by decide +kernel
theorem dX4_become_78 : decode cX4_become 78 = .ok (.iconst 0, 1) := by decide +kernel
theorem dX4_become_79 : decode cX4_become 79 = .ok (.bipush 12, 2) := by decide +kernel
theorem dX4_become_81 : decode cX4_become 81 = .ok (.invokestatic 49, 3) := by decide +kernel
theorem dX4_become_84 : decode cX4_become 84 = .ok (.aload_n 1, 1) := by decide +kernel
theorem dX4_become_85 : decode cX4_become 85 = .ok (.getfield 24, 3) := by decide +kernel
theorem dX4_become_88 : decode cX4_become 88 = .ok (.iconst 0, 1) := by decide +kernel
theorem dX4_become_89 : decode cX4_become 89 = .ok (.aload_n 0, 1) := by decide +kernel
theorem dX4_become_90 : decode cX4_become 90 = .ok (.getfield 24, 3) := by decide +kernel
theorem dX4_become_93 : decode cX4_become 93 = .ok (.iconst 0, 1) := by decide +kernel
theorem dX4_become_94 : decode cX4_become 94 = .ok (.bipush 12, 2) := by decide +kernel
theorem dX4_become_96 : decode cX4_become 96 = .ok (.invokestatic 49, 3) := by decide +kernel
theorem dX4_become_99 : decode cX4_become 99 = .ok (.aload_n 1, 1) := by decide +kernel
theorem dX4_become_100 : decode cX4_become 100 = .ok (.getfield 27, 3) := by decide +kernel
theorem dX4_become_103 : decode cX4_become 103 = .ok (.iconst 0, 1) := by decide +kernel
theorem dX4_become_104 : decode cX4_become 104 = .ok (.aload_n 0, 1) := by decide +kernel
theorem dX4_become_105 : decode cX4_become 105 = .ok (.getfield 27, 3) := by decide +kernel
theorem dX4_become_108 : decode cX4_become 108 = .ok (.iconst 0, 1) := by decide +kernel
theorem dX4_become_109 : decode cX4_become 109 = .ok (.sipush 144, 3) := by decide +kernel
theorem dX4_become_112 : decode cX4_become 112 = .ok (.invokestatic 49, 3) := by decide +kernel
theorem dX4_become_115 : decode cX4_become 115 = .ok (.aload_n 1, 1) := by decide +kernel
theorem dX4_become_116 : decode cX4_become 116 = .ok (.getfield 30, 3) := by decide +kernel
theorem dX4_become_119 : decode cX4_become 119 = .ok (.iconst 0, 1) := by decide +kernel
theorem dX4_become_120 : decode cX4_become 120 = .ok (.aload_n 0, 1) := by decide +kernel
theorem dX4_become_121 : decode cX4_become 121 = .ok (.getfield 30, 3) := by decide +kernel
theorem dX4_become_124 : decode cX4_become 124 = .ok (.iconst 0, 1) := by decide +kernel
theorem dX4_become_125 : decode cX4_become 125 = .ok (.bipush 12, 2) := by decide +kernel
theorem dX4_become_127 : decode cX4_become 127 = .ok (.invokestatic 49, 3) := by decide +kernel
theorem dX4_become_130 : decode cX4_become 130 = .ok (.return_, 1) := by decide +kernel
theorem dX4_hasPerson_0 : decode cX4_hasPerson 0 = .ok (.iload_n 1, 1) := by decide +kernel
theorem dX4_hasPerson_1 : decode cX4_hasPerson 1 = .ok (.ifCond .lt 21, 3) := by decide +kernel
theorem dX4_hasPerson_4 : decode cX4_hasPerson 4 = .ok (.iload_n 1, 1) := by decide +kernel
theorem dX4_hasPerson_5 : decode cX4_hasPerson 5 = .ok (.aload_n 0, 1) := by decide +kernel
theorem dX4_hasPerson_6 : decode cX4_hasPerson 6 = .ok (.getfield 33, 3) := by decide +kernel
theorem dX4_hasPerson_9 : decode cX4_hasPerson 9 = .ok (.if_icmp .ge 13, 3) := by decide +kernel
theorem dX4_hasPerson_12 : decode cX4_hasPerson 12 = .ok (.iload_n 1, 1) := by decide +kernel
theorem dX4_hasPerson_13 : decode cX4_hasPerson 13 = .ok (.bipush 12, 2) := by decide +kernel
theorem dX4_hasPerson_15 : decode cX4_hasPerson 15 = .ok (.if_icmp .ge 7, 3) := by decide +kernel
theorem dX4_hasPerson_18 : decode cX4_hasPerson 18 = .ok (.iconst 1, 1) := by decide +kernel
theorem dX4_hasPerson_19 : decode cX4_hasPerson 19 = .ok (.goto 4, 3) := by decide +kernel
theorem dX4_hasPerson_22 : decode cX4_hasPerson 22 = .ok (.iconst 0, 1) := by decide +kernel
theorem dX4_hasPerson_23 : decode cX4_hasPerson 23 = .ok (.ireturn, 1) := by decide +kernel
theorem dX4_hasPair_0 : decode cX4_hasPair 0 = .ok (.aload_n 0, 1) := by decide +kernel
theorem dX4_hasPair_1 : decode cX4_hasPair 1 = .ok (.iload_n 1, 1) := by decide +kernel
theorem dX4_hasPair_2 : decode cX4_hasPair 2 = .ok (.invokevirtual 55, 3) := by decide +kernel
theorem dX4_hasPair_5 : decode cX4_hasPair 5 = .ok (.ifCond .eq 20, 3) := by decide +kernel
theorem dX4_hasPair_8 : decode cX4_hasPair 8 = .ok (.aload_n 0, 1) := by decide +kernel
theorem dX4_hasPair_9 : decode cX4_hasPair 9 = .ok (.iload_n 2, 1) := by decide +kernel
theorem dX4_hasPair_10 : decode cX4_hasPair 10 = .ok (.invokevirtual 55, 3) := by decide +kernel
theorem dX4_hasPair_13 : decode cX4_hasPair 13 = .ok (.ifCond .eq 12, 3) := by decide +kernel
theorem dX4_hasPair_16 : decode cX4_hasPair 16 = .ok (.iload_n 1, 1) := by decide +kernel
theorem dX4_hasPair_17 : decode cX4_hasPair 17 = .ok (.iload_n 2, 1) := by decide +kernel
theorem dX4_hasPair_18 : decode cX4_hasPair 18 = .ok (.if_icmp .eq 7, 3) := by decide +kernel
theorem dX4_hasPair_21 : decode cX4_hasPair 21 = .ok (.iconst 1, 1) := by decide +kernel
theorem dX4_hasPair_22 : decode cX4_hasPair 22 = .ok (.goto 4, 3) := by decide +kernel
theorem dX4_hasPair_25 : decode cX4_hasPair 25 = .ok (.iconst 0, 1) := by decide +kernel
theorem dX4_hasPair_26 : decode cX4_hasPair 26 = .ok (.ireturn, 1) := by decide +kernel
theorem dX4_sets_0 : decode cX4_sets 0 = .ok (.iconst 1, 1) := by decide +kernel
theorem dX4_sets_1 : decode cX4_sets 1 = .ok (.aload_n 0, 1) := by decide +kernel
theorem dX4_sets_2 : decode cX4_sets 2 = .ok (.getfield 33, 3) := by decide +kernel
theorem dX4_sets_5 : decode cX4_sets 5 = .ok (.ishl, 1) := by decide +kernel
theorem dX4_sets_6 : decode cX4_sets 6 = .ok (.ireturn, 1) := by decide +kernel
theorem dX4_hasSet_0 : decode cX4_hasSet 0 = .ok (.iload_n 1, 1) := by decide +kernel
theorem dX4_hasSet_1 : decode cX4_hasSet 1 = .ok (.ifCond .lt 15, 3) := by decide +kernel
theorem dX4_hasSet_4 : decode cX4_hasSet 4 = .ok (.iload_n 1, 1) := by decide +kernel
theorem dX4_hasSet_5 : decode cX4_hasSet 5 = .ok (.aload_n 0, 1) := by decide +kernel
theorem dX4_hasSet_6 : decode cX4_hasSet 6 = .ok (.invokevirtual 59, 3) := by decide +kernel
theorem dX4_hasSet_9 : decode cX4_hasSet 9 = .ok (.if_icmp .ge 7, 3) := by decide +kernel
theorem dX4_hasSet_12 : decode cX4_hasSet 12 = .ok (.iconst 1, 1) := by decide +kernel
theorem dX4_hasSet_13 : decode cX4_hasSet 13 = .ok (.goto 4, 3) := by decide +kernel
theorem dX4_hasSet_16 : decode cX4_hasSet 16 = .ok (.iconst 0, 1) := by decide +kernel
theorem dX4_hasSet_17 : decode cX4_hasSet 17 = .ok (.ireturn, 1) := by decide +kernel
theorem dX4_hasMustsIn_0 : decode cX4_hasMustsIn 0 = .ok (.aload_n 0, 1) := by decide +kernel
theorem dX4_hasMustsIn_1 : decode cX4_hasMustsIn 1 = .ok (.getfield 40, 3) := by decide +kernel
theorem dX4_hasMustsIn_4 : decode cX4_hasMustsIn 4 = .ok (.iload_n 1, 1) := by decide +kernel
theorem dX4_hasMustsIn_5 : decode cX4_hasMustsIn 5 = .ok (.iconst (-1), 1) := by decide +kernel
theorem dX4_hasMustsIn_6 : decode cX4_hasMustsIn 6 = .ok (.ixor, 1) := by decide +kernel
theorem dX4_hasMustsIn_7 : decode cX4_hasMustsIn 7 = .ok (.iand, 1) := by decide +kernel
theorem dX4_hasMustsIn_8 : decode cX4_hasMustsIn 8 = .ok (.ifCond .ne 7, 3) := by decide +kernel
theorem dX4_hasMustsIn_11 : decode cX4_hasMustsIn 11 = .ok (.iconst 1, 1) := by decide +kernel
theorem dX4_hasMustsIn_12 : decode cX4_hasMustsIn 12 = .ok (.goto 4, 3) := by decide +kernel
theorem dX4_hasMustsIn_15 : decode cX4_hasMustsIn 15 = .ok (.iconst 0, 1) := by decide +kernel
theorem dX4_hasMustsIn_16 : decode cX4_hasMustsIn 16 = .ok (.ireturn, 1) := by decide +kernel
theorem dX4_isIn_0 : decode cX4_isIn 0 = .ok (.iload_n 1, 1) := by decide +kernel
theorem dX4_isIn_1 : decode cX4_isIn 1 = .ok (.iconst 1, 1) := by decide +kernel
theorem dX4_isIn_2 : decode cX4_isIn 2 = .ok (.iload_n 0, 1) := by decide +kernel
theorem dX4_isIn_3 : decode cX4_isIn 3 = .ok (.ishl, 1) := by decide +kernel
theorem dX4_isIn_4 : decode cX4_isIn 4 = .ok (.iand, 1) := by decide +kernel
theorem dX4_isIn_5 : decode cX4_isIn 5 = .ok (.ifCond .eq 7, 3) := by decide +kernel
theorem dX4_isIn_8 : decode cX4_isIn 8 = .ok (.iconst 1, 1) := by decide +kernel
theorem dX4_isIn_9 : decode cX4_isIn 9 = .ok (.goto 4, 3) := by decide +kernel
theorem dX4_isIn_12 : decode cX4_isIn 12 = .ok (.iconst 0, 1) := by decide +kernel
theorem dX4_isIn_13 : decode cX4_isIn 13 = .ok (.ireturn, 1) := by decide +kernel
theorem dX4_isMust_0 : decode cX4_isMust 0 = .ok (.iload_n 1, 1) := by decide +kernel
theorem dX4_isMust_1 : decode cX4_isMust 1 = .ok (.aload_n 0, 1) := by decide +kernel
theorem dX4_isMust_2 : decode cX4_isMust 2 = .ok (.getfield 40, 3) := by decide +kernel
theorem dX4_isMust_5 : decode cX4_isMust 5 = .ok (.invokestatic 63, 3) := by decide +kernel
theorem dX4_isMust_8 : decode cX4_isMust 8 = .ok (.ireturn, 1) := by decide +kernel
theorem dX4_setMust_0 : decode cX4_setMust 0 = .ok (.iconst 1, 1) := by decide +kernel
theorem dX4_setMust_1 : decode cX4_setMust 1 = .ok (.iload_n 1, 1) := by decide +kernel
theorem dX4_setMust_2 : decode cX4_setMust 2 = .ok (.ishl, 1) := by decide +kernel
theorem dX4_setMust_3 : decode cX4_setMust 3 = .ok (.istore_n 3, 1) := by decide +kernel
theorem dX4_setMust_4 : decode cX4_setMust 4 = .ok (.aload_n 0, 1) := by decide +kernel
theorem dX4_setMust_5 : decode cX4_setMust 5 = .ok (.iload_n 2, 1) := by decide +kernel
theorem dX4_setMust_6 : decode cX4_setMust 6 = .ok (.ifCond .eq 12, 3) := by decide +kernel
theorem dX4_setMust_9 : decode cX4_setMust 9 = .ok (.aload_n 0, 1) := by decide +kernel
theorem dX4_setMust_10 : decode cX4_setMust 10 = .ok (.getfield 40, 3) := by decide +kernel
theorem dX4_setMust_13 : decode cX4_setMust 13 = .ok (.iload_n 3, 1) := by decide +kernel
theorem dX4_setMust_14 : decode cX4_setMust 14 = .ok (.ior, 1) := by decide +kernel
theorem dX4_setMust_15 : decode cX4_setMust 15 = .ok (.goto 11, 3) := by decide +kernel
theorem dX4_setMust_18 : decode cX4_setMust 18 = .ok (.aload_n 0, 1) := by decide +kernel
theorem dX4_setMust_19 : decode cX4_setMust 19 = .ok (.getfield 40, 3) := by decide +kernel
theorem dX4_setMust_22 : decode cX4_setMust 22 = .ok (.iload_n 3, 1) := by decide +kernel
theorem dX4_setMust_23 : decode cX4_setMust 23 = .ok (.iconst (-1), 1) := by decide +kernel
theorem dX4_setMust_24 : decode cX4_setMust 24 = .ok (.ixor, 1) := by decide +kernel
theorem dX4_setMust_25 : decode cX4_setMust 25 = .ok (.iand, 1) := by decide +kernel
theorem dX4_setMust_26 : decode cX4_setMust 26 = .ok (.putfield 40, 3) := by decide +kernel
theorem dX4_setMust_29 : decode cX4_setMust 29 = .ok (.return_, 1) := by decide +kernel
theorem dX4_value_0 : decode cX4_value 0 = .ok (.aload_n 0, 1) := by decide +kernel
theorem dX4_value_1 : decode cX4_value 1 = .ok (.iload_n 1, 1) := by decide +kernel
theorem dX4_value_2 : decode cX4_value 2 = .ok (.invokevirtual 55, 3) := by decide +kernel
theorem dX4_value_5 : decode cX4_value 5 = .ok (.ifCond .eq 17, 3) := by decide +kernel
theorem dX4_value_8 : decode cX4_value 8 = .ok (.aload_n 0, 1) := by decide +kernel
theorem dX4_value_9 : decode cX4_value 9 = .ok (.getfield 9, 3) := by decide +kernel
theorem dX4_value_12 : decode cX4_value 12 = .ok (.iload_n 1, 1) := by decide +kernel
theorem dX4_value_13 : decode cX4_value 13 = .ok (.iload_n 2, 1) := by decide +kernel
theorem dX4_value_14 : decode cX4_value 14 = .ok (.iastore, 1) := by decide +kernel
theorem dX4_value_15 : decode cX4_value 15 = .ok (.aload_n 0, 1) := by decide +kernel
theorem dX4_value_16 : decode cX4_value 16 = .ok (.getfield 15, 3) := by decide +kernel
theorem dX4_value_19 : decode cX4_value 19 = .ok (.iload_n 1, 1) := by decide +kernel
theorem dX4_value_20 : decode cX4_value 20 = .ok (.iload_n 3, 1) := by decide +kernel
theorem dX4_value_21 : decode cX4_value 21 = .ok (.iastore, 1) := by decide +kernel
theorem dX4_value_22 : decode cX4_value 22 = .ok (.return_, 1) := by decide +kernel
theorem dX4_giveWay_0 : decode cX4_giveWay 0 = .ok (.aload_n 0, 1) := by decide +kernel
theorem dX4_giveWay_1 : decode cX4_giveWay 1 = .ok (.iload_n 1, 1) := by decide +kernel
theorem dX4_giveWay_2 : decode cX4_giveWay 2 = .ok (.invokevirtual 55, 3) := by decide +kernel
theorem dX4_giveWay_5 : decode cX4_giveWay 5 = .ok (.ifCond .eq 17, 3) := by decide +kernel
theorem dX4_giveWay_8 : decode cX4_giveWay 8 = .ok (.aload_n 0, 1) := by decide +kernel
theorem dX4_giveWay_9 : decode cX4_giveWay 9 = .ok (.getfield 21, 3) := by decide +kernel
theorem dX4_giveWay_12 : decode cX4_giveWay 12 = .ok (.iload_n 1, 1) := by decide +kernel
theorem dX4_giveWay_13 : decode cX4_giveWay 13 = .ok (.iload_n 2, 1) := by decide +kernel
theorem dX4_giveWay_14 : decode cX4_giveWay 14 = .ok (.iastore, 1) := by decide +kernel
theorem dX4_giveWay_15 : decode cX4_giveWay 15 = .ok (.aload_n 0, 1) := by decide +kernel
theorem dX4_giveWay_16 : decode cX4_giveWay 16 = .ok (.getfield 24, 3) := by decide +kernel
theorem dX4_giveWay_19 : decode cX4_giveWay 19 = .ok (.iload_n 1, 1) := by decide +kernel
theorem dX4_giveWay_20 : decode cX4_giveWay 20 = .ok (.iload_n 3, 1) := by decide +kernel
theorem dX4_giveWay_21 : decode cX4_giveWay 21 = .ok (.iastore, 1) := by decide +kernel
theorem dX4_giveWay_22 : decode cX4_giveWay 22 = .ok (.return_, 1) := by decide +kernel
theorem dX4_admit_0 : decode cX4_admit 0 = .ok (.aload_n 0, 1) := by decide +kernel
theorem dX4_admit_1 : decode cX4_admit 1 = .ok (.getfield 33, 3) := by decide +kernel
theorem dX4_admit_4 : decode cX4_admit 4 = .ok (.istore 4, 2) := by decide +kernel
theorem dX4_admit_6 : decode cX4_admit 6 = .ok (.iload 4, 2) := by decide +kernel
theorem dX4_admit_8 : decode cX4_admit 8 = .ok (.bipush 12, 2) := by decide +kernel
theorem dX4_admit_10 : decode cX4_admit 10 = .ok (.if_icmp .lt 5, 3) := by decide +kernel
theorem dX4_admit_13 : decode cX4_admit 13 = .ok (.iconst (-1), 1) := by decide +kernel
theorem dX4_admit_14 : decode cX4_admit 14 = .ok (.ireturn, 1) := by decide +kernel
theorem dX4_admit_15 : decode cX4_admit 15 = .ok (.aload_n 0, 1) := by decide +kernel
theorem dX4_admit_16 : decode cX4_admit 16 = .ok (.dup, 1) := by decide +kernel
theorem dX4_admit_17 : decode cX4_admit 17 = .ok (.getfield 33, 3) := by decide +kernel
theorem dX4_admit_20 : decode cX4_admit 20 = .ok (.iconst 1, 1) := by decide +kernel
theorem dX4_admit_21 : decode cX4_admit 21 = .ok (.iadd, 1) := by decide +kernel
theorem dX4_admit_22 : decode cX4_admit 22 = .ok (.putfield 33, 3) := by decide +kernel
theorem dX4_admit_25 : decode cX4_admit 25 = .ok (.aload_n 0, 1) := by decide +kernel
theorem dX4_admit_26 : decode cX4_admit 26 = .ok (.iload 4, 2) := by decide +kernel
theorem dX4_admit_28 : decode cX4_admit 28 = .ok (.iload_n 2, 1) := by decide +kernel
theorem dX4_admit_29 : decode cX4_admit 29 = .ok (.iload_n 3, 1) := by decide +kernel
theorem dX4_admit_30 : decode cX4_admit 30 = .ok (.invokevirtual 67, 3) := by decide +kernel
theorem dX4_admit_33 : decode cX4_admit 33 = .ok (.aload_n 0, 1) := by decide +kernel
theorem dX4_admit_34 : decode cX4_admit 34 = .ok (.iload 4, 2) := by decide +kernel
theorem dX4_admit_36 : decode cX4_admit 36 = .ok (.iconst (-1), 1) := by decide +kernel
theorem dX4_admit_37 : decode cX4_admit 37 = .ok (.iconst 0, 1) := by decide +kernel
theorem dX4_admit_38 : decode cX4_admit 38 = .ok (.invokevirtual 71, 3) := by decide +kernel
theorem dX4_admit_41 : decode cX4_admit 41 = .ok (.iconst 0, 1) := by decide +kernel
theorem dX4_admit_42 : decode cX4_admit 42 = .ok (.istore 5, 2) := by decide +kernel
theorem dX4_admit_44 : decode cX4_admit 44 = .ok (.iload 5, 2) := by decide +kernel
theorem dX4_admit_46 : decode cX4_admit 46 = .ok (.iload 4, 2) := by decide +kernel
theorem dX4_admit_48 : decode cX4_admit 48 = .ok (.if_icmp .ge 27, 3) := by decide +kernel
theorem dX4_admit_51 : decode cX4_admit 51 = .ok (.iload 5, 2) := by decide +kernel
theorem dX4_admit_53 : decode cX4_admit 53 = .ok (.iload_n 1, 1) := by decide +kernel
theorem dX4_admit_54 : decode cX4_admit 54 = .ok (.invokestatic 63, 3) := by decide +kernel
theorem dX4_admit_57 : decode cX4_admit 57 = .ok (.ifCond .eq 12, 3) := by decide +kernel
theorem dX4_admit_60 : decode cX4_admit 60 = .ok (.aload_n 0, 1) := by decide +kernel
theorem dX4_admit_61 : decode cX4_admit 61 = .ok (.iload 4, 2) := by decide +kernel
theorem dX4_admit_63 : decode cX4_admit 63 = .ok (.iload 5, 2) := by decide +kernel
theorem dX4_admit_65 : decode cX4_admit 65 = .ok (.iconst 0, 1) := by decide +kernel
theorem dX4_admit_66 : decode cX4_admit 66 = .ok (.invokevirtual 74, 3) := by decide +kernel
theorem dX4_admit_69 : decode cX4_admit 69 = .ok (.iinc 5 1, 3) := by decide +kernel
theorem dX4_admit_72 : decode cX4_admit 72 = .ok (.goto (-28), 3) := by decide +kernel
theorem dX4_admit_75 : decode cX4_admit 75 = .ok (.iload 4, 2) := by decide +kernel
theorem dX4_admit_77 : decode cX4_admit 77 = .ok (.ireturn, 1) := by decide +kernel
theorem dX4_areNear_0 : decode cX4_areNear 0 = .ok (.aload_n 0, 1) := by decide +kernel
theorem dX4_areNear_1 : decode cX4_areNear 1 = .ok (.iload_n 1, 1) := by decide +kernel
theorem dX4_areNear_2 : decode cX4_areNear 2 = .ok (.iload_n 2, 1) := by decide +kernel
theorem dX4_areNear_3 : decode cX4_areNear 3 = .ok (.invokevirtual 77, 3) := by decide +kernel
theorem dX4_areNear_6 : decode cX4_areNear 6 = .ok (.ifCond .eq 20, 3) := by decide +kernel
theorem dX4_areNear_9 : decode cX4_areNear 9 = .ok (.iload_n 2, 1) := by decide +kernel
theorem dX4_areNear_10 : decode cX4_areNear 10 = .ok (.aload_n 0, 1) := by decide +kernel
theorem dX4_areNear_11 : decode cX4_areNear 11 = .ok (.getfield 18, 3) := by decide +kernel
theorem dX4_areNear_14 : decode cX4_areNear 14 = .ok (.iload_n 1, 1) := by decide +kernel
theorem dX4_areNear_15 : decode cX4_areNear 15 = .ok (.iaload, 1) := by decide +kernel
theorem dX4_areNear_16 : decode cX4_areNear 16 = .ok (.invokestatic 63, 3) := by decide +kernel
theorem dX4_areNear_19 : decode cX4_areNear 19 = .ok (.ifCond .eq 7, 3) := by decide +kernel
theorem dX4_areNear_22 : decode cX4_areNear 22 = .ok (.iconst 1, 1) := by decide +kernel
theorem dX4_areNear_23 : decode cX4_areNear 23 = .ok (.goto 4, 3) := by decide +kernel
theorem dX4_areNear_26 : decode cX4_areNear 26 = .ok (.iconst 0, 1) := by decide +kernel
theorem dX4_areNear_27 : decode cX4_areNear 27 = .ok (.ireturn, 1) := by decide +kernel
theorem dX4_priceOf_0 : decode cX4_priceOf 0 = .ok (.aload_n 0, 1) := by decide +kernel
theorem dX4_priceOf_1 : decode cX4_priceOf 1 = .ok (.iload_n 1, 1) := by decide +kernel
theorem dX4_priceOf_2 : decode cX4_priceOf 2 = .ok (.iload_n 2, 1) := by decide +kernel
theorem dX4_priceOf_3 : decode cX4_priceOf 3 = .ok (.invokevirtual 80, 3) := by decide +kernel
theorem dX4_priceOf_6 : decode cX4_priceOf 6 = .ok (.ifCond .eq 17, 3) := by decide +kernel
theorem dX4_priceOf_9 : decode cX4_priceOf 9 = .ok (.aload_n 0, 1) := by decide +kernel
theorem dX4_priceOf_10 : decode cX4_priceOf 10 = .ok (.getfield 27, 3) := by decide +kernel
theorem dX4_priceOf_13 : decode cX4_priceOf 13 = .ok (.bipush 12, 2) := by decide +kernel
theorem dX4_priceOf_15 : decode cX4_priceOf 15 = .ok (.iload_n 1, 1) := by decide +kernel
theorem dX4_priceOf_16 : decode cX4_priceOf 16 = .ok (.imul, 1) := by decide +kernel
theorem dX4_priceOf_17 : decode cX4_priceOf 17 = .ok (.iload_n 2, 1) := by decide +kernel
theorem dX4_priceOf_18 : decode cX4_priceOf 18 = .ok (.iadd, 1) := by decide +kernel
theorem dX4_priceOf_19 : decode cX4_priceOf 19 = .ok (.iaload, 1) := by decide +kernel
theorem dX4_priceOf_20 : decode cX4_priceOf 20 = .ok (.goto 4, 3) := by decide +kernel
theorem dX4_priceOf_23 : decode cX4_priceOf 23 = .ok (.iconst (-1), 1) := by decide +kernel
theorem dX4_priceOf_24 : decode cX4_priceOf 24 = .ok (.ireturn, 1) := by decide +kernel
theorem dX4_join_0 : decode cX4_join 0 = .ok (.aload_n 0, 1) := by decide +kernel
theorem dX4_join_1 : decode cX4_join 1 = .ok (.iload_n 1, 1) := by decide +kernel
theorem dX4_join_2 : decode cX4_join 2 = .ok (.iload_n 2, 1) := by decide +kernel
theorem dX4_join_3 : decode cX4_join 3 = .ok (.invokevirtual 77, 3) := by decide +kernel
theorem dX4_join_6 : decode cX4_join 6 = .ok (.ifCond .eq 41, 3) := by decide +kernel
theorem dX4_join_9 : decode cX4_join 9 = .ok (.aload_n 0, 1) := by decide +kernel
theorem dX4_join_10 : decode cX4_join 10 = .ok (.getfield 18, 3) := by decide +kernel
theorem dX4_join_13 : decode cX4_join 13 = .ok (.iload_n 1, 1) := by decide +kernel
theorem dX4_join_14 : decode cX4_join 14 = .ok (.dup2, 1) := by decide +kernel
theorem dX4_join_15 : decode cX4_join 15 = .ok (.iaload, 1) := by decide +kernel
theorem dX4_join_16 : decode cX4_join 16 = .ok (.iconst 1, 1) := by decide +kernel
theorem dX4_join_17 : decode cX4_join 17 = .ok (.iload_n 2, 1) := by decide +kernel
theorem dX4_join_18 : decode cX4_join 18 = .ok (.ishl, 1) := by decide +kernel
theorem dX4_join_19 : decode cX4_join 19 = .ok (.ior, 1) := by decide +kernel
theorem dX4_join_20 : decode cX4_join 20 = .ok (.iastore, 1) := by decide +kernel
theorem dX4_join_21 : decode cX4_join 21 = .ok (.aload_n 0, 1) := by decide +kernel
theorem dX4_join_22 : decode cX4_join 22 = .ok (.getfield 18, 3) := by decide +kernel
theorem dX4_join_25 : decode cX4_join 25 = .ok (.iload_n 2, 1) := by decide +kernel
theorem dX4_join_26 : decode cX4_join 26 = .ok (.dup2, 1) := by decide +kernel
theorem dX4_join_27 : decode cX4_join 27 = .ok (.iaload, 1) := by decide +kernel
theorem dX4_join_28 : decode cX4_join 28 = .ok (.iconst 1, 1) := by decide +kernel
theorem dX4_join_29 : decode cX4_join 29 = .ok (.iload_n 1, 1) := by decide +kernel
theorem dX4_join_30 : decode cX4_join 30 = .ok (.ishl, 1) := by decide +kernel
theorem dX4_join_31 : decode cX4_join 31 = .ok (.ior, 1) := by decide +kernel
theorem dX4_join_32 : decode cX4_join 32 = .ok (.iastore, 1) := by decide +kernel
theorem dX4_join_33 : decode cX4_join 33 = .ok (.aload_n 0, 1) := by decide +kernel
theorem dX4_join_34 : decode cX4_join 34 = .ok (.iload_n 1, 1) := by decide +kernel
theorem dX4_join_35 : decode cX4_join 35 = .ok (.iload_n 2, 1) := by decide +kernel
theorem dX4_join_36 : decode cX4_join 36 = .ok (.iload_n 3, 1) := by decide +kernel
theorem dX4_join_37 : decode cX4_join 37 = .ok (.invokevirtual 83, 3) := by decide +kernel
theorem dX4_join_40 : decode cX4_join 40 = .ok (.aload_n 0, 1) := by decide +kernel
theorem dX4_join_41 : decode cX4_join 41 = .ok (.iload_n 2, 1) := by decide +kernel
theorem dX4_join_42 : decode cX4_join 42 = .ok (.iload_n 1, 1) := by decide +kernel
theorem dX4_join_43 : decode cX4_join 43 = .ok (.iload_n 3, 1) := by decide +kernel
theorem dX4_join_44 : decode cX4_join 44 = .ok (.invokevirtual 83, 3) := by decide +kernel
theorem dX4_join_47 : decode cX4_join 47 = .ok (.return_, 1) := by decide +kernel
theorem dX4_part_0 : decode cX4_part 0 = .ok (.aload_n 0, 1) := by decide +kernel
theorem dX4_part_1 : decode cX4_part 1 = .ok (.iload_n 1, 1) := by decide +kernel
theorem dX4_part_2 : decode cX4_part 2 = .ok (.iload_n 2, 1) := by decide +kernel
theorem dX4_part_3 : decode cX4_part 3 = .ok (.invokevirtual 77, 3) := by decide +kernel
theorem dX4_part_6 : decode cX4_part 6 = .ok (.ifCond .eq 45, 3) := by decide +kernel
theorem dX4_part_9 : decode cX4_part 9 = .ok (.aload_n 0, 1) := by decide +kernel
theorem dX4_part_10 : decode cX4_part 10 = .ok (.getfield 18, 3) := by decide +kernel
theorem dX4_part_13 : decode cX4_part 13 = .ok (.iload_n 1, 1) := by decide +kernel
theorem dX4_part_14 : decode cX4_part 14 = .ok (.dup2, 1) := by decide +kernel
theorem dX4_part_15 : decode cX4_part 15 = .ok (.iaload, 1) := by decide +kernel
theorem dX4_part_16 : decode cX4_part 16 = .ok (.iconst 1, 1) := by decide +kernel
theorem dX4_part_17 : decode cX4_part 17 = .ok (.iload_n 2, 1) := by decide +kernel
theorem dX4_part_18 : decode cX4_part 18 = .ok (.ishl, 1) := by decide +kernel
theorem dX4_part_19 : decode cX4_part 19 = .ok (.iconst (-1), 1) := by decide +kernel
theorem dX4_part_20 : decode cX4_part 20 = .ok (.ixor, 1) := by decide +kernel
theorem dX4_part_21 : decode cX4_part 21 = .ok (.iand, 1) := by decide +kernel
theorem dX4_part_22 : decode cX4_part 22 = .ok (.iastore, 1) := by decide +kernel
theorem dX4_part_23 : decode cX4_part 23 = .ok (.aload_n 0, 1) := by decide +kernel
theorem dX4_part_24 : decode cX4_part 24 = .ok (.getfield 18, 3) := by decide +kernel
theorem dX4_part_27 : decode cX4_part 27 = .ok (.iload_n 2, 1) := by decide +kernel
theorem dX4_part_28 : decode cX4_part 28 = .ok (.dup2, 1) := by decide +kernel
theorem dX4_part_29 : decode cX4_part 29 = .ok (.iaload, 1) := by decide +kernel
theorem dX4_part_30 : decode cX4_part 30 = .ok (.iconst 1, 1) := by decide +kernel
theorem dX4_part_31 : decode cX4_part 31 = .ok (.iload_n 1, 1) := by decide +kernel
theorem dX4_part_32 : decode cX4_part 32 = .ok (.ishl, 1) := by decide +kernel
theorem dX4_part_33 : decode cX4_part 33 = .ok (.iconst (-1), 1) := by decide +kernel
theorem dX4_part_34 : decode cX4_part 34 = .ok (.ixor, 1) := by decide +kernel
theorem dX4_part_35 : decode cX4_part 35 = .ok (.iand, 1) := by decide +kernel
theorem dX4_part_36 : decode cX4_part 36 = .ok (.iastore, 1) := by decide +kernel
theorem dX4_part_37 : decode cX4_part 37 = .ok (.aload_n 0, 1) := by decide +kernel
theorem dX4_part_38 : decode cX4_part 38 = .ok (.iload_n 1, 1) := by decide +kernel
theorem dX4_part_39 : decode cX4_part 39 = .ok (.iload_n 2, 1) := by decide +kernel
theorem dX4_part_40 : decode cX4_part 40 = .ok (.iconst 0, 1) := by decide +kernel
theorem dX4_part_41 : decode cX4_part 41 = .ok (.invokevirtual 83, 3) := by decide +kernel
theorem dX4_part_44 : decode cX4_part 44 = .ok (.aload_n 0, 1) := by decide +kernel
theorem dX4_part_45 : decode cX4_part 45 = .ok (.iload_n 2, 1) := by decide +kernel
theorem dX4_part_46 : decode cX4_part 46 = .ok (.iload_n 1, 1) := by decide +kernel
theorem dX4_part_47 : decode cX4_part 47 = .ok (.iconst 0, 1) := by decide +kernel
theorem dX4_part_48 : decode cX4_part 48 = .ok (.invokevirtual 83, 3) := by decide +kernel
theorem dX4_part_51 : decode cX4_part 51 = .ok (.return_, 1) := by decide +kernel
theorem dX4_priceAt_0 : decode cX4_priceAt 0 = .ok (.bipush 12, 2) := by decide +kernel
theorem dX4_priceAt_2 : decode cX4_priceAt 2 = .ok (.iload_n 1, 1) := by decide +kernel
theorem dX4_priceAt_3 : decode cX4_priceAt 3 = .ok (.imul, 1) := by decide +kernel
theorem dX4_priceAt_4 : decode cX4_priceAt 4 = .ok (.iload_n 2, 1) := by decide +kernel
theorem dX4_priceAt_5 : decode cX4_priceAt 5 = .ok (.iadd, 1) := by decide +kernel
theorem dX4_priceAt_6 : decode cX4_priceAt 6 = .ok (.istore 4, 2) := by decide +kernel
theorem dX4_priceAt_8 : decode cX4_priceAt 8 = .ok (.aload_n 0, 1) := by decide +kernel
theorem dX4_priceAt_9 : decode cX4_priceAt 9 = .ok (.getfield 30, 3) := by decide +kernel
theorem dX4_priceAt_12 : decode cX4_priceAt 12 = .ok (.iload_n 1, 1) := by decide +kernel
theorem dX4_priceAt_13 : decode cX4_priceAt 13 = .ok (.dup2, 1) := by decide +kernel
theorem dX4_priceAt_14 : decode cX4_priceAt 14 = .ok (.iaload, 1) := by decide +kernel
theorem dX4_priceAt_15 : decode cX4_priceAt 15 = .ok (.iload_n 3, 1) := by decide +kernel
theorem dX4_priceAt_16 : decode cX4_priceAt 16 = .ok (.aload_n 0, 1) := by decide +kernel
theorem dX4_priceAt_17 : decode cX4_priceAt 17 = .ok (.getfield 27, 3) := by decide +kernel
theorem dX4_priceAt_20 : decode cX4_priceAt 20 = .ok (.iload 4, 2) := by decide +kernel
theorem dX4_priceAt_22 : decode cX4_priceAt 22 = .ok (.iaload, 1) := by decide +kernel
theorem dX4_priceAt_23 : decode cX4_priceAt 23 = .ok (.isub, 1) := by decide +kernel
theorem dX4_priceAt_24 : decode cX4_priceAt 24 = .ok (.iadd, 1) := by decide +kernel
theorem dX4_priceAt_25 : decode cX4_priceAt 25 = .ok (.iastore, 1) := by decide +kernel
theorem dX4_priceAt_26 : decode cX4_priceAt 26 = .ok (.aload_n 0, 1) := by decide +kernel
theorem dX4_priceAt_27 : decode cX4_priceAt 27 = .ok (.getfield 27, 3) := by decide +kernel
theorem dX4_priceAt_30 : decode cX4_priceAt 30 = .ok (.iload 4, 2) := by decide +kernel
theorem dX4_priceAt_32 : decode cX4_priceAt 32 = .ok (.iload_n 3, 1) := by decide +kernel
theorem dX4_priceAt_33 : decode cX4_priceAt 33 = .ok (.iastore, 1) := by decide +kernel
theorem dX4_priceAt_34 : decode cX4_priceAt 34 = .ok (.return_, 1) := by decide +kernel
theorem dX4_joinNeighbours_0 : decode cX4_joinNeighbours 0 = .ok (.iconst 0, 1) := by decide +kernel
theorem dX4_joinNeighbours_1 : decode cX4_joinNeighbours 1 = .ok (.istore_n 1, 1) := by decide +kernel
theorem dX4_joinNeighbours_2 : decode cX4_joinNeighbours 2 = .ok (.iload_n 1, 1) := by decide +kernel
theorem dX4_joinNeighbours_3 : decode cX4_joinNeighbours 3 = .ok (.aload_n 0, 1) := by decide +kernel
theorem dX4_joinNeighbours_4 : decode cX4_joinNeighbours 4 = .ok (.getfield 33, 3) := by decide +kernel
theorem dX4_joinNeighbours_7 : decode cX4_joinNeighbours 7 = .ok (.if_icmp .ge 43, 3) := by decide +kernel
theorem dX4_joinNeighbours_10 : decode cX4_joinNeighbours 10 = .ok (.iload_n 1, 1) := by decide +kernel
theorem dX4_joinNeighbours_11 : decode cX4_joinNeighbours 11 = .ok (.iconst 1, 1) := by decide +kernel
theorem dX4_joinNeighbours_12 : decode cX4_joinNeighbours 12 = .ok (.iadd, 1) := by decide +kernel
theorem dX4_joinNeighbours_13 : decode cX4_joinNeighbours 13 = .ok (.aload_n 0, 1) := by decide +kernel
theorem dX4_joinNeighbours_14 : decode cX4_joinNeighbours 14 = .ok (.getfield 33, 3) := by decide +kernel
theorem dX4_joinNeighbours_17 : decode cX4_joinNeighbours 17 = .ok (.if_icmp .ge 9, 3) := by decide +kernel
theorem dX4_joinNeighbours_20 : decode cX4_joinNeighbours 20 = .ok (.iload_n 1, 1) := by decide +kernel
theorem dX4_joinNeighbours_21 : decode cX4_joinNeighbours 21 = .ok (.iconst 1, 1) := by decide +kernel
theorem dX4_joinNeighbours_22 : decode cX4_joinNeighbours 22 = .ok (.iadd, 1) := by decide +kernel
theorem dX4_joinNeighbours_23 : decode cX4_joinNeighbours 23 = .ok (.goto 4, 3) := by decide +kernel
theorem dX4_joinNeighbours_26 : decode cX4_joinNeighbours 26 = .ok (.iconst 0, 1) := by decide +kernel
theorem dX4_joinNeighbours_27 : decode cX4_joinNeighbours 27 = .ok (.istore_n 2, 1) := by decide +kernel
theorem dX4_joinNeighbours_28 : decode cX4_joinNeighbours 28 = .ok (.aload_n 0, 1) := by decide +kernel
theorem dX4_joinNeighbours_29 : decode cX4_joinNeighbours 29 = .ok (.iload_n 1, 1) := by decide +kernel
theorem dX4_joinNeighbours_30 : decode cX4_joinNeighbours 30 = .ok (.iload_n 2, 1) := by decide +kernel
theorem dX4_joinNeighbours_31 : decode cX4_joinNeighbours 31 = .ok (.invokevirtual 80, 3) := by decide +kernel
theorem dX4_joinNeighbours_34 : decode cX4_joinNeighbours 34 = .ok (.ifCond .ne 10, 3) := by decide +kernel
theorem dX4_joinNeighbours_37 : decode cX4_joinNeighbours 37 = .ok (.aload_n 0, 1) := by decide +kernel
theorem dX4_joinNeighbours_38 : decode cX4_joinNeighbours 38 = .ok (.iload_n 1, 1) := by decide +kernel
theorem dX4_joinNeighbours_39 : decode cX4_joinNeighbours 39 = .ok (.iload_n 2, 1) := by decide +kernel
theorem dX4_joinNeighbours_40 : decode cX4_joinNeighbours 40 = .ok (.iconst 0, 1) := by decide +kernel
theorem dX4_joinNeighbours_41 : decode cX4_joinNeighbours 41 = .ok (.invokevirtual 74, 3) := by decide +kernel
theorem dX4_joinNeighbours_44 : decode cX4_joinNeighbours 44 = .ok (.iinc 1 1, 3) := by decide +kernel
theorem dX4_joinNeighbours_47 : decode cX4_joinNeighbours 47 = .ok (.goto (-45), 3) := by decide +kernel
theorem dX4_joinNeighbours_50 : decode cX4_joinNeighbours 50 = .ok (.return_, 1) := by decide +kernel
theorem dX4_joinAll_0 : decode cX4_joinAll 0 = .ok (.iconst 0, 1) := by decide +kernel
theorem dX4_joinAll_1 : decode cX4_joinAll 1 = .ok (.istore_n 1, 1) := by decide +kernel
theorem dX4_joinAll_2 : decode cX4_joinAll 2 = .ok (.iload_n 1, 1) := by decide +kernel
theorem dX4_joinAll_3 : decode cX4_joinAll 3 = .ok (.aload_n 0, 1) := by decide +kernel
theorem dX4_joinAll_4 : decode cX4_joinAll 4 = .ok (.getfield 33, 3) := by decide +kernel
theorem dX4_joinAll_7 : decode cX4_joinAll 7 = .ok (.if_icmp .ge 43, 3) := by decide +kernel
theorem dX4_joinAll_10 : decode cX4_joinAll 10 = .ok (.iload_n 1, 1) := by decide +kernel
theorem dX4_joinAll_11 : decode cX4_joinAll 11 = .ok (.iconst 1, 1) := by decide +kernel
theorem dX4_joinAll_12 : decode cX4_joinAll 12 = .ok (.iadd, 1) := by decide +kernel
theorem dX4_joinAll_13 : decode cX4_joinAll 13 = .ok (.istore_n 2, 1) := by decide +kernel
theorem dX4_joinAll_14 : decode cX4_joinAll 14 = .ok (.iload_n 2, 1) := by decide +kernel
theorem dX4_joinAll_15 : decode cX4_joinAll 15 = .ok (.aload_n 0, 1) := by decide +kernel
theorem dX4_joinAll_16 : decode cX4_joinAll 16 = .ok (.getfield 33, 3) := by decide +kernel
theorem dX4_joinAll_19 : decode cX4_joinAll 19 = .ok (.if_icmp .ge 25, 3) := by decide +kernel
theorem dX4_joinAll_22 : decode cX4_joinAll 22 = .ok (.aload_n 0, 1) := by decide +kernel
theorem dX4_joinAll_23 : decode cX4_joinAll 23 = .ok (.iload_n 1, 1) := by decide +kernel
theorem dX4_joinAll_24 : decode cX4_joinAll 24 = .ok (.iload_n 2, 1) := by decide +kernel
theorem dX4_joinAll_25 : decode cX4_joinAll 25 = .ok (.invokevirtual 80, 3) := by decide +kernel
theorem dX4_joinAll_28 : decode cX4_joinAll 28 = .ok (.ifCond .ne 10, 3) := by decide +kernel
theorem dX4_joinAll_31 : decode cX4_joinAll 31 = .ok (.aload_n 0, 1) := by decide +kernel
theorem dX4_joinAll_32 : decode cX4_joinAll 32 = .ok (.iload_n 1, 1) := by decide +kernel
theorem dX4_joinAll_33 : decode cX4_joinAll 33 = .ok (.iload_n 2, 1) := by decide +kernel
theorem dX4_joinAll_34 : decode cX4_joinAll 34 = .ok (.iconst 0, 1) := by decide +kernel
theorem dX4_joinAll_35 : decode cX4_joinAll 35 = .ok (.invokevirtual 74, 3) := by decide +kernel
theorem dX4_joinAll_38 : decode cX4_joinAll 38 = .ok (.iinc 2 1, 3) := by decide +kernel
theorem dX4_joinAll_41 : decode cX4_joinAll 41 = .ok (.goto (-27), 3) := by decide +kernel
theorem dX4_joinAll_44 : decode cX4_joinAll 44 = .ok (.iinc 1 1, 3) := by decide +kernel
theorem dX4_joinAll_47 : decode cX4_joinAll 47 = .ok (.goto (-45), 3) := by decide +kernel
theorem dX4_joinAll_50 : decode cX4_joinAll 50 = .ok (.return_, 1) := by decide +kernel
theorem dX4_ties_0 : decode cX4_ties 0 = .ok (.iconst 0, 1) := by decide +kernel
theorem dX4_ties_1 : decode cX4_ties 1 = .ok (.istore_n 1, 1) := by decide +kernel
theorem dX4_ties_2 : decode cX4_ties 2 = .ok (.iconst 0, 1) := by decide +kernel
theorem dX4_ties_3 : decode cX4_ties 3 = .ok (.istore_n 2, 1) := by decide +kernel
theorem dX4_ties_4 : decode cX4_ties 4 = .ok (.iload_n 2, 1) := by decide +kernel
theorem dX4_ties_5 : decode cX4_ties 5 = .ok (.aload_n 0, 1) := by decide +kernel
theorem dX4_ties_6 : decode cX4_ties 6 = .ok (.getfield 33, 3) := by decide +kernel
theorem dX4_ties_9 : decode cX4_ties 9 = .ok (.if_icmp .ge 21, 3) := by decide +kernel
theorem dX4_ties_12 : decode cX4_ties 12 = .ok (.iload_n 1, 1) := by decide +kernel
theorem dX4_ties_13 : decode cX4_ties 13 = .ok (.aload_n 0, 1) := by decide +kernel
theorem dX4_ties_14 : decode cX4_ties 14 = .ok (.getfield 18, 3) := by decide +kernel
theorem dX4_ties_17 : decode cX4_ties 17 = .ok (.iload_n 2, 1) := by decide +kernel
theorem dX4_ties_18 : decode cX4_ties 18 = .ok (.iaload, 1) := by decide +kernel
theorem dX4_ties_19 : decode cX4_ties 19 = .ok (.invokestatic 86, 3) := by decide +kernel
theorem dX4_ties_22 : decode cX4_ties 22 = .ok (.iadd, 1) := by decide +kernel
theorem dX4_ties_23 : decode cX4_ties 23 = .ok (.istore_n 1, 1) := by decide +kernel
theorem dX4_ties_24 : decode cX4_ties 24 = .ok (.iinc 2 1, 3) := by decide +kernel
theorem dX4_ties_27 : decode cX4_ties 27 = .ok (.goto (-23), 3) := by decide +kernel
theorem dX4_ties_30 : decode cX4_ties 30 = .ok (.iload_n 1, 1) := by decide +kernel
theorem dX4_ties_31 : decode cX4_ties 31 = .ok (.iconst 2, 1) := by decide +kernel
theorem dX4_ties_32 : decode cX4_ties 32 = .ok (.idiv, 1) := by decide +kernel
theorem dX4_ties_33 : decode cX4_ties 33 = .ok (.ireturn, 1) := by decide +kernel
theorem dX4_prices_0 : decode cX4_prices 0 = .ok (.iconst 0, 1) := by decide +kernel
theorem dX4_prices_1 : decode cX4_prices 1 = .ok (.istore_n 1, 1) := by decide +kernel
theorem dX4_prices_2 : decode cX4_prices 2 = .ok (.iconst 0, 1) := by decide +kernel
theorem dX4_prices_3 : decode cX4_prices 3 = .ok (.istore_n 2, 1) := by decide +kernel
theorem dX4_prices_4 : decode cX4_prices 4 = .ok (.iload_n 2, 1) := by decide +kernel
theorem dX4_prices_5 : decode cX4_prices 5 = .ok (.aload_n 0, 1) := by decide +kernel
theorem dX4_prices_6 : decode cX4_prices 6 = .ok (.getfield 33, 3) := by decide +kernel
theorem dX4_prices_9 : decode cX4_prices 9 = .ok (.if_icmp .ge 18, 3) := by decide +kernel
theorem dX4_prices_12 : decode cX4_prices 12 = .ok (.iload_n 1, 1) := by decide +kernel
theorem dX4_prices_13 : decode cX4_prices 13 = .ok (.aload_n 0, 1) := by decide +kernel
theorem dX4_prices_14 : decode cX4_prices 14 = .ok (.getfield 30, 3) := by decide +kernel
theorem dX4_prices_17 : decode cX4_prices 17 = .ok (.iload_n 2, 1) := by decide +kernel
theorem dX4_prices_18 : decode cX4_prices 18 = .ok (.iaload, 1) := by decide +kernel
theorem dX4_prices_19 : decode cX4_prices 19 = .ok (.iadd, 1) := by decide +kernel
theorem dX4_prices_20 : decode cX4_prices 20 = .ok (.istore_n 1, 1) := by decide +kernel
theorem dX4_prices_21 : decode cX4_prices 21 = .ok (.iinc 2 1, 3) := by decide +kernel
theorem dX4_prices_24 : decode cX4_prices 24 = .ok (.goto (-20), 3) := by decide +kernel
theorem dX4_prices_27 : decode cX4_prices 27 = .ok (.iload_n 1, 1) := by decide +kernel
theorem dX4_prices_28 : decode cX4_prices 28 = .ok (.iconst 2, 1) := by decide +kernel
theorem dX4_prices_29 : decode cX4_prices 29 = .ok (.idiv, 1) := by decide +kernel
theorem dX4_prices_30 : decode cX4_prices 30 = .ok (.ireturn, 1) := by decide +kernel
theorem dX4_gainOf_0 : decode cX4_gainOf 0 = .ok (.aload_n 0, 1) := by decide +kernel
theorem dX4_gainOf_1 : decode cX4_gainOf 1 = .ok (.getfield 18, 3) := by decide +kernel
theorem dX4_gainOf_4 : decode cX4_gainOf 4 = .ok (.iload_n 1, 1) := by decide +kernel
theorem dX4_gainOf_5 : decode cX4_gainOf 5 = .ok (.iaload, 1) := by decide +kernel
theorem dX4_gainOf_6 : decode cX4_gainOf 6 = .ok (.iconst 1, 1) := by decide +kernel
theorem dX4_gainOf_7 : decode cX4_gainOf 7 = .ok (.iload_n 1, 1) := by decide +kernel
theorem dX4_gainOf_8 : decode cX4_gainOf 8 = .ok (.ishl, 1) := by decide +kernel
theorem dX4_gainOf_9 : decode cX4_gainOf 9 = .ok (.ior, 1) := by decide +kernel
theorem dX4_gainOf_10 : decode cX4_gainOf 10 = .ok (.iload_n 2, 1) := by decide +kernel
theorem dX4_gainOf_11 : decode cX4_gainOf 11 = .ok (.iand, 1) := by decide +kernel
theorem dX4_gainOf_12 : decode cX4_gainOf 12 = .ok (.invokestatic 86, 3) := by decide +kernel
theorem dX4_gainOf_15 : decode cX4_gainOf 15 = .ok (.istore_n 3, 1) := by decide +kernel
theorem dX4_gainOf_16 : decode cX4_gainOf 16 = .ok (.iload_n 3, 1) := by decide +kernel
theorem dX4_gainOf_17 : decode cX4_gainOf 17 = .ok (.ifCond .le 21, 3) := by decide +kernel
theorem dX4_gainOf_20 : decode cX4_gainOf 20 = .ok (.aload_n 0, 1) := by decide +kernel
theorem dX4_gainOf_21 : decode cX4_gainOf 21 = .ok (.getfield 15, 3) := by decide +kernel
theorem dX4_gainOf_24 : decode cX4_gainOf 24 = .ok (.iload_n 1, 1) := by decide +kernel
theorem dX4_gainOf_25 : decode cX4_gainOf 25 = .ok (.iaload, 1) := by decide +kernel
theorem dX4_gainOf_26 : decode cX4_gainOf 26 = .ok (.aload_n 0, 1) := by decide +kernel
theorem dX4_gainOf_27 : decode cX4_gainOf 27 = .ok (.getfield 37, 3) := by decide +kernel
theorem dX4_gainOf_30 : decode cX4_gainOf 30 = .ok (.iload_n 3, 1) := by decide +kernel
theorem dX4_gainOf_31 : decode cX4_gainOf 31 = .ok (.iconst 1, 1) := by decide +kernel
theorem dX4_gainOf_32 : decode cX4_gainOf 32 = .ok (.isub, 1) := by decide +kernel
theorem dX4_gainOf_33 : decode cX4_gainOf 33 = .ok (.imul, 1) := by decide +kernel
theorem dX4_gainOf_34 : decode cX4_gainOf 34 = .ok (.iadd, 1) := by decide +kernel
theorem dX4_gainOf_35 : decode cX4_gainOf 35 = .ok (.goto 4, 3) := by decide +kernel
theorem dX4_gainOf_38 : decode cX4_gainOf 38 = .ok (.iconst 0, 1) := by decide +kernel
theorem dX4_gainOf_39 : decode cX4_gainOf 39 = .ok (.istore 4, 2) := by decide +kernel
theorem dX4_gainOf_41 : decode cX4_gainOf 41 = .ok (.iload_n 1, 1) := by decide +kernel
theorem dX4_gainOf_42 : decode cX4_gainOf 42 = .ok (.iload_n 2, 1) := by decide +kernel
theorem dX4_gainOf_43 : decode cX4_gainOf 43 = .ok (.invokestatic 63, 3) := by decide +kernel
theorem dX4_gainOf_46 : decode cX4_gainOf 46 = .ok (.ifCond .eq 12, 3) := by decide +kernel
theorem dX4_gainOf_49 : decode cX4_gainOf 49 = .ok (.aload_n 0, 1) := by decide +kernel
theorem dX4_gainOf_50 : decode cX4_gainOf 50 = .ok (.getfield 9, 3) := by decide +kernel
theorem dX4_gainOf_53 : decode cX4_gainOf 53 = .ok (.iload_n 1, 1) := by decide +kernel
theorem dX4_gainOf_54 : decode cX4_gainOf 54 = .ok (.iaload, 1) := by decide +kernel
theorem dX4_gainOf_55 : decode cX4_gainOf 55 = .ok (.goto 4, 3) := by decide +kernel
theorem dX4_gainOf_58 : decode cX4_gainOf 58 = .ok (.iconst 0, 1) := by decide +kernel
theorem dX4_gainOf_59 : decode cX4_gainOf 59 = .ok (.istore 5, 2) := by decide +kernel
theorem dX4_gainOf_61 : decode cX4_gainOf 61 = .ok (.iload 4, 2) := by decide +kernel
theorem dX4_gainOf_63 : decode cX4_gainOf 63 = .ok (.iload 5, 2) := by decide +kernel
theorem dX4_gainOf_65 : decode cX4_gainOf 65 = .ok (.isub, 1) := by decide +kernel
theorem dX4_gainOf_66 : decode cX4_gainOf 66 = .ok (.aload_n 0, 1) := by decide +kernel
theorem dX4_gainOf_67 : decode cX4_gainOf 67 = .ok (.getfield 30, 3) := by decide +kernel
theorem dX4_gainOf_70 : decode cX4_gainOf 70 = .ok (.iload_n 1, 1) := by decide +kernel
theorem dX4_gainOf_71 : decode cX4_gainOf 71 = .ok (.iaload, 1) := by decide +kernel
theorem dX4_gainOf_72 : decode cX4_gainOf 72 = .ok (.isub, 1) := by decide +kernel
theorem dX4_gainOf_73 : decode cX4_gainOf 73 = .ok (.ireturn, 1) := by decide +kernel
theorem dX4_goodOf_0 : decode cX4_goodOf 0 = .ok (.iconst 0, 1) := by decide +kernel
theorem dX4_goodOf_1 : decode cX4_goodOf 1 = .ok (.istore_n 2, 1) := by decide +kernel
theorem dX4_goodOf_2 : decode cX4_goodOf 2 = .ok (.iconst 0, 1) := by decide +kernel
theorem dX4_goodOf_3 : decode cX4_goodOf 3 = .ok (.istore_n 3, 1) := by decide +kernel
theorem dX4_goodOf_4 : decode cX4_goodOf 4 = .ok (.iload_n 3, 1) := by decide +kernel
theorem dX4_goodOf_5 : decode cX4_goodOf 5 = .ok (.aload_n 0, 1) := by decide +kernel
theorem dX4_goodOf_6 : decode cX4_goodOf 6 = .ok (.getfield 33, 3) := by decide +kernel
theorem dX4_goodOf_9 : decode cX4_goodOf 9 = .ok (.if_icmp .ge 18, 3) := by decide +kernel
theorem dX4_goodOf_12 : decode cX4_goodOf 12 = .ok (.iload_n 2, 1) := by decide +kernel
theorem dX4_goodOf_13 : decode cX4_goodOf 13 = .ok (.aload_n 0, 1) := by decide +kernel
theorem dX4_goodOf_14 : decode cX4_goodOf 14 = .ok (.iload_n 3, 1) := by decide +kernel
theorem dX4_goodOf_15 : decode cX4_goodOf 15 = .ok (.iload_n 1, 1) := by decide +kernel
theorem dX4_goodOf_16 : decode cX4_goodOf 16 = .ok (.invokevirtual 92, 3) := by decide +kernel
theorem dX4_goodOf_19 : decode cX4_goodOf 19 = .ok (.iadd, 1) := by decide +kernel
theorem dX4_goodOf_20 : decode cX4_goodOf 20 = .ok (.istore_n 2, 1) := by decide +kernel
theorem dX4_goodOf_21 : decode cX4_goodOf 21 = .ok (.iinc 3 1, 3) := by decide +kernel
theorem dX4_goodOf_24 : decode cX4_goodOf 24 = .ok (.goto (-20), 3) := by decide +kernel
theorem dX4_goodOf_27 : decode cX4_goodOf 27 = .ok (.iload_n 2, 1) := by decide +kernel
theorem dX4_goodOf_28 : decode cX4_goodOf 28 = .ok (.ireturn, 1) := by decide +kernel
theorem dX4_edge_0 : decode cX4_edge 0 = .ok (.aload_n 0, 1) := by decide +kernel
theorem dX4_edge_1 : decode cX4_edge 1 = .ok (.getfield 18, 3) := by decide +kernel
theorem dX4_edge_4 : decode cX4_edge 4 = .ok (.iload_n 1, 1) := by decide +kernel
theorem dX4_edge_5 : decode cX4_edge 5 = .ok (.iaload, 1) := by decide +kernel
theorem dX4_edge_6 : decode cX4_edge 6 = .ok (.iload_n 2, 1) := by decide +kernel
theorem dX4_edge_7 : decode cX4_edge 7 = .ok (.iand, 1) := by decide +kernel
theorem dX4_edge_8 : decode cX4_edge 8 = .ok (.ifCond .ne 12, 3) := by decide +kernel
theorem dX4_edge_11 : decode cX4_edge 11 = .ok (.aload_n 0, 1) := by decide +kernel
theorem dX4_edge_12 : decode cX4_edge 12 = .ok (.getfield 15, 3) := by decide +kernel
theorem dX4_edge_15 : decode cX4_edge 15 = .ok (.iload_n 1, 1) := by decide +kernel
theorem dX4_edge_16 : decode cX4_edge 16 = .ok (.iaload, 1) := by decide +kernel
theorem dX4_edge_17 : decode cX4_edge 17 = .ok (.goto 7, 3) := by decide +kernel
theorem dX4_edge_20 : decode cX4_edge 20 = .ok (.aload_n 0, 1) := by decide +kernel
theorem dX4_edge_21 : decode cX4_edge 21 = .ok (.getfield 37, 3) := by decide +kernel
theorem dX4_edge_24 : decode cX4_edge 24 = .ok (.istore_n 3, 1) := by decide +kernel
theorem dX4_edge_25 : decode cX4_edge 25 = .ok (.iload_n 3, 1) := by decide +kernel
theorem dX4_edge_26 : decode cX4_edge 26 = .ok (.aload_n 0, 1) := by decide +kernel
theorem dX4_edge_27 : decode cX4_edge 27 = .ok (.getfield 9, 3) := by decide +kernel
theorem dX4_edge_30 : decode cX4_edge 30 = .ok (.iload_n 1, 1) := by decide +kernel
theorem dX4_edge_31 : decode cX4_edge 31 = .ok (.iaload, 1) := by decide +kernel
theorem dX4_edge_32 : decode cX4_edge 32 = .ok (.isub, 1) := by decide +kernel
theorem dX4_edge_33 : decode cX4_edge 33 = .ok (.ireturn, 1) := by decide +kernel
theorem dX4_gainByChange_0 : decode cX4_gainByChange 0 = .ok (.aload_n 0, 1) := by decide +kernel
theorem dX4_gainByChange_1 : decode cX4_gainByChange 1 = .ok (.iload_n 1, 1) := by decide +kernel
theorem dX4_gainByChange_2 : decode cX4_gainByChange 2 = .ok (.iload_n 2, 1) := by decide +kernel
theorem dX4_gainByChange_3 : decode cX4_gainByChange 3 = .ok (.invokevirtual 96, 3) := by decide +kernel
theorem dX4_gainByChange_6 : decode cX4_gainByChange 6 = .ok (.istore_n 3, 1) := by decide +kernel
theorem dX4_gainByChange_7 : decode cX4_gainByChange 7 = .ok (.iload_n 1, 1) := by decide +kernel
theorem dX4_gainByChange_8 : decode cX4_gainByChange 8 = .ok (.iload_n 2, 1) := by decide +kernel
theorem dX4_gainByChange_9 : decode cX4_gainByChange 9 = .ok (.invokestatic 63, 3) := by decide +kernel
theorem dX4_gainByChange_12 : decode cX4_gainByChange 12 = .ok (.ifCond .eq 8, 3) := by decide +kernel
theorem dX4_gainByChange_15 : decode cX4_gainByChange 15 = .ok (.iload_n 3, 1) := by decide +kernel
theorem dX4_gainByChange_16 : decode cX4_gainByChange 16 = .ok (.ineg, 1) := by decide +kernel
theorem dX4_gainByChange_17 : decode cX4_gainByChange 17 = .ok (.goto 4, 3) := by decide +kernel
theorem dX4_gainByChange_20 : decode cX4_gainByChange 20 = .ok (.iload_n 3, 1) := by decide +kernel
theorem dX4_gainByChange_21 : decode cX4_gainByChange 21 = .ok (.ireturn, 1) := by decide +kernel
theorem dX4_wouldChange_0 : decode cX4_wouldChange 0 = .ok (.aload_n 0, 1) := by decide +kernel
theorem dX4_wouldChange_1 : decode cX4_wouldChange 1 = .ok (.iload_n 1, 1) := by decide +kernel
theorem dX4_wouldChange_2 : decode cX4_wouldChange 2 = .ok (.invokevirtual 99, 3) := by decide +kernel
theorem dX4_wouldChange_5 : decode cX4_wouldChange 5 = .ok (.ifCond .ne 16, 3) := by decide +kernel
theorem dX4_wouldChange_8 : decode cX4_wouldChange 8 = .ok (.aload_n 0, 1) := by decide +kernel
theorem dX4_wouldChange_9 : decode cX4_wouldChange 9 = .ok (.iload_n 1, 1) := by decide +kernel
theorem dX4_wouldChange_10 : decode cX4_wouldChange 10 = .ok (.iload_n 2, 1) := by decide +kernel
theorem dX4_wouldChange_11 : decode cX4_wouldChange 11 = .ok (.invokevirtual 102, 3) := by decide +kernel
theorem dX4_wouldChange_14 : decode cX4_wouldChange 14 = .ok (.ifCond .le 7, 3) := by decide +kernel
theorem dX4_wouldChange_17 : decode cX4_wouldChange 17 = .ok (.iconst 1, 1) := by decide +kernel
theorem dX4_wouldChange_18 : decode cX4_wouldChange 18 = .ok (.goto 4, 3) := by decide +kernel
theorem dX4_wouldChange_21 : decode cX4_wouldChange 21 = .ok (.iconst 0, 1) := by decide +kernel
theorem dX4_wouldChange_22 : decode cX4_wouldChange 22 = .ok (.ireturn, 1) := by decide +kernel
theorem dX4_needOf_0 : decode cX4_needOf 0 = .ok (.aload_n 0, 1) := by decide +kernel
theorem dX4_needOf_1 : decode cX4_needOf 1 = .ok (.iload_n 1, 1) := by decide +kernel
theorem dX4_needOf_2 : decode cX4_needOf 2 = .ok (.iload_n 2, 1) := by decide +kernel
theorem dX4_needOf_3 : decode cX4_needOf 3 = .ok (.invokevirtual 105, 3) := by decide +kernel
theorem dX4_needOf_6 : decode cX4_needOf 6 = .ok (.ifCond .eq 12, 3) := by decide +kernel
theorem dX4_needOf_9 : decode cX4_needOf 9 = .ok (.aload_n 0, 1) := by decide +kernel
theorem dX4_needOf_10 : decode cX4_needOf 10 = .ok (.iload_n 1, 1) := by decide +kernel
theorem dX4_needOf_11 : decode cX4_needOf 11 = .ok (.iload_n 2, 1) := by decide +kernel
theorem dX4_needOf_12 : decode cX4_needOf 12 = .ok (.invokevirtual 102, 3) := by decide +kernel
theorem dX4_needOf_15 : decode cX4_needOf 15 = .ok (.goto 4, 3) := by decide +kernel
theorem dX4_needOf_18 : decode cX4_needOf 18 = .ok (.iconst 0, 1) := by decide +kernel
theorem dX4_needOf_19 : decode cX4_needOf 19 = .ok (.ireturn, 1) := by decide +kernel
theorem dX4_firstRestless_0 : decode cX4_firstRestless 0 = .ok (.iconst 0, 1) := by decide +kernel
theorem dX4_firstRestless_1 : decode cX4_firstRestless 1 = .ok (.istore_n 2, 1) := by decide +kernel
theorem dX4_firstRestless_2 : decode cX4_firstRestless 2 = .ok (.iload_n 2, 1) := by decide +kernel
theorem dX4_firstRestless_3 : decode cX4_firstRestless 3 = .ok (.aload_n 0, 1) := by decide +kernel
theorem dX4_firstRestless_4 : decode cX4_firstRestless 4 = .ok (.getfield 33, 3) := by decide +kernel
theorem dX4_firstRestless_7 : decode cX4_firstRestless 7 = .ok (.if_icmp .ge 39, 3) := by decide +kernel
theorem dX4_firstRestless_10 : decode cX4_firstRestless 10 = .ok (.aload_n 0, 1) := by decide +kernel
theorem dX4_firstRestless_11 : decode cX4_firstRestless 11 = .ok (.iload_n 2, 1) := by decide +kernel
theorem dX4_firstRestless_12 : decode cX4_firstRestless 12 = .ok (.invokevirtual 99, 3) := by decide +kernel
theorem dX4_firstRestless_15 : decode cX4_firstRestless 15 = .ok (.ifCond .eq 14, 3) := by decide +kernel
theorem dX4_firstRestless_18 : decode cX4_firstRestless 18 = .ok (.iload_n 2, 1) := by decide +kernel
theorem dX4_firstRestless_19 : decode cX4_firstRestless 19 = .ok (.iload_n 1, 1) := by decide +kernel
theorem dX4_firstRestless_20 : decode cX4_firstRestless 20 = .ok (.invokestatic 63, 3) := by decide +kernel
theorem dX4_firstRestless_23 : decode cX4_firstRestless 23 = .ok (.ifCond .ne 17, 3) := by decide +kernel
theorem dX4_firstRestless_26 : decode cX4_firstRestless 26 = .ok (.goto 12, 3) := by decide +kernel
theorem dX4_firstRestless_29 : decode cX4_firstRestless 29 = .ok (.aload_n 0, 1) := by decide +kernel
theorem dX4_firstRestless_30 : decode cX4_firstRestless 30 = .ok (.iload_n 2, 1) := by decide +kernel
theorem dX4_firstRestless_31 : decode cX4_firstRestless 31 = .ok (.iload_n 1, 1) := by decide +kernel
theorem dX4_firstRestless_32 : decode cX4_firstRestless 32 = .ok (.invokevirtual 102, 3) := by decide +kernel
theorem dX4_firstRestless_35 : decode cX4_firstRestless 35 = .ok (.ifCond .le 5, 3) := by decide +kernel
theorem dX4_firstRestless_38 : decode cX4_firstRestless 38 = .ok (.iload_n 2, 1) := by decide +kernel
theorem dX4_firstRestless_39 : decode cX4_firstRestless 39 = .ok (.ireturn, 1) := by decide +kernel
theorem dX4_firstRestless_40 : decode cX4_firstRestless 40 = .ok (.iinc 2 1, 3) := by decide +kernel
theorem dX4_firstRestless_43 : decode cX4_firstRestless 43 = .ok (.goto (-41), 3) := by decide +kernel
theorem dX4_firstRestless_46 : decode cX4_firstRestless 46 = .ok (.iconst (-1), 1) := by decide +kernel
theorem dX4_firstRestless_47 : decode cX4_firstRestless 47 = .ok (.ireturn, 1) := by decide +kernel
theorem dX4_isRest_0 : decode cX4_isRest 0 = .ok (.aload_n 0, 1) := by decide +kernel
theorem dX4_isRest_1 : decode cX4_isRest 1 = .ok (.iload_n 1, 1) := by decide +kernel
theorem dX4_isRest_2 : decode cX4_isRest 2 = .ok (.invokevirtual 108, 3) := by decide +kernel
theorem dX4_isRest_5 : decode cX4_isRest 5 = .ok (.iconst (-1), 1) := by decide +kernel
theorem dX4_isRest_6 : decode cX4_isRest 6 = .ok (.if_icmp .ne 7, 3) := by decide +kernel
theorem dX4_isRest_9 : decode cX4_isRest 9 = .ok (.iconst 1, 1) := by decide +kernel
theorem dX4_isRest_10 : decode cX4_isRest 10 = .ok (.goto 4, 3) := by decide +kernel
theorem dX4_isRest_13 : decode cX4_isRest 13 = .ok (.iconst 0, 1) := by decide +kernel
theorem dX4_isRest_14 : decode cX4_isRest 14 = .ok (.ireturn, 1) := by decide +kernel
theorem dX4_rests_0 : decode cX4_rests 0 = .ok (.iconst 0, 1) := by decide +kernel
theorem dX4_rests_1 : decode cX4_rests 1 = .ok (.istore_n 1, 1) := by decide +kernel
theorem dX4_rests_2 : decode cX4_rests 2 = .ok (.iconst 0, 1) := by decide +kernel
theorem dX4_rests_3 : decode cX4_rests 3 = .ok (.istore_n 2, 1) := by decide +kernel
theorem dX4_rests_4 : decode cX4_rests 4 = .ok (.iload_n 2, 1) := by decide +kernel
theorem dX4_rests_5 : decode cX4_rests 5 = .ok (.aload_n 0, 1) := by decide +kernel
theorem dX4_rests_6 : decode cX4_rests 6 = .ok (.invokevirtual 59, 3) := by decide +kernel
theorem dX4_rests_9 : decode cX4_rests 9 = .ok (.if_icmp .ge 20, 3) := by decide +kernel
theorem dX4_rests_12 : decode cX4_rests 12 = .ok (.aload_n 0, 1) := by decide +kernel
theorem dX4_rests_13 : decode cX4_rests 13 = .ok (.iload_n 2, 1) := by decide +kernel
theorem dX4_rests_14 : decode cX4_rests 14 = .ok (.invokevirtual 111, 3) := by decide +kernel
theorem dX4_rests_17 : decode cX4_rests 17 = .ok (.ifCond .eq 6, 3) := by decide +kernel
theorem dX4_rests_20 : decode cX4_rests 20 = .ok (.iinc 1 1, 3) := by decide +kernel
theorem dX4_rests_23 : decode cX4_rests 23 = .ok (.iinc 2 1, 3) := by decide +kernel
theorem dX4_rests_26 : decode cX4_rests 26 = .ok (.goto (-22), 3) := by decide +kernel
theorem dX4_rests_29 : decode cX4_rests 29 = .ok (.iload_n 1, 1) := by decide +kernel
theorem dX4_rests_30 : decode cX4_rests 30 = .ok (.ireturn, 1) := by decide +kernel
theorem dX4_restNumber_0 : decode cX4_restNumber 0 = .ok (.iconst 0, 1) := by decide +kernel
theorem dX4_restNumber_1 : decode cX4_restNumber 1 = .ok (.istore_n 2, 1) := by decide +kernel
theorem dX4_restNumber_2 : decode cX4_restNumber 2 = .ok (.iconst 0, 1) := by decide +kernel
theorem dX4_restNumber_3 : decode cX4_restNumber 3 = .ok (.istore_n 3, 1) := by decide +kernel
theorem dX4_restNumber_4 : decode cX4_restNumber 4 = .ok (.iload_n 3, 1) := by decide +kernel
theorem dX4_restNumber_5 : decode cX4_restNumber 5 = .ok (.aload_n 0, 1) := by decide +kernel
theorem dX4_restNumber_6 : decode cX4_restNumber 6 = .ok (.invokevirtual 59, 3) := by decide +kernel
theorem dX4_restNumber_9 : decode cX4_restNumber 9 = .ok (.if_icmp .ge 27, 3) := by decide +kernel
theorem dX4_restNumber_12 : decode cX4_restNumber 12 = .ok (.aload_n 0, 1) := by decide +kernel
theorem dX4_restNumber_13 : decode cX4_restNumber 13 = .ok (.iload_n 3, 1) := by decide +kernel
theorem dX4_restNumber_14 : decode cX4_restNumber 14 = .ok (.invokevirtual 111, 3) := by decide +kernel
theorem dX4_restNumber_17 : decode cX4_restNumber 17 = .ok (.ifCond .eq 13, 3) := by decide +kernel
theorem dX4_restNumber_20 : decode cX4_restNumber 20 = .ok (.iload_n 2, 1) := by decide +kernel
theorem dX4_restNumber_21 : decode cX4_restNumber 21 = .ok (.iload_n 1, 1) := by decide +kernel
theorem dX4_restNumber_22 : decode cX4_restNumber 22 = .ok (.if_icmp .ne 5, 3) := by decide +kernel
theorem dX4_restNumber_25 : decode cX4_restNumber 25 = .ok (.iload_n 3, 1) := by decide +kernel
theorem dX4_restNumber_26 : decode cX4_restNumber 26 = .ok (.ireturn, 1) := by decide +kernel
theorem dX4_restNumber_27 : decode cX4_restNumber 27 = .ok (.iinc 2 1, 3) := by decide +kernel
theorem dX4_restNumber_30 : decode cX4_restNumber 30 = .ok (.iinc 3 1, 3) := by decide +kernel
theorem dX4_restNumber_33 : decode cX4_restNumber 33 = .ok (.goto (-29), 3) := by decide +kernel
theorem dX4_restNumber_36 : decode cX4_restNumber 36 = .ok (.iconst (-1), 1) := by decide +kernel
theorem dX4_restNumber_37 : decode cX4_restNumber 37 = .ok (.ireturn, 1) := by decide +kernel
theorem dX4_choose_0 : decode cX4_choose 0 = .ok (.iconst (-1), 1) := by decide +kernel
theorem dX4_choose_1 : decode cX4_choose 1 = .ok (.istore_n 3, 1) := by decide +kernel
theorem dX4_choose_2 : decode cX4_choose 2 = .ok (.iconst 0, 1) := by decide +kernel
theorem dX4_choose_3 : decode cX4_choose 3 = .ok (.istore 4, 2) := by decide +kernel
theorem dX4_choose_5 : decode cX4_choose 5 = .ok (.iconst 0, 1) := by decide +kernel
theorem dX4_choose_6 : decode cX4_choose 6 = .ok (.istore 5, 2) := by decide +kernel
theorem dX4_choose_8 : decode cX4_choose 8 = .ok (.iload 5, 2) := by decide +kernel
theorem dX4_choose_10 : decode cX4_choose 10 = .ok (.aload_n 0, 1) := by decide +kernel
theorem dX4_choose_11 : decode cX4_choose 11 = .ok (.invokevirtual 59, 3) := by decide +kernel
theorem dX4_choose_14 : decode cX4_choose 14 = .ok (.if_icmp .ge 65, 3) := by decide +kernel
theorem dX4_choose_17 : decode cX4_choose 17 = .ok (.iload_n 2, 1) := by decide +kernel
theorem dX4_choose_18 : decode cX4_choose 18 = .ok (.ifCond .eq 15, 3) := by decide +kernel
theorem dX4_choose_21 : decode cX4_choose 21 = .ok (.aload_n 0, 1) := by decide +kernel
theorem dX4_choose_22 : decode cX4_choose 22 = .ok (.iload 5, 2) := by decide +kernel
theorem dX4_choose_24 : decode cX4_choose 24 = .ok (.invokevirtual 111, 3) := by decide +kernel
theorem dX4_choose_27 : decode cX4_choose 27 = .ok (.ifCond .ne 18, 3) := by decide +kernel
theorem dX4_choose_30 : decode cX4_choose 30 = .ok (.goto 43, 3) := by decide +kernel
theorem dX4_choose_33 : decode cX4_choose 33 = .ok (.aload_n 0, 1) := by decide +kernel
theorem dX4_choose_34 : decode cX4_choose 34 = .ok (.iload 5, 2) := by decide +kernel
theorem dX4_choose_36 : decode cX4_choose 36 = .ok (.invokevirtual 114, 3) := by decide +kernel
theorem dX4_choose_39 : decode cX4_choose 39 = .ok (.ifCond .ne 6, 3) := by decide +kernel
theorem dX4_choose_42 : decode cX4_choose 42 = .ok (.goto 31, 3) := by decide +kernel
theorem dX4_choose_45 : decode cX4_choose 45 = .ok (.aload_n 0, 1) := by decide +kernel
theorem dX4_choose_46 : decode cX4_choose 46 = .ok (.iload 5, 2) := by decide +kernel
theorem dX4_choose_48 : decode cX4_choose 48 = .ok (.iload_n 1, 1) := by decide +kernel
theorem dX4_choose_49 : decode cX4_choose 49 = .ok (.invokevirtual 117, 3) := by decide +kernel
theorem dX4_choose_52 : decode cX4_choose 52 = .ok (.istore 6, 2) := by decide +kernel
theorem dX4_choose_54 : decode cX4_choose 54 = .ok (.iload_n 3, 1) := by decide +kernel
theorem dX4_choose_55 : decode cX4_choose 55 = .ok (.iconst (-1), 1) := by decide +kernel
theorem dX4_choose_56 : decode cX4_choose 56 = .ok (.if_icmp .eq 10, 3) := by decide +kernel
theorem dX4_choose_59 : decode cX4_choose 59 = .ok (.iload 6, 2) := by decide +kernel
theorem dX4_choose_61 : decode cX4_choose 61 = .ok (.iload 4, 2) := by decide +kernel
theorem dX4_choose_63 : decode cX4_choose 63 = .ok (.if_icmp .le 10, 3) := by decide +kernel
theorem dX4_choose_66 : decode cX4_choose 66 = .ok (.iload 5, 2) := by decide +kernel
theorem dX4_choose_68 : decode cX4_choose 68 = .ok (.istore_n 3, 1) := by decide +kernel
theorem dX4_choose_69 : decode cX4_choose 69 = .ok (.iload 6, 2) := by decide +kernel
theorem dX4_choose_71 : decode cX4_choose 71 = .ok (.istore 4, 2) := by decide +kernel
theorem dX4_choose_73 : decode cX4_choose 73 = .ok (.iinc 5 1, 3) := by decide +kernel
theorem dX4_choose_76 : decode cX4_choose 76 = .ok (.goto (-68), 3) := by decide +kernel
theorem dX4_choose_79 : decode cX4_choose 79 = .ok (.iload_n 3, 1) := by decide +kernel
theorem dX4_choose_80 : decode cX4_choose 80 = .ok (.ireturn, 1) := by decide +kernel
theorem dX4_valueOf_0 : decode cX4_valueOf 0 = .ok (.iload_n 2, 1) := by decide +kernel
theorem dX4_valueOf_1 : decode cX4_valueOf 1 = .ok (.tableswitch 60 0 4 #[35, 41, 46, 60, 53], 35) := by decide +kernel
theorem dX4_valueOf_36 : decode cX4_valueOf 36 = .ok (.iload_n 1, 1) := by decide +kernel
theorem dX4_valueOf_37 : decode cX4_valueOf 37 = .ok (.invokestatic 86, 3) := by decide +kernel
theorem dX4_valueOf_40 : decode cX4_valueOf 40 = .ok (.ineg, 1) := by decide +kernel
theorem dX4_valueOf_41 : decode cX4_valueOf 41 = .ok (.ireturn, 1) := by decide +kernel
theorem dX4_valueOf_42 : decode cX4_valueOf 42 = .ok (.iload_n 1, 1) := by decide +kernel
theorem dX4_valueOf_43 : decode cX4_valueOf 43 = .ok (.invokestatic 86, 3) := by decide +kernel
theorem dX4_valueOf_46 : decode cX4_valueOf 46 = .ok (.ireturn, 1) := by decide +kernel
theorem dX4_valueOf_47 : decode cX4_valueOf 47 = .ok (.aload_n 0, 1) := by decide +kernel
theorem dX4_valueOf_48 : decode cX4_valueOf 48 = .ok (.iload_n 1, 1) := by decide +kernel
theorem dX4_valueOf_49 : decode cX4_valueOf 49 = .ok (.invokevirtual 120, 3) := by decide +kernel
theorem dX4_valueOf_52 : decode cX4_valueOf 52 = .ok (.ineg, 1) := by decide +kernel
theorem dX4_valueOf_53 : decode cX4_valueOf 53 = .ok (.ireturn, 1) := by decide +kernel
theorem dX4_valueOf_54 : decode cX4_valueOf 54 = .ok (.aload_n 0, 1) := by decide +kernel
theorem dX4_valueOf_55 : decode cX4_valueOf 55 = .ok (.iload_n 1, 1) := by decide +kernel
theorem dX4_valueOf_56 : decode cX4_valueOf 56 = .ok (.invokevirtual 123, 3) := by decide +kernel
theorem dX4_valueOf_59 : decode cX4_valueOf 59 = .ok (.ineg, 1) := by decide +kernel
theorem dX4_valueOf_60 : decode cX4_valueOf 60 = .ok (.ireturn, 1) := by decide +kernel
theorem dX4_valueOf_61 : decode cX4_valueOf 61 = .ok (.aload_n 0, 1) := by decide +kernel
theorem dX4_valueOf_62 : decode cX4_valueOf 62 = .ok (.iload_n 1, 1) := by decide +kernel
theorem dX4_valueOf_63 : decode cX4_valueOf 63 = .ok (.invokevirtual 123, 3) := by decide +kernel
theorem dX4_valueOf_66 : decode cX4_valueOf 66 = .ok (.ireturn, 1) := by decide +kernel
theorem dX4_costOf_0 : decode cX4_costOf 0 = .ok (.iconst 0, 1) := by decide +kernel
theorem dX4_costOf_1 : decode cX4_costOf 1 = .ok (.istore_n 2, 1) := by decide +kernel
theorem dX4_costOf_2 : decode cX4_costOf 2 = .ok (.iconst 0, 1) := by decide +kernel
theorem dX4_costOf_3 : decode cX4_costOf 3 = .ok (.istore_n 3, 1) := by decide +kernel
theorem dX4_costOf_4 : decode cX4_costOf 4 = .ok (.iload_n 3, 1) := by decide +kernel
theorem dX4_costOf_5 : decode cX4_costOf 5 = .ok (.aload_n 0, 1) := by decide +kernel
theorem dX4_costOf_6 : decode cX4_costOf 6 = .ok (.getfield 33, 3) := by decide +kernel
theorem dX4_costOf_9 : decode cX4_costOf 9 = .ok (.if_icmp .ge 26, 3) := by decide +kernel
theorem dX4_costOf_12 : decode cX4_costOf 12 = .ok (.iload_n 3, 1) := by decide +kernel
theorem dX4_costOf_13 : decode cX4_costOf 13 = .ok (.iload_n 1, 1) := by decide +kernel
theorem dX4_costOf_14 : decode cX4_costOf 14 = .ok (.invokestatic 63, 3) := by decide +kernel
theorem dX4_costOf_17 : decode cX4_costOf 17 = .ok (.ifCond .eq 12, 3) := by decide +kernel
theorem dX4_costOf_20 : decode cX4_costOf 20 = .ok (.iload_n 2, 1) := by decide +kernel
theorem dX4_costOf_21 : decode cX4_costOf 21 = .ok (.aload_n 0, 1) := by decide +kernel
theorem dX4_costOf_22 : decode cX4_costOf 22 = .ok (.getfield 9, 3) := by decide +kernel
theorem dX4_costOf_25 : decode cX4_costOf 25 = .ok (.iload_n 3, 1) := by decide +kernel
theorem dX4_costOf_26 : decode cX4_costOf 26 = .ok (.iaload, 1) := by decide +kernel
theorem dX4_costOf_27 : decode cX4_costOf 27 = .ok (.iadd, 1) := by decide +kernel
theorem dX4_costOf_28 : decode cX4_costOf 28 = .ok (.istore_n 2, 1) := by decide +kernel
theorem dX4_costOf_29 : decode cX4_costOf 29 = .ok (.iinc 3 1, 3) := by decide +kernel
theorem dX4_costOf_32 : decode cX4_costOf 32 = .ok (.goto (-28), 3) := by decide +kernel
theorem dX4_costOf_35 : decode cX4_costOf 35 = .ok (.iload_n 2, 1) := by decide +kernel
theorem dX4_costOf_36 : decode cX4_costOf 36 = .ok (.ireturn, 1) := by decide +kernel
theorem dX4_afterRound_0 : decode cX4_afterRound 0 = .ok (.iload_n 1, 1) := by decide +kernel
theorem dX4_afterRound_1 : decode cX4_afterRound 1 = .ok (.istore_n 2, 1) := by decide +kernel
theorem dX4_afterRound_2 : decode cX4_afterRound 2 = .ok (.iconst 0, 1) := by decide +kernel
theorem dX4_afterRound_3 : decode cX4_afterRound 3 = .ok (.istore_n 3, 1) := by decide +kernel
theorem dX4_afterRound_4 : decode cX4_afterRound 4 = .ok (.iload_n 3, 1) := by decide +kernel
theorem dX4_afterRound_5 : decode cX4_afterRound 5 = .ok (.aload_n 0, 1) := by decide +kernel
theorem dX4_afterRound_6 : decode cX4_afterRound 6 = .ok (.getfield 33, 3) := by decide +kernel
theorem dX4_afterRound_9 : decode cX4_afterRound 9 = .ok (.if_icmp .ge 24, 3) := by decide +kernel
theorem dX4_afterRound_12 : decode cX4_afterRound 12 = .ok (.aload_n 0, 1) := by decide +kernel
theorem dX4_afterRound_13 : decode cX4_afterRound 13 = .ok (.iload_n 3, 1) := by decide +kernel
theorem dX4_afterRound_14 : decode cX4_afterRound 14 = .ok (.iload_n 2, 1) := by decide +kernel
theorem dX4_afterRound_15 : decode cX4_afterRound 15 = .ok (.invokevirtual 105, 3) := by decide +kernel
theorem dX4_afterRound_18 : decode cX4_afterRound 18 = .ok (.ifCond .eq 9, 3) := by decide +kernel
theorem dX4_afterRound_21 : decode cX4_afterRound 21 = .ok (.iload_n 2, 1) := by decide +kernel
theorem dX4_afterRound_22 : decode cX4_afterRound 22 = .ok (.iconst 1, 1) := by decide +kernel
theorem dX4_afterRound_23 : decode cX4_afterRound 23 = .ok (.iload_n 3, 1) := by decide +kernel
theorem dX4_afterRound_24 : decode cX4_afterRound 24 = .ok (.ishl, 1) := by decide +kernel
theorem dX4_afterRound_25 : decode cX4_afterRound 25 = .ok (.ixor, 1) := by decide +kernel
theorem dX4_afterRound_26 : decode cX4_afterRound 26 = .ok (.istore_n 2, 1) := by decide +kernel
theorem dX4_afterRound_27 : decode cX4_afterRound 27 = .ok (.iinc 3 1, 3) := by decide +kernel
theorem dX4_afterRound_30 : decode cX4_afterRound 30 = .ok (.goto (-26), 3) := by decide +kernel
theorem dX4_afterRound_33 : decode cX4_afterRound 33 = .ok (.iload_n 2, 1) := by decide +kernel
theorem dX4_afterRound_34 : decode cX4_afterRound 34 = .ok (.ireturn, 1) := by decide +kernel
theorem dX4_chanceOf_0 : decode cX4_chanceOf 0 = .ok (.aload_n 0, 1) := by decide +kernel
theorem dX4_chanceOf_1 : decode cX4_chanceOf 1 = .ok (.iload_n 1, 1) := by decide +kernel
theorem dX4_chanceOf_2 : decode cX4_chanceOf 2 = .ok (.invokevirtual 99, 3) := by decide +kernel
theorem dX4_chanceOf_5 : decode cX4_chanceOf 5 = .ok (.ifCond .eq 7, 3) := by decide +kernel
theorem dX4_chanceOf_8 : decode cX4_chanceOf 8 = .ok (.sipush 1000, 3) := by decide +kernel
theorem dX4_chanceOf_11 : decode cX4_chanceOf 11 = .ok (.ireturn, 1) := by decide +kernel
theorem dX4_chanceOf_12 : decode cX4_chanceOf 12 = .ok (.aload_n 0, 1) := by decide +kernel
theorem dX4_chanceOf_13 : decode cX4_chanceOf 13 = .ok (.getfield 21, 3) := by decide +kernel
theorem dX4_chanceOf_16 : decode cX4_chanceOf 16 = .ok (.iload_n 1, 1) := by decide +kernel
theorem dX4_chanceOf_17 : decode cX4_chanceOf 17 = .ok (.iaload, 1) := by decide +kernel
theorem dX4_chanceOf_18 : decode cX4_chanceOf 18 = .ok (.iconst 2, 1) := by decide +kernel
theorem dX4_chanceOf_19 : decode cX4_chanceOf 19 = .ok (.if_icmp .ne 10, 3) := by decide +kernel
theorem dX4_chanceOf_22 : decode cX4_chanceOf 22 = .ok (.aload_n 0, 1) := by decide +kernel
theorem dX4_chanceOf_23 : decode cX4_chanceOf 23 = .ok (.getfield 24, 3) := by decide +kernel
theorem dX4_chanceOf_26 : decode cX4_chanceOf 26 = .ok (.iload_n 1, 1) := by decide +kernel
theorem dX4_chanceOf_27 : decode cX4_chanceOf 27 = .ok (.iaload, 1) := by decide +kernel
theorem dX4_chanceOf_28 : decode cX4_chanceOf 28 = .ok (.ireturn, 1) := by decide +kernel
theorem dX4_chanceOf_29 : decode cX4_chanceOf 29 = .ok (.aload_n 0, 1) := by decide +kernel
theorem dX4_chanceOf_30 : decode cX4_chanceOf 30 = .ok (.iload_n 1, 1) := by decide +kernel
theorem dX4_chanceOf_31 : decode cX4_chanceOf 31 = .ok (.iload_n 2, 1) := by decide +kernel
theorem dX4_chanceOf_32 : decode cX4_chanceOf 32 = .ok (.invokevirtual 126, 3) := by decide +kernel
theorem dX4_chanceOf_35 : decode cX4_chanceOf 35 = .ok (.ifCond .eq 9, 3) := by decide +kernel
theorem dX4_chanceOf_38 : decode cX4_chanceOf 38 = .ok (.sipush 1000, 3) := by decide +kernel
theorem dX4_chanceOf_41 : decode cX4_chanceOf 41 = .ok (.goto 4, 3) := by decide +kernel
theorem dX4_chanceOf_44 : decode cX4_chanceOf 44 = .ok (.iconst 0, 1) := by decide +kernel
theorem dX4_chanceOf_45 : decode cX4_chanceOf 45 = .ok (.ireturn, 1) := by decide +kernel
theorem dX4_doesSurely_0 : decode cX4_doesSurely 0 = .ok (.aload_n 0, 1) := by decide +kernel
theorem dX4_doesSurely_1 : decode cX4_doesSurely 1 = .ok (.getfield 24, 3) := by decide +kernel
theorem dX4_doesSurely_4 : decode cX4_doesSurely 4 = .ok (.iload_n 1, 1) := by decide +kernel
theorem dX4_doesSurely_5 : decode cX4_doesSurely 5 = .ok (.iaload, 1) := by decide +kernel
theorem dX4_doesSurely_6 : decode cX4_doesSurely 6 = .ok (.istore_n 3, 1) := by decide +kernel
theorem dX4_doesSurely_7 : decode cX4_doesSurely 7 = .ok (.aload_n 0, 1) := by decide +kernel
theorem dX4_doesSurely_8 : decode cX4_doesSurely 8 = .ok (.getfield 21, 3) := by decide +kernel
theorem dX4_doesSurely_11 : decode cX4_doesSurely 11 = .ok (.iload_n 1, 1) := by decide +kernel
theorem dX4_doesSurely_12 : decode cX4_doesSurely 12 = .ok (.iaload, 1) := by decide +kernel
theorem dX4_doesSurely_13 : decode cX4_doesSurely 13 = .ok (.tableswitch 108 1 5 #[35, 108, 46, 65, 93], 35) := by decide +kernel
theorem dX4_doesSurely_48 : decode cX4_doesSurely 48 = .ok (.iload_n 3, 1) := by decide +kernel
theorem dX4_doesSurely_49 : decode cX4_doesSurely 49 = .ok (.iconst 1, 1) := by decide +kernel
theorem dX4_doesSurely_50 : decode cX4_doesSurely 50 = .ok (.if_icmp .ne 7, 3) := by decide +kernel
theorem dX4_doesSurely_53 : decode cX4_doesSurely 53 = .ok (.iconst 1, 1) := by decide +kernel
theorem dX4_doesSurely_54 : decode cX4_doesSurely 54 = .ok (.goto 4, 3) := by decide +kernel
theorem dX4_doesSurely_57 : decode cX4_doesSurely 57 = .ok (.iconst 0, 1) := by decide +kernel
theorem dX4_doesSurely_58 : decode cX4_doesSurely 58 = .ok (.ireturn, 1) := by decide +kernel
theorem dX4_doesSurely_59 : decode cX4_doesSurely 59 = .ok (.aload_n 0, 1) := by decide +kernel
theorem dX4_doesSurely_60 : decode cX4_doesSurely 60 = .ok (.getfield 18, 3) := by decide +kernel
theorem dX4_doesSurely_63 : decode cX4_doesSurely 63 = .ok (.iload_n 1, 1) := by decide +kernel
theorem dX4_doesSurely_64 : decode cX4_doesSurely 64 = .ok (.iaload, 1) := by decide +kernel
theorem dX4_doesSurely_65 : decode cX4_doesSurely 65 = .ok (.invokestatic 86, 3) := by decide +kernel
theorem dX4_doesSurely_68 : decode cX4_doesSurely 68 = .ok (.iload_n 3, 1) := by decide +kernel
theorem dX4_doesSurely_69 : decode cX4_doesSurely 69 = .ok (.if_icmp .gt 7, 3) := by decide +kernel
theorem dX4_doesSurely_72 : decode cX4_doesSurely 72 = .ok (.iconst 1, 1) := by decide +kernel
theorem dX4_doesSurely_73 : decode cX4_doesSurely 73 = .ok (.goto 4, 3) := by decide +kernel
theorem dX4_doesSurely_76 : decode cX4_doesSurely 76 = .ok (.iconst 0, 1) := by decide +kernel
theorem dX4_doesSurely_77 : decode cX4_doesSurely 77 = .ok (.ireturn, 1) := by decide +kernel
theorem dX4_doesSurely_78 : decode cX4_doesSurely 78 = .ok (.iload_n 3, 1) := by decide +kernel
theorem dX4_doesSurely_79 : decode cX4_doesSurely 79 = .ok (.bipush 100, 2) := by decide +kernel
theorem dX4_doesSurely_81 : decode cX4_doesSurely 81 = .ok (.idiv, 1) := by decide +kernel
theorem dX4_doesSurely_82 : decode cX4_doesSurely 82 = .ok (.istore 4, 2) := by decide +kernel
theorem dX4_doesSurely_84 : decode cX4_doesSurely 84 = .ok (.iload 4, 2) := by decide +kernel
theorem dX4_doesSurely_86 : decode cX4_doesSurely 86 = .ok (.ifCond .le 18, 3) := by decide +kernel
theorem dX4_doesSurely_89 : decode cX4_doesSurely 89 = .ok (.iload_n 2, 1) := by decide +kernel
theorem dX4_doesSurely_90 : decode cX4_doesSurely 90 = .ok (.iload 4, 2) := by decide +kernel
theorem dX4_doesSurely_92 : decode cX4_doesSurely 92 = .ok (.irem, 1) := by decide +kernel
theorem dX4_doesSurely_93 : decode cX4_doesSurely 93 = .ok (.iload_n 3, 1) := by decide +kernel
theorem dX4_doesSurely_94 : decode cX4_doesSurely 94 = .ok (.bipush 100, 2) := by decide +kernel
theorem dX4_doesSurely_96 : decode cX4_doesSurely 96 = .ok (.irem, 1) := by decide +kernel
theorem dX4_doesSurely_97 : decode cX4_doesSurely 97 = .ok (.if_icmp .ne 7, 3) := by decide +kernel
theorem dX4_doesSurely_100 : decode cX4_doesSurely 100 = .ok (.iconst 1, 1) := by decide +kernel
theorem dX4_doesSurely_101 : decode cX4_doesSurely 101 = .ok (.goto 4, 3) := by decide +kernel
theorem dX4_doesSurely_104 : decode cX4_doesSurely 104 = .ok (.iconst 0, 1) := by decide +kernel
theorem dX4_doesSurely_105 : decode cX4_doesSurely 105 = .ok (.ireturn, 1) := by decide +kernel
theorem dX4_doesSurely_106 : decode cX4_doesSurely 106 = .ok (.aload_n 0, 1) := by decide +kernel
theorem dX4_doesSurely_107 : decode cX4_doesSurely 107 = .ok (.iload_n 1, 1) := by decide +kernel
theorem dX4_doesSurely_108 : decode cX4_doesSurely 108 = .ok (.iload_n 3, 1) := by decide +kernel
theorem dX4_doesSurely_109 : decode cX4_doesSurely 109 = .ok (.invokevirtual 96, 3) := by decide +kernel
theorem dX4_doesSurely_112 : decode cX4_doesSurely 112 = .ok (.ifCond .le 7, 3) := by decide +kernel
theorem dX4_doesSurely_115 : decode cX4_doesSurely 115 = .ok (.iconst 1, 1) := by decide +kernel
theorem dX4_doesSurely_116 : decode cX4_doesSurely 116 = .ok (.goto 4, 3) := by decide +kernel
theorem dX4_doesSurely_119 : decode cX4_doesSurely 119 = .ok (.iconst 0, 1) := by decide +kernel
theorem dX4_doesSurely_120 : decode cX4_doesSurely 120 = .ok (.ireturn, 1) := by decide +kernel
theorem dX4_doesSurely_121 : decode cX4_doesSurely 121 = .ok (.iconst 0, 1) := by decide +kernel
theorem dX4_doesSurely_122 : decode cX4_doesSurely 122 = .ok (.ireturn, 1) := by decide +kernel
theorem dX4_lightAfter_0 : decode cX4_lightAfter 0 = .ok (.iload_n 1, 1) := by decide +kernel
theorem dX4_lightAfter_1 : decode cX4_lightAfter 1 = .ok (.istore_n 3, 1) := by decide +kernel
theorem dX4_lightAfter_2 : decode cX4_lightAfter 2 = .ok (.iconst 0, 1) := by decide +kernel
theorem dX4_lightAfter_3 : decode cX4_lightAfter 3 = .ok (.istore 4, 2) := by decide +kernel
theorem dX4_lightAfter_5 : decode cX4_lightAfter 5 = .ok (.iload 4, 2) := by decide +kernel
theorem dX4_lightAfter_7 : decode cX4_lightAfter 7 = .ok (.aload_n 0, 1) := by decide +kernel
theorem dX4_lightAfter_8 : decode cX4_lightAfter 8 = .ok (.getfield 33, 3) := by decide +kernel
theorem dX4_lightAfter_11 : decode cX4_lightAfter 11 = .ok (.if_icmp .ge 27, 3) := by decide +kernel
theorem dX4_lightAfter_14 : decode cX4_lightAfter 14 = .ok (.iload_n 3, 1) := by decide +kernel
theorem dX4_lightAfter_15 : decode cX4_lightAfter 15 = .ok (.sipush 1000, 3) := by decide +kernel
theorem dX4_lightAfter_18 : decode cX4_lightAfter 18 = .ok (.aload_n 0, 1) := by decide +kernel
theorem dX4_lightAfter_19 : decode cX4_lightAfter 19 = .ok (.iload 4, 2) := by decide +kernel
theorem dX4_lightAfter_21 : decode cX4_lightAfter 21 = .ok (.iload_n 2, 1) := by decide +kernel
theorem dX4_lightAfter_22 : decode cX4_lightAfter 22 = .ok (.invokevirtual 129, 3) := by decide +kernel
theorem dX4_lightAfter_25 : decode cX4_lightAfter 25 = .ok (.isub, 1) := by decide +kernel
theorem dX4_lightAfter_26 : decode cX4_lightAfter 26 = .ok (.imul, 1) := by decide +kernel
theorem dX4_lightAfter_27 : decode cX4_lightAfter 27 = .ok (.sipush 1000, 3) := by decide +kernel
theorem dX4_lightAfter_30 : decode cX4_lightAfter 30 = .ok (.idiv, 1) := by decide +kernel
theorem dX4_lightAfter_31 : decode cX4_lightAfter 31 = .ok (.istore_n 3, 1) := by decide +kernel
theorem dX4_lightAfter_32 : decode cX4_lightAfter 32 = .ok (.iinc 4 1, 3) := by decide +kernel
theorem dX4_lightAfter_35 : decode cX4_lightAfter 35 = .ok (.goto (-30), 3) := by decide +kernel
theorem dX4_lightAfter_38 : decode cX4_lightAfter 38 = .ok (.iload_n 3, 1) := by decide +kernel
theorem dX4_lightAfter_39 : decode cX4_lightAfter 39 = .ok (.ireturn, 1) := by decide +kernel
theorem dX5_init_0 : decode cX5_init 0 = .ok (.aload_n 0, 1) := by decide +kernel
theorem dX5_init_1 : decode cX5_init 1 = .ok (.invokespecial 3, 3) := by decide +kernel
theorem dX5_init_4 : decode cX5_init 4 = .ok (.aload_n 0, 1) := by decide +kernel
theorem dX5_init_5 : decode cX5_init 5 = .ok (.iconst 4, 1) := by decide +kernel
theorem dX5_init_6 : decode cX5_init 6 = .ok (.anewarray 9, 3) := by decide +kernel
theorem dX5_init_9 : decode cX5_init 9 = .ok (.putfield 11, 3) := by decide +kernel
theorem dX5_init_12 : decode cX5_init 12 = .ok (.aload_n 0, 1) := by decide +kernel
theorem dX5_init_13 : decode cX5_init 13 = .ok (.bipush 6, 2) := by decide +kernel
theorem dX5_init_15 : decode cX5_init 15 = .ok (.newarray .int, 2) := by decide +kernel
theorem dX5_init_17 : decode cX5_init 17 = .ok (.putfield 17, 3) := by decide +kernel
theorem dX5_init_20 : decode cX5_init 20 = .ok (.aload_n 0, 1) := by decide +kernel
theorem dX5_init_21 : decode cX5_init 21 = .ok (.new 21, 3) := by decide +kernel
theorem dX5_init_24 : decode cX5_init 24 = .ok (.dup, 1) := by decide +kernel
theorem dX5_init_25 : decode cX5_init 25 = .ok (.invokespecial 23, 3) := by decide +kernel
theorem dX5_init_28 : decode cX5_init 28 = .ok (.putfield 24, 3) := by decide +kernel
theorem dX5_init_31 : decode cX5_init 31 = .ok (.aload_n 0, 1) := by decide +kernel
theorem dX5_init_32 : decode cX5_init 32 = .ok (.iconst 1, 1) := by decide +kernel
theorem dX5_init_33 : decode cX5_init 33 = .ok (.putfield 28, 3) := by decide +kernel
theorem dX5_init_36 : decode cX5_init 36 = .ok (.iconst 0, 1) := by decide +kernel
theorem dX5_init_37 : decode cX5_init 37 = .ok (.istore_n 1, 1) := by decide +kernel
theorem dX5_init_38 : decode cX5_init 38 = .ok (.iload_n 1, 1) := by decide +kernel
theorem dX5_init_39 : decode cX5_init 39 = .ok (.iconst 4, 1) := by decide +kernel
theorem dX5_init_40 : decode cX5_init 40 = .ok (.if_icmp .ge 22, 3) := by decide +kernel
theorem dX5_init_43 : decode cX5_init 43 = .ok (.aload_n 0, 1) := by decide +kernel
theorem dX5_init_44 : decode cX5_init 44 = .ok (.getfield 11, 3) := by decide +kernel
theorem dX5_init_47 : decode cX5_init 47 = .ok (.iload_n 1, 1) := by decide +kernel
theorem dX5_init_48 : decode cX5_init 48 = .ok (.new 9, 3) := by decide +kernel
theorem dX5_init_51 : decode cX5_init 51 = .ok (.dup, 1) := by decide +kernel
theorem dX5_init_52 : decode cX5_init 52 = .ok (.invokespecial 32, 3) := by decide +kernel
theorem dX5_init_55 : decode cX5_init 55 = .ok (.aastore, 1) := by decide +kernel
theorem dX5_init_56 : decode cX5_init 56 = .ok (.iinc 1 1, 3) := by decide +kernel
theorem dX5_init_59 : decode cX5_init 59 = .ok (.goto (-21), 3) := by decide +kernel
theorem dX5_init_62 : decode cX5_init 62 = .ok (.return_, 1) := by decide +kernel
theorem dX5_become_0 : decode cX5_become 0 = .ok (.iconst 0, 1) := by decide +kernel
theorem dX5_become_1 : decode cX5_become 1 = .ok (.istore_n 2, 1) := by decide +kernel
theorem dX5_become_2 : decode cX5_become 2 = .ok (.iload_n 2, 1) := by decide +kernel
theorem dX5_become_3 : decode cX5_become 3 = .ok (.aload_n 1, 1) := by decide +kernel
theorem dX5_become_4 : decode cX5_become 4 = .ok (.getfield 33, 3) := by decide +kernel
theorem dX5_become_7 : decode cX5_become 7 = .ok (.if_icmp .ge 29, 3) := by decide +kernel
theorem dX5_become_10 : decode cX5_become 10 = .ok (.iload_n 2, 1) := by decide +kernel
theorem dX5_become_11 : decode cX5_become 11 = .ok (.iconst 4, 1) := by decide +kernel
theorem dX5_become_12 : decode cX5_become 12 = .ok (.if_icmp .ge 24, 3) := by decide +kernel
theorem dX5_become_15 : decode cX5_become 15 = .ok (.aload_n 0, 1) := by decide +kernel
theorem dX5_become_16 : decode cX5_become 16 = .ok (.getfield 11, 3) := by decide +kernel
theorem dX5_become_19 : decode cX5_become 19 = .ok (.iload_n 2, 1) := by decide +kernel
theorem dX5_become_20 : decode cX5_become 20 = .ok (.aaload, 1) := by decide +kernel
theorem dX5_become_21 : decode cX5_become 21 = .ok (.aload_n 1, 1) := by decide +kernel
theorem dX5_become_22 : decode cX5_become 22 = .ok (.getfield 11, 3) := by decide +kernel
theorem dX5_become_25 : decode cX5_become 25 = .ok (.iload_n 2, 1) := by decide +kernel
theorem dX5_become_26 : decode cX5_become 26 = .ok (.aaload, 1) := by decide +kernel
theorem dX5_become_27 : decode cX5_become 27 = .ok (.invokevirtual 36, 3) := by decide +kernel
theorem dX5_become_30 : decode cX5_become 30 = .ok (.iinc 2 1, 3) := by decide +kernel
theorem dX5_become_33 : decode cX5_become 33 = .ok (.goto (-31), 3) := by decide +kernel
theorem dX5_become_36 : decode cX5_become 36 = .ok (.aload_n 1, 1) := by decide +kernel
theorem dX5_become_37 : decode cX5_become 37 = .ok (.getfield 17, 3) := by decide +kernel
theorem dX5_become_40 : decode cX5_become 40 = .ok (.iconst 0, 1) := by decide +kernel
theorem dX5_become_41 : decode cX5_become 41 = .ok (.aload_n 0, 1) := by decide +kernel
theorem dX5_become_42 : decode cX5_become 42 = .ok (.getfield 17, 3) := by decide +kernel
theorem dX5_become_45 : decode cX5_become 45 = .ok (.iconst 0, 1) := by decide +kernel
theorem dX5_become_46 : decode cX5_become 46 = .ok (.bipush 6, 2) := by decide +kernel
theorem dX5_become_48 : decode cX5_become 48 = .ok (.invokestatic 40, 3) := by decide +kernel
theorem dX5_become_51 : decode cX5_become 51 = .ok (.aload_n 0, 1) := by decide +kernel
theorem dX5_become_52 : decode cX5_become 52 = .ok (.getfield 24, 3) := by decide +kernel
theorem dX5_become_55 : decode cX5_become 55 = .ok (.aload_n 1, 1) := by decide +kernel
theorem dX5_become_56 : decode cX5_become 56 = .ok (.getfield 24, 3) := by decide +kernel
theorem dX5_become_59 : decode cX5_become 59 = .ok (.invokevirtual 46, 3) := by decide +kernel
theorem dX5_become_62 : decode cX5_become 62 = .ok (.aload_n 0, 1) := by decide +kernel
theorem dX5_become_63 : decode cX5_become 63 = .ok (.aload_n 1, 1) := by decide +kernel
theorem dX5_become_64 : decode cX5_become 64 = .ok (.getfield 33, 3) := by decide +kernel
theorem dX5_become_67 : decode cX5_become 67 = .ok (.putfield 33, 3) := by decide +kernel
theorem dX5_become_70 : decode cX5_become 70 = .ok (.aload_n 0, 1) := by decide +kernel
theorem dX5_become_71 : decode cX5_become 71 = .ok (.aload_n 1, 1) := by decide +kernel
theorem dX5_become_72 : decode cX5_become 72 = .ok (.getfield 28, 3) := by decide +kernel
theorem dX5_become_75 : decode cX5_become 75 = .ok (.putfield 28, 3) := by decide +kernel
theorem dX5_become_78 : decode cX5_become 78 = .ok (.return_, 1) := by decide +kernel
theorem dX5_streetAt_0 : decode cX5_streetAt 0 = .ok (.iload_n 1, 1) := by decide +kernel
theorem dX5_streetAt_1 : decode cX5_streetAt 1 = .ok (.ifCond .lt 25, 3) := by decide +kernel
theorem dX5_streetAt_4 : decode cX5_streetAt 4 = .ok (.iload_n 1, 1) := by decide +kernel
theorem dX5_streetAt_5 : decode cX5_streetAt 5 = .ok (.aload_n 0, 1) := by decide +kernel
theorem dX5_streetAt_6 : decode cX5_streetAt 6 = .ok (.getfield 33, 3) := by decide +kernel
theorem dX5_streetAt_9 : decode cX5_streetAt 9 = .ok (.if_icmp .ge 17, 3) := by decide +kernel
theorem dX5_streetAt_12 : decode cX5_streetAt 12 = .ok (.iload_n 1, 1) := by decide +kernel
theorem dX5_streetAt_13 : decode cX5_streetAt 13 = .ok (.iconst 4, 1) := by decide +kernel
theorem dX5_streetAt_14 : decode cX5_streetAt 14 = .ok (.if_icmp .ge 12, 3) := by decide +kernel
theorem dX5_streetAt_17 : decode cX5_streetAt 17 = .ok (.aload_n 0, 1) := by decide +kernel
theorem dX5_streetAt_18 : decode cX5_streetAt 18 = .ok (.getfield 11, 3) := by decide +kernel
theorem dX5_streetAt_21 : decode cX5_streetAt 21 = .ok (.iload_n 1, 1) := by decide +kernel
theorem dX5_streetAt_22 : decode cX5_streetAt 22 = .ok (.aaload, 1) := by decide +kernel
theorem dX5_streetAt_23 : decode cX5_streetAt 23 = .ok (.goto 4, 3) := by decide +kernel
theorem dX5_streetAt_26 : decode cX5_streetAt 26 = .ok (.aconst_null, 1) := by decide +kernel
theorem dX5_streetAt_27 : decode cX5_streetAt 27 = .ok (.areturn, 1) := by decide +kernel
theorem dX5_placeForNext_0 : decode cX5_placeForNext 0 = .ok (.aload_n 0, 1) := by decide +kernel
theorem dX5_placeForNext_1 : decode cX5_placeForNext 1 = .ok (.getfield 33, 3) := by decide +kernel
theorem dX5_placeForNext_4 : decode cX5_placeForNext 4 = .ok (.ifCond .lt 23, 3) := by decide +kernel
theorem dX5_placeForNext_7 : decode cX5_placeForNext 7 = .ok (.aload_n 0, 1) := by decide +kernel
theorem dX5_placeForNext_8 : decode cX5_placeForNext 8 = .ok (.getfield 33, 3) := by decide +kernel
theorem dX5_placeForNext_11 : decode cX5_placeForNext 11 = .ok (.iconst 4, 1) := by decide +kernel
theorem dX5_placeForNext_12 : decode cX5_placeForNext 12 = .ok (.if_icmp .ge 15, 3) := by decide +kernel
theorem dX5_placeForNext_15 : decode cX5_placeForNext 15 = .ok (.aload_n 0, 1) := by decide +kernel
theorem dX5_placeForNext_16 : decode cX5_placeForNext 16 = .ok (.getfield 11, 3) := by decide +kernel
theorem dX5_placeForNext_19 : decode cX5_placeForNext 19 = .ok (.aload_n 0, 1) := by decide +kernel
theorem dX5_placeForNext_20 : decode cX5_placeForNext 20 = .ok (.getfield 33, 3) := by decide +kernel
theorem dX5_placeForNext_23 : decode cX5_placeForNext 23 = .ok (.aaload, 1) := by decide +kernel
theorem dX5_placeForNext_24 : decode cX5_placeForNext 24 = .ok (.goto 4, 3) := by decide +kernel
theorem dX5_placeForNext_27 : decode cX5_placeForNext 27 = .ok (.aconst_null, 1) := by decide +kernel
theorem dX5_placeForNext_28 : decode cX5_placeForNext 28 = .ok (.areturn, 1) := by decide +kernel
theorem dX5_draw_0 : decode cX5_draw 0 = .ok (.aload_n 0, 1) := by decide +kernel
theorem dX5_draw_1 : decode cX5_draw 1 = .ok (.aload_n 0, 1) := by decide +kernel
theorem dX5_draw_2 : decode cX5_draw 2 = .ok (.getfield 28, 3) := by decide +kernel
theorem dX5_draw_5 : decode cX5_draw 5 = .ok (.ldc 49, 2) := by decide +kernel
theorem dX5_draw_7 : decode cX5_draw 7 = .ok (.imul, 1) := by decide +kernel
theorem dX5_draw_8 : decode cX5_draw 8 = .ok (.sipush 12345, 3) := by decide +kernel
theorem dX5_draw_11 : decode cX5_draw 11 = .ok (.iadd, 1) := by decide +kernel
theorem dX5_draw_12 : decode cX5_draw 12 = .ok (.putfield 28, 3) := by decide +kernel
theorem dX5_draw_15 : decode cX5_draw 15 = .ok (.iload_n 1, 1) := by decide +kernel
theorem dX5_draw_16 : decode cX5_draw 16 = .ok (.ifCond .le 15, 3) := by decide +kernel
theorem dX5_draw_19 : decode cX5_draw 19 = .ok (.aload_n 0, 1) := by decide +kernel
theorem dX5_draw_20 : decode cX5_draw 20 = .ok (.getfield 28, 3) := by decide +kernel
theorem dX5_draw_23 : decode cX5_draw 23 = .ok (.bipush 16, 2) := by decide +kernel
theorem dX5_draw_25 : decode cX5_draw 25 = .ok (.iushr, 1) := by decide +kernel
theorem dX5_draw_26 : decode cX5_draw 26 = .ok (.iload_n 1, 1) := by decide +kernel
theorem dX5_draw_27 : decode cX5_draw 27 = .ok (.irem, 1) := by decide +kernel
theorem dX5_draw_28 : decode cX5_draw 28 = .ok (.goto 4, 3) := by decide +kernel
theorem dX5_draw_31 : decode cX5_draw 31 = .ok (.iconst 0, 1) := by decide +kernel
theorem dX5_draw_32 : decode cX5_draw 32 = .ok (.ireturn, 1) := by decide +kernel
theorem dX6_init_0 : decode cX6_init 0 = .ok (.aload_n 0, 1) := by decide +kernel
theorem dX6_init_1 : decode cX6_init 1 = .ok (.invokespecial 1, 3) := by decide +kernel
theorem dX6_init_4 : decode cX6_init 4 = .ok (.aload_n 0, 1) := by decide +kernel
theorem dX6_init_5 : decode cX6_init 5 = .ok (.bipush 8, 2) := by decide +kernel
theorem dX6_init_7 : decode cX6_init 7 = .ok (.anewarray 9, 3) := by decide +kernel
theorem dX6_init_10 : decode cX6_init 10 = .ok (.putfield 11, 3) := by decide +kernel
theorem dX6_init_13 : decode cX6_init 13 = .ok (.aload_n 0, 1) := by decide +kernel
theorem dX6_init_14 : decode cX6_init 14 = .ok (.new 15, 3) := by decide +kernel
theorem dX6_init_17 : decode cX6_init 17 = .ok (.dup, 1) := by decide +kernel
theorem dX6_init_18 : decode cX6_init 18 = .ok (.invokespecial 17, 3) := by decide +kernel
theorem dX6_init_21 : decode cX6_init 21 = .ok (.putfield 18, 3) := by decide +kernel
theorem dX6_init_24 : decode cX6_init 24 = .ok (.aload_n 0, 1) := by decide +kernel
theorem dX6_init_25 : decode cX6_init 25 = .ok (.new 22, 3) := by decide +kernel
theorem dX6_init_28 : decode cX6_init 28 = .ok (.dup, 1) := by decide +kernel
theorem dX6_init_29 : decode cX6_init 29 = .ok (.invokespecial 24, 3) := by decide +kernel
theorem dX6_init_32 : decode cX6_init 32 = .ok (.putfield 25, 3) := by decide +kernel
theorem dX6_init_35 : decode cX6_init 35 = .ok (.aload_n 0, 1) := by decide +kernel
theorem dX6_init_36 : decode cX6_init 36 = .ok (.new 22, 3) := by decide +kernel
theorem dX6_init_39 : decode cX6_init 39 = .ok (.dup, 1) := by decide +kernel
theorem dX6_init_40 : decode cX6_init 40 = .ok (.invokespecial 24, 3) := by decide +kernel
theorem dX6_init_43 : decode cX6_init 43 = .ok (.putfield 29, 3) := by decide +kernel
theorem dX6_init_46 : decode cX6_init 46 = .ok (.aload_n 0, 1) := by decide +kernel
theorem dX6_init_47 : decode cX6_init 47 = .ok (.new 32, 3) := by decide +kernel
theorem dX6_init_50 : decode cX6_init 50 = .ok (.dup, 1) := by decide +kernel
theorem dX6_init_51 : decode cX6_init 51 = .ok (.invokespecial 34, 3) := by decide +kernel
theorem dX6_init_54 : decode cX6_init 54 = .ok (.putfield 35, 3) := by decide +kernel
theorem dX6_init_57 : decode cX6_init 57 = .ok (.aload_n 0, 1) := by decide +kernel
theorem dX6_init_58 : decode cX6_init 58 = .ok (.new 39, 3) := by decide +kernel
theorem dX6_init_61 : decode cX6_init 61 = .ok (.dup, 1) := by decide +kernel
theorem dX6_init_62 : decode cX6_init 62 = .ok (.invokespecial 41, 3) := by decide +kernel
theorem dX6_init_65 : decode cX6_init 65 = .ok (.putfield 42, 3) := by decide +kernel
theorem dX6_init_68 : decode cX6_init 68 = .ok (.aload_n 0, 1) := by decide +kernel
theorem dX6_init_69 : decode cX6_init 69 = .ok (.iconst 5, 1) := by decide +kernel
theorem dX6_init_70 : decode cX6_init 70 = .ok (.newarray .int, 2) := by decide +kernel
theorem dX6_init_72 : decode cX6_init 72 = .ok (.putfield 46, 3) := by decide +kernel
theorem dX6_init_75 : decode cX6_init 75 = .ok (.iconst 0, 1) := by decide +kernel
theorem dX6_init_76 : decode cX6_init 76 = .ok (.istore_n 1, 1) := by decide +kernel
theorem dX6_init_77 : decode cX6_init 77 = .ok (.iload_n 1, 1) := by decide +kernel
theorem dX6_init_78 : decode cX6_init 78 = .ok (.bipush 8, 2) := by decide +kernel
theorem dX6_init_80 : decode cX6_init 80 = .ok (.if_icmp .ge 22, 3) := by decide +kernel
theorem dX6_init_83 : decode cX6_init 83 = .ok (.aload_n 0, 1) := by decide +kernel
theorem dX6_init_84 : decode cX6_init 84 = .ok (.getfield 11, 3) := by decide +kernel
theorem dX6_init_87 : decode cX6_init 87 = .ok (.iload_n 1, 1) := by decide +kernel
theorem dX6_init_88 : decode cX6_init 88 = .ok (.new 9, 3) := by decide +kernel
theorem dX6_init_91 : decode cX6_init 91 = .ok (.dup, 1) := by decide +kernel
theorem dX6_init_92 : decode cX6_init 92 = .ok (.invokespecial 50, 3) := by decide +kernel
theorem dX6_init_95 : decode cX6_init 95 = .ok (.aastore, 1) := by decide +kernel
theorem dX6_init_96 : decode cX6_init 96 = .ok (.iinc 1 1, 3) := by decide +kernel
theorem dX6_init_99 : decode cX6_init 99 = .ok (.goto (-22), 3) := by decide +kernel
theorem dX6_init_102 : decode cX6_init 102 = .ok (.return_, 1) := by decide +kernel
theorem dX6_row_0 : decode cX6_row 0 = .ok (.aload_n 0, 1) := by decide +kernel
theorem dX6_row_1 : decode cX6_row 1 = .ok (.iload_n 1, 1) := by decide +kernel
theorem dX6_row_2 : decode cX6_row 2 = .ok (.invokevirtual 51, 3) := by decide +kernel
theorem dX6_row_5 : decode cX6_row 5 = .ok (.astore 4, 2) := by decide +kernel
theorem dX6_row_7 : decode cX6_row 7 = .ok (.aload 4, 2) := by decide +kernel
theorem dX6_row_9 : decode cX6_row 9 = .ok (.ifnull 22, 3) := by decide +kernel
theorem dX6_row_12 : decode cX6_row 12 = .ok (.iload_n 2, 1) := by decide +kernel
theorem dX6_row_13 : decode cX6_row 13 = .ok (.iconst 0, 1) := by decide +kernel
theorem dX6_row_14 : decode cX6_row 14 = .ok (.iconst 4, 1) := by decide +kernel
theorem dX6_row_15 : decode cX6_row 15 = .ok (.invokestatic 55, 3) := by decide +kernel
theorem dX6_row_18 : decode cX6_row 18 = .ok (.ifCond .eq 13, 3) := by decide +kernel
theorem dX6_row_21 : decode cX6_row 21 = .ok (.iload_n 3, 1) := by decide +kernel
theorem dX6_row_22 : decode cX6_row 22 = .ok (.iconst 0, 1) := by decide +kernel
theorem dX6_row_23 : decode cX6_row 23 = .ok (.bipush 40, 2) := by decide +kernel
theorem dX6_row_25 : decode cX6_row 25 = .ok (.invokestatic 55, 3) := by decide +kernel
theorem dX6_row_28 : decode cX6_row 28 = .ok (.ifCond .ne 10, 3) := by decide +kernel
theorem dX6_row_31 : decode cX6_row 31 = .ok (.aload_n 0, 1) := by decide +kernel
theorem dX6_row_32 : decode cX6_row 32 = .ok (.bipush (-2), 2) := by decide +kernel
theorem dX6_row_34 : decode cX6_row 34 = .ok (.invokevirtual 59, 3) := by decide +kernel
theorem dX6_row_37 : decode cX6_row 37 = .ok (.ireturn, 1) := by decide +kernel
theorem dX6_row_38 : decode cX6_row 38 = .ok (.aload 4, 2) := by decide +kernel
theorem dX6_row_40 : decode cX6_row 40 = .ok (.iload_n 2, 1) := by decide +kernel
theorem dX6_row_41 : decode cX6_row 41 = .ok (.iload_n 3, 1) := by decide +kernel
theorem dX6_row_42 : decode cX6_row 42 = .ok (.invokevirtual 63, 3) := by decide +kernel
theorem dX6_row_45 : decode cX6_row 45 = .ok (.iconst 1, 1) := by decide +kernel
theorem dX6_row_46 : decode cX6_row 46 = .ok (.ireturn, 1) := by decide +kernel
theorem dX6_set_0 : decode cX6_set 0 = .ok (.aload_n 0, 1) := by decide +kernel
theorem dX6_set_1 : decode cX6_set 1 = .ok (.iload_n 1, 1) := by decide +kernel
theorem dX6_set_2 : decode cX6_set 2 = .ok (.invokevirtual 51, 3) := by decide +kernel
theorem dX6_set_5 : decode cX6_set 5 = .ok (.astore 5, 2) := by decide +kernel
theorem dX6_set_7 : decode cX6_set 7 = .ok (.aload 5, 2) := by decide +kernel
theorem dX6_set_9 : decode cX6_set 9 = .ok (.ifnonnull 10, 3) := by decide +kernel
theorem dX6_set_12 : decode cX6_set 12 = .ok (.aload_n 0, 1) := by decide +kernel
theorem dX6_set_13 : decode cX6_set 13 = .ok (.bipush (-2), 2) := by decide +kernel
theorem dX6_set_15 : decode cX6_set 15 = .ok (.invokevirtual 59, 3) := by decide +kernel
theorem dX6_set_18 : decode cX6_set 18 = .ok (.ireturn, 1) := by decide +kernel
theorem dX6_set_19 : decode cX6_set 19 = .ok (.aload 5, 2) := by decide +kernel
theorem dX6_set_21 : decode cX6_set 21 = .ok (.invokevirtual 67, 3) := by decide +kernel
theorem dX6_set_24 : decode cX6_set 24 = .ok (.ifCond .eq 10, 3) := by decide +kernel
theorem dX6_set_27 : decode cX6_set 27 = .ok (.aload_n 0, 1) := by decide +kernel
theorem dX6_set_28 : decode cX6_set 28 = .ok (.bipush (-3), 2) := by decide +kernel
theorem dX6_set_30 : decode cX6_set 30 = .ok (.invokevirtual 59, 3) := by decide +kernel
theorem dX6_set_33 : decode cX6_set 33 = .ok (.ireturn, 1) := by decide +kernel
theorem dX6_set_34 : decode cX6_set 34 = .ok (.aload 5, 2) := by decide +kernel
theorem dX6_set_36 : decode cX6_set 36 = .ok (.invokevirtual 71, 3) := by decide +kernel
theorem dX6_set_39 : decode cX6_set 39 = .ok (.ifCond .ne 10, 3) := by decide +kernel
theorem dX6_set_42 : decode cX6_set 42 = .ok (.aload_n 0, 1) := by decide +kernel
theorem dX6_set_43 : decode cX6_set 43 = .ok (.bipush (-4), 2) := by decide +kernel
theorem dX6_set_45 : decode cX6_set 45 = .ok (.invokevirtual 59, 3) := by decide +kernel
theorem dX6_set_48 : decode cX6_set 48 = .ok (.ireturn, 1) := by decide +kernel
theorem dX6_set_49 : decode cX6_set 49 = .ok (.aload 5, 2) := by decide +kernel
theorem dX6_set_51 : decode cX6_set 51 = .ok (.iload_n 2, 1) := by decide +kernel
theorem dX6_set_52 : decode cX6_set 52 = .ok (.iconst 1, 1) := by decide +kernel
theorem dX6_set_53 : decode cX6_set 53 = .ok (.invokevirtual 74, 3) := by decide +kernel
theorem dX6_set_56 : decode cX6_set 56 = .ok (.ifCond .ne 10, 3) := by decide +kernel
theorem dX6_set_59 : decode cX6_set 59 = .ok (.aload_n 0, 1) := by decide +kernel
theorem dX6_set_60 : decode cX6_set 60 = .ok (.bipush (-2), 2) := by decide +kernel
theorem dX6_set_62 : decode cX6_set 62 = .ok (.invokevirtual 59, 3) := by decide +kernel
theorem dX6_set_65 : decode cX6_set 65 = .ok (.ireturn, 1) := by decide +kernel
theorem dX6_set_66 : decode cX6_set 66 = .ok (.aload 5, 2) := by decide +kernel
theorem dX6_set_68 : decode cX6_set 68 = .ok (.iload_n 2, 1) := by decide +kernel
theorem dX6_set_69 : decode cX6_set 69 = .ok (.lload_n 3, 1) := by decide +kernel
theorem dX6_set_70 : decode cX6_set 70 = .ok (.invokevirtual 78, 3) := by decide +kernel
theorem dX6_set_73 : decode cX6_set 73 = .ok (.iconst 1, 1) := by decide +kernel
theorem dX6_set_74 : decode cX6_set 74 = .ok (.ireturn, 1) := by decide +kernel
theorem dX6_way_0 : decode cX6_way 0 = .ok (.aload_n 0, 1) := by decide +kernel
theorem dX6_way_1 : decode cX6_way 1 = .ok (.iload_n 1, 1) := by decide +kernel
theorem dX6_way_2 : decode cX6_way 2 = .ok (.invokevirtual 51, 3) := by decide +kernel
theorem dX6_way_5 : decode cX6_way 5 = .ok (.astore 4, 2) := by decide +kernel
theorem dX6_way_7 : decode cX6_way 7 = .ok (.aload 4, 2) := by decide +kernel
theorem dX6_way_9 : decode cX6_way 9 = .ok (.ifnull 11, 3) := by decide +kernel
theorem dX6_way_12 : decode cX6_way 12 = .ok (.iload_n 2, 1) := by decide +kernel
theorem dX6_way_13 : decode cX6_way 13 = .ok (.iload_n 3, 1) := by decide +kernel
theorem dX6_way_14 : decode cX6_way 14 = .ok (.invokestatic 100, 3) := by decide +kernel
theorem dX6_way_17 : decode cX6_way 17 = .ok (.ifCond .ne 10, 3) := by decide +kernel
theorem dX6_way_20 : decode cX6_way 20 = .ok (.aload_n 0, 1) := by decide +kernel
theorem dX6_way_21 : decode cX6_way 21 = .ok (.bipush (-2), 2) := by decide +kernel
theorem dX6_way_23 : decode cX6_way 23 = .ok (.invokevirtual 59, 3) := by decide +kernel
theorem dX6_way_26 : decode cX6_way 26 = .ok (.ireturn, 1) := by decide +kernel
theorem dX6_way_27 : decode cX6_way 27 = .ok (.iload_n 2, 1) := by decide +kernel
theorem dX6_way_28 : decode cX6_way 28 = .ok (.iconst 5, 1) := by decide +kernel
theorem dX6_way_29 : decode cX6_way 29 = .ok (.if_icmp .eq 12, 3) := by decide +kernel
theorem dX6_way_32 : decode cX6_way 32 = .ok (.aload 4, 2) := by decide +kernel
theorem dX6_way_34 : decode cX6_way 34 = .ok (.iload_n 2, 1) := by decide +kernel
theorem dX6_way_35 : decode cX6_way 35 = .ok (.iload_n 3, 1) := by decide +kernel
theorem dX6_way_36 : decode cX6_way 36 = .ok (.invokevirtual 103, 3) := by decide +kernel
theorem dX6_way_39 : decode cX6_way 39 = .ok (.iconst 1, 1) := by decide +kernel
theorem dX6_way_40 : decode cX6_way 40 = .ok (.ireturn, 1) := by decide +kernel
theorem dX6_way_41 : decode cX6_way 41 = .ok (.aload_n 0, 1) := by decide +kernel
theorem dX6_way_42 : decode cX6_way 42 = .ok (.iload_n 3, 1) := by decide +kernel
theorem dX6_way_43 : decode cX6_way 43 = .ok (.invokevirtual 51, 3) := by decide +kernel
theorem dX6_way_46 : decode cX6_way 46 = .ok (.astore 5, 2) := by decide +kernel
theorem dX6_way_48 : decode cX6_way 48 = .ok (.aload 5, 2) := by decide +kernel
theorem dX6_way_50 : decode cX6_way 50 = .ok (.ifnonnull 10, 3) := by decide +kernel
theorem dX6_way_53 : decode cX6_way 53 = .ok (.aload_n 0, 1) := by decide +kernel
theorem dX6_way_54 : decode cX6_way 54 = .ok (.bipush (-2), 2) := by decide +kernel
theorem dX6_way_56 : decode cX6_way 56 = .ok (.invokevirtual 59, 3) := by decide +kernel
theorem dX6_way_59 : decode cX6_way 59 = .ok (.ireturn, 1) := by decide +kernel
theorem dX6_way_60 : decode cX6_way 60 = .ok (.aload 5, 2) := by decide +kernel
theorem dX6_way_62 : decode cX6_way 62 = .ok (.invokevirtual 67, 3) := by decide +kernel
theorem dX6_way_65 : decode cX6_way 65 = .ok (.ifCond .eq 10, 3) := by decide +kernel
theorem dX6_way_68 : decode cX6_way 68 = .ok (.aload_n 0, 1) := by decide +kernel
theorem dX6_way_69 : decode cX6_way 69 = .ok (.bipush (-3), 2) := by decide +kernel
theorem dX6_way_71 : decode cX6_way 71 = .ok (.invokevirtual 59, 3) := by decide +kernel
theorem dX6_way_74 : decode cX6_way 74 = .ok (.ireturn, 1) := by decide +kernel
theorem dX6_way_75 : decode cX6_way 75 = .ok (.aload 5, 2) := by decide +kernel
theorem dX6_way_77 : decode cX6_way 77 = .ok (.invokevirtual 71, 3) := by decide +kernel
theorem dX6_way_80 : decode cX6_way 80 = .ok (.ifCond .ne 10, 3) := by decide +kernel
theorem dX6_way_83 : decode cX6_way 83 = .ok (.aload_n 0, 1) := by decide +kernel
theorem dX6_way_84 : decode cX6_way 84 = .ok (.bipush (-4), 2) := by decide +kernel
theorem dX6_way_86 : decode cX6_way 86 = .ok (.invokevirtual 59, 3) := by decide +kernel
theorem dX6_way_89 : decode cX6_way 89 = .ok (.ireturn, 1) := by decide +kernel
theorem dX6_way_90 : decode cX6_way 90 = .ok (.aload 4, 2) := by decide +kernel
theorem dX6_way_92 : decode cX6_way 92 = .ok (.iconst 5, 1) := by decide +kernel
theorem dX6_way_93 : decode cX6_way 93 = .ok (.aload 5, 2) := by decide +kernel
theorem dX6_way_95 : decode cX6_way 95 = .ok (.invokevirtual 106, 3) := by decide +kernel
theorem dX6_way_98 : decode cX6_way 98 = .ok (.invokevirtual 103, 3) := by decide +kernel
theorem dX6_way_101 : decode cX6_way 101 = .ok (.iconst 1, 1) := by decide +kernel
theorem dX6_way_102 : decode cX6_way 102 = .ok (.ireturn, 1) := by decide +kernel
theorem dX6_feed_0 : decode cX6_feed 0 = .ok (.iload_n 2, 1) := by decide +kernel
theorem dX6_feed_1 : decode cX6_feed 1 = .ok (.iconst 1, 1) := by decide +kernel
theorem dX6_feed_2 : decode cX6_feed 2 = .ok (.iconst 4, 1) := by decide +kernel
theorem dX6_feed_3 : decode cX6_feed 3 = .ok (.invokestatic 55, 3) := by decide +kernel
theorem dX6_feed_6 : decode cX6_feed 6 = .ok (.ifCond .ne 10, 3) := by decide +kernel
theorem dX6_feed_9 : decode cX6_feed 9 = .ok (.aload_n 0, 1) := by decide +kernel
theorem dX6_feed_10 : decode cX6_feed 10 = .ok (.bipush (-2), 2) := by decide +kernel
theorem dX6_feed_12 : decode cX6_feed 12 = .ok (.invokevirtual 59, 3) := by decide +kernel
theorem dX6_feed_15 : decode cX6_feed 15 = .ok (.ireturn, 1) := by decide +kernel
theorem dX6_feed_16 : decode cX6_feed 16 = .ok (.iload_n 2, 1) := by decide +kernel
theorem dX6_feed_17 : decode cX6_feed 17 = .ok (.sipush 160, 3) := by decide +kernel
theorem dX6_feed_20 : decode cX6_feed 20 = .ok (.aload_n 0, 1) := by decide +kernel
theorem dX6_feed_21 : decode cX6_feed 21 = .ok (.getfield 18, 3) := by decide +kernel
theorem dX6_feed_24 : decode cX6_feed 24 = .ok (.getfield 117, 3) := by decide +kernel
theorem dX6_feed_27 : decode cX6_feed 27 = .ok (.isub, 1) := by decide +kernel
theorem dX6_feed_28 : decode cX6_feed 28 = .ok (.if_icmp .le 10, 3) := by decide +kernel
theorem dX6_feed_31 : decode cX6_feed 31 = .ok (.aload_n 0, 1) := by decide +kernel
theorem dX6_feed_32 : decode cX6_feed 32 = .ok (.bipush (-6), 2) := by decide +kernel
theorem dX6_feed_34 : decode cX6_feed 34 = .ok (.invokevirtual 59, 3) := by decide +kernel
theorem dX6_feed_37 : decode cX6_feed 37 = .ok (.ireturn, 1) := by decide +kernel
theorem dX6_feed_38 : decode cX6_feed 38 = .ok (.iload_n 2, 1) := by decide +kernel
theorem dX6_feed_39 : decode cX6_feed 39 = .ok (.iconst 1, 1) := by decide +kernel
theorem dX6_feed_40 : decode cX6_feed 40 = .ok (.isub, 1) := by decide +kernel
theorem dX6_feed_41 : decode cX6_feed 41 = .ok (.istore_n 3, 1) := by decide +kernel
theorem dX6_feed_42 : decode cX6_feed 42 = .ok (.iload_n 3, 1) := by decide +kernel
theorem dX6_feed_43 : decode cX6_feed 43 = .ok (.ifCond .lt 26, 3) := by decide +kernel
theorem dX6_feed_46 : decode cX6_feed 46 = .ok (.aload_n 0, 1) := by decide +kernel
theorem dX6_feed_47 : decode cX6_feed 47 = .ok (.getfield 18, 3) := by decide +kernel
theorem dX6_feed_50 : decode cX6_feed 50 = .ok (.iload_n 1, 1) := by decide +kernel
theorem dX6_feed_51 : decode cX6_feed 51 = .ok (.bipush 8, 2) := by decide +kernel
theorem dX6_feed_53 : decode cX6_feed 53 = .ok (.iload_n 3, 1) := by decide +kernel
theorem dX6_feed_54 : decode cX6_feed 54 = .ok (.imul, 1) := by decide +kernel
theorem dX6_feed_55 : decode cX6_feed 55 = .ok (.iushr, 1) := by decide +kernel
theorem dX6_feed_56 : decode cX6_feed 56 = .ok (.sipush 255, 3) := by decide +kernel
theorem dX6_feed_59 : decode cX6_feed 59 = .ok (.iand, 1) := by decide +kernel
theorem dX6_feed_60 : decode cX6_feed 60 = .ok (.invokevirtual 120, 3) := by decide +kernel
theorem dX6_feed_63 : decode cX6_feed 63 = .ok (.iinc 3 (-1), 3) := by decide +kernel
theorem dX6_feed_66 : decode cX6_feed 66 = .ok (.goto (-24), 3) := by decide +kernel
theorem dX6_feed_69 : decode cX6_feed 69 = .ok (.aload_n 0, 1) := by decide +kernel
theorem dX6_feed_70 : decode cX6_feed 70 = .ok (.getfield 18, 3) := by decide +kernel
theorem dX6_feed_73 : decode cX6_feed 73 = .ok (.getfield 117, 3) := by decide +kernel
theorem dX6_feed_76 : decode cX6_feed 76 = .ok (.ireturn, 1) := by decide +kernel
theorem dX6_street_0 : decode cX6_street 0 = .ok (.aload_n 0, 1) := by decide +kernel
theorem dX6_street_1 : decode cX6_street 1 = .ok (.getfield 25, 3) := by decide +kernel
theorem dX6_street_4 : decode cX6_street 4 = .ok (.invokevirtual 127, 3) := by decide +kernel
theorem dX6_street_7 : decode cX6_street 7 = .ok (.astore_n 1, 1) := by decide +kernel
theorem dX6_street_8 : decode cX6_street 8 = .ok (.aload_n 1, 1) := by decide +kernel
theorem dX6_street_9 : decode cX6_street 9 = .ok (.ifnonnull 10, 3) := by decide +kernel
theorem dX6_street_12 : decode cX6_street 12 = .ok (.aload_n 0, 1) := by decide +kernel
theorem dX6_street_13 : decode cX6_street 13 = .ok (.bipush (-6), 2) := by decide +kernel
theorem dX6_street_15 : decode cX6_street 15 = .ok (.invokevirtual 59, 3) := by decide +kernel
theorem dX6_street_18 : decode cX6_street 18 = .ok (.ireturn, 1) := by decide +kernel
theorem dX6_street_19 : decode cX6_street 19 = .ok (.aload_n 0, 1) := by decide +kernel
theorem dX6_street_20 : decode cX6_street 20 = .ok (.getfield 18, 3) := by decide +kernel
theorem dX6_street_23 : decode cX6_street 23 = .ok (.aload_n 1, 1) := by decide +kernel
theorem dX6_street_24 : decode cX6_street 24 = .ok (.invokevirtual 131, 3) := by decide +kernel
theorem dX6_street_27 : decode cX6_street 27 = .ok (.istore_n 2, 1) := by decide +kernel
theorem dX6_street_28 : decode cX6_street 28 = .ok (.aload_n 0, 1) := by decide +kernel
theorem dX6_street_29 : decode cX6_street 29 = .ok (.getfield 18, 3) := by decide +kernel
theorem dX6_street_32 : decode cX6_street 32 = .ok (.getfield 135, 3) := by decide +kernel
theorem dX6_street_35 : decode cX6_street 35 = .ok (.istore_n 3, 1) := by decide +kernel
theorem dX6_street_36 : decode cX6_street 36 = .ok (.aload_n 0, 1) := by decide +kernel
theorem dX6_street_37 : decode cX6_street 37 = .ok (.getfield 18, 3) := by decide +kernel
theorem dX6_street_40 : decode cX6_street 40 = .ok (.invokevirtual 124, 3) := by decide +kernel
theorem dX6_street_43 : decode cX6_street 43 = .ok (.iload_n 2, 1) := by decide +kernel
theorem dX6_street_44 : decode cX6_street 44 = .ok (.ifCond .ne 15, 3) := by decide +kernel
theorem dX6_street_47 : decode cX6_street 47 = .ok (.aload_n 0, 1) := by decide +kernel
theorem dX6_street_48 : decode cX6_street 48 = .ok (.bipush (-2), 2) := by decide +kernel
theorem dX6_street_50 : decode cX6_street 50 = .ok (.invokevirtual 59, 3) := by decide +kernel
theorem dX6_street_53 : decode cX6_street 53 = .ok (.pop, 1) := by decide +kernel
theorem dX6_street_54 : decode cX6_street 54 = .ok (.bipush (-20), 2) := by decide +kernel
theorem dX6_street_56 : decode cX6_street 56 = .ok (.iload_n 3, 1) := by decide +kernel
theorem dX6_street_57 : decode cX6_street 57 = .ok (.isub, 1) := by decide +kernel
theorem dX6_street_58 : decode cX6_street 58 = .ok (.ireturn, 1) := by decide +kernel
theorem dX6_street_59 : decode cX6_street 59 = .ok (.aload_n 0, 1) := by decide +kernel
theorem dX6_street_60 : decode cX6_street 60 = .ok (.getfield 25, 3) := by decide +kernel
theorem dX6_street_63 : decode cX6_street 63 = .ok (.dup, 1) := by decide +kernel
theorem dX6_street_64 : decode cX6_street 64 = .ok (.getfield 138, 3) := by decide +kernel
theorem dX6_street_67 : decode cX6_street 67 = .ok (.iconst 1, 1) := by decide +kernel
theorem dX6_street_68 : decode cX6_street 68 = .ok (.iadd, 1) := by decide +kernel
theorem dX6_street_69 : decode cX6_street 69 = .ok (.putfield 138, 3) := by decide +kernel
theorem dX6_street_72 : decode cX6_street 72 = .ok (.aload_n 0, 1) := by decide +kernel
theorem dX6_street_73 : decode cX6_street 73 = .ok (.getfield 25, 3) := by decide +kernel
theorem dX6_street_76 : decode cX6_street 76 = .ok (.getfield 138, 3) := by decide +kernel
theorem dX6_street_79 : decode cX6_street 79 = .ok (.iconst 1, 1) := by decide +kernel
theorem dX6_street_80 : decode cX6_street 80 = .ok (.isub, 1) := by decide +kernel
theorem dX6_street_81 : decode cX6_street 81 = .ok (.ireturn, 1) := by decide +kernel
theorem dX6_streetOf_0 : decode cX6_streetOf 0 = .ok (.aload_n 0, 1) := by decide +kernel
theorem dX6_streetOf_1 : decode cX6_streetOf 1 = .ok (.getfield 25, 3) := by decide +kernel
theorem dX6_streetOf_4 : decode cX6_streetOf 4 = .ok (.iload_n 1, 1) := by decide +kernel
theorem dX6_streetOf_5 : decode cX6_streetOf 5 = .ok (.invokevirtual 139, 3) := by decide +kernel
theorem dX6_streetOf_8 : decode cX6_streetOf 8 = .ok (.astore_n 3, 1) := by decide +kernel
theorem dX6_streetOf_9 : decode cX6_streetOf 9 = .ok (.aload_n 3, 1) := by decide +kernel
theorem dX6_streetOf_10 : decode cX6_streetOf 10 = .ok (.ifnonnull 10, 3) := by decide +kernel
theorem dX6_streetOf_13 : decode cX6_streetOf 13 = .ok (.aload_n 0, 1) := by decide +kernel
theorem dX6_streetOf_14 : decode cX6_streetOf 14 = .ok (.bipush (-2), 2) := by decide +kernel
theorem dX6_streetOf_16 : decode cX6_streetOf 16 = .ok (.invokevirtual 59, 3) := by decide +kernel
theorem dX6_streetOf_19 : decode cX6_streetOf 19 = .ok (.ireturn, 1) := by decide +kernel
theorem dX6_streetOf_20 : decode cX6_streetOf 20 = .ok (.iload_n 2, 1) := by decide +kernel
theorem dX6_streetOf_21 : decode cX6_streetOf 21 = .ok (.tableswitch 60 0 4 #[35, 40, 45, 50, 55], 35) := by decide +kernel
theorem dX6_streetOf_56 : decode cX6_streetOf 56 = .ok (.aload_n 3, 1) := by decide +kernel
theorem dX6_streetOf_57 : decode cX6_streetOf 57 = .ok (.getfield 143, 3) := by decide +kernel
theorem dX6_streetOf_60 : decode cX6_streetOf 60 = .ok (.ireturn, 1) := by decide +kernel
theorem dX6_streetOf_61 : decode cX6_streetOf 61 = .ok (.aload_n 3, 1) := by decide +kernel
theorem dX6_streetOf_62 : decode cX6_streetOf 62 = .ok (.invokevirtual 146, 3) := by decide +kernel
theorem dX6_streetOf_65 : decode cX6_streetOf 65 = .ok (.ireturn, 1) := by decide +kernel
theorem dX6_streetOf_66 : decode cX6_streetOf 66 = .ok (.aload_n 3, 1) := by decide +kernel
theorem dX6_streetOf_67 : decode cX6_streetOf 67 = .ok (.getfield 149, 3) := by decide +kernel
theorem dX6_streetOf_70 : decode cX6_streetOf 70 = .ok (.ireturn, 1) := by decide +kernel
theorem dX6_streetOf_71 : decode cX6_streetOf 71 = .ok (.aload_n 3, 1) := by decide +kernel
theorem dX6_streetOf_72 : decode cX6_streetOf 72 = .ok (.getfield 152, 3) := by decide +kernel
theorem dX6_streetOf_75 : decode cX6_streetOf 75 = .ok (.ireturn, 1) := by decide +kernel
theorem dX6_streetOf_76 : decode cX6_streetOf 76 = .ok (.aload_n 3, 1) := by decide +kernel
theorem dX6_streetOf_77 : decode cX6_streetOf 77 = .ok (.invokevirtual 155, 3) := by decide +kernel
theorem dX6_streetOf_80 : decode cX6_streetOf 80 = .ok (.ireturn, 1) := by decide +kernel
theorem dX6_streetOf_81 : decode cX6_streetOf 81 = .ok (.aload_n 0, 1) := by decide +kernel
theorem dX6_streetOf_82 : decode cX6_streetOf 82 = .ok (.bipush (-2), 2) := by decide +kernel
theorem dX6_streetOf_84 : decode cX6_streetOf 84 = .ok (.invokevirtual 59, 3) := by decide +kernel
theorem dX6_streetOf_87 : decode cX6_streetOf 87 = .ok (.ireturn, 1) := by decide +kernel
theorem dX6_alter_0 : decode cX6_alter 0 = .ok (.aload_n 0, 1) := by decide +kernel
theorem dX6_alter_1 : decode cX6_alter 1 = .ok (.getfield 25, 3) := by decide +kernel
theorem dX6_alter_4 : decode cX6_alter 4 = .ok (.iload_n 1, 1) := by decide +kernel
theorem dX6_alter_5 : decode cX6_alter 5 = .ok (.invokevirtual 139, 3) := by decide +kernel
theorem dX6_alter_8 : decode cX6_alter 8 = .ok (.astore 5, 2) := by decide +kernel
theorem dX6_alter_10 : decode cX6_alter 10 = .ok (.aload 5, 2) := by decide +kernel
theorem dX6_alter_12 : decode cX6_alter 12 = .ok (.ifnull 32, 3) := by decide +kernel
theorem dX6_alter_15 : decode cX6_alter 15 = .ok (.aload 5, 2) := by decide +kernel
theorem dX6_alter_17 : decode cX6_alter 17 = .ok (.iload_n 2, 1) := by decide +kernel
theorem dX6_alter_18 : decode cX6_alter 18 = .ok (.invokevirtual 158, 3) := by decide +kernel
theorem dX6_alter_21 : decode cX6_alter 21 = .ok (.ifCond .eq 23, 3) := by decide +kernel
theorem dX6_alter_24 : decode cX6_alter 24 = .ok (.iload_n 3, 1) := by decide +kernel
theorem dX6_alter_25 : decode cX6_alter 25 = .ok (.iconst 0, 1) := by decide +kernel
theorem dX6_alter_26 : decode cX6_alter 26 = .ok (.iconst 1, 1) := by decide +kernel
theorem dX6_alter_27 : decode cX6_alter 27 = .ok (.invokestatic 55, 3) := by decide +kernel
theorem dX6_alter_30 : decode cX6_alter 30 = .ok (.ifCond .eq 14, 3) := by decide +kernel
theorem dX6_alter_33 : decode cX6_alter 33 = .ok (.iload 4, 2) := by decide +kernel
theorem dX6_alter_35 : decode cX6_alter 35 = .ok (.iconst 0, 1) := by decide +kernel
theorem dX6_alter_36 : decode cX6_alter 36 = .ok (.bipush 99, 2) := by decide +kernel
theorem dX6_alter_38 : decode cX6_alter 38 = .ok (.invokestatic 55, 3) := by decide +kernel
theorem dX6_alter_41 : decode cX6_alter 41 = .ok (.ifCond .ne 10, 3) := by decide +kernel
theorem dX6_alter_44 : decode cX6_alter 44 = .ok (.aload_n 0, 1) := by decide +kernel
theorem dX6_alter_45 : decode cX6_alter 45 = .ok (.bipush (-2), 2) := by decide +kernel
theorem dX6_alter_47 : decode cX6_alter 47 = .ok (.invokevirtual 59, 3) := by decide +kernel
theorem dX6_alter_50 : decode cX6_alter 50 = .ok (.ireturn, 1) := by decide +kernel
theorem dX6_alter_51 : decode cX6_alter 51 = .ok (.iload_n 3, 1) := by decide +kernel
theorem dX6_alter_52 : decode cX6_alter 52 = .ok (.ifCond .ne 11, 3) := by decide +kernel
theorem dX6_alter_55 : decode cX6_alter 55 = .ok (.aload 5, 2) := by decide +kernel
theorem dX6_alter_57 : decode cX6_alter 57 = .ok (.getfield 161, 3) := by decide +kernel
theorem dX6_alter_60 : decode cX6_alter 60 = .ok (.goto 8, 3) := by decide +kernel
theorem dX6_alter_63 : decode cX6_alter 63 = .ok (.aload 5, 2) := by decide +kernel
theorem dX6_alter_65 : decode cX6_alter 65 = .ok (.getfield 164, 3) := by decide +kernel
theorem dX6_alter_68 : decode cX6_alter 68 = .ok (.astore 6, 2) := by decide +kernel
theorem dX6_alter_70 : decode cX6_alter 70 = .ok (.aload 6, 2) := by decide +kernel
theorem dX6_alter_72 : decode cX6_alter 72 = .ok (.iload_n 2, 1) := by decide +kernel
theorem dX6_alter_73 : decode cX6_alter 73 = .ok (.iaload, 1) := by decide +kernel
theorem dX6_alter_74 : decode cX6_alter 74 = .ok (.istore 7, 2) := by decide +kernel
theorem dX6_alter_76 : decode cX6_alter 76 = .ok (.aload 6, 2) := by decide +kernel
theorem dX6_alter_78 : decode cX6_alter 78 = .ok (.iload_n 2, 1) := by decide +kernel
theorem dX6_alter_79 : decode cX6_alter 79 = .ok (.iload 4, 2) := by decide +kernel
theorem dX6_alter_81 : decode cX6_alter 81 = .ok (.iastore, 1) := by decide +kernel
theorem dX6_alter_82 : decode cX6_alter 82 = .ok (.iload 7, 2) := by decide +kernel
theorem dX6_alter_84 : decode cX6_alter 84 = .ok (.ireturn, 1) := by decide +kernel
theorem dX6_tie_0 : decode cX6_tie 0 = .ok (.aload_n 0, 1) := by decide +kernel
theorem dX6_tie_1 : decode cX6_tie 1 = .ok (.getfield 25, 3) := by decide +kernel
theorem dX6_tie_4 : decode cX6_tie 4 = .ok (.iload_n 1, 1) := by decide +kernel
theorem dX6_tie_5 : decode cX6_tie 5 = .ok (.invokevirtual 139, 3) := by decide +kernel
theorem dX6_tie_8 : decode cX6_tie 8 = .ok (.astore 5, 2) := by decide +kernel
theorem dX6_tie_10 : decode cX6_tie 10 = .ok (.aload 5, 2) := by decide +kernel
theorem dX6_tie_12 : decode cX6_tie 12 = .ok (.ifnull 24, 3) := by decide +kernel
theorem dX6_tie_15 : decode cX6_tie 15 = .ok (.aload 5, 2) := by decide +kernel
theorem dX6_tie_17 : decode cX6_tie 17 = .ok (.iload_n 2, 1) := by decide +kernel
theorem dX6_tie_18 : decode cX6_tie 18 = .ok (.iload_n 3, 1) := by decide +kernel
theorem dX6_tie_19 : decode cX6_tie 19 = .ok (.invokevirtual 179, 3) := by decide +kernel
theorem dX6_tie_22 : decode cX6_tie 22 = .ok (.ifCond .eq 14, 3) := by decide +kernel
theorem dX6_tie_25 : decode cX6_tie 25 = .ok (.iload 4, 2) := by decide +kernel
theorem dX6_tie_27 : decode cX6_tie 27 = .ok (.iconst (-1), 1) := by decide +kernel
theorem dX6_tie_28 : decode cX6_tie 28 = .ok (.bipush 9, 2) := by decide +kernel
theorem dX6_tie_30 : decode cX6_tie 30 = .ok (.invokestatic 55, 3) := by decide +kernel
theorem dX6_tie_33 : decode cX6_tie 33 = .ok (.ifCond .ne 10, 3) := by decide +kernel
theorem dX6_tie_36 : decode cX6_tie 36 = .ok (.aload_n 0, 1) := by decide +kernel
theorem dX6_tie_37 : decode cX6_tie 37 = .ok (.bipush (-2), 2) := by decide +kernel
theorem dX6_tie_39 : decode cX6_tie 39 = .ok (.invokevirtual 59, 3) := by decide +kernel
theorem dX6_tie_42 : decode cX6_tie 42 = .ok (.ireturn, 1) := by decide +kernel
theorem dX6_tie_43 : decode cX6_tie 43 = .ok (.aload 5, 2) := by decide +kernel
theorem dX6_tie_45 : decode cX6_tie 45 = .ok (.iload_n 2, 1) := by decide +kernel
theorem dX6_tie_46 : decode cX6_tie 46 = .ok (.iload_n 3, 1) := by decide +kernel
theorem dX6_tie_47 : decode cX6_tie 47 = .ok (.invokevirtual 182, 3) := by decide +kernel
theorem dX6_tie_50 : decode cX6_tie 50 = .ok (.istore 6, 2) := by decide +kernel
theorem dX6_tie_52 : decode cX6_tie 52 = .ok (.iload 4, 2) := by decide +kernel
theorem dX6_tie_54 : decode cX6_tie 54 = .ok (.iconst (-1), 1) := by decide +kernel
theorem dX6_tie_55 : decode cX6_tie 55 = .ok (.if_icmp .ne 13, 3) := by decide +kernel
theorem dX6_tie_58 : decode cX6_tie 58 = .ok (.aload 5, 2) := by decide +kernel
theorem dX6_tie_60 : decode cX6_tie 60 = .ok (.iload_n 2, 1) := by decide +kernel
theorem dX6_tie_61 : decode cX6_tie 61 = .ok (.iload_n 3, 1) := by decide +kernel
theorem dX6_tie_62 : decode cX6_tie 62 = .ok (.invokevirtual 186, 3) := by decide +kernel
theorem dX6_tie_65 : decode cX6_tie 65 = .ok (.goto 12, 3) := by decide +kernel
theorem dX6_tie_68 : decode cX6_tie 68 = .ok (.aload 5, 2) := by decide +kernel
theorem dX6_tie_70 : decode cX6_tie 70 = .ok (.iload_n 2, 1) := by decide +kernel
theorem dX6_tie_71 : decode cX6_tie 71 = .ok (.iload_n 3, 1) := by decide +kernel
theorem dX6_tie_72 : decode cX6_tie 72 = .ok (.iload 4, 2) := by decide +kernel
theorem dX6_tie_74 : decode cX6_tie 74 = .ok (.invokevirtual 189, 3) := by decide +kernel
theorem dX6_tie_77 : decode cX6_tie 77 = .ok (.iload 6, 2) := by decide +kernel
theorem dX6_tie_79 : decode cX6_tie 79 = .ok (.ireturn, 1) := by decide +kernel
theorem dX6_must_0 : decode cX6_must 0 = .ok (.aload_n 0, 1) := by decide +kernel
theorem dX6_must_1 : decode cX6_must 1 = .ok (.getfield 25, 3) := by decide +kernel
theorem dX6_must_4 : decode cX6_must 4 = .ok (.iload_n 1, 1) := by decide +kernel
theorem dX6_must_5 : decode cX6_must 5 = .ok (.invokevirtual 139, 3) := by decide +kernel
theorem dX6_must_8 : decode cX6_must 8 = .ok (.astore 4, 2) := by decide +kernel
theorem dX6_must_10 : decode cX6_must 10 = .ok (.aload 4, 2) := by decide +kernel
theorem dX6_must_12 : decode cX6_must 12 = .ok (.ifnull 12, 3) := by decide +kernel
theorem dX6_must_15 : decode cX6_must 15 = .ok (.aload 4, 2) := by decide +kernel
theorem dX6_must_17 : decode cX6_must 17 = .ok (.iload_n 2, 1) := by decide +kernel
theorem dX6_must_18 : decode cX6_must 18 = .ok (.invokevirtual 158, 3) := by decide +kernel
theorem dX6_must_21 : decode cX6_must 21 = .ok (.ifCond .ne 10, 3) := by decide +kernel
theorem dX6_must_24 : decode cX6_must 24 = .ok (.aload_n 0, 1) := by decide +kernel
theorem dX6_must_25 : decode cX6_must 25 = .ok (.bipush (-2), 2) := by decide +kernel
theorem dX6_must_27 : decode cX6_must 27 = .ok (.invokevirtual 59, 3) := by decide +kernel
theorem dX6_must_30 : decode cX6_must 30 = .ok (.ireturn, 1) := by decide +kernel
theorem dX6_must_31 : decode cX6_must 31 = .ok (.aload 4, 2) := by decide +kernel
theorem dX6_must_33 : decode cX6_must 33 = .ok (.iload_n 2, 1) := by decide +kernel
theorem dX6_must_34 : decode cX6_must 34 = .ok (.invokevirtual 170, 3) := by decide +kernel
theorem dX6_must_37 : decode cX6_must 37 = .ok (.ifCond .eq 7, 3) := by decide +kernel
theorem dX6_must_40 : decode cX6_must 40 = .ok (.iconst 1, 1) := by decide +kernel
theorem dX6_must_41 : decode cX6_must 41 = .ok (.goto 4, 3) := by decide +kernel
theorem dX6_must_44 : decode cX6_must 44 = .ok (.iconst 0, 1) := by decide +kernel
theorem dX6_must_45 : decode cX6_must 45 = .ok (.istore 5, 2) := by decide +kernel
theorem dX6_must_47 : decode cX6_must 47 = .ok (.aload 4, 2) := by decide +kernel
theorem dX6_must_49 : decode cX6_must 49 = .ok (.iload_n 2, 1) := by decide +kernel
theorem dX6_must_50 : decode cX6_must 50 = .ok (.iload_n 3, 1) := by decide +kernel
theorem dX6_must_51 : decode cX6_must 51 = .ok (.invokevirtual 193, 3) := by decide +kernel
theorem dX6_must_54 : decode cX6_must 54 = .ok (.iload 5, 2) := by decide +kernel
theorem dX6_must_56 : decode cX6_must 56 = .ok (.ireturn, 1) := by decide +kernel
theorem dX6_take_0 : decode cX6_take 0 = .ok (.aload_n 0, 1) := by decide +kernel
theorem dX6_take_1 : decode cX6_take 1 = .ok (.getfield 25, 3) := by decide +kernel
theorem dX6_take_4 : decode cX6_take 4 = .ok (.iload_n 1, 1) := by decide +kernel
theorem dX6_take_5 : decode cX6_take 5 = .ok (.invokevirtual 139, 3) := by decide +kernel
theorem dX6_take_8 : decode cX6_take 8 = .ok (.astore 4, 2) := by decide +kernel
theorem dX6_take_10 : decode cX6_take 10 = .ok (.aload 4, 2) := by decide +kernel
theorem dX6_take_12 : decode cX6_take 12 = .ok (.ifnull 12, 3) := by decide +kernel
theorem dX6_take_15 : decode cX6_take 15 = .ok (.aload 4, 2) := by decide +kernel
theorem dX6_take_17 : decode cX6_take 17 = .ok (.iload_n 2, 1) := by decide +kernel
theorem dX6_take_18 : decode cX6_take 18 = .ok (.invokevirtual 158, 3) := by decide +kernel
theorem dX6_take_21 : decode cX6_take 21 = .ok (.ifCond .ne 10, 3) := by decide +kernel
theorem dX6_take_24 : decode cX6_take 24 = .ok (.aload_n 0, 1) := by decide +kernel
theorem dX6_take_25 : decode cX6_take 25 = .ok (.bipush (-2), 2) := by decide +kernel
theorem dX6_take_27 : decode cX6_take 27 = .ok (.invokevirtual 59, 3) := by decide +kernel
theorem dX6_take_30 : decode cX6_take 30 = .ok (.ireturn, 1) := by decide +kernel
theorem dX6_take_31 : decode cX6_take 31 = .ok (.iload_n 3, 1) := by decide +kernel
theorem dX6_take_32 : decode cX6_take 32 = .ok (.iconst (-1), 1) := by decide +kernel
theorem dX6_take_33 : decode cX6_take 33 = .ok (.if_icmp .ne 13, 3) := by decide +kernel
theorem dX6_take_36 : decode cX6_take 36 = .ok (.aload 4, 2) := by decide +kernel
theorem dX6_take_38 : decode cX6_take 38 = .ok (.iload_n 2, 1) := by decide +kernel
theorem dX6_take_39 : decode cX6_take 39 = .ok (.iconst (-1), 1) := by decide +kernel
theorem dX6_take_40 : decode cX6_take 40 = .ok (.iconst 0, 1) := by decide +kernel
theorem dX6_take_41 : decode cX6_take 41 = .ok (.invokevirtual 197, 3) := by decide +kernel
theorem dX6_take_44 : decode cX6_take 44 = .ok (.iconst 1, 1) := by decide +kernel
theorem dX6_take_45 : decode cX6_take 45 = .ok (.ireturn, 1) := by decide +kernel
theorem dX6_take_46 : decode cX6_take 46 = .ok (.aload_n 0, 1) := by decide +kernel
theorem dX6_take_47 : decode cX6_take 47 = .ok (.iload_n 3, 1) := by decide +kernel
theorem dX6_take_48 : decode cX6_take 48 = .ok (.invokevirtual 51, 3) := by decide +kernel
theorem dX6_take_51 : decode cX6_take 51 = .ok (.astore 5, 2) := by decide +kernel
theorem dX6_take_53 : decode cX6_take 53 = .ok (.aload 5, 2) := by decide +kernel
theorem dX6_take_55 : decode cX6_take 55 = .ok (.ifnonnull 10, 3) := by decide +kernel
theorem dX6_take_58 : decode cX6_take 58 = .ok (.aload_n 0, 1) := by decide +kernel
theorem dX6_take_59 : decode cX6_take 59 = .ok (.bipush (-2), 2) := by decide +kernel
theorem dX6_take_61 : decode cX6_take 61 = .ok (.invokevirtual 59, 3) := by decide +kernel
theorem dX6_take_64 : decode cX6_take 64 = .ok (.ireturn, 1) := by decide +kernel
theorem dX6_take_65 : decode cX6_take 65 = .ok (.aload 5, 2) := by decide +kernel
theorem dX6_take_67 : decode cX6_take 67 = .ok (.invokevirtual 71, 3) := by decide +kernel
theorem dX6_take_70 : decode cX6_take 70 = .ok (.ifCond .eq 10, 3) := by decide +kernel
theorem dX6_take_73 : decode cX6_take 73 = .ok (.aload_n 0, 1) := by decide +kernel
theorem dX6_take_74 : decode cX6_take 74 = .ok (.bipush (-3), 2) := by decide +kernel
theorem dX6_take_76 : decode cX6_take 76 = .ok (.invokevirtual 59, 3) := by decide +kernel
theorem dX6_take_79 : decode cX6_take 79 = .ok (.ireturn, 1) := by decide +kernel
theorem dX6_take_80 : decode cX6_take 80 = .ok (.aload 5, 2) := by decide +kernel
theorem dX6_take_82 : decode cX6_take 82 = .ok (.invokevirtual 67, 3) := by decide +kernel
theorem dX6_take_85 : decode cX6_take 85 = .ok (.ifCond .ne 10, 3) := by decide +kernel
theorem dX6_take_88 : decode cX6_take 88 = .ok (.aload_n 0, 1) := by decide +kernel
theorem dX6_take_89 : decode cX6_take 89 = .ok (.bipush (-4), 2) := by decide +kernel
theorem dX6_take_91 : decode cX6_take 91 = .ok (.invokevirtual 59, 3) := by decide +kernel
theorem dX6_take_94 : decode cX6_take 94 = .ok (.ireturn, 1) := by decide +kernel
theorem dX6_take_95 : decode cX6_take 95 = .ok (.aload 4, 2) := by decide +kernel
theorem dX6_take_97 : decode cX6_take 97 = .ok (.iload_n 2, 1) := by decide +kernel
theorem dX6_take_98 : decode cX6_take 98 = .ok (.aload 5, 2) := by decide +kernel
theorem dX6_take_100 : decode cX6_take 100 = .ok (.invokevirtual 200, 3) := by decide +kernel
theorem dX6_take_103 : decode cX6_take 103 = .ok (.aload 5, 2) := by decide +kernel
theorem dX6_take_105 : decode cX6_take 105 = .ok (.getfield 202, 3) := by decide +kernel
theorem dX6_take_108 : decode cX6_take 108 = .ok (.invokevirtual 197, 3) := by decide +kernel
theorem dX6_take_111 : decode cX6_take 111 = .ok (.iconst 1, 1) := by decide +kernel
theorem dX6_take_112 : decode cX6_take 112 = .ok (.ireturn, 1) := by decide +kernel
theorem dX6_come_0 : decode cX6_come 0 = .ok (.aload_n 0, 1) := by decide +kernel
theorem dX6_come_1 : decode cX6_come 1 = .ok (.getfield 25, 3) := by decide +kernel
theorem dX6_come_4 : decode cX6_come 4 = .ok (.iload_n 1, 1) := by decide +kernel
theorem dX6_come_5 : decode cX6_come 5 = .ok (.invokevirtual 139, 3) := by decide +kernel
theorem dX6_come_8 : decode cX6_come 8 = .ok (.astore 5, 2) := by decide +kernel
theorem dX6_come_10 : decode cX6_come 10 = .ok (.aload 5, 2) := by decide +kernel
theorem dX6_come_12 : decode cX6_come 12 = .ok (.ifnull 33, 3) := by decide +kernel
theorem dX6_come_15 : decode cX6_come 15 = .ok (.aload 5, 2) := by decide +kernel
theorem dX6_come_17 : decode cX6_come 17 = .ok (.iload_n 2, 1) := by decide +kernel
theorem dX6_come_18 : decode cX6_come 18 = .ok (.invokevirtual 205, 3) := by decide +kernel
theorem dX6_come_21 : decode cX6_come 21 = .ok (.ifCond .eq 24, 3) := by decide +kernel
theorem dX6_come_24 : decode cX6_come 24 = .ok (.iload_n 3, 1) := by decide +kernel
theorem dX6_come_25 : decode cX6_come 25 = .ok (.iconst 0, 1) := by decide +kernel
theorem dX6_come_26 : decode cX6_come 26 = .ok (.bipush 99, 2) := by decide +kernel
theorem dX6_come_28 : decode cX6_come 28 = .ok (.invokestatic 55, 3) := by decide +kernel
theorem dX6_come_31 : decode cX6_come 31 = .ok (.ifCond .eq 14, 3) := by decide +kernel
theorem dX6_come_34 : decode cX6_come 34 = .ok (.iload 4, 2) := by decide +kernel
theorem dX6_come_36 : decode cX6_come 36 = .ok (.iconst 0, 1) := by decide +kernel
theorem dX6_come_37 : decode cX6_come 37 = .ok (.bipush 99, 2) := by decide +kernel
theorem dX6_come_39 : decode cX6_come 39 = .ok (.invokestatic 55, 3) := by decide +kernel
theorem dX6_come_42 : decode cX6_come 42 = .ok (.ifCond .ne 10, 3) := by decide +kernel
theorem dX6_come_45 : decode cX6_come 45 = .ok (.aload_n 0, 1) := by decide +kernel
theorem dX6_come_46 : decode cX6_come 46 = .ok (.bipush (-2), 2) := by decide +kernel
theorem dX6_come_48 : decode cX6_come 48 = .ok (.invokevirtual 59, 3) := by decide +kernel
theorem dX6_come_51 : decode cX6_come 51 = .ok (.ireturn, 1) := by decide +kernel
theorem dX6_come_52 : decode cX6_come 52 = .ok (.aload 5, 2) := by decide +kernel
theorem dX6_come_54 : decode cX6_come 54 = .ok (.getfield 143, 3) := by decide +kernel
theorem dX6_come_57 : decode cX6_come 57 = .ok (.bipush 12, 2) := by decide +kernel
theorem dX6_come_59 : decode cX6_come 59 = .ok (.if_icmp .lt 10, 3) := by decide +kernel
theorem dX6_come_62 : decode cX6_come 62 = .ok (.aload_n 0, 1) := by decide +kernel
theorem dX6_come_63 : decode cX6_come 63 = .ok (.bipush (-6), 2) := by decide +kernel
theorem dX6_come_65 : decode cX6_come 65 = .ok (.invokevirtual 59, 3) := by decide +kernel
theorem dX6_come_68 : decode cX6_come 68 = .ok (.ireturn, 1) := by decide +kernel
theorem dX6_come_69 : decode cX6_come 69 = .ok (.aload 5, 2) := by decide +kernel
theorem dX6_come_71 : decode cX6_come 71 = .ok (.iload_n 2, 1) := by decide +kernel
theorem dX6_come_72 : decode cX6_come 72 = .ok (.iload_n 3, 1) := by decide +kernel
theorem dX6_come_73 : decode cX6_come 73 = .ok (.iload 4, 2) := by decide +kernel
theorem dX6_come_75 : decode cX6_come 75 = .ok (.invokevirtual 208, 3) := by decide +kernel
theorem dX6_come_78 : decode cX6_come 78 = .ok (.ireturn, 1) := by decide +kernel
theorem dX6_total_0 : decode cX6_total 0 = .ok (.aload_n 0, 1) := by decide +kernel
theorem dX6_total_1 : decode cX6_total 1 = .ok (.iload_n 1, 1) := by decide +kernel
theorem dX6_total_2 : decode cX6_total 2 = .ok (.iload_n 2, 1) := by decide +kernel
theorem dX6_total_3 : decode cX6_total 3 = .ok (.invokevirtual 216, 3) := by decide +kernel
theorem dX6_total_6 : decode cX6_total 6 = .ok (.astore_n 3, 1) := by decide +kernel
theorem dX6_total_7 : decode cX6_total 7 = .ok (.aload_n 3, 1) := by decide +kernel
theorem dX6_total_8 : decode cX6_total 8 = .ok (.ifnonnull 15, 3) := by decide +kernel
theorem dX6_total_11 : decode cX6_total 11 = .ok (.ldc 212, 2) := by decide +kernel
theorem dX6_total_13 : decode cX6_total 13 = .ok (.aload_n 0, 1) := by decide +kernel
theorem dX6_total_14 : decode cX6_total 14 = .ok (.bipush (-2), 2) := by decide +kernel
theorem dX6_total_16 : decode cX6_total 16 = .ok (.invokevirtual 59, 3) := by decide +kernel
theorem dX6_total_19 : decode cX6_total 19 = .ok (.iadd, 1) := by decide +kernel
theorem dX6_total_20 : decode cX6_total 20 = .ok (.goto 8, 3) := by decide +kernel
theorem dX6_total_23 : decode cX6_total 23 = .ok (.aload_n 3, 1) := by decide +kernel
theorem dX6_total_24 : decode cX6_total 24 = .ok (.iload_n 2, 1) := by decide +kernel
theorem dX6_total_25 : decode cX6_total 25 = .ok (.invokevirtual 220, 3) := by decide +kernel
theorem dX6_total_28 : decode cX6_total 28 = .ok (.ireturn, 1) := by decide +kernel
theorem dX6_judge_0 : decode cX6_judge 0 = .ok (.aload_n 0, 1) := by decide +kernel
theorem dX6_judge_1 : decode cX6_judge 1 = .ok (.iload_n 1, 1) := by decide +kernel
theorem dX6_judge_2 : decode cX6_judge 2 = .ok (.iload_n 2, 1) := by decide +kernel
theorem dX6_judge_3 : decode cX6_judge 3 = .ok (.invokevirtual 216, 3) := by decide +kernel
theorem dX6_judge_6 : decode cX6_judge 6 = .ok (.astore_n 3, 1) := by decide +kernel
theorem dX6_judge_7 : decode cX6_judge 7 = .ok (.aload_n 3, 1) := by decide +kernel
theorem dX6_judge_8 : decode cX6_judge 8 = .ok (.ifnonnull 12, 3) := by decide +kernel
theorem dX6_judge_11 : decode cX6_judge 11 = .ok (.aload_n 0, 1) := by decide +kernel
theorem dX6_judge_12 : decode cX6_judge 12 = .ok (.bipush (-2), 2) := by decide +kernel
theorem dX6_judge_14 : decode cX6_judge 14 = .ok (.invokevirtual 59, 3) := by decide +kernel
theorem dX6_judge_17 : decode cX6_judge 17 = .ok (.goto 8, 3) := by decide +kernel
theorem dX6_judge_20 : decode cX6_judge 20 = .ok (.aload_n 3, 1) := by decide +kernel
theorem dX6_judge_21 : decode cX6_judge 21 = .ok (.iload_n 2, 1) := by decide +kernel
theorem dX6_judge_22 : decode cX6_judge 22 = .ok (.invokevirtual 223, 3) := by decide +kernel
theorem dX6_judge_25 : decode cX6_judge 25 = .ok (.ireturn, 1) := by decide +kernel
theorem dX6_count_0 : decode cX6_count 0 = .ok (.aload_n 0, 1) := by decide +kernel
theorem dX6_count_1 : decode cX6_count 1 = .ok (.getfield 25, 3) := by decide +kernel
theorem dX6_count_4 : decode cX6_count 4 = .ok (.iload_n 1, 1) := by decide +kernel
theorem dX6_count_5 : decode cX6_count 5 = .ok (.invokevirtual 139, 3) := by decide +kernel
theorem dX6_count_8 : decode cX6_count 8 = .ok (.astore_n 2, 1) := by decide +kernel
theorem dX6_count_9 : decode cX6_count 9 = .ok (.aload_n 2, 1) := by decide +kernel
theorem dX6_count_10 : decode cX6_count 10 = .ok (.ifnonnull 12, 3) := by decide +kernel
theorem dX6_count_13 : decode cX6_count 13 = .ok (.aload_n 0, 1) := by decide +kernel
theorem dX6_count_14 : decode cX6_count 14 = .ok (.bipush (-2), 2) := by decide +kernel
theorem dX6_count_16 : decode cX6_count 16 = .ok (.invokevirtual 59, 3) := by decide +kernel
theorem dX6_count_19 : decode cX6_count 19 = .ok (.goto 7, 3) := by decide +kernel
theorem dX6_count_22 : decode cX6_count 22 = .ok (.aload_n 2, 1) := by decide +kernel
theorem dX6_count_23 : decode cX6_count 23 = .ok (.invokevirtual 226, 3) := by decide +kernel
theorem dX6_count_26 : decode cX6_count 26 = .ok (.ireturn, 1) := by decide +kernel
theorem dX6_rest_0 : decode cX6_rest 0 = .ok (.aload_n 0, 1) := by decide +kernel
theorem dX6_rest_1 : decode cX6_rest 1 = .ok (.getfield 25, 3) := by decide +kernel
theorem dX6_rest_4 : decode cX6_rest 4 = .ok (.iload_n 1, 1) := by decide +kernel
theorem dX6_rest_5 : decode cX6_rest 5 = .ok (.invokevirtual 139, 3) := by decide +kernel
theorem dX6_rest_8 : decode cX6_rest 8 = .ok (.astore_n 3, 1) := by decide +kernel
theorem dX6_rest_9 : decode cX6_rest 9 = .ok (.aload_n 3, 1) := by decide +kernel
theorem dX6_rest_10 : decode cX6_rest 10 = .ok (.ifnull 7, 3) := by decide +kernel
theorem dX6_rest_13 : decode cX6_rest 13 = .ok (.iload_n 2, 1) := by decide +kernel
theorem dX6_rest_14 : decode cX6_rest 14 = .ok (.ifCond .ge 10, 3) := by decide +kernel
theorem dX6_rest_17 : decode cX6_rest 17 = .ok (.aload_n 0, 1) := by decide +kernel
theorem dX6_rest_18 : decode cX6_rest 18 = .ok (.bipush (-2), 2) := by decide +kernel
theorem dX6_rest_20 : decode cX6_rest 20 = .ok (.invokevirtual 59, 3) := by decide +kernel
theorem dX6_rest_23 : decode cX6_rest 23 = .ok (.ireturn, 1) := by decide +kernel
theorem dX6_rest_24 : decode cX6_rest 24 = .ok (.aload_n 3, 1) := by decide +kernel
theorem dX6_rest_25 : decode cX6_rest 25 = .ok (.iload_n 2, 1) := by decide +kernel
theorem dX6_rest_26 : decode cX6_rest 26 = .ok (.invokevirtual 229, 3) := by decide +kernel
theorem dX6_rest_29 : decode cX6_rest 29 = .ok (.istore 4, 2) := by decide +kernel
theorem dX6_rest_31 : decode cX6_rest 31 = .ok (.iload 4, 2) := by decide +kernel
theorem dX6_rest_33 : decode cX6_rest 33 = .ok (.iconst (-1), 1) := by decide +kernel
theorem dX6_rest_34 : decode cX6_rest 34 = .ok (.if_icmp .ne 12, 3) := by decide +kernel
theorem dX6_rest_37 : decode cX6_rest 37 = .ok (.aload_n 0, 1) := by decide +kernel
theorem dX6_rest_38 : decode cX6_rest 38 = .ok (.bipush (-2), 2) := by decide +kernel
theorem dX6_rest_40 : decode cX6_rest 40 = .ok (.invokevirtual 59, 3) := by decide +kernel
theorem dX6_rest_43 : decode cX6_rest 43 = .ok (.goto 5, 3) := by decide +kernel
theorem dX6_rest_46 : decode cX6_rest 46 = .ok (.iload 4, 2) := by decide +kernel
theorem dX6_rest_48 : decode cX6_rest 48 = .ok (.ireturn, 1) := by decide +kernel
theorem dX6_fewest_0 : decode cX6_fewest 0 = .ok (.aload_n 0, 1) := by decide +kernel
theorem dX6_fewest_1 : decode cX6_fewest 1 = .ok (.iload_n 1, 1) := by decide +kernel
theorem dX6_fewest_2 : decode cX6_fewest 2 = .ok (.iconst 0, 1) := by decide +kernel
theorem dX6_fewest_3 : decode cX6_fewest 3 = .ok (.invokevirtual 232, 3) := by decide +kernel
theorem dX6_fewest_6 : decode cX6_fewest 6 = .ok (.ireturn, 1) := by decide +kernel
theorem dX6_most_0 : decode cX6_most 0 = .ok (.aload_n 0, 1) := by decide +kernel
theorem dX6_most_1 : decode cX6_most 1 = .ok (.iload_n 1, 1) := by decide +kernel
theorem dX6_most_2 : decode cX6_most 2 = .ok (.iconst 1, 1) := by decide +kernel
theorem dX6_most_3 : decode cX6_most 3 = .ok (.invokevirtual 232, 3) := by decide +kernel
theorem dX6_most_6 : decode cX6_most 6 = .ok (.ireturn, 1) := by decide +kernel
theorem dX6_best_0 : decode cX6_best 0 = .ok (.aload_n 0, 1) := by decide +kernel
theorem dX6_best_1 : decode cX6_best 1 = .ok (.iload_n 1, 1) := by decide +kernel
theorem dX6_best_2 : decode cX6_best 2 = .ok (.iconst 3, 1) := by decide +kernel
theorem dX6_best_3 : decode cX6_best 3 = .ok (.invokevirtual 232, 3) := by decide +kernel
theorem dX6_best_6 : decode cX6_best 6 = .ok (.ireturn, 1) := by decide +kernel
theorem dX6_good_0 : decode cX6_good 0 = .ok (.aload_n 0, 1) := by decide +kernel
theorem dX6_good_1 : decode cX6_good 1 = .ok (.getfield 25, 3) := by decide +kernel
theorem dX6_good_4 : decode cX6_good 4 = .ok (.iload_n 1, 1) := by decide +kernel
theorem dX6_good_5 : decode cX6_good 5 = .ok (.invokevirtual 139, 3) := by decide +kernel
theorem dX6_good_8 : decode cX6_good 8 = .ok (.astore_n 2, 1) := by decide +kernel
theorem dX6_good_9 : decode cX6_good 9 = .ok (.aload_n 2, 1) := by decide +kernel
theorem dX6_good_10 : decode cX6_good 10 = .ok (.ifnonnull 12, 3) := by decide +kernel
theorem dX6_good_13 : decode cX6_good 13 = .ok (.aload_n 0, 1) := by decide +kernel
theorem dX6_good_14 : decode cX6_good 14 = .ok (.bipush (-2), 2) := by decide +kernel
theorem dX6_good_16 : decode cX6_good 16 = .ok (.invokevirtual 59, 3) := by decide +kernel
theorem dX6_good_19 : decode cX6_good 19 = .ok (.goto 9, 3) := by decide +kernel
theorem dX6_good_22 : decode cX6_good 22 = .ok (.aload_n 2, 1) := by decide +kernel
theorem dX6_good_23 : decode cX6_good 23 = .ok (.iconst 3, 1) := by decide +kernel
theorem dX6_good_24 : decode cX6_good 24 = .ok (.iconst 0, 1) := by decide +kernel
theorem dX6_good_25 : decode cX6_good 25 = .ok (.invokevirtual 235, 3) := by decide +kernel
theorem dX6_good_28 : decode cX6_good 28 = .ok (.ireturn, 1) := by decide +kernel
theorem dX6_lost_0 : decode cX6_lost 0 = .ok (.aload_n 0, 1) := by decide +kernel
theorem dX6_lost_1 : decode cX6_lost 1 = .ok (.iload_n 1, 1) := by decide +kernel
theorem dX6_lost_2 : decode cX6_lost 2 = .ok (.iconst 3, 1) := by decide +kernel
theorem dX6_lost_3 : decode cX6_lost 3 = .ok (.invokevirtual 239, 3) := by decide +kernel
theorem dX6_lost_6 : decode cX6_lost 6 = .ok (.ireturn, 1) := by decide +kernel
theorem dX6_beside_0 : decode cX6_beside 0 = .ok (.aload_n 0, 1) := by decide +kernel
theorem dX6_beside_1 : decode cX6_beside 1 = .ok (.iload_n 1, 1) := by decide +kernel
theorem dX6_beside_2 : decode cX6_beside 2 = .ok (.iconst 4, 1) := by decide +kernel
theorem dX6_beside_3 : decode cX6_beside 3 = .ok (.invokevirtual 239, 3) := by decide +kernel
theorem dX6_beside_6 : decode cX6_beside 6 = .ok (.ireturn, 1) := by decide +kernel
theorem dX6_go_0 : decode cX6_go 0 = .ok (.aload_n 0, 1) := by decide +kernel
theorem dX6_go_1 : decode cX6_go 1 = .ok (.iload_n 1, 1) := by decide +kernel
theorem dX6_go_2 : decode cX6_go 2 = .ok (.iload_n 2, 1) := by decide +kernel
theorem dX6_go_3 : decode cX6_go 3 = .ok (.invokevirtual 216, 3) := by decide +kernel
theorem dX6_go_6 : decode cX6_go 6 = .ok (.astore_n 3, 1) := by decide +kernel
theorem dX6_go_7 : decode cX6_go 7 = .ok (.aload_n 3, 1) := by decide +kernel
theorem dX6_go_8 : decode cX6_go 8 = .ok (.ifnonnull 10, 3) := by decide +kernel
theorem dX6_go_11 : decode cX6_go 11 = .ok (.aload_n 0, 1) := by decide +kernel
theorem dX6_go_12 : decode cX6_go 12 = .ok (.bipush (-2), 2) := by decide +kernel
theorem dX6_go_14 : decode cX6_go 14 = .ok (.invokevirtual 59, 3) := by decide +kernel
theorem dX6_go_17 : decode cX6_go 17 = .ok (.ireturn, 1) := by decide +kernel
theorem dX6_go_18 : decode cX6_go 18 = .ok (.aload_n 0, 1) := by decide +kernel
theorem dX6_go_19 : decode cX6_go 19 = .ok (.getfield 42, 3) := by decide +kernel
theorem dX6_go_22 : decode cX6_go 22 = .ok (.aload_n 3, 1) := by decide +kernel
theorem dX6_go_23 : decode cX6_go 23 = .ok (.iload_n 2, 1) := by decide +kernel
theorem dX6_go_24 : decode cX6_go 24 = .ok (.aload_n 3, 1) := by decide +kernel
theorem dX6_go_25 : decode cX6_go 25 = .ok (.getfield 152, 3) := by decide +kernel
theorem dX6_go_28 : decode cX6_go 28 = .ok (.ior, 1) := by decide +kernel
theorem dX6_go_29 : decode cX6_go 29 = .ok (.invokevirtual 242, 3) := by decide +kernel
theorem dX6_go_32 : decode cX6_go 32 = .ok (.aload_n 0, 1) := by decide +kernel
theorem dX6_go_33 : decode cX6_go 33 = .ok (.getfield 42, 3) := by decide +kernel
theorem dX6_go_36 : decode cX6_go 36 = .ok (.getfield 246, 3) := by decide +kernel
theorem dX6_go_39 : decode cX6_go 39 = .ok (.ifCond .le 12, 3) := by decide +kernel
theorem dX6_go_42 : decode cX6_go 42 = .ok (.aload_n 0, 1) := by decide +kernel
theorem dX6_go_43 : decode cX6_go 43 = .ok (.bipush (-5), 2) := by decide +kernel
theorem dX6_go_45 : decode cX6_go 45 = .ok (.invokevirtual 59, 3) := by decide +kernel
theorem dX6_go_48 : decode cX6_go 48 = .ok (.goto 10, 3) := by decide +kernel
theorem dX6_go_51 : decode cX6_go 51 = .ok (.aload_n 0, 1) := by decide +kernel
theorem dX6_go_52 : decode cX6_go 52 = .ok (.getfield 42, 3) := by decide +kernel
theorem dX6_go_55 : decode cX6_go 55 = .ok (.getfield 249, 3) := by decide +kernel
theorem dX6_go_58 : decode cX6_go 58 = .ok (.ireturn, 1) := by decide +kernel
theorem dX6_turns_0 : decode cX6_turns 0 = .ok (.aload_n 0, 1) := by decide +kernel
theorem dX6_turns_1 : decode cX6_turns 1 = .ok (.iload_n 1, 1) := by decide +kernel
theorem dX6_turns_2 : decode cX6_turns 2 = .ok (.iload_n 2, 1) := by decide +kernel
theorem dX6_turns_3 : decode cX6_turns 3 = .ok (.invokevirtual 216, 3) := by decide +kernel
theorem dX6_turns_6 : decode cX6_turns 6 = .ok (.astore_n 3, 1) := by decide +kernel
theorem dX6_turns_7 : decode cX6_turns 7 = .ok (.aload_n 3, 1) := by decide +kernel
theorem dX6_turns_8 : decode cX6_turns 8 = .ok (.ifnonnull 10, 3) := by decide +kernel
theorem dX6_turns_11 : decode cX6_turns 11 = .ok (.aload_n 0, 1) := by decide +kernel
theorem dX6_turns_12 : decode cX6_turns 12 = .ok (.bipush (-2), 2) := by decide +kernel
theorem dX6_turns_14 : decode cX6_turns 14 = .ok (.invokevirtual 59, 3) := by decide +kernel
theorem dX6_turns_17 : decode cX6_turns 17 = .ok (.ireturn, 1) := by decide +kernel
theorem dX6_turns_18 : decode cX6_turns 18 = .ok (.aload_n 0, 1) := by decide +kernel
theorem dX6_turns_19 : decode cX6_turns 19 = .ok (.getfield 42, 3) := by decide +kernel
theorem dX6_turns_22 : decode cX6_turns 22 = .ok (.aload_n 3, 1) := by decide +kernel
theorem dX6_turns_23 : decode cX6_turns 23 = .ok (.iload_n 2, 1) := by decide +kernel
theorem dX6_turns_24 : decode cX6_turns 24 = .ok (.aload_n 3, 1) := by decide +kernel
theorem dX6_turns_25 : decode cX6_turns 25 = .ok (.getfield 152, 3) := by decide +kernel
theorem dX6_turns_28 : decode cX6_turns 28 = .ok (.ior, 1) := by decide +kernel
theorem dX6_turns_29 : decode cX6_turns 29 = .ok (.invokevirtual 242, 3) := by decide +kernel
theorem dX6_turns_32 : decode cX6_turns 32 = .ok (.aload_n 0, 1) := by decide +kernel
theorem dX6_turns_33 : decode cX6_turns 33 = .ok (.getfield 42, 3) := by decide +kernel
theorem dX6_turns_36 : decode cX6_turns 36 = .ok (.getfield 252, 3) := by decide +kernel
theorem dX6_turns_39 : decode cX6_turns 39 = .ok (.ireturn, 1) := by decide +kernel
theorem dX6_ring_0 : decode cX6_ring 0 = .ok (.aload_n 0, 1) := by decide +kernel
theorem dX6_ring_1 : decode cX6_ring 1 = .ok (.iload_n 1, 1) := by decide +kernel
theorem dX6_ring_2 : decode cX6_ring 2 = .ok (.iload_n 2, 1) := by decide +kernel
theorem dX6_ring_3 : decode cX6_ring 3 = .ok (.invokevirtual 216, 3) := by decide +kernel
theorem dX6_ring_6 : decode cX6_ring 6 = .ok (.astore_n 3, 1) := by decide +kernel
theorem dX6_ring_7 : decode cX6_ring 7 = .ok (.aload_n 3, 1) := by decide +kernel
theorem dX6_ring_8 : decode cX6_ring 8 = .ok (.ifnonnull 10, 3) := by decide +kernel
theorem dX6_ring_11 : decode cX6_ring 11 = .ok (.aload_n 0, 1) := by decide +kernel
theorem dX6_ring_12 : decode cX6_ring 12 = .ok (.bipush (-2), 2) := by decide +kernel
theorem dX6_ring_14 : decode cX6_ring 14 = .ok (.invokevirtual 59, 3) := by decide +kernel
theorem dX6_ring_17 : decode cX6_ring 17 = .ok (.ireturn, 1) := by decide +kernel
theorem dX6_ring_18 : decode cX6_ring 18 = .ok (.aload_n 0, 1) := by decide +kernel
theorem dX6_ring_19 : decode cX6_ring 19 = .ok (.getfield 42, 3) := by decide +kernel
theorem dX6_ring_22 : decode cX6_ring 22 = .ok (.aload_n 3, 1) := by decide +kernel
theorem dX6_ring_23 : decode cX6_ring 23 = .ok (.iload_n 2, 1) := by decide +kernel
theorem dX6_ring_24 : decode cX6_ring 24 = .ok (.aload_n 3, 1) := by decide +kernel
theorem dX6_ring_25 : decode cX6_ring 25 = .ok (.getfield 152, 3) := by decide +kernel
theorem dX6_ring_28 : decode cX6_ring 28 = .ok (.ior, 1) := by decide +kernel
theorem dX6_ring_29 : decode cX6_ring 29 = .ok (.invokevirtual 242, 3) := by decide +kernel
theorem dX6_ring_32 : decode cX6_ring 32 = .ok (.aload_n 0, 1) := by decide +kernel
theorem dX6_ring_33 : decode cX6_ring 33 = .ok (.getfield 42, 3) := by decide +kernel
theorem dX6_ring_36 : decode cX6_ring 36 = .ok (.getfield 246, 3) := by decide +kernel
theorem dX6_ring_39 : decode cX6_ring 39 = .ok (.ireturn, 1) := by decide +kernel
theorem dX6_know_0 : decode cX6_know 0 = .ok (.iload_n 1, 1) := by decide +kernel
theorem dX6_know_1 : decode cX6_know 1 = .ok (.iconst 0, 1) := by decide +kernel
theorem dX6_know_2 : decode cX6_know 2 = .ok (.iconst 5, 1) := by decide +kernel
theorem dX6_know_3 : decode cX6_know 3 = .ok (.invokestatic 55, 3) := by decide +kernel
theorem dX6_know_6 : decode cX6_know 6 = .ok (.ifCond .eq 13, 3) := by decide +kernel
theorem dX6_know_9 : decode cX6_know 9 = .ok (.iload_n 2, 1) := by decide +kernel
theorem dX6_know_10 : decode cX6_know 10 = .ok (.iconst 0, 1) := by decide +kernel
theorem dX6_know_11 : decode cX6_know 11 = .ok (.bipush 20, 2) := by decide +kernel
theorem dX6_know_13 : decode cX6_know 13 = .ok (.invokestatic 55, 3) := by decide +kernel
theorem dX6_know_16 : decode cX6_know 16 = .ok (.ifCond .ne 10, 3) := by decide +kernel
theorem dX6_know_19 : decode cX6_know 19 = .ok (.aload_n 0, 1) := by decide +kernel
theorem dX6_know_20 : decode cX6_know 20 = .ok (.bipush (-2), 2) := by decide +kernel
theorem dX6_know_22 : decode cX6_know 22 = .ok (.invokevirtual 59, 3) := by decide +kernel
theorem dX6_know_25 : decode cX6_know 25 = .ok (.ireturn, 1) := by decide +kernel
theorem dX6_know_26 : decode cX6_know 26 = .ok (.aload_n 0, 1) := by decide +kernel
theorem dX6_know_27 : decode cX6_know 27 = .ok (.getfield 25, 3) := by decide +kernel
theorem dX6_know_30 : decode cX6_know 30 = .ok (.getfield 267, 3) := by decide +kernel
theorem dX6_know_33 : decode cX6_know 33 = .ok (.iload_n 1, 1) := by decide +kernel
theorem dX6_know_34 : decode cX6_know 34 = .ok (.iaload, 1) := by decide +kernel
theorem dX6_know_35 : decode cX6_know 35 = .ok (.istore_n 3, 1) := by decide +kernel
theorem dX6_know_36 : decode cX6_know 36 = .ok (.aload_n 0, 1) := by decide +kernel
theorem dX6_know_37 : decode cX6_know 37 = .ok (.getfield 25, 3) := by decide +kernel
theorem dX6_know_40 : decode cX6_know 40 = .ok (.getfield 267, 3) := by decide +kernel
theorem dX6_know_43 : decode cX6_know 43 = .ok (.iload_n 1, 1) := by decide +kernel
theorem dX6_know_44 : decode cX6_know 44 = .ok (.iload_n 2, 1) := by decide +kernel
theorem dX6_know_45 : decode cX6_know 45 = .ok (.iastore, 1) := by decide +kernel
theorem dX6_know_46 : decode cX6_know 46 = .ok (.iload_n 3, 1) := by decide +kernel
theorem dX6_know_47 : decode cX6_know 47 = .ok (.ireturn, 1) := by decide +kernel
theorem dX6_pay_0 : decode cX6_pay 0 = .ok (.aload_n 0, 1) := by decide +kernel
theorem dX6_pay_1 : decode cX6_pay 1 = .ok (.iload_n 1, 1) := by decide +kernel
theorem dX6_pay_2 : decode cX6_pay 2 = .ok (.iload_n 2, 1) := by decide +kernel
theorem dX6_pay_3 : decode cX6_pay 3 = .ok (.invokevirtual 216, 3) := by decide +kernel
theorem dX6_pay_6 : decode cX6_pay 6 = .ok (.astore_n 3, 1) := by decide +kernel
theorem dX6_pay_7 : decode cX6_pay 7 = .ok (.aload_n 3, 1) := by decide +kernel
theorem dX6_pay_8 : decode cX6_pay 8 = .ok (.ifnonnull 10, 3) := by decide +kernel
theorem dX6_pay_11 : decode cX6_pay 11 = .ok (.aload_n 0, 1) := by decide +kernel
theorem dX6_pay_12 : decode cX6_pay 12 = .ok (.bipush (-2), 2) := by decide +kernel
theorem dX6_pay_14 : decode cX6_pay 14 = .ok (.invokevirtual 59, 3) := by decide +kernel
theorem dX6_pay_17 : decode cX6_pay 17 = .ok (.ireturn, 1) := by decide +kernel
theorem dX6_pay_18 : decode cX6_pay 18 = .ok (.aload_n 3, 1) := by decide +kernel
theorem dX6_pay_19 : decode cX6_pay 19 = .ok (.iload_n 2, 1) := by decide +kernel
theorem dX6_pay_20 : decode cX6_pay 20 = .ok (.invokevirtual 302, 3) := by decide +kernel
theorem dX6_pay_23 : decode cX6_pay 23 = .ok (.ifCond .ne 10, 3) := by decide +kernel
theorem dX6_pay_26 : decode cX6_pay 26 = .ok (.aload_n 0, 1) := by decide +kernel
theorem dX6_pay_27 : decode cX6_pay 27 = .ok (.bipush (-5), 2) := by decide +kernel
theorem dX6_pay_29 : decode cX6_pay 29 = .ok (.invokevirtual 59, 3) := by decide +kernel
theorem dX6_pay_32 : decode cX6_pay 32 = .ok (.ireturn, 1) := by decide +kernel
theorem dX6_pay_33 : decode cX6_pay 33 = .ok (.iconst 0, 1) := by decide +kernel
theorem dX6_pay_34 : decode cX6_pay 34 = .ok (.istore 4, 2) := by decide +kernel
theorem dX6_pay_36 : decode cX6_pay 36 = .ok (.iconst 0, 1) := by decide +kernel
theorem dX6_pay_37 : decode cX6_pay 37 = .ok (.istore 5, 2) := by decide +kernel
theorem dX6_pay_39 : decode cX6_pay 39 = .ok (.iload 5, 2) := by decide +kernel
theorem dX6_pay_41 : decode cX6_pay 41 = .ok (.aload_n 3, 1) := by decide +kernel
theorem dX6_pay_42 : decode cX6_pay 42 = .ok (.getfield 143, 3) := by decide +kernel
theorem dX6_pay_45 : decode cX6_pay 45 = .ok (.if_icmp .ge 21, 3) := by decide +kernel
theorem dX6_pay_48 : decode cX6_pay 48 = .ok (.iload 4, 2) := by decide +kernel
theorem dX6_pay_50 : decode cX6_pay 50 = .ok (.aload_n 3, 1) := by decide +kernel
theorem dX6_pay_51 : decode cX6_pay 51 = .ok (.iload 5, 2) := by decide +kernel
theorem dX6_pay_53 : decode cX6_pay 53 = .ok (.iload_n 2, 1) := by decide +kernel
theorem dX6_pay_54 : decode cX6_pay 54 = .ok (.invokevirtual 299, 3) := by decide +kernel
theorem dX6_pay_57 : decode cX6_pay 57 = .ok (.iadd, 1) := by decide +kernel
theorem dX6_pay_58 : decode cX6_pay 58 = .ok (.istore 4, 2) := by decide +kernel
theorem dX6_pay_60 : decode cX6_pay 60 = .ok (.iinc 5 1, 3) := by decide +kernel
theorem dX6_pay_63 : decode cX6_pay 63 = .ok (.goto (-24), 3) := by decide +kernel
theorem dX6_pay_66 : decode cX6_pay 66 = .ok (.iload 4, 2) := by decide +kernel
theorem dX6_pay_68 : decode cX6_pay 68 = .ok (.ireturn, 1) := by decide +kernel
theorem dX6_few_0 : decode cX6_few 0 = .ok (.aload_n 0, 1) := by decide +kernel
theorem dX6_few_1 : decode cX6_few 1 = .ok (.iload_n 1, 1) := by decide +kernel
theorem dX6_few_2 : decode cX6_few 2 = .ok (.iload_n 2, 1) := by decide +kernel
theorem dX6_few_3 : decode cX6_few 3 = .ok (.invokevirtual 216, 3) := by decide +kernel
theorem dX6_few_6 : decode cX6_few 6 = .ok (.astore_n 3, 1) := by decide +kernel
theorem dX6_few_7 : decode cX6_few 7 = .ok (.aload_n 3, 1) := by decide +kernel
theorem dX6_few_8 : decode cX6_few 8 = .ok (.ifnonnull 10, 3) := by decide +kernel
theorem dX6_few_11 : decode cX6_few 11 = .ok (.aload_n 0, 1) := by decide +kernel
theorem dX6_few_12 : decode cX6_few 12 = .ok (.bipush (-2), 2) := by decide +kernel
theorem dX6_few_14 : decode cX6_few 14 = .ok (.invokevirtual 59, 3) := by decide +kernel
theorem dX6_few_17 : decode cX6_few 17 = .ok (.ireturn, 1) := by decide +kernel
theorem dX6_few_18 : decode cX6_few 18 = .ok (.aload_n 3, 1) := by decide +kernel
theorem dX6_few_19 : decode cX6_few 19 = .ok (.iload_n 2, 1) := by decide +kernel
theorem dX6_few_20 : decode cX6_few 20 = .ok (.invokevirtual 302, 3) := by decide +kernel
theorem dX6_few_23 : decode cX6_few 23 = .ok (.ifCond .ne 10, 3) := by decide +kernel
theorem dX6_few_26 : decode cX6_few 26 = .ok (.aload_n 0, 1) := by decide +kernel
theorem dX6_few_27 : decode cX6_few 27 = .ok (.bipush (-5), 2) := by decide +kernel
theorem dX6_few_29 : decode cX6_few 29 = .ok (.invokevirtual 59, 3) := by decide +kernel
theorem dX6_few_32 : decode cX6_few 32 = .ok (.ireturn, 1) := by decide +kernel
theorem dX6_few_33 : decode cX6_few 33 = .ok (.iconst 0, 1) := by decide +kernel
theorem dX6_few_34 : decode cX6_few 34 = .ok (.istore 4, 2) := by decide +kernel
theorem dX6_few_36 : decode cX6_few 36 = .ok (.iconst 0, 1) := by decide +kernel
theorem dX6_few_37 : decode cX6_few 37 = .ok (.istore 5, 2) := by decide +kernel
theorem dX6_few_39 : decode cX6_few 39 = .ok (.iload 5, 2) := by decide +kernel
theorem dX6_few_41 : decode cX6_few 41 = .ok (.aload_n 3, 1) := by decide +kernel
theorem dX6_few_42 : decode cX6_few 42 = .ok (.getfield 143, 3) := by decide +kernel
theorem dX6_few_45 : decode cX6_few 45 = .ok (.if_icmp .ge 22, 3) := by decide +kernel
theorem dX6_few_48 : decode cX6_few 48 = .ok (.aload_n 3, 1) := by decide +kernel
theorem dX6_few_49 : decode cX6_few 49 = .ok (.iload 5, 2) := by decide +kernel
theorem dX6_few_51 : decode cX6_few 51 = .ok (.iload_n 2, 1) := by decide +kernel
theorem dX6_few_52 : decode cX6_few 52 = .ok (.invokevirtual 299, 3) := by decide +kernel
theorem dX6_few_55 : decode cX6_few 55 = .ok (.ifCond .le 6, 3) := by decide +kernel
theorem dX6_few_58 : decode cX6_few 58 = .ok (.iinc 4 1, 3) := by decide +kernel
theorem dX6_few_61 : decode cX6_few 61 = .ok (.iinc 5 1, 3) := by decide +kernel
theorem dX6_few_64 : decode cX6_few 64 = .ok (.goto (-25), 3) := by decide +kernel
theorem dX6_few_67 : decode cX6_few 67 = .ok (.iload 4, 2) := by decide +kernel
theorem dX6_few_69 : decode cX6_few 69 = .ok (.ireturn, 1) := by decide +kernel
theorem dX6_doers_0 : decode cX6_doers 0 = .ok (.aload_n 0, 1) := by decide +kernel
theorem dX6_doers_1 : decode cX6_doers 1 = .ok (.getfield 25, 3) := by decide +kernel
theorem dX6_doers_4 : decode cX6_doers 4 = .ok (.iload_n 1, 1) := by decide +kernel
theorem dX6_doers_5 : decode cX6_doers 5 = .ok (.invokevirtual 139, 3) := by decide +kernel
theorem dX6_doers_8 : decode cX6_doers 8 = .ok (.astore_n 3, 1) := by decide +kernel
theorem dX6_doers_9 : decode cX6_doers 9 = .ok (.aload_n 3, 1) := by decide +kernel
theorem dX6_doers_10 : decode cX6_doers 10 = .ok (.ifnull 14, 3) := by decide +kernel
theorem dX6_doers_13 : decode cX6_doers 13 = .ok (.iload_n 2, 1) := by decide +kernel
theorem dX6_doers_14 : decode cX6_doers 14 = .ok (.iconst 0, 1) := by decide +kernel
theorem dX6_doers_15 : decode cX6_doers 15 = .ok (.sipush 999, 3) := by decide +kernel
theorem dX6_doers_18 : decode cX6_doers 18 = .ok (.invokestatic 55, 3) := by decide +kernel
theorem dX6_doers_21 : decode cX6_doers 21 = .ok (.ifCond .ne 10, 3) := by decide +kernel
theorem dX6_doers_24 : decode cX6_doers 24 = .ok (.aload_n 0, 1) := by decide +kernel
theorem dX6_doers_25 : decode cX6_doers 25 = .ok (.bipush (-2), 2) := by decide +kernel
theorem dX6_doers_27 : decode cX6_doers 27 = .ok (.invokevirtual 59, 3) := by decide +kernel
theorem dX6_doers_30 : decode cX6_doers 30 = .ok (.ireturn, 1) := by decide +kernel
theorem dX6_doers_31 : decode cX6_doers 31 = .ok (.iconst 0, 1) := by decide +kernel
theorem dX6_doers_32 : decode cX6_doers 32 = .ok (.istore 4, 2) := by decide +kernel
theorem dX6_doers_34 : decode cX6_doers 34 = .ok (.iconst 0, 1) := by decide +kernel
theorem dX6_doers_35 : decode cX6_doers 35 = .ok (.istore 5, 2) := by decide +kernel
theorem dX6_doers_37 : decode cX6_doers 37 = .ok (.iload 5, 2) := by decide +kernel
theorem dX6_doers_39 : decode cX6_doers 39 = .ok (.aload_n 3, 1) := by decide +kernel
theorem dX6_doers_40 : decode cX6_doers 40 = .ok (.getfield 143, 3) := by decide +kernel
theorem dX6_doers_43 : decode cX6_doers 43 = .ok (.if_icmp .ge 82, 3) := by decide +kernel
theorem dX6_doers_46 : decode cX6_doers 46 = .ok (.aload_n 3, 1) := by decide +kernel
theorem dX6_doers_47 : decode cX6_doers 47 = .ok (.iload 5, 2) := by decide +kernel
theorem dX6_doers_49 : decode cX6_doers 49 = .ok (.iload_n 2, 1) := by decide +kernel
theorem dX6_doers_50 : decode cX6_doers 50 = .ok (.invokevirtual 313, 3) := by decide +kernel
theorem dX6_doers_53 : decode cX6_doers 53 = .ok (.istore 6, 2) := by decide +kernel
theorem dX6_doers_55 : decode cX6_doers 55 = .ok (.aload_n 3, 1) := by decide +kernel
theorem dX6_doers_56 : decode cX6_doers 56 = .ok (.getfield 173, 3) := by decide +kernel
theorem dX6_doers_59 : decode cX6_doers 59 = .ok (.iload 5, 2) := by decide +kernel
theorem dX6_doers_61 : decode cX6_doers 61 = .ok (.iaload, 1) := by decide +kernel
theorem dX6_doers_62 : decode cX6_doers 62 = .ok (.iconst 2, 1) := by decide +kernel
theorem dX6_doers_63 : decode cX6_doers 63 = .ok (.if_icmp .ne 16, 3) := by decide +kernel
theorem dX6_doers_66 : decode cX6_doers 66 = .ok (.aload_n 3, 1) := by decide +kernel
theorem dX6_doers_67 : decode cX6_doers 67 = .ok (.iload 5, 2) := by decide +kernel
theorem dX6_doers_69 : decode cX6_doers 69 = .ok (.invokevirtual 170, 3) := by decide +kernel
theorem dX6_doers_72 : decode cX6_doers 72 = .ok (.ifCond .ne 7, 3) := by decide +kernel
theorem dX6_doers_75 : decode cX6_doers 75 = .ok (.iconst 1, 1) := by decide +kernel
theorem dX6_doers_76 : decode cX6_doers 76 = .ok (.goto 4, 3) := by decide +kernel
theorem dX6_doers_79 : decode cX6_doers 79 = .ok (.iconst 0, 1) := by decide +kernel
theorem dX6_doers_80 : decode cX6_doers 80 = .ok (.istore 7, 2) := by decide +kernel
theorem dX6_doers_82 : decode cX6_doers 82 = .ok (.iload 7, 2) := by decide +kernel
theorem dX6_doers_84 : decode cX6_doers 84 = .ok (.ifCond .eq 21, 3) := by decide +kernel
theorem dX6_doers_87 : decode cX6_doers 87 = .ok (.aload_n 0, 1) := by decide +kernel
theorem dX6_doers_88 : decode cX6_doers 88 = .ok (.getfield 25, 3) := by decide +kernel
theorem dX6_doers_91 : decode cX6_doers 91 = .ok (.sipush 1000, 3) := by decide +kernel
theorem dX6_doers_94 : decode cX6_doers 94 = .ok (.invokevirtual 316, 3) := by decide +kernel
theorem dX6_doers_97 : decode cX6_doers 97 = .ok (.iload 6, 2) := by decide +kernel
theorem dX6_doers_99 : decode cX6_doers 99 = .ok (.if_icmp .ge 20, 3) := by decide +kernel
theorem dX6_doers_102 : decode cX6_doers 102 = .ok (.goto 8, 3) := by decide +kernel
theorem dX6_doers_105 : decode cX6_doers 105 = .ok (.iload 6, 2) := by decide +kernel
theorem dX6_doers_107 : decode cX6_doers 107 = .ok (.ifCond .le 12, 3) := by decide +kernel
theorem dX6_doers_110 : decode cX6_doers 110 = .ok (.iload 4, 2) := by decide +kernel
theorem dX6_doers_112 : decode cX6_doers 112 = .ok (.iconst 1, 1) := by decide +kernel
theorem dX6_doers_113 : decode cX6_doers 113 = .ok (.iload 5, 2) := by decide +kernel
theorem dX6_doers_115 : decode cX6_doers 115 = .ok (.ishl, 1) := by decide +kernel
theorem dX6_doers_116 : decode cX6_doers 116 = .ok (.ior, 1) := by decide +kernel
theorem dX6_doers_117 : decode cX6_doers 117 = .ok (.istore 4, 2) := by decide +kernel
theorem dX6_doers_119 : decode cX6_doers 119 = .ok (.iinc 5 1, 3) := by decide +kernel
theorem dX6_doers_122 : decode cX6_doers 122 = .ok (.goto (-85), 3) := by decide +kernel
theorem dX6_doers_125 : decode cX6_doers 125 = .ok (.iload 4, 2) := by decide +kernel
theorem dX6_doers_127 : decode cX6_doers 127 = .ok (.ireturn, 1) := by decide +kernel
theorem dX6_light_0 : decode cX6_light 0 = .ok (.aload_n 0, 1) := by decide +kernel
theorem dX6_light_1 : decode cX6_light 1 = .ok (.getfield 25, 3) := by decide +kernel
theorem dX6_light_4 : decode cX6_light 4 = .ok (.iload_n 1, 1) := by decide +kernel
theorem dX6_light_5 : decode cX6_light 5 = .ok (.invokevirtual 139, 3) := by decide +kernel
theorem dX6_light_8 : decode cX6_light 8 = .ok (.astore_n 3, 1) := by decide +kernel
theorem dX6_light_9 : decode cX6_light 9 = .ok (.aload_n 3, 1) := by decide +kernel
theorem dX6_light_10 : decode cX6_light 10 = .ok (.ifnull 13, 3) := by decide +kernel
theorem dX6_light_13 : decode cX6_light 13 = .ok (.iload_n 2, 1) := by decide +kernel
theorem dX6_light_14 : decode cX6_light 14 = .ok (.iconst 1, 1) := by decide +kernel
theorem dX6_light_15 : decode cX6_light 15 = .ok (.bipush 99, 2) := by decide +kernel
theorem dX6_light_17 : decode cX6_light 17 = .ok (.invokestatic 55, 3) := by decide +kernel
theorem dX6_light_20 : decode cX6_light 20 = .ok (.ifCond .ne 10, 3) := by decide +kernel
theorem dX6_light_23 : decode cX6_light 23 = .ok (.aload_n 0, 1) := by decide +kernel
theorem dX6_light_24 : decode cX6_light 24 = .ok (.bipush (-2), 2) := by decide +kernel
theorem dX6_light_26 : decode cX6_light 26 = .ok (.invokevirtual 59, 3) := by decide +kernel
theorem dX6_light_29 : decode cX6_light 29 = .ok (.ireturn, 1) := by decide +kernel
theorem dX6_light_30 : decode cX6_light 30 = .ok (.ldc_w 319, 3) := by decide +kernel
theorem dX6_light_33 : decode cX6_light 33 = .ok (.istore 4, 2) := by decide +kernel
theorem dX6_light_35 : decode cX6_light 35 = .ok (.iconst 1, 1) := by decide +kernel
theorem dX6_light_36 : decode cX6_light 36 = .ok (.istore 5, 2) := by decide +kernel
theorem dX6_light_38 : decode cX6_light 38 = .ok (.iload 5, 2) := by decide +kernel
theorem dX6_light_40 : decode cX6_light 40 = .ok (.iload_n 2, 1) := by decide +kernel
theorem dX6_light_41 : decode cX6_light 41 = .ok (.if_icmp .gt 19, 3) := by decide +kernel
theorem dX6_light_44 : decode cX6_light 44 = .ok (.aload_n 3, 1) := by decide +kernel
theorem dX6_light_45 : decode cX6_light 45 = .ok (.iload 4, 2) := by decide +kernel
theorem dX6_light_47 : decode cX6_light 47 = .ok (.iload 5, 2) := by decide +kernel
theorem dX6_light_49 : decode cX6_light 49 = .ok (.invokevirtual 320, 3) := by decide +kernel
theorem dX6_light_52 : decode cX6_light 52 = .ok (.istore 4, 2) := by decide +kernel
theorem dX6_light_54 : decode cX6_light 54 = .ok (.iinc 5 1, 3) := by decide +kernel
theorem dX6_light_57 : decode cX6_light 57 = .ok (.goto (-19), 3) := by decide +kernel
theorem dX6_light_60 : decode cX6_light 60 = .ok (.iload 4, 2) := by decide +kernel
theorem dX6_light_62 : decode cX6_light 62 = .ok (.ireturn, 1) := by decide +kernel
theorem dX6_begin_0 : decode cX6_begin 0 = .ok (.aload_n 0, 1) := by decide +kernel
theorem dX6_begin_1 : decode cX6_begin 1 = .ok (.getfield 25, 3) := by decide +kernel
theorem dX6_begin_4 : decode cX6_begin 4 = .ok (.iload_n 1, 1) := by decide +kernel
theorem dX6_begin_5 : decode cX6_begin 5 = .ok (.invokevirtual 139, 3) := by decide +kernel
theorem dX6_begin_8 : decode cX6_begin 8 = .ok (.astore_n 2, 1) := by decide +kernel
theorem dX6_begin_9 : decode cX6_begin 9 = .ok (.aload_n 2, 1) := by decide +kernel
theorem dX6_begin_10 : decode cX6_begin 10 = .ok (.ifnonnull 10, 3) := by decide +kernel
theorem dX6_begin_13 : decode cX6_begin 13 = .ok (.aload_n 0, 1) := by decide +kernel
theorem dX6_begin_14 : decode cX6_begin 14 = .ok (.bipush (-2), 2) := by decide +kernel
theorem dX6_begin_16 : decode cX6_begin 16 = .ok (.invokevirtual 59, 3) := by decide +kernel
theorem dX6_begin_19 : decode cX6_begin 19 = .ok (.ireturn, 1) := by decide +kernel
theorem dX6_begin_20 : decode cX6_begin 20 = .ok (.aload_n 0, 1) := by decide +kernel
theorem dX6_begin_21 : decode cX6_begin 21 = .ok (.getfield 25, 3) := by decide +kernel
theorem dX6_begin_24 : decode cX6_begin 24 = .ok (.getfield 326, 3) := by decide +kernel
theorem dX6_begin_27 : decode cX6_begin 27 = .ok (.aload_n 2, 1) := by decide +kernel
theorem dX6_begin_28 : decode cX6_begin 28 = .ok (.iload_n 1, 1) := by decide +kernel
theorem dX6_begin_29 : decode cX6_begin 29 = .ok (.invokevirtual 330, 3) := by decide +kernel
theorem dX6_begin_32 : decode cX6_begin 32 = .ok (.aload_n 2, 1) := by decide +kernel
theorem dX6_begin_33 : decode cX6_begin 33 = .ok (.invokevirtual 334, 3) := by decide +kernel
theorem dX6_begin_36 : decode cX6_begin 36 = .ok (.ireturn, 1) := by decide +kernel
theorem dX6_step_0 : decode cX6_step 0 = .ok (.iload_n 1, 1) := by decide +kernel
theorem dX6_step_1 : decode cX6_step 1 = .ok (.iconst 1, 1) := by decide +kernel
theorem dX6_step_2 : decode cX6_step 2 = .ok (.sipush 999, 3) := by decide +kernel
theorem dX6_step_5 : decode cX6_step 5 = .ok (.invokestatic 55, 3) := by decide +kernel
theorem dX6_step_8 : decode cX6_step 8 = .ok (.ifCond .ne 10, 3) := by decide +kernel
theorem dX6_step_11 : decode cX6_step 11 = .ok (.aload_n 0, 1) := by decide +kernel
theorem dX6_step_12 : decode cX6_step 12 = .ok (.bipush (-2), 2) := by decide +kernel
theorem dX6_step_14 : decode cX6_step 14 = .ok (.invokevirtual 59, 3) := by decide +kernel
theorem dX6_step_17 : decode cX6_step 17 = .ok (.ireturn, 1) := by decide +kernel
theorem dX6_step_18 : decode cX6_step 18 = .ok (.aload_n 0, 1) := by decide +kernel
theorem dX6_step_19 : decode cX6_step 19 = .ok (.getfield 25, 3) := by decide +kernel
theorem dX6_step_22 : decode cX6_step 22 = .ok (.getfield 326, 3) := by decide +kernel
theorem dX6_step_25 : decode cX6_step 25 = .ok (.getfield 337, 3) := by decide +kernel
theorem dX6_step_28 : decode cX6_step 28 = .ok (.ifCond .eq 16, 3) := by decide +kernel
theorem dX6_step_31 : decode cX6_step 31 = .ok (.aload_n 0, 1) := by decide +kernel
theorem dX6_step_32 : decode cX6_step 32 = .ok (.getfield 25, 3) := by decide +kernel
theorem dX6_step_35 : decode cX6_step 35 = .ok (.getfield 326, 3) := by decide +kernel
theorem dX6_step_38 : decode cX6_step 38 = .ok (.invokevirtual 341, 3) := by decide +kernel
theorem dX6_step_41 : decode cX6_step 41 = .ok (.ifCond .eq 10, 3) := by decide +kernel
theorem dX6_step_44 : decode cX6_step 44 = .ok (.aload_n 0, 1) := by decide +kernel
theorem dX6_step_45 : decode cX6_step 45 = .ok (.bipush (-5), 2) := by decide +kernel
theorem dX6_step_47 : decode cX6_step 47 = .ok (.invokevirtual 59, 3) := by decide +kernel
theorem dX6_step_50 : decode cX6_step 50 = .ok (.ireturn, 1) := by decide +kernel
theorem dX6_step_51 : decode cX6_step 51 = .ok (.aload_n 0, 1) := by decide +kernel
theorem dX6_step_52 : decode cX6_step 52 = .ok (.getfield 25, 3) := by decide +kernel
theorem dX6_step_55 : decode cX6_step 55 = .ok (.getfield 326, 3) := by decide +kernel
theorem dX6_step_58 : decode cX6_step 58 = .ok (.iload_n 1, 1) := by decide +kernel
theorem dX6_step_59 : decode cX6_step 59 = .ok (.invokevirtual 344, 3) := by decide +kernel
theorem dX6_step_62 : decode cX6_step 62 = .ok (.ireturn, 1) := by decide +kernel
theorem dX6_image_0 : decode cX6_image 0 = .ok (.aload_n 0, 1) := by decide +kernel
theorem dX6_image_1 : decode cX6_image 1 = .ok (.getfield 29, 3) := by decide +kernel
theorem dX6_image_4 : decode cX6_image 4 = .ok (.aload_n 0, 1) := by decide +kernel
theorem dX6_image_5 : decode cX6_image 5 = .ok (.getfield 25, 3) := by decide +kernel
theorem dX6_image_8 : decode cX6_image 8 = .ok (.invokevirtual 359, 3) := by decide +kernel
theorem dX6_image_11 : decode cX6_image 11 = .ok (.aload_n 0, 1) := by decide +kernel
theorem dX6_image_12 : decode cX6_image 12 = .ok (.iconst 1, 1) := by decide +kernel
theorem dX6_image_13 : decode cX6_image 13 = .ok (.putfield 362, 3) := by decide +kernel
theorem dX6_image_16 : decode cX6_image 16 = .ok (.iconst 1, 1) := by decide +kernel
theorem dX6_image_17 : decode cX6_image 17 = .ok (.ireturn, 1) := by decide +kernel
theorem dX6_back_0 : decode cX6_back 0 = .ok (.aload_n 0, 1) := by decide +kernel
theorem dX6_back_1 : decode cX6_back 1 = .ok (.getfield 362, 3) := by decide +kernel
theorem dX6_back_4 : decode cX6_back 4 = .ok (.ifCond .ne 10, 3) := by decide +kernel
theorem dX6_back_7 : decode cX6_back 7 = .ok (.aload_n 0, 1) := by decide +kernel
theorem dX6_back_8 : decode cX6_back 8 = .ok (.bipush (-5), 2) := by decide +kernel
theorem dX6_back_10 : decode cX6_back 10 = .ok (.invokevirtual 59, 3) := by decide +kernel
theorem dX6_back_13 : decode cX6_back 13 = .ok (.ireturn, 1) := by decide +kernel
theorem dX6_back_14 : decode cX6_back 14 = .ok (.aload_n 0, 1) := by decide +kernel
theorem dX6_back_15 : decode cX6_back 15 = .ok (.getfield 25, 3) := by decide +kernel
theorem dX6_back_18 : decode cX6_back 18 = .ok (.aload_n 0, 1) := by decide +kernel
theorem dX6_back_19 : decode cX6_back 19 = .ok (.getfield 29, 3) := by decide +kernel
theorem dX6_back_22 : decode cX6_back 22 = .ok (.invokevirtual 359, 3) := by decide +kernel
theorem dX6_back_25 : decode cX6_back 25 = .ok (.iconst 1, 1) := by decide +kernel
theorem dX6_back_26 : decode cX6_back 26 = .ok (.ireturn, 1) := by decide +kernel
theorem dX6_status_0 : decode cX6_status 0 = .ok (.iload_n 1, 1) := by decide +kernel
theorem dX6_status_1 : decode cX6_status 1 = .ok (.tableswitch 60 0 3 #[31, 39, 47, 55], 31) := by decide +kernel
theorem dX6_status_32 : decode cX6_status 32 = .ok (.aload_n 0, 1) := by decide +kernel
theorem dX6_status_33 : decode cX6_status 33 = .ok (.getfield 25, 3) := by decide +kernel
theorem dX6_status_36 : decode cX6_status 36 = .ok (.getfield 138, 3) := by decide +kernel
theorem dX6_status_39 : decode cX6_status 39 = .ok (.ireturn, 1) := by decide +kernel
theorem dX6_status_40 : decode cX6_status 40 = .ok (.aload_n 0, 1) := by decide +kernel
theorem dX6_status_41 : decode cX6_status 41 = .ok (.getfield 18, 3) := by decide +kernel
theorem dX6_status_44 : decode cX6_status 44 = .ok (.getfield 117, 3) := by decide +kernel
theorem dX6_status_47 : decode cX6_status 47 = .ok (.ireturn, 1) := by decide +kernel
theorem dX6_status_48 : decode cX6_status 48 = .ok (.aload_n 0, 1) := by decide +kernel
theorem dX6_status_49 : decode cX6_status 49 = .ok (.getfield 25, 3) := by decide +kernel
theorem dX6_status_52 : decode cX6_status 52 = .ok (.getfield 323, 3) := by decide +kernel
theorem dX6_status_55 : decode cX6_status 55 = .ok (.ireturn, 1) := by decide +kernel
theorem dX6_status_56 : decode cX6_status 56 = .ok (.aload_n 0, 1) := by decide +kernel
theorem dX6_status_57 : decode cX6_status 57 = .ok (.invokevirtual 365, 3) := by decide +kernel
theorem dX6_status_60 : decode cX6_status 60 = .ok (.ireturn, 1) := by decide +kernel
theorem dX6_status_61 : decode cX6_status 61 = .ok (.iload_n 1, 1) := by decide +kernel
theorem dX6_status_62 : decode cX6_status 62 = .ok (.bipush 12, 2) := by decide +kernel
theorem dX6_status_64 : decode cX6_status 64 = .ok (.bipush 16, 2) := by decide +kernel
theorem dX6_status_66 : decode cX6_status 66 = .ok (.invokestatic 55, 3) := by decide +kernel
theorem dX6_status_69 : decode cX6_status 69 = .ok (.ifCond .eq 15, 3) := by decide +kernel
theorem dX6_status_72 : decode cX6_status 72 = .ok (.aload_n 0, 1) := by decide +kernel
theorem dX6_status_73 : decode cX6_status 73 = .ok (.getfield 46, 3) := by decide +kernel
theorem dX6_status_76 : decode cX6_status 76 = .ok (.iload_n 1, 1) := by decide +kernel
theorem dX6_status_77 : decode cX6_status 77 = .ok (.bipush 12, 2) := by decide +kernel
theorem dX6_status_79 : decode cX6_status 79 = .ok (.isub, 1) := by decide +kernel
theorem dX6_status_80 : decode cX6_status 80 = .ok (.iaload, 1) := by decide +kernel
theorem dX6_status_81 : decode cX6_status 81 = .ok (.goto 4, 3) := by decide +kernel
theorem dX6_status_84 : decode cX6_status 84 = .ok (.iconst (-1), 1) := by decide +kernel
theorem dX6_status_85 : decode cX6_status 85 = .ok (.ireturn, 1) := by decide +kernel
theorem dX6_refuse_0 : decode cX6_refuse 0 = .ok (.bipush (-2), 2) := by decide +kernel
theorem dX6_refuse_2 : decode cX6_refuse 2 = .ok (.iload_n 1, 1) := by decide +kernel
theorem dX6_refuse_3 : decode cX6_refuse 3 = .ok (.isub, 1) := by decide +kernel
theorem dX6_refuse_4 : decode cX6_refuse 4 = .ok (.istore_n 2, 1) := by decide +kernel
theorem dX6_refuse_5 : decode cX6_refuse 5 = .ok (.iload_n 2, 1) := by decide +kernel
theorem dX6_refuse_6 : decode cX6_refuse 6 = .ok (.ifCond .lt 18, 3) := by decide +kernel
theorem dX6_refuse_9 : decode cX6_refuse 9 = .ok (.iload_n 2, 1) := by decide +kernel
theorem dX6_refuse_10 : decode cX6_refuse 10 = .ok (.iconst 5, 1) := by decide +kernel
theorem dX6_refuse_11 : decode cX6_refuse 11 = .ok (.if_icmp .ge 13, 3) := by decide +kernel
theorem dX6_refuse_14 : decode cX6_refuse 14 = .ok (.aload_n 0, 1) := by decide +kernel
theorem dX6_refuse_15 : decode cX6_refuse 15 = .ok (.getfield 46, 3) := by decide +kernel
theorem dX6_refuse_18 : decode cX6_refuse 18 = .ok (.iload_n 2, 1) := by decide +kernel
theorem dX6_refuse_19 : decode cX6_refuse 19 = .ok (.dup2, 1) := by decide +kernel
theorem dX6_refuse_20 : decode cX6_refuse 20 = .ok (.iaload, 1) := by decide +kernel
theorem dX6_refuse_21 : decode cX6_refuse 21 = .ok (.iconst 1, 1) := by decide +kernel
theorem dX6_refuse_22 : decode cX6_refuse 22 = .ok (.iadd, 1) := by decide +kernel
theorem dX6_refuse_23 : decode cX6_refuse 23 = .ok (.iastore, 1) := by decide +kernel
theorem dX6_refuse_24 : decode cX6_refuse 24 = .ok (.iload_n 1, 1) := by decide +kernel
theorem dX6_refuse_25 : decode cX6_refuse 25 = .ok (.ireturn, 1) := by decide +kernel
theorem dX6_isWithin_0 : decode cX6_isWithin 0 = .ok (.iload_n 0, 1) := by decide +kernel
theorem dX6_isWithin_1 : decode cX6_isWithin 1 = .ok (.iload_n 1, 1) := by decide +kernel
theorem dX6_isWithin_2 : decode cX6_isWithin 2 = .ok (.if_icmp .lt 12, 3) := by decide +kernel
theorem dX6_isWithin_5 : decode cX6_isWithin 5 = .ok (.iload_n 0, 1) := by decide +kernel
theorem dX6_isWithin_6 : decode cX6_isWithin 6 = .ok (.iload_n 2, 1) := by decide +kernel
theorem dX6_isWithin_7 : decode cX6_isWithin 7 = .ok (.if_icmp .gt 7, 3) := by decide +kernel
theorem dX6_isWithin_10 : decode cX6_isWithin 10 = .ok (.iconst 1, 1) := by decide +kernel
theorem dX6_isWithin_11 : decode cX6_isWithin 11 = .ok (.goto 4, 3) := by decide +kernel
theorem dX6_isWithin_14 : decode cX6_isWithin 14 = .ok (.iconst 0, 1) := by decide +kernel
theorem dX6_isWithin_15 : decode cX6_isWithin 15 = .ok (.ireturn, 1) := by decide +kernel
theorem dX6_shelfAt_0 : decode cX6_shelfAt 0 = .ok (.iload_n 1, 1) := by decide +kernel
theorem dX6_shelfAt_1 : decode cX6_shelfAt 1 = .ok (.iconst 0, 1) := by decide +kernel
theorem dX6_shelfAt_2 : decode cX6_shelfAt 2 = .ok (.bipush 7, 2) := by decide +kernel
theorem dX6_shelfAt_4 : decode cX6_shelfAt 4 = .ok (.invokestatic 55, 3) := by decide +kernel
theorem dX6_shelfAt_7 : decode cX6_shelfAt 7 = .ok (.ifCond .eq 12, 3) := by decide +kernel
theorem dX6_shelfAt_10 : decode cX6_shelfAt 10 = .ok (.aload_n 0, 1) := by decide +kernel
theorem dX6_shelfAt_11 : decode cX6_shelfAt 11 = .ok (.getfield 11, 3) := by decide +kernel
theorem dX6_shelfAt_14 : decode cX6_shelfAt 14 = .ok (.iload_n 1, 1) := by decide +kernel
theorem dX6_shelfAt_15 : decode cX6_shelfAt 15 = .ok (.aaload, 1) := by decide +kernel
theorem dX6_shelfAt_16 : decode cX6_shelfAt 16 = .ok (.goto 4, 3) := by decide +kernel
theorem dX6_shelfAt_19 : decode cX6_shelfAt 19 = .ok (.aconst_null, 1) := by decide +kernel
theorem dX6_shelfAt_20 : decode cX6_shelfAt 20 = .ok (.areturn, 1) := by decide +kernel
theorem dX6_shelvesInUse_0 : decode cX6_shelvesInUse 0 = .ok (.iconst 0, 1) := by decide +kernel
theorem dX6_shelvesInUse_1 : decode cX6_shelvesInUse 1 = .ok (.istore_n 1, 1) := by decide +kernel
theorem dX6_shelvesInUse_2 : decode cX6_shelvesInUse 2 = .ok (.iconst 0, 1) := by decide +kernel
theorem dX6_shelvesInUse_3 : decode cX6_shelvesInUse 3 = .ok (.istore_n 2, 1) := by decide +kernel
theorem dX6_shelvesInUse_4 : decode cX6_shelvesInUse 4 = .ok (.iload_n 2, 1) := by decide +kernel
theorem dX6_shelvesInUse_5 : decode cX6_shelvesInUse 5 = .ok (.bipush 8, 2) := by decide +kernel
theorem dX6_shelvesInUse_7 : decode cX6_shelvesInUse 7 = .ok (.if_icmp .ge 25, 3) := by decide +kernel
theorem dX6_shelvesInUse_10 : decode cX6_shelvesInUse 10 = .ok (.aload_n 0, 1) := by decide +kernel
theorem dX6_shelvesInUse_11 : decode cX6_shelvesInUse 11 = .ok (.getfield 11, 3) := by decide +kernel
theorem dX6_shelvesInUse_14 : decode cX6_shelvesInUse 14 = .ok (.iload_n 2, 1) := by decide +kernel
theorem dX6_shelvesInUse_15 : decode cX6_shelvesInUse 15 = .ok (.aaload, 1) := by decide +kernel
theorem dX6_shelvesInUse_16 : decode cX6_shelvesInUse 16 = .ok (.getfield 82, 3) := by decide +kernel
theorem dX6_shelvesInUse_19 : decode cX6_shelvesInUse 19 = .ok (.iconst (-1), 1) := by decide +kernel
theorem dX6_shelvesInUse_20 : decode cX6_shelvesInUse 20 = .ok (.if_icmp .eq 6, 3) := by decide +kernel
theorem dX6_shelvesInUse_23 : decode cX6_shelvesInUse 23 = .ok (.iinc 1 1, 3) := by decide +kernel
theorem dX6_shelvesInUse_26 : decode cX6_shelvesInUse 26 = .ok (.iinc 2 1, 3) := by decide +kernel
theorem dX6_shelvesInUse_29 : decode cX6_shelvesInUse 29 = .ok (.goto (-25), 3) := by decide +kernel
theorem dX6_shelvesInUse_32 : decode cX6_shelvesInUse 32 = .ok (.iload_n 1, 1) := by decide +kernel
theorem dX6_shelvesInUse_33 : decode cX6_shelvesInUse 33 = .ok (.ireturn, 1) := by decide +kernel
theorem dX6_streetWithSet_0 : decode cX6_streetWithSet 0 = .ok (.aload_n 0, 1) := by decide +kernel
theorem dX6_streetWithSet_1 : decode cX6_streetWithSet 1 = .ok (.getfield 25, 3) := by decide +kernel
theorem dX6_streetWithSet_4 : decode cX6_streetWithSet 4 = .ok (.iload_n 1, 1) := by decide +kernel
theorem dX6_streetWithSet_5 : decode cX6_streetWithSet 5 = .ok (.invokevirtual 139, 3) := by decide +kernel
theorem dX6_streetWithSet_8 : decode cX6_streetWithSet 8 = .ok (.astore_n 3, 1) := by decide +kernel
theorem dX6_streetWithSet_9 : decode cX6_streetWithSet 9 = .ok (.aload_n 3, 1) := by decide +kernel
theorem dX6_streetWithSet_10 : decode cX6_streetWithSet 10 = .ok (.ifnull 15, 3) := by decide +kernel
theorem dX6_streetWithSet_13 : decode cX6_streetWithSet 13 = .ok (.aload_n 3, 1) := by decide +kernel
theorem dX6_streetWithSet_14 : decode cX6_streetWithSet 14 = .ok (.iload_n 2, 1) := by decide +kernel
theorem dX6_streetWithSet_15 : decode cX6_streetWithSet 15 = .ok (.invokevirtual 205, 3) := by decide +kernel
theorem dX6_streetWithSet_18 : decode cX6_streetWithSet 18 = .ok (.ifCond .eq 7, 3) := by decide +kernel
theorem dX6_streetWithSet_21 : decode cX6_streetWithSet 21 = .ok (.aload_n 3, 1) := by decide +kernel
theorem dX6_streetWithSet_22 : decode cX6_streetWithSet 22 = .ok (.goto 4, 3) := by decide +kernel
theorem dX6_streetWithSet_25 : decode cX6_streetWithSet 25 = .ok (.aconst_null, 1) := by decide +kernel
theorem dX6_streetWithSet_26 : decode cX6_streetWithSet 26 = .ok (.areturn, 1) := by decide +kernel
theorem dX6_isWayToldBy_0 : decode cX6_isWayToldBy 0 = .ok (.iload_n 0, 1) := by decide +kernel
theorem dX6_isWayToldBy_1 : decode cX6_isWayToldBy 1 = .ok (.tableswitch 96 1 5 #[35, 42, 51, 59, 88], 35) := by decide +kernel
theorem dX6_isWayToldBy_36 : decode cX6_isWayToldBy 36 = .ok (.iload_n 1, 1) := by decide +kernel
theorem dX6_isWayToldBy_37 : decode cX6_isWayToldBy 37 = .ok (.iconst 0, 1) := by decide +kernel
theorem dX6_isWayToldBy_38 : decode cX6_isWayToldBy 38 = .ok (.iconst 1, 1) := by decide +kernel
theorem dX6_isWayToldBy_39 : decode cX6_isWayToldBy 39 = .ok (.invokestatic 55, 3) := by decide +kernel
theorem dX6_isWayToldBy_42 : decode cX6_isWayToldBy 42 = .ok (.ireturn, 1) := by decide +kernel
theorem dX6_isWayToldBy_43 : decode cX6_isWayToldBy 43 = .ok (.iload_n 1, 1) := by decide +kernel
theorem dX6_isWayToldBy_44 : decode cX6_isWayToldBy 44 = .ok (.iconst 0, 1) := by decide +kernel
theorem dX6_isWayToldBy_45 : decode cX6_isWayToldBy 45 = .ok (.sipush 1000, 3) := by decide +kernel
theorem dX6_isWayToldBy_48 : decode cX6_isWayToldBy 48 = .ok (.invokestatic 55, 3) := by decide +kernel
theorem dX6_isWayToldBy_51 : decode cX6_isWayToldBy 51 = .ok (.ireturn, 1) := by decide +kernel
theorem dX6_isWayToldBy_52 : decode cX6_isWayToldBy 52 = .ok (.iload_n 1, 1) := by decide +kernel
theorem dX6_isWayToldBy_53 : decode cX6_isWayToldBy 53 = .ok (.iconst 0, 1) := by decide +kernel
theorem dX6_isWayToldBy_54 : decode cX6_isWayToldBy 54 = .ok (.bipush 11, 2) := by decide +kernel
theorem dX6_isWayToldBy_56 : decode cX6_isWayToldBy 56 = .ok (.invokestatic 55, 3) := by decide +kernel
theorem dX6_isWayToldBy_59 : decode cX6_isWayToldBy 59 = .ok (.ireturn, 1) := by decide +kernel
theorem dX6_isWayToldBy_60 : decode cX6_isWayToldBy 60 = .ok (.iload_n 1, 1) := by decide +kernel
theorem dX6_isWayToldBy_61 : decode cX6_isWayToldBy 61 = .ok (.bipush 100, 2) := by decide +kernel
theorem dX6_isWayToldBy_63 : decode cX6_isWayToldBy 63 = .ok (.sipush 999, 3) := by decide +kernel
theorem dX6_isWayToldBy_66 : decode cX6_isWayToldBy 66 = .ok (.invokestatic 55, 3) := by decide +kernel
theorem dX6_isWayToldBy_69 : decode cX6_isWayToldBy 69 = .ok (.ifCond .eq 18, 3) := by decide +kernel
theorem dX6_isWayToldBy_72 : decode cX6_isWayToldBy 72 = .ok (.iload_n 1, 1) := by decide +kernel
theorem dX6_isWayToldBy_73 : decode cX6_isWayToldBy 73 = .ok (.bipush 100, 2) := by decide +kernel
theorem dX6_isWayToldBy_75 : decode cX6_isWayToldBy 75 = .ok (.irem, 1) := by decide +kernel
theorem dX6_isWayToldBy_76 : decode cX6_isWayToldBy 76 = .ok (.iload_n 1, 1) := by decide +kernel
theorem dX6_isWayToldBy_77 : decode cX6_isWayToldBy 77 = .ok (.bipush 100, 2) := by decide +kernel
theorem dX6_isWayToldBy_79 : decode cX6_isWayToldBy 79 = .ok (.idiv, 1) := by decide +kernel
theorem dX6_isWayToldBy_80 : decode cX6_isWayToldBy 80 = .ok (.if_icmp .ge 7, 3) := by decide +kernel
theorem dX6_isWayToldBy_83 : decode cX6_isWayToldBy 83 = .ok (.iconst 1, 1) := by decide +kernel
theorem dX6_isWayToldBy_84 : decode cX6_isWayToldBy 84 = .ok (.goto 4, 3) := by decide +kernel
theorem dX6_isWayToldBy_87 : decode cX6_isWayToldBy 87 = .ok (.iconst 0, 1) := by decide +kernel
theorem dX6_isWayToldBy_88 : decode cX6_isWayToldBy 88 = .ok (.ireturn, 1) := by decide +kernel
theorem dX6_isWayToldBy_89 : decode cX6_isWayToldBy 89 = .ok (.iload_n 1, 1) := by decide +kernel
theorem dX6_isWayToldBy_90 : decode cX6_isWayToldBy 90 = .ok (.iconst 0, 1) := by decide +kernel
theorem dX6_isWayToldBy_91 : decode cX6_isWayToldBy 91 = .ok (.bipush 7, 2) := by decide +kernel
theorem dX6_isWayToldBy_93 : decode cX6_isWayToldBy 93 = .ok (.invokestatic 55, 3) := by decide +kernel
theorem dX6_isWayToldBy_96 : decode cX6_isWayToldBy 96 = .ok (.ireturn, 1) := by decide +kernel
theorem dX6_isWayToldBy_97 : decode cX6_isWayToldBy 97 = .ok (.iconst 0, 1) := by decide +kernel
theorem dX6_isWayToldBy_98 : decode cX6_isWayToldBy 98 = .ok (.ireturn, 1) := by decide +kernel
theorem dX6_restBy_0 : decode cX6_restBy 0 = .ok (.aload_n 0, 1) := by decide +kernel
theorem dX6_restBy_1 : decode cX6_restBy 1 = .ok (.getfield 25, 3) := by decide +kernel
theorem dX6_restBy_4 : decode cX6_restBy 4 = .ok (.iload_n 1, 1) := by decide +kernel
theorem dX6_restBy_5 : decode cX6_restBy 5 = .ok (.invokevirtual 139, 3) := by decide +kernel
theorem dX6_restBy_8 : decode cX6_restBy 8 = .ok (.astore_n 3, 1) := by decide +kernel
theorem dX6_restBy_9 : decode cX6_restBy 9 = .ok (.aload_n 3, 1) := by decide +kernel
theorem dX6_restBy_10 : decode cX6_restBy 10 = .ok (.ifnonnull 12, 3) := by decide +kernel
theorem dX6_restBy_13 : decode cX6_restBy 13 = .ok (.aload_n 0, 1) := by decide +kernel
theorem dX6_restBy_14 : decode cX6_restBy 14 = .ok (.bipush (-2), 2) := by decide +kernel
theorem dX6_restBy_16 : decode cX6_restBy 16 = .ok (.invokevirtual 59, 3) := by decide +kernel
theorem dX6_restBy_19 : decode cX6_restBy 19 = .ok (.goto 9, 3) := by decide +kernel
theorem dX6_restBy_22 : decode cX6_restBy 22 = .ok (.aload_n 3, 1) := by decide +kernel
theorem dX6_restBy_23 : decode cX6_restBy 23 = .ok (.iload_n 2, 1) := by decide +kernel
theorem dX6_restBy_24 : decode cX6_restBy 24 = .ok (.iconst 1, 1) := by decide +kernel
theorem dX6_restBy_25 : decode cX6_restBy 25 = .ok (.invokevirtual 235, 3) := by decide +kernel
theorem dX6_restBy_28 : decode cX6_restBy 28 = .ok (.ireturn, 1) := by decide +kernel
theorem dX6_belowGood_0 : decode cX6_belowGood 0 = .ok (.aload_n 0, 1) := by decide +kernel
theorem dX6_belowGood_1 : decode cX6_belowGood 1 = .ok (.getfield 25, 3) := by decide +kernel
theorem dX6_belowGood_4 : decode cX6_belowGood 4 = .ok (.iload_n 1, 1) := by decide +kernel
theorem dX6_belowGood_5 : decode cX6_belowGood 5 = .ok (.invokevirtual 139, 3) := by decide +kernel
theorem dX6_belowGood_8 : decode cX6_belowGood 8 = .ok (.astore_n 3, 1) := by decide +kernel
theorem dX6_belowGood_9 : decode cX6_belowGood 9 = .ok (.aload_n 3, 1) := by decide +kernel
theorem dX6_belowGood_10 : decode cX6_belowGood 10 = .ok (.ifnonnull 10, 3) := by decide +kernel
theorem dX6_belowGood_13 : decode cX6_belowGood 13 = .ok (.aload_n 0, 1) := by decide +kernel
theorem dX6_belowGood_14 : decode cX6_belowGood 14 = .ok (.bipush (-2), 2) := by decide +kernel
theorem dX6_belowGood_16 : decode cX6_belowGood 16 = .ok (.invokevirtual 59, 3) := by decide +kernel
theorem dX6_belowGood_19 : decode cX6_belowGood 19 = .ok (.ireturn, 1) := by decide +kernel
theorem dX6_belowGood_20 : decode cX6_belowGood 20 = .ok (.aload_n 3, 1) := by decide +kernel
theorem dX6_belowGood_21 : decode cX6_belowGood 21 = .ok (.iload_n 2, 1) := by decide +kernel
theorem dX6_belowGood_22 : decode cX6_belowGood 22 = .ok (.iconst 1, 1) := by decide +kernel
theorem dX6_belowGood_23 : decode cX6_belowGood 23 = .ok (.invokevirtual 235, 3) := by decide +kernel
theorem dX6_belowGood_26 : decode cX6_belowGood 26 = .ok (.istore 4, 2) := by decide +kernel
theorem dX6_belowGood_28 : decode cX6_belowGood 28 = .ok (.iload 4, 2) := by decide +kernel
theorem dX6_belowGood_30 : decode cX6_belowGood 30 = .ok (.iconst (-1), 1) := by decide +kernel
theorem dX6_belowGood_31 : decode cX6_belowGood 31 = .ok (.if_icmp .ne 5, 3) := by decide +kernel
theorem dX6_belowGood_34 : decode cX6_belowGood 34 = .ok (.iconst (-1), 1) := by decide +kernel
theorem dX6_belowGood_35 : decode cX6_belowGood 35 = .ok (.ireturn, 1) := by decide +kernel
theorem dX6_belowGood_36 : decode cX6_belowGood 36 = .ok (.aload_n 3, 1) := by decide +kernel
theorem dX6_belowGood_37 : decode cX6_belowGood 37 = .ok (.aload_n 3, 1) := by decide +kernel
theorem dX6_belowGood_38 : decode cX6_belowGood 38 = .ok (.iconst 3, 1) := by decide +kernel
theorem dX6_belowGood_39 : decode cX6_belowGood 39 = .ok (.iconst 0, 1) := by decide +kernel
theorem dX6_belowGood_40 : decode cX6_belowGood 40 = .ok (.invokevirtual 235, 3) := by decide +kernel
theorem dX6_belowGood_43 : decode cX6_belowGood 43 = .ok (.invokevirtual 220, 3) := by decide +kernel
theorem dX6_belowGood_46 : decode cX6_belowGood 46 = .ok (.aload_n 3, 1) := by decide +kernel
theorem dX6_belowGood_47 : decode cX6_belowGood 47 = .ok (.iload 4, 2) := by decide +kernel
theorem dX6_belowGood_49 : decode cX6_belowGood 49 = .ok (.invokevirtual 220, 3) := by decide +kernel
theorem dX6_belowGood_52 : decode cX6_belowGood 52 = .ok (.isub, 1) := by decide +kernel
theorem dX6_belowGood_53 : decode cX6_belowGood 53 = .ok (.ireturn, 1) := by decide +kernel
theorem dJ6_bitCount_0f7a4_0 : decode cJ6_bitCount_0f7a4 0 = .ok (.iload_n 0, 1) := by decide +kernel
theorem dJ6_bitCount_0f7a4_1 : decode cJ6_bitCount_0f7a4 1 = .ok (.iload_n 0, 1) := by decide +kernel
theorem dJ6_bitCount_0f7a4_2 : decode cJ6_bitCount_0f7a4 2 = .ok (.iconst 1, 1) := by decide +kernel
theorem dJ6_bitCount_0f7a4_3 : decode cJ6_bitCount_0f7a4 3 = .ok (.iushr, 1) := by decide +kernel
theorem dJ6_bitCount_0f7a4_4 : decode cJ6_bitCount_0f7a4 4 = .ok (.ldc_w 265, 3) := by decide +kernel
theorem dJ6_bitCount_0f7a4_7 : decode cJ6_bitCount_0f7a4 7 = .ok (.iand, 1) := by decide +kernel
theorem dJ6_bitCount_0f7a4_8 : decode cJ6_bitCount_0f7a4 8 = .ok (.isub, 1) := by decide +kernel
theorem dJ6_bitCount_0f7a4_9 : decode cJ6_bitCount_0f7a4 9 = .ok (.istore_n 0, 1) := by decide +kernel
theorem dJ6_bitCount_0f7a4_10 : decode cJ6_bitCount_0f7a4 10 = .ok (.iload_n 0, 1) := by decide +kernel
theorem dJ6_bitCount_0f7a4_11 : decode cJ6_bitCount_0f7a4 11 = .ok (.ldc_w 266, 3) := by decide +kernel
theorem dJ6_bitCount_0f7a4_14 : decode cJ6_bitCount_0f7a4 14 = .ok (.iand, 1) := by decide +kernel
theorem dJ6_bitCount_0f7a4_15 : decode cJ6_bitCount_0f7a4 15 = .ok (.iload_n 0, 1) := by decide +kernel
theorem dJ6_bitCount_0f7a4_16 : decode cJ6_bitCount_0f7a4 16 = .ok (.iconst 2, 1) := by decide +kernel
theorem dJ6_bitCount_0f7a4_17 : decode cJ6_bitCount_0f7a4 17 = .ok (.iushr, 1) := by decide +kernel
theorem dJ6_bitCount_0f7a4_18 : decode cJ6_bitCount_0f7a4 18 = .ok (.ldc_w 266, 3) := by decide +kernel
theorem dJ6_bitCount_0f7a4_21 : decode cJ6_bitCount_0f7a4 21 = .ok (.iand, 1) := by decide +kernel
theorem dJ6_bitCount_0f7a4_22 : decode cJ6_bitCount_0f7a4 22 = .ok (.iadd, 1) := by decide +kernel
theorem dJ6_bitCount_0f7a4_23 : decode cJ6_bitCount_0f7a4 23 = .ok (.istore_n 0, 1) := by decide +kernel
theorem dJ6_bitCount_0f7a4_24 : decode cJ6_bitCount_0f7a4 24 = .ok (.iload_n 0, 1) := by decide +kernel
theorem dJ6_bitCount_0f7a4_25 : decode cJ6_bitCount_0f7a4 25 = .ok (.iload_n 0, 1) := by decide +kernel
theorem dJ6_bitCount_0f7a4_26 : decode cJ6_bitCount_0f7a4 26 = .ok (.iconst 4, 1) := by decide +kernel
theorem dJ6_bitCount_0f7a4_27 : decode cJ6_bitCount_0f7a4 27 = .ok (.iushr, 1) := by decide +kernel
theorem dJ6_bitCount_0f7a4_28 : decode cJ6_bitCount_0f7a4 28 = .ok (.iadd, 1) := by decide +kernel
theorem dJ6_bitCount_0f7a4_29 : decode cJ6_bitCount_0f7a4 29 = .ok (.ldc_w 267, 3) := by decide +kernel
theorem dJ6_bitCount_0f7a4_32 : decode cJ6_bitCount_0f7a4 32 = .ok (.iand, 1) := by decide +kernel
theorem dJ6_bitCount_0f7a4_33 : decode cJ6_bitCount_0f7a4 33 = .ok (.istore_n 0, 1) := by decide +kernel
theorem dJ6_bitCount_0f7a4_34 : decode cJ6_bitCount_0f7a4 34 = .ok (.iload_n 0, 1) := by decide +kernel
theorem dJ6_bitCount_0f7a4_35 : decode cJ6_bitCount_0f7a4 35 = .ok (.iload_n 0, 1) := by decide +kernel
theorem dJ6_bitCount_0f7a4_36 : decode cJ6_bitCount_0f7a4 36 = .ok (.bipush 8, 2) := by decide +kernel
theorem dJ6_bitCount_0f7a4_38 : decode cJ6_bitCount_0f7a4 38 = .ok (.iushr, 1) := by decide +kernel
theorem dJ6_bitCount_0f7a4_39 : decode cJ6_bitCount_0f7a4 39 = .ok (.iadd, 1) := by decide +kernel
theorem dJ6_bitCount_0f7a4_40 : decode cJ6_bitCount_0f7a4 40 = .ok (.istore_n 0, 1) := by decide +kernel
theorem dJ6_bitCount_0f7a4_41 : decode cJ6_bitCount_0f7a4 41 = .ok (.iload_n 0, 1) := by decide +kernel
theorem dJ6_bitCount_0f7a4_42 : decode cJ6_bitCount_0f7a4 42 = .ok (.iload_n 0, 1) := by decide +kernel
theorem dJ6_bitCount_0f7a4_43 : decode cJ6_bitCount_0f7a4 43 = .ok (.bipush 16, 2) := by decide +kernel
theorem dJ6_bitCount_0f7a4_45 : decode cJ6_bitCount_0f7a4 45 = .ok (.iushr, 1) := by decide +kernel
theorem dJ6_bitCount_0f7a4_46 : decode cJ6_bitCount_0f7a4 46 = .ok (.iadd, 1) := by decide +kernel
theorem dJ6_bitCount_0f7a4_47 : decode cJ6_bitCount_0f7a4 47 = .ok (.istore_n 0, 1) := by decide +kernel
theorem dJ6_bitCount_0f7a4_48 : decode cJ6_bitCount_0f7a4 48 = .ok (.iload_n 0, 1) := by decide +kernel
theorem dJ6_bitCount_0f7a4_49 : decode cJ6_bitCount_0f7a4 49 = .ok (.bipush 63, 2) := by decide +kernel
theorem dJ6_bitCount_0f7a4_51 : decode cJ6_bitCount_0f7a4 51 = .ok (.iand, 1) := by decide +kernel
theorem dJ6_bitCount_0f7a4_52 : decode cJ6_bitCount_0f7a4 52 = .ok (.ireturn, 1) := by decide +kernel
theorem dJ0_length_8abf5_0 : decode cJ0_length_8abf5 0 = .ok (.aload_n 0, 1) := by decide +kernel
theorem dJ0_length_8abf5_1 : decode cJ0_length_8abf5 1 = .ok (.getfield 9, 3) := by decide +kernel
theorem dJ0_length_8abf5_4 : decode cJ0_length_8abf5 4 = .ok (.arraylength, 1) := by decide +kernel
theorem dJ0_length_8abf5_5 : decode cJ0_length_8abf5 5 = .ok (.aload_n 0, 1) := by decide +kernel
theorem dJ0_length_8abf5_6 : decode cJ0_length_8abf5 6 = .ok (.invokevirtual 335, 3) := by decide +kernel
theorem dJ0_length_8abf5_9 : decode cJ0_length_8abf5 9 = .ok (.ishr, 1) := by decide +kernel
theorem dJ0_length_8abf5_10 : decode cJ0_length_8abf5 10 = .ok (.ireturn, 1) := by decide +kernel
theorem dJ0_charAt_5068e_0 : decode cJ0_charAt_5068e 0 = .ok (.aload_n 0, 1) := by decide +kernel
theorem dJ0_charAt_5068e_1 : decode cJ0_charAt_5068e 1 = .ok (.invokevirtual 492, 3) := by decide +kernel
theorem dJ0_charAt_5068e_4 : decode cJ0_charAt_5068e 4 = .ok (.ifCond .eq 12, 3) := by decide +kernel
theorem dJ0_charAt_5068e_7 : decode cJ0_charAt_5068e 7 = .ok (.aload_n 0, 1) := by decide +kernel
theorem dJ0_charAt_5068e_8 : decode cJ0_charAt_5068e 8 = .ok (.getfield 9, 3) := by decide +kernel
theorem dJ0_charAt_5068e_11 : decode cJ0_charAt_5068e 11 = .ok (.iload_n 1, 1) := by decide +kernel
theorem dJ0_charAt_5068e_12 : decode cJ0_charAt_5068e 12 = .ok (.invokestatic 495, 3) := by decide +kernel
theorem dJ0_charAt_5068e_15 : decode cJ0_charAt_5068e 15 = .ok (.ireturn, 1) := by decide +kernel
theorem dJ0_charAt_5068e_16 : decode cJ0_charAt_5068e 16 = .ok (.aload_n 0, 1) := by decide +kernel
theorem dJ0_charAt_5068e_17 : decode cJ0_charAt_5068e 17 = .ok (.getfield 9, 3) := by decide +kernel
theorem dJ0_charAt_5068e_20 : decode cJ0_charAt_5068e 20 = .ok (.iload_n 1, 1) := by decide +kernel
theorem dJ0_charAt_5068e_21 : decode cJ0_charAt_5068e 21 = .ok (.invokestatic 498, 3) := by decide +kernel
theorem dJ0_charAt_5068e_24 : decode cJ0_charAt_5068e 24 = .ok (.ireturn, 1) := by decide +kernel
theorem dJ0_coder_7d493_0 : decode cJ0_coder_7d493 0 = .ok (.getstatic 38, 3) := by decide +kernel
theorem dJ0_coder_7d493_3 : decode cJ0_coder_7d493 3 = .ok (.ifCond .eq 10, 3) := by decide +kernel
theorem dJ0_coder_7d493_6 : decode cJ0_coder_7d493 6 = .ok (.aload_n 0, 1) := by decide +kernel
theorem dJ0_coder_7d493_7 : decode cJ0_coder_7d493 7 = .ok (.getfield 15, 3) := by decide +kernel
theorem dJ0_coder_7d493_10 : decode cJ0_coder_7d493 10 = .ok (.goto 4, 3) := by decide +kernel
theorem dJ0_coder_7d493_13 : decode cJ0_coder_7d493 13 = .ok (.iconst 1, 1) := by decide +kernel
theorem dJ0_coder_7d493_14 : decode cJ0_coder_7d493 14 = .ok (.ireturn, 1) := by decide +kernel
theorem dJ0_isLatin1_aae02_0 : decode cJ0_isLatin1_aae02 0 = .ok (.getstatic 38, 3) := by decide +kernel
theorem dJ0_isLatin1_aae02_3 : decode cJ0_isLatin1_aae02 3 = .ok (.ifCond .eq 14, 3) := by decide +kernel
theorem dJ0_isLatin1_aae02_6 : decode cJ0_isLatin1_aae02 6 = .ok (.aload_n 0, 1) := by decide +kernel
theorem dJ0_isLatin1_aae02_7 : decode cJ0_isLatin1_aae02 7 = .ok (.getfield 15, 3) := by decide +kernel
theorem dJ0_isLatin1_aae02_10 : decode cJ0_isLatin1_aae02 10 = .ok (.ifCond .ne 7, 3) := by decide +kernel
theorem dJ0_isLatin1_aae02_13 : decode cJ0_isLatin1_aae02 13 = .ok (.iconst 1, 1) := by decide +kernel
theorem dJ0_isLatin1_aae02_14 : decode cJ0_isLatin1_aae02 14 = .ok (.goto 4, 3) := by decide +kernel
theorem dJ0_isLatin1_aae02_17 : decode cJ0_isLatin1_aae02 17 = .ok (.iconst 0, 1) := by decide +kernel
theorem dJ0_isLatin1_aae02_18 : decode cJ0_isLatin1_aae02 18 = .ok (.ireturn, 1) := by decide +kernel
theorem dJ0_checkIndex_df160_0 : decode cJ0_checkIndex_df160 0 = .ok (.iload_n 0, 1) := by decide +kernel
theorem dJ0_checkIndex_df160_1 : decode cJ0_checkIndex_df160 1 = .ok (.iload_n 1, 1) := by decide +kernel
theorem dJ0_checkIndex_df160_2 : decode cJ0_checkIndex_df160 2 = .ok (.getstatic 1053, 3) := by decide +kernel
theorem dJ0_checkIndex_df160_5 : decode cJ0_checkIndex_df160 5 = .ok (.invokestatic 1059, 3) := by decide +kernel
theorem dJ0_checkIndex_df160_8 : decode cJ0_checkIndex_df160 8 = .ok (.pop, 1) := by decide +kernel
theorem dJ0_checkIndex_df160_9 : decode cJ0_checkIndex_df160 9 = .ok (.return_, 1) := by decide +kernel
theorem dJ1_charAt_3b067_0 : decode cJ1_charAt_3b067 0 = .ok (.iload_n 1, 1) := by decide +kernel
theorem dJ1_charAt_3b067_1 : decode cJ1_charAt_3b067 1 = .ok (.aload_n 0, 1) := by decide +kernel
theorem dJ1_charAt_3b067_2 : decode cJ1_charAt_3b067 2 = .ok (.arraylength, 1) := by decide +kernel
theorem dJ1_charAt_3b067_3 : decode cJ1_charAt_3b067 3 = .ok (.invokestatic 9, 3) := by decide +kernel
theorem dJ1_charAt_3b067_6 : decode cJ1_charAt_3b067 6 = .ok (.aload_n 0, 1) := by decide +kernel
theorem dJ1_charAt_3b067_7 : decode cJ1_charAt_3b067 7 = .ok (.iload_n 1, 1) := by decide +kernel
theorem dJ1_charAt_3b067_8 : decode cJ1_charAt_3b067 8 = .ok (.baload, 1) := by decide +kernel
theorem dJ1_charAt_3b067_9 : decode cJ1_charAt_3b067 9 = .ok (.sipush 255, 3) := by decide +kernel
theorem dJ1_charAt_3b067_12 : decode cJ1_charAt_3b067 12 = .ok (.iand, 1) := by decide +kernel
theorem dJ1_charAt_3b067_13 : decode cJ1_charAt_3b067 13 = .ok (.i2c, 1) := by decide +kernel
theorem dJ1_charAt_3b067_14 : decode cJ1_charAt_3b067 14 = .ok (.ireturn, 1) := by decide +kernel
theorem dJ2_getChar_3b067_0 : decode cJ2_getChar_3b067 0 = .ok (.getstatic 44, 3) := by decide +kernel
theorem dJ2_getChar_3b067_3 : decode cJ2_getChar_3b067 3 = .ok (.ifCond .ne 25, 3) := by decide +kernel
theorem dJ2_getChar_3b067_6 : decode cJ2_getChar_3b067 6 = .ok (.iload_n 1, 1) := by decide +kernel
theorem dJ2_getChar_3b067_7 : decode cJ2_getChar_3b067 7 = .ok (.ifCond .lt 11, 3) := by decide +kernel
theorem dJ2_getChar_3b067_10 : decode cJ2_getChar_3b067 10 = .ok (.iload_n 1, 1) := by decide +kernel
theorem dJ2_getChar_3b067_11 : decode cJ2_getChar_3b067 11 = .ok (.aload_n 0, 1) := by decide +kernel
theorem dJ2_getChar_3b067_12 : decode cJ2_getChar_3b067 12 = .ok (.invokestatic 48, 3) := by decide +kernel
theorem dJ2_getChar_3b067_15 : decode cJ2_getChar_3b067 15 = .ok (.if_icmp .lt 13, 3) := by decide +kernel
theorem dJ2_getChar_3b067_18 : decode cJ2_getChar_3b067 18 = .ok (.new 52, 3) := by decide +kernel
theorem dJ2_getChar_3b067_21 : decode cJ2_getChar_3b067 21 = .ok (.dup, 1) := by decide +kernel
theorem dJ2_getChar_3b067_22 : decode cJ2_getChar_3b067 22 = .ok (.ldc 54, 2) := by decide +kernel
theorem dJ2_getChar_3b067_24 : decode cJ2_getChar_3b067 24 = .ok (.invokespecial 56, 3) := by decide +kernel
theorem dJ2_getChar_3b067_27 : decode cJ2_getChar_3b067 27 = .ok (.athrow, 1) := by decide +kernel
theorem dJ2_getChar_3b067_28 : decode cJ2_getChar_3b067 28 = .ok (.iload_n 1, 1) := by decide +kernel
theorem dJ2_getChar_3b067_29 : decode cJ2_getChar_3b067 29 = .ok (.iconst 1, 1) := by decide +kernel
theorem dJ2_getChar_3b067_30 : decode cJ2_getChar_3b067 30 = .ok (.ishl, 1) := by decide +kernel
theorem dJ2_getChar_3b067_31 : decode cJ2_getChar_3b067 31 = .ok (.istore_n 1, 1) := by decide +kernel
theorem dJ2_getChar_3b067_32 : decode cJ2_getChar_3b067 32 = .ok (.aload_n 0, 1) := by decide +kernel
theorem dJ2_getChar_3b067_33 : decode cJ2_getChar_3b067 33 = .ok (.iload_n 1, 1) := by decide +kernel
theorem dJ2_getChar_3b067_34 : decode cJ2_getChar_3b067 34 = .ok (.iinc 1 1, 3) := by decide +kernel
theorem dJ2_getChar_3b067_37 : decode cJ2_getChar_3b067 37 = .ok (.baload, 1) := by decide +kernel
theorem dJ2_getChar_3b067_38 : decode cJ2_getChar_3b067 38 = .ok (.sipush 255, 3) := by decide +kernel
theorem dJ2_getChar_3b067_41 : decode cJ2_getChar_3b067 41 = .ok (.iand, 1) := by decide +kernel
theorem dJ2_getChar_3b067_42 : decode cJ2_getChar_3b067 42 = .ok (.getstatic 59, 3) := by decide +kernel
theorem dJ2_getChar_3b067_45 : decode cJ2_getChar_3b067 45 = .ok (.ishl, 1) := by decide +kernel
theorem dJ2_getChar_3b067_46 : decode cJ2_getChar_3b067 46 = .ok (.aload_n 0, 1) := by decide +kernel
theorem dJ2_getChar_3b067_47 : decode cJ2_getChar_3b067 47 = .ok (.iload_n 1, 1) := by decide +kernel
theorem dJ2_getChar_3b067_48 : decode cJ2_getChar_3b067 48 = .ok (.baload, 1) := by decide +kernel
theorem dJ2_getChar_3b067_49 : decode cJ2_getChar_3b067 49 = .ok (.sipush 255, 3) := by decide +kernel
theorem dJ2_getChar_3b067_52 : decode cJ2_getChar_3b067 52 = .ok (.iand, 1) := by decide +kernel
theorem dJ2_getChar_3b067_53 : decode cJ2_getChar_3b067 53 = .ok (.getstatic 63, 3) := by decide +kernel
theorem dJ2_getChar_3b067_56 : decode cJ2_getChar_3b067 56 = .ok (.ishl, 1) := by decide +kernel
theorem dJ2_getChar_3b067_57 : decode cJ2_getChar_3b067 57 = .ok (.ior, 1) := by decide +kernel
theorem dJ2_getChar_3b067_58 : decode cJ2_getChar_3b067 58 = .ok (.i2c, 1) := by decide +kernel
theorem dJ2_getChar_3b067_59 : decode cJ2_getChar_3b067 59 = .ok (.ireturn, 1) := by decide +kernel
theorem dJ2_length_9d52b_0 : decode cJ2_length_9d52b 0 = .ok (.aload_n 0, 1) := by decide +kernel
theorem dJ2_length_9d52b_1 : decode cJ2_length_9d52b 1 = .ok (.arraylength, 1) := by decide +kernel
theorem dJ2_length_9d52b_2 : decode cJ2_length_9d52b 2 = .ok (.iconst 1, 1) := by decide +kernel
theorem dJ2_length_9d52b_3 : decode cJ2_length_9d52b 3 = .ok (.ishr, 1) := by decide +kernel
theorem dJ2_length_9d52b_4 : decode cJ2_length_9d52b 4 = .ok (.ireturn, 1) := by decide +kernel
theorem dJ2_charAt_3b067_0 : decode cJ2_charAt_3b067 0 = .ok (.iload_n 1, 1) := by decide +kernel
theorem dJ2_charAt_3b067_1 : decode cJ2_charAt_3b067 1 = .ok (.aload_n 0, 1) := by decide +kernel
theorem dJ2_charAt_3b067_2 : decode cJ2_charAt_3b067 2 = .ok (.invokestatic 67, 3) := by decide +kernel
theorem dJ2_charAt_3b067_5 : decode cJ2_charAt_3b067 5 = .ok (.aload_n 0, 1) := by decide +kernel
theorem dJ2_charAt_3b067_6 : decode cJ2_charAt_3b067 6 = .ok (.iload_n 1, 1) := by decide +kernel
theorem dJ2_charAt_3b067_7 : decode cJ2_charAt_3b067 7 = .ok (.invokestatic 71, 3) := by decide +kernel
theorem dJ2_charAt_3b067_10 : decode cJ2_charAt_3b067 10 = .ok (.ireturn, 1) := by decide +kernel
theorem dJ2_checkIndex_2214a_0 : decode cJ2_checkIndex_2214a 0 = .ok (.iload_n 0, 1) := by decide +kernel
theorem dJ2_checkIndex_2214a_1 : decode cJ2_checkIndex_2214a 1 = .ok (.aload_n 1, 1) := by decide +kernel
theorem dJ2_checkIndex_2214a_2 : decode cJ2_checkIndex_2214a 2 = .ok (.invokestatic 48, 3) := by decide +kernel
theorem dJ2_checkIndex_2214a_5 : decode cJ2_checkIndex_2214a 5 = .ok (.invokestatic 414, 3) := by decide +kernel
theorem dJ2_checkIndex_2214a_8 : decode cJ2_checkIndex_2214a 8 = .ok (.return_, 1) := by decide +kernel
theorem dJ7_fill_d0a16_0 : decode cJ7_fill_d0a16 0 = .ok (.iconst 0, 1) := by decide +kernel
theorem dJ7_fill_d0a16_1 : decode cJ7_fill_d0a16 1 = .ok (.istore_n 3, 1) := by decide +kernel
theorem dJ7_fill_d0a16_2 : decode cJ7_fill_d0a16 2 = .ok (.aload_n 0, 1) := by decide +kernel
theorem dJ7_fill_d0a16_3 : decode cJ7_fill_d0a16 3 = .ok (.arraylength, 1) := by decide +kernel
theorem dJ7_fill_d0a16_4 : decode cJ7_fill_d0a16 4 = .ok (.istore 4, 2) := by decide +kernel
theorem dJ7_fill_d0a16_6 : decode cJ7_fill_d0a16 6 = .ok (.iload_n 3, 1) := by decide +kernel
theorem dJ7_fill_d0a16_7 : decode cJ7_fill_d0a16 7 = .ok (.iload 4, 2) := by decide +kernel
theorem dJ7_fill_d0a16_9 : decode cJ7_fill_d0a16 9 = .ok (.if_icmp .ge 13, 3) := by decide +kernel
theorem dJ7_fill_d0a16_12 : decode cJ7_fill_d0a16 12 = .ok (.aload_n 0, 1) := by decide +kernel
theorem dJ7_fill_d0a16_13 : decode cJ7_fill_d0a16 13 = .ok (.iload_n 3, 1) := by decide +kernel
theorem dJ7_fill_d0a16_14 : decode cJ7_fill_d0a16 14 = .ok (.lload_n 1, 1) := by decide +kernel
theorem dJ7_fill_d0a16_15 : decode cJ7_fill_d0a16 15 = .ok (.lastore, 1) := by decide +kernel
theorem dJ7_fill_d0a16_16 : decode cJ7_fill_d0a16 16 = .ok (.iinc 3 1, 3) := by decide +kernel
theorem dJ7_fill_d0a16_19 : decode cJ7_fill_d0a16 19 = .ok (.goto (-13), 3) := by decide +kernel
theorem dJ7_fill_d0a16_22 : decode cJ7_fill_d0a16 22 = .ok (.return_, 1) := by decide +kernel
theorem dJ7_fill_53178_0 : decode cJ7_fill_53178 0 = .ok (.iconst 0, 1) := by decide +kernel
theorem dJ7_fill_53178_1 : decode cJ7_fill_53178 1 = .ok (.istore_n 2, 1) := by decide +kernel
theorem dJ7_fill_53178_2 : decode cJ7_fill_53178 2 = .ok (.aload_n 0, 1) := by decide +kernel
theorem dJ7_fill_53178_3 : decode cJ7_fill_53178 3 = .ok (.arraylength, 1) := by decide +kernel
theorem dJ7_fill_53178_4 : decode cJ7_fill_53178 4 = .ok (.istore_n 3, 1) := by decide +kernel
theorem dJ7_fill_53178_5 : decode cJ7_fill_53178 5 = .ok (.iload_n 2, 1) := by decide +kernel
theorem dJ7_fill_53178_6 : decode cJ7_fill_53178 6 = .ok (.iload_n 3, 1) := by decide +kernel
theorem dJ7_fill_53178_7 : decode cJ7_fill_53178 7 = .ok (.if_icmp .ge 13, 3) := by decide +kernel
theorem dJ7_fill_53178_10 : decode cJ7_fill_53178 10 = .ok (.aload_n 0, 1) := by decide +kernel
theorem dJ7_fill_53178_11 : decode cJ7_fill_53178 11 = .ok (.iload_n 2, 1) := by decide +kernel
theorem dJ7_fill_53178_12 : decode cJ7_fill_53178 12 = .ok (.iload_n 1, 1) := by decide +kernel
theorem dJ7_fill_53178_13 : decode cJ7_fill_53178 13 = .ok (.iastore, 1) := by decide +kernel
theorem dJ7_fill_53178_14 : decode cJ7_fill_53178 14 = .ok (.iinc 2 1, 3) := by decide +kernel
theorem dJ7_fill_53178_17 : decode cJ7_fill_53178 17 = .ok (.goto (-12), 3) := by decide +kernel
theorem dJ7_fill_53178_20 : decode cJ7_fill_53178 20 = .ok (.return_, 1) := by decide +kernel
theorem dJ3_checkIndex_8e157_0 : decode cJ3_checkIndex_8e157 0 = .ok (.iload_n 0, 1) := by decide +kernel
theorem dJ3_checkIndex_8e157_1 : decode cJ3_checkIndex_8e157 1 = .ok (.ifCond .lt 8, 3) := by decide +kernel
theorem dJ3_checkIndex_8e157_4 : decode cJ3_checkIndex_8e157 4 = .ok (.iload_n 0, 1) := by decide +kernel
theorem dJ3_checkIndex_8e157_5 : decode cJ3_checkIndex_8e157 5 = .ok (.iload_n 1, 1) := by decide +kernel
theorem dJ3_checkIndex_8e157_6 : decode cJ3_checkIndex_8e157 6 = .ok (.if_icmp .lt 10, 3) := by decide +kernel
theorem dJ3_checkIndex_8e157_9 : decode cJ3_checkIndex_8e157 9 = .ok (.aload_n 2, 1) := by decide +kernel
theorem dJ3_checkIndex_8e157_10 : decode cJ3_checkIndex_8e157 10 = .ok (.iload_n 0, 1) := by decide +kernel
theorem dJ3_checkIndex_8e157_11 : decode cJ3_checkIndex_8e157 11 = .ok (.iload_n 1, 1) := by decide +kernel
theorem dJ3_checkIndex_8e157_12 : decode cJ3_checkIndex_8e157 12 = .ok (.invokestatic 95, 3) := by decide +kernel
theorem dJ3_checkIndex_8e157_15 : decode cJ3_checkIndex_8e157 15 = .ok (.athrow, 1) := by decide +kernel
theorem dJ3_checkIndex_8e157_16 : decode cJ3_checkIndex_8e157 16 = .ok (.iload_n 0, 1) := by decide +kernel
theorem dJ3_checkIndex_8e157_17 : decode cJ3_checkIndex_8e157 17 = .ok (.ireturn, 1) := by decide +kernel
theorem dL_tell_0 : decode cL_tell 0 = .ok (.iconst 0, 1) := by decide +kernel
theorem dL_tell_1 : decode cL_tell 1 = .ok (.istore_n 2, 1) := by decide +kernel
theorem dL_tell_2 : decode cL_tell 2 = .ok (.iload_n 2, 1) := by decide +kernel
theorem dL_tell_3 : decode cL_tell 3 = .ok (.aload_n 1, 1) := by decide +kernel
theorem dL_tell_4 : decode cL_tell 4 = .ok (.invokevirtual 7, 3) := by decide +kernel
theorem dL_tell_7 : decode cL_tell 7 = .ok (.if_icmp .ge 20, 3) := by decide +kernel
theorem dL_tell_10 : decode cL_tell 10 = .ok (.aload_n 0, 1) := by decide +kernel
theorem dL_tell_11 : decode cL_tell 11 = .ok (.aload_n 1, 1) := by decide +kernel
theorem dL_tell_12 : decode cL_tell 12 = .ok (.iload_n 2, 1) := by decide +kernel
theorem dL_tell_13 : decode cL_tell 13 = .ok (.invokevirtual 13, 3) := by decide +kernel
theorem dL_tell_16 : decode cL_tell 16 = .ok (.iconst 1, 1) := by decide +kernel
theorem dL_tell_17 : decode cL_tell 17 = .ok (.invokevirtual 17, 3) := by decide +kernel
theorem dL_tell_20 : decode cL_tell 20 = .ok (.pop, 1) := by decide +kernel
theorem dL_tell_21 : decode cL_tell 21 = .ok (.iinc 2 1, 3) := by decide +kernel
theorem dL_tell_24 : decode cL_tell 24 = .ok (.goto (-22), 3) := by decide +kernel
theorem dL_tell_27 : decode cL_tell 27 = .ok (.return_, 1) := by decide +kernel
theorem dL_number_0 : decode cL_number 0 = .ok (.bipush 100, 2) := by decide +kernel
theorem dL_number_2 : decode cL_number 2 = .ok (.istore_n 2, 1) := by decide +kernel
theorem dL_number_3 : decode cL_number 3 = .ok (.iload_n 2, 1) := by decide +kernel
theorem dL_number_4 : decode cL_number 4 = .ok (.ifCond .le 36, 3) := by decide +kernel
theorem dL_number_7 : decode cL_number 7 = .ok (.iload_n 1, 1) := by decide +kernel
theorem dL_number_8 : decode cL_number 8 = .ok (.iload_n 2, 1) := by decide +kernel
theorem dL_number_9 : decode cL_number 9 = .ok (.if_icmp .ge 8, 3) := by decide +kernel
theorem dL_number_12 : decode cL_number 12 = .ok (.iload_n 2, 1) := by decide +kernel
theorem dL_number_13 : decode cL_number 13 = .ok (.iconst 1, 1) := by decide +kernel
theorem dL_number_14 : decode cL_number 14 = .ok (.if_icmp .ne 18, 3) := by decide +kernel
theorem dL_number_17 : decode cL_number 17 = .ok (.aload_n 0, 1) := by decide +kernel
theorem dL_number_18 : decode cL_number 18 = .ok (.bipush 48, 2) := by decide +kernel
theorem dL_number_20 : decode cL_number 20 = .ok (.iload_n 1, 1) := by decide +kernel
theorem dL_number_21 : decode cL_number 21 = .ok (.iload_n 2, 1) := by decide +kernel
theorem dL_number_22 : decode cL_number 22 = .ok (.idiv, 1) := by decide +kernel
theorem dL_number_23 : decode cL_number 23 = .ok (.bipush 10, 2) := by decide +kernel
theorem dL_number_25 : decode cL_number 25 = .ok (.irem, 1) := by decide +kernel
theorem dL_number_26 : decode cL_number 26 = .ok (.iadd, 1) := by decide +kernel
theorem dL_number_27 : decode cL_number 27 = .ok (.iconst 1, 1) := by decide +kernel
theorem dL_number_28 : decode cL_number 28 = .ok (.invokevirtual 17, 3) := by decide +kernel
theorem dL_number_31 : decode cL_number 31 = .ok (.pop, 1) := by decide +kernel
theorem dL_number_32 : decode cL_number 32 = .ok (.iload_n 2, 1) := by decide +kernel
theorem dL_number_33 : decode cL_number 33 = .ok (.bipush 10, 2) := by decide +kernel
theorem dL_number_35 : decode cL_number 35 = .ok (.idiv, 1) := by decide +kernel
theorem dL_number_36 : decode cL_number 36 = .ok (.istore_n 2, 1) := by decide +kernel
theorem dL_number_37 : decode cL_number 37 = .ok (.goto (-34), 3) := by decide +kernel
theorem dL_number_40 : decode cL_number 40 = .ok (.return_, 1) := by decide +kernel
theorem dL_bits_0 : decode cL_bits 0 = .ok (.iconst 0, 1) := by decide +kernel
theorem dL_bits_1 : decode cL_bits 1 = .ok (.istore_n 1, 1) := by decide +kernel
theorem dL_bits_2 : decode cL_bits 2 = .ok (.iconst 0, 1) := by decide +kernel
theorem dL_bits_3 : decode cL_bits 3 = .ok (.istore_n 2, 1) := by decide +kernel
theorem dL_bits_4 : decode cL_bits 4 = .ok (.iload_n 2, 1) := by decide +kernel
theorem dL_bits_5 : decode cL_bits 5 = .ok (.bipush 12, 2) := by decide +kernel
theorem dL_bits_7 : decode cL_bits 7 = .ok (.if_icmp .ge 17, 3) := by decide +kernel
theorem dL_bits_10 : decode cL_bits 10 = .ok (.iload_n 1, 1) := by decide +kernel
theorem dL_bits_11 : decode cL_bits 11 = .ok (.iload_n 0, 1) := by decide +kernel
theorem dL_bits_12 : decode cL_bits 12 = .ok (.iload_n 2, 1) := by decide +kernel
theorem dL_bits_13 : decode cL_bits 13 = .ok (.ishr, 1) := by decide +kernel
theorem dL_bits_14 : decode cL_bits 14 = .ok (.iconst 1, 1) := by decide +kernel
theorem dL_bits_15 : decode cL_bits 15 = .ok (.iand, 1) := by decide +kernel
theorem dL_bits_16 : decode cL_bits 16 = .ok (.iadd, 1) := by decide +kernel
theorem dL_bits_17 : decode cL_bits 17 = .ok (.istore_n 1, 1) := by decide +kernel
theorem dL_bits_18 : decode cL_bits 18 = .ok (.iinc 2 1, 3) := by decide +kernel
theorem dL_bits_21 : decode cL_bits 21 = .ok (.goto (-17), 3) := by decide +kernel
theorem dL_bits_24 : decode cL_bits 24 = .ok (.iload_n 1, 1) := by decide +kernel
theorem dL_bits_25 : decode cL_bits 25 = .ok (.ireturn, 1) := by decide +kernel
theorem dL_cell_0 : decode cL_cell 0 = .ok (.aload_n 0, 1) := by decide +kernel
theorem dL_cell_1 : decode cL_cell 1 = .ok (.arraylength, 1) := by decide +kernel
theorem dL_cell_2 : decode cL_cell 2 = .ok (.ifCond .ne 10, 3) := by decide +kernel
theorem dL_cell_5 : decode cL_cell 5 = .ok (.bipush 13, 2) := by decide +kernel
theorem dL_cell_7 : decode cL_cell 7 = .ok (.iload_n 1, 1) := by decide +kernel
theorem dL_cell_8 : decode cL_cell 8 = .ok (.imul, 1) := by decide +kernel
theorem dL_cell_9 : decode cL_cell 9 = .ok (.goto 12, 3) := by decide +kernel
theorem dL_cell_12 : decode cL_cell 12 = .ok (.aload_n 0, 1) := by decide +kernel
theorem dL_cell_13 : decode cL_cell 13 = .ok (.iload_n 1, 1) := by decide +kernel
theorem dL_cell_14 : decode cL_cell 14 = .ok (.ldc 23, 2) := by decide +kernel
theorem dL_cell_16 : decode cL_cell 16 = .ok (.iand, 1) := by decide +kernel
theorem dL_cell_17 : decode cL_cell 17 = .ok (.aload_n 0, 1) := by decide +kernel
theorem dL_cell_18 : decode cL_cell 18 = .ok (.arraylength, 1) := by decide +kernel
theorem dL_cell_19 : decode cL_cell 19 = .ok (.irem, 1) := by decide +kernel
theorem dL_cell_20 : decode cL_cell 20 = .ok (.iaload, 1) := by decide +kernel
theorem dL_cell_21 : decode cL_cell 21 = .ok (.ireturn, 1) := by decide +kernel
theorem dL_build_0 : decode cL_build 0 = .ok (.iconst 1, 1) := by decide +kernel
theorem dL_build_1 : decode cL_build 1 = .ok (.aload_n 1, 1) := by decide +kernel
theorem dL_build_2 : decode cL_build 2 = .ok (.iload_n 2, 1) := by decide +kernel
theorem dL_build_3 : decode cL_build 3 = .ok (.invokestatic 24, 3) := by decide +kernel
theorem dL_build_6 : decode cL_build 6 = .ok (.sipush 255, 3) := by decide +kernel
theorem dL_build_9 : decode cL_build 9 = .ok (.iand, 1) := by decide +kernel
theorem dL_build_10 : decode cL_build 10 = .ok (.iload_n 3, 1) := by decide +kernel
theorem dL_build_11 : decode cL_build 11 = .ok (.irem, 1) := by decide +kernel
theorem dL_build_12 : decode cL_build 12 = .ok (.iadd, 1) := by decide +kernel
theorem dL_build_13 : decode cL_build 13 = .ok (.istore 4, 2) := by decide +kernel
theorem dL_build_15 : decode cL_build 15 = .ok (.aload_n 0, 1) := by decide +kernel
theorem dL_build_16 : decode cL_build 16 = .ok (.ldc 30, 2) := by decide +kernel
theorem dL_build_18 : decode cL_build 18 = .ok (.invokestatic 32, 3) := by decide +kernel
theorem dL_build_21 : decode cL_build 21 = .ok (.aload_n 0, 1) := by decide +kernel
theorem dL_build_22 : decode cL_build 22 = .ok (.iload 4, 2) := by decide +kernel
theorem dL_build_24 : decode cL_build 24 = .ok (.invokestatic 36, 3) := by decide +kernel
theorem dL_build_27 : decode cL_build 27 = .ok (.aload_n 0, 1) := by decide +kernel
theorem dL_build_28 : decode cL_build 28 = .ok (.ldc 40, 2) := by decide +kernel
theorem dL_build_30 : decode cL_build 30 = .ok (.invokestatic 32, 3) := by decide +kernel
theorem dL_build_33 : decode cL_build 33 = .ok (.aload_n 0, 1) := by decide +kernel
theorem dL_build_34 : decode cL_build 34 = .ok (.aload_n 1, 1) := by decide +kernel
theorem dL_build_35 : decode cL_build 35 = .ok (.iload_n 2, 1) := by decide +kernel
theorem dL_build_36 : decode cL_build 36 = .ok (.invokestatic 24, 3) := by decide +kernel
theorem dL_build_39 : decode cL_build 39 = .ok (.bipush 8, 2) := by decide +kernel
theorem dL_build_41 : decode cL_build 41 = .ok (.ishr, 1) := by decide +kernel
theorem dL_build_42 : decode cL_build 42 = .ok (.bipush 31, 2) := by decide +kernel
theorem dL_build_44 : decode cL_build 44 = .ok (.iand, 1) := by decide +kernel
theorem dL_build_45 : decode cL_build 45 = .ok (.invokestatic 36, 3) := by decide +kernel
theorem dL_build_48 : decode cL_build 48 = .ok (.aload_n 0, 1) := by decide +kernel
theorem dL_build_49 : decode cL_build 49 = .ok (.ldc 42, 2) := by decide +kernel
theorem dL_build_51 : decode cL_build 51 = .ok (.invokestatic 32, 3) := by decide +kernel
theorem dL_build_54 : decode cL_build 54 = .ok (.aload_n 0, 1) := by decide +kernel
theorem dL_build_55 : decode cL_build 55 = .ok (.aload_n 1, 1) := by decide +kernel
theorem dL_build_56 : decode cL_build 56 = .ok (.iload_n 2, 1) := by decide +kernel
theorem dL_build_57 : decode cL_build 57 = .ok (.invokestatic 24, 3) := by decide +kernel
theorem dL_build_60 : decode cL_build 60 = .ok (.bipush 13, 2) := by decide +kernel
theorem dL_build_62 : decode cL_build 62 = .ok (.ishr, 1) := by decide +kernel
theorem dL_build_63 : decode cL_build 63 = .ok (.bipush 31, 2) := by decide +kernel
theorem dL_build_65 : decode cL_build 65 = .ok (.iand, 1) := by decide +kernel
theorem dL_build_66 : decode cL_build 66 = .ok (.invokestatic 36, 3) := by decide +kernel
theorem dL_build_69 : decode cL_build 69 = .ok (.aload_n 0, 1) := by decide +kernel
theorem dL_build_70 : decode cL_build 70 = .ok (.ldc 44, 2) := by decide +kernel
theorem dL_build_72 : decode cL_build 72 = .ok (.invokestatic 32, 3) := by decide +kernel
theorem dL_build_75 : decode cL_build 75 = .ok (.aload_n 0, 1) := by decide +kernel
theorem dL_build_76 : decode cL_build 76 = .ok (.aload_n 1, 1) := by decide +kernel
theorem dL_build_77 : decode cL_build 77 = .ok (.iload_n 2, 1) := by decide +kernel
theorem dL_build_78 : decode cL_build 78 = .ok (.invokestatic 24, 3) := by decide +kernel
theorem dL_build_81 : decode cL_build 81 = .ok (.bipush 18, 2) := by decide +kernel
theorem dL_build_83 : decode cL_build 83 = .ok (.ishr, 1) := by decide +kernel
theorem dL_build_84 : decode cL_build 84 = .ok (.bipush 7, 2) := by decide +kernel
theorem dL_build_86 : decode cL_build 86 = .ok (.iand, 1) := by decide +kernel
theorem dL_build_87 : decode cL_build 87 = .ok (.invokestatic 36, 3) := by decide +kernel
theorem dL_build_90 : decode cL_build 90 = .ok (.aload_n 1, 1) := by decide +kernel
theorem dL_build_91 : decode cL_build 91 = .ok (.iload_n 2, 1) := by decide +kernel
theorem dL_build_92 : decode cL_build 92 = .ok (.invokestatic 24, 3) := by decide +kernel
theorem dL_build_95 : decode cL_build 95 = .ok (.bipush 21, 2) := by decide +kernel
theorem dL_build_97 : decode cL_build 97 = .ok (.ishr, 1) := by decide +kernel
theorem dL_build_98 : decode cL_build 98 = .ok (.iconst 1, 1) := by decide +kernel
theorem dL_build_99 : decode cL_build 99 = .ok (.iand, 1) := by decide +kernel
theorem dL_build_100 : decode cL_build 100 = .ok (.ifCond .eq 15, 3) := by decide +kernel
theorem dL_build_103 : decode cL_build 103 = .ok (.iload 4, 2) := by decide +kernel
theorem dL_build_105 : decode cL_build 105 = .ok (.iconst 2, 1) := by decide +kernel
theorem dL_build_106 : decode cL_build 106 = .ok (.if_icmp .le 9, 3) := by decide +kernel
theorem dL_build_109 : decode cL_build 109 = .ok (.aload_n 0, 1) := by decide +kernel
theorem dL_build_110 : decode cL_build 110 = .ok (.ldc 46, 2) := by decide +kernel
theorem dL_build_112 : decode cL_build 112 = .ok (.invokestatic 32, 3) := by decide +kernel
theorem dL_build_115 : decode cL_build 115 = .ok (.aload_n 1, 1) := by decide +kernel
theorem dL_build_116 : decode cL_build 116 = .ok (.iload_n 2, 1) := by decide +kernel
theorem dL_build_117 : decode cL_build 117 = .ok (.invokestatic 24, 3) := by decide +kernel
theorem dL_build_120 : decode cL_build 120 = .ok (.bipush 22, 2) := by decide +kernel
theorem dL_build_122 : decode cL_build 122 = .ok (.ishr, 1) := by decide +kernel
theorem dL_build_123 : decode cL_build 123 = .ok (.iconst 3, 1) := by decide +kernel
theorem dL_build_124 : decode cL_build 124 = .ok (.iand, 1) := by decide +kernel
theorem dL_build_125 : decode cL_build 125 = .ok (.iconst 3, 1) := by decide +kernel
theorem dL_build_126 : decode cL_build 126 = .ok (.if_icmp .ne 9, 3) := by decide +kernel
theorem dL_build_129 : decode cL_build 129 = .ok (.aload_n 0, 1) := by decide +kernel
theorem dL_build_130 : decode cL_build 130 = .ok (.ldc 48, 2) := by decide +kernel
theorem dL_build_132 : decode cL_build 132 = .ok (.invokestatic 32, 3) := by decide +kernel
theorem dL_build_135 : decode cL_build 135 = .ok (.aload_n 1, 1) := by decide +kernel
theorem dL_build_136 : decode cL_build 136 = .ok (.iload_n 2, 1) := by decide +kernel
theorem dL_build_137 : decode cL_build 137 = .ok (.invokestatic 24, 3) := by decide +kernel
theorem dL_build_140 : decode cL_build 140 = .ok (.bipush 24, 2) := by decide +kernel
theorem dL_build_142 : decode cL_build 142 = .ok (.ishr, 1) := by decide +kernel
theorem dL_build_143 : decode cL_build 143 = .ok (.iconst 3, 1) := by decide +kernel
theorem dL_build_144 : decode cL_build 144 = .ok (.iand, 1) := by decide +kernel
theorem dL_build_145 : decode cL_build 145 = .ok (.iconst 3, 1) := by decide +kernel
theorem dL_build_146 : decode cL_build 146 = .ok (.if_icmp .ne 27, 3) := by decide +kernel
theorem dL_build_149 : decode cL_build 149 = .ok (.aload_n 0, 1) := by decide +kernel
theorem dL_build_150 : decode cL_build 150 = .ok (.ldc 50, 2) := by decide +kernel
theorem dL_build_152 : decode cL_build 152 = .ok (.invokestatic 32, 3) := by decide +kernel
theorem dL_build_155 : decode cL_build 155 = .ok (.aload_n 0, 1) := by decide +kernel
theorem dL_build_156 : decode cL_build 156 = .ok (.aload_n 1, 1) := by decide +kernel
theorem dL_build_157 : decode cL_build 157 = .ok (.iload_n 2, 1) := by decide +kernel
theorem dL_build_158 : decode cL_build 158 = .ok (.iconst 1, 1) := by decide +kernel
theorem dL_build_159 : decode cL_build 159 = .ok (.iadd, 1) := by decide +kernel
theorem dL_build_160 : decode cL_build 160 = .ok (.invokestatic 24, 3) := by decide +kernel
theorem dL_build_163 : decode cL_build 163 = .ok (.sipush 255, 3) := by decide +kernel
theorem dL_build_166 : decode cL_build 166 = .ok (.iand, 1) := by decide +kernel
theorem dL_build_167 : decode cL_build 167 = .ok (.iload 4, 2) := by decide +kernel
theorem dL_build_169 : decode cL_build 169 = .ok (.irem, 1) := by decide +kernel
theorem dL_build_170 : decode cL_build 170 = .ok (.invokestatic 36, 3) := by decide +kernel
theorem dL_build_173 : decode cL_build 173 = .ok (.aload_n 0, 1) := by decide +kernel
theorem dL_build_174 : decode cL_build 174 = .ok (.ldc 52, 2) := by decide +kernel
theorem dL_build_176 : decode cL_build 176 = .ok (.invokestatic 32, 3) := by decide +kernel
theorem dL_build_179 : decode cL_build 179 = .ok (.aload_n 0, 1) := by decide +kernel
theorem dL_build_180 : decode cL_build 180 = .ok (.aload_n 1, 1) := by decide +kernel
theorem dL_build_181 : decode cL_build 181 = .ok (.iload_n 2, 1) := by decide +kernel
theorem dL_build_182 : decode cL_build 182 = .ok (.iconst 1, 1) := by decide +kernel
theorem dL_build_183 : decode cL_build 183 = .ok (.iadd, 1) := by decide +kernel
theorem dL_build_184 : decode cL_build 184 = .ok (.invokestatic 24, 3) := by decide +kernel
theorem dL_build_187 : decode cL_build 187 = .ok (.bipush 8, 2) := by decide +kernel
theorem dL_build_189 : decode cL_build 189 = .ok (.ishr, 1) := by decide +kernel
theorem dL_build_190 : decode cL_build 190 = .ok (.sipush 255, 3) := by decide +kernel
theorem dL_build_193 : decode cL_build 193 = .ok (.iand, 1) := by decide +kernel
theorem dL_build_194 : decode cL_build 194 = .ok (.iload 4, 2) := by decide +kernel
theorem dL_build_196 : decode cL_build 196 = .ok (.irem, 1) := by decide +kernel
theorem dL_build_197 : decode cL_build 197 = .ok (.invokestatic 36, 3) := by decide +kernel
theorem dL_build_200 : decode cL_build 200 = .ok (.aload_n 0, 1) := by decide +kernel
theorem dL_build_201 : decode cL_build 201 = .ok (.ldc 54, 2) := by decide +kernel
theorem dL_build_203 : decode cL_build 203 = .ok (.invokestatic 32, 3) := by decide +kernel
theorem dL_build_206 : decode cL_build 206 = .ok (.aload_n 0, 1) := by decide +kernel
theorem dL_build_207 : decode cL_build 207 = .ok (.aload_n 1, 1) := by decide +kernel
theorem dL_build_208 : decode cL_build 208 = .ok (.iload_n 2, 1) := by decide +kernel
theorem dL_build_209 : decode cL_build 209 = .ok (.iconst 1, 1) := by decide +kernel
theorem dL_build_210 : decode cL_build 210 = .ok (.iadd, 1) := by decide +kernel
theorem dL_build_211 : decode cL_build 211 = .ok (.invokestatic 24, 3) := by decide +kernel
theorem dL_build_214 : decode cL_build 214 = .ok (.bipush 16, 2) := by decide +kernel
theorem dL_build_216 : decode cL_build 216 = .ok (.ishr, 1) := by decide +kernel
theorem dL_build_217 : decode cL_build 217 = .ok (.bipush 31, 2) := by decide +kernel
theorem dL_build_219 : decode cL_build 219 = .ok (.iand, 1) := by decide +kernel
theorem dL_build_220 : decode cL_build 220 = .ok (.invokestatic 36, 3) := by decide +kernel
theorem dL_build_223 : decode cL_build 223 = .ok (.aload_n 0, 1) := by decide +kernel
theorem dL_build_224 : decode cL_build 224 = .ok (.ldc 56, 2) := by decide +kernel
theorem dL_build_226 : decode cL_build 226 = .ok (.invokestatic 32, 3) := by decide +kernel
theorem dL_build_229 : decode cL_build 229 = .ok (.aload_n 0, 1) := by decide +kernel
theorem dL_build_230 : decode cL_build 230 = .ok (.aload_n 1, 1) := by decide +kernel
theorem dL_build_231 : decode cL_build 231 = .ok (.iload_n 2, 1) := by decide +kernel
theorem dL_build_232 : decode cL_build 232 = .ok (.iconst 1, 1) := by decide +kernel
theorem dL_build_233 : decode cL_build 233 = .ok (.iadd, 1) := by decide +kernel
theorem dL_build_234 : decode cL_build 234 = .ok (.invokestatic 24, 3) := by decide +kernel
theorem dL_build_237 : decode cL_build 237 = .ok (.bipush 21, 2) := by decide +kernel
theorem dL_build_239 : decode cL_build 239 = .ok (.ishr, 1) := by decide +kernel
theorem dL_build_240 : decode cL_build 240 = .ok (.bipush 31, 2) := by decide +kernel
theorem dL_build_242 : decode cL_build 242 = .ok (.iand, 1) := by decide +kernel
theorem dL_build_243 : decode cL_build 243 = .ok (.invokestatic 36, 3) := by decide +kernel
theorem dL_build_246 : decode cL_build 246 = .ok (.iconst 0, 1) := by decide +kernel
theorem dL_build_247 : decode cL_build 247 = .ok (.istore 5, 2) := by decide +kernel
theorem dL_build_249 : decode cL_build 249 = .ok (.iload 5, 2) := by decide +kernel
theorem dL_build_251 : decode cL_build 251 = .ok (.iconst 3, 1) := by decide +kernel
theorem dL_build_252 : decode cL_build 252 = .ok (.if_icmp .ge 110, 3) := by decide +kernel
theorem dL_build_255 : decode cL_build 255 = .ok (.iload 4, 2) := by decide +kernel
theorem dL_build_257 : decode cL_build 257 = .ok (.iconst 1, 1) := by decide +kernel
theorem dL_build_258 : decode cL_build 258 = .ok (.if_icmp .le 104, 3) := by decide +kernel
theorem dL_build_261 : decode cL_build 261 = .ok (.aload_n 1, 1) := by decide +kernel
theorem dL_build_262 : decode cL_build 262 = .ok (.iload_n 2, 1) := by decide +kernel
theorem dL_build_263 : decode cL_build 263 = .ok (.iconst 2, 1) := by decide +kernel
theorem dL_build_264 : decode cL_build 264 = .ok (.iadd, 1) := by decide +kernel
theorem dL_build_265 : decode cL_build 265 = .ok (.iload 5, 2) := by decide +kernel
theorem dL_build_267 : decode cL_build 267 = .ok (.iadd, 1) := by decide +kernel
theorem dL_build_268 : decode cL_build 268 = .ok (.invokestatic 24, 3) := by decide +kernel
theorem dL_build_271 : decode cL_build 271 = .ok (.istore 6, 2) := by decide +kernel
theorem dL_build_273 : decode cL_build 273 = .ok (.iload 6, 2) := by decide +kernel
theorem dL_build_275 : decode cL_build 275 = .ok (.sipush 255, 3) := by decide +kernel
theorem dL_build_278 : decode cL_build 278 = .ok (.iand, 1) := by decide +kernel
theorem dL_build_279 : decode cL_build 279 = .ok (.iload 4, 2) := by decide +kernel
theorem dL_build_281 : decode cL_build 281 = .ok (.irem, 1) := by decide +kernel
theorem dL_build_282 : decode cL_build 282 = .ok (.istore 7, 2) := by decide +kernel
theorem dL_build_284 : decode cL_build 284 = .ok (.aload_n 0, 1) := by decide +kernel
theorem dL_build_285 : decode cL_build 285 = .ok (.ldc 58, 2) := by decide +kernel
theorem dL_build_287 : decode cL_build 287 = .ok (.invokestatic 32, 3) := by decide +kernel
theorem dL_build_290 : decode cL_build 290 = .ok (.aload_n 0, 1) := by decide +kernel
theorem dL_build_291 : decode cL_build 291 = .ok (.iload 7, 2) := by decide +kernel
theorem dL_build_293 : decode cL_build 293 = .ok (.invokestatic 36, 3) := by decide +kernel
theorem dL_build_296 : decode cL_build 296 = .ok (.aload_n 0, 1) := by decide +kernel
theorem dL_build_297 : decode cL_build 297 = .ok (.ldc 60, 2) := by decide +kernel
theorem dL_build_299 : decode cL_build 299 = .ok (.invokestatic 32, 3) := by decide +kernel
theorem dL_build_302 : decode cL_build 302 = .ok (.aload_n 0, 1) := by decide +kernel
theorem dL_build_303 : decode cL_build 303 = .ok (.iload 7, 2) := by decide +kernel
theorem dL_build_305 : decode cL_build 305 = .ok (.iconst 1, 1) := by decide +kernel
theorem dL_build_306 : decode cL_build 306 = .ok (.iadd, 1) := by decide +kernel
theorem dL_build_307 : decode cL_build 307 = .ok (.iload 6, 2) := by decide +kernel
theorem dL_build_309 : decode cL_build 309 = .ok (.bipush 8, 2) := by decide +kernel
theorem dL_build_311 : decode cL_build 311 = .ok (.ishr, 1) := by decide +kernel
theorem dL_build_312 : decode cL_build 312 = .ok (.sipush 255, 3) := by decide +kernel
theorem dL_build_315 : decode cL_build 315 = .ok (.iand, 1) := by decide +kernel
theorem dL_build_316 : decode cL_build 316 = .ok (.iload 4, 2) := by decide +kernel
theorem dL_build_318 : decode cL_build 318 = .ok (.iconst 1, 1) := by decide +kernel
theorem dL_build_319 : decode cL_build 319 = .ok (.isub, 1) := by decide +kernel
theorem dL_build_320 : decode cL_build 320 = .ok (.irem, 1) := by decide +kernel
theorem dL_build_321 : decode cL_build 321 = .ok (.iadd, 1) := by decide +kernel
theorem dL_build_322 : decode cL_build 322 = .ok (.iload 4, 2) := by decide +kernel
theorem dL_build_324 : decode cL_build 324 = .ok (.irem, 1) := by decide +kernel
theorem dL_build_325 : decode cL_build 325 = .ok (.invokestatic 36, 3) := by decide +kernel
theorem dL_build_328 : decode cL_build 328 = .ok (.iload 6, 2) := by decide +kernel
theorem dL_build_330 : decode cL_build 330 = .ok (.bipush 16, 2) := by decide +kernel
theorem dL_build_332 : decode cL_build 332 = .ok (.ishr, 1) := by decide +kernel
theorem dL_build_333 : decode cL_build 333 = .ok (.iconst 1, 1) := by decide +kernel
theorem dL_build_334 : decode cL_build 334 = .ok (.iand, 1) := by decide +kernel
theorem dL_build_335 : decode cL_build 335 = .ok (.ifCond .eq 21, 3) := by decide +kernel
theorem dL_build_338 : decode cL_build 338 = .ok (.aload_n 0, 1) := by decide +kernel
theorem dL_build_339 : decode cL_build 339 = .ok (.ldc 62, 2) := by decide +kernel
theorem dL_build_341 : decode cL_build 341 = .ok (.invokestatic 32, 3) := by decide +kernel
theorem dL_build_344 : decode cL_build 344 = .ok (.aload_n 0, 1) := by decide +kernel
theorem dL_build_345 : decode cL_build 345 = .ok (.iload 6, 2) := by decide +kernel
theorem dL_build_347 : decode cL_build 347 = .ok (.bipush 17, 2) := by decide +kernel
theorem dL_build_349 : decode cL_build 349 = .ok (.ishr, 1) := by decide +kernel
theorem dL_build_350 : decode cL_build 350 = .ok (.bipush 7, 2) := by decide +kernel
theorem dL_build_352 : decode cL_build 352 = .ok (.iand, 1) := by decide +kernel
theorem dL_build_353 : decode cL_build 353 = .ok (.invokestatic 36, 3) := by decide +kernel
theorem dL_build_356 : decode cL_build 356 = .ok (.iinc 5 1, 3) := by decide +kernel
theorem dL_build_359 : decode cL_build 359 = .ok (.goto (-110), 3) := by decide +kernel
theorem dL_build_362 : decode cL_build 362 = .ok (.aload_n 0, 1) := by decide +kernel
theorem dL_build_363 : decode cL_build 363 = .ok (.invokevirtual 64, 3) := by decide +kernel
theorem dL_build_366 : decode cL_build 366 = .ok (.ireturn, 1) := by decide +kernel
theorem dL_act_0 : decode cL_act 0 = .ok (.aload_n 1, 1) := by decide +kernel
theorem dL_act_1 : decode cL_act 1 = .ok (.iload_n 2, 1) := by decide +kernel
theorem dL_act_2 : decode cL_act 2 = .ok (.invokestatic 24, 3) := by decide +kernel
theorem dL_act_5 : decode cL_act 5 = .ok (.istore_n 3, 1) := by decide +kernel
theorem dL_act_6 : decode cL_act 6 = .ok (.iload_n 3, 1) := by decide +kernel
theorem dL_act_7 : decode cL_act 7 = .ok (.iconst 4, 1) := by decide +kernel
theorem dL_act_8 : decode cL_act 8 = .ok (.ishr, 1) := by decide +kernel
theorem dL_act_9 : decode cL_act 9 = .ok (.sipush 4095, 3) := by decide +kernel
theorem dL_act_12 : decode cL_act 12 = .ok (.iand, 1) := by decide +kernel
theorem dL_act_13 : decode cL_act 13 = .ok (.istore 4, 2) := by decide +kernel
theorem dL_act_15 : decode cL_act 15 = .ok (.iload_n 3, 1) := by decide +kernel
theorem dL_act_16 : decode cL_act 16 = .ok (.bipush 16, 2) := by decide +kernel
theorem dL_act_18 : decode cL_act 18 = .ok (.ishr, 1) := by decide +kernel
theorem dL_act_19 : decode cL_act 19 = .ok (.iconst 1, 1) := by decide +kernel
theorem dL_act_20 : decode cL_act 20 = .ok (.iand, 1) := by decide +kernel
theorem dL_act_21 : decode cL_act 21 = .ok (.istore 5, 2) := by decide +kernel
theorem dL_act_23 : decode cL_act 23 = .ok (.iload_n 3, 1) := by decide +kernel
theorem dL_act_24 : decode cL_act 24 = .ok (.bipush 17, 2) := by decide +kernel
theorem dL_act_26 : decode cL_act 26 = .ok (.ishr, 1) := by decide +kernel
theorem dL_act_27 : decode cL_act 27 = .ok (.bipush 7, 2) := by decide +kernel
theorem dL_act_29 : decode cL_act 29 = .ok (.iand, 1) := by decide +kernel
theorem dL_act_30 : decode cL_act 30 = .ok (.bipush 6, 2) := by decide +kernel
theorem dL_act_32 : decode cL_act 32 = .ok (.irem, 1) := by decide +kernel
theorem dL_act_33 : decode cL_act 33 = .ok (.istore 6, 2) := by decide +kernel
theorem dL_act_35 : decode cL_act 35 = .ok (.iload_n 3, 1) := by decide +kernel
theorem dL_act_36 : decode cL_act 36 = .ok (.bipush 15, 2) := by decide +kernel
theorem dL_act_38 : decode cL_act 38 = .ok (.iand, 1) := by decide +kernel
theorem dL_act_39 : decode cL_act 39 = .ok (.tableswitch 397 0 14 #[73, 73, 95, 118, 147, 172, 203, 228, 261, 283, 325, 335, 350, 366, 389], 73) := by decide +kernel
theorem dL_act_112 : decode cL_act 112 = .ok (.aload_n 0, 1) := by decide +kernel
theorem dL_act_113 : decode cL_act 113 = .ok (.iconst 0, 1) := by decide +kernel
theorem dL_act_114 : decode cL_act 114 = .ok (.invokevirtual 67, 3) := by decide +kernel
theorem dL_act_117 : decode cL_act 117 = .ok (.iconst 4, 1) := by decide +kernel
theorem dL_act_118 : decode cL_act 118 = .ok (.if_icmp .ge 323, 3) := by decide +kernel
theorem dL_act_121 : decode cL_act 121 = .ok (.aload_n 0, 1) := by decide +kernel
theorem dL_act_122 : decode cL_act 122 = .ok (.aload_n 1, 1) := by decide +kernel
theorem dL_act_123 : decode cL_act 123 = .ok (.iload_n 2, 1) := by decide +kernel
theorem dL_act_124 : decode cL_act 124 = .ok (.iconst 1, 1) := by decide +kernel
theorem dL_act_125 : decode cL_act 125 = .ok (.iadd, 1) := by decide +kernel
theorem dL_act_126 : decode cL_act 126 = .ok (.iconst 5, 1) := by decide +kernel
theorem dL_act_127 : decode cL_act 127 = .ok (.invokestatic 71, 3) := by decide +kernel
theorem dL_act_130 : decode cL_act 130 = .ok (.pop, 1) := by decide +kernel
theorem dL_act_131 : decode cL_act 131 = .ok (.goto 310, 3) := by decide +kernel
theorem dL_act_134 : decode cL_act 134 = .ok (.aload_n 0, 1) := by decide +kernel
theorem dL_act_135 : decode cL_act 135 = .ok (.iload 5, 2) := by decide +kernel
theorem dL_act_137 : decode cL_act 137 = .ok (.iload 6, 2) := by decide +kernel
theorem dL_act_139 : decode cL_act 139 = .ok (.iload 4, 2) := by decide +kernel
theorem dL_act_141 : decode cL_act 141 = .ok (.iconst 1, 1) := by decide +kernel
theorem dL_act_142 : decode cL_act 142 = .ok (.iand, 1) := by decide +kernel
theorem dL_act_143 : decode cL_act 143 = .ok (.iload 4, 2) := by decide +kernel
theorem dL_act_145 : decode cL_act 145 = .ok (.iconst 1, 1) := by decide +kernel
theorem dL_act_146 : decode cL_act 146 = .ok (.ishr, 1) := by decide +kernel
theorem dL_act_147 : decode cL_act 147 = .ok (.bipush 63, 2) := by decide +kernel
theorem dL_act_149 : decode cL_act 149 = .ok (.iand, 1) := by decide +kernel
theorem dL_act_150 : decode cL_act 150 = .ok (.invokevirtual 75, 3) := by decide +kernel
theorem dL_act_153 : decode cL_act 153 = .ok (.pop, 1) := by decide +kernel
theorem dL_act_154 : decode cL_act 154 = .ok (.goto 287, 3) := by decide +kernel
theorem dL_act_157 : decode cL_act 157 = .ok (.aload_n 0, 1) := by decide +kernel
theorem dL_act_158 : decode cL_act 158 = .ok (.iload 5, 2) := by decide +kernel
theorem dL_act_160 : decode cL_act 160 = .ok (.iload 6, 2) := by decide +kernel
theorem dL_act_162 : decode cL_act 162 = .ok (.iload 4, 2) := by decide +kernel
theorem dL_act_164 : decode cL_act 164 = .ok (.bipush 7, 2) := by decide +kernel
theorem dL_act_166 : decode cL_act 166 = .ok (.iand, 1) := by decide +kernel
theorem dL_act_167 : decode cL_act 167 = .ok (.iload 4, 2) := by decide +kernel
theorem dL_act_169 : decode cL_act 169 = .ok (.iconst 3, 1) := by decide +kernel
theorem dL_act_170 : decode cL_act 170 = .ok (.ishr, 1) := by decide +kernel
theorem dL_act_171 : decode cL_act 171 = .ok (.bipush 15, 2) := by decide +kernel
theorem dL_act_173 : decode cL_act 173 = .ok (.iand, 1) := by decide +kernel
theorem dL_act_174 : decode cL_act 174 = .ok (.bipush 12, 2) := by decide +kernel
theorem dL_act_176 : decode cL_act 176 = .ok (.irem, 1) := by decide +kernel
theorem dL_act_177 : decode cL_act 177 = .ok (.iconst 1, 1) := by decide +kernel
theorem dL_act_178 : decode cL_act 178 = .ok (.isub, 1) := by decide +kernel
theorem dL_act_179 : decode cL_act 179 = .ok (.invokevirtual 79, 3) := by decide +kernel
theorem dL_act_182 : decode cL_act 182 = .ok (.pop, 1) := by decide +kernel
theorem dL_act_183 : decode cL_act 183 = .ok (.goto 258, 3) := by decide +kernel
theorem dL_act_186 : decode cL_act 186 = .ok (.aload_n 0, 1) := by decide +kernel
theorem dL_act_187 : decode cL_act 187 = .ok (.iload 5, 2) := by decide +kernel
theorem dL_act_189 : decode cL_act 189 = .ok (.iload 6, 2) := by decide +kernel
theorem dL_act_191 : decode cL_act 191 = .ok (.iload 4, 2) := by decide +kernel
theorem dL_act_193 : decode cL_act 193 = .ok (.iconst 3, 1) := by decide +kernel
theorem dL_act_194 : decode cL_act 194 = .ok (.iand, 1) := by decide +kernel
theorem dL_act_195 : decode cL_act 195 = .ok (.iconst 3, 1) := by decide +kernel
theorem dL_act_196 : decode cL_act 196 = .ok (.if_icmp .ne 7, 3) := by decide +kernel
theorem dL_act_199 : decode cL_act 199 = .ok (.iconst 1, 1) := by decide +kernel
theorem dL_act_200 : decode cL_act 200 = .ok (.goto 4, 3) := by decide +kernel
theorem dL_act_203 : decode cL_act 203 = .ok (.iconst 0, 1) := by decide +kernel
theorem dL_act_204 : decode cL_act 204 = .ok (.invokevirtual 82, 3) := by decide +kernel
theorem dL_act_207 : decode cL_act 207 = .ok (.pop, 1) := by decide +kernel
theorem dL_act_208 : decode cL_act 208 = .ok (.goto 233, 3) := by decide +kernel
theorem dL_act_211 : decode cL_act 211 = .ok (.aload_n 0, 1) := by decide +kernel
theorem dL_act_212 : decode cL_act 212 = .ok (.iload 4, 2) := by decide +kernel
theorem dL_act_214 : decode cL_act 214 = .ok (.bipush 7, 2) := by decide +kernel
theorem dL_act_216 : decode cL_act 216 = .ok (.iand, 1) := by decide +kernel
theorem dL_act_217 : decode cL_act 217 = .ok (.iload 4, 2) := by decide +kernel
theorem dL_act_219 : decode cL_act 219 = .ok (.iconst 3, 1) := by decide +kernel
theorem dL_act_220 : decode cL_act 220 = .ok (.ishr, 1) := by decide +kernel
theorem dL_act_221 : decode cL_act 221 = .ok (.bipush 7, 2) := by decide +kernel
theorem dL_act_223 : decode cL_act 223 = .ok (.iand, 1) := by decide +kernel
theorem dL_act_224 : decode cL_act 224 = .ok (.bipush 6, 2) := by decide +kernel
theorem dL_act_226 : decode cL_act 226 = .ok (.irem, 1) := by decide +kernel
theorem dL_act_227 : decode cL_act 227 = .ok (.iload 4, 2) := by decide +kernel
theorem dL_act_229 : decode cL_act 229 = .ok (.bipush 6, 2) := by decide +kernel
theorem dL_act_231 : decode cL_act 231 = .ok (.ishr, 1) := by decide +kernel
theorem dL_act_232 : decode cL_act 232 = .ok (.bipush 15, 2) := by decide +kernel
theorem dL_act_234 : decode cL_act 234 = .ok (.iand, 1) := by decide +kernel
theorem dL_act_235 : decode cL_act 235 = .ok (.invokevirtual 86, 3) := by decide +kernel
theorem dL_act_238 : decode cL_act 238 = .ok (.pop, 1) := by decide +kernel
theorem dL_act_239 : decode cL_act 239 = .ok (.goto 202, 3) := by decide +kernel
theorem dL_act_242 : decode cL_act 242 = .ok (.aload_n 0, 1) := by decide +kernel
theorem dL_act_243 : decode cL_act 243 = .ok (.iload 4, 2) := by decide +kernel
theorem dL_act_245 : decode cL_act 245 = .ok (.bipush 7, 2) := by decide +kernel
theorem dL_act_247 : decode cL_act 247 = .ok (.iand, 1) := by decide +kernel
theorem dL_act_248 : decode cL_act 248 = .ok (.iload 4, 2) := by decide +kernel
theorem dL_act_250 : decode cL_act 250 = .ok (.iconst 3, 1) := by decide +kernel
theorem dL_act_251 : decode cL_act 251 = .ok (.ishr, 1) := by decide +kernel
theorem dL_act_252 : decode cL_act 252 = .ok (.bipush 15, 2) := by decide +kernel
theorem dL_act_254 : decode cL_act 254 = .ok (.iand, 1) := by decide +kernel
theorem dL_act_255 : decode cL_act 255 = .ok (.iload_n 3, 1) := by decide +kernel
theorem dL_act_256 : decode cL_act 256 = .ok (.bipush 11, 2) := by decide +kernel
theorem dL_act_258 : decode cL_act 258 = .ok (.ishr, 1) := by decide +kernel
theorem dL_act_259 : decode cL_act 259 = .ok (.i2l, 1) := by decide +kernel
theorem dL_act_260 : decode cL_act 260 = .ok (.invokevirtual 90, 3) := by decide +kernel
theorem dL_act_263 : decode cL_act 263 = .ok (.pop, 1) := by decide +kernel
theorem dL_act_264 : decode cL_act 264 = .ok (.goto 177, 3) := by decide +kernel
theorem dL_act_267 : decode cL_act 267 = .ok (.aload_n 0, 1) := by decide +kernel
theorem dL_act_268 : decode cL_act 268 = .ok (.iload 4, 2) := by decide +kernel
theorem dL_act_270 : decode cL_act 270 = .ok (.bipush 7, 2) := by decide +kernel
theorem dL_act_272 : decode cL_act 272 = .ok (.iand, 1) := by decide +kernel
theorem dL_act_273 : decode cL_act 273 = .ok (.iconst 1, 1) := by decide +kernel
theorem dL_act_274 : decode cL_act 274 = .ok (.iload 4, 2) := by decide +kernel
theorem dL_act_276 : decode cL_act 276 = .ok (.iconst 3, 1) := by decide +kernel
theorem dL_act_277 : decode cL_act 277 = .ok (.ishr, 1) := by decide +kernel
theorem dL_act_278 : decode cL_act 278 = .ok (.bipush 7, 2) := by decide +kernel
theorem dL_act_280 : decode cL_act 280 = .ok (.iand, 1) := by decide +kernel
theorem dL_act_281 : decode cL_act 281 = .ok (.bipush 6, 2) := by decide +kernel
theorem dL_act_283 : decode cL_act 283 = .ok (.irem, 1) := by decide +kernel
theorem dL_act_284 : decode cL_act 284 = .ok (.iadd, 1) := by decide +kernel
theorem dL_act_285 : decode cL_act 285 = .ok (.iload 4, 2) := by decide +kernel
theorem dL_act_287 : decode cL_act 287 = .ok (.bipush 6, 2) := by decide +kernel
theorem dL_act_289 : decode cL_act 289 = .ok (.ishr, 1) := by decide +kernel
theorem dL_act_290 : decode cL_act 290 = .ok (.bipush 63, 2) := by decide +kernel
theorem dL_act_292 : decode cL_act 292 = .ok (.iand, 1) := by decide +kernel
theorem dL_act_293 : decode cL_act 293 = .ok (.invokevirtual 94, 3) := by decide +kernel
theorem dL_act_296 : decode cL_act 296 = .ok (.pop, 1) := by decide +kernel
theorem dL_act_297 : decode cL_act 297 = .ok (.goto 144, 3) := by decide +kernel
theorem dL_act_300 : decode cL_act 300 = .ok (.aload_n 0, 1) := by decide +kernel
theorem dL_act_301 : decode cL_act 301 = .ok (.iload 5, 2) := by decide +kernel
theorem dL_act_303 : decode cL_act 303 = .ok (.iload 6, 2) := by decide +kernel
theorem dL_act_305 : decode cL_act 305 = .ok (.iload 4, 2) := by decide +kernel
theorem dL_act_307 : decode cL_act 307 = .ok (.bipush 15, 2) := by decide +kernel
theorem dL_act_309 : decode cL_act 309 = .ok (.iand, 1) := by decide +kernel
theorem dL_act_310 : decode cL_act 310 = .ok (.bipush 9, 2) := by decide +kernel
theorem dL_act_312 : decode cL_act 312 = .ok (.irem, 1) := by decide +kernel
theorem dL_act_313 : decode cL_act 313 = .ok (.iconst 1, 1) := by decide +kernel
theorem dL_act_314 : decode cL_act 314 = .ok (.isub, 1) := by decide +kernel
theorem dL_act_315 : decode cL_act 315 = .ok (.invokevirtual 97, 3) := by decide +kernel
theorem dL_act_318 : decode cL_act 318 = .ok (.pop, 1) := by decide +kernel
theorem dL_act_319 : decode cL_act 319 = .ok (.goto 122, 3) := by decide +kernel
theorem dL_act_322 : decode cL_act 322 = .ok (.aload_n 0, 1) := by decide +kernel
theorem dL_act_323 : decode cL_act 323 = .ok (.iload 5, 2) := by decide +kernel
theorem dL_act_325 : decode cL_act 325 = .ok (.iconst 0, 1) := by decide +kernel
theorem dL_act_326 : decode cL_act 326 = .ok (.invokevirtual 100, 3) := by decide +kernel
theorem dL_act_329 : decode cL_act 329 = .ok (.bipush 6, 2) := by decide +kernel
theorem dL_act_331 : decode cL_act 331 = .ok (.if_icmp .ge 110, 3) := by decide +kernel
theorem dL_act_334 : decode cL_act 334 = .ok (.aload_n 0, 1) := by decide +kernel
theorem dL_act_335 : decode cL_act 335 = .ok (.iload 5, 2) := by decide +kernel
theorem dL_act_337 : decode cL_act 337 = .ok (.iload 4, 2) := by decide +kernel
theorem dL_act_339 : decode cL_act 339 = .ok (.bipush 31, 2) := by decide +kernel
theorem dL_act_341 : decode cL_act 341 = .ok (.iand, 1) := by decide +kernel
theorem dL_act_342 : decode cL_act 342 = .ok (.iload 4, 2) := by decide +kernel
theorem dL_act_344 : decode cL_act 344 = .ok (.iconst 5, 1) := by decide +kernel
theorem dL_act_345 : decode cL_act 345 = .ok (.ishr, 1) := by decide +kernel
theorem dL_act_346 : decode cL_act 346 = .ok (.bipush 31, 2) := by decide +kernel
theorem dL_act_348 : decode cL_act 348 = .ok (.iand, 1) := by decide +kernel
theorem dL_act_349 : decode cL_act 349 = .ok (.iload 4, 2) := by decide +kernel
theorem dL_act_351 : decode cL_act 351 = .ok (.bipush 7, 2) := by decide +kernel
theorem dL_act_353 : decode cL_act 353 = .ok (.ishr, 1) := by decide +kernel
theorem dL_act_354 : decode cL_act 354 = .ok (.bipush 31, 2) := by decide +kernel
theorem dL_act_356 : decode cL_act 356 = .ok (.iand, 1) := by decide +kernel
theorem dL_act_357 : decode cL_act 357 = .ok (.invokevirtual 103, 3) := by decide +kernel
theorem dL_act_360 : decode cL_act 360 = .ok (.pop, 1) := by decide +kernel
theorem dL_act_361 : decode cL_act 361 = .ok (.goto 80, 3) := by decide +kernel
theorem dL_act_364 : decode cL_act 364 = .ok (.aload_n 0, 1) := by decide +kernel
theorem dL_act_365 : decode cL_act 365 = .ok (.iload 5, 2) := by decide +kernel
theorem dL_act_367 : decode cL_act 367 = .ok (.invokevirtual 106, 3) := by decide +kernel
theorem dL_act_370 : decode cL_act 370 = .ok (.pop, 1) := by decide +kernel
theorem dL_act_371 : decode cL_act 371 = .ok (.goto 70, 3) := by decide +kernel
theorem dL_act_374 : decode cL_act 374 = .ok (.aload_n 0, 1) := by decide +kernel
theorem dL_act_375 : decode cL_act 375 = .ok (.iconst 1, 1) := by decide +kernel
theorem dL_act_376 : decode cL_act 376 = .ok (.iload 4, 2) := by decide +kernel
theorem dL_act_378 : decode cL_act 378 = .ok (.bipush 31, 2) := by decide +kernel
theorem dL_act_380 : decode cL_act 380 = .ok (.iand, 1) := by decide +kernel
theorem dL_act_381 : decode cL_act 381 = .ok (.iadd, 1) := by decide +kernel
theorem dL_act_382 : decode cL_act 382 = .ok (.invokevirtual 109, 3) := by decide +kernel
theorem dL_act_385 : decode cL_act 385 = .ok (.pop, 1) := by decide +kernel
theorem dL_act_386 : decode cL_act 386 = .ok (.goto 55, 3) := by decide +kernel
theorem dL_act_389 : decode cL_act 389 = .ok (.aload_n 0, 1) := by decide +kernel
theorem dL_act_390 : decode cL_act 390 = .ok (.iload 5, 2) := by decide +kernel
theorem dL_act_392 : decode cL_act 392 = .ok (.iload 4, 2) := by decide +kernel
theorem dL_act_394 : decode cL_act 394 = .ok (.sipush 511, 3) := by decide +kernel
theorem dL_act_397 : decode cL_act 397 = .ok (.iand, 1) := by decide +kernel
theorem dL_act_398 : decode cL_act 398 = .ok (.invokevirtual 112, 3) := by decide +kernel
theorem dL_act_401 : decode cL_act 401 = .ok (.pop, 1) := by decide +kernel
theorem dL_act_402 : decode cL_act 402 = .ok (.goto 39, 3) := by decide +kernel
theorem dL_act_405 : decode cL_act 405 = .ok (.aload_n 0, 1) := by decide +kernel
theorem dL_act_406 : decode cL_act 406 = .ok (.iload 4, 2) := by decide +kernel
theorem dL_act_408 : decode cL_act 408 = .ok (.bipush 7, 2) := by decide +kernel
theorem dL_act_410 : decode cL_act 410 = .ok (.iand, 1) := by decide +kernel
theorem dL_act_411 : decode cL_act 411 = .ok (.bipush 7, 2) := by decide +kernel
theorem dL_act_413 : decode cL_act 413 = .ok (.irem, 1) := by decide +kernel
theorem dL_act_414 : decode cL_act 414 = .ok (.iload 4, 2) := by decide +kernel
theorem dL_act_416 : decode cL_act 416 = .ok (.iconst 3, 1) := by decide +kernel
theorem dL_act_417 : decode cL_act 417 = .ok (.ishr, 1) := by decide +kernel
theorem dL_act_418 : decode cL_act 418 = .ok (.bipush 31, 2) := by decide +kernel
theorem dL_act_420 : decode cL_act 420 = .ok (.iand, 1) := by decide +kernel
theorem dL_act_421 : decode cL_act 421 = .ok (.invokevirtual 115, 3) := by decide +kernel
theorem dL_act_424 : decode cL_act 424 = .ok (.pop, 1) := by decide +kernel
theorem dL_act_425 : decode cL_act 425 = .ok (.goto 16, 3) := by decide +kernel
theorem dL_act_428 : decode cL_act 428 = .ok (.aload_n 0, 1) := by decide +kernel
theorem dL_act_429 : decode cL_act 429 = .ok (.invokevirtual 118, 3) := by decide +kernel
theorem dL_act_432 : decode cL_act 432 = .ok (.pop, 1) := by decide +kernel
theorem dL_act_433 : decode cL_act 433 = .ok (.goto 8, 3) := by decide +kernel
theorem dL_act_436 : decode cL_act 436 = .ok (.aload_n 0, 1) := by decide +kernel
theorem dL_act_437 : decode cL_act 437 = .ok (.invokevirtual 121, 3) := by decide +kernel
theorem dL_act_440 : decode cL_act 440 = .ok (.pop, 1) := by decide +kernel
theorem dL_act_441 : decode cL_act 441 = .ok (.return_, 1) := by decide +kernel
theorem dL_holds_0 : decode cL_holds 0 = .ok (.aload_n 0, 1) := by decide +kernel
theorem dL_holds_1 : decode cL_holds 1 = .ok (.iload_n 1, 1) := by decide +kernel
theorem dL_holds_2 : decode cL_holds 2 = .ok (.iconst 0, 1) := by decide +kernel
theorem dL_holds_3 : decode cL_holds 3 = .ok (.invokevirtual 100, 3) := by decide +kernel
theorem dL_holds_6 : decode cL_holds 6 = .ok (.istore_n 3, 1) := by decide +kernel
theorem dL_holds_7 : decode cL_holds 7 = .ok (.aload_n 0, 1) := by decide +kernel
theorem dL_holds_8 : decode cL_holds 8 = .ok (.iload_n 1, 1) := by decide +kernel
theorem dL_holds_9 : decode cL_holds 9 = .ok (.iconst 3, 1) := by decide +kernel
theorem dL_holds_10 : decode cL_holds 10 = .ok (.invokevirtual 100, 3) := by decide +kernel
theorem dL_holds_13 : decode cL_holds 13 = .ok (.istore 4, 2) := by decide +kernel
theorem dL_holds_15 : decode cL_holds 15 = .ok (.aload_n 0, 1) := by decide +kernel
theorem dL_holds_16 : decode cL_holds 16 = .ok (.iload_n 1, 1) := by decide +kernel
theorem dL_holds_17 : decode cL_holds 17 = .ok (.invokevirtual 124, 3) := by decide +kernel
theorem dL_holds_20 : decode cL_holds 20 = .ok (.istore 5, 2) := by decide +kernel
theorem dL_holds_22 : decode cL_holds 22 = .ok (.aload_n 0, 1) := by decide +kernel
theorem dL_holds_23 : decode cL_holds 23 = .ok (.iload_n 1, 1) := by decide +kernel
theorem dL_holds_24 : decode cL_holds 24 = .ok (.invokevirtual 127, 3) := by decide +kernel
theorem dL_holds_27 : decode cL_holds 27 = .ok (.istore 6, 2) := by decide +kernel
theorem dL_holds_29 : decode cL_holds 29 = .ok (.aload_n 0, 1) := by decide +kernel
theorem dL_holds_30 : decode cL_holds 30 = .ok (.iload_n 1, 1) := by decide +kernel
theorem dL_holds_31 : decode cL_holds 31 = .ok (.invokevirtual 130, 3) := by decide +kernel
theorem dL_holds_34 : decode cL_holds 34 = .ok (.istore 7, 2) := by decide +kernel
theorem dL_holds_36 : decode cL_holds 36 = .ok (.iload 5, 2) := by decide +kernel
theorem dL_holds_38 : decode cL_holds 38 = .ok (.ifCond .lt 105, 3) := by decide +kernel
theorem dL_holds_41 : decode cL_holds 41 = .ok (.iload 5, 2) := by decide +kernel
theorem dL_holds_43 : decode cL_holds 43 = .ok (.ifCond .ne 7, 3) := by decide +kernel
theorem dL_holds_46 : decode cL_holds 46 = .ok (.iconst 1, 1) := by decide +kernel
theorem dL_holds_47 : decode cL_holds 47 = .ok (.goto 4, 3) := by decide +kernel
theorem dL_holds_50 : decode cL_holds 50 = .ok (.iconst 0, 1) := by decide +kernel
theorem dL_holds_51 : decode cL_holds 51 = .ok (.iload 6, 2) := by decide +kernel
theorem dL_holds_53 : decode cL_holds 53 = .ok (.iconst (-1), 1) := by decide +kernel
theorem dL_holds_54 : decode cL_holds 54 = .ok (.if_icmp .ne 7, 3) := by decide +kernel
theorem dL_holds_57 : decode cL_holds 57 = .ok (.iconst 1, 1) := by decide +kernel
theorem dL_holds_58 : decode cL_holds 58 = .ok (.goto 4, 3) := by decide +kernel
theorem dL_holds_61 : decode cL_holds 61 = .ok (.iconst 0, 1) := by decide +kernel
theorem dL_holds_62 : decode cL_holds 62 = .ok (.if_icmp .ne 81, 3) := by decide +kernel
theorem dL_holds_65 : decode cL_holds 65 = .ok (.iload 7, 2) := by decide +kernel
theorem dL_holds_67 : decode cL_holds 67 = .ok (.iload 4, 2) := by decide +kernel
theorem dL_holds_69 : decode cL_holds 69 = .ok (.iand, 1) := by decide +kernel
theorem dL_holds_70 : decode cL_holds 70 = .ok (.iload 4, 2) := by decide +kernel
theorem dL_holds_72 : decode cL_holds 72 = .ok (.if_icmp .ne 71, 3) := by decide +kernel
theorem dL_holds_75 : decode cL_holds 75 = .ok (.iload 5, 2) := by decide +kernel
theorem dL_holds_77 : decode cL_holds 77 = .ok (.ifCond .le 68, 3) := by decide +kernel
theorem dL_holds_80 : decode cL_holds 80 = .ok (.aload_n 0, 1) := by decide +kernel
theorem dL_holds_81 : decode cL_holds 81 = .ok (.iload_n 1, 1) := by decide +kernel
theorem dL_holds_82 : decode cL_holds 82 = .ok (.invokevirtual 133, 3) := by decide +kernel
theorem dL_holds_85 : decode cL_holds 85 = .ok (.ifCond .lt 58, 3) := by decide +kernel
theorem dL_holds_88 : decode cL_holds 88 = .ok (.aload_n 0, 1) := by decide +kernel
theorem dL_holds_89 : decode cL_holds 89 = .ok (.iload_n 1, 1) := by decide +kernel
theorem dL_holds_90 : decode cL_holds 90 = .ok (.invokevirtual 136, 3) := by decide +kernel
theorem dL_holds_93 : decode cL_holds 93 = .ok (.aload_n 0, 1) := by decide +kernel
theorem dL_holds_94 : decode cL_holds 94 = .ok (.iload_n 1, 1) := by decide +kernel
theorem dL_holds_95 : decode cL_holds 95 = .ok (.invokevirtual 133, 3) := by decide +kernel
theorem dL_holds_98 : decode cL_holds 98 = .ok (.if_icmp .lt 45, 3) := by decide +kernel
theorem dL_holds_101 : decode cL_holds 101 = .ok (.aload_n 0, 1) := by decide +kernel
theorem dL_holds_102 : decode cL_holds 102 = .ok (.iload_n 1, 1) := by decide +kernel
theorem dL_holds_103 : decode cL_holds 103 = .ok (.iload 7, 2) := by decide +kernel
theorem dL_holds_105 : decode cL_holds 105 = .ok (.invokevirtual 139, 3) := by decide +kernel
theorem dL_holds_108 : decode cL_holds 108 = .ok (.aload_n 0, 1) := by decide +kernel
theorem dL_holds_109 : decode cL_holds 109 = .ok (.iload_n 1, 1) := by decide +kernel
theorem dL_holds_110 : decode cL_holds 110 = .ok (.iload 6, 2) := by decide +kernel
theorem dL_holds_112 : decode cL_holds 112 = .ok (.invokevirtual 139, 3) := by decide +kernel
theorem dL_holds_115 : decode cL_holds 115 = .ok (.isub, 1) := by decide +kernel
theorem dL_holds_116 : decode cL_holds 116 = .ok (.aload_n 0, 1) := by decide +kernel
theorem dL_holds_117 : decode cL_holds 117 = .ok (.iload_n 1, 1) := by decide +kernel
theorem dL_holds_118 : decode cL_holds 118 = .ok (.invokevirtual 133, 3) := by decide +kernel
theorem dL_holds_121 : decode cL_holds 121 = .ok (.if_icmp .ne 22, 3) := by decide +kernel
theorem dL_holds_124 : decode cL_holds 124 = .ok (.aload_n 0, 1) := by decide +kernel
theorem dL_holds_125 : decode cL_holds 125 = .ok (.iload_n 1, 1) := by decide +kernel
theorem dL_holds_126 : decode cL_holds 126 = .ok (.invokevirtual 142, 3) := by decide +kernel
theorem dL_holds_129 : decode cL_holds 129 = .ok (.invokestatic 145, 3) := by decide +kernel
theorem dL_holds_132 : decode cL_holds 132 = .ok (.aload_n 0, 1) := by decide +kernel
theorem dL_holds_133 : decode cL_holds 133 = .ok (.iload_n 1, 1) := by decide +kernel
theorem dL_holds_134 : decode cL_holds 134 = .ok (.invokevirtual 148, 3) := by decide +kernel
theorem dL_holds_137 : decode cL_holds 137 = .ok (.invokestatic 145, 3) := by decide +kernel
theorem dL_holds_140 : decode cL_holds 140 = .ok (.if_icmp .le 5, 3) := by decide +kernel
theorem dL_holds_143 : decode cL_holds 143 = .ok (.iconst 0, 1) := by decide +kernel
theorem dL_holds_144 : decode cL_holds 144 = .ok (.ireturn, 1) := by decide +kernel
theorem dL_holds_145 : decode cL_holds 145 = .ok (.iconst 0, 1) := by decide +kernel
theorem dL_holds_146 : decode cL_holds 146 = .ok (.istore 8, 2) := by decide +kernel
theorem dL_holds_148 : decode cL_holds 148 = .ok (.iload 8, 2) := by decide +kernel
theorem dL_holds_150 : decode cL_holds 150 = .ok (.iload 5, 2) := by decide +kernel
theorem dL_holds_152 : decode cL_holds 152 = .ok (.if_icmp .ge 79, 3) := by decide +kernel
theorem dL_holds_155 : decode cL_holds 155 = .ok (.iload 8, 2) := by decide +kernel
theorem dL_holds_157 : decode cL_holds 157 = .ok (.iconst 4, 1) := by decide +kernel
theorem dL_holds_158 : decode cL_holds 158 = .ok (.if_icmp .ge 73, 3) := by decide +kernel
theorem dL_holds_161 : decode cL_holds 161 = .ok (.aload_n 0, 1) := by decide +kernel
theorem dL_holds_162 : decode cL_holds 162 = .ok (.iload_n 1, 1) := by decide +kernel
theorem dL_holds_163 : decode cL_holds 163 = .ok (.iload 8, 2) := by decide +kernel
theorem dL_holds_165 : decode cL_holds 165 = .ok (.invokevirtual 151, 3) := by decide +kernel
theorem dL_holds_168 : decode cL_holds 168 = .ok (.istore 9, 2) := by decide +kernel
theorem dL_holds_170 : decode cL_holds 170 = .ok (.aload_n 0, 1) := by decide +kernel
theorem dL_holds_171 : decode cL_holds 171 = .ok (.iload_n 1, 1) := by decide +kernel
theorem dL_holds_172 : decode cL_holds 172 = .ok (.iload 9, 2) := by decide +kernel
theorem dL_holds_174 : decode cL_holds 174 = .ok (.invokevirtual 154, 3) := by decide +kernel
theorem dL_holds_177 : decode cL_holds 177 = .ok (.iconst (-1), 1) := by decide +kernel
theorem dL_holds_178 : decode cL_holds 178 = .ok (.if_icmp .ne 45, 3) := by decide +kernel
theorem dL_holds_181 : decode cL_holds 181 = .ok (.aload_n 0, 1) := by decide +kernel
theorem dL_holds_182 : decode cL_holds 182 = .ok (.iload_n 1, 1) := by decide +kernel
theorem dL_holds_183 : decode cL_holds 183 = .ok (.iload 9, 2) := by decide +kernel
theorem dL_holds_185 : decode cL_holds 185 = .ok (.invokevirtual 157, 3) := by decide +kernel
theorem dL_holds_188 : decode cL_holds 188 = .ok (.ifCond .ne 35, 3) := by decide +kernel
theorem dL_holds_191 : decode cL_holds 191 = .ok (.aload_n 0, 1) := by decide +kernel
theorem dL_holds_192 : decode cL_holds 192 = .ok (.iload_n 1, 1) := by decide +kernel
theorem dL_holds_193 : decode cL_holds 193 = .ok (.iload 9, 2) := by decide +kernel
theorem dL_holds_195 : decode cL_holds 195 = .ok (.invokevirtual 160, 3) := by decide +kernel
theorem dL_holds_198 : decode cL_holds 198 = .ok (.ifCond .ne 25, 3) := by decide +kernel
theorem dL_holds_201 : decode cL_holds 201 = .ok (.aload_n 0, 1) := by decide +kernel
theorem dL_holds_202 : decode cL_holds 202 = .ok (.iload_n 1, 1) := by decide +kernel
theorem dL_holds_203 : decode cL_holds 203 = .ok (.iload 9, 2) := by decide +kernel
theorem dL_holds_205 : decode cL_holds 205 = .ok (.invokevirtual 163, 3) := by decide +kernel
theorem dL_holds_208 : decode cL_holds 208 = .ok (.iload 9, 2) := by decide +kernel
theorem dL_holds_210 : decode cL_holds 210 = .ok (.if_icmp .ne 13, 3) := by decide +kernel
theorem dL_holds_213 : decode cL_holds 213 = .ok (.aload_n 0, 1) := by decide +kernel
theorem dL_holds_214 : decode cL_holds 214 = .ok (.iload_n 1, 1) := by decide +kernel
theorem dL_holds_215 : decode cL_holds 215 = .ok (.iload 9, 2) := by decide +kernel
theorem dL_holds_217 : decode cL_holds 217 = .ok (.invokevirtual 166, 3) := by decide +kernel
theorem dL_holds_220 : decode cL_holds 220 = .ok (.ifCond .eq 5, 3) := by decide +kernel
theorem dL_holds_223 : decode cL_holds 223 = .ok (.iconst 0, 1) := by decide +kernel
theorem dL_holds_224 : decode cL_holds 224 = .ok (.ireturn, 1) := by decide +kernel
theorem dL_holds_225 : decode cL_holds 225 = .ok (.iinc 8 1, 3) := by decide +kernel
theorem dL_holds_228 : decode cL_holds 228 = .ok (.goto (-80), 3) := by decide +kernel
theorem dL_holds_231 : decode cL_holds 231 = .ok (.iload_n 2, 1) := by decide +kernel
theorem dL_holds_232 : decode cL_holds 232 = .ok (.iconst 1, 1) := by decide +kernel
theorem dL_holds_233 : decode cL_holds 233 = .ok (.iload_n 3, 1) := by decide +kernel
theorem dL_holds_234 : decode cL_holds 234 = .ok (.ishl, 1) := by decide +kernel
theorem dL_holds_235 : decode cL_holds 235 = .ok (.iconst 1, 1) := by decide +kernel
theorem dL_holds_236 : decode cL_holds 236 = .ok (.isub, 1) := by decide +kernel
theorem dL_holds_237 : decode cL_holds 237 = .ok (.iand, 1) := by decide +kernel
theorem dL_holds_238 : decode cL_holds 238 = .ok (.istore 8, 2) := by decide +kernel
theorem dL_holds_240 : decode cL_holds 240 = .ok (.aload_n 0, 1) := by decide +kernel
theorem dL_holds_241 : decode cL_holds 241 = .ok (.iload_n 1, 1) := by decide +kernel
theorem dL_holds_242 : decode cL_holds 242 = .ok (.iload 8, 2) := by decide +kernel
theorem dL_holds_244 : decode cL_holds 244 = .ok (.invokevirtual 163, 3) := by decide +kernel
theorem dL_holds_247 : decode cL_holds 247 = .ok (.istore 9, 2) := by decide +kernel
theorem dL_holds_249 : decode cL_holds 249 = .ok (.iload 9, 2) := by decide +kernel
theorem dL_holds_251 : decode cL_holds 251 = .ok (.ifCond .ge 7, 3) := by decide +kernel
theorem dL_holds_254 : decode cL_holds 254 = .ok (.iconst 1, 1) := by decide +kernel
theorem dL_holds_255 : decode cL_holds 255 = .ok (.goto 4, 3) := by decide +kernel
theorem dL_holds_258 : decode cL_holds 258 = .ok (.iconst 0, 1) := by decide +kernel
theorem dL_holds_259 : decode cL_holds 259 = .ok (.aload_n 0, 1) := by decide +kernel
theorem dL_holds_260 : decode cL_holds 260 = .ok (.iload_n 1, 1) := by decide +kernel
theorem dL_holds_261 : decode cL_holds 261 = .ok (.iload 8, 2) := by decide +kernel
theorem dL_holds_263 : decode cL_holds 263 = .ok (.invokevirtual 169, 3) := by decide +kernel
theorem dL_holds_266 : decode cL_holds 266 = .ok (.ifCond .le 7, 3) := by decide +kernel
theorem dL_holds_269 : decode cL_holds 269 = .ok (.iconst 1, 1) := by decide +kernel
theorem dL_holds_270 : decode cL_holds 270 = .ok (.goto 4, 3) := by decide +kernel
theorem dL_holds_273 : decode cL_holds 273 = .ok (.iconst 0, 1) := by decide +kernel
theorem dL_holds_274 : decode cL_holds 274 = .ok (.if_icmp .ne 29, 3) := by decide +kernel
theorem dL_holds_277 : decode cL_holds 277 = .ok (.iload 9, 2) := by decide +kernel
theorem dL_holds_279 : decode cL_holds 279 = .ok (.ifCond .lt 26, 3) := by decide +kernel
theorem dL_holds_282 : decode cL_holds 282 = .ok (.aload_n 0, 1) := by decide +kernel
theorem dL_holds_283 : decode cL_holds 283 = .ok (.iload_n 1, 1) := by decide +kernel
theorem dL_holds_284 : decode cL_holds 284 = .ok (.iload 9, 2) := by decide +kernel
theorem dL_holds_286 : decode cL_holds 286 = .ok (.invokevirtual 154, 3) := by decide +kernel
theorem dL_holds_289 : decode cL_holds 289 = .ok (.iconst (-1), 1) := by decide +kernel
theorem dL_holds_290 : decode cL_holds 290 = .ok (.if_icmp .ne 13, 3) := by decide +kernel
theorem dL_holds_293 : decode cL_holds 293 = .ok (.iload 9, 2) := by decide +kernel
theorem dL_holds_295 : decode cL_holds 295 = .ok (.iload 4, 2) := by decide +kernel
theorem dL_holds_297 : decode cL_holds 297 = .ok (.iand, 1) := by decide +kernel
theorem dL_holds_298 : decode cL_holds 298 = .ok (.iload 4, 2) := by decide +kernel
theorem dL_holds_300 : decode cL_holds 300 = .ok (.if_icmp .eq 5, 3) := by decide +kernel
theorem dL_holds_303 : decode cL_holds 303 = .ok (.iconst 0, 1) := by decide +kernel
theorem dL_holds_304 : decode cL_holds 304 = .ok (.ireturn, 1) := by decide +kernel
theorem dL_holds_305 : decode cL_holds 305 = .ok (.aload_n 0, 1) := by decide +kernel
theorem dL_holds_306 : decode cL_holds 306 = .ok (.iload_n 1, 1) := by decide +kernel
theorem dL_holds_307 : decode cL_holds 307 = .ok (.iload 8, 2) := by decide +kernel
theorem dL_holds_309 : decode cL_holds 309 = .ok (.iload 4, 2) := by decide +kernel
theorem dL_holds_311 : decode cL_holds 311 = .ok (.ior, 1) := by decide +kernel
theorem dL_holds_312 : decode cL_holds 312 = .ok (.invokevirtual 157, 3) := by decide +kernel
theorem dL_holds_315 : decode cL_holds 315 = .ok (.istore 10, 2) := by decide +kernel
theorem dL_holds_317 : decode cL_holds 317 = .ok (.aload_n 0, 1) := by decide +kernel
theorem dL_holds_318 : decode cL_holds 318 = .ok (.iload_n 1, 1) := by decide +kernel
theorem dL_holds_319 : decode cL_holds 319 = .ok (.iload 8, 2) := by decide +kernel
theorem dL_holds_321 : decode cL_holds 321 = .ok (.iload 4, 2) := by decide +kernel
theorem dL_holds_323 : decode cL_holds 323 = .ok (.ior, 1) := by decide +kernel
theorem dL_holds_324 : decode cL_holds 324 = .ok (.invokevirtual 160, 3) := by decide +kernel
theorem dL_holds_327 : decode cL_holds 327 = .ok (.istore 11, 2) := by decide +kernel
theorem dL_holds_329 : decode cL_holds 329 = .ok (.iload 10, 2) := by decide +kernel
theorem dL_holds_331 : decode cL_holds 331 = .ok (.ifCond .ne 7, 3) := by decide +kernel
theorem dL_holds_334 : decode cL_holds 334 = .ok (.iconst 1, 1) := by decide +kernel
theorem dL_holds_335 : decode cL_holds 335 = .ok (.goto 4, 3) := by decide +kernel
theorem dL_holds_338 : decode cL_holds 338 = .ok (.iconst 0, 1) := by decide +kernel
theorem dL_holds_339 : decode cL_holds 339 = .ok (.iload 11, 2) := by decide +kernel
theorem dL_holds_341 : decode cL_holds 341 = .ok (.ifCond .ne 7, 3) := by decide +kernel
theorem dL_holds_344 : decode cL_holds 344 = .ok (.iconst 1, 1) := by decide +kernel
theorem dL_holds_345 : decode cL_holds 345 = .ok (.goto 4, 3) := by decide +kernel
theorem dL_holds_348 : decode cL_holds 348 = .ok (.iconst 0, 1) := by decide +kernel
theorem dL_holds_349 : decode cL_holds 349 = .ok (.if_icmp .ne 60, 3) := by decide +kernel
theorem dL_holds_352 : decode cL_holds 352 = .ok (.iload 11, 2) := by decide +kernel
theorem dL_holds_354 : decode cL_holds 354 = .ok (.iload_n 3, 1) := by decide +kernel
theorem dL_holds_355 : decode cL_holds 355 = .ok (.if_icmp .gt 54, 3) := by decide +kernel
theorem dL_holds_358 : decode cL_holds 358 = .ok (.iload 11, 2) := by decide +kernel
theorem dL_holds_360 : decode cL_holds 360 = .ok (.ifCond .ne 7, 3) := by decide +kernel
theorem dL_holds_363 : decode cL_holds 363 = .ok (.iconst 1, 1) := by decide +kernel
theorem dL_holds_364 : decode cL_holds 364 = .ok (.goto 4, 3) := by decide +kernel
theorem dL_holds_367 : decode cL_holds 367 = .ok (.iconst 0, 1) := by decide +kernel
theorem dL_holds_368 : decode cL_holds 368 = .ok (.aload_n 0, 1) := by decide +kernel
theorem dL_holds_369 : decode cL_holds 369 = .ok (.iload_n 1, 1) := by decide +kernel
theorem dL_holds_370 : decode cL_holds 370 = .ok (.iload 8, 2) := by decide +kernel
theorem dL_holds_372 : decode cL_holds 372 = .ok (.iload 4, 2) := by decide +kernel
theorem dL_holds_374 : decode cL_holds 374 = .ok (.ior, 1) := by decide +kernel
theorem dL_holds_375 : decode cL_holds 375 = .ok (.invokevirtual 154, 3) := by decide +kernel
theorem dL_holds_378 : decode cL_holds 378 = .ok (.iconst (-1), 1) := by decide +kernel
theorem dL_holds_379 : decode cL_holds 379 = .ok (.if_icmp .ne 7, 3) := by decide +kernel
theorem dL_holds_382 : decode cL_holds 382 = .ok (.iconst 1, 1) := by decide +kernel
theorem dL_holds_383 : decode cL_holds 383 = .ok (.goto 4, 3) := by decide +kernel
theorem dL_holds_386 : decode cL_holds 386 = .ok (.iconst 0, 1) := by decide +kernel
theorem dL_holds_387 : decode cL_holds 387 = .ok (.if_icmp .ne 22, 3) := by decide +kernel
theorem dL_holds_390 : decode cL_holds 390 = .ok (.aload_n 0, 1) := by decide +kernel
theorem dL_holds_391 : decode cL_holds 391 = .ok (.iload_n 1, 1) := by decide +kernel
theorem dL_holds_392 : decode cL_holds 392 = .ok (.iconst 2, 1) := by decide +kernel
theorem dL_holds_393 : decode cL_holds 393 = .ok (.invokevirtual 172, 3) := by decide +kernel
theorem dL_holds_396 : decode cL_holds 396 = .ok (.aload_n 0, 1) := by decide +kernel
theorem dL_holds_397 : decode cL_holds 397 = .ok (.iload_n 1, 1) := by decide +kernel
theorem dL_holds_398 : decode cL_holds 398 = .ok (.iconst 1, 1) := by decide +kernel
theorem dL_holds_399 : decode cL_holds 399 = .ok (.invokevirtual 172, 3) := by decide +kernel
theorem dL_holds_402 : decode cL_holds 402 = .ok (.if_icmp .gt 7, 3) := by decide +kernel
theorem dL_holds_405 : decode cL_holds 405 = .ok (.iconst 1, 1) := by decide +kernel
theorem dL_holds_406 : decode cL_holds 406 = .ok (.goto 4, 3) := by decide +kernel
theorem dL_holds_409 : decode cL_holds 409 = .ok (.iconst 0, 1) := by decide +kernel
theorem dL_holds_410 : decode cL_holds 410 = .ok (.ireturn, 1) := by decide +kernel
theorem dL_refusals_0 : decode cL_refusals 0 = .ok (.iconst 0, 1) := by decide +kernel
theorem dL_refusals_1 : decode cL_refusals 1 = .ok (.istore_n 1, 1) := by decide +kernel
theorem dL_refusals_2 : decode cL_refusals 2 = .ok (.bipush 12, 2) := by decide +kernel
theorem dL_refusals_4 : decode cL_refusals 4 = .ok (.istore_n 2, 1) := by decide +kernel
theorem dL_refusals_5 : decode cL_refusals 5 = .ok (.iload_n 2, 1) := by decide +kernel
theorem dL_refusals_6 : decode cL_refusals 6 = .ok (.bipush 16, 2) := by decide +kernel
theorem dL_refusals_8 : decode cL_refusals 8 = .ok (.if_icmp .gt 17, 3) := by decide +kernel
theorem dL_refusals_11 : decode cL_refusals 11 = .ok (.iload_n 1, 1) := by decide +kernel
theorem dL_refusals_12 : decode cL_refusals 12 = .ok (.aload_n 0, 1) := by decide +kernel
theorem dL_refusals_13 : decode cL_refusals 13 = .ok (.iload_n 2, 1) := by decide +kernel
theorem dL_refusals_14 : decode cL_refusals 14 = .ok (.invokevirtual 67, 3) := by decide +kernel
theorem dL_refusals_17 : decode cL_refusals 17 = .ok (.iadd, 1) := by decide +kernel
theorem dL_refusals_18 : decode cL_refusals 18 = .ok (.istore_n 1, 1) := by decide +kernel
theorem dL_refusals_19 : decode cL_refusals 19 = .ok (.iinc 2 1, 3) := by decide +kernel
theorem dL_refusals_22 : decode cL_refusals 22 = .ok (.goto (-17), 3) := by decide +kernel
theorem dL_refusals_25 : decode cL_refusals 25 = .ok (.iload_n 1, 1) := by decide +kernel
theorem dL_refusals_26 : decode cL_refusals 26 = .ok (.ireturn, 1) := by decide +kernel
theorem dL_law_0 : decode cL_law 0 = .ok (.new 18, 3) := by decide +kernel
theorem dL_law_3 : decode cL_law 3 = .ok (.dup, 1) := by decide +kernel
theorem dL_law_4 : decode cL_law 4 = .ok (.invokespecial 175, 3) := by decide +kernel
theorem dL_law_7 : decode cL_law 7 = .ok (.astore_n 1, 1) := by decide +kernel
theorem dL_law_8 : decode cL_law 8 = .ok (.aload_n 0, 1) := by decide +kernel
theorem dL_law_9 : decode cL_law 9 = .ok (.arraylength, 1) := by decide +kernel
theorem dL_law_10 : decode cL_law 10 = .ok (.bipush 60, 2) := by decide +kernel
theorem dL_law_12 : decode cL_law 12 = .ok (.if_icmp .ge 8, 3) := by decide +kernel
theorem dL_law_15 : decode cL_law 15 = .ok (.aload_n 0, 1) := by decide +kernel
theorem dL_law_16 : decode cL_law 16 = .ok (.arraylength, 1) := by decide +kernel
theorem dL_law_17 : decode cL_law 17 = .ok (.goto 5, 3) := by decide +kernel
theorem dL_law_20 : decode cL_law 20 = .ok (.bipush 60, 2) := by decide +kernel
theorem dL_law_22 : decode cL_law 22 = .ok (.istore_n 2, 1) := by decide +kernel
theorem dL_law_23 : decode cL_law 23 = .ok (.iconst 0, 1) := by decide +kernel
theorem dL_law_24 : decode cL_law 24 = .ok (.istore_n 3, 1) := by decide +kernel
theorem dL_law_25 : decode cL_law 25 = .ok (.iload_n 3, 1) := by decide +kernel
theorem dL_law_26 : decode cL_law 26 = .ok (.iload_n 2, 1) := by decide +kernel
theorem dL_law_27 : decode cL_law 27 = .ok (.if_icmp .ge 34, 3) := by decide +kernel
theorem dL_law_30 : decode cL_law 30 = .ok (.aload_n 1, 1) := by decide +kernel
theorem dL_law_31 : decode cL_law 31 = .ok (.aload_n 0, 1) := by decide +kernel
theorem dL_law_32 : decode cL_law 32 = .ok (.iload_n 3, 1) := by decide +kernel
theorem dL_law_33 : decode cL_law 33 = .ok (.invokestatic 176, 3) := by decide +kernel
theorem dL_law_36 : decode cL_law 36 = .ok (.aload_n 1, 1) := by decide +kernel
theorem dL_law_37 : decode cL_law 37 = .ok (.iconst 1, 1) := by decide +kernel
theorem dL_law_38 : decode cL_law 38 = .ok (.invokevirtual 67, 3) := by decide +kernel
theorem dL_law_41 : decode cL_law 41 = .ok (.ifCond .ne 12, 3) := by decide +kernel
theorem dL_law_44 : decode cL_law 44 = .ok (.aload_n 1, 1) := by decide +kernel
theorem dL_law_45 : decode cL_law 45 = .ok (.iconst 0, 1) := by decide +kernel
theorem dL_law_46 : decode cL_law 46 = .ok (.invokevirtual 67, 3) := by decide +kernel
theorem dL_law_49 : decode cL_law 49 = .ok (.iconst 4, 1) := by decide +kernel
theorem dL_law_50 : decode cL_law 50 = .ok (.if_icmp .le 5, 3) := by decide +kernel
theorem dL_law_53 : decode cL_law 53 = .ok (.iconst 0, 1) := by decide +kernel
theorem dL_law_54 : decode cL_law 54 = .ok (.ireturn, 1) := by decide +kernel
theorem dL_law_55 : decode cL_law 55 = .ok (.iinc 3 1, 3) := by decide +kernel
theorem dL_law_58 : decode cL_law 58 = .ok (.goto (-33), 3) := by decide +kernel
theorem dL_law_61 : decode cL_law 61 = .ok (.aload_n 1, 1) := by decide +kernel
theorem dL_law_62 : decode cL_law 62 = .ok (.invokestatic 180, 3) := by decide +kernel
theorem dL_law_65 : decode cL_law 65 = .ok (.istore_n 3, 1) := by decide +kernel
theorem dL_law_66 : decode cL_law 66 = .ok (.aload_n 1, 1) := by decide +kernel
theorem dL_law_67 : decode cL_law 67 = .ok (.iconst 4, 1) := by decide +kernel
theorem dL_law_68 : decode cL_law 68 = .ok (.iconst 0, 1) := by decide +kernel
theorem dL_law_69 : decode cL_law 69 = .ok (.invokevirtual 100, 3) := by decide +kernel
theorem dL_law_72 : decode cL_law 72 = .ok (.bipush (-2), 2) := by decide +kernel
theorem dL_law_74 : decode cL_law 74 = .ok (.if_icmp .ne 24, 3) := by decide +kernel
theorem dL_law_77 : decode cL_law 77 = .ok (.aload_n 1, 1) := by decide +kernel
theorem dL_law_78 : decode cL_law 78 = .ok (.iconst (-1), 1) := by decide +kernel
theorem dL_law_79 : decode cL_law 79 = .ok (.iconst 1, 1) := by decide +kernel
theorem dL_law_80 : decode cL_law 80 = .ok (.invokevirtual 172, 3) := by decide +kernel
theorem dL_law_83 : decode cL_law 83 = .ok (.bipush (-2), 2) := by decide +kernel
theorem dL_law_85 : decode cL_law 85 = .ok (.if_icmp .ne 13, 3) := by decide +kernel
theorem dL_law_88 : decode cL_law 88 = .ok (.aload_n 1, 1) := by decide +kernel
theorem dL_law_89 : decode cL_law 89 = .ok (.invokestatic 180, 3) := by decide +kernel
theorem dL_law_92 : decode cL_law 92 = .ok (.iload_n 3, 1) := by decide +kernel
theorem dL_law_93 : decode cL_law 93 = .ok (.iconst 2, 1) := by decide +kernel
theorem dL_law_94 : decode cL_law 94 = .ok (.iadd, 1) := by decide +kernel
theorem dL_law_95 : decode cL_law 95 = .ok (.if_icmp .eq 5, 3) := by decide +kernel
theorem dL_law_98 : decode cL_law 98 = .ok (.iconst 0, 1) := by decide +kernel
theorem dL_law_99 : decode cL_law 99 = .ok (.ireturn, 1) := by decide +kernel
theorem dL_law_100 : decode cL_law 100 = .ok (.iconst 0, 1) := by decide +kernel
theorem dL_law_101 : decode cL_law 101 = .ok (.istore 4, 2) := by decide +kernel
theorem dL_law_103 : decode cL_law 103 = .ok (.iload 4, 2) := by decide +kernel
theorem dL_law_105 : decode cL_law 105 = .ok (.aload_n 1, 1) := by decide +kernel
theorem dL_law_106 : decode cL_law 106 = .ok (.iconst 0, 1) := by decide +kernel
theorem dL_law_107 : decode cL_law 107 = .ok (.invokevirtual 67, 3) := by decide +kernel
theorem dL_law_110 : decode cL_law 110 = .ok (.if_icmp .ge 37, 3) := by decide +kernel
theorem dL_law_113 : decode cL_law 113 = .ok (.iload 4, 2) := by decide +kernel
theorem dL_law_115 : decode cL_law 115 = .ok (.iconst 2, 1) := by decide +kernel
theorem dL_law_116 : decode cL_law 116 = .ok (.if_icmp .ge 31, 3) := by decide +kernel
theorem dL_law_119 : decode cL_law 119 = .ok (.aload_n 1, 1) := by decide +kernel
theorem dL_law_120 : decode cL_law 120 = .ok (.iload 4, 2) := by decide +kernel
theorem dL_law_122 : decode cL_law 122 = .ok (.aload_n 0, 1) := by decide +kernel
theorem dL_law_123 : decode cL_law 123 = .ok (.iload 4, 2) := by decide +kernel
theorem dL_law_125 : decode cL_law 125 = .ok (.invokestatic 24, 3) := by decide +kernel
theorem dL_law_128 : decode cL_law 128 = .ok (.iconst 3, 1) := by decide +kernel
theorem dL_law_129 : decode cL_law 129 = .ok (.ishr, 1) := by decide +kernel
theorem dL_law_130 : decode cL_law 130 = .ok (.bipush 63, 2) := by decide +kernel
theorem dL_law_132 : decode cL_law 132 = .ok (.iand, 1) := by decide +kernel
theorem dL_law_133 : decode cL_law 133 = .ok (.invokestatic 184, 3) := by decide +kernel
theorem dL_law_136 : decode cL_law 136 = .ok (.ifCond .ne 5, 3) := by decide +kernel
theorem dL_law_139 : decode cL_law 139 = .ok (.iconst 0, 1) := by decide +kernel
theorem dL_law_140 : decode cL_law 140 = .ok (.ireturn, 1) := by decide +kernel
theorem dL_law_141 : decode cL_law 141 = .ok (.iinc 4 1, 3) := by decide +kernel
theorem dL_law_144 : decode cL_law 144 = .ok (.goto (-41), 3) := by decide +kernel
theorem dL_law_147 : decode cL_law 147 = .ok (.iconst 1, 1) := by decide +kernel
theorem dL_law_148 : decode cL_law 148 = .ok (.ireturn, 1) := by decide +kernel
