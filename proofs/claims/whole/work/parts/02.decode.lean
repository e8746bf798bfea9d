theorem dX0_init_0 : decode cX0_init 0 = .ok (.aload_n 0, 1) := by decide +kernel
theorem dX0_init_1 : decode cX0_init 1 = .ok (.invokespecial 3, 3) := by decide +kernel
theorem dX0_init_4 : decode cX0_init 4 = .ok (.aload_n 0, 1) := by decide +kernel
theorem dX0_init_5 : decode cX0_init 5 = .ok (.bipush 64, 2) := by decide +kernel
theorem dX0_init_7 : decode cX0_init 7 = .ok (.newarray .long, 2) := by decide +kernel
theorem dX0_init_9 : decode cX0_init 9 = .ok (.putfield 11, 3) := by decide +kernel
theorem dX0_init_12 : decode cX0_init 12 = .ok (.return_, 1) := by decide +kernel
theorem dX0_run_0 : decode cX0_run 0 = .ok (.aload_n 0, 1) := by decide +kernel
theorem dX0_run_1 : decode cX0_run 1 = .ok (.getfield 11, 3) := by decide +kernel
theorem dX0_run_4 : decode cX0_run 4 = .ok (.lconst 0, 1) := by decide +kernel
theorem dX0_run_5 : decode cX0_run 5 = .ok (.invokestatic 15, 3) := by decide +kernel
theorem dX0_run_8 : decode cX0_run 8 = .ok (.aload_n 0, 1) := by decide +kernel
theorem dX0_run_9 : decode cX0_run 9 = .ok (.iload_n 2, 1) := by decide +kernel
theorem dX0_run_10 : decode cX0_run 10 = .ok (.putfield 21, 3) := by decide +kernel
theorem dX0_run_13 : decode cX0_run 13 = .ok (.aload_n 0, 1) := by decide +kernel
theorem dX0_run_14 : decode cX0_run 14 = .ok (.iconst 0, 1) := by decide +kernel
theorem dX0_run_15 : decode cX0_run 15 = .ok (.putfield 25, 3) := by decide +kernel
theorem dX0_run_18 : decode cX0_run 18 = .ok (.aload_n 0, 1) := by decide +kernel
theorem dX0_run_19 : decode cX0_run 19 = .ok (.iconst 0, 1) := by decide +kernel
theorem dX0_run_20 : decode cX0_run 20 = .ok (.putfield 28, 3) := by decide +kernel
theorem dX0_run_23 : decode cX0_run 23 = .ok (.iconst 0, 1) := by decide +kernel
theorem dX0_run_24 : decode cX0_run 24 = .ok (.istore_n 3, 1) := by decide +kernel
theorem dX0_run_25 : decode cX0_run 25 = .ok (.iload_n 3, 1) := by decide +kernel
theorem dX0_run_26 : decode cX0_run 26 = .ok (.sipush 4096, 3) := by decide +kernel
theorem dX0_run_29 : decode cX0_run 29 = .ok (.if_icmp .gt 86, 3) := by decide +kernel
theorem dX0_run_32 : decode cX0_run 32 = .ok (.aload_n 0, 1) := by decide +kernel
theorem dX0_run_33 : decode cX0_run 33 = .ok (.aload_n 0, 1) := by decide +kernel
theorem dX0_run_34 : decode cX0_run 34 = .ok (.getfield 21, 3) := by decide +kernel
theorem dX0_run_37 : decode cX0_run 37 = .ok (.invokevirtual 31, 3) := by decide +kernel
theorem dX0_run_40 : decode cX0_run 40 = .ok (.aload_n 0, 1) := by decide +kernel
theorem dX0_run_41 : decode cX0_run 41 = .ok (.getfield 21, 3) := by decide +kernel
theorem dX0_run_44 : decode cX0_run 44 = .ok (.istore 4, 2) := by decide +kernel
theorem dX0_run_46 : decode cX0_run 46 = .ok (.aload_n 0, 1) := by decide +kernel
theorem dX0_run_47 : decode cX0_run 47 = .ok (.aload_n 1, 1) := by decide +kernel
theorem dX0_run_48 : decode cX0_run 48 = .ok (.iload 4, 2) := by decide +kernel
theorem dX0_run_50 : decode cX0_run 50 = .ok (.invokevirtual 35, 3) := by decide +kernel
theorem dX0_run_53 : decode cX0_run 53 = .ok (.putfield 21, 3) := by decide +kernel
theorem dX0_run_56 : decode cX0_run 56 = .ok (.aload_n 0, 1) := by decide +kernel
theorem dX0_run_57 : decode cX0_run 57 = .ok (.dup, 1) := by decide +kernel
theorem dX0_run_58 : decode cX0_run 58 = .ok (.getfield 25, 3) := by decide +kernel
theorem dX0_run_61 : decode cX0_run 61 = .ok (.iload 4, 2) := by decide +kernel
theorem dX0_run_63 : decode cX0_run 63 = .ok (.aload_n 0, 1) := by decide +kernel
theorem dX0_run_64 : decode cX0_run 64 = .ok (.getfield 21, 3) := by decide +kernel
theorem dX0_run_67 : decode cX0_run 67 = .ok (.ixor, 1) := by decide +kernel
theorem dX0_run_68 : decode cX0_run 68 = .ok (.invokestatic 41, 3) := by decide +kernel
theorem dX0_run_71 : decode cX0_run 71 = .ok (.iadd, 1) := by decide +kernel
theorem dX0_run_72 : decode cX0_run 72 = .ok (.putfield 25, 3) := by decide +kernel
theorem dX0_run_75 : decode cX0_run 75 = .ok (.aload_n 0, 1) := by decide +kernel
theorem dX0_run_76 : decode cX0_run 76 = .ok (.getfield 21, 3) := by decide +kernel
theorem dX0_run_79 : decode cX0_run 79 = .ok (.iload 4, 2) := by decide +kernel
theorem dX0_run_81 : decode cX0_run 81 = .ok (.if_icmp .ne 4, 3) := by decide +kernel
theorem dX0_run_84 : decode cX0_run 84 = .ok (.return_, 1) := by decide +kernel
theorem dX0_run_85 : decode cX0_run 85 = .ok (.aload_n 0, 1) := by decide +kernel
theorem dX0_run_86 : decode cX0_run 86 = .ok (.aload_n 0, 1) := by decide +kernel
theorem dX0_run_87 : decode cX0_run 87 = .ok (.getfield 21, 3) := by decide +kernel
theorem dX0_run_90 : decode cX0_run 90 = .ok (.invokevirtual 46, 3) := by decide +kernel
theorem dX0_run_93 : decode cX0_run 93 = .ok (.ifCond .eq 16, 3) := by decide +kernel
theorem dX0_run_96 : decode cX0_run 96 = .ok (.aload_n 0, 1) := by decide +kernel
theorem dX0_run_97 : decode cX0_run 97 = .ok (.aload_n 1, 1) := by decide +kernel
theorem dX0_run_98 : decode cX0_run 98 = .ok (.aload_n 0, 1) := by decide +kernel
theorem dX0_run_99 : decode cX0_run 99 = .ok (.getfield 21, 3) := by decide +kernel
theorem dX0_run_102 : decode cX0_run 102 = .ok (.invokestatic 50, 3) := by decide +kernel
theorem dX0_run_105 : decode cX0_run 105 = .ok (.putfield 28, 3) := by decide +kernel
theorem dX0_run_108 : decode cX0_run 108 = .ok (.return_, 1) := by decide +kernel
theorem dX0_run_109 : decode cX0_run 109 = .ok (.iinc 3 1, 3) := by decide +kernel
theorem dX0_run_112 : decode cX0_run 112 = .ok (.goto (-87), 3) := by decide +kernel
theorem dX0_run_115 : decode cX0_run 115 = .ok (.return_, 1) := by decide +kernel
theorem dX0_roundsBackTo_0 : decode cX0_roundsBackTo 0 = .ok (.iload_n 1, 1) := by decide +kernel
theorem dX0_roundsBackTo_1 : decode cX0_roundsBackTo 1 = .ok (.istore_n 2, 1) := by decide +kernel
theorem dX0_roundsBackTo_2 : decode cX0_roundsBackTo 2 = .ok (.iconst 1, 1) := by decide +kernel
theorem dX0_roundsBackTo_3 : decode cX0_roundsBackTo 3 = .ok (.istore_n 3, 1) := by decide +kernel
theorem dX0_roundsBackTo_4 : decode cX0_roundsBackTo 4 = .ok (.iload_n 3, 1) := by decide +kernel
theorem dX0_roundsBackTo_5 : decode cX0_roundsBackTo 5 = .ok (.sipush 4096, 3) := by decide +kernel
theorem dX0_roundsBackTo_8 : decode cX0_roundsBackTo 8 = .ok (.if_icmp .gt 22, 3) := by decide +kernel
theorem dX0_roundsBackTo_11 : decode cX0_roundsBackTo 11 = .ok (.aload_n 0, 1) := by decide +kernel
theorem dX0_roundsBackTo_12 : decode cX0_roundsBackTo 12 = .ok (.iload_n 2, 1) := by decide +kernel
theorem dX0_roundsBackTo_13 : decode cX0_roundsBackTo 13 = .ok (.invokevirtual 35, 3) := by decide +kernel
theorem dX0_roundsBackTo_16 : decode cX0_roundsBackTo 16 = .ok (.istore_n 2, 1) := by decide +kernel
theorem dX0_roundsBackTo_17 : decode cX0_roundsBackTo 17 = .ok (.iload_n 2, 1) := by decide +kernel
theorem dX0_roundsBackTo_18 : decode cX0_roundsBackTo 18 = .ok (.iload_n 1, 1) := by decide +kernel
theorem dX0_roundsBackTo_19 : decode cX0_roundsBackTo 19 = .ok (.if_icmp .ne 5, 3) := by decide +kernel
theorem dX0_roundsBackTo_22 : decode cX0_roundsBackTo 22 = .ok (.iload_n 3, 1) := by decide +kernel
theorem dX0_roundsBackTo_23 : decode cX0_roundsBackTo 23 = .ok (.ireturn, 1) := by decide +kernel
theorem dX0_roundsBackTo_24 : decode cX0_roundsBackTo 24 = .ok (.iinc 3 1, 3) := by decide +kernel
theorem dX0_roundsBackTo_27 : decode cX0_roundsBackTo 27 = .ok (.goto (-23), 3) := by decide +kernel
theorem dX0_roundsBackTo_30 : decode cX0_roundsBackTo 30 = .ok (.iconst 0, 1) := by decide +kernel
theorem dX0_roundsBackTo_31 : decode cX0_roundsBackTo 31 = .ok (.ireturn, 1) := by decide +kernel
theorem dX0_see_0 : decode cX0_see 0 = .ok (.iload_n 1, 1) := by decide +kernel
theorem dX0_see_1 : decode cX0_see 1 = .ok (.ifCond .lt 28, 3) := by decide +kernel
theorem dX0_see_4 : decode cX0_see 4 = .ok (.iload_n 1, 1) := by decide +kernel
theorem dX0_see_5 : decode cX0_see 5 = .ok (.sipush 4096, 3) := by decide +kernel
theorem dX0_see_8 : decode cX0_see 8 = .ok (.if_icmp .ge 21, 3) := by decide +kernel
theorem dX0_see_11 : decode cX0_see 11 = .ok (.aload_n 0, 1) := by decide +kernel
theorem dX0_see_12 : decode cX0_see 12 = .ok (.getfield 11, 3) := by decide +kernel
theorem dX0_see_15 : decode cX0_see 15 = .ok (.iload_n 1, 1) := by decide +kernel
theorem dX0_see_16 : decode cX0_see 16 = .ok (.bipush 64, 2) := by decide +kernel
theorem dX0_see_18 : decode cX0_see 18 = .ok (.idiv, 1) := by decide +kernel
theorem dX0_see_19 : decode cX0_see 19 = .ok (.dup2, 1) := by decide +kernel
theorem dX0_see_20 : decode cX0_see 20 = .ok (.laload, 1) := by decide +kernel
theorem dX0_see_21 : decode cX0_see 21 = .ok (.lconst 1, 1) := by decide +kernel
theorem dX0_see_22 : decode cX0_see 22 = .ok (.iload_n 1, 1) := by decide +kernel
theorem dX0_see_23 : decode cX0_see 23 = .ok (.bipush 64, 2) := by decide +kernel
theorem dX0_see_25 : decode cX0_see 25 = .ok (.irem, 1) := by decide +kernel
theorem dX0_see_26 : decode cX0_see 26 = .ok (.lshl, 1) := by decide +kernel
theorem dX0_see_27 : decode cX0_see 27 = .ok (.lor, 1) := by decide +kernel
theorem dX0_see_28 : decode cX0_see 28 = .ok (.lastore, 1) := by decide +kernel
theorem dX0_see_29 : decode cX0_see 29 = .ok (.return_, 1) := by decide +kernel
theorem dX0_isSeen_0 : decode cX0_isSeen 0 = .ok (.iload_n 1, 1) := by decide +kernel
theorem dX0_isSeen_1 : decode cX0_isSeen 1 = .ok (.ifCond .lt 35, 3) := by decide +kernel
theorem dX0_isSeen_4 : decode cX0_isSeen 4 = .ok (.iload_n 1, 1) := by decide +kernel
theorem dX0_isSeen_5 : decode cX0_isSeen 5 = .ok (.sipush 4096, 3) := by decide +kernel
theorem dX0_isSeen_8 : decode cX0_isSeen 8 = .ok (.if_icmp .ge 28, 3) := by decide +kernel
theorem dX0_isSeen_11 : decode cX0_isSeen 11 = .ok (.aload_n 0, 1) := by decide +kernel
theorem dX0_isSeen_12 : decode cX0_isSeen 12 = .ok (.getfield 11, 3) := by decide +kernel
theorem dX0_isSeen_15 : decode cX0_isSeen 15 = .ok (.iload_n 1, 1) := by decide +kernel
theorem dX0_isSeen_16 : decode cX0_isSeen 16 = .ok (.bipush 64, 2) := by decide +kernel
theorem dX0_isSeen_18 : decode cX0_isSeen 18 = .ok (.idiv, 1) := by decide +kernel
theorem dX0_isSeen_19 : decode cX0_isSeen 19 = .ok (.laload, 1) := by decide +kernel
theorem dX0_isSeen_20 : decode cX0_isSeen 20 = .ok (.lconst 1, 1) := by decide +kernel
theorem dX0_isSeen_21 : decode cX0_isSeen 21 = .ok (.iload_n 1, 1) := by decide +kernel
theorem dX0_isSeen_22 : decode cX0_isSeen 22 = .ok (.bipush 64, 2) := by decide +kernel
theorem dX0_isSeen_24 : decode cX0_isSeen 24 = .ok (.irem, 1) := by decide +kernel
theorem dX0_isSeen_25 : decode cX0_isSeen 25 = .ok (.lshl, 1) := by decide +kernel
theorem dX0_isSeen_26 : decode cX0_isSeen 26 = .ok (.land, 1) := by decide +kernel
theorem dX0_isSeen_27 : decode cX0_isSeen 27 = .ok (.lconst 0, 1) := by decide +kernel
theorem dX0_isSeen_28 : decode cX0_isSeen 28 = .ok (.lcmp, 1) := by decide +kernel
theorem dX0_isSeen_29 : decode cX0_isSeen 29 = .ok (.ifCond .eq 7, 3) := by decide +kernel
theorem dX0_isSeen_32 : decode cX0_isSeen 32 = .ok (.iconst 1, 1) := by decide +kernel
theorem dX0_isSeen_33 : decode cX0_isSeen 33 = .ok (.goto 4, 3) := by decide +kernel
theorem dX0_isSeen_36 : decode cX0_isSeen 36 = .ok (.iconst 0, 1) := by decide +kernel
theorem dX0_isSeen_37 : decode cX0_isSeen 37 = .ok (.ireturn, 1) := by decide +kernel
theorem dX1_init_0 : decode cX1_init 0 = .ok (.aload_n 0, 1) := by decide +kernel
theorem dX1_init_1 : decode cX1_init 1 = .ok (.invokespecial 3, 3) := by decide +kernel
theorem dX1_init_4 : decode cX1_init 4 = .ok (.aload_n 0, 1) := by decide +kernel
theorem dX1_init_5 : decode cX1_init 5 = .ok (.sipush 160, 3) := by decide +kernel
theorem dX1_init_8 : decode cX1_init 8 = .ok (.newarray .int, 2) := by decide +kernel
theorem dX1_init_10 : decode cX1_init 10 = .ok (.putfield 9, 3) := by decide +kernel
theorem dX1_init_13 : decode cX1_init 13 = .ok (.return_, 1) := by decide +kernel
theorem dX1_append_0 : decode cX1_append 0 = .ok (.aload_n 0, 1) := by decide +kernel
theorem dX1_append_1 : decode cX1_append 1 = .ok (.getfield 15, 3) := by decide +kernel
theorem dX1_append_4 : decode cX1_append 4 = .ok (.sipush 160, 3) := by decide +kernel
theorem dX1_append_7 : decode cX1_append 7 = .ok (.if_icmp .ge 23, 3) := by decide +kernel
theorem dX1_append_10 : decode cX1_append 10 = .ok (.aload_n 0, 1) := by decide +kernel
theorem dX1_append_11 : decode cX1_append 11 = .ok (.getfield 9, 3) := by decide +kernel
theorem dX1_append_14 : decode cX1_append 14 = .ok (.aload_n 0, 1) := by decide +kernel
theorem dX1_append_15 : decode cX1_append 15 = .ok (.getfield 15, 3) := by decide +kernel
theorem dX1_append_18 : decode cX1_append 18 = .ok (.iload_n 1, 1) := by decide +kernel
theorem dX1_append_19 : decode cX1_append 19 = .ok (.iastore, 1) := by decide +kernel
theorem dX1_append_20 : decode cX1_append 20 = .ok (.aload_n 0, 1) := by decide +kernel
theorem dX1_append_21 : decode cX1_append 21 = .ok (.dup, 1) := by decide +kernel
theorem dX1_append_22 : decode cX1_append 22 = .ok (.getfield 15, 3) := by decide +kernel
theorem dX1_append_25 : decode cX1_append 25 = .ok (.iconst 1, 1) := by decide +kernel
theorem dX1_append_26 : decode cX1_append 26 = .ok (.iadd, 1) := by decide +kernel
theorem dX1_append_27 : decode cX1_append 27 = .ok (.putfield 15, 3) := by decide +kernel
theorem dX1_append_30 : decode cX1_append 30 = .ok (.return_, 1) := by decide +kernel
theorem dX1_empty_0 : decode cX1_empty 0 = .ok (.aload_n 0, 1) := by decide +kernel
theorem dX1_empty_1 : decode cX1_empty 1 = .ok (.iconst 0, 1) := by decide +kernel
theorem dX1_empty_2 : decode cX1_empty 2 = .ok (.putfield 15, 3) := by decide +kernel
theorem dX1_empty_5 : decode cX1_empty 5 = .ok (.return_, 1) := by decide +kernel
theorem dX1_readStreet_0 : decode cX1_readStreet 0 = .ok (.aload_n 0, 1) := by decide +kernel
theorem dX1_readStreet_1 : decode cX1_readStreet 1 = .ok (.iconst 0, 1) := by decide +kernel
theorem dX1_readStreet_2 : decode cX1_readStreet 2 = .ok (.putfield 19, 3) := by decide +kernel
theorem dX1_readStreet_5 : decode cX1_readStreet 5 = .ok (.aload_n 0, 1) := by decide +kernel
theorem dX1_readStreet_6 : decode cX1_readStreet 6 = .ok (.invokevirtual 22, 3) := by decide +kernel
theorem dX1_readStreet_9 : decode cX1_readStreet 9 = .ok (.aload_n 0, 1) := by decide +kernel
theorem dX1_readStreet_10 : decode cX1_readStreet 10 = .ok (.ldc 25, 2) := by decide +kernel
theorem dX1_readStreet_12 : decode cX1_readStreet 12 = .ok (.invokevirtual 27, 3) := by decide +kernel
theorem dX1_readStreet_15 : decode cX1_readStreet 15 = .ok (.ifCond .eq 13, 3) := by decide +kernel
theorem dX1_readStreet_18 : decode cX1_readStreet 18 = .ok (.aload_n 0, 1) := by decide +kernel
theorem dX1_readStreet_19 : decode cX1_readStreet 19 = .ok (.iconst 1, 1) := by decide +kernel
theorem dX1_readStreet_20 : decode cX1_readStreet 20 = .ok (.bipush 12, 2) := by decide +kernel
theorem dX1_readStreet_22 : decode cX1_readStreet 22 = .ok (.invokevirtual 31, 3) := by decide +kernel
theorem dX1_readStreet_25 : decode cX1_readStreet 25 = .ok (.ifCond .ne 5, 3) := by decide +kernel
theorem dX1_readStreet_28 : decode cX1_readStreet 28 = .ok (.iconst 0, 1) := by decide +kernel
theorem dX1_readStreet_29 : decode cX1_readStreet 29 = .ok (.ireturn, 1) := by decide +kernel
theorem dX1_readStreet_30 : decode cX1_readStreet 30 = .ok (.aload_n 1, 1) := by decide +kernel
theorem dX1_readStreet_31 : decode cX1_readStreet 31 = .ok (.aload_n 0, 1) := by decide +kernel
theorem dX1_readStreet_32 : decode cX1_readStreet 32 = .ok (.getfield 35, 3) := by decide +kernel
theorem dX1_readStreet_35 : decode cX1_readStreet 35 = .ok (.invokevirtual 38, 3) := by decide +kernel
theorem dX1_readStreet_38 : decode cX1_readStreet 38 = .ok (.iconst 0, 1) := by decide +kernel
theorem dX1_readStreet_39 : decode cX1_readStreet 39 = .ok (.istore_n 2, 1) := by decide +kernel
theorem dX1_readStreet_40 : decode cX1_readStreet 40 = .ok (.iload_n 2, 1) := by decide +kernel
theorem dX1_readStreet_41 : decode cX1_readStreet 41 = .ok (.sipush 160, 3) := by decide +kernel
theorem dX1_readStreet_44 : decode cX1_readStreet 44 = .ok (.if_icmp .ge 31, 3) := by decide +kernel
theorem dX1_readStreet_47 : decode cX1_readStreet 47 = .ok (.aload_n 0, 1) := by decide +kernel
theorem dX1_readStreet_48 : decode cX1_readStreet 48 = .ok (.getfield 44, 3) := by decide +kernel
theorem dX1_readStreet_51 : decode cX1_readStreet 51 = .ok (.iconst 3, 1) := by decide +kernel
theorem dX1_readStreet_52 : decode cX1_readStreet 52 = .ok (.if_icmp .ne 23, 3) := by decide +kernel
theorem dX1_readStreet_55 : decode cX1_readStreet 55 = .ok (.aload_n 0, 1) := by decide +kernel
theorem dX1_readStreet_56 : decode cX1_readStreet 56 = .ok (.invokevirtual 22, 3) := by decide +kernel
theorem dX1_readStreet_59 : decode cX1_readStreet 59 = .ok (.aload_n 0, 1) := by decide +kernel
theorem dX1_readStreet_60 : decode cX1_readStreet 60 = .ok (.aload_n 1, 1) := by decide +kernel
theorem dX1_readStreet_61 : decode cX1_readStreet 61 = .ok (.invokevirtual 47, 3) := by decide +kernel
theorem dX1_readStreet_64 : decode cX1_readStreet 64 = .ok (.ifCond .ne 5, 3) := by decide +kernel
theorem dX1_readStreet_67 : decode cX1_readStreet 67 = .ok (.iconst 0, 1) := by decide +kernel
theorem dX1_readStreet_68 : decode cX1_readStreet 68 = .ok (.ireturn, 1) := by decide +kernel
theorem dX1_readStreet_69 : decode cX1_readStreet 69 = .ok (.iinc 2 1, 3) := by decide +kernel
theorem dX1_readStreet_72 : decode cX1_readStreet 72 = .ok (.goto (-32), 3) := by decide +kernel
theorem dX1_readStreet_75 : decode cX1_readStreet 75 = .ok (.aload_n 0, 1) := by decide +kernel
theorem dX1_readStreet_76 : decode cX1_readStreet 76 = .ok (.getfield 44, 3) := by decide +kernel
theorem dX1_readStreet_79 : decode cX1_readStreet 79 = .ok (.ifCond .ne 7, 3) := by decide +kernel
theorem dX1_readStreet_82 : decode cX1_readStreet 82 = .ok (.iconst 1, 1) := by decide +kernel
theorem dX1_readStreet_83 : decode cX1_readStreet 83 = .ok (.goto 4, 3) := by decide +kernel
theorem dX1_readStreet_86 : decode cX1_readStreet 86 = .ok (.iconst 0, 1) := by decide +kernel
theorem dX1_readStreet_87 : decode cX1_readStreet 87 = .ok (.ireturn, 1) := by decide +kernel
theorem dX1_readStatement_0 : decode cX1_readStatement 0 = .ok (.aload_n 0, 1) := by decide +kernel
theorem dX1_readStatement_1 : decode cX1_readStatement 1 = .ok (.ldc 51, 2) := by decide +kernel
theorem dX1_readStatement_3 : decode cX1_readStatement 3 = .ok (.invokevirtual 27, 3) := by decide +kernel
theorem dX1_readStatement_6 : decode cX1_readStatement 6 = .ok (.ifCond .eq 12, 3) := by decide +kernel
theorem dX1_readStatement_9 : decode cX1_readStatement 9 = .ok (.aload_n 0, 1) := by decide +kernel
theorem dX1_readStatement_10 : decode cX1_readStatement 10 = .ok (.aload_n 1, 1) := by decide +kernel
theorem dX1_readStatement_11 : decode cX1_readStatement 11 = .ok (.getfield 53, 3) := by decide +kernel
theorem dX1_readStatement_14 : decode cX1_readStatement 14 = .ok (.invokevirtual 55, 3) := by decide +kernel
theorem dX1_readStatement_17 : decode cX1_readStatement 17 = .ok (.ireturn, 1) := by decide +kernel
theorem dX1_readStatement_18 : decode cX1_readStatement 18 = .ok (.aload_n 0, 1) := by decide +kernel
theorem dX1_readStatement_19 : decode cX1_readStatement 19 = .ok (.ldc 59, 2) := by decide +kernel
theorem dX1_readStatement_21 : decode cX1_readStatement 21 = .ok (.invokevirtual 27, 3) := by decide +kernel
theorem dX1_readStatement_24 : decode cX1_readStatement 24 = .ok (.ifCond .eq 12, 3) := by decide +kernel
theorem dX1_readStatement_27 : decode cX1_readStatement 27 = .ok (.aload_n 0, 1) := by decide +kernel
theorem dX1_readStatement_28 : decode cX1_readStatement 28 = .ok (.aload_n 1, 1) := by decide +kernel
theorem dX1_readStatement_29 : decode cX1_readStatement 29 = .ok (.getfield 61, 3) := by decide +kernel
theorem dX1_readStatement_32 : decode cX1_readStatement 32 = .ok (.invokevirtual 55, 3) := by decide +kernel
theorem dX1_readStatement_35 : decode cX1_readStatement 35 = .ok (.ireturn, 1) := by decide +kernel
theorem dX1_readStatement_36 : decode cX1_readStatement 36 = .ok (.aload_n 0, 1) := by decide +kernel
theorem dX1_readStatement_37 : decode cX1_readStatement 37 = .ok (.ldc 63, 2) := by decide +kernel
theorem dX1_readStatement_39 : decode cX1_readStatement 39 = .ok (.invokevirtual 27, 3) := by decide +kernel
theorem dX1_readStatement_42 : decode cX1_readStatement 42 = .ok (.ifCond .eq 9, 3) := by decide +kernel
theorem dX1_readStatement_45 : decode cX1_readStatement 45 = .ok (.aload_n 0, 1) := by decide +kernel
theorem dX1_readStatement_46 : decode cX1_readStatement 46 = .ok (.aload_n 1, 1) := by decide +kernel
theorem dX1_readStatement_47 : decode cX1_readStatement 47 = .ok (.invokevirtual 65, 3) := by decide +kernel
theorem dX1_readStatement_50 : decode cX1_readStatement 50 = .ok (.ireturn, 1) := by decide +kernel
theorem dX1_readStatement_51 : decode cX1_readStatement 51 = .ok (.aload_n 0, 1) := by decide +kernel
theorem dX1_readStatement_52 : decode cX1_readStatement 52 = .ok (.ldc 68, 2) := by decide +kernel
theorem dX1_readStatement_54 : decode cX1_readStatement 54 = .ok (.invokevirtual 27, 3) := by decide +kernel
theorem dX1_readStatement_57 : decode cX1_readStatement 57 = .ok (.ifCond .eq 9, 3) := by decide +kernel
theorem dX1_readStatement_60 : decode cX1_readStatement 60 = .ok (.aload_n 0, 1) := by decide +kernel
theorem dX1_readStatement_61 : decode cX1_readStatement 61 = .ok (.aload_n 1, 1) := by decide +kernel
theorem dX1_readStatement_62 : decode cX1_readStatement 62 = .ok (.invokevirtual 70, 3) := by decide +kernel
theorem dX1_readStatement_65 : decode cX1_readStatement 65 = .ok (.ireturn, 1) := by decide +kernel
theorem dX1_readStatement_66 : decode cX1_readStatement 66 = .ok (.aload_n 0, 1) := by decide +kernel
theorem dX1_readStatement_67 : decode cX1_readStatement 67 = .ok (.ldc 73, 2) := by decide +kernel
theorem dX1_readStatement_69 : decode cX1_readStatement 69 = .ok (.invokevirtual 27, 3) := by decide +kernel
theorem dX1_readStatement_72 : decode cX1_readStatement 72 = .ok (.ifCond .eq 9, 3) := by decide +kernel
theorem dX1_readStatement_75 : decode cX1_readStatement 75 = .ok (.aload_n 0, 1) := by decide +kernel
theorem dX1_readStatement_76 : decode cX1_readStatement 76 = .ok (.aload_n 1, 1) := by decide +kernel
theorem dX1_readStatement_77 : decode cX1_readStatement 77 = .ok (.invokevirtual 75, 3) := by decide +kernel
theorem dX1_readStatement_80 : decode cX1_readStatement 80 = .ok (.ireturn, 1) := by decide +kernel
theorem dX1_readStatement_81 : decode cX1_readStatement 81 = .ok (.aload_n 0, 1) := by decide +kernel
theorem dX1_readStatement_82 : decode cX1_readStatement 82 = .ok (.ldc 78, 2) := by decide +kernel
theorem dX1_readStatement_84 : decode cX1_readStatement 84 = .ok (.invokevirtual 27, 3) := by decide +kernel
theorem dX1_readStatement_87 : decode cX1_readStatement 87 = .ok (.ifCond .eq 9, 3) := by decide +kernel
theorem dX1_readStatement_90 : decode cX1_readStatement 90 = .ok (.aload_n 0, 1) := by decide +kernel
theorem dX1_readStatement_91 : decode cX1_readStatement 91 = .ok (.aload_n 1, 1) := by decide +kernel
theorem dX1_readStatement_92 : decode cX1_readStatement 92 = .ok (.invokevirtual 80, 3) := by decide +kernel
theorem dX1_readStatement_95 : decode cX1_readStatement 95 = .ok (.ireturn, 1) := by decide +kernel
theorem dX1_readStatement_96 : decode cX1_readStatement 96 = .ok (.aload_n 1, 1) := by decide +kernel
theorem dX1_readStatement_97 : decode cX1_readStatement 97 = .ok (.getfield 83, 3) := by decide +kernel
theorem dX1_readStatement_100 : decode cX1_readStatement 100 = .ok (.iconst 3, 1) := by decide +kernel
theorem dX1_readStatement_101 : decode cX1_readStatement 101 = .ok (.if_icmp .lt 18, 3) := by decide +kernel
theorem dX1_readStatement_104 : decode cX1_readStatement 104 = .ok (.aload_n 0, 1) := by decide +kernel
theorem dX1_readStatement_105 : decode cX1_readStatement 105 = .ok (.ldc 86, 2) := by decide +kernel
theorem dX1_readStatement_107 : decode cX1_readStatement 107 = .ok (.invokevirtual 27, 3) := by decide +kernel
theorem dX1_readStatement_110 : decode cX1_readStatement 110 = .ok (.ifCond .eq 9, 3) := by decide +kernel
theorem dX1_readStatement_113 : decode cX1_readStatement 113 = .ok (.aload_n 1, 1) := by decide +kernel
theorem dX1_readStatement_114 : decode cX1_readStatement 114 = .ok (.invokevirtual 88, 3) := by decide +kernel
theorem dX1_readStatement_117 : decode cX1_readStatement 117 = .ok (.iconst 1, 1) := by decide +kernel
theorem dX1_readStatement_118 : decode cX1_readStatement 118 = .ok (.ireturn, 1) := by decide +kernel
theorem dX1_readStatement_119 : decode cX1_readStatement 119 = .ok (.aload_n 0, 1) := by decide +kernel
theorem dX1_readStatement_120 : decode cX1_readStatement 120 = .ok (.ldc 91, 2) := by decide +kernel
theorem dX1_readStatement_122 : decode cX1_readStatement 122 = .ok (.invokevirtual 27, 3) := by decide +kernel
theorem dX1_readStatement_125 : decode cX1_readStatement 125 = .ok (.ifCond .eq 9, 3) := by decide +kernel
theorem dX1_readStatement_128 : decode cX1_readStatement 128 = .ok (.aload_n 1, 1) := by decide +kernel
theorem dX1_readStatement_129 : decode cX1_readStatement 129 = .ok (.invokevirtual 93, 3) := by decide +kernel
theorem dX1_readStatement_132 : decode cX1_readStatement 132 = .ok (.iconst 1, 1) := by decide +kernel
theorem dX1_readStatement_133 : decode cX1_readStatement 133 = .ok (.ireturn, 1) := by decide +kernel
theorem dX1_readStatement_134 : decode cX1_readStatement 134 = .ok (.iconst 0, 1) := by decide +kernel
theorem dX1_readStatement_135 : decode cX1_readStatement 135 = .ok (.ireturn, 1) := by decide +kernel
theorem dX1_readForAll_0 : decode cX1_readForAll 0 = .ok (.aload_n 0, 1) := by decide +kernel
theorem dX1_readForAll_1 : decode cX1_readForAll 1 = .ok (.iconst 0, 1) := by decide +kernel
theorem dX1_readForAll_2 : decode cX1_readForAll 2 = .ok (.bipush 99, 2) := by decide +kernel
theorem dX1_readForAll_4 : decode cX1_readForAll 4 = .ok (.invokevirtual 31, 3) := by decide +kernel
theorem dX1_readForAll_7 : decode cX1_readForAll 7 = .ok (.ifCond .ne 5, 3) := by decide +kernel
theorem dX1_readForAll_10 : decode cX1_readForAll 10 = .ok (.iconst 0, 1) := by decide +kernel
theorem dX1_readForAll_11 : decode cX1_readForAll 11 = .ok (.ireturn, 1) := by decide +kernel
theorem dX1_readForAll_12 : decode cX1_readForAll 12 = .ok (.aload_n 1, 1) := by decide +kernel
theorem dX1_readForAll_13 : decode cX1_readForAll 13 = .ok (.aload_n 0, 1) := by decide +kernel
theorem dX1_readForAll_14 : decode cX1_readForAll 14 = .ok (.getfield 35, 3) := by decide +kernel
theorem dX1_readForAll_17 : decode cX1_readForAll 17 = .ok (.invokestatic 96, 3) := by decide +kernel
theorem dX1_readForAll_20 : decode cX1_readForAll 20 = .ok (.iconst 1, 1) := by decide +kernel
theorem dX1_readForAll_21 : decode cX1_readForAll 21 = .ok (.ireturn, 1) := by decide +kernel
theorem dX1_readMore_0 : decode cX1_readMore 0 = .ok (.aload_n 0, 1) := by decide +kernel
theorem dX1_readMore_1 : decode cX1_readMore 1 = .ok (.iconst 0, 1) := by decide +kernel
theorem dX1_readMore_2 : decode cX1_readMore 2 = .ok (.bipush 9, 2) := by decide +kernel
theorem dX1_readMore_4 : decode cX1_readMore 4 = .ok (.invokevirtual 31, 3) := by decide +kernel
theorem dX1_readMore_7 : decode cX1_readMore 7 = .ok (.ifCond .ne 5, 3) := by decide +kernel
theorem dX1_readMore_10 : decode cX1_readMore 10 = .ok (.iconst 0, 1) := by decide +kernel
theorem dX1_readMore_11 : decode cX1_readMore 11 = .ok (.ireturn, 1) := by decide +kernel
theorem dX1_readMore_12 : decode cX1_readMore 12 = .ok (.aload_n 1, 1) := by decide +kernel
theorem dX1_readMore_13 : decode cX1_readMore 13 = .ok (.aload_n 0, 1) := by decide +kernel
theorem dX1_readMore_14 : decode cX1_readMore 14 = .ok (.getfield 35, 3) := by decide +kernel
theorem dX1_readMore_17 : decode cX1_readMore 17 = .ok (.putfield 102, 3) := by decide +kernel
theorem dX1_readMore_20 : decode cX1_readMore 20 = .ok (.iconst 1, 1) := by decide +kernel
theorem dX1_readMore_21 : decode cX1_readMore 21 = .ok (.ireturn, 1) := by decide +kernel
theorem dX1_readOne_0 : decode cX1_readOne 0 = .ok (.aload_n 0, 1) := by decide +kernel
theorem dX1_readOne_1 : decode cX1_readOne 1 = .ok (.iconst 0, 1) := by decide +kernel
theorem dX1_readOne_2 : decode cX1_readOne 2 = .ok (.aload_n 1, 1) := by decide +kernel
theorem dX1_readOne_3 : decode cX1_readOne 3 = .ok (.getfield 83, 3) := by decide +kernel
theorem dX1_readOne_6 : decode cX1_readOne 6 = .ok (.iconst 1, 1) := by decide +kernel
theorem dX1_readOne_7 : decode cX1_readOne 7 = .ok (.isub, 1) := by decide +kernel
theorem dX1_readOne_8 : decode cX1_readOne 8 = .ok (.invokevirtual 31, 3) := by decide +kernel
theorem dX1_readOne_11 : decode cX1_readOne 11 = .ok (.ifCond .ne 5, 3) := by decide +kernel
theorem dX1_readOne_14 : decode cX1_readOne 14 = .ok (.iconst 0, 1) := by decide +kernel
theorem dX1_readOne_15 : decode cX1_readOne 15 = .ok (.ireturn, 1) := by decide +kernel
theorem dX1_readOne_16 : decode cX1_readOne 16 = .ok (.aload_n 0, 1) := by decide +kernel
theorem dX1_readOne_17 : decode cX1_readOne 17 = .ok (.getfield 35, 3) := by decide +kernel
theorem dX1_readOne_20 : decode cX1_readOne 20 = .ok (.istore_n 2, 1) := by decide +kernel
theorem dX1_readOne_21 : decode cX1_readOne 21 = .ok (.aload_n 0, 1) := by decide +kernel
theorem dX1_readOne_22 : decode cX1_readOne 22 = .ok (.ldc 51, 2) := by decide +kernel
theorem dX1_readOne_24 : decode cX1_readOne 24 = .ok (.invokevirtual 27, 3) := by decide +kernel
theorem dX1_readOne_27 : decode cX1_readOne 27 = .ok (.ifCond .eq 13, 3) := by decide +kernel
theorem dX1_readOne_30 : decode cX1_readOne 30 = .ok (.aload_n 0, 1) := by decide +kernel
theorem dX1_readOne_31 : decode cX1_readOne 31 = .ok (.iconst 0, 1) := by decide +kernel
theorem dX1_readOne_32 : decode cX1_readOne 32 = .ok (.bipush 99, 2) := by decide +kernel
theorem dX1_readOne_34 : decode cX1_readOne 34 = .ok (.invokevirtual 31, 3) := by decide +kernel
theorem dX1_readOne_37 : decode cX1_readOne 37 = .ok (.ifCond .ne 5, 3) := by decide +kernel
theorem dX1_readOne_40 : decode cX1_readOne 40 = .ok (.iconst 0, 1) := by decide +kernel
theorem dX1_readOne_41 : decode cX1_readOne 41 = .ok (.ireturn, 1) := by decide +kernel
theorem dX1_readOne_42 : decode cX1_readOne 42 = .ok (.aload_n 0, 1) := by decide +kernel
theorem dX1_readOne_43 : decode cX1_readOne 43 = .ok (.getfield 35, 3) := by decide +kernel
theorem dX1_readOne_46 : decode cX1_readOne 46 = .ok (.istore_n 3, 1) := by decide +kernel
theorem dX1_readOne_47 : decode cX1_readOne 47 = .ok (.aload_n 0, 1) := by decide +kernel
theorem dX1_readOne_48 : decode cX1_readOne 48 = .ok (.ldc 59, 2) := by decide +kernel
theorem dX1_readOne_50 : decode cX1_readOne 50 = .ok (.invokevirtual 27, 3) := by decide +kernel
theorem dX1_readOne_53 : decode cX1_readOne 53 = .ok (.ifCond .eq 13, 3) := by decide +kernel
theorem dX1_readOne_56 : decode cX1_readOne 56 = .ok (.aload_n 0, 1) := by decide +kernel
theorem dX1_readOne_57 : decode cX1_readOne 57 = .ok (.iconst 0, 1) := by decide +kernel
theorem dX1_readOne_58 : decode cX1_readOne 58 = .ok (.bipush 99, 2) := by decide +kernel
theorem dX1_readOne_60 : decode cX1_readOne 60 = .ok (.invokevirtual 31, 3) := by decide +kernel
theorem dX1_readOne_63 : decode cX1_readOne 63 = .ok (.ifCond .ne 5, 3) := by decide +kernel
theorem dX1_readOne_66 : decode cX1_readOne 66 = .ok (.iconst 0, 1) := by decide +kernel
theorem dX1_readOne_67 : decode cX1_readOne 67 = .ok (.ireturn, 1) := by decide +kernel
theorem dX1_readOne_68 : decode cX1_readOne 68 = .ok (.aload_n 1, 1) := by decide +kernel
theorem dX1_readOne_69 : decode cX1_readOne 69 = .ok (.iload_n 2, 1) := by decide +kernel
theorem dX1_readOne_70 : decode cX1_readOne 70 = .ok (.iload_n 3, 1) := by decide +kernel
theorem dX1_readOne_71 : decode cX1_readOne 71 = .ok (.aload_n 0, 1) := by decide +kernel
theorem dX1_readOne_72 : decode cX1_readOne 72 = .ok (.getfield 35, 3) := by decide +kernel
theorem dX1_readOne_75 : decode cX1_readOne 75 = .ok (.invokevirtual 104, 3) := by decide +kernel
theorem dX1_readOne_78 : decode cX1_readOne 78 = .ok (.iconst 1, 1) := by decide +kernel
theorem dX1_readOne_79 : decode cX1_readOne 79 = .ok (.ireturn, 1) := by decide +kernel
theorem dX1_readTie_0 : decode cX1_readTie 0 = .ok (.aload_n 0, 1) := by decide +kernel
theorem dX1_readTie_1 : decode cX1_readTie 1 = .ok (.iconst 0, 1) := by decide +kernel
theorem dX1_readTie_2 : decode cX1_readTie 2 = .ok (.aload_n 1, 1) := by decide +kernel
theorem dX1_readTie_3 : decode cX1_readTie 3 = .ok (.getfield 83, 3) := by decide +kernel
theorem dX1_readTie_6 : decode cX1_readTie 6 = .ok (.iconst 1, 1) := by decide +kernel
theorem dX1_readTie_7 : decode cX1_readTie 7 = .ok (.isub, 1) := by decide +kernel
theorem dX1_readTie_8 : decode cX1_readTie 8 = .ok (.invokevirtual 31, 3) := by decide +kernel
theorem dX1_readTie_11 : decode cX1_readTie 11 = .ok (.ifCond .ne 5, 3) := by decide +kernel
theorem dX1_readTie_14 : decode cX1_readTie 14 = .ok (.iconst 0, 1) := by decide +kernel
theorem dX1_readTie_15 : decode cX1_readTie 15 = .ok (.ireturn, 1) := by decide +kernel
theorem dX1_readTie_16 : decode cX1_readTie 16 = .ok (.aload_n 0, 1) := by decide +kernel
theorem dX1_readTie_17 : decode cX1_readTie 17 = .ok (.getfield 35, 3) := by decide +kernel
theorem dX1_readTie_20 : decode cX1_readTie 20 = .ok (.istore_n 2, 1) := by decide +kernel
theorem dX1_readTie_21 : decode cX1_readTie 21 = .ok (.aload_n 0, 1) := by decide +kernel
theorem dX1_readTie_22 : decode cX1_readTie 22 = .ok (.getfield 44, 3) := by decide +kernel
theorem dX1_readTie_25 : decode cX1_readTie 25 = .ok (.iconst 2, 1) := by decide +kernel
theorem dX1_readTie_26 : decode cX1_readTie 26 = .ok (.if_icmp .ne 11, 3) := by decide +kernel
theorem dX1_readTie_29 : decode cX1_readTie 29 = .ok (.aload_n 0, 1) := by decide +kernel
theorem dX1_readTie_30 : decode cX1_readTie 30 = .ok (.invokevirtual 108, 3) := by decide +kernel
theorem dX1_readTie_33 : decode cX1_readTie 33 = .ok (.iload_n 2, 1) := by decide +kernel
theorem dX1_readTie_34 : decode cX1_readTie 34 = .ok (.if_icmp .eq 17, 3) := by decide +kernel
theorem dX1_readTie_37 : decode cX1_readTie 37 = .ok (.aload_n 0, 1) := by decide +kernel
theorem dX1_readTie_38 : decode cX1_readTie 38 = .ok (.iconst 0, 1) := by decide +kernel
theorem dX1_readTie_39 : decode cX1_readTie 39 = .ok (.aload_n 1, 1) := by decide +kernel
theorem dX1_readTie_40 : decode cX1_readTie 40 = .ok (.getfield 83, 3) := by decide +kernel
theorem dX1_readTie_43 : decode cX1_readTie 43 = .ok (.iconst 1, 1) := by decide +kernel
theorem dX1_readTie_44 : decode cX1_readTie 44 = .ok (.isub, 1) := by decide +kernel
theorem dX1_readTie_45 : decode cX1_readTie 45 = .ok (.invokevirtual 31, 3) := by decide +kernel
theorem dX1_readTie_48 : decode cX1_readTie 48 = .ok (.ifCond .ne 5, 3) := by decide +kernel
theorem dX1_readTie_51 : decode cX1_readTie 51 = .ok (.iconst 0, 1) := by decide +kernel
theorem dX1_readTie_52 : decode cX1_readTie 52 = .ok (.ireturn, 1) := by decide +kernel
theorem dX1_readTie_53 : decode cX1_readTie 53 = .ok (.aload_n 0, 1) := by decide +kernel
theorem dX1_readTie_54 : decode cX1_readTie 54 = .ok (.getfield 35, 3) := by decide +kernel
theorem dX1_readTie_57 : decode cX1_readTie 57 = .ok (.istore_n 3, 1) := by decide +kernel
theorem dX1_readTie_58 : decode cX1_readTie 58 = .ok (.iconst 0, 1) := by decide +kernel
theorem dX1_readTie_59 : decode cX1_readTie 59 = .ok (.istore 4, 2) := by decide +kernel
theorem dX1_readTie_61 : decode cX1_readTie 61 = .ok (.aload_n 0, 1) := by decide +kernel
theorem dX1_readTie_62 : decode cX1_readTie 62 = .ok (.ldc 112, 2) := by decide +kernel
theorem dX1_readTie_64 : decode cX1_readTie 64 = .ok (.invokevirtual 27, 3) := by decide +kernel
theorem dX1_readTie_67 : decode cX1_readTie 67 = .ok (.ifCond .eq 21, 3) := by decide +kernel
theorem dX1_readTie_70 : decode cX1_readTie 70 = .ok (.aload_n 0, 1) := by decide +kernel
theorem dX1_readTie_71 : decode cX1_readTie 71 = .ok (.iconst 0, 1) := by decide +kernel
theorem dX1_readTie_72 : decode cX1_readTie 72 = .ok (.bipush 9, 2) := by decide +kernel
theorem dX1_readTie_74 : decode cX1_readTie 74 = .ok (.invokevirtual 31, 3) := by decide +kernel
theorem dX1_readTie_77 : decode cX1_readTie 77 = .ok (.ifCond .ne 5, 3) := by decide +kernel
theorem dX1_readTie_80 : decode cX1_readTie 80 = .ok (.iconst 0, 1) := by decide +kernel
theorem dX1_readTie_81 : decode cX1_readTie 81 = .ok (.ireturn, 1) := by decide +kernel
theorem dX1_readTie_82 : decode cX1_readTie 82 = .ok (.aload_n 0, 1) := by decide +kernel
theorem dX1_readTie_83 : decode cX1_readTie 83 = .ok (.getfield 35, 3) := by decide +kernel
theorem dX1_readTie_86 : decode cX1_readTie 86 = .ok (.istore 4, 2) := by decide +kernel
theorem dX1_readTie_88 : decode cX1_readTie 88 = .ok (.aload_n 1, 1) := by decide +kernel
theorem dX1_readTie_89 : decode cX1_readTie 89 = .ok (.iload_n 2, 1) := by decide +kernel
theorem dX1_readTie_90 : decode cX1_readTie 90 = .ok (.iload_n 3, 1) := by decide +kernel
theorem dX1_readTie_91 : decode cX1_readTie 91 = .ok (.iload 4, 2) := by decide +kernel
theorem dX1_readTie_93 : decode cX1_readTie 93 = .ok (.invokevirtual 114, 3) := by decide +kernel
theorem dX1_readTie_96 : decode cX1_readTie 96 = .ok (.iconst 1, 1) := by decide +kernel
theorem dX1_readTie_97 : decode cX1_readTie 97 = .ok (.ireturn, 1) := by decide +kernel
theorem dX1_readMust_0 : decode cX1_readMust 0 = .ok (.aload_n 0, 1) := by decide +kernel
theorem dX1_readMust_1 : decode cX1_readMust 1 = .ok (.iconst 0, 1) := by decide +kernel
theorem dX1_readMust_2 : decode cX1_readMust 2 = .ok (.aload_n 1, 1) := by decide +kernel
theorem dX1_readMust_3 : decode cX1_readMust 3 = .ok (.getfield 83, 3) := by decide +kernel
theorem dX1_readMust_6 : decode cX1_readMust 6 = .ok (.iconst 1, 1) := by decide +kernel
theorem dX1_readMust_7 : decode cX1_readMust 7 = .ok (.isub, 1) := by decide +kernel
theorem dX1_readMust_8 : decode cX1_readMust 8 = .ok (.invokevirtual 31, 3) := by decide +kernel
theorem dX1_readMust_11 : decode cX1_readMust 11 = .ok (.ifCond .ne 5, 3) := by decide +kernel
theorem dX1_readMust_14 : decode cX1_readMust 14 = .ok (.iconst 0, 1) := by decide +kernel
theorem dX1_readMust_15 : decode cX1_readMust 15 = .ok (.ireturn, 1) := by decide +kernel
theorem dX1_readMust_16 : decode cX1_readMust 16 = .ok (.aload_n 1, 1) := by decide +kernel
theorem dX1_readMust_17 : decode cX1_readMust 17 = .ok (.aload_n 0, 1) := by decide +kernel
theorem dX1_readMust_18 : decode cX1_readMust 18 = .ok (.getfield 35, 3) := by decide +kernel
theorem dX1_readMust_21 : decode cX1_readMust 21 = .ok (.iconst 1, 1) := by decide +kernel
theorem dX1_readMust_22 : decode cX1_readMust 22 = .ok (.invokevirtual 117, 3) := by decide +kernel
theorem dX1_readMust_25 : decode cX1_readMust 25 = .ok (.iconst 1, 1) := by decide +kernel
theorem dX1_readMust_26 : decode cX1_readMust 26 = .ok (.ireturn, 1) := by decide +kernel
theorem dX1_passNumber_0 : decode cX1_passNumber 0 = .ok (.aload_n 0, 1) := by decide +kernel
theorem dX1_passNumber_1 : decode cX1_passNumber 1 = .ok (.getfield 44, 3) := by decide +kernel
theorem dX1_passNumber_4 : decode cX1_passNumber 4 = .ok (.iconst 2, 1) := by decide +kernel
theorem dX1_passNumber_5 : decode cX1_passNumber 5 = .ok (.if_icmp .ne 10, 3) := by decide +kernel
theorem dX1_passNumber_8 : decode cX1_passNumber 8 = .ok (.aload_n 0, 1) := by decide +kernel
theorem dX1_passNumber_9 : decode cX1_passNumber 9 = .ok (.invokevirtual 108, 3) := by decide +kernel
theorem dX1_passNumber_12 : decode cX1_passNumber 12 = .ok (.goto 4, 3) := by decide +kernel
theorem dX1_passNumber_15 : decode cX1_passNumber 15 = .ok (.iconst (-1), 1) := by decide +kernel
theorem dX1_passNumber_16 : decode cX1_passNumber 16 = .ok (.istore_n 3, 1) := by decide +kernel
theorem dX1_passNumber_17 : decode cX1_passNumber 17 = .ok (.aload_n 0, 1) := by decide +kernel
theorem dX1_passNumber_18 : decode cX1_passNumber 18 = .ok (.getfield 44, 3) := by decide +kernel
theorem dX1_passNumber_21 : decode cX1_passNumber 21 = .ok (.iconst 2, 1) := by decide +kernel
theorem dX1_passNumber_22 : decode cX1_passNumber 22 = .ok (.if_icmp .ne 13, 3) := by decide +kernel
theorem dX1_passNumber_25 : decode cX1_passNumber 25 = .ok (.iload_n 3, 1) := by decide +kernel
theorem dX1_passNumber_26 : decode cX1_passNumber 26 = .ok (.iload_n 1, 1) := by decide +kernel
theorem dX1_passNumber_27 : decode cX1_passNumber 27 = .ok (.if_icmp .lt 8, 3) := by decide +kernel
theorem dX1_passNumber_30 : decode cX1_passNumber 30 = .ok (.iload_n 3, 1) := by decide +kernel
theorem dX1_passNumber_31 : decode cX1_passNumber 31 = .ok (.iload_n 2, 1) := by decide +kernel
theorem dX1_passNumber_32 : decode cX1_passNumber 32 = .ok (.if_icmp .le 5, 3) := by decide +kernel
theorem dX1_passNumber_35 : decode cX1_passNumber 35 = .ok (.iconst 0, 1) := by decide +kernel
theorem dX1_passNumber_36 : decode cX1_passNumber 36 = .ok (.ireturn, 1) := by decide +kernel
theorem dX1_passNumber_37 : decode cX1_passNumber 37 = .ok (.aload_n 0, 1) := by decide +kernel
theorem dX1_passNumber_38 : decode cX1_passNumber 38 = .ok (.iload_n 3, 1) := by decide +kernel
theorem dX1_passNumber_39 : decode cX1_passNumber 39 = .ok (.putfield 35, 3) := by decide +kernel
theorem dX1_passNumber_42 : decode cX1_passNumber 42 = .ok (.aload_n 0, 1) := by decide +kernel
theorem dX1_passNumber_43 : decode cX1_passNumber 43 = .ok (.invokevirtual 22, 3) := by decide +kernel
theorem dX1_passNumber_46 : decode cX1_passNumber 46 = .ok (.iconst 1, 1) := by decide +kernel
theorem dX1_passNumber_47 : decode cX1_passNumber 47 = .ok (.ireturn, 1) := by decide +kernel
theorem dX1_passWord_0 : decode cX1_passWord 0 = .ok (.aload_n 0, 1) := by decide +kernel
theorem dX1_passWord_1 : decode cX1_passWord 1 = .ok (.aload_n 1, 1) := by decide +kernel
theorem dX1_passWord_2 : decode cX1_passWord 2 = .ok (.invokevirtual 121, 3) := by decide +kernel
theorem dX1_passWord_5 : decode cX1_passWord 5 = .ok (.ifCond .ne 5, 3) := by decide +kernel
theorem dX1_passWord_8 : decode cX1_passWord 8 = .ok (.iconst 0, 1) := by decide +kernel
theorem dX1_passWord_9 : decode cX1_passWord 9 = .ok (.ireturn, 1) := by decide +kernel
theorem dX1_passWord_10 : decode cX1_passWord 10 = .ok (.aload_n 0, 1) := by decide +kernel
theorem dX1_passWord_11 : decode cX1_passWord 11 = .ok (.invokevirtual 22, 3) := by decide +kernel
theorem dX1_passWord_14 : decode cX1_passWord 14 = .ok (.iconst 1, 1) := by decide +kernel
theorem dX1_passWord_15 : decode cX1_passWord 15 = .ok (.ireturn, 1) := by decide +kernel
theorem dX1_isWord_0 : decode cX1_isWord 0 = .ok (.aload_n 0, 1) := by decide +kernel
theorem dX1_isWord_1 : decode cX1_isWord 1 = .ok (.getfield 44, 3) := by decide +kernel
theorem dX1_isWord_4 : decode cX1_isWord 4 = .ok (.iconst 1, 1) := by decide +kernel
theorem dX1_isWord_5 : decode cX1_isWord 5 = .ok (.if_icmp .ne 19, 3) := by decide +kernel
theorem dX1_isWord_8 : decode cX1_isWord 8 = .ok (.aload_n 1, 1) := by decide +kernel
theorem dX1_isWord_9 : decode cX1_isWord 9 = .ok (.invokevirtual 124, 3) := by decide +kernel
theorem dX1_isWord_12 : decode cX1_isWord 12 = .ok (.aload_n 0, 1) := by decide +kernel
theorem dX1_isWord_13 : decode cX1_isWord 13 = .ok (.getfield 19, 3) := by decide +kernel
theorem dX1_isWord_16 : decode cX1_isWord 16 = .ok (.aload_n 0, 1) := by decide +kernel
theorem dX1_isWord_17 : decode cX1_isWord 17 = .ok (.getfield 129, 3) := by decide +kernel
theorem dX1_isWord_20 : decode cX1_isWord 20 = .ok (.isub, 1) := by decide +kernel
theorem dX1_isWord_21 : decode cX1_isWord 21 = .ok (.if_icmp .eq 5, 3) := by decide +kernel
theorem dX1_isWord_24 : decode cX1_isWord 24 = .ok (.iconst 0, 1) := by decide +kernel
theorem dX1_isWord_25 : decode cX1_isWord 25 = .ok (.ireturn, 1) := by decide +kernel
theorem dX1_isWord_26 : decode cX1_isWord 26 = .ok (.iconst 0, 1) := by decide +kernel
theorem dX1_isWord_27 : decode cX1_isWord 27 = .ok (.istore_n 2, 1) := by decide +kernel
theorem dX1_isWord_28 : decode cX1_isWord 28 = .ok (.iload_n 2, 1) := by decide +kernel
theorem dX1_isWord_29 : decode cX1_isWord 29 = .ok (.aload_n 1, 1) := by decide +kernel
theorem dX1_isWord_30 : decode cX1_isWord 30 = .ok (.invokevirtual 124, 3) := by decide +kernel
theorem dX1_isWord_33 : decode cX1_isWord 33 = .ok (.if_icmp .ge 42, 3) := by decide +kernel
theorem dX1_isWord_36 : decode cX1_isWord 36 = .ok (.aload_n 0, 1) := by decide +kernel
theorem dX1_isWord_37 : decode cX1_isWord 37 = .ok (.getfield 129, 3) := by decide +kernel
theorem dX1_isWord_40 : decode cX1_isWord 40 = .ok (.iload_n 2, 1) := by decide +kernel
theorem dX1_isWord_41 : decode cX1_isWord 41 = .ok (.iadd, 1) := by decide +kernel
theorem dX1_isWord_42 : decode cX1_isWord 42 = .ok (.sipush 160, 3) := by decide +kernel
theorem dX1_isWord_45 : decode cX1_isWord 45 = .ok (.if_icmp .ge 30, 3) := by decide +kernel
theorem dX1_isWord_48 : decode cX1_isWord 48 = .ok (.aload_n 0, 1) := by decide +kernel
theorem dX1_isWord_49 : decode cX1_isWord 49 = .ok (.getfield 9, 3) := by decide +kernel
theorem dX1_isWord_52 : decode cX1_isWord 52 = .ok (.aload_n 0, 1) := by decide +kernel
theorem dX1_isWord_53 : decode cX1_isWord 53 = .ok (.getfield 129, 3) := by decide +kernel
theorem dX1_isWord_56 : decode cX1_isWord 56 = .ok (.iload_n 2, 1) := by decide +kernel
theorem dX1_isWord_57 : decode cX1_isWord 57 = .ok (.iadd, 1) := by decide +kernel
theorem dX1_isWord_58 : decode cX1_isWord 58 = .ok (.iaload, 1) := by decide +kernel
theorem dX1_isWord_59 : decode cX1_isWord 59 = .ok (.aload_n 1, 1) := by decide +kernel
theorem dX1_isWord_60 : decode cX1_isWord 60 = .ok (.iload_n 2, 1) := by decide +kernel
theorem dX1_isWord_61 : decode cX1_isWord 61 = .ok (.invokevirtual 132, 3) := by decide +kernel
theorem dX1_isWord_64 : decode cX1_isWord 64 = .ok (.if_icmp .eq 5, 3) := by decide +kernel
theorem dX1_isWord_67 : decode cX1_isWord 67 = .ok (.iconst 0, 1) := by decide +kernel
theorem dX1_isWord_68 : decode cX1_isWord 68 = .ok (.ireturn, 1) := by decide +kernel
theorem dX1_isWord_69 : decode cX1_isWord 69 = .ok (.iinc 2 1, 3) := by decide +kernel
theorem dX1_isWord_72 : decode cX1_isWord 72 = .ok (.goto (-44), 3) := by decide +kernel
theorem dX1_isWord_75 : decode cX1_isWord 75 = .ok (.iconst 1, 1) := by decide +kernel
theorem dX1_isWord_76 : decode cX1_isWord 76 = .ok (.ireturn, 1) := by decide +kernel
theorem dX1_numberAtHand_0 : decode cX1_numberAtHand 0 = .ok (.aload_n 0, 1) := by decide +kernel
theorem dX1_numberAtHand_1 : decode cX1_numberAtHand 1 = .ok (.getfield 19, 3) := by decide +kernel
theorem dX1_numberAtHand_4 : decode cX1_numberAtHand 4 = .ok (.aload_n 0, 1) := by decide +kernel
theorem dX1_numberAtHand_5 : decode cX1_numberAtHand 5 = .ok (.getfield 129, 3) := by decide +kernel
theorem dX1_numberAtHand_8 : decode cX1_numberAtHand 8 = .ok (.isub, 1) := by decide +kernel
theorem dX1_numberAtHand_9 : decode cX1_numberAtHand 9 = .ok (.iconst 3, 1) := by decide +kernel
theorem dX1_numberAtHand_10 : decode cX1_numberAtHand 10 = .ok (.if_icmp .le 7, 3) := by decide +kernel
theorem dX1_numberAtHand_13 : decode cX1_numberAtHand 13 = .ok (.sipush 1000, 3) := by decide +kernel
theorem dX1_numberAtHand_16 : decode cX1_numberAtHand 16 = .ok (.ireturn, 1) := by decide +kernel
theorem dX1_numberAtHand_17 : decode cX1_numberAtHand 17 = .ok (.iconst 0, 1) := by decide +kernel
theorem dX1_numberAtHand_18 : decode cX1_numberAtHand 18 = .ok (.istore_n 1, 1) := by decide +kernel
theorem dX1_numberAtHand_19 : decode cX1_numberAtHand 19 = .ok (.aload_n 0, 1) := by decide +kernel
theorem dX1_numberAtHand_20 : decode cX1_numberAtHand 20 = .ok (.getfield 129, 3) := by decide +kernel
theorem dX1_numberAtHand_23 : decode cX1_numberAtHand 23 = .ok (.istore_n 2, 1) := by decide +kernel
theorem dX1_numberAtHand_24 : decode cX1_numberAtHand 24 = .ok (.iload_n 2, 1) := by decide +kernel
theorem dX1_numberAtHand_25 : decode cX1_numberAtHand 25 = .ok (.aload_n 0, 1) := by decide +kernel
theorem dX1_numberAtHand_26 : decode cX1_numberAtHand 26 = .ok (.getfield 19, 3) := by decide +kernel
theorem dX1_numberAtHand_29 : decode cX1_numberAtHand 29 = .ok (.if_icmp .ge 31, 3) := by decide +kernel
theorem dX1_numberAtHand_32 : decode cX1_numberAtHand 32 = .ok (.iload_n 2, 1) := by decide +kernel
theorem dX1_numberAtHand_33 : decode cX1_numberAtHand 33 = .ok (.sipush 160, 3) := by decide +kernel
theorem dX1_numberAtHand_36 : decode cX1_numberAtHand 36 = .ok (.if_icmp .ge 24, 3) := by decide +kernel
theorem dX1_numberAtHand_39 : decode cX1_numberAtHand 39 = .ok (.bipush 10, 2) := by decide +kernel
theorem dX1_numberAtHand_41 : decode cX1_numberAtHand 41 = .ok (.iload_n 1, 1) := by decide +kernel
theorem dX1_numberAtHand_42 : decode cX1_numberAtHand 42 = .ok (.imul, 1) := by decide +kernel
theorem dX1_numberAtHand_43 : decode cX1_numberAtHand 43 = .ok (.aload_n 0, 1) := by decide +kernel
theorem dX1_numberAtHand_44 : decode cX1_numberAtHand 44 = .ok (.getfield 9, 3) := by decide +kernel
theorem dX1_numberAtHand_47 : decode cX1_numberAtHand 47 = .ok (.iload_n 2, 1) := by decide +kernel
theorem dX1_numberAtHand_48 : decode cX1_numberAtHand 48 = .ok (.iaload, 1) := by decide +kernel
theorem dX1_numberAtHand_49 : decode cX1_numberAtHand 49 = .ok (.iadd, 1) := by decide +kernel
theorem dX1_numberAtHand_50 : decode cX1_numberAtHand 50 = .ok (.bipush 48, 2) := by decide +kernel
theorem dX1_numberAtHand_52 : decode cX1_numberAtHand 52 = .ok (.isub, 1) := by decide +kernel
theorem dX1_numberAtHand_53 : decode cX1_numberAtHand 53 = .ok (.istore_n 1, 1) := by decide +kernel
theorem dX1_numberAtHand_54 : decode cX1_numberAtHand 54 = .ok (.iinc 2 1, 3) := by decide +kernel
theorem dX1_numberAtHand_57 : decode cX1_numberAtHand 57 = .ok (.goto (-33), 3) := by decide +kernel
theorem dX1_numberAtHand_60 : decode cX1_numberAtHand 60 = .ok (.iload_n 1, 1) := by decide +kernel
theorem dX1_numberAtHand_61 : decode cX1_numberAtHand 61 = .ok (.ireturn, 1) := by decide +kernel
theorem dX1_advance_0 : decode cX1_advance 0 = .ok (.aload_n 0, 1) := by decide +kernel
theorem dX1_advance_1 : decode cX1_advance 1 = .ok (.aload_n 0, 1) := by decide +kernel
theorem dX1_advance_2 : decode cX1_advance 2 = .ok (.getfield 19, 3) := by decide +kernel
theorem dX1_advance_5 : decode cX1_advance 5 = .ok (.putfield 129, 3) := by decide +kernel
theorem dX1_advance_8 : decode cX1_advance 8 = .ok (.aload_n 0, 1) := by decide +kernel
theorem dX1_advance_9 : decode cX1_advance 9 = .ok (.getfield 129, 3) := by decide +kernel
theorem dX1_advance_12 : decode cX1_advance 12 = .ok (.aload_n 0, 1) := by decide +kernel
theorem dX1_advance_13 : decode cX1_advance 13 = .ok (.getfield 15, 3) := by decide +kernel
theorem dX1_advance_16 : decode cX1_advance 16 = .ok (.if_icmp .ge 40, 3) := by decide +kernel
theorem dX1_advance_19 : decode cX1_advance 19 = .ok (.aload_n 0, 1) := by decide +kernel
theorem dX1_advance_20 : decode cX1_advance 20 = .ok (.getfield 129, 3) := by decide +kernel
theorem dX1_advance_23 : decode cX1_advance 23 = .ok (.sipush 160, 3) := by decide +kernel
theorem dX1_advance_26 : decode cX1_advance 26 = .ok (.if_icmp .ge 30, 3) := by decide +kernel
theorem dX1_advance_29 : decode cX1_advance 29 = .ok (.aload_n 0, 1) := by decide +kernel
theorem dX1_advance_30 : decode cX1_advance 30 = .ok (.getfield 9, 3) := by decide +kernel
theorem dX1_advance_33 : decode cX1_advance 33 = .ok (.aload_n 0, 1) := by decide +kernel
theorem dX1_advance_34 : decode cX1_advance 34 = .ok (.getfield 129, 3) := by decide +kernel
theorem dX1_advance_37 : decode cX1_advance 37 = .ok (.iaload, 1) := by decide +kernel
theorem dX1_advance_38 : decode cX1_advance 38 = .ok (.bipush 32, 2) := by decide +kernel
theorem dX1_advance_40 : decode cX1_advance 40 = .ok (.if_icmp .ne 16, 3) := by decide +kernel
theorem dX1_advance_43 : decode cX1_advance 43 = .ok (.aload_n 0, 1) := by decide +kernel
theorem dX1_advance_44 : decode cX1_advance 44 = .ok (.dup, 1) := by decide +kernel
theorem dX1_advance_45 : decode cX1_advance 45 = .ok (.getfield 129, 3) := by decide +kernel
theorem dX1_advance_48 : decode cX1_advance 48 = .ok (.iconst 1, 1) := by decide +kernel
theorem dX1_advance_49 : decode cX1_advance 49 = .ok (.iadd, 1) := by decide +kernel
theorem dX1_advance_50 : decode cX1_advance 50 = .ok (.putfield 129, 3) := by decide +kernel
theorem dX1_advance_53 : decode cX1_advance 53 = .ok (.goto (-45), 3) := by decide +kernel
theorem dX1_advance_56 : decode cX1_advance 56 = .ok (.aload_n 0, 1) := by decide +kernel
theorem dX1_advance_57 : decode cX1_advance 57 = .ok (.aload_n 0, 1) := by decide +kernel
theorem dX1_advance_58 : decode cX1_advance 58 = .ok (.getfield 129, 3) := by decide +kernel
theorem dX1_advance_61 : decode cX1_advance 61 = .ok (.putfield 19, 3) := by decide +kernel
theorem dX1_advance_64 : decode cX1_advance 64 = .ok (.aload_n 0, 1) := by decide +kernel
theorem dX1_advance_65 : decode cX1_advance 65 = .ok (.getfield 129, 3) := by decide +kernel
theorem dX1_advance_68 : decode cX1_advance 68 = .ok (.aload_n 0, 1) := by decide +kernel
theorem dX1_advance_69 : decode cX1_advance 69 = .ok (.getfield 15, 3) := by decide +kernel
theorem dX1_advance_72 : decode cX1_advance 72 = .ok (.if_icmp .ge 13, 3) := by decide +kernel
theorem dX1_advance_75 : decode cX1_advance 75 = .ok (.aload_n 0, 1) := by decide +kernel
theorem dX1_advance_76 : decode cX1_advance 76 = .ok (.getfield 129, 3) := by decide +kernel
theorem dX1_advance_79 : decode cX1_advance 79 = .ok (.sipush 160, 3) := by decide +kernel
theorem dX1_advance_82 : decode cX1_advance 82 = .ok (.if_icmp .lt 9, 3) := by decide +kernel
theorem dX1_advance_85 : decode cX1_advance 85 = .ok (.aload_n 0, 1) := by decide +kernel
theorem dX1_advance_86 : decode cX1_advance 86 = .ok (.iconst 0, 1) := by decide +kernel
theorem dX1_advance_87 : decode cX1_advance 87 = .ok (.putfield 44, 3) := by decide +kernel
theorem dX1_advance_90 : decode cX1_advance 90 = .ok (.return_, 1) := by decide +kernel
theorem dX1_advance_91 : decode cX1_advance 91 = .ok (.aload_n 0, 1) := by decide +kernel
theorem dX1_advance_92 : decode cX1_advance 92 = .ok (.aload_n 0, 1) := by decide +kernel
theorem dX1_advance_93 : decode cX1_advance 93 = .ok (.getfield 9, 3) := by decide +kernel
theorem dX1_advance_96 : decode cX1_advance 96 = .ok (.aload_n 0, 1) := by decide +kernel
theorem dX1_advance_97 : decode cX1_advance 97 = .ok (.getfield 129, 3) := by decide +kernel
theorem dX1_advance_100 : decode cX1_advance 100 = .ok (.iaload, 1) := by decide +kernel
theorem dX1_advance_101 : decode cX1_advance 101 = .ok (.invokestatic 136, 3) := by decide +kernel
theorem dX1_advance_104 : decode cX1_advance 104 = .ok (.putfield 44, 3) := by decide +kernel
theorem dX1_advance_107 : decode cX1_advance 107 = .ok (.aload_n 0, 1) := by decide +kernel
theorem dX1_advance_108 : decode cX1_advance 108 = .ok (.dup, 1) := by decide +kernel
theorem dX1_advance_109 : decode cX1_advance 109 = .ok (.getfield 19, 3) := by decide +kernel
theorem dX1_advance_112 : decode cX1_advance 112 = .ok (.iconst 1, 1) := by decide +kernel
theorem dX1_advance_113 : decode cX1_advance 113 = .ok (.iadd, 1) := by decide +kernel
theorem dX1_advance_114 : decode cX1_advance 114 = .ok (.putfield 19, 3) := by decide +kernel
theorem dX1_advance_117 : decode cX1_advance 117 = .ok (.aload_n 0, 1) := by decide +kernel
theorem dX1_advance_118 : decode cX1_advance 118 = .ok (.getfield 44, 3) := by decide +kernel
theorem dX1_advance_121 : decode cX1_advance 121 = .ok (.iconst 3, 1) := by decide +kernel
theorem dX1_advance_122 : decode cX1_advance 122 = .ok (.if_icmp .eq 11, 3) := by decide +kernel
theorem dX1_advance_125 : decode cX1_advance 125 = .ok (.aload_n 0, 1) := by decide +kernel
theorem dX1_advance_126 : decode cX1_advance 126 = .ok (.getfield 44, 3) := by decide +kernel
theorem dX1_advance_129 : decode cX1_advance 129 = .ok (.iconst 4, 1) := by decide +kernel
theorem dX1_advance_130 : decode cX1_advance 130 = .ok (.if_icmp .ne 4, 3) := by decide +kernel
theorem dX1_advance_133 : decode cX1_advance 133 = .ok (.return_, 1) := by decide +kernel
theorem dX1_advance_134 : decode cX1_advance 134 = .ok (.aload_n 0, 1) := by decide +kernel
theorem dX1_advance_135 : decode cX1_advance 135 = .ok (.getfield 19, 3) := by decide +kernel
theorem dX1_advance_138 : decode cX1_advance 138 = .ok (.aload_n 0, 1) := by decide +kernel
theorem dX1_advance_139 : decode cX1_advance 139 = .ok (.getfield 15, 3) := by decide +kernel
theorem dX1_advance_142 : decode cX1_advance 142 = .ok (.if_icmp .ge 45, 3) := by decide +kernel
theorem dX1_advance_145 : decode cX1_advance 145 = .ok (.aload_n 0, 1) := by decide +kernel
theorem dX1_advance_146 : decode cX1_advance 146 = .ok (.getfield 19, 3) := by decide +kernel
theorem dX1_advance_149 : decode cX1_advance 149 = .ok (.sipush 160, 3) := by decide +kernel
theorem dX1_advance_152 : decode cX1_advance 152 = .ok (.if_icmp .ge 35, 3) := by decide +kernel
theorem dX1_advance_155 : decode cX1_advance 155 = .ok (.aload_n 0, 1) := by decide +kernel
theorem dX1_advance_156 : decode cX1_advance 156 = .ok (.getfield 9, 3) := by decide +kernel
theorem dX1_advance_159 : decode cX1_advance 159 = .ok (.aload_n 0, 1) := by decide +kernel
theorem dX1_advance_160 : decode cX1_advance 160 = .ok (.getfield 19, 3) := by decide +kernel
theorem dX1_advance_163 : decode cX1_advance 163 = .ok (.iaload, 1) := by decide +kernel
theorem dX1_advance_164 : decode cX1_advance 164 = .ok (.invokestatic 136, 3) := by decide +kernel
theorem dX1_advance_167 : decode cX1_advance 167 = .ok (.aload_n 0, 1) := by decide +kernel
theorem dX1_advance_168 : decode cX1_advance 168 = .ok (.getfield 44, 3) := by decide +kernel
theorem dX1_advance_171 : decode cX1_advance 171 = .ok (.if_icmp .ne 16, 3) := by decide +kernel
theorem dX1_advance_174 : decode cX1_advance 174 = .ok (.aload_n 0, 1) := by decide +kernel
theorem dX1_advance_175 : decode cX1_advance 175 = .ok (.dup, 1) := by decide +kernel
theorem dX1_advance_176 : decode cX1_advance 176 = .ok (.getfield 19, 3) := by decide +kernel
theorem dX1_advance_179 : decode cX1_advance 179 = .ok (.iconst 1, 1) := by decide +kernel
theorem dX1_advance_180 : decode cX1_advance 180 = .ok (.iadd, 1) := by decide +kernel
theorem dX1_advance_181 : decode cX1_advance 181 = .ok (.putfield 19, 3) := by decide +kernel
theorem dX1_advance_184 : decode cX1_advance 184 = .ok (.goto (-50), 3) := by decide +kernel
theorem dX1_advance_187 : decode cX1_advance 187 = .ok (.return_, 1) := by decide +kernel
theorem dX1_sortOf_0 : decode cX1_sortOf 0 = .ok (.iload_n 0, 1) := by decide +kernel
theorem dX1_sortOf_1 : decode cX1_sortOf 1 = .ok (.bipush 97, 2) := by decide +kernel
theorem dX1_sortOf_3 : decode cX1_sortOf 3 = .ok (.if_icmp .lt 11, 3) := by decide +kernel
theorem dX1_sortOf_6 : decode cX1_sortOf 6 = .ok (.iload_n 0, 1) := by decide +kernel
theorem dX1_sortOf_7 : decode cX1_sortOf 7 = .ok (.bipush 122, 2) := by decide +kernel
theorem dX1_sortOf_9 : decode cX1_sortOf 9 = .ok (.if_icmp .gt 5, 3) := by decide +kernel
theorem dX1_sortOf_12 : decode cX1_sortOf 12 = .ok (.iconst 1, 1) := by decide +kernel
theorem dX1_sortOf_13 : decode cX1_sortOf 13 = .ok (.ireturn, 1) := by decide +kernel
theorem dX1_sortOf_14 : decode cX1_sortOf 14 = .ok (.iload_n 0, 1) := by decide +kernel
theorem dX1_sortOf_15 : decode cX1_sortOf 15 = .ok (.bipush 48, 2) := by decide +kernel
theorem dX1_sortOf_17 : decode cX1_sortOf 17 = .ok (.if_icmp .lt 11, 3) := by decide +kernel
theorem dX1_sortOf_20 : decode cX1_sortOf 20 = .ok (.iload_n 0, 1) := by decide +kernel
theorem dX1_sortOf_21 : decode cX1_sortOf 21 = .ok (.bipush 57, 2) := by decide +kernel
theorem dX1_sortOf_23 : decode cX1_sortOf 23 = .ok (.if_icmp .gt 5, 3) := by decide +kernel
theorem dX1_sortOf_26 : decode cX1_sortOf 26 = .ok (.iconst 2, 1) := by decide +kernel
theorem dX1_sortOf_27 : decode cX1_sortOf 27 = .ok (.ireturn, 1) := by decide +kernel
theorem dX1_sortOf_28 : decode cX1_sortOf 28 = .ok (.iload_n 0, 1) := by decide +kernel
theorem dX1_sortOf_29 : decode cX1_sortOf 29 = .ok (.bipush 59, 2) := by decide +kernel
theorem dX1_sortOf_31 : decode cX1_sortOf 31 = .ok (.if_icmp .ne 7, 3) := by decide +kernel
theorem dX1_sortOf_34 : decode cX1_sortOf 34 = .ok (.iconst 3, 1) := by decide +kernel
theorem dX1_sortOf_35 : decode cX1_sortOf 35 = .ok (.goto 4, 3) := by decide +kernel
theorem dX1_sortOf_38 : decode cX1_sortOf 38 = .ok (.iconst 4, 1) := by decide +kernel
theorem dX1_sortOf_39 : decode cX1_sortOf 39 = .ok (.ireturn, 1) := by decide +kernel
theorem dX2_init_0 : decode cX2_init 0 = .ok (.aload_n 0, 1) := by decide +kernel
theorem dX2_init_1 : decode cX2_init 1 = .ok (.invokespecial 3, 3) := by decide +kernel
theorem dX2_init_4 : decode cX2_init 4 = .ok (.aload_n 0, 1) := by decide +kernel
theorem dX2_init_5 : decode cX2_init 5 = .ok (.new 9, 3) := by decide +kernel
theorem dX2_init_8 : decode cX2_init 8 = .ok (.dup, 1) := by decide +kernel
theorem dX2_init_9 : decode cX2_init 9 = .ok (.invokespecial 11, 3) := by decide +kernel
theorem dX2_init_12 : decode cX2_init 12 = .ok (.putfield 12, 3) := by decide +kernel
theorem dX2_init_15 : decode cX2_init 15 = .ok (.return_, 1) := by decide +kernel
theorem dX2_start_0 : decode cX2_start 0 = .ok (.aload_n 0, 1) := by decide +kernel
theorem dX2_start_1 : decode cX2_start 1 = .ok (.getfield 12, 3) := by decide +kernel
theorem dX2_start_4 : decode cX2_start 4 = .ok (.aload_n 1, 1) := by decide +kernel
theorem dX2_start_5 : decode cX2_start 5 = .ok (.invokevirtual 18, 3) := by decide +kernel
theorem dX2_start_8 : decode cX2_start 8 = .ok (.aload_n 0, 1) := by decide +kernel
theorem dX2_start_9 : decode cX2_start 9 = .ok (.iconst 1, 1) := by decide +kernel
theorem dX2_start_10 : decode cX2_start 10 = .ok (.putfield 22, 3) := by decide +kernel
theorem dX2_start_13 : decode cX2_start 13 = .ok (.aload_n 0, 1) := by decide +kernel
theorem dX2_start_14 : decode cX2_start 14 = .ok (.iload_n 2, 1) := by decide +kernel
theorem dX2_start_15 : decode cX2_start 15 = .ok (.putfield 26, 3) := by decide +kernel
theorem dX2_start_18 : decode cX2_start 18 = .ok (.aload_n 0, 1) := by decide +kernel
theorem dX2_start_19 : decode cX2_start 19 = .ok (.iconst 0, 1) := by decide +kernel
theorem dX2_start_20 : decode cX2_start 20 = .ok (.putfield 30, 3) := by decide +kernel
theorem dX2_start_23 : decode cX2_start 23 = .ok (.aload_n 0, 1) := by decide +kernel
theorem dX2_start_24 : decode cX2_start 24 = .ok (.iconst 0, 1) := by decide +kernel
theorem dX2_start_25 : decode cX2_start 25 = .ok (.putfield 33, 3) := by decide +kernel
theorem dX2_start_28 : decode cX2_start 28 = .ok (.aload_n 0, 1) := by decide +kernel
theorem dX2_start_29 : decode cX2_start 29 = .ok (.iconst (-1), 1) := by decide +kernel
theorem dX2_start_30 : decode cX2_start 30 = .ok (.putfield 36, 3) := by decide +kernel
theorem dX2_start_33 : decode cX2_start 33 = .ok (.return_, 1) := by decide +kernel
theorem dX2_become_0 : decode cX2_become 0 = .ok (.aload_n 0, 1) := by decide +kernel
theorem dX2_become_1 : decode cX2_become 1 = .ok (.getfield 12, 3) := by decide +kernel
theorem dX2_become_4 : decode cX2_become 4 = .ok (.aload_n 1, 1) := by decide +kernel
theorem dX2_become_5 : decode cX2_become 5 = .ok (.getfield 12, 3) := by decide +kernel
theorem dX2_become_8 : decode cX2_become 8 = .ok (.invokevirtual 18, 3) := by decide +kernel
theorem dX2_become_11 : decode cX2_become 11 = .ok (.aload_n 0, 1) := by decide +kernel
theorem dX2_become_12 : decode cX2_become 12 = .ok (.aload_n 1, 1) := by decide +kernel
theorem dX2_become_13 : decode cX2_become 13 = .ok (.getfield 22, 3) := by decide +kernel
theorem dX2_become_16 : decode cX2_become 16 = .ok (.putfield 22, 3) := by decide +kernel
theorem dX2_become_19 : decode cX2_become 19 = .ok (.aload_n 0, 1) := by decide +kernel
theorem dX2_become_20 : decode cX2_become 20 = .ok (.aload_n 1, 1) := by decide +kernel
theorem dX2_become_21 : decode cX2_become 21 = .ok (.getfield 26, 3) := by decide +kernel
theorem dX2_become_24 : decode cX2_become 24 = .ok (.putfield 26, 3) := by decide +kernel
theorem dX2_become_27 : decode cX2_become 27 = .ok (.aload_n 0, 1) := by decide +kernel
theorem dX2_become_28 : decode cX2_become 28 = .ok (.aload_n 1, 1) := by decide +kernel
theorem dX2_become_29 : decode cX2_become 29 = .ok (.getfield 30, 3) := by decide +kernel
theorem dX2_become_32 : decode cX2_become 32 = .ok (.putfield 30, 3) := by decide +kernel
theorem dX2_become_35 : decode cX2_become 35 = .ok (.aload_n 0, 1) := by decide +kernel
theorem dX2_become_36 : decode cX2_become 36 = .ok (.aload_n 1, 1) := by decide +kernel
theorem dX2_become_37 : decode cX2_become 37 = .ok (.getfield 33, 3) := by decide +kernel
theorem dX2_become_40 : decode cX2_become 40 = .ok (.putfield 33, 3) := by decide +kernel
theorem dX2_become_43 : decode cX2_become 43 = .ok (.aload_n 0, 1) := by decide +kernel
theorem dX2_become_44 : decode cX2_become 44 = .ok (.aload_n 1, 1) := by decide +kernel
theorem dX2_become_45 : decode cX2_become 45 = .ok (.getfield 36, 3) := by decide +kernel
theorem dX2_become_48 : decode cX2_become 48 = .ok (.putfield 36, 3) := by decide +kernel
theorem dX2_become_51 : decode cX2_become 51 = .ok (.return_, 1) := by decide +kernel
theorem dX2_isDone_0 : decode cX2_isDone 0 = .ok (.aload_n 0, 1) := by decide +kernel
theorem dX2_isDone_1 : decode cX2_isDone 1 = .ok (.getfield 30, 3) := by decide +kernel
theorem dX2_isDone_4 : decode cX2_isDone 4 = .ok (.aload_n 0, 1) := by decide +kernel
theorem dX2_isDone_5 : decode cX2_isDone 5 = .ok (.getfield 12, 3) := by decide +kernel
theorem dX2_isDone_8 : decode cX2_isDone 8 = .ok (.invokevirtual 39, 3) := by decide +kernel
theorem dX2_isDone_11 : decode cX2_isDone 11 = .ok (.if_icmp .lt 7, 3) := by decide +kernel
theorem dX2_isDone_14 : decode cX2_isDone 14 = .ok (.iconst 1, 1) := by decide +kernel
theorem dX2_isDone_15 : decode cX2_isDone 15 = .ok (.goto 4, 3) := by decide +kernel
theorem dX2_isDone_18 : decode cX2_isDone 18 = .ok (.iconst 0, 1) := by decide +kernel
theorem dX2_isDone_19 : decode cX2_isDone 19 = .ok (.ireturn, 1) := by decide +kernel
theorem dX2_advance_0 : decode cX2_advance 0 = .ok (.aload_n 0, 1) := by decide +kernel
theorem dX2_advance_1 : decode cX2_advance 1 = .ok (.getfield 33, 3) := by decide +kernel
theorem dX2_advance_4 : decode cX2_advance 4 = .ok (.istore_n 2, 1) := by decide +kernel
theorem dX2_advance_5 : decode cX2_advance 5 = .ok (.iconst 0, 1) := by decide +kernel
theorem dX2_advance_6 : decode cX2_advance 6 = .ok (.istore_n 3, 1) := by decide +kernel
theorem dX2_advance_7 : decode cX2_advance 7 = .ok (.iload_n 3, 1) := by decide +kernel
theorem dX2_advance_8 : decode cX2_advance 8 = .ok (.iload_n 1, 1) := by decide +kernel
theorem dX2_advance_9 : decode cX2_advance 9 = .ok (.if_icmp .ge 58, 3) := by decide +kernel
theorem dX2_advance_12 : decode cX2_advance 12 = .ok (.aload_n 0, 1) := by decide +kernel
theorem dX2_advance_13 : decode cX2_advance 13 = .ok (.invokevirtual 43, 3) := by decide +kernel
theorem dX2_advance_16 : decode cX2_advance 16 = .ok (.ifCond .ne 51, 3) := by decide +kernel
theorem dX2_advance_19 : decode cX2_advance 19 = .ok (.aload_n 0, 1) := by decide +kernel
theorem dX2_advance_20 : decode cX2_advance 20 = .ok (.getfield 12, 3) := by decide +kernel
theorem dX2_advance_23 : decode cX2_advance 23 = .ok (.aload_n 0, 1) := by decide +kernel
theorem dX2_advance_24 : decode cX2_advance 24 = .ok (.getfield 30, 3) := by decide +kernel
theorem dX2_advance_27 : decode cX2_advance 27 = .ok (.invokevirtual 47, 3) := by decide +kernel
theorem dX2_advance_30 : decode cX2_advance 30 = .ok (.ifCond .eq 21, 3) := by decide +kernel
theorem dX2_advance_33 : decode cX2_advance 33 = .ok (.aload_n 0, 1) := by decide +kernel
theorem dX2_advance_34 : decode cX2_advance 34 = .ok (.dup, 1) := by decide +kernel
theorem dX2_advance_35 : decode cX2_advance 35 = .ok (.getfield 33, 3) := by decide +kernel
theorem dX2_advance_38 : decode cX2_advance 38 = .ok (.iconst 1, 1) := by decide +kernel
theorem dX2_advance_39 : decode cX2_advance 39 = .ok (.iadd, 1) := by decide +kernel
theorem dX2_advance_40 : decode cX2_advance 40 = .ok (.putfield 33, 3) := by decide +kernel
theorem dX2_advance_43 : decode cX2_advance 43 = .ok (.aload_n 0, 1) := by decide +kernel
theorem dX2_advance_44 : decode cX2_advance 44 = .ok (.aload_n 0, 1) := by decide +kernel
theorem dX2_advance_45 : decode cX2_advance 45 = .ok (.getfield 30, 3) := by decide +kernel
theorem dX2_advance_48 : decode cX2_advance 48 = .ok (.putfield 36, 3) := by decide +kernel
theorem dX2_advance_51 : decode cX2_advance 51 = .ok (.aload_n 0, 1) := by decide +kernel
theorem dX2_advance_52 : decode cX2_advance 52 = .ok (.dup, 1) := by decide +kernel
theorem dX2_advance_53 : decode cX2_advance 53 = .ok (.getfield 30, 3) := by decide +kernel
theorem dX2_advance_56 : decode cX2_advance 56 = .ok (.iconst 1, 1) := by decide +kernel
theorem dX2_advance_57 : decode cX2_advance 57 = .ok (.iadd, 1) := by decide +kernel
theorem dX2_advance_58 : decode cX2_advance 58 = .ok (.putfield 30, 3) := by decide +kernel
theorem dX2_advance_61 : decode cX2_advance 61 = .ok (.iinc 3 1, 3) := by decide +kernel
theorem dX2_advance_64 : decode cX2_advance 64 = .ok (.goto (-57), 3) := by decide +kernel
theorem dX2_advance_67 : decode cX2_advance 67 = .ok (.aload_n 0, 1) := by decide +kernel
theorem dX2_advance_68 : decode cX2_advance 68 = .ok (.getfield 33, 3) := by decide +kernel
theorem dX2_advance_71 : decode cX2_advance 71 = .ok (.iload_n 2, 1) := by decide +kernel
theorem dX2_advance_72 : decode cX2_advance 72 = .ok (.isub, 1) := by decide +kernel
theorem dX2_advance_73 : decode cX2_advance 73 = .ok (.ireturn, 1) := by decide +kernel
theorem dX3_init_0 : decode cX3_init 0 = .ok (.aload_n 0, 1) := by decide +kernel
theorem dX3_init_1 : decode cX3_init 1 = .ok (.invokespecial 3, 3) := by decide +kernel
theorem dX3_init_4 : decode cX3_init 4 = .ok (.aload_n 0, 1) := by decide +kernel
theorem dX3_init_5 : decode cX3_init 5 = .ok (.bipush 40, 2) := by decide +kernel
theorem dX3_init_7 : decode cX3_init 7 = .ok (.newarray .long, 2) := by decide +kernel
theorem dX3_init_9 : decode cX3_init 9 = .ok (.putfield 9, 3) := by decide +kernel
theorem dX3_init_12 : decode cX3_init 12 = .ok (.aload_n 0, 1) := by decide +kernel
theorem dX3_init_13 : decode cX3_init 13 = .ok (.iconst (-1), 1) := by decide +kernel
theorem dX3_init_14 : decode cX3_init 14 = .ok (.putfield 15, 3) := by decide +kernel
theorem dX3_init_17 : decode cX3_init 17 = .ok (.return_, 1) := by decide +kernel
theorem dX3_isRow_0 : decode cX3_isRow 0 = .ok (.aload_n 0, 1) := by decide +kernel
theorem dX3_isRow_1 : decode cX3_isRow 1 = .ok (.getfield 15, 3) := by decide +kernel
theorem dX3_isRow_4 : decode cX3_isRow 4 = .ok (.ifCond .lt 15, 3) := by decide +kernel
theorem dX3_isRow_7 : decode cX3_isRow 7 = .ok (.aload_n 0, 1) := by decide +kernel
theorem dX3_isRow_8 : decode cX3_isRow 8 = .ok (.getfield 15, 3) := by decide +kernel
theorem dX3_isRow_11 : decode cX3_isRow 11 = .ok (.iconst 4, 1) := by decide +kernel
theorem dX3_isRow_12 : decode cX3_isRow 12 = .ok (.if_icmp .gt 7, 3) := by decide +kernel
theorem dX3_isRow_15 : decode cX3_isRow 15 = .ok (.iconst 1, 1) := by decide +kernel
theorem dX3_isRow_16 : decode cX3_isRow 16 = .ok (.goto 4, 3) := by decide +kernel
theorem dX3_isRow_19 : decode cX3_isRow 19 = .ok (.iconst 0, 1) := by decide +kernel
theorem dX3_isRow_20 : decode cX3_isRow 20 = .ok (.ireturn, 1) := by decide +kernel
theorem dX3_isWay_0 : decode cX3_isWay 0 = .ok (.aload_n 0, 1) := by decide +kernel
theorem dX3_isWay_1 : decode cX3_isWay 1 = .ok (.getfield 15, 3) := by decide +kernel
theorem dX3_isWay_4 : decode cX3_isWay 4 = .ok (.bipush 10, 2) := by decide +kernel
theorem dX3_isWay_6 : decode cX3_isWay 6 = .ok (.if_icmp .lt 7, 3) := by decide +kernel
theorem dX3_isWay_9 : decode cX3_isWay 9 = .ok (.iconst 1, 1) := by decide +kernel
theorem dX3_isWay_10 : decode cX3_isWay 10 = .ok (.goto 4, 3) := by decide +kernel
theorem dX3_isWay_13 : decode cX3_isWay 13 = .ok (.iconst 0, 1) := by decide +kernel
theorem dX3_isWay_14 : decode cX3_isWay 14 = .ok (.ireturn, 1) := by decide +kernel
theorem dX3_wayKind_0 : decode cX3_wayKind 0 = .ok (.aload_n 0, 1) := by decide +kernel
theorem dX3_wayKind_1 : decode cX3_wayKind 1 = .ok (.getfield 15, 3) := by decide +kernel
theorem dX3_wayKind_4 : decode cX3_wayKind 4 = .ok (.bipush 10, 2) := by decide +kernel
theorem dX3_wayKind_6 : decode cX3_wayKind 6 = .ok (.isub, 1) := by decide +kernel
theorem dX3_wayKind_7 : decode cX3_wayKind 7 = .ok (.ireturn, 1) := by decide +kernel
theorem dX3_putRow_0 : decode cX3_putRow 0 = .ok (.aload_n 0, 1) := by decide +kernel
theorem dX3_putRow_1 : decode cX3_putRow 1 = .ok (.iload_n 1, 1) := by decide +kernel
theorem dX3_putRow_2 : decode cX3_putRow 2 = .ok (.putfield 15, 3) := by decide +kernel
theorem dX3_putRow_5 : decode cX3_putRow 5 = .ok (.aload_n 0, 1) := by decide +kernel
theorem dX3_putRow_6 : decode cX3_putRow 6 = .ok (.iload_n 2, 1) := by decide +kernel
theorem dX3_putRow_7 : decode cX3_putRow 7 = .ok (.putfield 19, 3) := by decide +kernel
theorem dX3_putRow_10 : decode cX3_putRow 10 = .ok (.aload_n 0, 1) := by decide +kernel
theorem dX3_putRow_11 : decode cX3_putRow 11 = .ok (.getfield 9, 3) := by decide +kernel
theorem dX3_putRow_14 : decode cX3_putRow 14 = .ok (.lconst 0, 1) := by decide +kernel
theorem dX3_putRow_15 : decode cX3_putRow 15 = .ok (.invokestatic 22, 3) := by decide +kernel
theorem dX3_putRow_18 : decode cX3_putRow 18 = .ok (.return_, 1) := by decide +kernel
theorem dX3_putWay_0 : decode cX3_putWay 0 = .ok (.aload_n 0, 1) := by decide +kernel
theorem dX3_putWay_1 : decode cX3_putWay 1 = .ok (.bipush 10, 2) := by decide +kernel
theorem dX3_putWay_3 : decode cX3_putWay 3 = .ok (.iload_n 1, 1) := by decide +kernel
theorem dX3_putWay_4 : decode cX3_putWay 4 = .ok (.iadd, 1) := by decide +kernel
theorem dX3_putWay_5 : decode cX3_putWay 5 = .ok (.putfield 15, 3) := by decide +kernel
theorem dX3_putWay_8 : decode cX3_putWay 8 = .ok (.aload_n 0, 1) := by decide +kernel
theorem dX3_putWay_9 : decode cX3_putWay 9 = .ok (.iconst 0, 1) := by decide +kernel
theorem dX3_putWay_10 : decode cX3_putWay 10 = .ok (.putfield 19, 3) := by decide +kernel
theorem dX3_putWay_13 : decode cX3_putWay 13 = .ok (.aload_n 0, 1) := by decide +kernel
theorem dX3_putWay_14 : decode cX3_putWay 14 = .ok (.iload_n 2, 1) := by decide +kernel
theorem dX3_putWay_15 : decode cX3_putWay 15 = .ok (.putfield 28, 3) := by decide +kernel
theorem dX3_putWay_18 : decode cX3_putWay 18 = .ok (.return_, 1) := by decide +kernel
theorem dX3_hasPlaces_0 : decode cX3_hasPlaces 0 = .ok (.iload_n 1, 1) := by decide +kernel
theorem dX3_hasPlaces_1 : decode cX3_hasPlaces 1 = .ok (.ifCond .lt 29, 3) := by decide +kernel
theorem dX3_hasPlaces_4 : decode cX3_hasPlaces 4 = .ok (.iload_n 2, 1) := by decide +kernel
theorem dX3_hasPlaces_5 : decode cX3_hasPlaces 5 = .ok (.ifCond .lt 25, 3) := by decide +kernel
theorem dX3_hasPlaces_8 : decode cX3_hasPlaces 8 = .ok (.iload_n 1, 1) := by decide +kernel
theorem dX3_hasPlaces_9 : decode cX3_hasPlaces 9 = .ok (.aload_n 0, 1) := by decide +kernel
theorem dX3_hasPlaces_10 : decode cX3_hasPlaces 10 = .ok (.getfield 19, 3) := by decide +kernel
theorem dX3_hasPlaces_13 : decode cX3_hasPlaces 13 = .ok (.if_icmp .gt 17, 3) := by decide +kernel
theorem dX3_hasPlaces_16 : decode cX3_hasPlaces 16 = .ok (.iload_n 2, 1) := by decide +kernel
theorem dX3_hasPlaces_17 : decode cX3_hasPlaces 17 = .ok (.aload_n 0, 1) := by decide +kernel
theorem dX3_hasPlaces_18 : decode cX3_hasPlaces 18 = .ok (.getfield 19, 3) := by decide +kernel
theorem dX3_hasPlaces_21 : decode cX3_hasPlaces 21 = .ok (.iload_n 1, 1) := by decide +kernel
theorem dX3_hasPlaces_22 : decode cX3_hasPlaces 22 = .ok (.isub, 1) := by decide +kernel
theorem dX3_hasPlaces_23 : decode cX3_hasPlaces 23 = .ok (.if_icmp .gt 7, 3) := by decide +kernel
theorem dX3_hasPlaces_26 : decode cX3_hasPlaces 26 = .ok (.iconst 1, 1) := by decide +kernel
theorem dX3_hasPlaces_27 : decode cX3_hasPlaces 27 = .ok (.goto 4, 3) := by decide +kernel
theorem dX3_hasPlaces_30 : decode cX3_hasPlaces 30 = .ok (.iconst 0, 1) := by decide +kernel
theorem dX3_hasPlaces_31 : decode cX3_hasPlaces 31 = .ok (.ireturn, 1) := by decide +kernel
theorem dX3_put_0 : decode cX3_put 0 = .ok (.iload_n 1, 1) := by decide +kernel
theorem dX3_put_1 : decode cX3_put 1 = .ok (.ifCond .lt 9, 3) := by decide +kernel
theorem dX3_put_4 : decode cX3_put 4 = .ok (.iload_n 1, 1) := by decide +kernel
theorem dX3_put_5 : decode cX3_put 5 = .ok (.bipush 40, 2) := by decide +kernel
theorem dX3_put_7 : decode cX3_put 7 = .ok (.if_icmp .lt 4, 3) := by decide +kernel
theorem dX3_put_10 : decode cX3_put 10 = .ok (.return_, 1) := by decide +kernel
theorem dX3_put_11 : decode cX3_put 11 = .ok (.aload_n 0, 1) := by decide +kernel
theorem dX3_put_12 : decode cX3_put 12 = .ok (.getfield 15, 3) := by decide +kernel
theorem dX3_put_15 : decode cX3_put 15 = .ok (.tableswitch 91 0 4 #[33, 46, 59, 91, 71], 33) := by decide +kernel
theorem dX3_put_48 : decode cX3_put 48 = .ok (.aload_n 0, 1) := by decide +kernel
theorem dX3_put_49 : decode cX3_put 49 = .ok (.getfield 9, 3) := by decide +kernel
theorem dX3_put_52 : decode cX3_put 52 = .ok (.iload_n 1, 1) := by decide +kernel
theorem dX3_put_53 : decode cX3_put 53 = .ok (.lload_n 2, 1) := by decide +kernel
theorem dX3_put_54 : decode cX3_put 54 = .ok (.l2i, 1) := by decide +kernel
theorem dX3_put_55 : decode cX3_put 55 = .ok (.i2b, 1) := by decide +kernel
theorem dX3_put_56 : decode cX3_put 56 = .ok (.i2l, 1) := by decide +kernel
theorem dX3_put_57 : decode cX3_put 57 = .ok (.lastore, 1) := by decide +kernel
theorem dX3_put_58 : decode cX3_put 58 = .ok (.goto 55, 3) := by decide +kernel
theorem dX3_put_61 : decode cX3_put 61 = .ok (.aload_n 0, 1) := by decide +kernel
theorem dX3_put_62 : decode cX3_put 62 = .ok (.getfield 9, 3) := by decide +kernel
theorem dX3_put_65 : decode cX3_put 65 = .ok (.iload_n 1, 1) := by decide +kernel
theorem dX3_put_66 : decode cX3_put 66 = .ok (.lload_n 2, 1) := by decide +kernel
theorem dX3_put_67 : decode cX3_put 67 = .ok (.l2i, 1) := by decide +kernel
theorem dX3_put_68 : decode cX3_put 68 = .ok (.i2s, 1) := by decide +kernel
theorem dX3_put_69 : decode cX3_put 69 = .ok (.i2l, 1) := by decide +kernel
theorem dX3_put_70 : decode cX3_put 70 = .ok (.lastore, 1) := by decide +kernel
theorem dX3_put_71 : decode cX3_put 71 = .ok (.goto 42, 3) := by decide +kernel
theorem dX3_put_74 : decode cX3_put 74 = .ok (.aload_n 0, 1) := by decide +kernel
theorem dX3_put_75 : decode cX3_put 75 = .ok (.getfield 9, 3) := by decide +kernel
theorem dX3_put_78 : decode cX3_put 78 = .ok (.iload_n 1, 1) := by decide +kernel
theorem dX3_put_79 : decode cX3_put 79 = .ok (.lload_n 2, 1) := by decide +kernel
theorem dX3_put_80 : decode cX3_put 80 = .ok (.l2i, 1) := by decide +kernel
theorem dX3_put_81 : decode cX3_put 81 = .ok (.i2l, 1) := by decide +kernel
theorem dX3_put_82 : decode cX3_put 82 = .ok (.lastore, 1) := by decide +kernel
theorem dX3_put_83 : decode cX3_put 83 = .ok (.goto 30, 3) := by decide +kernel
theorem dX3_put_86 : decode cX3_put 86 = .ok (.aload_n 0, 1) := by decide +kernel
theorem dX3_put_87 : decode cX3_put 87 = .ok (.getfield 9, 3) := by decide +kernel
theorem dX3_put_90 : decode cX3_put 90 = .ok (.iload_n 1, 1) := by decide +kernel
theorem dX3_put_91 : decode cX3_put 91 = .ok (.lload_n 2, 1) := by decide +kernel
theorem dX3_put_92 : decode cX3_put 92 = .ok (.lconst 0, 1) := by decide +kernel
theorem dX3_put_93 : decode cX3_put 93 = .ok (.lcmp, 1) := by decide +kernel
theorem dX3_put_94 : decode cX3_put 94 = .ok (.ifCond .eq 7, 3) := by decide +kernel
theorem dX3_put_97 : decode cX3_put 97 = .ok (.lconst 1, 1) := by decide +kernel
theorem dX3_put_98 : decode cX3_put 98 = .ok (.goto 4, 3) := by decide +kernel
theorem dX3_put_101 : decode cX3_put 101 = .ok (.lconst 0, 1) := by decide +kernel
theorem dX3_put_102 : decode cX3_put 102 = .ok (.lastore, 1) := by decide +kernel
theorem dX3_put_103 : decode cX3_put 103 = .ok (.goto 10, 3) := by decide +kernel
theorem dX3_put_106 : decode cX3_put 106 = .ok (.aload_n 0, 1) := by decide +kernel
theorem dX3_put_107 : decode cX3_put 107 = .ok (.getfield 9, 3) := by decide +kernel
theorem dX3_put_110 : decode cX3_put 110 = .ok (.iload_n 1, 1) := by decide +kernel
theorem dX3_put_111 : decode cX3_put 111 = .ok (.lload_n 2, 1) := by decide +kernel
theorem dX3_put_112 : decode cX3_put 112 = .ok (.lastore, 1) := by decide +kernel
theorem dX3_put_113 : decode cX3_put 113 = .ok (.return_, 1) := by decide +kernel
theorem dX3_told_0 : decode cX3_told 0 = .ok (.aload_n 0, 1) := by decide +kernel
theorem dX3_told_1 : decode cX3_told 1 = .ok (.invokevirtual 31, 3) := by decide +kernel
theorem dX3_told_4 : decode cX3_told 4 = .ok (.ifCond .eq 21, 3) := by decide +kernel
theorem dX3_told_7 : decode cX3_told 7 = .ok (.aload_n 0, 1) := by decide +kernel
theorem dX3_told_8 : decode cX3_told 8 = .ok (.iload_n 1, 1) := by decide +kernel
theorem dX3_told_9 : decode cX3_told 9 = .ok (.iconst 1, 1) := by decide +kernel
theorem dX3_told_10 : decode cX3_told 10 = .ok (.invokevirtual 35, 3) := by decide +kernel
theorem dX3_told_13 : decode cX3_told 13 = .ok (.ifCond .eq 12, 3) := by decide +kernel
theorem dX3_told_16 : decode cX3_told 16 = .ok (.aload_n 0, 1) := by decide +kernel
theorem dX3_told_17 : decode cX3_told 17 = .ok (.getfield 9, 3) := by decide +kernel
theorem dX3_told_20 : decode cX3_told 20 = .ok (.iload_n 1, 1) := by decide +kernel
theorem dX3_told_21 : decode cX3_told 21 = .ok (.laload, 1) := by decide +kernel
theorem dX3_told_22 : decode cX3_told 22 = .ok (.goto 4, 3) := by decide +kernel
theorem dX3_told_25 : decode cX3_told 25 = .ok (.lconst 0, 1) := by decide +kernel
theorem dX3_told_26 : decode cX3_told 26 = .ok (.lreturn, 1) := by decide +kernel
theorem dX3_toldSet_0 : decode cX3_toldSet 0 = .ok (.iconst 0, 1) := by decide +kernel
theorem dX3_toldSet_1 : decode cX3_toldSet 1 = .ok (.istore_n 1, 1) := by decide +kernel
theorem dX3_toldSet_2 : decode cX3_toldSet 2 = .ok (.iconst 0, 1) := by decide +kernel
theorem dX3_toldSet_3 : decode cX3_toldSet 3 = .ok (.istore_n 2, 1) := by decide +kernel
theorem dX3_toldSet_4 : decode cX3_toldSet 4 = .ok (.iload_n 2, 1) := by decide +kernel
theorem dX3_toldSet_5 : decode cX3_toldSet 5 = .ok (.bipush 12, 2) := by decide +kernel
theorem dX3_toldSet_7 : decode cX3_toldSet 7 = .ok (.if_icmp .ge 25, 3) := by decide +kernel
theorem dX3_toldSet_10 : decode cX3_toldSet 10 = .ok (.aload_n 0, 1) := by decide +kernel
theorem dX3_toldSet_11 : decode cX3_toldSet 11 = .ok (.iload_n 2, 1) := by decide +kernel
theorem dX3_toldSet_12 : decode cX3_toldSet 12 = .ok (.invokevirtual 39, 3) := by decide +kernel
theorem dX3_toldSet_15 : decode cX3_toldSet 15 = .ok (.lconst 0, 1) := by decide +kernel
theorem dX3_toldSet_16 : decode cX3_toldSet 16 = .ok (.lcmp, 1) := by decide +kernel
theorem dX3_toldSet_17 : decode cX3_toldSet 17 = .ok (.ifCond .eq 9, 3) := by decide +kernel
theorem dX3_toldSet_20 : decode cX3_toldSet 20 = .ok (.iload_n 1, 1) := by decide +kernel
theorem dX3_toldSet_21 : decode cX3_toldSet 21 = .ok (.iconst 1, 1) := by decide +kernel
theorem dX3_toldSet_22 : decode cX3_toldSet 22 = .ok (.iload_n 2, 1) := by decide +kernel
theorem dX3_toldSet_23 : decode cX3_toldSet 23 = .ok (.ishl, 1) := by decide +kernel
theorem dX3_toldSet_24 : decode cX3_toldSet 24 = .ok (.ior, 1) := by decide +kernel
theorem dX3_toldSet_25 : decode cX3_toldSet 25 = .ok (.istore_n 1, 1) := by decide +kernel
theorem dX3_toldSet_26 : decode cX3_toldSet 26 = .ok (.iinc 2 1, 3) := by decide +kernel
theorem dX3_toldSet_29 : decode cX3_toldSet 29 = .ok (.goto (-25), 3) := by decide +kernel
theorem dX3_toldSet_32 : decode cX3_toldSet 32 = .ok (.iload_n 1, 1) := by decide +kernel
theorem dX3_toldSet_33 : decode cX3_toldSet 33 = .ok (.ireturn, 1) := by decide +kernel
theorem dX3_isOfKind_0 : decode cX3_isOfKind 0 = .ok (.aload_n 0, 1) := by decide +kernel
theorem dX3_isOfKind_1 : decode cX3_isOfKind 1 = .ok (.invokevirtual 43, 3) := by decide +kernel
theorem dX3_isOfKind_4 : decode cX3_isOfKind 4 = .ok (.istore_n 2, 1) := by decide +kernel
theorem dX3_isOfKind_5 : decode cX3_isOfKind 5 = .ok (.iload_n 1, 1) := by decide +kernel
theorem dX3_isOfKind_6 : decode cX3_isOfKind 6 = .ok (.iload_n 2, 1) := by decide +kernel
theorem dX3_isOfKind_7 : decode cX3_isOfKind 7 = .ok (.if_icmp .eq 27, 3) := by decide +kernel
theorem dX3_isOfKind_10 : decode cX3_isOfKind 10 = .ok (.iload_n 1, 1) := by decide +kernel
theorem dX3_isOfKind_11 : decode cX3_isOfKind 11 = .ok (.ifCond .eq 23, 3) := by decide +kernel
theorem dX3_isOfKind_14 : decode cX3_isOfKind 14 = .ok (.iload_n 1, 1) := by decide +kernel
theorem dX3_isOfKind_15 : decode cX3_isOfKind 15 = .ok (.iconst 1, 1) := by decide +kernel
theorem dX3_isOfKind_16 : decode cX3_isOfKind 16 = .ok (.if_icmp .ne 8, 3) := by decide +kernel
theorem dX3_isOfKind_19 : decode cX3_isOfKind 19 = .ok (.iload_n 2, 1) := by decide +kernel
theorem dX3_isOfKind_20 : decode cX3_isOfKind 20 = .ok (.iconst 2, 1) := by decide +kernel
theorem dX3_isOfKind_21 : decode cX3_isOfKind 21 = .ok (.if_icmp .eq 13, 3) := by decide +kernel
theorem dX3_isOfKind_24 : decode cX3_isOfKind 24 = .ok (.iload_n 1, 1) := by decide +kernel
theorem dX3_isOfKind_25 : decode cX3_isOfKind 25 = .ok (.iconst 3, 1) := by decide +kernel
theorem dX3_isOfKind_26 : decode cX3_isOfKind 26 = .ok (.if_icmp .ne 12, 3) := by decide +kernel
theorem dX3_isOfKind_29 : decode cX3_isOfKind 29 = .ok (.iload_n 2, 1) := by decide +kernel
theorem dX3_isOfKind_30 : decode cX3_isOfKind 30 = .ok (.iconst 4, 1) := by decide +kernel
theorem dX3_isOfKind_31 : decode cX3_isOfKind 31 = .ok (.if_icmp .ne 7, 3) := by decide +kernel
theorem dX3_isOfKind_34 : decode cX3_isOfKind 34 = .ok (.iconst 1, 1) := by decide +kernel
theorem dX3_isOfKind_35 : decode cX3_isOfKind 35 = .ok (.goto 4, 3) := by decide +kernel
theorem dX3_isOfKind_38 : decode cX3_isOfKind 38 = .ok (.iconst 0, 1) := by decide +kernel
theorem dX3_isOfKind_39 : decode cX3_isOfKind 39 = .ok (.ireturn, 1) := by decide +kernel
theorem dX3_saidAs_0 : decode cX3_saidAs 0 = .ok (.iload_n 1, 1) := by decide +kernel
theorem dX3_saidAs_1 : decode cX3_saidAs 1 = .ok (.ifCond .ne 5, 3) := by decide +kernel
theorem dX3_saidAs_4 : decode cX3_saidAs 4 = .ok (.iconst 0, 1) := by decide +kernel
theorem dX3_saidAs_5 : decode cX3_saidAs 5 = .ok (.ireturn, 1) := by decide +kernel
theorem dX3_saidAs_6 : decode cX3_saidAs 6 = .ok (.iload_n 1, 1) := by decide +kernel
theorem dX3_saidAs_7 : decode cX3_saidAs 7 = .ok (.iconst 1, 1) := by decide +kernel
theorem dX3_saidAs_8 : decode cX3_saidAs 8 = .ok (.if_icmp .ne 27, 3) := by decide +kernel
theorem dX3_saidAs_11 : decode cX3_saidAs 11 = .ok (.aload_n 0, 1) := by decide +kernel
theorem dX3_saidAs_12 : decode cX3_saidAs 12 = .ok (.invokevirtual 43, 3) := by decide +kernel
theorem dX3_saidAs_15 : decode cX3_saidAs 15 = .ok (.iconst 2, 1) := by decide +kernel
theorem dX3_saidAs_16 : decode cX3_saidAs 16 = .ok (.if_icmp .ne 19, 3) := by decide +kernel
theorem dX3_saidAs_19 : decode cX3_saidAs 19 = .ok (.aload_n 0, 1) := by decide +kernel
theorem dX3_saidAs_20 : decode cX3_saidAs 20 = .ok (.getfield 28, 3) := by decide +kernel
theorem dX3_saidAs_23 : decode cX3_saidAs 23 = .ok (.sipush 500, 3) := by decide +kernel
theorem dX3_saidAs_26 : decode cX3_saidAs 26 = .ok (.if_icmp .le 7, 3) := by decide +kernel
theorem dX3_saidAs_29 : decode cX3_saidAs 29 = .ok (.iconst 1, 1) := by decide +kernel
theorem dX3_saidAs_30 : decode cX3_saidAs 30 = .ok (.goto 4, 3) := by decide +kernel
theorem dX3_saidAs_33 : decode cX3_saidAs 33 = .ok (.iconst 0, 1) := by decide +kernel
theorem dX3_saidAs_34 : decode cX3_saidAs 34 = .ok (.ireturn, 1) := by decide +kernel
theorem dX3_saidAs_35 : decode cX3_saidAs 35 = .ok (.iload_n 1, 1) := by decide +kernel
theorem dX3_saidAs_36 : decode cX3_saidAs 36 = .ok (.iconst 3, 1) := by decide +kernel
theorem dX3_saidAs_37 : decode cX3_saidAs 37 = .ok (.if_icmp .ne 19, 3) := by decide +kernel
theorem dX3_saidAs_40 : decode cX3_saidAs 40 = .ok (.aload_n 0, 1) := by decide +kernel
theorem dX3_saidAs_41 : decode cX3_saidAs 41 = .ok (.invokevirtual 43, 3) := by decide +kernel
theorem dX3_saidAs_44 : decode cX3_saidAs 44 = .ok (.iconst 4, 1) := by decide +kernel
theorem dX3_saidAs_45 : decode cX3_saidAs 45 = .ok (.if_icmp .ne 11, 3) := by decide +kernel
theorem dX3_saidAs_48 : decode cX3_saidAs 48 = .ok (.aload_n 0, 1) := by decide +kernel
theorem dX3_saidAs_49 : decode cX3_saidAs 49 = .ok (.getfield 28, 3) := by decide +kernel
theorem dX3_saidAs_52 : decode cX3_saidAs 52 = .ok (.bipush 100, 2) := by decide +kernel
theorem dX3_saidAs_54 : decode cX3_saidAs 54 = .ok (.idiv, 1) := by decide +kernel
theorem dX3_saidAs_55 : decode cX3_saidAs 55 = .ok (.ireturn, 1) := by decide +kernel
theorem dX3_saidAs_56 : decode cX3_saidAs 56 = .ok (.aload_n 0, 1) := by decide +kernel
theorem dX3_saidAs_57 : decode cX3_saidAs 57 = .ok (.getfield 28, 3) := by decide +kernel
theorem dX3_saidAs_60 : decode cX3_saidAs 60 = .ok (.ireturn, 1) := by decide +kernel
theorem dX4_init_0 : decode cX4_init 0 = .ok (.aload_n 0, 1) := by decide +kernel
theorem dX4_init_1 : decode cX4_init 1 = .ok (.invokespecial 3, 3) := by decide +kernel
theorem dX4_init_4 : decode cX4_init 4 = .ok (.aload_n 0, 1) := by decide +kernel
theorem dX4_init_5 : decode cX4_init 5 = .ok (.bipush 12, 2) := by decide +kernel
theorem dX4_init_7 : decode cX4_init 7 = .ok (.newarray .int, 2) := by decide +kernel
theorem dX4_init_9 : decode cX4_init 9 = .ok (.putfield 9, 3) := by decide +kernel
theorem dX4_init_12 : decode cX4_init 12 = .ok (.aload_n 0, 1) := by decide +kernel
theorem dX4_init_13 : decode cX4_init 13 = .ok (.bipush 12, 2) := by decide +kernel
theorem dX4_init_15 : decode cX4_init 15 = .ok (.newarray .int, 2) := by decide +kernel
theorem dX4_init_17 : decode cX4_init 17 = .ok (.putfield 15, 3) := by decide +kernel
theorem dX4_init_20 : decode cX4_init 20 = .ok (.aload_n 0, 1) := by decide +kernel
theorem dX4_init_21 : decode cX4_init 21 = .ok (.bipush 12, 2) := by decide +kernel
theorem dX4_init_23 : decode cX4_init 23 = .ok (.newarray .int, 2) := by decide +kernel
theorem dX4_init_25 : decode cX4_init 25 = .ok (.putfield 18, 3) := by decide +kernel
theorem dX4_init_28 : decode cX4_init 28 = .ok (.aload_n 0, 1) := by decide +kernel
theorem dX4_init_29 : decode cX4_init 29 = .ok (.bipush 12, 2) := by decide +kernel
theorem dX4_init_31 : decode cX4_init 31 = .ok (.newarray .int, 2) := by decide +kernel
theorem dX4_init_33 : decode cX4_init 33 = .ok (.putfield 21, 3) := by decide +kernel
theorem dX4_init_36 : decode cX4_init 36 = .ok (.aload_n 0, 1) := by decide +kernel
theorem dX4_init_37 : decode cX4_init 37 = .ok (.bipush 12, 2) := by decide +kernel
theorem dX4_init_39 : decode cX4_init 39 = .ok (.newarray .int, 2) := by decide +kernel
theorem dX4_init_41 : decode cX4_init 41 = .ok (.putfield 24, 3) := by decide +kernel
theorem dX4_init_44 : decode cX4_init 44 = .ok (.aload_n 0, 1) := by decide +kernel
theorem dX4_init_45 : decode cX4_init 45 = .ok (.sipush 144, 3) := by decide +kernel
theorem dX4_init_48 : decode cX4_init 48 = .ok (.newarray .int, 2) := by decide +kernel
theorem dX4_init_50 : decode cX4_init 50 = .ok (.putfield 27, 3) := by decide +kernel
theorem dX4_init_53 : decode cX4_init 53 = .ok (.aload_n 0, 1) := by decide +kernel
theorem dX4_init_54 : decode cX4_init 54 = .ok (.bipush 12, 2) := by decide +kernel
theorem dX4_init_56 : decode cX4_init 56 = .ok (.newarray .int, 2) := by decide +kernel
theorem dX4_init_58 : decode cX4_init 58 = .ok (.putfield 30, 3) := by decide +kernel
theorem dX4_init_61 : decode cX4_init 61 = .ok (.return_, 1) := by decide +kernel
theorem dX4_clear_0 : decode cX4_clear 0 = .ok (.aload_n 0, 1) := by decide +kernel
theorem dX4_clear_1 : decode cX4_clear 1 = .ok (.iload_n 1, 1) := by decide +kernel
theorem dX4_clear_2 : decode cX4_clear 2 = .ok (.putfield 33, 3) := by decide +kernel
theorem dX4_clear_5 : decode cX4_clear 5 = .ok (.aload_n 0, 1) := by decide +kernel
theorem dX4_clear_6 : decode cX4_clear 6 = .ok (.iconst 0, 1) := by decide +kernel
theorem dX4_clear_7 : decode cX4_clear 7 = .ok (.putfield 37, 3) := by decide +kernel
theorem dX4_clear_10 : decode cX4_clear 10 = .ok (.aload_n 0, 1) := by decide +kernel
theorem dX4_clear_11 : decode cX4_clear 11 = .ok (.iconst 0, 1) := by decide +kernel
theorem dX4_clear_12 : decode cX4_clear 12 = .ok (.putfield 40, 3) := by decide +kernel
theorem dX4_clear_15 : decode cX4_clear 15 = .ok (.aload_n 0, 1) := by decide +kernel
theorem dX4_clear_16 : decode cX4_clear 16 = .ok (.getfield 9, 3) := by decide +kernel
theorem dX4_clear_19 : decode cX4_clear 19 = .ok (.iconst 0, 1) := by decide +kernel
theorem dX4_clear_20 : decode cX4_clear 20 = .ok (.invokestatic 43, 3) := by decide +kernel
theorem dX4_clear_23 : decode cX4_clear 23 = .ok (.aload_n 0, 1) := by decide +kernel
theorem dX4_clear_24 : decode cX4_clear 24 = .ok (.getfield 15, 3) := by decide +kernel
theorem dX4_clear_27 : decode cX4_clear 27 = .ok (.iconst 0, 1) := by decide +kernel
theorem dX4_clear_28 : decode cX4_clear 28 = .ok (.invokestatic 43, 3) := by decide +kernel
theorem dX4_clear_31 : decode cX4_clear 31 = .ok (.aload_n 0, 1) := by decide +kernel
theorem dX4_clear_32 : decode cX4_clear 32 = .ok (.getfield 18, 3) := by decide +kernel
theorem dX4_clear_35 : decode cX4_clear 35 = .ok (.iconst 0, 1) := by decide +kernel
theorem dX4_clear_36 : decode cX4_clear 36 = .ok (.invokestatic 43, 3) := by decide +kernel
theorem dX4_clear_39 : decode cX4_clear 39 = .ok (.aload_n 0, 1) := by decide +kernel
theorem dX4_clear_40 : decode cX4_clear 40 = .ok (.getfield 21, 3) := by decide +kernel
theorem dX4_clear_43 : decode cX4_clear 43 = .ok (.iconst (-1), 1) := by decide +kernel
theorem dX4_clear_44 : decode cX4_clear 44 = .ok (.invokestatic 43, 3) := by decide +kernel
theorem dX4_clear_47 : decode cX4_clear 47 = .ok (.aload_n 0, 1) := by decide +kernel
theorem dX4_clear_48 : decode cX4_clear 48 = .ok (.getfield 24, 3) := by decide +kernel
theorem dX4_clear_51 : decode cX4_clear 51 = .ok (.iconst 0, 1) := by decide +kernel
theorem dX4_clear_52 : decode cX4_clear 52 = .ok (.invokestatic 43, 3) := by decide +kernel
theorem dX4_clear_55 : decode cX4_clear 55 = .ok (.aload_n 0, 1) := by decide +kernel
theorem dX4_clear_56 : decode cX4_clear 56 = .ok (.getfield 27, 3) := by decide +kernel
theorem dX4_clear_59 : decode cX4_clear 59 = .ok (.iconst 0, 1) := by decide +kernel
theorem dX4_clear_60 : decode cX4_clear 60 = .ok (.invokestatic 43, 3) := by decide +kernel
theorem dX4_clear_63 : decode cX4_clear 63 = .ok (.aload_n 0, 1) := by decide +kernel
theorem dX4_clear_64 : decode cX4_clear 64 = .ok (.getfield 30, 3) := by decide +kernel
theorem dX4_clear_67 : decode cX4_clear 67 = .ok (.iconst 0, 1) := by decide +kernel
theorem dX4_clear_68 : decode cX4_clear 68 = .ok (.invokestatic 43, 3) := by decide +kernel
theorem dX4_clear_71 : decode cX4_clear 71 = .ok (.return_, 1) := by decide +kernel
theorem dX4_become_0 : decode cX4_become 0 = .ok (.aload_n 0, 1) := by decide +kernel
theorem dX4_become_1 : decode cX4_become 1 = .ok (.aload_n 1, 1) := by decide +kernel
theorem dX4_become_2 : decode cX4_become 2 = .ok (.getfield 33, 3) := by decide +kernel
theorem dX4_become_5 : decode cX4_become 5 = .ok (.putfield 33, 3) := by decide +kernel
theorem dX4_become_8 : decode cX4_become 8 = .ok (.aload_n 0, 1) := by decide +kernel
theorem dX4_become_9 : decode cX4_become 9 = .ok (.aload_n 1, 1) := by decide +kernel
theorem dX4_become_10 : decode cX4_become 10 = .ok (.getfield 37, 3) := by decide +kernel
theorem dX4_become_13 : decode cX4_become 13 = .ok (.putfield 37, 3) := by decide +kernel
theorem dX4_become_16 : decode cX4_become 16 = .ok (.aload_n 0, 1) := by decide +kernel
theorem dX4_become_17 : decode cX4_become 17 = .ok (.aload_n 1, 1) := by decide +kernel
theorem dX4_become_18 : decode cX4_become 18 = .ok (.getfield 40, 3) := by decide +kernel
theorem dX4_become_21 : decode cX4_become 21 = .ok (.putfield 40, 3) := by decide +kernel
theorem dX4_become_24 : decode cX4_become 24 = .ok (.aload_n 1, 1) := by decide +kernel
theorem dX4_become_25 : decode cX4_become 25 = .ok (.getfield 9, 3) := by decide +kernel
theorem dX4_become_28 : decode cX4_become 28 = .ok (.iconst 0, 1) := by decide +kernel
theorem dX4_become_29 : decode cX4_become 29 = .ok (.aload_n 0, 1) := by decide +kernel
theorem dX4_become_30 : decode cX4_become 30 = .ok (.getfield 9, 3) := by decide +kernel
theorem dX4_become_33 : decode cX4_become 33 = .ok (.iconst 0, 1) := by decide +kernel
theorem dX4_become_34 : decode cX4_become 34 = .ok (.bipush 12, 2) := by decide +kernel
theorem dX4_become_36 : decode cX4_become 36 = .ok (.invokestatic 49, 3) := by decide +kernel
theorem dX4_become_39 : decode cX4_become 39 = .ok (.aload_n 1, 1) := by decide +kernel
theorem dX4_become_40 : decode cX4_become 40 = .ok (.getfield 15, 3) := by decide +kernel
theorem dX4_become_43 : decode cX4_become 43 = .ok (.iconst 0, 1) := by decide +kernel
theorem dX4_become_44 : decode cX4_become 44 = .ok (.aload_n 0, 1) := by decide +kernel
theorem dX4_become_45 : decode cX4_become 45 = .ok (.getfield 15, 3) := by decide +kernel
theorem dX4_become_48 : decode cX4_become 48 = .ok (.iconst 0, 1) := by decide +kernel
theorem dX4_become_49 : decode cX4_become 49 = .ok (.bipush 12, 2) := by decide +kernel
theorem dX4_become_51 : decode cX4_become 51 = .ok (.invokestatic 49, 3) := by decide +kernel
theorem dX4_become_54 : decode cX4_become 54 = .ok (.aload_n 1, 1) := by decide +kernel
theorem dX4_become_55 : decode cX4_become 55 = .ok (.getfield 18, 3) := by decide +kernel
theorem dX4_become_58 : decode cX4_become 58 = .ok (.iconst 0, 1) := by decide +kernel
theorem dX4_become_59 : decode cX4_become 59 = .ok (.aload_n 0, 1) := by decide +kernel
theorem dX4_become_60 : decode cX4_become 60 = .ok (.getfield 18, 3) := by decide +kernel
theorem dX4_become_63 : decode cX4_become 63 = .ok (.iconst 0, 1) := by decide +kernel
theorem dX4_become_64 : decode cX4_become 64 = .ok (.bipush 12, 2) := by decide +kernel
theorem dX4_become_66 : decode cX4_become 66 = .ok (.invokestatic 49, 3) := by decide +kernel
theorem dX4_become_69 : decode cX4_become 69 = .ok (.aload_n 1, 1) := by decide +kernel
theorem dX4_become_70 : decode cX4_become 70 = .ok (.getfield 21, 3) := by decide +kernel
theorem dX4_become_73 : decode cX4_become 73 = .ok (.iconst 0, 1) := by decide +kernel
theorem dX4_become_74 : decode cX4_become 74 = .ok (.aload_n 0, 1) := by decide +kernel
theorem dX4_become_75 : decode cX4_become 75 = .ok (.getfield 21, 3) := by decide +kernel
theorem dX4_become_78 : decode cX4_become 78 = .ok (.iconst 0, 1) := by decide +kernel
theorem dX4_become_79 : decode cX4_become 79 = .ok (.bipush 12, 2) := by decide +kernel
theorem dX4_become_81 : decode cX4_become 81 = .ok (.invokestatic 49, 3) := by decide +kernel
theorem dX4_become_84 : decode cX4_become 84 = .ok (.aload_n 1, 1) := by decide +kernel
theorem dX4_become_85 : decode cX4_become 85 = .ok (.getfield 24, 3) := by decide +kernel
theorem dX4_become_88 : decode cX4_become 88 = .ok (.iconst 0, 1) := by decide +kernel
theorem dX4_become_89 : decode cX4_become 89 = .ok (.aload_n 0, 1) := by decide +kernel
theorem dX4_become_90 : decode cX4_become 90 = .ok (.getfield 24, 3) := by decide +kernel
theorem dX4_become_93 : decode cX4_become 93 = .ok (.iconst 0, 1) := by decide +kernel
theorem dX4_become_94 : decode cX4_become 94 = .ok (.bipush 12, 2) := by decide +kernel
theorem dX4_become_96 : decode cX4_become 96 = .ok (.invokestatic 49, 3) := by decide +kernel
theorem dX4_become_99 : decode cX4_become 99 = .ok (.aload_n 1, 1) := by decide +kernel
theorem dX4_become_100 : decode cX4_become 100 = .ok (.getfield 27, 3) := by decide +kernel
theorem dX4_become_103 : decode cX4_become 103 = .ok (.iconst 0, 1) := by decide +kernel
theorem dX4_become_104 : decode cX4_become 104 = .ok (.aload_n 0, 1) := by decide +kernel
theorem dX4_become_105 : decode cX4_become 105 = .ok (.getfield 27, 3) := by decide +kernel
theorem dX4_become_108 : decode cX4_become 108 = .ok (.iconst 0, 1) := by decide +kernel
theorem dX4_become_109 : decode cX4_become 109 = .ok (.sipush 144, 3) := by decide +kernel
theorem dX4_become_112 : decode cX4_become 112 = .ok (.invokestatic 49, 3) := by decide +kernel
theorem dX4_become_115 : decode cX4_become 115 = .ok (.aload_n 1, 1) := by decide +kernel
theorem dX4_become_116 : decode cX4_become 116 = .ok (.getfield 30, 3) := by decide +kernel
theorem dX4_become_119 : decode cX4_become 119 = .ok (.iconst 0, 1) := by decide +kernel
theorem dX4_become_120 : decode cX4_become 120 = .ok (.aload_n 0, 1) := by decide +kernel
theorem dX4_become_121 : decode cX4_become 121 = .ok (.getfield 30, 3) := by decide +kernel
theorem dX4_become_124 : decode cX4_become 124 = .ok (.iconst 0, 1) := by decide +kernel
theorem dX4_become_125 : decode cX4_become 125 = .ok (.bipush 12, 2) := by decide +kernel
theorem dX4_become_127 : decode cX4_become 127 = .ok (.invokestatic 49, 3) := by decide +kernel
theorem dX4_become_130 : decode cX4_become 130 = .ok (.return_, 1) := by decide +kernel
theorem dX4_hasPerson_0 : decode cX4_hasPerson 0 = .ok (.iload_n 1, 1) := by decide +kernel
theorem dX4_hasPerson_1 : decode cX4_hasPerson 1 = .ok (.ifCond .lt 21, 3) := by decide +kernel
theorem dX4_hasPerson_4 : decode cX4_hasPerson 4 = .ok (.iload_n 1, 1) := by decide +kernel
theorem dX4_hasPerson_5 : decode cX4_hasPerson 5 = .ok (.aload_n 0, 1) := by decide +kernel
theorem dX4_hasPerson_6 : decode cX4_hasPerson 6 = .ok (.getfield 33, 3) := by decide +kernel
theorem dX4_hasPerson_9 : decode cX4_hasPerson 9 = .ok (.if_icmp .ge 13, 3) := by decide +kernel
theorem dX4_hasPerson_12 : decode cX4_hasPerson 12 = .ok (.iload_n 1, 1) := by decide +kernel
theorem dX4_hasPerson_13 : decode cX4_hasPerson 13 = .ok (.bipush 12, 2) := by decide +kernel
theorem dX4_hasPerson_15 : decode cX4_hasPerson 15 = .ok (.if_icmp .ge 7, 3) := by decide +kernel
theorem dX4_hasPerson_18 : decode cX4_hasPerson 18 = .ok (.iconst 1, 1) := by decide +kernel
theorem dX4_hasPerson_19 : decode cX4_hasPerson 19 = .ok (.goto 4, 3) := by decide +kernel
theorem dX4_hasPerson_22 : decode cX4_hasPerson 22 = .ok (.iconst 0, 1) := by decide +kernel
theorem dX4_hasPerson_23 : decode cX4_hasPerson 23 = .ok (.ireturn, 1) := by decide +kernel
theorem dX4_hasPair_0 : decode cX4_hasPair 0 = .ok (.aload_n 0, 1) := by decide +kernel
theorem dX4_hasPair_1 : decode cX4_hasPair 1 = .ok (.iload_n 1, 1) := by decide +kernel
theorem dX4_hasPair_2 : decode cX4_hasPair 2 = .ok (.invokevirtual 55, 3) := by decide +kernel
theorem dX4_hasPair_5 : decode cX4_hasPair 5 = .ok (.ifCond .eq 20, 3) := by decide +kernel
theorem dX4_hasPair_8 : decode cX4_hasPair 8 = .ok (.aload_n 0, 1) := by decide +kernel
theorem dX4_hasPair_9 : decode cX4_hasPair 9 = .ok (.iload_n 2, 1) := by decide +kernel
theorem dX4_hasPair_10 : decode cX4_hasPair 10 = .ok (.invokevirtual 55, 3) := by decide +kernel
theorem dX4_hasPair_13 : decode cX4_hasPair 13 = .ok (.ifCond .eq 12, 3) := by decide +kernel
theorem dX4_hasPair_16 : decode cX4_hasPair 16 = .ok (.iload_n 1, 1) := by decide +kernel
theorem dX4_hasPair_17 : decode cX4_hasPair 17 = .ok (.iload_n 2, 1) := by decide +kernel
theorem dX4_hasPair_18 : decode cX4_hasPair 18 = .ok (.if_icmp .eq 7, 3) := by decide +kernel
theorem dX4_hasPair_21 : decode cX4_hasPair 21 = .ok (.iconst 1, 1) := by decide +kernel
theorem dX4_hasPair_22 : decode cX4_hasPair 22 = .ok (.goto 4, 3) := by decide +kernel
theorem dX4_hasPair_25 : decode cX4_hasPair 25 = .ok (.iconst 0, 1) := by decide +kernel
theorem dX4_hasPair_26 : decode cX4_hasPair 26 = .ok (.ireturn, 1) := by decide +kernel
theorem dX4_sets_0 : decode cX4_sets 0 = .ok (.iconst 1, 1) := by decide +kernel
theorem dX4_sets_1 : decode cX4_sets 1 = .ok (.aload_n 0, 1) := by decide +kernel
theorem dX4_sets_2 : decode cX4_sets 2 = .ok (.getfield 33, 3) := by decide +kernel
theorem dX4_sets_5 : decode cX4_sets 5 = .ok (.ishl, 1) := by decide +kernel
theorem dX4_sets_6 : decode cX4_sets 6 = .ok (.ireturn, 1) := by decide +kernel
theorem dX4_hasSet_0 : decode cX4_hasSet 0 = .ok (.iload_n 1, 1) := by decide +kernel
theorem dX4_hasSet_1 : decode cX4_hasSet 1 = .ok (.ifCond .lt 15, 3) := by decide +kernel
theorem dX4_hasSet_4 : decode cX4_hasSet 4 = .ok (.iload_n 1, 1) := by decide +kernel
theorem dX4_hasSet_5 : decode cX4_hasSet 5 = .ok (.aload_n 0, 1) := by decide +kernel
theorem dX4_hasSet_6 : decode cX4_hasSet 6 = .ok (.invokevirtual 59, 3) := by decide +kernel
theorem dX4_hasSet_9 : decode cX4_hasSet 9 = .ok (.if_icmp .ge 7, 3) := by decide +kernel
theorem dX4_hasSet_12 : decode cX4_hasSet 12 = .ok (.iconst 1, 1) := by decide +kernel
theorem dX4_hasSet_13 : decode cX4_hasSet 13 = .ok (.goto 4, 3) := by decide +kernel
theorem dX4_hasSet_16 : decode cX4_hasSet 16 = .ok (.iconst 0, 1) := by decide +kernel
theorem dX4_hasSet_17 : decode cX4_hasSet 17 = .ok (.ireturn, 1) := by decide +kernel
theorem dX4_hasMustsIn_0 : decode cX4_hasMustsIn 0 = .ok (.aload_n 0, 1) := by decide +kernel
theorem dX4_hasMustsIn_1 : decode cX4_hasMustsIn 1 = .ok (.getfield 40, 3) := by decide +kernel
theorem dX4_hasMustsIn_4 : decode cX4_hasMustsIn 4 = .ok (.iload_n 1, 1) := by decide +kernel
theorem dX4_hasMustsIn_5 : decode cX4_hasMustsIn 5 = .ok (.iconst (-1), 1) := by decide +kernel
theorem dX4_hasMustsIn_6 : decode cX4_hasMustsIn 6 = .ok (.ixor, 1) := by decide +kernel
theorem dX4_hasMustsIn_7 : decode cX4_hasMustsIn 7 = .ok (.iand, 1) := by decide +kernel
theorem dX4_hasMustsIn_8 : decode cX4_hasMustsIn 8 = .ok (.ifCond .ne 7, 3) := by decide +kernel
theorem dX4_hasMustsIn_11 : decode cX4_hasMustsIn 11 = .ok (.iconst 1, 1) := by decide +kernel
theorem dX4_hasMustsIn_12 : decode cX4_hasMustsIn 12 = .ok (.goto 4, 3) := by decide +kernel
theorem dX4_hasMustsIn_15 : decode cX4_hasMustsIn 15 = .ok (.iconst 0, 1) := by decide +kernel
theorem dX4_hasMustsIn_16 : decode cX4_hasMustsIn 16 = .ok (.ireturn, 1) := by decide +kernel
theorem dX4_isIn_0 : decode cX4_isIn 0 = .ok (.iload_n 1, 1) := by decide +kernel
theorem dX4_isIn_1 : decode cX4_isIn 1 = .ok (.iconst 1, 1) := by decide +kernel
theorem dX4_isIn_2 : decode cX4_isIn 2 = .ok (.iload_n 0, 1) := by decide +kernel
theorem dX4_isIn_3 : decode cX4_isIn 3 = .ok (.ishl, 1) := by decide +kernel
theorem dX4_isIn_4 : decode cX4_isIn 4 = .ok (.iand, 1) := by decide +kernel
theorem dX4_isIn_5 : decode cX4_isIn 5 = .ok (.ifCond .eq 7, 3) := by decide +kernel
theorem dX4_isIn_8 : decode cX4_isIn 8 = .ok (.iconst 1, 1) := by decide +kernel
theorem dX4_isIn_9 : decode cX4_isIn 9 = .ok (.goto 4, 3) := by decide +kernel
theorem dX4_isIn_12 : decode cX4_isIn 12 = .ok (.iconst 0, 1) := by decide +kernel
theorem dX4_isIn_13 : decode cX4_isIn 13 = .ok (.ireturn, 1) := by decide +kernel
theorem dX4_isMust_0 : decode cX4_isMust 0 = .ok (.iload_n 1, 1) := by decide +kernel
theorem dX4_isMust_1 : decode cX4_isMust 1 = .ok (.aload_n 0, 1) := by decide +kernel
theorem dX4_isMust_2 : decode cX4_isMust 2 = .ok (.getfield 40, 3) := by decide +kernel
theorem dX4_isMust_5 : decode cX4_isMust 5 = .ok (.invokestatic 63, 3) := by decide +kernel
theorem dX4_isMust_8 : decode cX4_isMust 8 = .ok (.ireturn, 1) := by decide +kernel
theorem dX4_setMust_0 : decode cX4_setMust 0 = .ok (.iconst 1, 1) := by decide +kernel
theorem dX4_setMust_1 : decode cX4_setMust 1 = .ok (.iload_n 1, 1) := by decide +kernel
theorem dX4_setMust_2 : decode cX4_setMust 2 = .ok (.ishl, 1) := by decide +kernel
theorem dX4_setMust_3 : decode cX4_setMust 3 = .ok (.istore_n 3, 1) := by decide +kernel
theorem dX4_setMust_4 : decode cX4_setMust 4 = .ok (.aload_n 0, 1) := by decide +kernel
theorem dX4_setMust_5 : decode cX4_setMust 5 = .ok (.iload_n 2, 1) := by decide +kernel
theorem dX4_setMust_6 : decode cX4_setMust 6 = .ok (.ifCond .eq 12, 3) := by decide +kernel
theorem dX4_setMust_9 : decode cX4_setMust 9 = .ok (.aload_n 0, 1) := by decide +kernel
theorem dX4_setMust_10 : decode cX4_setMust 10 = .ok (.getfield 40, 3) := by decide +kernel
theorem dX4_setMust_13 : decode cX4_setMust 13 = .ok (.iload_n 3, 1) := by decide +kernel
theorem dX4_setMust_14 : decode cX4_setMust 14 = .ok (.ior, 1) := by decide +kernel
theorem dX4_setMust_15 : decode cX4_setMust 15 = .ok (.goto 11, 3) := by decide +kernel
theorem dX4_setMust_18 : decode cX4_setMust 18 = .ok (.aload_n 0, 1) := by decide +kernel
theorem dX4_setMust_19 : decode cX4_setMust 19 = .ok (.getfield 40, 3) := by decide +kernel
theorem dX4_setMust_22 : decode cX4_setMust 22 = .ok (.iload_n 3, 1) := by decide +kernel
theorem dX4_setMust_23 : decode cX4_setMust 23 = .ok (.iconst (-1), 1) := by decide +kernel
theorem dX4_setMust_24 : decode cX4_setMust 24 = .ok (.ixor, 1) := by decide +kernel
theorem dX4_setMust_25 : decode cX4_setMust 25 = .ok (.iand, 1) := by decide +kernel
theorem dX4_setMust_26 : decode cX4_setMust 26 = .ok (.putfield 40, 3) := by decide +kernel
theorem dX4_setMust_29 : decode cX4_setMust 29 = .ok (.return_, 1) := by decide +kernel
theorem dX4_value_0 : decode cX4_value 0 = .ok (.aload_n 0, 1) := by decide +kernel
theorem dX4_value_1 : decode cX4_value 1 = .ok (.iload_n 1, 1) := by decide +kernel
theorem dX4_value_2 : decode cX4_value 2 = .ok (.invokevirtual 55, 3) := by decide +kernel
theorem dX4_value_5 : decode cX4_value 5 = .ok (.ifCond .eq 17, 3) := by decide +kernel
theorem dX4_value_8 : decode cX4_value 8 = .ok (.aload_n 0, 1) := by decide +kernel
theorem dX4_value_9 : decode cX4_value 9 = .ok (.getfield 9, 3) := by decide +kernel
theorem dX4_value_12 : decode cX4_value 12 = .ok (.iload_n 1, 1) := by decide +kernel
theorem dX4_value_13 : decode cX4_value 13 = .ok (.iload_n 2, 1) := by decide +kernel
theorem dX4_value_14 : decode cX4_value 14 = .ok (.iastore, 1) := by decide +kernel
theorem dX4_value_15 : decode cX4_value 15 = .ok (.aload_n 0, 1) := by decide +kernel
theorem dX4_value_16 : decode cX4_value 16 = .ok (.getfield 15, 3) := by decide +kernel
theorem dX4_value_19 : decode cX4_value 19 = .ok (.iload_n 1, 1) := by decide +kernel
theorem dX4_value_20 : decode cX4_value 20 = .ok (.iload_n 3, 1) := by decide +kernel
theorem dX4_value_21 : decode cX4_value 21 = .ok (.iastore, 1) := by decide +kernel
theorem dX4_value_22 : decode cX4_value 22 = .ok (.return_, 1) := by decide +kernel
theorem dX4_giveWay_0 : decode cX4_giveWay 0 = .ok (.aload_n 0, 1) := by decide +kernel
theorem dX4_giveWay_1 : decode cX4_giveWay 1 = .ok (.iload_n 1, 1) := by decide +kernel
theorem dX4_giveWay_2 : decode cX4_giveWay 2 = .ok (.invokevirtual 55, 3) := by decide +kernel
theorem dX4_giveWay_5 : decode cX4_giveWay 5 = .ok (.ifCond .eq 17, 3) := by decide +kernel
theorem dX4_giveWay_8 : decode cX4_giveWay 8 = .ok (.aload_n 0, 1) := by decide +kernel
theorem dX4_giveWay_9 : decode cX4_giveWay 9 = .ok (.getfield 21, 3) := by decide +kernel
theorem dX4_giveWay_12 : decode cX4_giveWay 12 = .ok (.iload_n 1, 1) := by decide +kernel
theorem dX4_giveWay_13 : decode cX4_giveWay 13 = .ok (.iload_n 2, 1) := by decide +kernel
theorem dX4_giveWay_14 : decode cX4_giveWay 14 = .ok (.iastore, 1) := by decide +kernel
theorem dX4_giveWay_15 : decode cX4_giveWay 15 = .ok (.aload_n 0, 1) := by decide +kernel
theorem dX4_giveWay_16 : decode cX4_giveWay 16 = .ok (.getfield 24, 3) := by decide +kernel
theorem dX4_giveWay_19 : decode cX4_giveWay 19 = .ok (.iload_n 1, 1) := by decide +kernel
theorem dX4_giveWay_20 : decode cX4_giveWay 20 = .ok (.iload_n 3, 1) := by decide +kernel
theorem dX4_giveWay_21 : decode cX4_giveWay 21 = .ok (.iastore, 1) := by decide +kernel
theorem dX4_giveWay_22 : decode cX4_giveWay 22 = .ok (.return_, 1) := by decide +kernel
theorem dX4_admit_0 : decode cX4_admit 0 = .ok (.aload_n 0, 1) := by decide +kernel
theorem dX4_admit_1 : decode cX4_admit 1 = .ok (.getfield 33, 3) := by decide +kernel
theorem dX4_admit_4 : decode cX4_admit 4 = .ok (.istore 4, 2) := by decide +kernel
theorem dX4_admit_6 : decode cX4_admit 6 = .ok (.iload 4, 2) := by decide +kernel
theorem dX4_admit_8 : decode cX4_admit 8 = .ok (.bipush 12, 2) := by decide +kernel
theorem dX4_admit_10 : decode cX4_admit 10 = .ok (.if_icmp .lt 5, 3) := by decide +kernel
theorem dX4_admit_13 : decode cX4_admit 13 = .ok (.iconst (-1), 1) := by decide +kernel
theorem dX4_admit_14 : decode cX4_admit 14 = .ok (.ireturn, 1) := by decide +kernel
theorem dX4_admit_15 : decode cX4_admit 15 = .ok (.aload_n 0, 1) := by decide +kernel
theorem dX4_admit_16 : decode cX4_admit 16 = .ok (.dup, 1) := by decide +kernel
theorem dX4_admit_17 : decode cX4_admit 17 = .ok (.getfield 33, 3) := by decide +kernel
theorem dX4_admit_20 : decode cX4_admit 20 = .ok (.iconst 1, 1) := by decide +kernel
theorem dX4_admit_21 : decode cX4_admit 21 = .ok (.iadd, 1) := by decide +kernel
theorem dX4_admit_22 : decode cX4_admit 22 = .ok (.putfield 33, 3) := by decide +kernel
theorem dX4_admit_25 : decode cX4_admit 25 = .ok (.aload_n 0, 1) := by decide +kernel
theorem dX4_admit_26 : decode cX4_admit 26 = .ok (.iload 4, 2) := by decide +kernel
theorem dX4_admit_28 : decode cX4_admit 28 = .ok (.iload_n 2, 1) := by decide +kernel
theorem dX4_admit_29 : decode cX4_admit 29 = .ok (.iload_n 3, 1) := by decide +kernel
theorem dX4_admit_30 : decode cX4_admit 30 = .ok (.invokevirtual 67, 3) := by decide +kernel
theorem dX4_admit_33 : decode cX4_admit 33 = .ok (.aload_n 0, 1) := by decide +kernel
theorem dX4_admit_34 : decode cX4_admit 34 = .ok (.iload 4, 2) := by decide +kernel
theorem dX4_admit_36 : decode cX4_admit 36 = .ok (.iconst (-1), 1) := by decide +kernel
theorem dX4_admit_37 : decode cX4_admit 37 = .ok (.iconst 0, 1) := by decide +kernel
theorem dX4_admit_38 : decode cX4_admit 38 = .ok (.invokevirtual 71, 3) := by decide +kernel
theorem dX4_admit_41 : decode cX4_admit 41 = .ok (.iconst 0, 1) := by decide +kernel
theorem dX4_admit_42 : decode cX4_admit 42 = .ok (.istore 5, 2) := by decide +kernel
theorem dX4_admit_44 : decode cX4_admit 44 = .ok (.iload 5, 2) := by decide +kernel
theorem dX4_admit_46 : decode cX4_admit 46 = .ok (.iload 4, 2) := by decide +kernel
theorem dX4_admit_48 : decode cX4_admit 48 = .ok (.if_icmp .ge 27, 3) := by decide +kernel
theorem dX4_admit_51 : decode cX4_admit 51 = .ok (.iload 5, 2) := by decide +kernel
theorem dX4_admit_53 : decode cX4_admit 53 = .ok (.iload_n 1, 1) := by decide +kernel
theorem dX4_admit_54 : decode cX4_admit 54 = .ok (.invokestatic 63, 3) := by decide +kernel
theorem dX4_admit_57 : decode cX4_admit 57 = .ok (.ifCond .eq 12, 3) := by decide +kernel
theorem dX4_admit_60 : decode cX4_admit 60 = .ok (.aload_n 0, 1) := by decide +kernel
theorem dX4_admit_61 : decode cX4_admit 61 = .ok (.iload 4, 2) := by decide +kernel
theorem dX4_admit_63 : decode cX4_admit 63 = .ok (.iload 5, 2) := by decide +kernel
theorem dX4_admit_65 : decode cX4_admit 65 = .ok (.iconst 0, 1) := by decide +kernel
theorem dX4_admit_66 : decode cX4_admit 66 = .ok (.invokevirtual 74, 3) := by decide +kernel
theorem dX4_admit_69 : decode cX4_admit 69 = .ok (.iinc 5 1, 3) := by decide +kernel
theorem dX4_admit_72 : decode cX4_admit 72 = .ok (.goto (-28), 3) := by decide +kernel
theorem dX4_admit_75 : decode cX4_admit 75 = .ok (.iload 4, 2) := by decide +kernel
theorem dX4_admit_77 : decode cX4_admit 77 = .ok (.ireturn, 1) := by decide +kernel
theorem dX4_areNear_0 : decode cX4_areNear 0 = .ok (.aload_n 0, 1) := by decide +kernel
theorem dX4_areNear_1 : decode cX4_areNear 1 = .ok (.iload_n 1, 1) := by decide +kernel
theorem dX4_areNear_2 : decode cX4_areNear 2 = .ok (.iload_n 2, 1) := by decide +kernel
theorem dX4_areNear_3 : decode cX4_areNear 3 = .ok (.invokevirtual 77, 3) := by decide +kernel
theorem dX4_areNear_6 : decode cX4_areNear 6 = .ok (.ifCond .eq 20, 3) := by decide +kernel
theorem dX4_areNear_9 : decode cX4_areNear 9 = .ok (.iload_n 2, 1) := by decide +kernel
theorem dX4_areNear_10 : decode cX4_areNear 10 = .ok (.aload_n 0, 1) := by decide +kernel
theorem dX4_areNear_11 : decode cX4_areNear 11 = .ok (.getfield 18, 3) := by decide +kernel
theorem dX4_areNear_14 : decode cX4_areNear 14 = .ok (.iload_n 1, 1) := by decide +kernel
theorem dX4_areNear_15 : decode cX4_areNear 15 = .ok (.iaload, 1) := by decide +kernel
theorem dX4_areNear_16 : decode cX4_areNear 16 = .ok (.invokestatic 63, 3) := by decide +kernel
theorem dX4_areNear_19 : decode cX4_areNear 19 = .ok (.ifCond .eq 7, 3) := by decide +kernel
theorem dX4_areNear_22 : decode cX4_areNear 22 = .ok (.iconst 1, 1) := by decide +kernel
theorem dX4_areNear_23 : decode cX4_areNear 23 = .ok (.goto 4, 3) := by decide +kernel
theorem dX4_areNear_26 : decode cX4_areNear 26 = .ok (.iconst 0, 1) := by decide +kernel
theorem dX4_areNear_27 : decode cX4_areNear 27 = .ok (.ireturn, 1) := by decide +kernel
theorem dX4_priceOf_0 : decode cX4_priceOf 0 = .ok (.aload_n 0, 1) := by decide +kernel
theorem dX4_priceOf_1 : decode cX4_priceOf 1 = .ok (.iload_n 1, 1) := by decide +kernel
theorem dX4_priceOf_2 : decode cX4_priceOf 2 = .ok (.iload_n 2, 1) := by decide +kernel
theorem dX4_priceOf_3 : decode cX4_priceOf 3 = .ok (.invokevirtual 80, 3) := by decide +kernel
theorem dX4_priceOf_6 : decode cX4_priceOf 6 = .ok (.ifCond .eq 17, 3) := by decide +kernel
theorem dX4_priceOf_9 : decode cX4_priceOf 9 = .ok (.aload_n 0, 1) := by decide +kernel
theorem dX4_priceOf_10 : decode cX4_priceOf 10 = .ok (.getfield 27, 3) := by decide +kernel
theorem dX4_priceOf_13 : decode cX4_priceOf 13 = .ok (.bipush 12, 2) := by decide +kernel
theorem dX4_priceOf_15 : decode cX4_priceOf 15 = .ok (.iload_n 1, 1) := by decide +kernel
theorem dX4_priceOf_16 : decode cX4_priceOf 16 = .ok (.imul, 1) := by decide +kernel
theorem dX4_priceOf_17 : decode cX4_priceOf 17 = .ok (.iload_n 2, 1) := by decide +kernel
theorem dX4_priceOf_18 : decode cX4_priceOf 18 = .ok (.iadd, 1) := by decide +kernel
theorem dX4_priceOf_19 : decode cX4_priceOf 19 = .ok (.iaload, 1) := by decide +kernel
theorem dX4_priceOf_20 : decode cX4_priceOf 20 = .ok (.goto 4, 3) := by decide +kernel
theorem dX4_priceOf_23 : decode cX4_priceOf 23 = .ok (.iconst (-1), 1) := by decide +kernel
theorem dX4_priceOf_24 : decode cX4_priceOf 24 = .ok (.ireturn, 1) := by decide +kernel
theorem dX4_join_0 : decode cX4_join 0 = .ok (.aload_n 0, 1) := by decide +kernel
theorem dX4_join_1 : decode cX4_join 1 = .ok (.iload_n 1, 1) := by decide +kernel
theorem dX4_join_2 : decode cX4_join 2 = .ok (.iload_n 2, 1) := by decide +kernel
theorem dX4_join_3 : decode cX4_join 3 = .ok (.invokevirtual 77, 3) := by decide +kernel
theorem dX4_join_6 : decode cX4_join 6 = .ok (.ifCond .eq 41, 3) := by decide +kernel
theorem dX4_join_9 : decode cX4_join 9 = .ok (.aload_n 0, 1) := by decide +kernel
theorem dX4_join_10 : decode cX4_join 10 = .ok (.getfield 18, 3) := by decide +kernel
theorem dX4_join_13 : decode cX4_join 13 = .ok (.iload_n 1, 1) := by decide +kernel
theorem dX4_join_14 : decode cX4_join 14 = .ok (.dup2, 1) := by decide +kernel
theorem dX4_join_15 : decode cX4_join 15 = .ok (.iaload, 1) := by decide +kernel
theorem dX4_join_16 : decode cX4_join 16 = .ok (.iconst 1, 1) := by decide +kernel
theorem dX4_join_17 : decode cX4_join 17 = .ok (.iload_n 2, 1) := by decide +kernel
theorem dX4_join_18 : decode cX4_join 18 = .ok (.ishl, 1) := by decide +kernel
theorem dX4_join_19 : decode cX4_join 19 = .ok (.ior, 1) := by decide +kernel
theorem dX4_join_20 : decode cX4_join 20 = .ok (.iastore, 1) := by decide +kernel
theorem dX4_join_21 : decode cX4_join 21 = .ok (.aload_n 0, 1) := by decide +kernel
theorem dX4_join_22 : decode cX4_join 22 = .ok (.getfield 18, 3) := by decide +kernel
theorem dX4_join_25 : decode cX4_join 25 = .ok (.iload_n 2, 1) := by decide +kernel
theorem dX4_join_26 : decode cX4_join 26 = .ok (.dup2, 1) := by decide +kernel
theorem dX4_join_27 : decode cX4_join 27 = .ok (.iaload, 1) := by decide +kernel
theorem dX4_join_28 : decode cX4_join 28 = .ok (.iconst 1, 1) := by decide +kernel
theorem dX4_join_29 : decode cX4_join 29 = .ok (.iload_n 1, 1) := by decide +kernel
theorem dX4_join_30 : decode cX4_join 30 = .ok (.ishl, 1) := by decide +kernel
theorem dX4_join_31 : decode cX4_join 31 = .ok (.ior, 1) := by decide +kernel
theorem dX4_join_32 : decode cX4_join 32 = .ok (.iastore, 1) := by decide +kernel
theorem dX4_join_33 : decode cX4_join 33 = .ok (.aload_n 0, 1) := by decide +kernel
theorem dX4_join_34 : decode cX4_join 34 = .ok (.iload_n 1, 1) := by decide +kernel
theorem dX4_join_35 : decode cX4_join 35 = .ok (.iload_n 2, 1) := by decide +kernel
theorem dX4_join_36 : decode cX4_join 36 = .ok (.iload_n 3, 1) := by decide +kernel
theorem dX4_join_37 : decode cX4_join 37 = .ok (.invokevirtual 83, 3) := by decide +kernel
theorem dX4_join_40 : decode cX4_join 40 = .ok (.aload_n 0, 1) := by decide +kernel
theorem dX4_join_41 : decode cX4_join 41 = .ok (.iload_n 2, 1) := by decide +kernel
theorem dX4_join_42 : decode cX4_join 42 = .ok (.iload_n 1, 1) := by decide +kernel
theorem dX4_join_43 : decode cX4_join 43 = .ok (.iload_n 3, 1) := by decide +kernel
theorem dX4_join_44 : decode cX4_join 44 = .ok (.invokevirtual 83, 3) := by decide +kernel
theorem dX4_join_47 : decode cX4_join 47 = .ok (.return_, 1) := by decide +kernel
theorem dX4_part_0 : decode cX4_part 0 = .ok (.aload_n 0, 1) := by decide +kernel
theorem dX4_part_1 : decode cX4_part 1 = .ok (.iload_n 1, 1) := by decide +kernel
theorem dX4_part_2 : decode cX4_part 2 = .ok (.iload_n 2, 1) := by decide +kernel
theorem dX4_part_3 : decode cX4_part 3 = .ok (.invokevirtual 77, 3) := by decide +kernel
theorem dX4_part_6 : decode cX4_part 6 = .ok (.ifCond .eq 45, 3) := by decide +kernel
theorem dX4_part_9 : decode cX4_part 9 = .ok (.aload_n 0, 1) := by decide +kernel
theorem dX4_part_10 : decode cX4_part 10 = .ok (.getfield 18, 3) := by decide +kernel
theorem dX4_part_13 : decode cX4_part 13 = .ok (.iload_n 1, 1) := by decide +kernel
theorem dX4_part_14 : decode cX4_part 14 = .ok (.dup2, 1) := by decide +kernel
theorem dX4_part_15 : decode cX4_part 15 = .ok (.iaload, 1) := by decide +kernel
theorem dX4_part_16 : decode cX4_part 16 = .ok (.iconst 1, 1) := by decide +kernel
theorem dX4_part_17 : decode cX4_part 17 = .ok (.iload_n 2, 1) := by decide +kernel
theorem dX4_part_18 : decode cX4_part 18 = .ok (.ishl, 1) := by decide +kernel
theorem dX4_part_19 : decode cX4_part 19 = .ok (.iconst (-1), 1) := by decide +kernel
theorem dX4_part_20 : decode cX4_part 20 = .ok (.ixor, 1) := by decide +kernel
theorem dX4_part_21 : decode cX4_part 21 = .ok (.iand, 1) := by decide +kernel
theorem dX4_part_22 : decode cX4_part 22 = .ok (.iastore, 1) := by decide +kernel
theorem dX4_part_23 : decode cX4_part 23 = .ok (.aload_n 0, 1) := by decide +kernel
theorem dX4_part_24 : decode cX4_part 24 = .ok (.getfield 18, 3) := by decide +kernel
theorem dX4_part_27 : decode cX4_part 27 = .ok (.iload_n 2, 1) := by decide +kernel
theorem dX4_part_28 : decode cX4_part 28 = .ok (.dup2, 1) := by decide +kernel
theorem dX4_part_29 : decode cX4_part 29 = .ok (.iaload, 1) := by decide +kernel
theorem dX4_part_30 : decode cX4_part 30 = .ok (.iconst 1, 1) := by decide +kernel
theorem dX4_part_31 : decode cX4_part 31 = .ok (.iload_n 1, 1) := by decide +kernel
theorem dX4_part_32 : decode cX4_part 32 = .ok (.ishl, 1) := by decide +kernel
theorem dX4_part_33 : decode cX4_part 33 = .ok (.iconst (-1), 1) := by decide +kernel
theorem dX4_part_34 : decode cX4_part 34 = .ok (.ixor, 1) := by decide +kernel
theorem dX4_part_35 : decode cX4_part 35 = .ok (.iand, 1) := by decide +kernel
theorem dX4_part_36 : decode cX4_part 36 = .ok (.iastore, 1) := by decide +kernel
theorem dX4_part_37 : decode cX4_part 37 = .ok (.aload_n 0, 1) := by decide +kernel
theorem dX4_part_38 : decode cX4_part 38 = .ok (.iload_n 1, 1) := by decide +kernel
theorem dX4_part_39 : decode cX4_part 39 = .ok (.iload_n 2, 1) := by decide +kernel
theorem dX4_part_40 : decode cX4_part 40 = .ok (.iconst 0, 1) := by decide +kernel
theorem dX4_part_41 : decode cX4_part 41 = .ok (.invokevirtual 83, 3) := by decide +kernel
theorem dX4_part_44 : decode cX4_part 44 = .ok (.aload_n 0, 1) := by decide +kernel
theorem dX4_part_45 : decode cX4_part 45 = .ok (.iload_n 2, 1) := by decide +kernel
theorem dX4_part_46 : decode cX4_part 46 = .ok (.iload_n 1, 1) := by decide +kernel
theorem dX4_part_47 : decode cX4_part 47 = .ok (.iconst 0, 1) := by decide +kernel
theorem dX4_part_48 : decode cX4_part 48 = .ok (.invokevirtual 83, 3) := by decide +kernel
theorem dX4_part_51 : decode cX4_part 51 = .ok (.return_, 1) := by decide +kernel
theorem dX4_priceAt_0 : decode cX4_priceAt 0 = .ok (.bipush 12, 2) := by decide +kernel
theorem dX4_priceAt_2 : decode cX4_priceAt 2 = .ok (.iload_n 1, 1) := by decide +kernel
theorem dX4_priceAt_3 : decode cX4_priceAt 3 = .ok (.imul, 1) := by decide +kernel
theorem dX4_priceAt_4 : decode cX4_priceAt 4 = .ok (.iload_n 2, 1) := by decide +kernel
theorem dX4_priceAt_5 : decode cX4_priceAt 5 = .ok (.iadd, 1) := by decide +kernel
theorem dX4_priceAt_6 : decode cX4_priceAt 6 = .ok (.istore 4, 2) := by decide +kernel
theorem dX4_priceAt_8 : decode cX4_priceAt 8 = .ok (.aload_n 0, 1) := by decide +kernel
theorem dX4_priceAt_9 : decode cX4_priceAt 9 = .ok (.getfield 30, 3) := by decide +kernel
theorem dX4_priceAt_12 : decode cX4_priceAt 12 = .ok (.iload_n 1, 1) := by decide +kernel
theorem dX4_priceAt_13 : decode cX4_priceAt 13 = .ok (.dup2, 1) := by decide +kernel
theorem dX4_priceAt_14 : decode cX4_priceAt 14 = .ok (.iaload, 1) := by decide +kernel
theorem dX4_priceAt_15 : decode cX4_priceAt 15 = .ok (.iload_n 3, 1) := by decide +kernel
theorem dX4_priceAt_16 : decode cX4_priceAt 16 = .ok (.aload_n 0, 1) := by decide +kernel
theorem dX4_priceAt_17 : decode cX4_priceAt 17 = .ok (.getfield 27, 3) := by decide +kernel
theorem dX4_priceAt_20 : decode cX4_priceAt 20 = .ok (.iload 4, 2) := by decide +kernel
theorem dX4_priceAt_22 : decode cX4_priceAt 22 = .ok (.iaload, 1) := by decide +kernel
theorem dX4_priceAt_23 : decode cX4_priceAt 23 = .ok (.isub, 1) := by decide +kernel
theorem dX4_priceAt_24 : decode cX4_priceAt 24 = .ok (.iadd, 1) := by decide +kernel
theorem dX4_priceAt_25 : decode cX4_priceAt 25 = .ok (.iastore, 1) := by decide +kernel
theorem dX4_priceAt_26 : decode cX4_priceAt 26 = .ok (.aload_n 0, 1) := by decide +kernel
theorem dX4_priceAt_27 : decode cX4_priceAt 27 = .ok (.getfield 27, 3) := by decide +kernel
theorem dX4_priceAt_30 : decode cX4_priceAt 30 = .ok (.iload 4, 2) := by decide +kernel
theorem dX4_priceAt_32 : decode cX4_priceAt 32 = .ok (.iload_n 3, 1) := by decide +kernel
theorem dX4_priceAt_33 : decode cX4_priceAt 33 = .ok (.iastore, 1) := by decide +kernel
theorem dX4_priceAt_34 : decode cX4_priceAt 34 = .ok (.return_, 1) := by decide +kernel
theorem dX4_joinNeighbours_0 : decode cX4_joinNeighbours 0 = .ok (.iconst 0, 1) := by decide +kernel
theorem dX4_joinNeighbours_1 : decode cX4_joinNeighbours 1 = .ok (.istore_n 1, 1) := by decide +kernel
theorem dX4_joinNeighbours_2 : decode cX4_joinNeighbours 2 = .ok (.iload_n 1, 1) := by decide +kernel
theorem dX4_joinNeighbours_3 : decode cX4_joinNeighbours 3 = .ok (.aload_n 0, 1) := by decide +kernel
theorem dX4_joinNeighbours_4 : decode cX4_joinNeighbours 4 = .ok (.getfield 33, 3) := by decide +kernel
theorem dX4_joinNeighbours_7 : decode cX4_joinNeighbours 7 = .ok (.if_icmp .ge 43, 3) := by decide +kernel
theorem dX4_joinNeighbours_10 : decode cX4_joinNeighbours 10 = .ok (.iload_n 1, 1) := by decide +kernel
theorem dX4_joinNeighbours_11 : decode cX4_joinNeighbours 11 = .ok (.iconst 1, 1) := by decide +kernel
theorem dX4_joinNeighbours_12 : decode cX4_joinNeighbours 12 = .ok (.iadd, 1) := by decide +kernel
theorem dX4_joinNeighbours_13 : decode cX4_joinNeighbours 13 = .ok (.aload_n 0, 1) := by decide +kernel
theorem dX4_joinNeighbours_14 : decode cX4_joinNeighbours 14 = .ok (.getfield 33, 3) := by decide +kernel
theorem dX4_joinNeighbours_17 : decode cX4_joinNeighbours 17 = .ok (.if_icmp .ge 9, 3) := by decide +kernel
theorem dX4_joinNeighbours_20 : decode cX4_joinNeighbours 20 = .ok (.iload_n 1, 1) := by decide +kernel
theorem dX4_joinNeighbours_21 : decode cX4_joinNeighbours 21 = .ok (.iconst 1, 1) := by decide +kernel
theorem dX4_joinNeighbours_22 : decode cX4_joinNeighbours 22 = .ok (.iadd, 1) := by decide +kernel
theorem dX4_joinNeighbours_23 : decode cX4_joinNeighbours 23 = .ok (.goto 4, 3) := by decide +kernel
theorem dX4_joinNeighbours_26 : decode cX4_joinNeighbours 26 = .ok (.iconst 0, 1) := by decide +kernel
theorem dX4_joinNeighbours_27 : decode cX4_joinNeighbours 27 = .ok (.istore_n 2, 1) := by decide +kernel
theorem dX4_joinNeighbours_28 : decode cX4_joinNeighbours 28 = .ok (.aload_n 0, 1) := by decide +kernel
theorem dX4_joinNeighbours_29 : decode cX4_joinNeighbours 29 = .ok (.iload_n 1, 1) := by decide +kernel
theorem dX4_joinNeighbours_30 : decode cX4_joinNeighbours 30 = .ok (.iload_n 2, 1) := by decide +kernel
theorem dX4_joinNeighbours_31 : decode cX4_joinNeighbours 31 = .ok (.invokevirtual 80, 3) := by decide +kernel
theorem dX4_joinNeighbours_34 : decode cX4_joinNeighbours 34 = .ok (.ifCond .ne 10, 3) := by decide +kernel
theorem dX4_joinNeighbours_37 : decode cX4_joinNeighbours 37 = .ok (.aload_n 0, 1) := by decide +kernel
theorem dX4_joinNeighbours_38 : decode cX4_joinNeighbours 38 = .ok (.iload_n 1, 1) := by decide +kernel
theorem dX4_joinNeighbours_39 : decode cX4_joinNeighbours 39 = .ok (.iload_n 2, 1) := by decide +kernel
theorem dX4_joinNeighbours_40 : decode cX4_joinNeighbours 40 = .ok (.iconst 0, 1) := by decide +kernel
theorem dX4_joinNeighbours_41 : decode cX4_joinNeighbours 41 = .ok (.invokevirtual 74, 3) := by decide +kernel
theorem dX4_joinNeighbours_44 : decode cX4_joinNeighbours 44 = .ok (.iinc 1 1, 3) := by decide +kernel
theorem dX4_joinNeighbours_47 : decode cX4_joinNeighbours 47 = .ok (.goto (-45), 3) := by decide +kernel
theorem dX4_joinNeighbours_50 : decode cX4_joinNeighbours 50 = .ok (.return_, 1) := by decide +kernel
theorem dX4_joinAll_0 : decode cX4_joinAll 0 = .ok (.iconst 0, 1) := by decide +kernel
theorem dX4_joinAll_1 : decode cX4_joinAll 1 = .ok (.istore_n 1, 1) := by decide +kernel
theorem dX4_joinAll_2 : decode cX4_joinAll 2 = .ok (.iload_n 1, 1) := by decide +kernel
theorem dX4_joinAll_3 : decode cX4_joinAll 3 = .ok (.aload_n 0, 1) := by decide +kernel
theorem dX4_joinAll_4 : decode cX4_joinAll 4 = .ok (.getfield 33, 3) := by decide +kernel
theorem dX4_joinAll_7 : decode cX4_joinAll 7 = .ok (.if_icmp .ge 43, 3) := by decide +kernel
theorem dX4_joinAll_10 : decode cX4_joinAll 10 = .ok (.iload_n 1, 1) := by decide +kernel
theorem dX4_joinAll_11 : decode cX4_joinAll 11 = .ok (.iconst 1, 1) := by decide +kernel
theorem dX4_joinAll_12 : decode cX4_joinAll 12 = .ok (.iadd, 1) := by decide +kernel
theorem dX4_joinAll_13 : decode cX4_joinAll 13 = .ok (.istore_n 2, 1) := by decide +kernel
theorem dX4_joinAll_14 : decode cX4_joinAll 14 = .ok (.iload_n 2, 1) := by decide +kernel
theorem dX4_joinAll_15 : decode cX4_joinAll 15 = .ok (.aload_n 0, 1) := by decide +kernel
theorem dX4_joinAll_16 : decode cX4_joinAll 16 = .ok (.getfield 33, 3) := by decide +kernel
theorem dX4_joinAll_19 : decode cX4_joinAll 19 = .ok (.if_icmp .ge 25, 3) := by decide +kernel
theorem dX4_joinAll_22 : decode cX4_joinAll 22 = .ok (.aload_n 0, 1) := by decide +kernel
theorem dX4_joinAll_23 : decode cX4_joinAll 23 = .ok (.iload_n 1, 1) := by decide +kernel
theorem dX4_joinAll_24 : decode cX4_joinAll 24 = .ok (.iload_n 2, 1) := by decide +kernel
theorem dX4_joinAll_25 : decode cX4_joinAll 25 = .ok (.invokevirtual 80, 3) := by decide +kernel
theorem dX4_joinAll_28 : decode cX4_joinAll 28 = .ok (.ifCond .ne 10, 3) := by decide +kernel
theorem dX4_joinAll_31 : decode cX4_joinAll 31 = .ok (.aload_n 0, 1) := by decide +kernel
theorem dX4_joinAll_32 : decode cX4_joinAll 32 = .ok (.iload_n 1, 1) := by decide +kernel
theorem dX4_joinAll_33 : decode cX4_joinAll 33 = .ok (.iload_n 2, 1) := by decide +kernel
theorem dX4_joinAll_34 : decode cX4_joinAll 34 = .ok (.iconst 0, 1) := by decide +kernel
theorem dX4_joinAll_35 : decode cX4_joinAll 35 = .ok (.invokevirtual 74, 3) := by decide +kernel
theorem dX4_joinAll_38 : decode cX4_joinAll 38 = .ok (.iinc 2 1, 3) := by decide +kernel
theorem dX4_joinAll_41 : decode cX4_joinAll 41 = .ok (.goto (-27), 3) := by decide +kernel
theorem dX4_joinAll_44 : decode cX4_joinAll 44 = .ok (.iinc 1 1, 3) := by decide +kernel
theorem dX4_joinAll_47 : decode cX4_joinAll 47 = .ok (.goto (-45), 3) := by decide +kernel
theorem dX4_joinAll_50 : decode cX4_joinAll 50 = .ok (.return_, 1) := by decide +kernel
theorem dX4_ties_0 : decode cX4_ties 0 = .ok (.iconst 0, 1) := by decide +kernel
theorem dX4_ties_1 : decode cX4_ties 1 = .ok (.istore_n 1, 1) := by decide +kernel
theorem dX4_ties_2 : decode cX4_ties 2 = .ok (.iconst 0, 1) := by decide +kernel
theorem dX4_ties_3 : decode cX4_ties 3 = .ok (.istore_n 2, 1) := by decide +kernel
theorem dX4_ties_4 : decode cX4_ties 4 = .ok (.iload_n 2, 1) := by decide +kernel
theorem dX4_ties_5 : decode cX4_ties 5 = .ok (.aload_n 0, 1) := by decide +kernel
theorem dX4_ties_6 : decode cX4_ties 6 = .ok (.getfield 33, 3) := by decide +kernel
theorem dX4_ties_9 : decode cX4_ties 9 = .ok (.if_icmp .ge 21, 3) := by decide +kernel
theorem dX4_ties_12 : decode cX4_ties 12 = .ok (.iload_n 1, 1) := by decide +kernel
theorem dX4_ties_13 : decode cX4_ties 13 = .ok (.aload_n 0, 1) := by decide +kernel
theorem dX4_ties_14 : decode cX4_ties 14 = .ok (.getfield 18, 3) := by decide +kernel
theorem dX4_ties_17 : decode cX4_ties 17 = .ok (.iload_n 2, 1) := by decide +kernel
theorem dX4_ties_18 : decode cX4_ties 18 = .ok (.iaload, 1) := by decide +kernel
theorem dX4_ties_19 : decode cX4_ties 19 = .ok (.invokestatic 86, 3) := by decide +kernel
theorem dX4_ties_22 : decode cX4_ties 22 = .ok (.iadd, 1) := by decide +kernel
theorem dX4_ties_23 : decode cX4_ties 23 = .ok (.istore_n 1, 1) := by decide +kernel
theorem dX4_ties_24 : decode cX4_ties 24 = .ok (.iinc 2 1, 3) := by decide +kernel
theorem dX4_ties_27 : decode cX4_ties 27 = .ok (.goto (-23), 3) := by decide +kernel
theorem dX4_ties_30 : decode cX4_ties 30 = .ok (.iload_n 1, 1) := by decide +kernel
theorem dX4_ties_31 : decode cX4_ties 31 = .ok (.iconst 2, 1) := by decide +kernel
theorem dX4_ties_32 : decode cX4_ties 32 = .ok (.idiv, 1) := by decide +kernel
theorem dX4_ties_33 : decode cX4_ties 33 = .ok (.ireturn, 1) := by decide +kernel
theorem dX4_prices_0 : decode cX4_prices 0 = .ok (.iconst 0, 1) := by decide +kernel
theorem dX4_prices_1 : decode cX4_prices 1 = .ok (.istore_n 1, 1) := by decide +kernel
theorem dX4_prices_2 : decode cX4_prices 2 = .ok (.iconst 0, 1) := by decide +kernel
theorem dX4_prices_3 : decode cX4_prices 3 = .ok (.istore_n 2, 1) := by decide +kernel
theorem dX4_prices_4 : decode cX4_prices 4 = .ok (.iload_n 2, 1) := by decide +kernel
theorem dX4_prices_5 : decode cX4_prices 5 = .ok (.aload_n 0, 1) := by decide +kernel
theorem dX4_prices_6 : decode cX4_prices 6 = .ok (.getfield 33, 3) := by decide +kernel
theorem dX4_prices_9 : decode cX4_prices 9 = .ok (.if_icmp .ge 18, 3) := by decide +kernel
theorem dX4_prices_12 : decode cX4_prices 12 = .ok (.iload_n 1, 1) := by decide +kernel
theorem dX4_prices_13 : decode cX4_prices 13 = .ok (.aload_n 0, 1) := by decide +kernel
theorem dX4_prices_14 : decode cX4_prices 14 = .ok (.getfield 30, 3) := by decide +kernel
theorem dX4_prices_17 : decode cX4_prices 17 = .ok (.iload_n 2, 1) := by decide +kernel
theorem dX4_prices_18 : decode cX4_prices 18 = .ok (.iaload, 1) := by decide +kernel
theorem dX4_prices_19 : decode cX4_prices 19 = .ok (.iadd, 1) := by decide +kernel
theorem dX4_prices_20 : decode cX4_prices 20 = .ok (.istore_n 1, 1) := by decide +kernel
theorem dX4_prices_21 : decode cX4_prices 21 = .ok (.iinc 2 1, 3) := by decide +kernel
theorem dX4_prices_24 : decode cX4_prices 24 = .ok (.goto (-20), 3) := by decide +kernel
theorem dX4_prices_27 : decode cX4_prices 27 = .ok (.iload_n 1, 1) := by decide +kernel
theorem dX4_prices_28 : decode cX4_prices 28 = .ok (.iconst 2, 1) := by decide +kernel
theorem dX4_prices_29 : decode cX4_prices 29 = .ok (.idiv, 1) := by decide +kernel
theorem dX4_prices_30 : decode cX4_prices 30 = .ok (.ireturn, 1) := by decide +kernel
theorem dX4_gainOf_0 : decode cX4_gainOf 0 = .ok (.aload_n 0, 1) := by decide +kernel
theorem dX4_gainOf_1 : decode cX4_gainOf 1 = .ok (.getfield 18, 3) := by decide +kernel
theorem dX4_gainOf_4 : decode cX4_gainOf 4 = .ok (.iload_n 1, 1) := by decide +kernel
theorem dX4_gainOf_5 : decode cX4_gainOf 5 = .ok (.iaload, 1) := by decide +kernel
theorem dX4_gainOf_6 : decode cX4_gainOf 6 = .ok (.iconst 1, 1) := by decide +kernel
theorem dX4_gainOf_7 : decode cX4_gainOf 7 = .ok (.iload_n 1, 1) := by decide +kernel
theorem dX4_gainOf_8 : decode cX4_gainOf 8 = .ok (.ishl, 1) := by decide +kernel
theorem dX4_gainOf_9 : decode cX4_gainOf 9 = .ok (.ior, 1) := by decide +kernel
theorem dX4_gainOf_10 : decode cX4_gainOf 10 = .ok (.iload_n 2, 1) := by decide +kernel
theorem dX4_gainOf_11 : decode cX4_gainOf 11 = .ok (.iand, 1) := by decide +kernel
theorem dX4_gainOf_12 : decode cX4_gainOf 12 = .ok (.invokestatic 86, 3) := by decide +kernel
theorem dX4_gainOf_15 : decode cX4_gainOf 15 = .ok (.istore_n 3, 1) := by decide +kernel
theorem dX4_gainOf_16 : decode cX4_gainOf 16 = .ok (.iload_n 3, 1) := by decide +kernel
theorem dX4_gainOf_17 : decode cX4_gainOf 17 = .ok (.ifCond .le 21, 3) := by decide +kernel
theorem dX4_gainOf_20 : decode cX4_gainOf 20 = .ok (.aload_n 0, 1) := by decide +kernel
theorem dX4_gainOf_21 : decode cX4_gainOf 21 = .ok (.getfield 15, 3) := by decide +kernel
theorem dX4_gainOf_24 : decode cX4_gainOf 24 = .ok (.iload_n 1, 1) := by decide +kernel
theorem dX4_gainOf_25 : decode cX4_gainOf 25 = .ok (.iaload, 1) := by decide +kernel
theorem dX4_gainOf_26 : decode cX4_gainOf 26 = .ok (.aload_n 0, 1) := by decide +kernel
theorem dX4_gainOf_27 : decode cX4_gainOf 27 = .ok (.getfield 37, 3) := by decide +kernel
theorem dX4_gainOf_30 : decode cX4_gainOf 30 = .ok (.iload_n 3, 1) := by decide +kernel
theorem dX4_gainOf_31 : decode cX4_gainOf 31 = .ok (.iconst 1, 1) := by decide +kernel
theorem dX4_gainOf_32 : decode cX4_gainOf 32 = .ok (.isub, 1) := by decide +kernel
theorem dX4_gainOf_33 : decode cX4_gainOf 33 = .ok (.imul, 1) := by decide +kernel
theorem dX4_gainOf_34 : decode cX4_gainOf 34 = .ok (.iadd, 1) := by decide +kernel
theorem dX4_gainOf_35 : decode cX4_gainOf 35 = .ok (.goto 4, 3) := by decide +kernel
theorem dX4_gainOf_38 : decode cX4_gainOf 38 = .ok (.iconst 0, 1) := by decide +kernel
theorem dX4_gainOf_39 : decode cX4_gainOf 39 = .ok (.istore 4, 2) := by decide +kernel
theorem dX4_gainOf_41 : decode cX4_gainOf 41 = .ok (.iload_n 1, 1) := by decide +kernel
theorem dX4_gainOf_42 : decode cX4_gainOf 42 = .ok (.iload_n 2, 1) := by decide +kernel
theorem dX4_gainOf_43 : decode cX4_gainOf 43 = .ok (.invokestatic 63, 3) := by decide +kernel
theorem dX4_gainOf_46 : decode cX4_gainOf 46 = .ok (.ifCond .eq 12, 3) := by decide +kernel
theorem dX4_gainOf_49 : decode cX4_gainOf 49 = .ok (.aload_n 0, 1) := by decide +kernel
theorem dX4_gainOf_50 : decode cX4_gainOf 50 = .ok (.getfield 9, 3) := by decide +kernel
theorem dX4_gainOf_53 : decode cX4_gainOf 53 = .ok (.iload_n 1, 1) := by decide +kernel
theorem dX4_gainOf_54 : decode cX4_gainOf 54 = .ok (.iaload, 1) := by decide +kernel
theorem dX4_gainOf_55 : decode cX4_gainOf 55 = .ok (.goto 4, 3) := by decide +kernel
theorem dX4_gainOf_58 : decode cX4_gainOf 58 = .ok (.iconst 0, 1) := by decide +kernel
theorem dX4_gainOf_59 : decode cX4_gainOf 59 = .ok (.istore 5, 2) := by decide +kernel
theorem dX4_gainOf_61 : decode cX4_gainOf 61 = .ok (.iload 4, 2) := by decide +kernel
theorem dX4_gainOf_63 : decode cX4_gainOf 63 = .ok (.iload 5, 2) := by decide +kernel
theorem dX4_gainOf_65 : decode cX4_gainOf 65 = .ok (.isub, 1) := by decide +kernel
theorem dX4_gainOf_66 : decode cX4_gainOf 66 = .ok (.aload_n 0, 1) := by decide +kernel
theorem dX4_gainOf_67 : decode cX4_gainOf 67 = .ok (.getfield 30, 3) := by decide +kernel
theorem dX4_gainOf_70 : decode cX4_gainOf 70 = .ok (.iload_n 1, 1) := by decide +kernel
theorem dX4_gainOf_71 : decode cX4_gainOf 71 = .ok (.iaload, 1) := by decide +kernel
theorem dX4_gainOf_72 : decode cX4_gainOf 72 = .ok (.isub, 1) := by decide +kernel
theorem dX4_gainOf_73 : decode cX4_gainOf 73 = .ok (.ireturn, 1) := by decide +kernel
theorem dX4_goodOf_0 : decode cX4_goodOf 0 = .ok (.iconst 0, 1) := by decide +kernel
theorem dX4_goodOf_1 : decode cX4_goodOf 1 = .ok (.istore_n 2, 1) := by decide +kernel
theorem dX4_goodOf_2 : decode cX4_goodOf 2 = .ok (.iconst 0, 1) := by decide +kernel
theorem dX4_goodOf_3 : decode cX4_goodOf 3 = .ok (.istore_n 3, 1) := by decide +kernel
theorem dX4_goodOf_4 : decode cX4_goodOf 4 = .ok (.iload_n 3, 1) := by decide +kernel
theorem dX4_goodOf_5 : decode cX4_goodOf 5 = .ok (.aload_n 0, 1) := by decide +kernel
theorem dX4_goodOf_6 : decode cX4_goodOf 6 = .ok (.getfield 33, 3) := by decide +kernel
theorem dX4_goodOf_9 : decode cX4_goodOf 9 = .ok (.if_icmp .ge 18, 3) := by decide +kernel
theorem dX4_goodOf_12 : decode cX4_goodOf 12 = .ok (.iload_n 2, 1) := by decide +kernel
theorem dX4_goodOf_13 : decode cX4_goodOf 13 = .ok (.aload_n 0, 1) := by decide +kernel
theorem dX4_goodOf_14 : decode cX4_goodOf 14 = .ok (.iload_n 3, 1) := by decide +kernel
theorem dX4_goodOf_15 : decode cX4_goodOf 15 = .ok (.iload_n 1, 1) := by decide +kernel
theorem dX4_goodOf_16 : decode cX4_goodOf 16 = .ok (.invokevirtual 92, 3) := by decide +kernel
theorem dX4_goodOf_19 : decode cX4_goodOf 19 = .ok (.iadd, 1) := by decide +kernel
theorem dX4_goodOf_20 : decode cX4_goodOf 20 = .ok (.istore_n 2, 1) := by decide +kernel
theorem dX4_goodOf_21 : decode cX4_goodOf 21 = .ok (.iinc 3 1, 3) := by decide +kernel
theorem dX4_goodOf_24 : decode cX4_goodOf 24 = .ok (.goto (-20), 3) := by decide +kernel
theorem dX4_goodOf_27 : decode cX4_goodOf 27 = .ok (.iload_n 2, 1) := by decide +kernel
theorem dX4_goodOf_28 : decode cX4_goodOf 28 = .ok (.ireturn, 1) := by decide +kernel
theorem dX4_edge_0 : decode cX4_edge 0 = .ok (.aload_n 0, 1) := by decide +kernel
theorem dX4_edge_1 : decode cX4_edge 1 = .ok (.getfield 18, 3) := by decide +kernel
theorem dX4_edge_4 : decode cX4_edge 4 = .ok (.iload_n 1, 1) := by decide +kernel
theorem dX4_edge_5 : decode cX4_edge 5 = .ok (.iaload, 1) := by decide +kernel
theorem dX4_edge_6 : decode cX4_edge 6 = .ok (.iload_n 2, 1) := by decide +kernel
theorem dX4_edge_7 : decode cX4_edge 7 = .ok (.iand, 1) := by decide +kernel
theorem dX4_edge_8 : decode cX4_edge 8 = .ok (.ifCond .ne 12, 3) := by decide +kernel
theorem dX4_edge_11 : decode cX4_edge 11 = .ok (.aload_n 0, 1) := by decide +kernel
theorem dX4_edge_12 : decode cX4_edge 12 = .ok (.getfield 15, 3) := by decide +kernel
theorem dX4_edge_15 : decode cX4_edge 15 = .ok (.iload_n 1, 1) := by decide +kernel
theorem dX4_edge_16 : decode cX4_edge 16 = .ok (.iaload, 1) := by decide +kernel
theorem dX4_edge_17 : decode cX4_edge 17 = .ok (.goto 7, 3) := by decide +kernel
theorem dX4_edge_20 : decode cX4_edge 20 = .ok (.aload_n 0, 1) := by decide +kernel
theorem dX4_edge_21 : decode cX4_edge 21 = .ok (.getfield 37, 3) := by decide +kernel
theorem dX4_edge_24 : decode cX4_edge 24 = .ok (.istore_n 3, 1) := by decide +kernel
theorem dX4_edge_25 : decode cX4_edge 25 = .ok (.iload_n 3, 1) := by decide +kernel
theorem dX4_edge_26 : decode cX4_edge 26 = .ok (.aload_n 0, 1) := by decide +kernel
theorem dX4_edge_27 : decode cX4_edge 27 = .ok (.getfield 9, 3) := by decide +kernel
theorem dX4_edge_30 : decode cX4_edge 30 = .ok (.iload_n 1, 1) := by decide +kernel
theorem dX4_edge_31 : decode cX4_edge 31 = .ok (.iaload, 1) := by decide +kernel
theorem dX4_edge_32 : decode cX4_edge 32 = .ok (.isub, 1) := by decide +kernel
theorem dX4_edge_33 : decode cX4_edge 33 = .ok (.ireturn, 1) := by decide +kernel
theorem dX4_gainByChange_0 : decode cX4_gainByChange 0 = .ok (.aload_n 0, 1) := by decide +kernel
theorem dX4_gainByChange_1 : decode cX4_gainByChange 1 = .ok (.iload_n 1, 1) := by decide +kernel
theorem dX4_gainByChange_2 : decode cX4_gainByChange 2 = .ok (.iload_n 2, 1) := by decide +kernel
theorem dX4_gainByChange_3 : decode cX4_gainByChange 3 = .ok (.invokevirtual 96, 3) := by decide +kernel
theorem dX4_gainByChange_6 : decode cX4_gainByChange 6 = .ok (.istore_n 3, 1) := by decide +kernel
theorem dX4_gainByChange_7 : decode cX4_gainByChange 7 = .ok (.iload_n 1, 1) := by decide +kernel
theorem dX4_gainByChange_8 : decode cX4_gainByChange 8 = .ok (.iload_n 2, 1) := by decide +kernel
theorem dX4_gainByChange_9 : decode cX4_gainByChange 9 = .ok (.invokestatic 63, 3) := by decide +kernel
theorem dX4_gainByChange_12 : decode cX4_gainByChange 12 = .ok (.ifCond .eq 8, 3) := by decide +kernel
theorem dX4_gainByChange_15 : decode cX4_gainByChange 15 = .ok (.iload_n 3, 1) := by decide +kernel
theorem dX4_gainByChange_16 : decode cX4_gainByChange 16 = .ok (.ineg, 1) := by decide +kernel
theorem dX4_gainByChange_17 : decode cX4_gainByChange 17 = .ok (.goto 4, 3) := by decide +kernel
theorem dX4_gainByChange_20 : decode cX4_gainByChange 20 = .ok (.iload_n 3, 1) := by decide +kernel
theorem dX4_gainByChange_21 : decode cX4_gainByChange 21 = .ok (.ireturn, 1) := by decide +kernel
theorem dX4_wouldChange_0 : decode cX4_wouldChange 0 = .ok (.aload_n 0, 1) := by decide +kernel
theorem dX4_wouldChange_1 : decode cX4_wouldChange 1 = .ok (.iload_n 1, 1) := by decide +kernel
theorem dX4_wouldChange_2 : decode cX4_wouldChange 2 = .ok (.invokevirtual 99, 3) := by decide +kernel
theorem dX4_wouldChange_5 : decode cX4_wouldChange 5 = .ok (.ifCond .ne 16, 3) := by decide +kernel
theorem dX4_wouldChange_8 : decode cX4_wouldChange 8 = .ok (.aload_n 0, 1) := by decide +kernel
theorem dX4_wouldChange_9 : decode cX4_wouldChange 9 = .ok (.iload_n 1, 1) := by decide +kernel
theorem dX4_wouldChange_10 : decode cX4_wouldChange 10 = .ok (.iload_n 2, 1) := by decide +kernel
theorem dX4_wouldChange_11 : decode cX4_wouldChange 11 = .ok (.invokevirtual 102, 3) := by decide +kernel
theorem dX4_wouldChange_14 : decode cX4_wouldChange 14 = .ok (.ifCond .le 7, 3) := by decide +kernel
theorem dX4_wouldChange_17 : decode cX4_wouldChange 17 = .ok (.iconst 1, 1) := by decide +kernel
theorem dX4_wouldChange_18 : decode cX4_wouldChange 18 = .ok (.goto 4, 3) := by decide +kernel
theorem dX4_wouldChange_21 : decode cX4_wouldChange 21 = .ok (.iconst 0, 1) := by decide +kernel
theorem dX4_wouldChange_22 : decode cX4_wouldChange 22 = .ok (.ireturn, 1) := by decide +kernel
theorem dX4_needOf_0 : decode cX4_needOf 0 = .ok (.aload_n 0, 1) := by decide +kernel
theorem dX4_needOf_1 : decode cX4_needOf 1 = .ok (.iload_n 1, 1) := by decide +kernel
theorem dX4_needOf_2 : decode cX4_needOf 2 = .ok (.iload_n 2, 1) := by decide +kernel
theorem dX4_needOf_3 : decode cX4_needOf 3 = .ok (.invokevirtual 105, 3) := by decide +kernel
theorem dX4_needOf_6 : decode cX4_needOf 6 = .ok (.ifCond .eq 12, 3) := by decide +kernel
theorem dX4_needOf_9 : decode cX4_needOf 9 = .ok (.aload_n 0, 1) := by decide +kernel
theorem dX4_needOf_10 : decode cX4_needOf 10 = .ok (.iload_n 1, 1) := by decide +kernel
theorem dX4_needOf_11 : decode cX4_needOf 11 = .ok (.iload_n 2, 1) := by decide +kernel
theorem dX4_needOf_12 : decode cX4_needOf 12 = .ok (.invokevirtual 102, 3) := by decide +kernel
theorem dX4_needOf_15 : decode cX4_needOf 15 = .ok (.goto 4, 3) := by decide +kernel
theorem dX4_needOf_18 : decode cX4_needOf 18 = .ok (.iconst 0, 1) := by decide +kernel
theorem dX4_needOf_19 : decode cX4_needOf 19 = .ok (.ireturn, 1) := by decide +kernel
theorem dX4_firstRestless_0 : decode cX4_firstRestless 0 = .ok (.iconst 0, 1) := by decide +kernel
theorem dX4_firstRestless_1 : decode cX4_firstRestless 1 = .ok (.istore_n 2, 1) := by decide +kernel
theorem dX4_firstRestless_2 : decode cX4_firstRestless 2 = .ok (.iload_n 2, 1) := by decide +kernel
theorem dX4_firstRestless_3 : decode cX4_firstRestless 3 = .ok (.aload_n 0, 1) := by decide +kernel
theorem dX4_firstRestless_4 : decode cX4_firstRestless 4 = .ok (.getfield 33, 3) := by decide +kernel
theorem dX4_firstRestless_7 : decode cX4_firstRestless 7 = .ok (.if_icmp .ge 39, 3) := by decide +kernel
theorem dX4_firstRestless_10 : decode cX4_firstRestless 10 = .ok (.aload_n 0, 1) := by decide +kernel
theorem dX4_firstRestless_11 : decode cX4_firstRestless 11 = .ok (.iload_n 2, 1) := by decide +kernel
theorem dX4_firstRestless_12 : decode cX4_firstRestless 12 = .ok (.invokevirtual 99, 3) := by decide +kernel
theorem dX4_firstRestless_15 : decode cX4_firstRestless 15 = .ok (.ifCond .eq 14, 3) := by decide +kernel
theorem dX4_firstRestless_18 : decode cX4_firstRestless 18 = .ok (.iload_n 2, 1) := by decide +kernel
theorem dX4_firstRestless_19 : decode cX4_firstRestless 19 = .ok (.iload_n 1, 1) := by decide +kernel
theorem dX4_firstRestless_20 : decode cX4_firstRestless 20 = .ok (.invokestatic 63, 3) := by decide +kernel
theorem dX4_firstRestless_23 : decode cX4_firstRestless 23 = .ok (.ifCond .ne 17, 3) := by decide +kernel
theorem dX4_firstRestless_26 : decode cX4_firstRestless 26 = .ok (.goto 12, 3) := by decide +kernel
theorem dX4_firstRestless_29 : decode cX4_firstRestless 29 = .ok (.aload_n 0, 1) := by decide +kernel
theorem dX4_firstRestless_30 : decode cX4_firstRestless 30 = .ok (.iload_n 2, 1) := by decide +kernel
theorem dX4_firstRestless_31 : decode cX4_firstRestless 31 = .ok (.iload_n 1, 1) := by decide +kernel
theorem dX4_firstRestless_32 : decode cX4_firstRestless 32 = .ok (.invokevirtual 102, 3) := by decide +kernel
theorem dX4_firstRestless_35 : decode cX4_firstRestless 35 = .ok (.ifCond .le 5, 3) := by decide +kernel
theorem dX4_firstRestless_38 : decode cX4_firstRestless 38 = .ok (.iload_n 2, 1) := by decide +kernel
theorem dX4_firstRestless_39 : decode cX4_firstRestless 39 = .ok (.ireturn, 1) := by decide +kernel
theorem dX4_firstRestless_40 : decode cX4_firstRestless 40 = .ok (.iinc 2 1, 3) := by decide +kernel
theorem dX4_firstRestless_43 : decode cX4_firstRestless 43 = .ok (.goto (-41), 3) := by decide +kernel
theorem dX4_firstRestless_46 : decode cX4_firstRestless 46 = .ok (.iconst (-1), 1) := by decide +kernel
theorem dX4_firstRestless_47 : decode cX4_firstRestless 47 = .ok (.ireturn, 1) := by decide +kernel
theorem dX4_isRest_0 : decode cX4_isRest 0 = .ok (.aload_n 0, 1) := by decide +kernel
theorem dX4_isRest_1 : decode cX4_isRest 1 = .ok (.iload_n 1, 1) := by decide +kernel
theorem dX4_isRest_2 : decode cX4_isRest 2 = .ok (.invokevirtual 108, 3) := by decide +kernel
theorem dX4_isRest_5 : decode cX4_isRest 5 = .ok (.iconst (-1), 1) := by decide +kernel
theorem dX4_isRest_6 : decode cX4_isRest 6 = .ok (.if_icmp .ne 7, 3) := by decide +kernel
theorem dX4_isRest_9 : decode cX4_isRest 9 = .ok (.iconst 1, 1) := by decide +kernel
theorem dX4_isRest_10 : decode cX4_isRest 10 = .ok (.goto 4, 3) := by decide +kernel
theorem dX4_isRest_13 : decode cX4_isRest 13 = .ok (.iconst 0, 1) := by decide +kernel
theorem dX4_isRest_14 : decode cX4_isRest 14 = .ok (.ireturn, 1) := by decide +kernel
theorem dX4_rests_0 : decode cX4_rests 0 = .ok (.iconst 0, 1) := by decide +kernel
theorem dX4_rests_1 : decode cX4_rests 1 = .ok (.istore_n 1, 1) := by decide +kernel
theorem dX4_rests_2 : decode cX4_rests 2 = .ok (.iconst 0, 1) := by decide +kernel
theorem dX4_rests_3 : decode cX4_rests 3 = .ok (.istore_n 2, 1) := by decide +kernel
theorem dX4_rests_4 : decode cX4_rests 4 = .ok (.iload_n 2, 1) := by decide +kernel
theorem dX4_rests_5 : decode cX4_rests 5 = .ok (.aload_n 0, 1) := by decide +kernel
theorem dX4_rests_6 : decode cX4_rests 6 = .ok (.invokevirtual 59, 3) := by decide +kernel
theorem dX4_rests_9 : decode cX4_rests 9 = .ok (.if_icmp .ge 20, 3) := by decide +kernel
theorem dX4_rests_12 : decode cX4_rests 12 = .ok (.aload_n 0, 1) := by decide +kernel
theorem dX4_rests_13 : decode cX4_rests 13 = .ok (.iload_n 2, 1) := by decide +kernel
theorem dX4_rests_14 : decode cX4_rests 14 = .ok (.invokevirtual 111, 3) := by decide +kernel
theorem dX4_rests_17 : decode cX4_rests 17 = .ok (.ifCond .eq 6, 3) := by decide +kernel
theorem dX4_rests_20 : decode cX4_rests 20 = .ok (.iinc 1 1, 3) := by decide +kernel
theorem dX4_rests_23 : decode cX4_rests 23 = .ok (.iinc 2 1, 3) := by decide +kernel
theorem dX4_rests_26 : decode cX4_rests 26 = .ok (.goto (-22), 3) := by decide +kernel
theorem dX4_rests_29 : decode cX4_rests 29 = .ok (.iload_n 1, 1) := by decide +kernel
theorem dX4_rests_30 : decode cX4_rests 30 = .ok (.ireturn, 1) := by decide +kernel
theorem dX4_restNumber_0 : decode cX4_restNumber 0 = .ok (.iconst 0, 1) := by decide +kernel
theorem dX4_restNumber_1 : decode cX4_restNumber 1 = .ok (.istore_n 2, 1) := by decide +kernel
theorem dX4_restNumber_2 : decode cX4_restNumber 2 = .ok (.iconst 0, 1) := by decide +kernel
theorem dX4_restNumber_3 : decode cX4_restNumber 3 = .ok (.istore_n 3, 1) := by decide +kernel
theorem dX4_restNumber_4 : decode cX4_restNumber 4 = .ok (.iload_n 3, 1) := by decide +kernel
theorem dX4_restNumber_5 : decode cX4_restNumber 5 = .ok (.aload_n 0, 1) := by decide +kernel
theorem dX4_restNumber_6 : decode cX4_restNumber 6 = .ok (.invokevirtual 59, 3) := by decide +kernel
theorem dX4_restNumber_9 : decode cX4_restNumber 9 = .ok (.if_icmp .ge 27, 3) := by decide +kernel
theorem dX4_restNumber_12 : decode cX4_restNumber 12 = .ok (.aload_n 0, 1) := by decide +kernel
theorem dX4_restNumber_13 : decode cX4_restNumber 13 = .ok (.iload_n 3, 1) := by decide +kernel
theorem dX4_restNumber_14 : decode cX4_restNumber 14 = .ok (.invokevirtual 111, 3) := by decide +kernel
theorem dX4_restNumber_17 : decode cX4_restNumber 17 = .ok (.ifCond .eq 13, 3) := by decide +kernel
theorem dX4_restNumber_20 : decode cX4_restNumber 20 = .ok (.iload_n 2, 1) := by decide +kernel
theorem dX4_restNumber_21 : decode cX4_restNumber 21 = .ok (.iload_n 1, 1) := by decide +kernel
theorem dX4_restNumber_22 : decode cX4_restNumber 22 = .ok (.if_icmp .ne 5, 3) := by decide +kernel
theorem dX4_restNumber_25 : decode cX4_restNumber 25 = .ok (.iload_n 3, 1) := by decide +kernel
theorem dX4_restNumber_26 : decode cX4_restNumber 26 = .ok (.ireturn, 1) := by decide +kernel
theorem dX4_restNumber_27 : decode cX4_restNumber 27 = .ok (.iinc 2 1, 3) := by decide +kernel
theorem dX4_restNumber_30 : decode cX4_restNumber 30 = .ok (.iinc 3 1, 3) := by decide +kernel
theorem dX4_restNumber_33 : decode cX4_restNumber 33 = .ok (.goto (-29), 3) := by decide +kernel
theorem dX4_restNumber_36 : decode cX4_restNumber 36 = .ok (.iconst (-1), 1) := by decide +kernel
theorem dX4_restNumber_37 : decode cX4_restNumber 37 = .ok (.ireturn, 1) := by decide +kernel
theorem dX4_hasRestBelow_0 : decode cX4_hasRestBelow 0 = .ok (.iconst 0, 1) := by decide +kernel
theorem dX4_hasRestBelow_1 : decode cX4_hasRestBelow 1 = .ok (.istore_n 2, 1) := by decide +kernel
theorem dX4_hasRestBelow_2 : decode cX4_hasRestBelow 2 = .ok (.iload_n 2, 1) := by decide +kernel
theorem dX4_hasRestBelow_3 : decode cX4_hasRestBelow 3 = .ok (.aload_n 0, 1) := by decide +kernel
theorem dX4_hasRestBelow_4 : decode cX4_hasRestBelow 4 = .ok (.invokevirtual 59, 3) := by decide +kernel
theorem dX4_hasRestBelow_7 : decode cX4_hasRestBelow 7 = .ok (.if_icmp .ge 27, 3) := by decide +kernel
theorem dX4_hasRestBelow_10 : decode cX4_hasRestBelow 10 = .ok (.iload_n 2, 1) := by decide +kernel
theorem dX4_hasRestBelow_11 : decode cX4_hasRestBelow 11 = .ok (.invokestatic 86, 3) := by decide +kernel
theorem dX4_hasRestBelow_14 : decode cX4_hasRestBelow 14 = .ok (.iload_n 1, 1) := by decide +kernel
theorem dX4_hasRestBelow_15 : decode cX4_hasRestBelow 15 = .ok (.if_icmp .ge 13, 3) := by decide +kernel
theorem dX4_hasRestBelow_18 : decode cX4_hasRestBelow 18 = .ok (.aload_n 0, 1) := by decide +kernel
theorem dX4_hasRestBelow_19 : decode cX4_hasRestBelow 19 = .ok (.iload_n 2, 1) := by decide +kernel
theorem dX4_hasRestBelow_20 : decode cX4_hasRestBelow 20 = .ok (.invokevirtual 111, 3) := by decide +kernel
theorem dX4_hasRestBelow_23 : decode cX4_hasRestBelow 23 = .ok (.ifCond .eq 5, 3) := by decide +kernel
theorem dX4_hasRestBelow_26 : decode cX4_hasRestBelow 26 = .ok (.iconst 1, 1) := by decide +kernel
theorem dX4_hasRestBelow_27 : decode cX4_hasRestBelow 27 = .ok (.ireturn, 1) := by decide +kernel
theorem dX4_hasRestBelow_28 : decode cX4_hasRestBelow 28 = .ok (.iinc 2 1, 3) := by decide +kernel
theorem dX4_hasRestBelow_31 : decode cX4_hasRestBelow 31 = .ok (.goto (-29), 3) := by decide +kernel
theorem dX4_hasRestBelow_34 : decode cX4_hasRestBelow 34 = .ok (.iconst 0, 1) := by decide +kernel
theorem dX4_hasRestBelow_35 : decode cX4_hasRestBelow 35 = .ok (.ireturn, 1) := by decide +kernel
theorem dX4_choose_0 : decode cX4_choose 0 = .ok (.iconst (-1), 1) := by decide +kernel
theorem dX4_choose_1 : decode cX4_choose 1 = .ok (.istore_n 3, 1) := by decide +kernel
theorem dX4_choose_2 : decode cX4_choose 2 = .ok (.iconst 0, 1) := by decide +kernel
theorem dX4_choose_3 : decode cX4_choose 3 = .ok (.istore 4, 2) := by decide +kernel
theorem dX4_choose_5 : decode cX4_choose 5 = .ok (.iconst 0, 1) := by decide +kernel
theorem dX4_choose_6 : decode cX4_choose 6 = .ok (.istore 5, 2) := by decide +kernel
theorem dX4_choose_8 : decode cX4_choose 8 = .ok (.iload 5, 2) := by decide +kernel
theorem dX4_choose_10 : decode cX4_choose 10 = .ok (.aload_n 0, 1) := by decide +kernel
theorem dX4_choose_11 : decode cX4_choose 11 = .ok (.invokevirtual 59, 3) := by decide +kernel
theorem dX4_choose_14 : decode cX4_choose 14 = .ok (.if_icmp .ge 65, 3) := by decide +kernel
theorem dX4_choose_17 : decode cX4_choose 17 = .ok (.iload_n 2, 1) := by decide +kernel
theorem dX4_choose_18 : decode cX4_choose 18 = .ok (.ifCond .eq 15, 3) := by decide +kernel
theorem dX4_choose_21 : decode cX4_choose 21 = .ok (.aload_n 0, 1) := by decide +kernel
theorem dX4_choose_22 : decode cX4_choose 22 = .ok (.iload 5, 2) := by decide +kernel
theorem dX4_choose_24 : decode cX4_choose 24 = .ok (.invokevirtual 111, 3) := by decide +kernel
theorem dX4_choose_27 : decode cX4_choose 27 = .ok (.ifCond .ne 18, 3) := by decide +kernel
theorem dX4_choose_30 : decode cX4_choose 30 = .ok (.goto 43, 3) := by decide +kernel
theorem dX4_choose_33 : decode cX4_choose 33 = .ok (.aload_n 0, 1) := by decide +kernel
theorem dX4_choose_34 : decode cX4_choose 34 = .ok (.iload 5, 2) := by decide +kernel
theorem dX4_choose_36 : decode cX4_choose 36 = .ok (.invokevirtual 114, 3) := by decide +kernel
theorem dX4_choose_39 : decode cX4_choose 39 = .ok (.ifCond .ne 6, 3) := by decide +kernel
theorem dX4_choose_42 : decode cX4_choose 42 = .ok (.goto 31, 3) := by decide +kernel
theorem dX4_choose_45 : decode cX4_choose 45 = .ok (.aload_n 0, 1) := by decide +kernel
theorem dX4_choose_46 : decode cX4_choose 46 = .ok (.iload 5, 2) := by decide +kernel
theorem dX4_choose_48 : decode cX4_choose 48 = .ok (.iload_n 1, 1) := by decide +kernel
theorem dX4_choose_49 : decode cX4_choose 49 = .ok (.invokevirtual 117, 3) := by decide +kernel
theorem dX4_choose_52 : decode cX4_choose 52 = .ok (.istore 6, 2) := by decide +kernel
theorem dX4_choose_54 : decode cX4_choose 54 = .ok (.iload_n 3, 1) := by decide +kernel
theorem dX4_choose_55 : decode cX4_choose 55 = .ok (.iconst (-1), 1) := by decide +kernel
theorem dX4_choose_56 : decode cX4_choose 56 = .ok (.if_icmp .eq 10, 3) := by decide +kernel
theorem dX4_choose_59 : decode cX4_choose 59 = .ok (.iload 6, 2) := by decide +kernel
theorem dX4_choose_61 : decode cX4_choose 61 = .ok (.iload 4, 2) := by decide +kernel
theorem dX4_choose_63 : decode cX4_choose 63 = .ok (.if_icmp .le 10, 3) := by decide +kernel
theorem dX4_choose_66 : decode cX4_choose 66 = .ok (.iload 5, 2) := by decide +kernel
theorem dX4_choose_68 : decode cX4_choose 68 = .ok (.istore_n 3, 1) := by decide +kernel
theorem dX4_choose_69 : decode cX4_choose 69 = .ok (.iload 6, 2) := by decide +kernel
theorem dX4_choose_71 : decode cX4_choose 71 = .ok (.istore 4, 2) := by decide +kernel
theorem dX4_choose_73 : decode cX4_choose 73 = .ok (.iinc 5 1, 3) := by decide +kernel
theorem dX4_choose_76 : decode cX4_choose 76 = .ok (.goto (-68), 3) := by decide +kernel
theorem dX4_choose_79 : decode cX4_choose 79 = .ok (.iload_n 3, 1) := by decide +kernel
theorem dX4_choose_80 : decode cX4_choose 80 = .ok (.ireturn, 1) := by decide +kernel
theorem dX4_valueOf_0 : decode cX4_valueOf 0 = .ok (.iload_n 2, 1) := by decide +kernel
theorem dX4_valueOf_1 : decode cX4_valueOf 1 = .ok (.tableswitch 60 0 4 #[35, 41, 46, 60, 53], 35) := by decide +kernel
theorem dX4_valueOf_36 : decode cX4_valueOf 36 = .ok (.iload_n 1, 1) := by decide +kernel
theorem dX4_valueOf_37 : decode cX4_valueOf 37 = .ok (.invokestatic 86, 3) := by decide +kernel
theorem dX4_valueOf_40 : decode cX4_valueOf 40 = .ok (.ineg, 1) := by decide +kernel
theorem dX4_valueOf_41 : decode cX4_valueOf 41 = .ok (.ireturn, 1) := by decide +kernel
theorem dX4_valueOf_42 : decode cX4_valueOf 42 = .ok (.iload_n 1, 1) := by decide +kernel
theorem dX4_valueOf_43 : decode cX4_valueOf 43 = .ok (.invokestatic 86, 3) := by decide +kernel
theorem dX4_valueOf_46 : decode cX4_valueOf 46 = .ok (.ireturn, 1) := by decide +kernel
theorem dX4_valueOf_47 : decode cX4_valueOf 47 = .ok (.aload_n 0, 1) := by decide +kernel
theorem dX4_valueOf_48 : decode cX4_valueOf 48 = .ok (.iload_n 1, 1) := by decide +kernel
theorem dX4_valueOf_49 : decode cX4_valueOf 49 = .ok (.invokevirtual 120, 3) := by decide +kernel
theorem dX4_valueOf_52 : decode cX4_valueOf 52 = .ok (.ineg, 1) := by decide +kernel
theorem dX4_valueOf_53 : decode cX4_valueOf 53 = .ok (.ireturn, 1) := by decide +kernel
theorem dX4_valueOf_54 : decode cX4_valueOf 54 = .ok (.aload_n 0, 1) := by decide +kernel
theorem dX4_valueOf_55 : decode cX4_valueOf 55 = .ok (.iload_n 1, 1) := by decide +kernel
theorem dX4_valueOf_56 : decode cX4_valueOf 56 = .ok (.invokevirtual 123, 3) := by decide +kernel
theorem dX4_valueOf_59 : decode cX4_valueOf 59 = .ok (.ineg, 1) := by decide +kernel
theorem dX4_valueOf_60 : decode cX4_valueOf 60 = .ok (.ireturn, 1) := by decide +kernel
theorem dX4_valueOf_61 : decode cX4_valueOf 61 = .ok (.aload_n 0, 1) := by decide +kernel
theorem dX4_valueOf_62 : decode cX4_valueOf 62 = .ok (.iload_n 1, 1) := by decide +kernel
theorem dX4_valueOf_63 : decode cX4_valueOf 63 = .ok (.invokevirtual 123, 3) := by decide +kernel
theorem dX4_valueOf_66 : decode cX4_valueOf 66 = .ok (.ireturn, 1) := by decide +kernel
theorem dX4_costOf_0 : decode cX4_costOf 0 = .ok (.iconst 0, 1) := by decide +kernel
theorem dX4_costOf_1 : decode cX4_costOf 1 = .ok (.istore_n 2, 1) := by decide +kernel
theorem dX4_costOf_2 : decode cX4_costOf 2 = .ok (.iconst 0, 1) := by decide +kernel
theorem dX4_costOf_3 : decode cX4_costOf 3 = .ok (.istore_n 3, 1) := by decide +kernel
theorem dX4_costOf_4 : decode cX4_costOf 4 = .ok (.iload_n 3, 1) := by decide +kernel
theorem dX4_costOf_5 : decode cX4_costOf 5 = .ok (.aload_n 0, 1) := by decide +kernel
theorem dX4_costOf_6 : decode cX4_costOf 6 = .ok (.getfield 33, 3) := by decide +kernel
theorem dX4_costOf_9 : decode cX4_costOf 9 = .ok (.if_icmp .ge 26, 3) := by decide +kernel
theorem dX4_costOf_12 : decode cX4_costOf 12 = .ok (.iload_n 3, 1) := by decide +kernel
theorem dX4_costOf_13 : decode cX4_costOf 13 = .ok (.iload_n 1, 1) := by decide +kernel
theorem dX4_costOf_14 : decode cX4_costOf 14 = .ok (.invokestatic 63, 3) := by decide +kernel
theorem dX4_costOf_17 : decode cX4_costOf 17 = .ok (.ifCond .eq 12, 3) := by decide +kernel
theorem dX4_costOf_20 : decode cX4_costOf 20 = .ok (.iload_n 2, 1) := by decide +kernel
theorem dX4_costOf_21 : decode cX4_costOf 21 = .ok (.aload_n 0, 1) := by decide +kernel
theorem dX4_costOf_22 : decode cX4_costOf 22 = .ok (.getfield 9, 3) := by decide +kernel
theorem dX4_costOf_25 : decode cX4_costOf 25 = .ok (.iload_n 3, 1) := by decide +kernel
theorem dX4_costOf_26 : decode cX4_costOf 26 = .ok (.iaload, 1) := by decide +kernel
theorem dX4_costOf_27 : decode cX4_costOf 27 = .ok (.iadd, 1) := by decide +kernel
theorem dX4_costOf_28 : decode cX4_costOf 28 = .ok (.istore_n 2, 1) := by decide +kernel
theorem dX4_costOf_29 : decode cX4_costOf 29 = .ok (.iinc 3 1, 3) := by decide +kernel
theorem dX4_costOf_32 : decode cX4_costOf 32 = .ok (.goto (-28), 3) := by decide +kernel
theorem dX4_costOf_35 : decode cX4_costOf 35 = .ok (.iload_n 2, 1) := by decide +kernel
theorem dX4_costOf_36 : decode cX4_costOf 36 = .ok (.ireturn, 1) := by decide +kernel
theorem dX4_afterRound_0 : decode cX4_afterRound 0 = .ok (.iload_n 1, 1) := by decide +kernel
theorem dX4_afterRound_1 : decode cX4_afterRound 1 = .ok (.istore_n 2, 1) := by decide +kernel
theorem dX4_afterRound_2 : decode cX4_afterRound 2 = .ok (.iconst 0, 1) := by decide +kernel
theorem dX4_afterRound_3 : decode cX4_afterRound 3 = .ok (.istore_n 3, 1) := by decide +kernel
theorem dX4_afterRound_4 : decode cX4_afterRound 4 = .ok (.iload_n 3, 1) := by decide +kernel
theorem dX4_afterRound_5 : decode cX4_afterRound 5 = .ok (.aload_n 0, 1) := by decide +kernel
theorem dX4_afterRound_6 : decode cX4_afterRound 6 = .ok (.getfield 33, 3) := by decide +kernel
theorem dX4_afterRound_9 : decode cX4_afterRound 9 = .ok (.if_icmp .ge 24, 3) := by decide +kernel
theorem dX4_afterRound_12 : decode cX4_afterRound 12 = .ok (.aload_n 0, 1) := by decide +kernel
theorem dX4_afterRound_13 : decode cX4_afterRound 13 = .ok (.iload_n 3, 1) := by decide +kernel
theorem dX4_afterRound_14 : decode cX4_afterRound 14 = .ok (.iload_n 2, 1) := by decide +kernel
theorem dX4_afterRound_15 : decode cX4_afterRound 15 = .ok (.invokevirtual 105, 3) := by decide +kernel
theorem dX4_afterRound_18 : decode cX4_afterRound 18 = .ok (.ifCond .eq 9, 3) := by decide +kernel
theorem dX4_afterRound_21 : decode cX4_afterRound 21 = .ok (.iload_n 2, 1) := by decide +kernel
theorem dX4_afterRound_22 : decode cX4_afterRound 22 = .ok (.iconst 1, 1) := by decide +kernel
theorem dX4_afterRound_23 : decode cX4_afterRound 23 = .ok (.iload_n 3, 1) := by decide +kernel
theorem dX4_afterRound_24 : decode cX4_afterRound 24 = .ok (.ishl, 1) := by decide +kernel
theorem dX4_afterRound_25 : decode cX4_afterRound 25 = .ok (.ixor, 1) := by decide +kernel
theorem dX4_afterRound_26 : decode cX4_afterRound 26 = .ok (.istore_n 2, 1) := by decide +kernel
theorem dX4_afterRound_27 : decode cX4_afterRound 27 = .ok (.iinc 3 1, 3) := by decide +kernel
theorem dX4_afterRound_30 : decode cX4_afterRound 30 = .ok (.goto (-26), 3) := by decide +kernel
theorem dX4_afterRound_33 : decode cX4_afterRound 33 = .ok (.iload_n 2, 1) := by decide +kernel
theorem dX4_afterRound_34 : decode cX4_afterRound 34 = .ok (.ireturn, 1) := by decide +kernel
theorem dX4_chanceOf_0 : decode cX4_chanceOf 0 = .ok (.aload_n 0, 1) := by decide +kernel
theorem dX4_chanceOf_1 : decode cX4_chanceOf 1 = .ok (.iload_n 1, 1) := by decide +kernel
theorem dX4_chanceOf_2 : decode cX4_chanceOf 2 = .ok (.invokevirtual 99, 3) := by decide +kernel
theorem dX4_chanceOf_5 : decode cX4_chanceOf 5 = .ok (.ifCond .eq 7, 3) := by decide +kernel
theorem dX4_chanceOf_8 : decode cX4_chanceOf 8 = .ok (.sipush 1000, 3) := by decide +kernel
theorem dX4_chanceOf_11 : decode cX4_chanceOf 11 = .ok (.ireturn, 1) := by decide +kernel
theorem dX4_chanceOf_12 : decode cX4_chanceOf 12 = .ok (.aload_n 0, 1) := by decide +kernel
theorem dX4_chanceOf_13 : decode cX4_chanceOf 13 = .ok (.getfield 21, 3) := by decide +kernel
theorem dX4_chanceOf_16 : decode cX4_chanceOf 16 = .ok (.iload_n 1, 1) := by decide +kernel
theorem dX4_chanceOf_17 : decode cX4_chanceOf 17 = .ok (.iaload, 1) := by decide +kernel
theorem dX4_chanceOf_18 : decode cX4_chanceOf 18 = .ok (.iconst 2, 1) := by decide +kernel
theorem dX4_chanceOf_19 : decode cX4_chanceOf 19 = .ok (.if_icmp .ne 10, 3) := by decide +kernel
theorem dX4_chanceOf_22 : decode cX4_chanceOf 22 = .ok (.aload_n 0, 1) := by decide +kernel
theorem dX4_chanceOf_23 : decode cX4_chanceOf 23 = .ok (.getfield 24, 3) := by decide +kernel
theorem dX4_chanceOf_26 : decode cX4_chanceOf 26 = .ok (.iload_n 1, 1) := by decide +kernel
theorem dX4_chanceOf_27 : decode cX4_chanceOf 27 = .ok (.iaload, 1) := by decide +kernel
theorem dX4_chanceOf_28 : decode cX4_chanceOf 28 = .ok (.ireturn, 1) := by decide +kernel
theorem dX4_chanceOf_29 : decode cX4_chanceOf 29 = .ok (.aload_n 0, 1) := by decide +kernel
theorem dX4_chanceOf_30 : decode cX4_chanceOf 30 = .ok (.iload_n 1, 1) := by decide +kernel
theorem dX4_chanceOf_31 : decode cX4_chanceOf 31 = .ok (.iload_n 2, 1) := by decide +kernel
theorem dX4_chanceOf_32 : decode cX4_chanceOf 32 = .ok (.invokevirtual 126, 3) := by decide +kernel
theorem dX4_chanceOf_35 : decode cX4_chanceOf 35 = .ok (.ifCond .eq 9, 3) := by decide +kernel
theorem dX4_chanceOf_38 : decode cX4_chanceOf 38 = .ok (.sipush 1000, 3) := by decide +kernel
theorem dX4_chanceOf_41 : decode cX4_chanceOf 41 = .ok (.goto 4, 3) := by decide +kernel
theorem dX4_chanceOf_44 : decode cX4_chanceOf 44 = .ok (.iconst 0, 1) := by decide +kernel
theorem dX4_chanceOf_45 : decode cX4_chanceOf 45 = .ok (.ireturn, 1) := by decide +kernel
theorem dX4_doesSurely_0 : decode cX4_doesSurely 0 = .ok (.aload_n 0, 1) := by decide +kernel
theorem dX4_doesSurely_1 : decode cX4_doesSurely 1 = .ok (.getfield 24, 3) := by decide +kernel
theorem dX4_doesSurely_4 : decode cX4_doesSurely 4 = .ok (.iload_n 1, 1) := by decide +kernel
theorem dX4_doesSurely_5 : decode cX4_doesSurely 5 = .ok (.iaload, 1) := by decide +kernel
theorem dX4_doesSurely_6 : decode cX4_doesSurely 6 = .ok (.istore_n 3, 1) := by decide +kernel
theorem dX4_doesSurely_7 : decode cX4_doesSurely 7 = .ok (.aload_n 0, 1) := by decide +kernel
theorem dX4_doesSurely_8 : decode cX4_doesSurely 8 = .ok (.getfield 21, 3) := by decide +kernel
theorem dX4_doesSurely_11 : decode cX4_doesSurely 11 = .ok (.iload_n 1, 1) := by decide +kernel
theorem dX4_doesSurely_12 : decode cX4_doesSurely 12 = .ok (.iaload, 1) := by decide +kernel
theorem dX4_doesSurely_13 : decode cX4_doesSurely 13 = .ok (.tableswitch 108 1 5 #[35, 108, 46, 65, 93], 35) := by decide +kernel
theorem dX4_doesSurely_48 : decode cX4_doesSurely 48 = .ok (.iload_n 3, 1) := by decide +kernel
theorem dX4_doesSurely_49 : decode cX4_doesSurely 49 = .ok (.iconst 1, 1) := by decide +kernel
theorem dX4_doesSurely_50 : decode cX4_doesSurely 50 = .ok (.if_icmp .ne 7, 3) := by decide +kernel
theorem dX4_doesSurely_53 : decode cX4_doesSurely 53 = .ok (.iconst 1, 1) := by decide +kernel
theorem dX4_doesSurely_54 : decode cX4_doesSurely 54 = .ok (.goto 4, 3) := by decide +kernel
theorem dX4_doesSurely_57 : decode cX4_doesSurely 57 = .ok (.iconst 0, 1) := by decide +kernel
theorem dX4_doesSurely_58 : decode cX4_doesSurely 58 = .ok (.ireturn, 1) := by decide +kernel
theorem dX4_doesSurely_59 : decode cX4_doesSurely 59 = .ok (.aload_n 0, 1) := by decide +kernel
theorem dX4_doesSurely_60 : decode cX4_doesSurely 60 = .ok (.getfield 18, 3) := by decide +kernel
theorem dX4_doesSurely_63 : decode cX4_doesSurely 63 = .ok (.iload_n 1, 1) := by decide +kernel
theorem dX4_doesSurely_64 : decode cX4_doesSurely 64 = .ok (.iaload, 1) := by decide +kernel
theorem dX4_doesSurely_65 : decode cX4_doesSurely 65 = .ok (.invokestatic 86, 3) := by decide +kernel
theorem dX4_doesSurely_68 : decode cX4_doesSurely 68 = .ok (.iload_n 3, 1) := by decide +kernel
theorem dX4_doesSurely_69 : decode cX4_doesSurely 69 = .ok (.if_icmp .gt 7, 3) := by decide +kernel
theorem dX4_doesSurely_72 : decode cX4_doesSurely 72 = .ok (.iconst 1, 1) := by decide +kernel
theorem dX4_doesSurely_73 : decode cX4_doesSurely 73 = .ok (.goto 4, 3) := by decide +kernel
theorem dX4_doesSurely_76 : decode cX4_doesSurely 76 = .ok (.iconst 0, 1) := by decide +kernel
theorem dX4_doesSurely_77 : decode cX4_doesSurely 77 = .ok (.ireturn, 1) := by decide +kernel
theorem dX4_doesSurely_78 : decode cX4_doesSurely 78 = .ok (.iload_n 3, 1) := by decide +kernel
theorem dX4_doesSurely_79 : decode cX4_doesSurely 79 = .ok (.bipush 100, 2) := by decide +kernel
theorem dX4_doesSurely_81 : decode cX4_doesSurely 81 = .ok (.idiv, 1) := by decide +kernel
theorem dX4_doesSurely_82 : decode cX4_doesSurely 82 = .ok (.istore 4, 2) := by decide +kernel
theorem dX4_doesSurely_84 : decode cX4_doesSurely 84 = .ok (.iload 4, 2) := by decide +kernel
theorem dX4_doesSurely_86 : decode cX4_doesSurely 86 = .ok (.ifCond .le 18, 3) := by decide +kernel
theorem dX4_doesSurely_89 : decode cX4_doesSurely 89 = .ok (.iload_n 2, 1) := by decide +kernel
theorem dX4_doesSurely_90 : decode cX4_doesSurely 90 = .ok (.iload 4, 2) := by decide +kernel
theorem dX4_doesSurely_92 : decode cX4_doesSurely 92 = .ok (.irem, 1) := by decide +kernel
theorem dX4_doesSurely_93 : decode cX4_doesSurely 93 = .ok (.iload_n 3, 1) := by decide +kernel
theorem dX4_doesSurely_94 : decode cX4_doesSurely 94 = .ok (.bipush 100, 2) := by decide +kernel
theorem dX4_doesSurely_96 : decode cX4_doesSurely 96 = .ok (.irem, 1) := by decide +kernel
theorem dX4_doesSurely_97 : decode cX4_doesSurely 97 = .ok (.if_icmp .ne 7, 3) := by decide +kernel
theorem dX4_doesSurely_100 : decode cX4_doesSurely 100 = .ok (.iconst 1, 1) := by decide +kernel
theorem dX4_doesSurely_101 : decode cX4_doesSurely 101 = .ok (.goto 4, 3) := by decide +kernel
theorem dX4_doesSurely_104 : decode cX4_doesSurely 104 = .ok (.iconst 0, 1) := by decide +kernel
theorem dX4_doesSurely_105 : decode cX4_doesSurely 105 = .ok (.ireturn, 1) := by decide +kernel
theorem dX4_doesSurely_106 : decode cX4_doesSurely 106 = .ok (.aload_n 0, 1) := by decide +kernel
theorem dX4_doesSurely_107 : decode cX4_doesSurely 107 = .ok (.iload_n 1, 1) := by decide +kernel
theorem dX4_doesSurely_108 : decode cX4_doesSurely 108 = .ok (.iload_n 3, 1) := by decide +kernel
theorem dX4_doesSurely_109 : decode cX4_doesSurely 109 = .ok (.invokevirtual 96, 3) := by decide +kernel
theorem dX4_doesSurely_112 : decode cX4_doesSurely 112 = .ok (.ifCond .le 7, 3) := by decide +kernel
theorem dX4_doesSurely_115 : decode cX4_doesSurely 115 = .ok (.iconst 1, 1) := by decide +kernel
theorem dX4_doesSurely_116 : decode cX4_doesSurely 116 = .ok (.goto 4, 3) := by decide +kernel
theorem dX4_doesSurely_119 : decode cX4_doesSurely 119 = .ok (.iconst 0, 1) := by decide +kernel
theorem dX4_doesSurely_120 : decode cX4_doesSurely 120 = .ok (.ireturn, 1) := by decide +kernel
theorem dX4_doesSurely_121 : decode cX4_doesSurely 121 = .ok (.iconst 0, 1) := by decide +kernel
theorem dX4_doesSurely_122 : decode cX4_doesSurely 122 = .ok (.ireturn, 1) := by decide +kernel
theorem dX4_lightAfter_0 : decode cX4_lightAfter 0 = .ok (.iload_n 1, 1) := by decide +kernel
theorem dX4_lightAfter_1 : decode cX4_lightAfter 1 = .ok (.istore_n 3, 1) := by decide +kernel
theorem dX4_lightAfter_2 : decode cX4_lightAfter 2 = .ok (.iconst 0, 1) := by decide +kernel
theorem dX4_lightAfter_3 : decode cX4_lightAfter 3 = .ok (.istore 4, 2) := by decide +kernel
theorem dX4_lightAfter_5 : decode cX4_lightAfter 5 = .ok (.iload 4, 2) := by decide +kernel
theorem dX4_lightAfter_7 : decode cX4_lightAfter 7 = .ok (.aload_n 0, 1) := by decide +kernel
theorem dX4_lightAfter_8 : decode cX4_lightAfter 8 = .ok (.getfield 33, 3) := by decide +kernel
theorem dX4_lightAfter_11 : decode cX4_lightAfter 11 = .ok (.if_icmp .ge 27, 3) := by decide +kernel
theorem dX4_lightAfter_14 : decode cX4_lightAfter 14 = .ok (.iload_n 3, 1) := by decide +kernel
theorem dX4_lightAfter_15 : decode cX4_lightAfter 15 = .ok (.sipush 1000, 3) := by decide +kernel
theorem dX4_lightAfter_18 : decode cX4_lightAfter 18 = .ok (.aload_n 0, 1) := by decide +kernel
theorem dX4_lightAfter_19 : decode cX4_lightAfter 19 = .ok (.iload 4, 2) := by decide +kernel
theorem dX4_lightAfter_21 : decode cX4_lightAfter 21 = .ok (.iload_n 2, 1) := by decide +kernel
theorem dX4_lightAfter_22 : decode cX4_lightAfter 22 = .ok (.invokevirtual 129, 3) := by decide +kernel
theorem dX4_lightAfter_25 : decode cX4_lightAfter 25 = .ok (.isub, 1) := by decide +kernel
theorem dX4_lightAfter_26 : decode cX4_lightAfter 26 = .ok (.imul, 1) := by decide +kernel
theorem dX4_lightAfter_27 : decode cX4_lightAfter 27 = .ok (.sipush 1000, 3) := by decide +kernel
theorem dX4_lightAfter_30 : decode cX4_lightAfter 30 = .ok (.idiv, 1) := by decide +kernel
theorem dX4_lightAfter_31 : decode cX4_lightAfter 31 = .ok (.istore_n 3, 1) := by decide +kernel
theorem dX4_lightAfter_32 : decode cX4_lightAfter 32 = .ok (.iinc 4 1, 3) := by decide +kernel
theorem dX4_lightAfter_35 : decode cX4_lightAfter 35 = .ok (.goto (-30), 3) := by decide +kernel
theorem dX4_lightAfter_38 : decode cX4_lightAfter 38 = .ok (.iload_n 3, 1) := by decide +kernel
theorem dX4_lightAfter_39 : decode cX4_lightAfter 39 = .ok (.ireturn, 1) := by decide +kernel
theorem dX5_init_0 : decode cX5_init 0 = .ok (.aload_n 0, 1) := by decide +kernel
theorem dX5_init_1 : decode cX5_init 1 = .ok (.invokespecial 3, 3) := by decide +kernel
theorem dX5_init_4 : decode cX5_init 4 = .ok (.aload_n 0, 1) := by decide +kernel
theorem dX5_init_5 : decode cX5_init 5 = .ok (.iconst 4, 1) := by decide +kernel
theorem dX5_init_6 : decode cX5_init 6 = .ok (.anewarray 9, 3) := by decide +kernel
theorem dX5_init_9 : decode cX5_init 9 = .ok (.putfield 11, 3) := by decide +kernel
theorem dX5_init_12 : decode cX5_init 12 = .ok (.aload_n 0, 1) := by decide +kernel
theorem dX5_init_13 : decode cX5_init 13 = .ok (.bipush 6, 2) := by decide +kernel
theorem dX5_init_15 : decode cX5_init 15 = .ok (.newarray .int, 2) := by decide +kernel
theorem dX5_init_17 : decode cX5_init 17 = .ok (.putfield 17, 3) := by decide +kernel
theorem dX5_init_20 : decode cX5_init 20 = .ok (.aload_n 0, 1) := by decide +kernel
theorem dX5_init_21 : decode cX5_init 21 = .ok (.new 21, 3) := by decide +kernel
theorem dX5_init_24 : decode cX5_init 24 = .ok (.dup, 1) := by decide +kernel
theorem dX5_init_25 : decode cX5_init 25 = .ok (.invokespecial 23, 3) := by decide +kernel
theorem dX5_init_28 : decode cX5_init 28 = .ok (.putfield 24, 3) := by decide +kernel
theorem dX5_init_31 : decode cX5_init 31 = .ok (.aload_n 0, 1) := by decide +kernel
theorem dX5_init_32 : decode cX5_init 32 = .ok (.iconst 1, 1) := by decide +kernel
theorem dX5_init_33 : decode cX5_init 33 = .ok (.putfield 28, 3) := by decide +kernel
theorem dX5_init_36 : decode cX5_init 36 = .ok (.iconst 0, 1) := by decide +kernel
theorem dX5_init_37 : decode cX5_init 37 = .ok (.istore_n 1, 1) := by decide +kernel
theorem dX5_init_38 : decode cX5_init 38 = .ok (.iload_n 1, 1) := by decide +kernel
theorem dX5_init_39 : decode cX5_init 39 = .ok (.iconst 4, 1) := by decide +kernel
theorem dX5_init_40 : decode cX5_init 40 = .ok (.if_icmp .ge 22, 3) := by decide +kernel
theorem dX5_init_43 : decode cX5_init 43 = .ok (.aload_n 0, 1) := by decide +kernel
theorem dX5_init_44 : decode cX5_init 44 = .ok (.getfield 11, 3) := by decide +kernel
theorem dX5_init_47 : decode cX5_init 47 = .ok (.iload_n 1, 1) := by decide +kernel
theorem dX5_init_48 : decode cX5_init 48 = .ok (.new 9, 3) := by decide +kernel
theorem dX5_init_51 : decode cX5_init 51 = .ok (.dup, 1) := by decide +kernel
theorem dX5_init_52 : decode cX5_init 52 = .ok (.invokespecial 32, 3) := by decide +kernel
theorem dX5_init_55 : decode cX5_init 55 = .ok (.aastore, 1) := by decide +kernel
theorem dX5_init_56 : decode cX5_init 56 = .ok (.iinc 1 1, 3) := by decide +kernel
theorem dX5_init_59 : decode cX5_init 59 = .ok (.goto (-21), 3) := by decide +kernel
theorem dX5_init_62 : decode cX5_init 62 = .ok (.return_, 1) := by decide +kernel
theorem dX5_become_0 : decode cX5_become 0 = .ok (.iconst 0, 1) := by decide +kernel
theorem dX5_become_1 : decode cX5_become 1 = .ok (.istore_n 2, 1) := by decide +kernel
theorem dX5_become_2 : decode cX5_become 2 = .ok (.iload_n 2, 1) := by decide +kernel
theorem dX5_become_3 : decode cX5_become 3 = .ok (.aload_n 1, 1) := by decide +kernel
theorem dX5_become_4 : decode cX5_become 4 = .ok (.getfield 33, 3) := by decide +kernel
theorem dX5_become_7 : decode cX5_become 7 = .ok (.if_icmp .ge 29, 3) := by decide +kernel
theorem dX5_become_10 : decode cX5_become 10 = .ok (.iload_n 2, 1) := by decide +kernel
theorem dX5_become_11 : decode cX5_become 11 = .ok (.iconst 4, 1) := by decide +kernel
theorem dX5_become_12 : decode cX5_become 12 = .ok (.if_icmp .ge 24, 3) := by decide +kernel
theorem dX5_become_15 : decode cX5_become 15 = .ok (.aload_n 0, 1) := by decide +kernel
theorem dX5_become_16 : decode cX5_become 16 = .ok (.getfield 11, 3) := by decide +kernel
theorem dX5_become_19 : decode cX5_become 19 = .ok (.iload_n 2, 1) := by decide +kernel
theorem dX5_become_20 : decode cX5_become 20 = .ok (.aaload, 1) := by decide +kernel
theorem dX5_become_21 : decode cX5_become 21 = .ok (.aload_n 1, 1) := by decide +kernel
theorem dX5_become_22 : decode cX5_become 22 = .ok (.getfield 11, 3) := by decide +kernel
theorem dX5_become_25 : decode cX5_become 25 = .ok (.iload_n 2, 1) := by decide +kernel
theorem dX5_become_26 : decode cX5_become 26 = .ok (.aaload, 1) := by decide +kernel
theorem dX5_become_27 : decode cX5_become 27 = .ok (.invokevirtual 36, 3) := by decide +kernel
theorem dX5_become_30 : decode cX5_become 30 = .ok (.iinc 2 1, 3) := by decide +kernel
theorem dX5_become_33 : decode cX5_become 33 = .ok (.goto (-31), 3) := by decide +kernel
theorem dX5_become_36 : decode cX5_become 36 = .ok (.aload_n 1, 1) := by decide +kernel
theorem dX5_become_37 : decode cX5_become 37 = .ok (.getfield 17, 3) := by decide +kernel
theorem dX5_become_40 : decode cX5_become 40 = .ok (.iconst 0, 1) := by decide +kernel
theorem dX5_become_41 : decode cX5_become 41 = .ok (.aload_n 0, 1) := by decide +kernel
theorem dX5_become_42 : decode cX5_become 42 = .ok (.getfield 17, 3) := by decide +kernel
theorem dX5_become_45 : decode cX5_become 45 = .ok (.iconst 0, 1) := by decide +kernel
theorem dX5_become_46 : decode cX5_become 46 = .ok (.bipush 6, 2) := by decide +kernel
theorem dX5_become_48 : decode cX5_become 48 = .ok (.invokestatic 40, 3) := by decide +kernel
theorem dX5_become_51 : decode cX5_become 51 = .ok (.aload_n 0, 1) := by decide +kernel
theorem dX5_become_52 : decode cX5_become 52 = .ok (.getfield 24, 3) := by decide +kernel
theorem dX5_become_55 : decode cX5_become 55 = .ok (.aload_n 1, 1) := by decide +kernel
theorem dX5_become_56 : decode cX5_become 56 = .ok (.getfield 24, 3) := by decide +kernel
theorem dX5_become_59 : decode cX5_become 59 = .ok (.invokevirtual 46, 3) := by decide +kernel
theorem dX5_become_62 : decode cX5_become 62 = .ok (.aload_n 0, 1) := by decide +kernel
theorem dX5_become_63 : decode cX5_become 63 = .ok (.aload_n 1, 1) := by decide +kernel
theorem dX5_become_64 : decode cX5_become 64 = .ok (.getfield 33, 3) := by decide +kernel
theorem dX5_become_67 : decode cX5_become 67 = .ok (.putfield 33, 3) := by decide +kernel
theorem dX5_become_70 : decode cX5_become 70 = .ok (.aload_n 0, 1) := by decide +kernel
theorem dX5_become_71 : decode cX5_become 71 = .ok (.aload_n 1, 1) := by decide +kernel
theorem dX5_become_72 : decode cX5_become 72 = .ok (.getfield 28, 3) := by decide +kernel
theorem dX5_become_75 : decode cX5_become 75 = .ok (.putfield 28, 3) := by decide +kernel
theorem dX5_become_78 : decode cX5_become 78 = .ok (.return_, 1) := by decide +kernel
theorem dX5_streetAt_0 : decode cX5_streetAt 0 = .ok (.iload_n 1, 1) := by decide +kernel
theorem dX5_streetAt_1 : decode cX5_streetAt 1 = .ok (.ifCond .lt 25, 3) := by decide +kernel
theorem dX5_streetAt_4 : decode cX5_streetAt 4 = .ok (.iload_n 1, 1) := by decide +kernel
theorem dX5_streetAt_5 : decode cX5_streetAt 5 = .ok (.aload_n 0, 1) := by decide +kernel
theorem dX5_streetAt_6 : decode cX5_streetAt 6 = .ok (.getfield 33, 3) := by decide +kernel
theorem dX5_streetAt_9 : decode cX5_streetAt 9 = .ok (.if_icmp .ge 17, 3) := by decide +kernel
theorem dX5_streetAt_12 : decode cX5_streetAt 12 = .ok (.iload_n 1, 1) := by decide +kernel
theorem dX5_streetAt_13 : decode cX5_streetAt 13 = .ok (.iconst 4, 1) := by decide +kernel
theorem dX5_streetAt_14 : decode cX5_streetAt 14 = .ok (.if_icmp .ge 12, 3) := by decide +kernel
theorem dX5_streetAt_17 : decode cX5_streetAt 17 = .ok (.aload_n 0, 1) := by decide +kernel
theorem dX5_streetAt_18 : decode cX5_streetAt 18 = .ok (.getfield 11, 3) := by decide +kernel
theorem dX5_streetAt_21 : decode cX5_streetAt 21 = .ok (.iload_n 1, 1) := by decide +kernel
theorem dX5_streetAt_22 : decode cX5_streetAt 22 = .ok (.aaload, 1) := by decide +kernel
theorem dX5_streetAt_23 : decode cX5_streetAt 23 = .ok (.goto 4, 3) := by decide +kernel
theorem dX5_streetAt_26 : decode cX5_streetAt 26 = .ok (.aconst_null, 1) := by decide +kernel
theorem dX5_streetAt_27 : decode cX5_streetAt 27 = .ok (.areturn, 1) := by decide +kernel
theorem dX5_placeForNext_0 : decode cX5_placeForNext 0 = .ok (.aload_n 0, 1) := by decide +kernel
theorem dX5_placeForNext_1 : decode cX5_placeForNext 1 = .ok (.getfield 33, 3) := by decide +kernel
theorem dX5_placeForNext_4 : decode cX5_placeForNext 4 = .ok (.ifCond .lt 23, 3) := by decide +kernel
theorem dX5_placeForNext_7 : decode cX5_placeForNext 7 = .ok (.aload_n 0, 1) := by decide +kernel
theorem dX5_placeForNext_8 : decode cX5_placeForNext 8 = .ok (.getfield 33, 3) := by decide +kernel
theorem dX5_placeForNext_11 : decode cX5_placeForNext 11 = .ok (.iconst 4, 1) := by decide +kernel
theorem dX5_placeForNext_12 : decode cX5_placeForNext 12 = .ok (.if_icmp .ge 15, 3) := by decide +kernel
theorem dX5_placeForNext_15 : decode cX5_placeForNext 15 = .ok (.aload_n 0, 1) := by decide +kernel
theorem dX5_placeForNext_16 : decode cX5_placeForNext 16 = .ok (.getfield 11, 3) := by decide +kernel
theorem dX5_placeForNext_19 : decode cX5_placeForNext 19 = .ok (.aload_n 0, 1) := by decide +kernel
theorem dX5_placeForNext_20 : decode cX5_placeForNext 20 = .ok (.getfield 33, 3) := by decide +kernel
theorem dX5_placeForNext_23 : decode cX5_placeForNext 23 = .ok (.aaload, 1) := by decide +kernel
theorem dX5_placeForNext_24 : decode cX5_placeForNext 24 = .ok (.goto 4, 3) := by decide +kernel
theorem dX5_placeForNext_27 : decode cX5_placeForNext 27 = .ok (.aconst_null, 1) := by decide +kernel
theorem dX5_placeForNext_28 : decode cX5_placeForNext 28 = .ok (.areturn, 1) := by decide +kernel
theorem dX5_draw_0 : decode cX5_draw 0 = .ok (.aload_n 0, 1) := by decide +kernel
theorem dX5_draw_1 : decode cX5_draw 1 = .ok (.aload_n 0, 1) := by decide +kernel
theorem dX5_draw_2 : decode cX5_draw 2 = .ok (.getfield 28, 3) := by decide +kernel
theorem dX5_draw_5 : decode cX5_draw 5 = .ok (.ldc 49, 2) := by decide +kernel
theorem dX5_draw_7 : decode cX5_draw 7 = .ok (.imul, 1) := by decide +kernel
theorem dX5_draw_8 : decode cX5_draw 8 = .ok (.sipush 12345, 3) := by decide +kernel
theorem dX5_draw_11 : decode cX5_draw 11 = .ok (.iadd, 1) := by decide +kernel
theorem dX5_draw_12 : decode cX5_draw 12 = .ok (.putfield 28, 3) := by decide +kernel
theorem dX5_draw_15 : decode cX5_draw 15 = .ok (.iload_n 1, 1) := by decide +kernel
theorem dX5_draw_16 : decode cX5_draw 16 = .ok (.ifCond .le 15, 3) := by decide +kernel
theorem dX5_draw_19 : decode cX5_draw 19 = .ok (.aload_n 0, 1) := by decide +kernel
theorem dX5_draw_20 : decode cX5_draw 20 = .ok (.getfield 28, 3) := by decide +kernel
theorem dX5_draw_23 : decode cX5_draw 23 = .ok (.bipush 16, 2) := by decide +kernel
theorem dX5_draw_25 : decode cX5_draw 25 = .ok (.iushr, 1) := by decide +kernel
theorem dX5_draw_26 : decode cX5_draw 26 = .ok (.iload_n 1, 1) := by decide +kernel
theorem dX5_draw_27 : decode cX5_draw 27 = .ok (.irem, 1) := by decide +kernel
theorem dX5_draw_28 : decode cX5_draw 28 = .ok (.goto 4, 3) := by decide +kernel
theorem dX5_draw_31 : decode cX5_draw 31 = .ok (.iconst 0, 1) := by decide +kernel
theorem dX5_draw_32 : decode cX5_draw 32 = .ok (.ireturn, 1) := by decide +kernel
theorem dX5_isBarAtRest_0 : decode cX5_isBarAtRest 0 = .ok (.aload_n 0, 1) := by decide +kernel
theorem dX5_isBarAtRest_1 : decode cX5_isBarAtRest 1 = .ok (.iconst 5, 1) := by decide +kernel
theorem dX5_isBarAtRest_2 : decode cX5_isBarAtRest 2 = .ok (.invokevirtual 50, 3) := by decide +kernel
theorem dX5_isBarAtRest_5 : decode cX5_isBarAtRest 5 = .ok (.i2l, 1) := by decide +kernel
theorem dX5_isBarAtRest_6 : decode cX5_isBarAtRest 6 = .ok (.lstore 4, 2) := by decide +kernel
theorem dX5_isBarAtRest_8 : decode cX5_isBarAtRest 8 = .ok (.lload 4, 2) := by decide +kernel
theorem dX5_isBarAtRest_10 : decode cX5_isBarAtRest 10 = .ok (.aload_n 0, 1) := by decide +kernel
theorem dX5_isBarAtRest_11 : decode cX5_isBarAtRest 11 = .ok (.iload_n 1, 1) := by decide +kernel
theorem dX5_isBarAtRest_12 : decode cX5_isBarAtRest 12 = .ok (.invokevirtual 50, 3) := by decide +kernel
theorem dX5_isBarAtRest_15 : decode cX5_isBarAtRest 15 = .ok (.i2l, 1) := by decide +kernel
theorem dX5_isBarAtRest_16 : decode cX5_isBarAtRest 16 = .ok (.lsub, 1) := by decide +kernel
theorem dX5_isBarAtRest_17 : decode cX5_isBarAtRest 17 = .ok (.lstore 6, 2) := by decide +kernel
theorem dX5_isBarAtRest_19 : decode cX5_isBarAtRest 19 = .ok (.iconst 0, 1) := by decide +kernel
theorem dX5_isBarAtRest_20 : decode cX5_isBarAtRest 20 = .ok (.istore 8, 2) := by decide +kernel
theorem dX5_isBarAtRest_22 : decode cX5_isBarAtRest 22 = .ok (.iload 8, 2) := by decide +kernel
theorem dX5_isBarAtRest_24 : decode cX5_isBarAtRest 24 = .ok (.bipush 6, 2) := by decide +kernel
theorem dX5_isBarAtRest_26 : decode cX5_isBarAtRest 26 = .ok (.if_icmp .ge 68, 3) := by decide +kernel
theorem dX5_isBarAtRest_29 : decode cX5_isBarAtRest 29 = .ok (.iload_n 3, 1) := by decide +kernel
theorem dX5_isBarAtRest_30 : decode cX5_isBarAtRest 30 = .ok (.i2l, 1) := by decide +kernel
theorem dX5_isBarAtRest_31 : decode cX5_isBarAtRest 31 = .ok (.lload 6, 2) := by decide +kernel
theorem dX5_isBarAtRest_33 : decode cX5_isBarAtRest 33 = .ok (.iload 8, 2) := by decide +kernel
theorem dX5_isBarAtRest_35 : decode cX5_isBarAtRest 35 = .ok (.invokestatic 54, 3) := by decide +kernel
theorem dX5_isBarAtRest_38 : decode cX5_isBarAtRest 38 = .ok (.lmul, 1) := by decide +kernel
theorem dX5_isBarAtRest_39 : decode cX5_isBarAtRest 39 = .ok (.iload_n 2, 1) := by decide +kernel
theorem dX5_isBarAtRest_40 : decode cX5_isBarAtRest 40 = .ok (.i2l, 1) := by decide +kernel
theorem dX5_isBarAtRest_41 : decode cX5_isBarAtRest 41 = .ok (.lload 4, 2) := by decide +kernel
theorem dX5_isBarAtRest_43 : decode cX5_isBarAtRest 43 = .ok (.iload 8, 2) := by decide +kernel
theorem dX5_isBarAtRest_45 : decode cX5_isBarAtRest 45 = .ok (.invokestatic 54, 3) := by decide +kernel
theorem dX5_isBarAtRest_48 : decode cX5_isBarAtRest 48 = .ok (.lmul, 1) := by decide +kernel
theorem dX5_isBarAtRest_49 : decode cX5_isBarAtRest 49 = .ok (.lcmp, 1) := by decide +kernel
theorem dX5_isBarAtRest_50 : decode cX5_isBarAtRest 50 = .ok (.ifCond .lt 7, 3) := by decide +kernel
theorem dX5_isBarAtRest_53 : decode cX5_isBarAtRest 53 = .ok (.iconst 1, 1) := by decide +kernel
theorem dX5_isBarAtRest_54 : decode cX5_isBarAtRest 54 = .ok (.goto 4, 3) := by decide +kernel
theorem dX5_isBarAtRest_57 : decode cX5_isBarAtRest 57 = .ok (.iconst 0, 1) := by decide +kernel
theorem dX5_isBarAtRest_58 : decode cX5_isBarAtRest 58 = .ok (.istore 9, 2) := by decide +kernel
theorem dX5_isBarAtRest_60 : decode cX5_isBarAtRest 60 = .ok (.aload_n 0, 1) := by decide +kernel
theorem dX5_isBarAtRest_61 : decode cX5_isBarAtRest 61 = .ok (.getfield 17, 3) := by decide +kernel
theorem dX5_isBarAtRest_64 : decode cX5_isBarAtRest 64 = .ok (.iload 8, 2) := by decide +kernel
theorem dX5_isBarAtRest_66 : decode cX5_isBarAtRest 66 = .ok (.iaload, 1) := by decide +kernel
theorem dX5_isBarAtRest_67 : decode cX5_isBarAtRest 67 = .ok (.ifCond .le 21, 3) := by decide +kernel
theorem dX5_isBarAtRest_70 : decode cX5_isBarAtRest 70 = .ok (.iload 9, 2) := by decide +kernel
theorem dX5_isBarAtRest_72 : decode cX5_isBarAtRest 72 = .ok (.iload 8, 2) := by decide +kernel
theorem dX5_isBarAtRest_74 : decode cX5_isBarAtRest 74 = .ok (.iload_n 1, 1) := by decide +kernel
theorem dX5_isBarAtRest_75 : decode cX5_isBarAtRest 75 = .ok (.if_icmp .gt 7, 3) := by decide +kernel
theorem dX5_isBarAtRest_78 : decode cX5_isBarAtRest 78 = .ok (.iconst 1, 1) := by decide +kernel
theorem dX5_isBarAtRest_79 : decode cX5_isBarAtRest 79 = .ok (.goto 4, 3) := by decide +kernel
theorem dX5_isBarAtRest_82 : decode cX5_isBarAtRest 82 = .ok (.iconst 0, 1) := by decide +kernel
theorem dX5_isBarAtRest_83 : decode cX5_isBarAtRest 83 = .ok (.if_icmp .eq 5, 3) := by decide +kernel
theorem dX5_isBarAtRest_86 : decode cX5_isBarAtRest 86 = .ok (.iconst 0, 1) := by decide +kernel
theorem dX5_isBarAtRest_87 : decode cX5_isBarAtRest 87 = .ok (.ireturn, 1) := by decide +kernel
theorem dX5_isBarAtRest_88 : decode cX5_isBarAtRest 88 = .ok (.iinc 8 1, 3) := by decide +kernel
theorem dX5_isBarAtRest_91 : decode cX5_isBarAtRest 91 = .ok (.goto (-69), 3) := by decide +kernel
theorem dX5_isBarAtRest_94 : decode cX5_isBarAtRest 94 = .ok (.iconst 1, 1) := by decide +kernel
theorem dX5_isBarAtRest_95 : decode cX5_isBarAtRest 95 = .ok (.ireturn, 1) := by decide +kernel
theorem dX5_endsUpTo_0 : decode cX5_endsUpTo 0 = .ok (.iconst 0, 1) := by decide +kernel
theorem dX5_endsUpTo_1 : decode cX5_endsUpTo 1 = .ok (.istore_n 2, 1) := by decide +kernel
theorem dX5_endsUpTo_2 : decode cX5_endsUpTo 2 = .ok (.iconst 0, 1) := by decide +kernel
theorem dX5_endsUpTo_3 : decode cX5_endsUpTo 3 = .ok (.istore_n 3, 1) := by decide +kernel
theorem dX5_endsUpTo_4 : decode cX5_endsUpTo 4 = .ok (.iload_n 3, 1) := by decide +kernel
theorem dX5_endsUpTo_5 : decode cX5_endsUpTo 5 = .ok (.iload_n 1, 1) := by decide +kernel
theorem dX5_endsUpTo_6 : decode cX5_endsUpTo 6 = .ok (.if_icmp .gt 26, 3) := by decide +kernel
theorem dX5_endsUpTo_9 : decode cX5_endsUpTo 9 = .ok (.iload_n 3, 1) := by decide +kernel
theorem dX5_endsUpTo_10 : decode cX5_endsUpTo 10 = .ok (.bipush 6, 2) := by decide +kernel
theorem dX5_endsUpTo_12 : decode cX5_endsUpTo 12 = .ok (.if_icmp .ge 20, 3) := by decide +kernel
theorem dX5_endsUpTo_15 : decode cX5_endsUpTo 15 = .ok (.iload_n 2, 1) := by decide +kernel
theorem dX5_endsUpTo_16 : decode cX5_endsUpTo 16 = .ok (.iload_n 3, 1) := by decide +kernel
theorem dX5_endsUpTo_17 : decode cX5_endsUpTo 17 = .ok (.aload_n 0, 1) := by decide +kernel
theorem dX5_endsUpTo_18 : decode cX5_endsUpTo 18 = .ok (.getfield 17, 3) := by decide +kernel
theorem dX5_endsUpTo_21 : decode cX5_endsUpTo 21 = .ok (.iload_n 3, 1) := by decide +kernel
theorem dX5_endsUpTo_22 : decode cX5_endsUpTo 22 = .ok (.iaload, 1) := by decide +kernel
theorem dX5_endsUpTo_23 : decode cX5_endsUpTo 23 = .ok (.imul, 1) := by decide +kernel
theorem dX5_endsUpTo_24 : decode cX5_endsUpTo 24 = .ok (.iadd, 1) := by decide +kernel
theorem dX5_endsUpTo_25 : decode cX5_endsUpTo 25 = .ok (.istore_n 2, 1) := by decide +kernel
theorem dX5_endsUpTo_26 : decode cX5_endsUpTo 26 = .ok (.iinc 3 1, 3) := by decide +kernel
theorem dX5_endsUpTo_29 : decode cX5_endsUpTo 29 = .ok (.goto (-25), 3) := by decide +kernel
theorem dX5_endsUpTo_32 : decode cX5_endsUpTo 32 = .ok (.iload_n 2, 1) := by decide +kernel
theorem dX5_endsUpTo_33 : decode cX5_endsUpTo 33 = .ok (.ireturn, 1) := by decide +kernel
theorem dX6_init_0 : decode cX6_init 0 = .ok (.aload_n 0, 1) := by decide +kernel
theorem dX6_init_1 : decode cX6_init 1 = .ok (.invokespecial 1, 3) := by decide +kernel
theorem dX6_init_4 : decode cX6_init 4 = .ok (.aload_n 0, 1) := by decide +kernel
theorem dX6_init_5 : decode cX6_init 5 = .ok (.bipush 8, 2) := by decide +kernel
theorem dX6_init_7 : decode cX6_init 7 = .ok (.anewarray 9, 3) := by decide +kernel
theorem dX6_init_10 : decode cX6_init 10 = .ok (.putfield 11, 3) := by decide +kernel
theorem dX6_init_13 : decode cX6_init 13 = .ok (.aload_n 0, 1) := by decide +kernel
theorem dX6_init_14 : decode cX6_init 14 = .ok (.new 15, 3) := by decide +kernel
theorem dX6_init_17 : decode cX6_init 17 = .ok (.dup, 1) := by decide +kernel
theorem dX6_init_18 : decode cX6_init 18 = .ok (.invokespecial 17, 3) := by decide +kernel
theorem dX6_init_21 : decode cX6_init 21 = .ok (.putfield 18, 3) := by decide +kernel
theorem dX6_init_24 : decode cX6_init 24 = .ok (.aload_n 0, 1) := by decide +kernel
theorem dX6_init_25 : decode cX6_init 25 = .ok (.new 22, 3) := by decide +kernel
theorem dX6_init_28 : decode cX6_init 28 = .ok (.dup, 1) := by decide +kernel
theorem dX6_init_29 : decode cX6_init 29 = .ok (.invokespecial 24, 3) := by decide +kernel
theorem dX6_init_32 : decode cX6_init 32 = .ok (.putfield 25, 3) := by decide +kernel
theorem dX6_init_35 : decode cX6_init 35 = .ok (.aload_n 0, 1) := by decide +kernel
theorem dX6_init_36 : decode cX6_init 36 = .ok (.new 22, 3) := by decide +kernel
theorem dX6_init_39 : decode cX6_init 39 = .ok (.dup, 1) := by decide +kernel
theorem dX6_init_40 : decode cX6_init 40 = .ok (.invokespecial 24, 3) := by decide +kernel
theorem dX6_init_43 : decode cX6_init 43 = .ok (.putfield 29, 3) := by decide +kernel
theorem dX6_init_46 : decode cX6_init 46 = .ok (.aload_n 0, 1) := by decide +kernel
theorem dX6_init_47 : decode cX6_init 47 = .ok (.new 32, 3) := by decide +kernel
theorem dX6_init_50 : decode cX6_init 50 = .ok (.dup, 1) := by decide +kernel
theorem dX6_init_51 : decode cX6_init 51 = .ok (.invokespecial 34, 3) := by decide +kernel
theorem dX6_init_54 : decode cX6_init 54 = .ok (.putfield 35, 3) := by decide +kernel
theorem dX6_init_57 : decode cX6_init 57 = .ok (.aload_n 0, 1) := by decide +kernel
theorem dX6_init_58 : decode cX6_init 58 = .ok (.new 39, 3) := by decide +kernel
theorem dX6_init_61 : decode cX6_init 61 = .ok (.dup, 1) := by decide +kernel
theorem dX6_init_62 : decode cX6_init 62 = .ok (.invokespecial 41, 3) := by decide +kernel
theorem dX6_init_65 : decode cX6_init 65 = .ok (.putfield 42, 3) := by decide +kernel
theorem dX6_init_68 : decode cX6_init 68 = .ok (.aload_n 0, 1) := by decide +kernel
theorem dX6_init_69 : decode cX6_init 69 = .ok (.iconst 5, 1) := by decide +kernel
theorem dX6_init_70 : decode cX6_init 70 = .ok (.newarray .int, 2) := by decide +kernel
theorem dX6_init_72 : decode cX6_init 72 = .ok (.putfield 46, 3) := by decide +kernel
theorem dX6_init_75 : decode cX6_init 75 = .ok (.iconst 0, 1) := by decide +kernel
theorem dX6_init_76 : decode cX6_init 76 = .ok (.istore_n 1, 1) := by decide +kernel
theorem dX6_init_77 : decode cX6_init 77 = .ok (.iload_n 1, 1) := by decide +kernel
theorem dX6_init_78 : decode cX6_init 78 = .ok (.bipush 8, 2) := by decide +kernel
theorem dX6_init_80 : decode cX6_init 80 = .ok (.if_icmp .ge 22, 3) := by decide +kernel
theorem dX6_init_83 : decode cX6_init 83 = .ok (.aload_n 0, 1) := by decide +kernel
theorem dX6_init_84 : decode cX6_init 84 = .ok (.getfield 11, 3) := by decide +kernel
theorem dX6_init_87 : decode cX6_init 87 = .ok (.iload_n 1, 1) := by decide +kernel
theorem dX6_init_88 : decode cX6_init 88 = .ok (.new 9, 3) := by decide +kernel
theorem dX6_init_91 : decode cX6_init 91 = .ok (.dup, 1) := by decide +kernel
theorem dX6_init_92 : decode cX6_init 92 = .ok (.invokespecial 50, 3) := by decide +kernel
theorem dX6_init_95 : decode cX6_init 95 = .ok (.aastore, 1) := by decide +kernel
theorem dX6_init_96 : decode cX6_init 96 = .ok (.iinc 1 1, 3) := by decide +kernel
theorem dX6_init_99 : decode cX6_init 99 = .ok (.goto (-22), 3) := by decide +kernel
theorem dX6_init_102 : decode cX6_init 102 = .ok (.return_, 1) := by decide +kernel
theorem dX6_row_0 : decode cX6_row 0 = .ok (.aload_n 0, 1) := by decide +kernel
theorem dX6_row_1 : decode cX6_row 1 = .ok (.iload_n 1, 1) := by decide +kernel
theorem dX6_row_2 : decode cX6_row 2 = .ok (.invokevirtual 51, 3) := by decide +kernel
theorem dX6_row_5 : decode cX6_row 5 = .ok (.astore 4, 2) := by decide +kernel
theorem dX6_row_7 : decode cX6_row 7 = .ok (.aload 4, 2) := by decide +kernel
theorem dX6_row_9 : decode cX6_row 9 = .ok (.ifnull 22, 3) := by decide +kernel
theorem dX6_row_12 : decode cX6_row 12 = .ok (.iload_n 2, 1) := by decide +kernel
theorem dX6_row_13 : decode cX6_row 13 = .ok (.iconst 0, 1) := by decide +kernel
theorem dX6_row_14 : decode cX6_row 14 = .ok (.iconst 4, 1) := by decide +kernel
theorem dX6_row_15 : decode cX6_row 15 = .ok (.invokestatic 55, 3) := by decide +kernel
theorem dX6_row_18 : decode cX6_row 18 = .ok (.ifCond .eq 13, 3) := by decide +kernel
theorem dX6_row_21 : decode cX6_row 21 = .ok (.iload_n 3, 1) := by decide +kernel
theorem dX6_row_22 : decode cX6_row 22 = .ok (.iconst 0, 1) := by decide +kernel
theorem dX6_row_23 : decode cX6_row 23 = .ok (.bipush 40, 2) := by decide +kernel
theorem dX6_row_25 : decode cX6_row 25 = .ok (.invokestatic 55, 3) := by decide +kernel
theorem dX6_row_28 : decode cX6_row 28 = .ok (.ifCond .ne 10, 3) := by decide +kernel
theorem dX6_row_31 : decode cX6_row 31 = .ok (.aload_n 0, 1) := by decide +kernel
theorem dX6_row_32 : decode cX6_row 32 = .ok (.bipush (-2), 2) := by decide +kernel
theorem dX6_row_34 : decode cX6_row 34 = .ok (.invokevirtual 59, 3) := by decide +kernel
theorem dX6_row_37 : decode cX6_row 37 = .ok (.ireturn, 1) := by decide +kernel
theorem dX6_row_38 : decode cX6_row 38 = .ok (.aload 4, 2) := by decide +kernel
theorem dX6_row_40 : decode cX6_row 40 = .ok (.iload_n 2, 1) := by decide +kernel
theorem dX6_row_41 : decode cX6_row 41 = .ok (.iload_n 3, 1) := by decide +kernel
theorem dX6_row_42 : decode cX6_row 42 = .ok (.invokevirtual 63, 3) := by decide +kernel
theorem dX6_row_45 : decode cX6_row 45 = .ok (.iconst 1, 1) := by decide +kernel
theorem dX6_row_46 : decode cX6_row 46 = .ok (.ireturn, 1) := by decide +kernel
theorem dX6_set_0 : decode cX6_set 0 = .ok (.aload_n 0, 1) := by decide +kernel
theorem dX6_set_1 : decode cX6_set 1 = .ok (.iload_n 1, 1) := by decide +kernel
theorem dX6_set_2 : decode cX6_set 2 = .ok (.invokevirtual 51, 3) := by decide +kernel
theorem dX6_set_5 : decode cX6_set 5 = .ok (.astore 5, 2) := by decide +kernel
theorem dX6_set_7 : decode cX6_set 7 = .ok (.aload 5, 2) := by decide +kernel
theorem dX6_set_9 : decode cX6_set 9 = .ok (.ifnonnull 10, 3) := by decide +kernel
theorem dX6_set_12 : decode cX6_set 12 = .ok (.aload_n 0, 1) := by decide +kernel
theorem dX6_set_13 : decode cX6_set 13 = .ok (.bipush (-2), 2) := by decide +kernel
theorem dX6_set_15 : decode cX6_set 15 = .ok (.invokevirtual 59, 3) := by decide +kernel
theorem dX6_set_18 : decode cX6_set 18 = .ok (.ireturn, 1) := by decide +kernel
theorem dX6_set_19 : decode cX6_set 19 = .ok (.aload 5, 2) := by decide +kernel
theorem dX6_set_21 : decode cX6_set 21 = .ok (.invokevirtual 67, 3) := by decide +kernel
theorem dX6_set_24 : decode cX6_set 24 = .ok (.ifCond .eq 10, 3) := by decide +kernel
theorem dX6_set_27 : decode cX6_set 27 = .ok (.aload_n 0, 1) := by decide +kernel
theorem dX6_set_28 : decode cX6_set 28 = .ok (.bipush (-3), 2) := by decide +kernel
theorem dX6_set_30 : decode cX6_set 30 = .ok (.invokevirtual 59, 3) := by decide +kernel
theorem dX6_set_33 : decode cX6_set 33 = .ok (.ireturn, 1) := by decide +kernel
theorem dX6_set_34 : decode cX6_set 34 = .ok (.aload 5, 2) := by decide +kernel
theorem dX6_set_36 : decode cX6_set 36 = .ok (.invokevirtual 71, 3) := by decide +kernel
theorem dX6_set_39 : decode cX6_set 39 = .ok (.ifCond .ne 10, 3) := by decide +kernel
theorem dX6_set_42 : decode cX6_set 42 = .ok (.aload_n 0, 1) := by decide +kernel
theorem dX6_set_43 : decode cX6_set 43 = .ok (.bipush (-4), 2) := by decide +kernel
theorem dX6_set_45 : decode cX6_set 45 = .ok (.invokevirtual 59, 3) := by decide +kernel
theorem dX6_set_48 : decode cX6_set 48 = .ok (.ireturn, 1) := by decide +kernel
theorem dX6_set_49 : decode cX6_set 49 = .ok (.aload 5, 2) := by decide +kernel
theorem dX6_set_51 : decode cX6_set 51 = .ok (.iload_n 2, 1) := by decide +kernel
theorem dX6_set_52 : decode cX6_set 52 = .ok (.iconst 1, 1) := by decide +kernel
theorem dX6_set_53 : decode cX6_set 53 = .ok (.invokevirtual 74, 3) := by decide +kernel
theorem dX6_set_56 : decode cX6_set 56 = .ok (.ifCond .ne 10, 3) := by decide +kernel
theorem dX6_set_59 : decode cX6_set 59 = .ok (.aload_n 0, 1) := by decide +kernel
theorem dX6_set_60 : decode cX6_set 60 = .ok (.bipush (-2), 2) := by decide +kernel
theorem dX6_set_62 : decode cX6_set 62 = .ok (.invokevirtual 59, 3) := by decide +kernel
theorem dX6_set_65 : decode cX6_set 65 = .ok (.ireturn, 1) := by decide +kernel
theorem dX6_set_66 : decode cX6_set 66 = .ok (.aload 5, 2) := by decide +kernel
theorem dX6_set_68 : decode cX6_set 68 = .ok (.iload_n 2, 1) := by decide +kernel
theorem dX6_set_69 : decode cX6_set 69 = .ok (.lload_n 3, 1) := by decide +kernel
theorem dX6_set_70 : decode cX6_set 70 = .ok (.invokevirtual 78, 3) := by decide +kernel
theorem dX6_set_73 : decode cX6_set 73 = .ok (.iconst 1, 1) := by decide +kernel
theorem dX6_set_74 : decode cX6_set 74 = .ok (.ireturn, 1) := by decide +kernel
theorem dX6_copy_0 : decode cX6_copy 0 = .ok (.aload_n 0, 1) := by decide +kernel
theorem dX6_copy_1 : decode cX6_copy 1 = .ok (.iload_n 1, 1) := by decide +kernel
theorem dX6_copy_2 : decode cX6_copy 2 = .ok (.invokevirtual 51, 3) := by decide +kernel
theorem dX6_copy_5 : decode cX6_copy 5 = .ok (.astore 6, 2) := by decide +kernel
theorem dX6_copy_7 : decode cX6_copy 7 = .ok (.aload_n 0, 1) := by decide +kernel
theorem dX6_copy_8 : decode cX6_copy 8 = .ok (.iload_n 2, 1) := by decide +kernel
theorem dX6_copy_9 : decode cX6_copy 9 = .ok (.invokevirtual 51, 3) := by decide +kernel
theorem dX6_copy_12 : decode cX6_copy 12 = .ok (.astore 7, 2) := by decide +kernel
theorem dX6_copy_14 : decode cX6_copy 14 = .ok (.aload 6, 2) := by decide +kernel
theorem dX6_copy_16 : decode cX6_copy 16 = .ok (.ifnull 8, 3) := by decide +kernel
theorem dX6_copy_19 : decode cX6_copy 19 = .ok (.aload 7, 2) := by decide +kernel
theorem dX6_copy_21 : decode cX6_copy 21 = .ok (.ifnonnull 10, 3) := by decide +kernel
theorem dX6_copy_24 : decode cX6_copy 24 = .ok (.aload_n 0, 1) := by decide +kernel
theorem dX6_copy_25 : decode cX6_copy 25 = .ok (.bipush (-2), 2) := by decide +kernel
theorem dX6_copy_27 : decode cX6_copy 27 = .ok (.invokevirtual 59, 3) := by decide +kernel
theorem dX6_copy_30 : decode cX6_copy 30 = .ok (.ireturn, 1) := by decide +kernel
theorem dX6_copy_31 : decode cX6_copy 31 = .ok (.aload 6, 2) := by decide +kernel
theorem dX6_copy_33 : decode cX6_copy 33 = .ok (.invokevirtual 67, 3) := by decide +kernel
theorem dX6_copy_36 : decode cX6_copy 36 = .ok (.ifCond .ne 11, 3) := by decide +kernel
theorem dX6_copy_39 : decode cX6_copy 39 = .ok (.aload 7, 2) := by decide +kernel
theorem dX6_copy_41 : decode cX6_copy 41 = .ok (.invokevirtual 67, 3) := by decide +kernel
theorem dX6_copy_44 : decode cX6_copy 44 = .ok (.ifCond .eq 10, 3) := by decide +kernel
theorem dX6_copy_47 : decode cX6_copy 47 = .ok (.aload_n 0, 1) := by decide +kernel
theorem dX6_copy_48 : decode cX6_copy 48 = .ok (.bipush (-3), 2) := by decide +kernel
theorem dX6_copy_50 : decode cX6_copy 50 = .ok (.invokevirtual 59, 3) := by decide +kernel
theorem dX6_copy_53 : decode cX6_copy 53 = .ok (.ireturn, 1) := by decide +kernel
theorem dX6_copy_54 : decode cX6_copy 54 = .ok (.aload 6, 2) := by decide +kernel
theorem dX6_copy_56 : decode cX6_copy 56 = .ok (.invokevirtual 71, 3) := by decide +kernel
theorem dX6_copy_59 : decode cX6_copy 59 = .ok (.ifCond .eq 31, 3) := by decide +kernel
theorem dX6_copy_62 : decode cX6_copy 62 = .ok (.aload 7, 2) := by decide +kernel
theorem dX6_copy_64 : decode cX6_copy 64 = .ok (.invokevirtual 71, 3) := by decide +kernel
theorem dX6_copy_67 : decode cX6_copy 67 = .ok (.ifCond .eq 23, 3) := by decide +kernel
theorem dX6_copy_70 : decode cX6_copy 70 = .ok (.aload 6, 2) := by decide +kernel
theorem dX6_copy_72 : decode cX6_copy 72 = .ok (.getfield 82, 3) := by decide +kernel
theorem dX6_copy_75 : decode cX6_copy 75 = .ok (.aload 7, 2) := by decide +kernel
theorem dX6_copy_77 : decode cX6_copy 77 = .ok (.getfield 82, 3) := by decide +kernel
theorem dX6_copy_80 : decode cX6_copy 80 = .ok (.if_icmp .eq 10, 3) := by decide +kernel
theorem dX6_copy_83 : decode cX6_copy 83 = .ok (.aload_n 0, 1) := by decide +kernel
theorem dX6_copy_84 : decode cX6_copy 84 = .ok (.bipush (-3), 2) := by decide +kernel
theorem dX6_copy_86 : decode cX6_copy 86 = .ok (.invokevirtual 59, 3) := by decide +kernel
theorem dX6_copy_89 : decode cX6_copy 89 = .ok (.ireturn, 1) := by decide +kernel
theorem dX6_copy_90 : decode cX6_copy 90 = .ok (.aload 6, 2) := by decide +kernel
theorem dX6_copy_92 : decode cX6_copy 92 = .ok (.invokevirtual 71, 3) := by decide +kernel
theorem dX6_copy_95 : decode cX6_copy 95 = .ok (.ifCond .eq 11, 3) := by decide +kernel
theorem dX6_copy_98 : decode cX6_copy 98 = .ok (.aload 7, 2) := by decide +kernel
theorem dX6_copy_100 : decode cX6_copy 100 = .ok (.invokevirtual 71, 3) := by decide +kernel
theorem dX6_copy_103 : decode cX6_copy 103 = .ok (.ifCond .ne 10, 3) := by decide +kernel
theorem dX6_copy_106 : decode cX6_copy 106 = .ok (.aload_n 0, 1) := by decide +kernel
theorem dX6_copy_107 : decode cX6_copy 107 = .ok (.bipush (-4), 2) := by decide +kernel
theorem dX6_copy_109 : decode cX6_copy 109 = .ok (.invokevirtual 59, 3) := by decide +kernel
theorem dX6_copy_112 : decode cX6_copy 112 = .ok (.ireturn, 1) := by decide +kernel
theorem dX6_copy_113 : decode cX6_copy 113 = .ok (.aload 6, 2) := by decide +kernel
theorem dX6_copy_115 : decode cX6_copy 115 = .ok (.iload_n 3, 1) := by decide +kernel
theorem dX6_copy_116 : decode cX6_copy 116 = .ok (.iload 5, 2) := by decide +kernel
theorem dX6_copy_118 : decode cX6_copy 118 = .ok (.invokevirtual 74, 3) := by decide +kernel
theorem dX6_copy_121 : decode cX6_copy 121 = .ok (.ifCond .eq 15, 3) := by decide +kernel
theorem dX6_copy_124 : decode cX6_copy 124 = .ok (.aload 7, 2) := by decide +kernel
theorem dX6_copy_126 : decode cX6_copy 126 = .ok (.iload 4, 2) := by decide +kernel
theorem dX6_copy_128 : decode cX6_copy 128 = .ok (.iload 5, 2) := by decide +kernel
theorem dX6_copy_130 : decode cX6_copy 130 = .ok (.invokevirtual 74, 3) := by decide +kernel
theorem dX6_copy_133 : decode cX6_copy 133 = .ok (.ifCond .ne 10, 3) := by decide +kernel
theorem dX6_copy_136 : decode cX6_copy 136 = .ok (.aload_n 0, 1) := by decide +kernel
theorem dX6_copy_137 : decode cX6_copy 137 = .ok (.bipush (-2), 2) := by decide +kernel
theorem dX6_copy_139 : decode cX6_copy 139 = .ok (.invokevirtual 59, 3) := by decide +kernel
theorem dX6_copy_142 : decode cX6_copy 142 = .ok (.ireturn, 1) := by decide +kernel
theorem dX6_copy_143 : decode cX6_copy 143 = .ok (.aload 6, 2) := by decide +kernel
theorem dX6_copy_145 : decode cX6_copy 145 = .ok (.getfield 86, 3) := by decide +kernel
theorem dX6_copy_148 : decode cX6_copy 148 = .ok (.iload_n 3, 1) := by decide +kernel
theorem dX6_copy_149 : decode cX6_copy 149 = .ok (.aload 7, 2) := by decide +kernel
theorem dX6_copy_151 : decode cX6_copy 151 = .ok (.getfield 86, 3) := by decide +kernel
theorem dX6_copy_154 : decode cX6_copy 154 = .ok (.iload 4, 2) := by decide +kernel
theorem dX6_copy_156 : decode cX6_copy 156 = .ok (.iload 5, 2) := by decide +kernel
theorem dX6_copy_158 : decode cX6_copy 158 = .ok (.invokestatic 90, 3) := by decide +kernel
theorem dX6_copy_161 : decode cX6_copy 161 = .ok (.iload 5, 2) := by decide +kernel
theorem dX6_copy_163 : decode cX6_copy 163 = .ok (.ireturn, 1) := by decide +kernel
theorem dX6_element_0 : decode cX6_element 0 = .ok (.aload_n 0, 1) := by decide +kernel
theorem dX6_element_1 : decode cX6_element 1 = .ok (.iload_n 1, 1) := by decide +kernel
theorem dX6_element_2 : decode cX6_element 2 = .ok (.invokevirtual 51, 3) := by decide +kernel
theorem dX6_element_5 : decode cX6_element 5 = .ok (.astore_n 3, 1) := by decide +kernel
theorem dX6_element_6 : decode cX6_element 6 = .ok (.aload_n 3, 1) := by decide +kernel
theorem dX6_element_7 : decode cX6_element 7 = .ok (.ifnonnull 7, 3) := by decide +kernel
theorem dX6_element_10 : decode cX6_element 10 = .ok (.lconst 0, 1) := by decide +kernel
theorem dX6_element_11 : decode cX6_element 11 = .ok (.goto 8, 3) := by decide +kernel
theorem dX6_element_14 : decode cX6_element 14 = .ok (.aload_n 3, 1) := by decide +kernel
theorem dX6_element_15 : decode cX6_element 15 = .ok (.iload_n 2, 1) := by decide +kernel
theorem dX6_element_16 : decode cX6_element 16 = .ok (.invokevirtual 96, 3) := by decide +kernel
theorem dX6_element_19 : decode cX6_element 19 = .ok (.lreturn, 1) := by decide +kernel
theorem dX6_holds_0 : decode cX6_holds 0 = .ok (.aload_n 0, 1) := by decide +kernel
theorem dX6_holds_1 : decode cX6_holds 1 = .ok (.iload_n 1, 1) := by decide +kernel
theorem dX6_holds_2 : decode cX6_holds 2 = .ok (.invokevirtual 51, 3) := by decide +kernel
theorem dX6_holds_5 : decode cX6_holds 5 = .ok (.astore_n 2, 1) := by decide +kernel
theorem dX6_holds_6 : decode cX6_holds 6 = .ok (.aload_n 2, 1) := by decide +kernel
theorem dX6_holds_7 : decode cX6_holds 7 = .ok (.ifnonnull 7, 3) := by decide +kernel
theorem dX6_holds_10 : decode cX6_holds 10 = .ok (.iconst (-1), 1) := by decide +kernel
theorem dX6_holds_11 : decode cX6_holds 11 = .ok (.goto 7, 3) := by decide +kernel
theorem dX6_holds_14 : decode cX6_holds 14 = .ok (.aload_n 2, 1) := by decide +kernel
theorem dX6_holds_15 : decode cX6_holds 15 = .ok (.getfield 82, 3) := by decide +kernel
theorem dX6_holds_18 : decode cX6_holds 18 = .ok (.ireturn, 1) := by decide +kernel
theorem dX6_way_0 : decode cX6_way 0 = .ok (.aload_n 0, 1) := by decide +kernel
theorem dX6_way_1 : decode cX6_way 1 = .ok (.iload_n 1, 1) := by decide +kernel
theorem dX6_way_2 : decode cX6_way 2 = .ok (.invokevirtual 51, 3) := by decide +kernel
theorem dX6_way_5 : decode cX6_way 5 = .ok (.astore 4, 2) := by decide +kernel
theorem dX6_way_7 : decode cX6_way 7 = .ok (.aload 4, 2) := by decide +kernel
theorem dX6_way_9 : decode cX6_way 9 = .ok (.ifnull 11, 3) := by decide +kernel
theorem dX6_way_12 : decode cX6_way 12 = .ok (.iload_n 2, 1) := by decide +kernel
theorem dX6_way_13 : decode cX6_way 13 = .ok (.iload_n 3, 1) := by decide +kernel
theorem dX6_way_14 : decode cX6_way 14 = .ok (.invokestatic 100, 3) := by decide +kernel
theorem dX6_way_17 : decode cX6_way 17 = .ok (.ifCond .ne 10, 3) := by decide +kernel
theorem dX6_way_20 : decode cX6_way 20 = .ok (.aload_n 0, 1) := by decide +kernel
theorem dX6_way_21 : decode cX6_way 21 = .ok (.bipush (-2), 2) := by decide +kernel
theorem dX6_way_23 : decode cX6_way 23 = .ok (.invokevirtual 59, 3) := by decide +kernel
theorem dX6_way_26 : decode cX6_way 26 = .ok (.ireturn, 1) := by decide +kernel
theorem dX6_way_27 : decode cX6_way 27 = .ok (.iload_n 2, 1) := by decide +kernel
theorem dX6_way_28 : decode cX6_way 28 = .ok (.iconst 5, 1) := by decide +kernel
theorem dX6_way_29 : decode cX6_way 29 = .ok (.if_icmp .eq 12, 3) := by decide +kernel
theorem dX6_way_32 : decode cX6_way 32 = .ok (.aload 4, 2) := by decide +kernel
theorem dX6_way_34 : decode cX6_way 34 = .ok (.iload_n 2, 1) := by decide +kernel
theorem dX6_way_35 : decode cX6_way 35 = .ok (.iload_n 3, 1) := by decide +kernel
theorem dX6_way_36 : decode cX6_way 36 = .ok (.invokevirtual 103, 3) := by decide +kernel
theorem dX6_way_39 : decode cX6_way 39 = .ok (.iconst 1, 1) := by decide +kernel
theorem dX6_way_40 : decode cX6_way 40 = .ok (.ireturn, 1) := by decide +kernel
theorem dX6_way_41 : decode cX6_way 41 = .ok (.aload_n 0, 1) := by decide +kernel
theorem dX6_way_42 : decode cX6_way 42 = .ok (.iload_n 3, 1) := by decide +kernel
theorem dX6_way_43 : decode cX6_way 43 = .ok (.invokevirtual 51, 3) := by decide +kernel
theorem dX6_way_46 : decode cX6_way 46 = .ok (.astore 5, 2) := by decide +kernel
theorem dX6_way_48 : decode cX6_way 48 = .ok (.aload 5, 2) := by decide +kernel
theorem dX6_way_50 : decode cX6_way 50 = .ok (.ifnonnull 10, 3) := by decide +kernel
theorem dX6_way_53 : decode cX6_way 53 = .ok (.aload_n 0, 1) := by decide +kernel
theorem dX6_way_54 : decode cX6_way 54 = .ok (.bipush (-2), 2) := by decide +kernel
theorem dX6_way_56 : decode cX6_way 56 = .ok (.invokevirtual 59, 3) := by decide +kernel
theorem dX6_way_59 : decode cX6_way 59 = .ok (.ireturn, 1) := by decide +kernel
theorem dX6_way_60 : decode cX6_way 60 = .ok (.aload 5, 2) := by decide +kernel
theorem dX6_way_62 : decode cX6_way 62 = .ok (.invokevirtual 67, 3) := by decide +kernel
theorem dX6_way_65 : decode cX6_way 65 = .ok (.ifCond .eq 10, 3) := by decide +kernel
theorem dX6_way_68 : decode cX6_way 68 = .ok (.aload_n 0, 1) := by decide +kernel
theorem dX6_way_69 : decode cX6_way 69 = .ok (.bipush (-3), 2) := by decide +kernel
theorem dX6_way_71 : decode cX6_way 71 = .ok (.invokevirtual 59, 3) := by decide +kernel
theorem dX6_way_74 : decode cX6_way 74 = .ok (.ireturn, 1) := by decide +kernel
theorem dX6_way_75 : decode cX6_way 75 = .ok (.aload 5, 2) := by decide +kernel
theorem dX6_way_77 : decode cX6_way 77 = .ok (.invokevirtual 71, 3) := by decide +kernel
theorem dX6_way_80 : decode cX6_way 80 = .ok (.ifCond .ne 10, 3) := by decide +kernel
theorem dX6_way_83 : decode cX6_way 83 = .ok (.aload_n 0, 1) := by decide +kernel
theorem dX6_way_84 : decode cX6_way 84 = .ok (.bipush (-4), 2) := by decide +kernel
theorem dX6_way_86 : decode cX6_way 86 = .ok (.invokevirtual 59, 3) := by decide +kernel
theorem dX6_way_89 : decode cX6_way 89 = .ok (.ireturn, 1) := by decide +kernel
theorem dX6_way_90 : decode cX6_way 90 = .ok (.aload 4, 2) := by decide +kernel
theorem dX6_way_92 : decode cX6_way 92 = .ok (.iconst 5, 1) := by decide +kernel
theorem dX6_way_93 : decode cX6_way 93 = .ok (.aload 5, 2) := by decide +kernel
theorem dX6_way_95 : decode cX6_way 95 = .ok (.invokevirtual 106, 3) := by decide +kernel
theorem dX6_way_98 : decode cX6_way 98 = .ok (.invokevirtual 103, 3) := by decide +kernel
theorem dX6_way_101 : decode cX6_way 101 = .ok (.iconst 1, 1) := by decide +kernel
theorem dX6_way_102 : decode cX6_way 102 = .ok (.ireturn, 1) := by decide +kernel
theorem dX6_says_0 : decode cX6_says 0 = .ok (.aload_n 0, 1) := by decide +kernel
theorem dX6_says_1 : decode cX6_says 1 = .ok (.iload_n 1, 1) := by decide +kernel
theorem dX6_says_2 : decode cX6_says 2 = .ok (.invokevirtual 51, 3) := by decide +kernel
theorem dX6_says_5 : decode cX6_says 5 = .ok (.astore_n 3, 1) := by decide +kernel
theorem dX6_says_6 : decode cX6_says 6 = .ok (.aload_n 3, 1) := by decide +kernel
theorem dX6_says_7 : decode cX6_says 7 = .ok (.ifnull 12, 3) := by decide +kernel
theorem dX6_says_10 : decode cX6_says 10 = .ok (.iload_n 2, 1) := by decide +kernel
theorem dX6_says_11 : decode cX6_says 11 = .ok (.iconst 0, 1) := by decide +kernel
theorem dX6_says_12 : decode cX6_says 12 = .ok (.iconst 5, 1) := by decide +kernel
theorem dX6_says_13 : decode cX6_says 13 = .ok (.invokestatic 55, 3) := by decide +kernel
theorem dX6_says_16 : decode cX6_says 16 = .ok (.ifCond .ne 10, 3) := by decide +kernel
theorem dX6_says_19 : decode cX6_says 19 = .ok (.aload_n 0, 1) := by decide +kernel
theorem dX6_says_20 : decode cX6_says 20 = .ok (.bipush (-2), 2) := by decide +kernel
theorem dX6_says_22 : decode cX6_says 22 = .ok (.invokevirtual 59, 3) := by decide +kernel
theorem dX6_says_25 : decode cX6_says 25 = .ok (.ireturn, 1) := by decide +kernel
theorem dX6_says_26 : decode cX6_says 26 = .ok (.aload_n 3, 1) := by decide +kernel
theorem dX6_says_27 : decode cX6_says 27 = .ok (.invokevirtual 71, 3) := by decide +kernel
theorem dX6_says_30 : decode cX6_says 30 = .ok (.ifCond .eq 10, 3) := by decide +kernel
theorem dX6_says_33 : decode cX6_says 33 = .ok (.aload_n 0, 1) := by decide +kernel
theorem dX6_says_34 : decode cX6_says 34 = .ok (.bipush (-3), 2) := by decide +kernel
theorem dX6_says_36 : decode cX6_says 36 = .ok (.invokevirtual 59, 3) := by decide +kernel
theorem dX6_says_39 : decode cX6_says 39 = .ok (.ireturn, 1) := by decide +kernel
theorem dX6_says_40 : decode cX6_says 40 = .ok (.aload_n 3, 1) := by decide +kernel
theorem dX6_says_41 : decode cX6_says 41 = .ok (.invokevirtual 67, 3) := by decide +kernel
theorem dX6_says_44 : decode cX6_says 44 = .ok (.ifCond .ne 10, 3) := by decide +kernel
theorem dX6_says_47 : decode cX6_says 47 = .ok (.aload_n 0, 1) := by decide +kernel
theorem dX6_says_48 : decode cX6_says 48 = .ok (.bipush (-4), 2) := by decide +kernel
theorem dX6_says_50 : decode cX6_says 50 = .ok (.invokevirtual 59, 3) := by decide +kernel
theorem dX6_says_53 : decode cX6_says 53 = .ok (.ireturn, 1) := by decide +kernel
theorem dX6_says_54 : decode cX6_says 54 = .ok (.aload_n 3, 1) := by decide +kernel
theorem dX6_says_55 : decode cX6_says 55 = .ok (.iload_n 2, 1) := by decide +kernel
theorem dX6_says_56 : decode cX6_says 56 = .ok (.invokevirtual 110, 3) := by decide +kernel
theorem dX6_says_59 : decode cX6_says 59 = .ok (.ifCond .eq 11, 3) := by decide +kernel
theorem dX6_says_62 : decode cX6_says 62 = .ok (.aload_n 3, 1) := by decide +kernel
theorem dX6_says_63 : decode cX6_says 63 = .ok (.iload_n 2, 1) := by decide +kernel
theorem dX6_says_64 : decode cX6_says 64 = .ok (.invokevirtual 114, 3) := by decide +kernel
theorem dX6_says_67 : decode cX6_says 67 = .ok (.goto 9, 3) := by decide +kernel
theorem dX6_says_70 : decode cX6_says 70 = .ok (.aload_n 0, 1) := by decide +kernel
theorem dX6_says_71 : decode cX6_says 71 = .ok (.bipush (-3), 2) := by decide +kernel
theorem dX6_says_73 : decode cX6_says 73 = .ok (.invokevirtual 59, 3) := by decide +kernel
theorem dX6_says_76 : decode cX6_says 76 = .ok (.ireturn, 1) := by decide +kernel
theorem dX6_feed_0 : decode cX6_feed 0 = .ok (.iload_n 2, 1) := by decide +kernel
theorem dX6_feed_1 : decode cX6_feed 1 = .ok (.iconst 1, 1) := by decide +kernel
theorem dX6_feed_2 : decode cX6_feed 2 = .ok (.iconst 4, 1) := by decide +kernel
theorem dX6_feed_3 : decode cX6_feed 3 = .ok (.invokestatic 55, 3) := by decide +kernel
theorem dX6_feed_6 : decode cX6_feed 6 = .ok (.ifCond .ne 10, 3) := by decide +kernel
theorem dX6_feed_9 : decode cX6_feed 9 = .ok (.aload_n 0, 1) := by decide +kernel
theorem dX6_feed_10 : decode cX6_feed 10 = .ok (.bipush (-2), 2) := by decide +kernel
theorem dX6_feed_12 : decode cX6_feed 12 = .ok (.invokevirtual 59, 3) := by decide +kernel
theorem dX6_feed_15 : decode cX6_feed 15 = .ok (.ireturn, 1) := by decide +kernel
theorem dX6_feed_16 : decode cX6_feed 16 = .ok (.iload_n 2, 1) := by decide +kernel
theorem dX6_feed_17 : decode cX6_feed 17 = .ok (.sipush 160, 3) := by decide +kernel
theorem dX6_feed_20 : decode cX6_feed 20 = .ok (.aload_n 0, 1) := by decide +kernel
theorem dX6_feed_21 : decode cX6_feed 21 = .ok (.getfield 18, 3) := by decide +kernel
theorem dX6_feed_24 : decode cX6_feed 24 = .ok (.getfield 117, 3) := by decide +kernel
theorem dX6_feed_27 : decode cX6_feed 27 = .ok (.isub, 1) := by decide +kernel
theorem dX6_feed_28 : decode cX6_feed 28 = .ok (.if_icmp .le 10, 3) := by decide +kernel
theorem dX6_feed_31 : decode cX6_feed 31 = .ok (.aload_n 0, 1) := by decide +kernel
theorem dX6_feed_32 : decode cX6_feed 32 = .ok (.bipush (-6), 2) := by decide +kernel
theorem dX6_feed_34 : decode cX6_feed 34 = .ok (.invokevirtual 59, 3) := by decide +kernel
theorem dX6_feed_37 : decode cX6_feed 37 = .ok (.ireturn, 1) := by decide +kernel
theorem dX6_feed_38 : decode cX6_feed 38 = .ok (.iload_n 2, 1) := by decide +kernel
theorem dX6_feed_39 : decode cX6_feed 39 = .ok (.iconst 1, 1) := by decide +kernel
theorem dX6_feed_40 : decode cX6_feed 40 = .ok (.isub, 1) := by decide +kernel
theorem dX6_feed_41 : decode cX6_feed 41 = .ok (.istore_n 3, 1) := by decide +kernel
theorem dX6_feed_42 : decode cX6_feed 42 = .ok (.iload_n 3, 1) := by decide +kernel
theorem dX6_feed_43 : decode cX6_feed 43 = .ok (.ifCond .lt 26, 3) := by decide +kernel
theorem dX6_feed_46 : decode cX6_feed 46 = .ok (.aload_n 0, 1) := by decide +kernel
theorem dX6_feed_47 : decode cX6_feed 47 = .ok (.getfield 18, 3) := by decide +kernel
theorem dX6_feed_50 : decode cX6_feed 50 = .ok (.iload_n 1, 1) := by decide +kernel
theorem dX6_feed_51 : decode cX6_feed 51 = .ok (.bipush 8, 2) := by decide +kernel
theorem dX6_feed_53 : decode cX6_feed 53 = .ok (.iload_n 3, 1) := by decide +kernel
theorem dX6_feed_54 : decode cX6_feed 54 = .ok (.imul, 1) := by decide +kernel
theorem dX6_feed_55 : decode cX6_feed 55 = .ok (.iushr, 1) := by decide +kernel
theorem dX6_feed_56 : decode cX6_feed 56 = .ok (.sipush 255, 3) := by decide +kernel
theorem dX6_feed_59 : decode cX6_feed 59 = .ok (.iand, 1) := by decide +kernel
theorem dX6_feed_60 : decode cX6_feed 60 = .ok (.invokevirtual 120, 3) := by decide +kernel
theorem dX6_feed_63 : decode cX6_feed 63 = .ok (.iinc 3 (-1), 3) := by decide +kernel
theorem dX6_feed_66 : decode cX6_feed 66 = .ok (.goto (-24), 3) := by decide +kernel
theorem dX6_feed_69 : decode cX6_feed 69 = .ok (.aload_n 0, 1) := by decide +kernel
theorem dX6_feed_70 : decode cX6_feed 70 = .ok (.getfield 18, 3) := by decide +kernel
theorem dX6_feed_73 : decode cX6_feed 73 = .ok (.getfield 117, 3) := by decide +kernel
theorem dX6_feed_76 : decode cX6_feed 76 = .ok (.ireturn, 1) := by decide +kernel
theorem dX6_wipe_0 : decode cX6_wipe 0 = .ok (.aload_n 0, 1) := by decide +kernel
theorem dX6_wipe_1 : decode cX6_wipe 1 = .ok (.getfield 18, 3) := by decide +kernel
theorem dX6_wipe_4 : decode cX6_wipe 4 = .ok (.getfield 117, 3) := by decide +kernel
theorem dX6_wipe_7 : decode cX6_wipe 7 = .ok (.istore_n 1, 1) := by decide +kernel
theorem dX6_wipe_8 : decode cX6_wipe 8 = .ok (.aload_n 0, 1) := by decide +kernel
theorem dX6_wipe_9 : decode cX6_wipe 9 = .ok (.getfield 18, 3) := by decide +kernel
theorem dX6_wipe_12 : decode cX6_wipe 12 = .ok (.invokevirtual 124, 3) := by decide +kernel
theorem dX6_wipe_15 : decode cX6_wipe 15 = .ok (.iload_n 1, 1) := by decide +kernel
theorem dX6_wipe_16 : decode cX6_wipe 16 = .ok (.ireturn, 1) := by decide +kernel
theorem dX6_street_0 : decode cX6_street 0 = .ok (.aload_n 0, 1) := by decide +kernel
theorem dX6_street_1 : decode cX6_street 1 = .ok (.getfield 25, 3) := by decide +kernel
theorem dX6_street_4 : decode cX6_street 4 = .ok (.invokevirtual 127, 3) := by decide +kernel
theorem dX6_street_7 : decode cX6_street 7 = .ok (.astore_n 1, 1) := by decide +kernel
theorem dX6_street_8 : decode cX6_street 8 = .ok (.aload_n 1, 1) := by decide +kernel
theorem dX6_street_9 : decode cX6_street 9 = .ok (.ifnonnull 10, 3) := by decide +kernel
theorem dX6_street_12 : decode cX6_street 12 = .ok (.aload_n 0, 1) := by decide +kernel
theorem dX6_street_13 : decode cX6_street 13 = .ok (.bipush (-6), 2) := by decide +kernel
theorem dX6_street_15 : decode cX6_street 15 = .ok (.invokevirtual 59, 3) := by decide +kernel
theorem dX6_street_18 : decode cX6_street 18 = .ok (.ireturn, 1) := by decide +kernel
theorem dX6_street_19 : decode cX6_street 19 = .ok (.aload_n 0, 1) := by decide +kernel
theorem dX6_street_20 : decode cX6_street 20 = .ok (.getfield 18, 3) := by decide +kernel
theorem dX6_street_23 : decode cX6_street 23 = .ok (.aload_n 1, 1) := by decide +kernel
theorem dX6_street_24 : decode cX6_street 24 = .ok (.invokevirtual 131, 3) := by decide +kernel
theorem dX6_street_27 : decode cX6_street 27 = .ok (.istore_n 2, 1) := by decide +kernel
theorem dX6_street_28 : decode cX6_street 28 = .ok (.aload_n 0, 1) := by decide +kernel
theorem dX6_street_29 : decode cX6_street 29 = .ok (.getfield 18, 3) := by decide +kernel
theorem dX6_street_32 : decode cX6_street 32 = .ok (.getfield 135, 3) := by decide +kernel
theorem dX6_street_35 : decode cX6_street 35 = .ok (.istore_n 3, 1) := by decide +kernel
theorem dX6_street_36 : decode cX6_street 36 = .ok (.aload_n 0, 1) := by decide +kernel
theorem dX6_street_37 : decode cX6_street 37 = .ok (.getfield 18, 3) := by decide +kernel
theorem dX6_street_40 : decode cX6_street 40 = .ok (.invokevirtual 124, 3) := by decide +kernel
theorem dX6_street_43 : decode cX6_street 43 = .ok (.iload_n 2, 1) := by decide +kernel
theorem dX6_street_44 : decode cX6_street 44 = .ok (.ifCond .ne 15, 3) := by decide +kernel
theorem dX6_street_47 : decode cX6_street 47 = .ok (.aload_n 0, 1) := by decide +kernel
theorem dX6_street_48 : decode cX6_street 48 = .ok (.bipush (-2), 2) := by decide +kernel
theorem dX6_street_50 : decode cX6_street 50 = .ok (.invokevirtual 59, 3) := by decide +kernel
theorem dX6_street_53 : decode cX6_street 53 = .ok (.pop, 1) := by decide +kernel
theorem dX6_street_54 : decode cX6_street 54 = .ok (.bipush (-20), 2) := by decide +kernel
theorem dX6_street_56 : decode cX6_street 56 = .ok (.iload_n 3, 1) := by decide +kernel
theorem dX6_street_57 : decode cX6_street 57 = .ok (.isub, 1) := by decide +kernel
theorem dX6_street_58 : decode cX6_street 58 = .ok (.ireturn, 1) := by decide +kernel
theorem dX6_street_59 : decode cX6_street 59 = .ok (.aload_n 0, 1) := by decide +kernel
theorem dX6_street_60 : decode cX6_street 60 = .ok (.getfield 25, 3) := by decide +kernel
theorem dX6_street_63 : decode cX6_street 63 = .ok (.dup, 1) := by decide +kernel
theorem dX6_street_64 : decode cX6_street 64 = .ok (.getfield 138, 3) := by decide +kernel
theorem dX6_street_67 : decode cX6_street 67 = .ok (.iconst 1, 1) := by decide +kernel
theorem dX6_street_68 : decode cX6_street 68 = .ok (.iadd, 1) := by decide +kernel
theorem dX6_street_69 : decode cX6_street 69 = .ok (.putfield 138, 3) := by decide +kernel
theorem dX6_street_72 : decode cX6_street 72 = .ok (.aload_n 0, 1) := by decide +kernel
theorem dX6_street_73 : decode cX6_street 73 = .ok (.getfield 25, 3) := by decide +kernel
theorem dX6_street_76 : decode cX6_street 76 = .ok (.getfield 138, 3) := by decide +kernel
theorem dX6_street_79 : decode cX6_street 79 = .ok (.iconst 1, 1) := by decide +kernel
theorem dX6_street_80 : decode cX6_street 80 = .ok (.isub, 1) := by decide +kernel
theorem dX6_street_81 : decode cX6_street 81 = .ok (.ireturn, 1) := by decide +kernel
theorem dX6_streetOf_0 : decode cX6_streetOf 0 = .ok (.aload_n 0, 1) := by decide +kernel
theorem dX6_streetOf_1 : decode cX6_streetOf 1 = .ok (.getfield 25, 3) := by decide +kernel
theorem dX6_streetOf_4 : decode cX6_streetOf 4 = .ok (.iload_n 1, 1) := by decide +kernel
theorem dX6_streetOf_5 : decode cX6_streetOf 5 = .ok (.invokevirtual 139, 3) := by decide +kernel
theorem dX6_streetOf_8 : decode cX6_streetOf 8 = .ok (.astore_n 3, 1) := by decide +kernel
theorem dX6_streetOf_9 : decode cX6_streetOf 9 = .ok (.aload_n 3, 1) := by decide +kernel
theorem dX6_streetOf_10 : decode cX6_streetOf 10 = .ok (.ifnonnull 10, 3) := by decide +kernel
theorem dX6_streetOf_13 : decode cX6_streetOf 13 = .ok (.aload_n 0, 1) := by decide +kernel
theorem dX6_streetOf_14 : decode cX6_streetOf 14 = .ok (.bipush (-2), 2) := by decide +kernel
theorem dX6_streetOf_16 : decode cX6_streetOf 16 = .ok (.invokevirtual 59, 3) := by decide +kernel
theorem dX6_streetOf_19 : decode cX6_streetOf 19 = .ok (.ireturn, 1) := by decide +kernel
theorem dX6_streetOf_20 : decode cX6_streetOf 20 = .ok (.iload_n 2, 1) := by decide +kernel
theorem dX6_streetOf_21 : decode cX6_streetOf 21 = .ok (.tableswitch 60 0 4 #[35, 40, 45, 50, 55], 35) := by decide +kernel
theorem dX6_streetOf_56 : decode cX6_streetOf 56 = .ok (.aload_n 3, 1) := by decide +kernel
theorem dX6_streetOf_57 : decode cX6_streetOf 57 = .ok (.getfield 143, 3) := by decide +kernel
theorem dX6_streetOf_60 : decode cX6_streetOf 60 = .ok (.ireturn, 1) := by decide +kernel
theorem dX6_streetOf_61 : decode cX6_streetOf 61 = .ok (.aload_n 3, 1) := by decide +kernel
theorem dX6_streetOf_62 : decode cX6_streetOf 62 = .ok (.invokevirtual 146, 3) := by decide +kernel
theorem dX6_streetOf_65 : decode cX6_streetOf 65 = .ok (.ireturn, 1) := by decide +kernel
theorem dX6_streetOf_66 : decode cX6_streetOf 66 = .ok (.aload_n 3, 1) := by decide +kernel
theorem dX6_streetOf_67 : decode cX6_streetOf 67 = .ok (.getfield 149, 3) := by decide +kernel
theorem dX6_streetOf_70 : decode cX6_streetOf 70 = .ok (.ireturn, 1) := by decide +kernel
theorem dX6_streetOf_71 : decode cX6_streetOf 71 = .ok (.aload_n 3, 1) := by decide +kernel
theorem dX6_streetOf_72 : decode cX6_streetOf 72 = .ok (.getfield 152, 3) := by decide +kernel
theorem dX6_streetOf_75 : decode cX6_streetOf 75 = .ok (.ireturn, 1) := by decide +kernel
theorem dX6_streetOf_76 : decode cX6_streetOf 76 = .ok (.aload_n 3, 1) := by decide +kernel
theorem dX6_streetOf_77 : decode cX6_streetOf 77 = .ok (.invokevirtual 155, 3) := by decide +kernel
theorem dX6_streetOf_80 : decode cX6_streetOf 80 = .ok (.ireturn, 1) := by decide +kernel
theorem dX6_streetOf_81 : decode cX6_streetOf 81 = .ok (.aload_n 0, 1) := by decide +kernel
theorem dX6_streetOf_82 : decode cX6_streetOf 82 = .ok (.bipush (-2), 2) := by decide +kernel
theorem dX6_streetOf_84 : decode cX6_streetOf 84 = .ok (.invokevirtual 59, 3) := by decide +kernel
theorem dX6_streetOf_87 : decode cX6_streetOf 87 = .ok (.ireturn, 1) := by decide +kernel
theorem dX6_personOf_0 : decode cX6_personOf 0 = .ok (.aload_n 0, 1) := by decide +kernel
theorem dX6_personOf_1 : decode cX6_personOf 1 = .ok (.getfield 25, 3) := by decide +kernel
theorem dX6_personOf_4 : decode cX6_personOf 4 = .ok (.iload_n 1, 1) := by decide +kernel
theorem dX6_personOf_5 : decode cX6_personOf 5 = .ok (.invokevirtual 139, 3) := by decide +kernel
theorem dX6_personOf_8 : decode cX6_personOf 8 = .ok (.astore 4, 2) := by decide +kernel
theorem dX6_personOf_10 : decode cX6_personOf 10 = .ok (.aload 4, 2) := by decide +kernel
theorem dX6_personOf_12 : decode cX6_personOf 12 = .ok (.ifnull 12, 3) := by decide +kernel
theorem dX6_personOf_15 : decode cX6_personOf 15 = .ok (.aload 4, 2) := by decide +kernel
theorem dX6_personOf_17 : decode cX6_personOf 17 = .ok (.iload_n 2, 1) := by decide +kernel
theorem dX6_personOf_18 : decode cX6_personOf 18 = .ok (.invokevirtual 158, 3) := by decide +kernel
theorem dX6_personOf_21 : decode cX6_personOf 21 = .ok (.ifCond .ne 10, 3) := by decide +kernel
theorem dX6_personOf_24 : decode cX6_personOf 24 = .ok (.aload_n 0, 1) := by decide +kernel
theorem dX6_personOf_25 : decode cX6_personOf 25 = .ok (.bipush (-2), 2) := by decide +kernel
theorem dX6_personOf_27 : decode cX6_personOf 27 = .ok (.invokevirtual 59, 3) := by decide +kernel
theorem dX6_personOf_30 : decode cX6_personOf 30 = .ok (.ireturn, 1) := by decide +kernel
theorem dX6_personOf_31 : decode cX6_personOf 31 = .ok (.iload_n 3, 1) := by decide +kernel
theorem dX6_personOf_32 : decode cX6_personOf 32 = .ok (.tableswitch 95 0 5 #[40, 48, 56, 64, 79, 87], 40) := by decide +kernel
theorem dX6_personOf_72 : decode cX6_personOf 72 = .ok (.aload 4, 2) := by decide +kernel
theorem dX6_personOf_74 : decode cX6_personOf 74 = .ok (.getfield 161, 3) := by decide +kernel
theorem dX6_personOf_77 : decode cX6_personOf 77 = .ok (.iload_n 2, 1) := by decide +kernel
theorem dX6_personOf_78 : decode cX6_personOf 78 = .ok (.iaload, 1) := by decide +kernel
theorem dX6_personOf_79 : decode cX6_personOf 79 = .ok (.ireturn, 1) := by decide +kernel
theorem dX6_personOf_80 : decode cX6_personOf 80 = .ok (.aload 4, 2) := by decide +kernel
theorem dX6_personOf_82 : decode cX6_personOf 82 = .ok (.getfield 164, 3) := by decide +kernel
theorem dX6_personOf_85 : decode cX6_personOf 85 = .ok (.iload_n 2, 1) := by decide +kernel
theorem dX6_personOf_86 : decode cX6_personOf 86 = .ok (.iaload, 1) := by decide +kernel
theorem dX6_personOf_87 : decode cX6_personOf 87 = .ok (.ireturn, 1) := by decide +kernel
theorem dX6_personOf_88 : decode cX6_personOf 88 = .ok (.aload 4, 2) := by decide +kernel
theorem dX6_personOf_90 : decode cX6_personOf 90 = .ok (.getfield 167, 3) := by decide +kernel
theorem dX6_personOf_93 : decode cX6_personOf 93 = .ok (.iload_n 2, 1) := by decide +kernel
theorem dX6_personOf_94 : decode cX6_personOf 94 = .ok (.iaload, 1) := by decide +kernel
theorem dX6_personOf_95 : decode cX6_personOf 95 = .ok (.ireturn, 1) := by decide +kernel
theorem dX6_personOf_96 : decode cX6_personOf 96 = .ok (.aload 4, 2) := by decide +kernel
theorem dX6_personOf_98 : decode cX6_personOf 98 = .ok (.iload_n 2, 1) := by decide +kernel
theorem dX6_personOf_99 : decode cX6_personOf 99 = .ok (.invokevirtual 170, 3) := by decide +kernel
theorem dX6_personOf_102 : decode cX6_personOf 102 = .ok (.ifCond .eq 7, 3) := by decide +kernel
theorem dX6_personOf_105 : decode cX6_personOf 105 = .ok (.iconst 1, 1) := by decide +kernel
theorem dX6_personOf_106 : decode cX6_personOf 106 = .ok (.goto 4, 3) := by decide +kernel
theorem dX6_personOf_109 : decode cX6_personOf 109 = .ok (.iconst 0, 1) := by decide +kernel
theorem dX6_personOf_110 : decode cX6_personOf 110 = .ok (.ireturn, 1) := by decide +kernel
theorem dX6_personOf_111 : decode cX6_personOf 111 = .ok (.aload 4, 2) := by decide +kernel
theorem dX6_personOf_113 : decode cX6_personOf 113 = .ok (.getfield 173, 3) := by decide +kernel
theorem dX6_personOf_116 : decode cX6_personOf 116 = .ok (.iload_n 2, 1) := by decide +kernel
theorem dX6_personOf_117 : decode cX6_personOf 117 = .ok (.iaload, 1) := by decide +kernel
theorem dX6_personOf_118 : decode cX6_personOf 118 = .ok (.ireturn, 1) := by decide +kernel
theorem dX6_personOf_119 : decode cX6_personOf 119 = .ok (.aload 4, 2) := by decide +kernel
theorem dX6_personOf_121 : decode cX6_personOf 121 = .ok (.getfield 176, 3) := by decide +kernel
theorem dX6_personOf_124 : decode cX6_personOf 124 = .ok (.iload_n 2, 1) := by decide +kernel
theorem dX6_personOf_125 : decode cX6_personOf 125 = .ok (.iaload, 1) := by decide +kernel
theorem dX6_personOf_126 : decode cX6_personOf 126 = .ok (.ireturn, 1) := by decide +kernel
theorem dX6_personOf_127 : decode cX6_personOf 127 = .ok (.aload_n 0, 1) := by decide +kernel
theorem dX6_personOf_128 : decode cX6_personOf 128 = .ok (.bipush (-2), 2) := by decide +kernel
theorem dX6_personOf_130 : decode cX6_personOf 130 = .ok (.invokevirtual 59, 3) := by decide +kernel
theorem dX6_personOf_133 : decode cX6_personOf 133 = .ok (.ireturn, 1) := by decide +kernel
theorem dX6_alter_0 : decode cX6_alter 0 = .ok (.aload_n 0, 1) := by decide +kernel
theorem dX6_alter_1 : decode cX6_alter 1 = .ok (.getfield 25, 3) := by decide +kernel
theorem dX6_alter_4 : decode cX6_alter 4 = .ok (.iload_n 1, 1) := by decide +kernel
theorem dX6_alter_5 : decode cX6_alter 5 = .ok (.invokevirtual 139, 3) := by decide +kernel
theorem dX6_alter_8 : decode cX6_alter 8 = .ok (.astore 5, 2) := by decide +kernel
theorem dX6_alter_10 : decode cX6_alter 10 = .ok (.aload 5, 2) := by decide +kernel
theorem dX6_alter_12 : decode cX6_alter 12 = .ok (.ifnull 32, 3) := by decide +kernel
theorem dX6_alter_15 : decode cX6_alter 15 = .ok (.aload 5, 2) := by decide +kernel
theorem dX6_alter_17 : decode cX6_alter 17 = .ok (.iload_n 2, 1) := by decide +kernel
theorem dX6_alter_18 : decode cX6_alter 18 = .ok (.invokevirtual 158, 3) := by decide +kernel
theorem dX6_alter_21 : decode cX6_alter 21 = .ok (.ifCond .eq 23, 3) := by decide +kernel
theorem dX6_alter_24 : decode cX6_alter 24 = .ok (.iload_n 3, 1) := by decide +kernel
theorem dX6_alter_25 : decode cX6_alter 25 = .ok (.iconst 0, 1) := by decide +kernel
theorem dX6_alter_26 : decode cX6_alter 26 = .ok (.iconst 1, 1) := by decide +kernel
theorem dX6_alter_27 : decode cX6_alter 27 = .ok (.invokestatic 55, 3) := by decide +kernel
theorem dX6_alter_30 : decode cX6_alter 30 = .ok (.ifCond .eq 14, 3) := by decide +kernel
theorem dX6_alter_33 : decode cX6_alter 33 = .ok (.iload 4, 2) := by decide +kernel
theorem dX6_alter_35 : decode cX6_alter 35 = .ok (.iconst 0, 1) := by decide +kernel
theorem dX6_alter_36 : decode cX6_alter 36 = .ok (.bipush 99, 2) := by decide +kernel
theorem dX6_alter_38 : decode cX6_alter 38 = .ok (.invokestatic 55, 3) := by decide +kernel
theorem dX6_alter_41 : decode cX6_alter 41 = .ok (.ifCond .ne 10, 3) := by decide +kernel
theorem dX6_alter_44 : decode cX6_alter 44 = .ok (.aload_n 0, 1) := by decide +kernel
theorem dX6_alter_45 : decode cX6_alter 45 = .ok (.bipush (-2), 2) := by decide +kernel
theorem dX6_alter_47 : decode cX6_alter 47 = .ok (.invokevirtual 59, 3) := by decide +kernel
theorem dX6_alter_50 : decode cX6_alter 50 = .ok (.ireturn, 1) := by decide +kernel
theorem dX6_alter_51 : decode cX6_alter 51 = .ok (.iload_n 3, 1) := by decide +kernel
theorem dX6_alter_52 : decode cX6_alter 52 = .ok (.ifCond .ne 11, 3) := by decide +kernel
theorem dX6_alter_55 : decode cX6_alter 55 = .ok (.aload 5, 2) := by decide +kernel
theorem dX6_alter_57 : decode cX6_alter 57 = .ok (.getfield 161, 3) := by decide +kernel
theorem dX6_alter_60 : decode cX6_alter 60 = .ok (.goto 8, 3) := by decide +kernel
theorem dX6_alter_63 : decode cX6_alter 63 = .ok (.aload 5, 2) := by decide +kernel
theorem dX6_alter_65 : decode cX6_alter 65 = .ok (.getfield 164, 3) := by decide +kernel
theorem dX6_alter_68 : decode cX6_alter 68 = .ok (.astore 6, 2) := by decide +kernel
theorem dX6_alter_70 : decode cX6_alter 70 = .ok (.aload 6, 2) := by decide +kernel
theorem dX6_alter_72 : decode cX6_alter 72 = .ok (.iload_n 2, 1) := by decide +kernel
theorem dX6_alter_73 : decode cX6_alter 73 = .ok (.iaload, 1) := by decide +kernel
theorem dX6_alter_74 : decode cX6_alter 74 = .ok (.istore 7, 2) := by decide +kernel
theorem dX6_alter_76 : decode cX6_alter 76 = .ok (.aload 6, 2) := by decide +kernel
theorem dX6_alter_78 : decode cX6_alter 78 = .ok (.iload_n 2, 1) := by decide +kernel
theorem dX6_alter_79 : decode cX6_alter 79 = .ok (.iload 4, 2) := by decide +kernel
theorem dX6_alter_81 : decode cX6_alter 81 = .ok (.iastore, 1) := by decide +kernel
theorem dX6_alter_82 : decode cX6_alter 82 = .ok (.iload 7, 2) := by decide +kernel
theorem dX6_alter_84 : decode cX6_alter 84 = .ok (.ireturn, 1) := by decide +kernel
theorem dX6_tie_0 : decode cX6_tie 0 = .ok (.aload_n 0, 1) := by decide +kernel
theorem dX6_tie_1 : decode cX6_tie 1 = .ok (.getfield 25, 3) := by decide +kernel
theorem dX6_tie_4 : decode cX6_tie 4 = .ok (.iload_n 1, 1) := by decide +kernel
theorem dX6_tie_5 : decode cX6_tie 5 = .ok (.invokevirtual 139, 3) := by decide +kernel
theorem dX6_tie_8 : decode cX6_tie 8 = .ok (.astore 5, 2) := by decide +kernel
theorem dX6_tie_10 : decode cX6_tie 10 = .ok (.aload 5, 2) := by decide +kernel
theorem dX6_tie_12 : decode cX6_tie 12 = .ok (.ifnull 24, 3) := by decide +kernel
theorem dX6_tie_15 : decode cX6_tie 15 = .ok (.aload 5, 2) := by decide +kernel
theorem dX6_tie_17 : decode cX6_tie 17 = .ok (.iload_n 2, 1) := by decide +kernel
theorem dX6_tie_18 : decode cX6_tie 18 = .ok (.iload_n 3, 1) := by decide +kernel
theorem dX6_tie_19 : decode cX6_tie 19 = .ok (.invokevirtual 179, 3) := by decide +kernel
theorem dX6_tie_22 : decode cX6_tie 22 = .ok (.ifCond .eq 14, 3) := by decide +kernel
theorem dX6_tie_25 : decode cX6_tie 25 = .ok (.iload 4, 2) := by decide +kernel
theorem dX6_tie_27 : decode cX6_tie 27 = .ok (.iconst (-1), 1) := by decide +kernel
theorem dX6_tie_28 : decode cX6_tie 28 = .ok (.bipush 9, 2) := by decide +kernel
theorem dX6_tie_30 : decode cX6_tie 30 = .ok (.invokestatic 55, 3) := by decide +kernel
theorem dX6_tie_33 : decode cX6_tie 33 = .ok (.ifCond .ne 10, 3) := by decide +kernel
theorem dX6_tie_36 : decode cX6_tie 36 = .ok (.aload_n 0, 1) := by decide +kernel
theorem dX6_tie_37 : decode cX6_tie 37 = .ok (.bipush (-2), 2) := by decide +kernel
theorem dX6_tie_39 : decode cX6_tie 39 = .ok (.invokevirtual 59, 3) := by decide +kernel
theorem dX6_tie_42 : decode cX6_tie 42 = .ok (.ireturn, 1) := by decide +kernel
theorem dX6_tie_43 : decode cX6_tie 43 = .ok (.aload 5, 2) := by decide +kernel
theorem dX6_tie_45 : decode cX6_tie 45 = .ok (.iload_n 2, 1) := by decide +kernel
theorem dX6_tie_46 : decode cX6_tie 46 = .ok (.iload_n 3, 1) := by decide +kernel
theorem dX6_tie_47 : decode cX6_tie 47 = .ok (.invokevirtual 182, 3) := by decide +kernel
theorem dX6_tie_50 : decode cX6_tie 50 = .ok (.istore 6, 2) := by decide +kernel
theorem dX6_tie_52 : decode cX6_tie 52 = .ok (.iload 4, 2) := by decide +kernel
theorem dX6_tie_54 : decode cX6_tie 54 = .ok (.iconst (-1), 1) := by decide +kernel
theorem dX6_tie_55 : decode cX6_tie 55 = .ok (.if_icmp .ne 13, 3) := by decide +kernel
theorem dX6_tie_58 : decode cX6_tie 58 = .ok (.aload 5, 2) := by decide +kernel
theorem dX6_tie_60 : decode cX6_tie 60 = .ok (.iload_n 2, 1) := by decide +kernel
theorem dX6_tie_61 : decode cX6_tie 61 = .ok (.iload_n 3, 1) := by decide +kernel
theorem dX6_tie_62 : decode cX6_tie 62 = .ok (.invokevirtual 186, 3) := by decide +kernel
theorem dX6_tie_65 : decode cX6_tie 65 = .ok (.goto 12, 3) := by decide +kernel
theorem dX6_tie_68 : decode cX6_tie 68 = .ok (.aload 5, 2) := by decide +kernel
theorem dX6_tie_70 : decode cX6_tie 70 = .ok (.iload_n 2, 1) := by decide +kernel
theorem dX6_tie_71 : decode cX6_tie 71 = .ok (.iload_n 3, 1) := by decide +kernel
theorem dX6_tie_72 : decode cX6_tie 72 = .ok (.iload 4, 2) := by decide +kernel
theorem dX6_tie_74 : decode cX6_tie 74 = .ok (.invokevirtual 189, 3) := by decide +kernel
theorem dX6_tie_77 : decode cX6_tie 77 = .ok (.iload 6, 2) := by decide +kernel
theorem dX6_tie_79 : decode cX6_tie 79 = .ok (.ireturn, 1) := by decide +kernel
theorem dX6_must_0 : decode cX6_must 0 = .ok (.aload_n 0, 1) := by decide +kernel
theorem dX6_must_1 : decode cX6_must 1 = .ok (.getfield 25, 3) := by decide +kernel
theorem dX6_must_4 : decode cX6_must 4 = .ok (.iload_n 1, 1) := by decide +kernel
theorem dX6_must_5 : decode cX6_must 5 = .ok (.invokevirtual 139, 3) := by decide +kernel
theorem dX6_must_8 : decode cX6_must 8 = .ok (.astore 4, 2) := by decide +kernel
theorem dX6_must_10 : decode cX6_must 10 = .ok (.aload 4, 2) := by decide +kernel
theorem dX6_must_12 : decode cX6_must 12 = .ok (.ifnull 12, 3) := by decide +kernel
theorem dX6_must_15 : decode cX6_must 15 = .ok (.aload 4, 2) := by decide +kernel
theorem dX6_must_17 : decode cX6_must 17 = .ok (.iload_n 2, 1) := by decide +kernel
theorem dX6_must_18 : decode cX6_must 18 = .ok (.invokevirtual 158, 3) := by decide +kernel
theorem dX6_must_21 : decode cX6_must 21 = .ok (.ifCond .ne 10, 3) := by decide +kernel
theorem dX6_must_24 : decode cX6_must 24 = .ok (.aload_n 0, 1) := by decide +kernel
theorem dX6_must_25 : decode cX6_must 25 = .ok (.bipush (-2), 2) := by decide +kernel
theorem dX6_must_27 : decode cX6_must 27 = .ok (.invokevirtual 59, 3) := by decide +kernel
theorem dX6_must_30 : decode cX6_must 30 = .ok (.ireturn, 1) := by decide +kernel
theorem dX6_must_31 : decode cX6_must 31 = .ok (.aload 4, 2) := by decide +kernel
theorem dX6_must_33 : decode cX6_must 33 = .ok (.iload_n 2, 1) := by decide +kernel
theorem dX6_must_34 : decode cX6_must 34 = .ok (.invokevirtual 170, 3) := by decide +kernel
theorem dX6_must_37 : decode cX6_must 37 = .ok (.ifCond .eq 7, 3) := by decide +kernel
theorem dX6_must_40 : decode cX6_must 40 = .ok (.iconst 1, 1) := by decide +kernel
theorem dX6_must_41 : decode cX6_must 41 = .ok (.goto 4, 3) := by decide +kernel
theorem dX6_must_44 : decode cX6_must 44 = .ok (.iconst 0, 1) := by decide +kernel
theorem dX6_must_45 : decode cX6_must 45 = .ok (.istore 5, 2) := by decide +kernel
theorem dX6_must_47 : decode cX6_must 47 = .ok (.aload 4, 2) := by decide +kernel
theorem dX6_must_49 : decode cX6_must 49 = .ok (.iload_n 2, 1) := by decide +kernel
theorem dX6_must_50 : decode cX6_must 50 = .ok (.iload_n 3, 1) := by decide +kernel
theorem dX6_must_51 : decode cX6_must 51 = .ok (.invokevirtual 193, 3) := by decide +kernel
theorem dX6_must_54 : decode cX6_must 54 = .ok (.iload 5, 2) := by decide +kernel
theorem dX6_must_56 : decode cX6_must 56 = .ok (.ireturn, 1) := by decide +kernel
theorem dX6_take_0 : decode cX6_take 0 = .ok (.aload_n 0, 1) := by decide +kernel
theorem dX6_take_1 : decode cX6_take 1 = .ok (.getfield 25, 3) := by decide +kernel
theorem dX6_take_4 : decode cX6_take 4 = .ok (.iload_n 1, 1) := by decide +kernel
theorem dX6_take_5 : decode cX6_take 5 = .ok (.invokevirtual 139, 3) := by decide +kernel
theorem dX6_take_8 : decode cX6_take 8 = .ok (.astore 4, 2) := by decide +kernel
theorem dX6_take_10 : decode cX6_take 10 = .ok (.aload 4, 2) := by decide +kernel
theorem dX6_take_12 : decode cX6_take 12 = .ok (.ifnull 12, 3) := by decide +kernel
theorem dX6_take_15 : decode cX6_take 15 = .ok (.aload 4, 2) := by decide +kernel
theorem dX6_take_17 : decode cX6_take 17 = .ok (.iload_n 2, 1) := by decide +kernel
theorem dX6_take_18 : decode cX6_take 18 = .ok (.invokevirtual 158, 3) := by decide +kernel
theorem dX6_take_21 : decode cX6_take 21 = .ok (.ifCond .ne 10, 3) := by decide +kernel
theorem dX6_take_24 : decode cX6_take 24 = .ok (.aload_n 0, 1) := by decide +kernel
theorem dX6_take_25 : decode cX6_take 25 = .ok (.bipush (-2), 2) := by decide +kernel
theorem dX6_take_27 : decode cX6_take 27 = .ok (.invokevirtual 59, 3) := by decide +kernel
theorem dX6_take_30 : decode cX6_take 30 = .ok (.ireturn, 1) := by decide +kernel
theorem dX6_take_31 : decode cX6_take 31 = .ok (.iload_n 3, 1) := by decide +kernel
theorem dX6_take_32 : decode cX6_take 32 = .ok (.iconst (-1), 1) := by decide +kernel
theorem dX6_take_33 : decode cX6_take 33 = .ok (.if_icmp .ne 13, 3) := by decide +kernel
theorem dX6_take_36 : decode cX6_take 36 = .ok (.aload 4, 2) := by decide +kernel
theorem dX6_take_38 : decode cX6_take 38 = .ok (.iload_n 2, 1) := by decide +kernel
theorem dX6_take_39 : decode cX6_take 39 = .ok (.iconst (-1), 1) := by decide +kernel
theorem dX6_take_40 : decode cX6_take 40 = .ok (.iconst 0, 1) := by decide +kernel
theorem dX6_take_41 : decode cX6_take 41 = .ok (.invokevirtual 197, 3) := by decide +kernel
theorem dX6_take_44 : decode cX6_take 44 = .ok (.iconst 1, 1) := by decide +kernel
theorem dX6_take_45 : decode cX6_take 45 = .ok (.ireturn, 1) := by decide +kernel
theorem dX6_take_46 : decode cX6_take 46 = .ok (.aload_n 0, 1) := by decide +kernel
theorem dX6_take_47 : decode cX6_take 47 = .ok (.iload_n 3, 1) := by decide +kernel
theorem dX6_take_48 : decode cX6_take 48 = .ok (.invokevirtual 51, 3) := by decide +kernel
theorem dX6_take_51 : decode cX6_take 51 = .ok (.astore 5, 2) := by decide +kernel
theorem dX6_take_53 : decode cX6_take 53 = .ok (.aload 5, 2) := by decide +kernel
theorem dX6_take_55 : decode cX6_take 55 = .ok (.ifnonnull 10, 3) := by decide +kernel
theorem dX6_take_58 : decode cX6_take 58 = .ok (.aload_n 0, 1) := by decide +kernel
theorem dX6_take_59 : decode cX6_take 59 = .ok (.bipush (-2), 2) := by decide +kernel
theorem dX6_take_61 : decode cX6_take 61 = .ok (.invokevirtual 59, 3) := by decide +kernel
theorem dX6_take_64 : decode cX6_take 64 = .ok (.ireturn, 1) := by decide +kernel
theorem dX6_take_65 : decode cX6_take 65 = .ok (.aload 5, 2) := by decide +kernel
theorem dX6_take_67 : decode cX6_take 67 = .ok (.invokevirtual 71, 3) := by decide +kernel
theorem dX6_take_70 : decode cX6_take 70 = .ok (.ifCond .eq 10, 3) := by decide +kernel
theorem dX6_take_73 : decode cX6_take 73 = .ok (.aload_n 0, 1) := by decide +kernel
theorem dX6_take_74 : decode cX6_take 74 = .ok (.bipush (-3), 2) := by decide +kernel
theorem dX6_take_76 : decode cX6_take 76 = .ok (.invokevirtual 59, 3) := by decide +kernel
theorem dX6_take_79 : decode cX6_take 79 = .ok (.ireturn, 1) := by decide +kernel
theorem dX6_take_80 : decode cX6_take 80 = .ok (.aload 5, 2) := by decide +kernel
theorem dX6_take_82 : decode cX6_take 82 = .ok (.invokevirtual 67, 3) := by decide +kernel
theorem dX6_take_85 : decode cX6_take 85 = .ok (.ifCond .ne 10, 3) := by decide +kernel
theorem dX6_take_88 : decode cX6_take 88 = .ok (.aload_n 0, 1) := by decide +kernel
theorem dX6_take_89 : decode cX6_take 89 = .ok (.bipush (-4), 2) := by decide +kernel
theorem dX6_take_91 : decode cX6_take 91 = .ok (.invokevirtual 59, 3) := by decide +kernel
theorem dX6_take_94 : decode cX6_take 94 = .ok (.ireturn, 1) := by decide +kernel
theorem dX6_take_95 : decode cX6_take 95 = .ok (.aload 4, 2) := by decide +kernel
theorem dX6_take_97 : decode cX6_take 97 = .ok (.iload_n 2, 1) := by decide +kernel
theorem dX6_take_98 : decode cX6_take 98 = .ok (.aload 5, 2) := by decide +kernel
theorem dX6_take_100 : decode cX6_take 100 = .ok (.invokevirtual 200, 3) := by decide +kernel
theorem dX6_take_103 : decode cX6_take 103 = .ok (.aload 5, 2) := by decide +kernel
theorem dX6_take_105 : decode cX6_take 105 = .ok (.getfield 202, 3) := by decide +kernel
theorem dX6_take_108 : decode cX6_take 108 = .ok (.invokevirtual 197, 3) := by decide +kernel
theorem dX6_take_111 : decode cX6_take 111 = .ok (.iconst 1, 1) := by decide +kernel
theorem dX6_take_112 : decode cX6_take 112 = .ok (.ireturn, 1) := by decide +kernel
theorem dX6_come_0 : decode cX6_come 0 = .ok (.aload_n 0, 1) := by decide +kernel
theorem dX6_come_1 : decode cX6_come 1 = .ok (.getfield 25, 3) := by decide +kernel
theorem dX6_come_4 : decode cX6_come 4 = .ok (.iload_n 1, 1) := by decide +kernel
theorem dX6_come_5 : decode cX6_come 5 = .ok (.invokevirtual 139, 3) := by decide +kernel
theorem dX6_come_8 : decode cX6_come 8 = .ok (.astore 5, 2) := by decide +kernel
theorem dX6_come_10 : decode cX6_come 10 = .ok (.aload 5, 2) := by decide +kernel
theorem dX6_come_12 : decode cX6_come 12 = .ok (.ifnull 33, 3) := by decide +kernel
theorem dX6_come_15 : decode cX6_come 15 = .ok (.aload 5, 2) := by decide +kernel
theorem dX6_come_17 : decode cX6_come 17 = .ok (.iload_n 2, 1) := by decide +kernel
theorem dX6_come_18 : decode cX6_come 18 = .ok (.invokevirtual 205, 3) := by decide +kernel
theorem dX6_come_21 : decode cX6_come 21 = .ok (.ifCond .eq 24, 3) := by decide +kernel
theorem dX6_come_24 : decode cX6_come 24 = .ok (.iload_n 3, 1) := by decide +kernel
theorem dX6_come_25 : decode cX6_come 25 = .ok (.iconst 0, 1) := by decide +kernel
theorem dX6_come_26 : decode cX6_come 26 = .ok (.bipush 99, 2) := by decide +kernel
theorem dX6_come_28 : decode cX6_come 28 = .ok (.invokestatic 55, 3) := by decide +kernel
theorem dX6_come_31 : decode cX6_come 31 = .ok (.ifCond .eq 14, 3) := by decide +kernel
theorem dX6_come_34 : decode cX6_come 34 = .ok (.iload 4, 2) := by decide +kernel
theorem dX6_come_36 : decode cX6_come 36 = .ok (.iconst 0, 1) := by decide +kernel
theorem dX6_come_37 : decode cX6_come 37 = .ok (.bipush 99, 2) := by decide +kernel
theorem dX6_come_39 : decode cX6_come 39 = .ok (.invokestatic 55, 3) := by decide +kernel
theorem dX6_come_42 : decode cX6_come 42 = .ok (.ifCond .ne 10, 3) := by decide +kernel
theorem dX6_come_45 : decode cX6_come 45 = .ok (.aload_n 0, 1) := by decide +kernel
theorem dX6_come_46 : decode cX6_come 46 = .ok (.bipush (-2), 2) := by decide +kernel
theorem dX6_come_48 : decode cX6_come 48 = .ok (.invokevirtual 59, 3) := by decide +kernel
theorem dX6_come_51 : decode cX6_come 51 = .ok (.ireturn, 1) := by decide +kernel
theorem dX6_come_52 : decode cX6_come 52 = .ok (.aload 5, 2) := by decide +kernel
theorem dX6_come_54 : decode cX6_come 54 = .ok (.getfield 143, 3) := by decide +kernel
theorem dX6_come_57 : decode cX6_come 57 = .ok (.bipush 12, 2) := by decide +kernel
theorem dX6_come_59 : decode cX6_come 59 = .ok (.if_icmp .lt 10, 3) := by decide +kernel
theorem dX6_come_62 : decode cX6_come 62 = .ok (.aload_n 0, 1) := by decide +kernel
theorem dX6_come_63 : decode cX6_come 63 = .ok (.bipush (-6), 2) := by decide +kernel
theorem dX6_come_65 : decode cX6_come 65 = .ok (.invokevirtual 59, 3) := by decide +kernel
theorem dX6_come_68 : decode cX6_come 68 = .ok (.ireturn, 1) := by decide +kernel
theorem dX6_come_69 : decode cX6_come 69 = .ok (.aload 5, 2) := by decide +kernel
theorem dX6_come_71 : decode cX6_come 71 = .ok (.iload_n 2, 1) := by decide +kernel
theorem dX6_come_72 : decode cX6_come 72 = .ok (.iload_n 3, 1) := by decide +kernel
theorem dX6_come_73 : decode cX6_come 73 = .ok (.iload 4, 2) := by decide +kernel
theorem dX6_come_75 : decode cX6_come 75 = .ok (.invokevirtual 208, 3) := by decide +kernel
theorem dX6_come_78 : decode cX6_come 78 = .ok (.ireturn, 1) := by decide +kernel
theorem dX6_gain_0 : decode cX6_gain 0 = .ok (.aload_n 0, 1) := by decide +kernel
theorem dX6_gain_1 : decode cX6_gain 1 = .ok (.getfield 25, 3) := by decide +kernel
theorem dX6_gain_4 : decode cX6_gain 4 = .ok (.iload_n 1, 1) := by decide +kernel
theorem dX6_gain_5 : decode cX6_gain 5 = .ok (.invokevirtual 139, 3) := by decide +kernel
theorem dX6_gain_8 : decode cX6_gain 8 = .ok (.astore 4, 2) := by decide +kernel
theorem dX6_gain_10 : decode cX6_gain 10 = .ok (.aload 4, 2) := by decide +kernel
theorem dX6_gain_12 : decode cX6_gain 12 = .ok (.ifnull 21, 3) := by decide +kernel
theorem dX6_gain_15 : decode cX6_gain 15 = .ok (.aload 4, 2) := by decide +kernel
theorem dX6_gain_17 : decode cX6_gain 17 = .ok (.iload_n 2, 1) := by decide +kernel
theorem dX6_gain_18 : decode cX6_gain 18 = .ok (.invokevirtual 158, 3) := by decide +kernel
theorem dX6_gain_21 : decode cX6_gain 21 = .ok (.ifCond .eq 12, 3) := by decide +kernel
theorem dX6_gain_24 : decode cX6_gain 24 = .ok (.aload 4, 2) := by decide +kernel
theorem dX6_gain_26 : decode cX6_gain 26 = .ok (.iload_n 3, 1) := by decide +kernel
theorem dX6_gain_27 : decode cX6_gain 27 = .ok (.invokevirtual 205, 3) := by decide +kernel
theorem dX6_gain_30 : decode cX6_gain 30 = .ok (.ifCond .ne 13, 3) := by decide +kernel
theorem dX6_gain_33 : decode cX6_gain 33 = .ok (.ldc 212, 2) := by decide +kernel
theorem dX6_gain_35 : decode cX6_gain 35 = .ok (.aload_n 0, 1) := by decide +kernel
theorem dX6_gain_36 : decode cX6_gain 36 = .ok (.bipush (-2), 2) := by decide +kernel
theorem dX6_gain_38 : decode cX6_gain 38 = .ok (.invokevirtual 59, 3) := by decide +kernel
theorem dX6_gain_41 : decode cX6_gain 41 = .ok (.iadd, 1) := by decide +kernel
theorem dX6_gain_42 : decode cX6_gain 42 = .ok (.ireturn, 1) := by decide +kernel
theorem dX6_gain_43 : decode cX6_gain 43 = .ok (.aload 4, 2) := by decide +kernel
theorem dX6_gain_45 : decode cX6_gain 45 = .ok (.iload_n 2, 1) := by decide +kernel
theorem dX6_gain_46 : decode cX6_gain 46 = .ok (.iload_n 3, 1) := by decide +kernel
theorem dX6_gain_47 : decode cX6_gain 47 = .ok (.invokevirtual 213, 3) := by decide +kernel
theorem dX6_gain_50 : decode cX6_gain 50 = .ok (.ireturn, 1) := by decide +kernel
theorem dX6_total_0 : decode cX6_total 0 = .ok (.aload_n 0, 1) := by decide +kernel
theorem dX6_total_1 : decode cX6_total 1 = .ok (.iload_n 1, 1) := by decide +kernel
theorem dX6_total_2 : decode cX6_total 2 = .ok (.iload_n 2, 1) := by decide +kernel
theorem dX6_total_3 : decode cX6_total 3 = .ok (.invokevirtual 216, 3) := by decide +kernel
theorem dX6_total_6 : decode cX6_total 6 = .ok (.astore_n 3, 1) := by decide +kernel
theorem dX6_total_7 : decode cX6_total 7 = .ok (.aload_n 3, 1) := by decide +kernel
theorem dX6_total_8 : decode cX6_total 8 = .ok (.ifnonnull 15, 3) := by decide +kernel
theorem dX6_total_11 : decode cX6_total 11 = .ok (.ldc 212, 2) := by decide +kernel
theorem dX6_total_13 : decode cX6_total 13 = .ok (.aload_n 0, 1) := by decide +kernel
theorem dX6_total_14 : decode cX6_total 14 = .ok (.bipush (-2), 2) := by decide +kernel
theorem dX6_total_16 : decode cX6_total 16 = .ok (.invokevirtual 59, 3) := by decide +kernel
theorem dX6_total_19 : decode cX6_total 19 = .ok (.iadd, 1) := by decide +kernel
theorem dX6_total_20 : decode cX6_total 20 = .ok (.goto 8, 3) := by decide +kernel
theorem dX6_total_23 : decode cX6_total 23 = .ok (.aload_n 3, 1) := by decide +kernel
theorem dX6_total_24 : decode cX6_total 24 = .ok (.iload_n 2, 1) := by decide +kernel
theorem dX6_total_25 : decode cX6_total 25 = .ok (.invokevirtual 220, 3) := by decide +kernel
theorem dX6_total_28 : decode cX6_total 28 = .ok (.ireturn, 1) := by decide +kernel
theorem dX6_judge_0 : decode cX6_judge 0 = .ok (.aload_n 0, 1) := by decide +kernel
theorem dX6_judge_1 : decode cX6_judge 1 = .ok (.iload_n 1, 1) := by decide +kernel
theorem dX6_judge_2 : decode cX6_judge 2 = .ok (.iload_n 2, 1) := by decide +kernel
theorem dX6_judge_3 : decode cX6_judge 3 = .ok (.invokevirtual 216, 3) := by decide +kernel
theorem dX6_judge_6 : decode cX6_judge 6 = .ok (.astore_n 3, 1) := by decide +kernel
theorem dX6_judge_7 : decode cX6_judge 7 = .ok (.aload_n 3, 1) := by decide +kernel
theorem dX6_judge_8 : decode cX6_judge 8 = .ok (.ifnonnull 12, 3) := by decide +kernel
theorem dX6_judge_11 : decode cX6_judge 11 = .ok (.aload_n 0, 1) := by decide +kernel
theorem dX6_judge_12 : decode cX6_judge 12 = .ok (.bipush (-2), 2) := by decide +kernel
theorem dX6_judge_14 : decode cX6_judge 14 = .ok (.invokevirtual 59, 3) := by decide +kernel
theorem dX6_judge_17 : decode cX6_judge 17 = .ok (.goto 8, 3) := by decide +kernel
theorem dX6_judge_20 : decode cX6_judge 20 = .ok (.aload_n 3, 1) := by decide +kernel
theorem dX6_judge_21 : decode cX6_judge 21 = .ok (.iload_n 2, 1) := by decide +kernel
theorem dX6_judge_22 : decode cX6_judge 22 = .ok (.invokevirtual 223, 3) := by decide +kernel
theorem dX6_judge_25 : decode cX6_judge 25 = .ok (.ireturn, 1) := by decide +kernel
theorem dX6_count_0 : decode cX6_count 0 = .ok (.aload_n 0, 1) := by decide +kernel
theorem dX6_count_1 : decode cX6_count 1 = .ok (.getfield 25, 3) := by decide +kernel
theorem dX6_count_4 : decode cX6_count 4 = .ok (.iload_n 1, 1) := by decide +kernel
theorem dX6_count_5 : decode cX6_count 5 = .ok (.invokevirtual 139, 3) := by decide +kernel
theorem dX6_count_8 : decode cX6_count 8 = .ok (.astore_n 2, 1) := by decide +kernel
theorem dX6_count_9 : decode cX6_count 9 = .ok (.aload_n 2, 1) := by decide +kernel
theorem dX6_count_10 : decode cX6_count 10 = .ok (.ifnonnull 12, 3) := by decide +kernel
theorem dX6_count_13 : decode cX6_count 13 = .ok (.aload_n 0, 1) := by decide +kernel
theorem dX6_count_14 : decode cX6_count 14 = .ok (.bipush (-2), 2) := by decide +kernel
theorem dX6_count_16 : decode cX6_count 16 = .ok (.invokevirtual 59, 3) := by decide +kernel
theorem dX6_count_19 : decode cX6_count 19 = .ok (.goto 7, 3) := by decide +kernel
theorem dX6_count_22 : decode cX6_count 22 = .ok (.aload_n 2, 1) := by decide +kernel
theorem dX6_count_23 : decode cX6_count 23 = .ok (.invokevirtual 226, 3) := by decide +kernel
theorem dX6_count_26 : decode cX6_count 26 = .ok (.ireturn, 1) := by decide +kernel
theorem dX6_rest_0 : decode cX6_rest 0 = .ok (.aload_n 0, 1) := by decide +kernel
theorem dX6_rest_1 : decode cX6_rest 1 = .ok (.getfield 25, 3) := by decide +kernel
theorem dX6_rest_4 : decode cX6_rest 4 = .ok (.iload_n 1, 1) := by decide +kernel
theorem dX6_rest_5 : decode cX6_rest 5 = .ok (.invokevirtual 139, 3) := by decide +kernel
theorem dX6_rest_8 : decode cX6_rest 8 = .ok (.astore_n 3, 1) := by decide +kernel
theorem dX6_rest_9 : decode cX6_rest 9 = .ok (.aload_n 3, 1) := by decide +kernel
theorem dX6_rest_10 : decode cX6_rest 10 = .ok (.ifnull 7, 3) := by decide +kernel
theorem dX6_rest_13 : decode cX6_rest 13 = .ok (.iload_n 2, 1) := by decide +kernel
theorem dX6_rest_14 : decode cX6_rest 14 = .ok (.ifCond .ge 10, 3) := by decide +kernel
theorem dX6_rest_17 : decode cX6_rest 17 = .ok (.aload_n 0, 1) := by decide +kernel
theorem dX6_rest_18 : decode cX6_rest 18 = .ok (.bipush (-2), 2) := by decide +kernel
theorem dX6_rest_20 : decode cX6_rest 20 = .ok (.invokevirtual 59, 3) := by decide +kernel
theorem dX6_rest_23 : decode cX6_rest 23 = .ok (.ireturn, 1) := by decide +kernel
theorem dX6_rest_24 : decode cX6_rest 24 = .ok (.aload_n 3, 1) := by decide +kernel
theorem dX6_rest_25 : decode cX6_rest 25 = .ok (.iload_n 2, 1) := by decide +kernel
theorem dX6_rest_26 : decode cX6_rest 26 = .ok (.invokevirtual 229, 3) := by decide +kernel
theorem dX6_rest_29 : decode cX6_rest 29 = .ok (.istore 4, 2) := by decide +kernel
theorem dX6_rest_31 : decode cX6_rest 31 = .ok (.iload 4, 2) := by decide +kernel
theorem dX6_rest_33 : decode cX6_rest 33 = .ok (.iconst (-1), 1) := by decide +kernel
theorem dX6_rest_34 : decode cX6_rest 34 = .ok (.if_icmp .ne 12, 3) := by decide +kernel
theorem dX6_rest_37 : decode cX6_rest 37 = .ok (.aload_n 0, 1) := by decide +kernel
theorem dX6_rest_38 : decode cX6_rest 38 = .ok (.bipush (-2), 2) := by decide +kernel
theorem dX6_rest_40 : decode cX6_rest 40 = .ok (.invokevirtual 59, 3) := by decide +kernel
theorem dX6_rest_43 : decode cX6_rest 43 = .ok (.goto 5, 3) := by decide +kernel
theorem dX6_rest_46 : decode cX6_rest 46 = .ok (.iload 4, 2) := by decide +kernel
theorem dX6_rest_48 : decode cX6_rest 48 = .ok (.ireturn, 1) := by decide +kernel
theorem dX6_fewest_0 : decode cX6_fewest 0 = .ok (.aload_n 0, 1) := by decide +kernel
theorem dX6_fewest_1 : decode cX6_fewest 1 = .ok (.iload_n 1, 1) := by decide +kernel
theorem dX6_fewest_2 : decode cX6_fewest 2 = .ok (.iconst 0, 1) := by decide +kernel
theorem dX6_fewest_3 : decode cX6_fewest 3 = .ok (.invokevirtual 232, 3) := by decide +kernel
theorem dX6_fewest_6 : decode cX6_fewest 6 = .ok (.ireturn, 1) := by decide +kernel
theorem dX6_most_0 : decode cX6_most 0 = .ok (.aload_n 0, 1) := by decide +kernel
theorem dX6_most_1 : decode cX6_most 1 = .ok (.iload_n 1, 1) := by decide +kernel
theorem dX6_most_2 : decode cX6_most 2 = .ok (.iconst 1, 1) := by decide +kernel
theorem dX6_most_3 : decode cX6_most 3 = .ok (.invokevirtual 232, 3) := by decide +kernel
theorem dX6_most_6 : decode cX6_most 6 = .ok (.ireturn, 1) := by decide +kernel
theorem dX6_cheap_0 : decode cX6_cheap 0 = .ok (.aload_n 0, 1) := by decide +kernel
theorem dX6_cheap_1 : decode cX6_cheap 1 = .ok (.iload_n 1, 1) := by decide +kernel
theorem dX6_cheap_2 : decode cX6_cheap 2 = .ok (.iconst 2, 1) := by decide +kernel
theorem dX6_cheap_3 : decode cX6_cheap 3 = .ok (.invokevirtual 232, 3) := by decide +kernel
theorem dX6_cheap_6 : decode cX6_cheap 6 = .ok (.ireturn, 1) := by decide +kernel
theorem dX6_best_0 : decode cX6_best 0 = .ok (.aload_n 0, 1) := by decide +kernel
theorem dX6_best_1 : decode cX6_best 1 = .ok (.iload_n 1, 1) := by decide +kernel
theorem dX6_best_2 : decode cX6_best 2 = .ok (.iconst 3, 1) := by decide +kernel
theorem dX6_best_3 : decode cX6_best 3 = .ok (.invokevirtual 232, 3) := by decide +kernel
theorem dX6_best_6 : decode cX6_best 6 = .ok (.ireturn, 1) := by decide +kernel
theorem dX6_good_0 : decode cX6_good 0 = .ok (.aload_n 0, 1) := by decide +kernel
theorem dX6_good_1 : decode cX6_good 1 = .ok (.getfield 25, 3) := by decide +kernel
theorem dX6_good_4 : decode cX6_good 4 = .ok (.iload_n 1, 1) := by decide +kernel
theorem dX6_good_5 : decode cX6_good 5 = .ok (.invokevirtual 139, 3) := by decide +kernel
theorem dX6_good_8 : decode cX6_good 8 = .ok (.astore_n 2, 1) := by decide +kernel
theorem dX6_good_9 : decode cX6_good 9 = .ok (.aload_n 2, 1) := by decide +kernel
theorem dX6_good_10 : decode cX6_good 10 = .ok (.ifnonnull 12, 3) := by decide +kernel
theorem dX6_good_13 : decode cX6_good 13 = .ok (.aload_n 0, 1) := by decide +kernel
theorem dX6_good_14 : decode cX6_good 14 = .ok (.bipush (-2), 2) := by decide +kernel
theorem dX6_good_16 : decode cX6_good 16 = .ok (.invokevirtual 59, 3) := by decide +kernel
theorem dX6_good_19 : decode cX6_good 19 = .ok (.goto 9, 3) := by decide +kernel
theorem dX6_good_22 : decode cX6_good 22 = .ok (.aload_n 2, 1) := by decide +kernel
theorem dX6_good_23 : decode cX6_good 23 = .ok (.iconst 3, 1) := by decide +kernel
theorem dX6_good_24 : decode cX6_good 24 = .ok (.iconst 0, 1) := by decide +kernel
theorem dX6_good_25 : decode cX6_good 25 = .ok (.invokevirtual 235, 3) := by decide +kernel
theorem dX6_good_28 : decode cX6_good 28 = .ok (.ireturn, 1) := by decide +kernel
theorem dX6_lost_0 : decode cX6_lost 0 = .ok (.aload_n 0, 1) := by decide +kernel
theorem dX6_lost_1 : decode cX6_lost 1 = .ok (.iload_n 1, 1) := by decide +kernel
theorem dX6_lost_2 : decode cX6_lost 2 = .ok (.iconst 3, 1) := by decide +kernel
theorem dX6_lost_3 : decode cX6_lost 3 = .ok (.invokevirtual 239, 3) := by decide +kernel
theorem dX6_lost_6 : decode cX6_lost 6 = .ok (.ireturn, 1) := by decide +kernel
theorem dX6_beside_0 : decode cX6_beside 0 = .ok (.aload_n 0, 1) := by decide +kernel
theorem dX6_beside_1 : decode cX6_beside 1 = .ok (.iload_n 1, 1) := by decide +kernel
theorem dX6_beside_2 : decode cX6_beside 2 = .ok (.iconst 4, 1) := by decide +kernel
theorem dX6_beside_3 : decode cX6_beside 3 = .ok (.invokevirtual 239, 3) := by decide +kernel
theorem dX6_beside_6 : decode cX6_beside 6 = .ok (.ireturn, 1) := by decide +kernel
theorem dX6_go_0 : decode cX6_go 0 = .ok (.aload_n 0, 1) := by decide +kernel
theorem dX6_go_1 : decode cX6_go 1 = .ok (.iload_n 1, 1) := by decide +kernel
theorem dX6_go_2 : decode cX6_go 2 = .ok (.iload_n 2, 1) := by decide +kernel
theorem dX6_go_3 : decode cX6_go 3 = .ok (.invokevirtual 216, 3) := by decide +kernel
theorem dX6_go_6 : decode cX6_go 6 = .ok (.astore_n 3, 1) := by decide +kernel
theorem dX6_go_7 : decode cX6_go 7 = .ok (.aload_n 3, 1) := by decide +kernel
theorem dX6_go_8 : decode cX6_go 8 = .ok (.ifnonnull 10, 3) := by decide +kernel
theorem dX6_go_11 : decode cX6_go 11 = .ok (.aload_n 0, 1) := by decide +kernel
theorem dX6_go_12 : decode cX6_go 12 = .ok (.bipush (-2), 2) := by decide +kernel
theorem dX6_go_14 : decode cX6_go 14 = .ok (.invokevirtual 59, 3) := by decide +kernel
theorem dX6_go_17 : decode cX6_go 17 = .ok (.ireturn, 1) := by decide +kernel
theorem dX6_go_18 : decode cX6_go 18 = .ok (.aload_n 0, 1) := by decide +kernel
theorem dX6_go_19 : decode cX6_go 19 = .ok (.getfield 42, 3) := by decide +kernel
theorem dX6_go_22 : decode cX6_go 22 = .ok (.aload_n 3, 1) := by decide +kernel
theorem dX6_go_23 : decode cX6_go 23 = .ok (.iload_n 2, 1) := by decide +kernel
theorem dX6_go_24 : decode cX6_go 24 = .ok (.aload_n 3, 1) := by decide +kernel
theorem dX6_go_25 : decode cX6_go 25 = .ok (.getfield 152, 3) := by decide +kernel
theorem dX6_go_28 : decode cX6_go 28 = .ok (.ior, 1) := by decide +kernel
theorem dX6_go_29 : decode cX6_go 29 = .ok (.invokevirtual 242, 3) := by decide +kernel
theorem dX6_go_32 : decode cX6_go 32 = .ok (.aload_n 0, 1) := by decide +kernel
theorem dX6_go_33 : decode cX6_go 33 = .ok (.getfield 42, 3) := by decide +kernel
theorem dX6_go_36 : decode cX6_go 36 = .ok (.getfield 246, 3) := by decide +kernel
theorem dX6_go_39 : decode cX6_go 39 = .ok (.ifCond .le 12, 3) := by decide +kernel
theorem dX6_go_42 : decode cX6_go 42 = .ok (.aload_n 0, 1) := by decide +kernel
theorem dX6_go_43 : decode cX6_go 43 = .ok (.bipush (-5), 2) := by decide +kernel
theorem dX6_go_45 : decode cX6_go 45 = .ok (.invokevirtual 59, 3) := by decide +kernel
theorem dX6_go_48 : decode cX6_go 48 = .ok (.goto 10, 3) := by decide +kernel
theorem dX6_go_51 : decode cX6_go 51 = .ok (.aload_n 0, 1) := by decide +kernel
theorem dX6_go_52 : decode cX6_go 52 = .ok (.getfield 42, 3) := by decide +kernel
theorem dX6_go_55 : decode cX6_go 55 = .ok (.getfield 249, 3) := by decide +kernel
theorem dX6_go_58 : decode cX6_go 58 = .ok (.ireturn, 1) := by decide +kernel
theorem dX6_turns_0 : decode cX6_turns 0 = .ok (.aload_n 0, 1) := by decide +kernel
theorem dX6_turns_1 : decode cX6_turns 1 = .ok (.iload_n 1, 1) := by decide +kernel
theorem dX6_turns_2 : decode cX6_turns 2 = .ok (.iload_n 2, 1) := by decide +kernel
theorem dX6_turns_3 : decode cX6_turns 3 = .ok (.invokevirtual 216, 3) := by decide +kernel
theorem dX6_turns_6 : decode cX6_turns 6 = .ok (.astore_n 3, 1) := by decide +kernel
theorem dX6_turns_7 : decode cX6_turns 7 = .ok (.aload_n 3, 1) := by decide +kernel
theorem dX6_turns_8 : decode cX6_turns 8 = .ok (.ifnonnull 10, 3) := by decide +kernel
theorem dX6_turns_11 : decode cX6_turns 11 = .ok (.aload_n 0, 1) := by decide +kernel
theorem dX6_turns_12 : decode cX6_turns 12 = .ok (.bipush (-2), 2) := by decide +kernel
theorem dX6_turns_14 : decode cX6_turns 14 = .ok (.invokevirtual 59, 3) := by decide +kernel
theorem dX6_turns_17 : decode cX6_turns 17 = .ok (.ireturn, 1) := by decide +kernel
theorem dX6_turns_18 : decode cX6_turns 18 = .ok (.aload_n 0, 1) := by decide +kernel
theorem dX6_turns_19 : decode cX6_turns 19 = .ok (.getfield 42, 3) := by decide +kernel
theorem dX6_turns_22 : decode cX6_turns 22 = .ok (.aload_n 3, 1) := by decide +kernel
theorem dX6_turns_23 : decode cX6_turns 23 = .ok (.iload_n 2, 1) := by decide +kernel
theorem dX6_turns_24 : decode cX6_turns 24 = .ok (.aload_n 3, 1) := by decide +kernel
theorem dX6_turns_25 : decode cX6_turns 25 = .ok (.getfield 152, 3) := by decide +kernel
theorem dX6_turns_28 : decode cX6_turns 28 = .ok (.ior, 1) := by decide +kernel
theorem dX6_turns_29 : decode cX6_turns 29 = .ok (.invokevirtual 242, 3) := by decide +kernel
theorem dX6_turns_32 : decode cX6_turns 32 = .ok (.aload_n 0, 1) := by decide +kernel
theorem dX6_turns_33 : decode cX6_turns 33 = .ok (.getfield 42, 3) := by decide +kernel
theorem dX6_turns_36 : decode cX6_turns 36 = .ok (.getfield 252, 3) := by decide +kernel
theorem dX6_turns_39 : decode cX6_turns 39 = .ok (.ireturn, 1) := by decide +kernel
theorem dX6_ring_0 : decode cX6_ring 0 = .ok (.aload_n 0, 1) := by decide +kernel
theorem dX6_ring_1 : decode cX6_ring 1 = .ok (.iload_n 1, 1) := by decide +kernel
theorem dX6_ring_2 : decode cX6_ring 2 = .ok (.iload_n 2, 1) := by decide +kernel
theorem dX6_ring_3 : decode cX6_ring 3 = .ok (.invokevirtual 216, 3) := by decide +kernel
theorem dX6_ring_6 : decode cX6_ring 6 = .ok (.astore_n 3, 1) := by decide +kernel
theorem dX6_ring_7 : decode cX6_ring 7 = .ok (.aload_n 3, 1) := by decide +kernel
theorem dX6_ring_8 : decode cX6_ring 8 = .ok (.ifnonnull 10, 3) := by decide +kernel
theorem dX6_ring_11 : decode cX6_ring 11 = .ok (.aload_n 0, 1) := by decide +kernel
theorem dX6_ring_12 : decode cX6_ring 12 = .ok (.bipush (-2), 2) := by decide +kernel
theorem dX6_ring_14 : decode cX6_ring 14 = .ok (.invokevirtual 59, 3) := by decide +kernel
theorem dX6_ring_17 : decode cX6_ring 17 = .ok (.ireturn, 1) := by decide +kernel
theorem dX6_ring_18 : decode cX6_ring 18 = .ok (.aload_n 0, 1) := by decide +kernel
theorem dX6_ring_19 : decode cX6_ring 19 = .ok (.getfield 42, 3) := by decide +kernel
theorem dX6_ring_22 : decode cX6_ring 22 = .ok (.aload_n 3, 1) := by decide +kernel
theorem dX6_ring_23 : decode cX6_ring 23 = .ok (.iload_n 2, 1) := by decide +kernel
theorem dX6_ring_24 : decode cX6_ring 24 = .ok (.aload_n 3, 1) := by decide +kernel
theorem dX6_ring_25 : decode cX6_ring 25 = .ok (.getfield 152, 3) := by decide +kernel
theorem dX6_ring_28 : decode cX6_ring 28 = .ok (.ior, 1) := by decide +kernel
theorem dX6_ring_29 : decode cX6_ring 29 = .ok (.invokevirtual 242, 3) := by decide +kernel
theorem dX6_ring_32 : decode cX6_ring 32 = .ok (.aload_n 0, 1) := by decide +kernel
theorem dX6_ring_33 : decode cX6_ring 33 = .ok (.getfield 42, 3) := by decide +kernel
theorem dX6_ring_36 : decode cX6_ring 36 = .ok (.getfield 246, 3) := by decide +kernel
theorem dX6_ring_39 : decode cX6_ring 39 = .ok (.ireturn, 1) := by decide +kernel
theorem dX6_lot_0 : decode cX6_lot 0 = .ok (.iload_n 1, 1) := by decide +kernel
theorem dX6_lot_1 : decode cX6_lot 1 = .ok (.iload_n 2, 1) := by decide +kernel
theorem dX6_lot_2 : decode cX6_lot 2 = .ok (.iload_n 3, 1) := by decide +kernel
theorem dX6_lot_3 : decode cX6_lot 3 = .ok (.invokestatic 255, 3) := by decide +kernel
theorem dX6_lot_6 : decode cX6_lot 6 = .ok (.ifCond .eq 12, 3) := by decide +kernel
theorem dX6_lot_9 : decode cX6_lot 9 = .ok (.iload_n 1, 1) := by decide +kernel
theorem dX6_lot_10 : decode cX6_lot 10 = .ok (.iload_n 2, 1) := by decide +kernel
theorem dX6_lot_11 : decode cX6_lot 11 = .ok (.iload_n 3, 1) := by decide +kernel
theorem dX6_lot_12 : decode cX6_lot 12 = .ok (.invokestatic 258, 3) := by decide +kernel
theorem dX6_lot_15 : decode cX6_lot 15 = .ok (.goto 9, 3) := by decide +kernel
theorem dX6_lot_18 : decode cX6_lot 18 = .ok (.aload_n 0, 1) := by decide +kernel
theorem dX6_lot_19 : decode cX6_lot 19 = .ok (.bipush (-2), 2) := by decide +kernel
theorem dX6_lot_21 : decode cX6_lot 21 = .ok (.invokevirtual 59, 3) := by decide +kernel
theorem dX6_lot_24 : decode cX6_lot 24 = .ok (.ireturn, 1) := by decide +kernel
theorem dX6_nobody_0 : decode cX6_nobody 0 = .ok (.iload_n 1, 1) := by decide +kernel
theorem dX6_nobody_1 : decode cX6_nobody 1 = .ok (.iload_n 2, 1) := by decide +kernel
theorem dX6_nobody_2 : decode cX6_nobody 2 = .ok (.iload_n 3, 1) := by decide +kernel
theorem dX6_nobody_3 : decode cX6_nobody 3 = .ok (.invokestatic 255, 3) := by decide +kernel
theorem dX6_nobody_6 : decode cX6_nobody 6 = .ok (.ifCond .ne 10, 3) := by decide +kernel
theorem dX6_nobody_9 : decode cX6_nobody 9 = .ok (.aload_n 0, 1) := by decide +kernel
theorem dX6_nobody_10 : decode cX6_nobody 10 = .ok (.bipush (-2), 2) := by decide +kernel
theorem dX6_nobody_12 : decode cX6_nobody 12 = .ok (.invokevirtual 59, 3) := by decide +kernel
theorem dX6_nobody_15 : decode cX6_nobody 15 = .ok (.ireturn, 1) := by decide +kernel
theorem dX6_nobody_16 : decode cX6_nobody 16 = .ok (.sipush 1000, 3) := by decide +kernel
theorem dX6_nobody_19 : decode cX6_nobody 19 = .ok (.iload_n 1, 1) := by decide +kernel
theorem dX6_nobody_20 : decode cX6_nobody 20 = .ok (.iload_n 2, 1) := by decide +kernel
theorem dX6_nobody_21 : decode cX6_nobody 21 = .ok (.iload_n 3, 1) := by decide +kernel
theorem dX6_nobody_22 : decode cX6_nobody 22 = .ok (.invokestatic 258, 3) := by decide +kernel
theorem dX6_nobody_25 : decode cX6_nobody 25 = .ok (.isub, 1) := by decide +kernel
theorem dX6_nobody_26 : decode cX6_nobody 26 = .ok (.istore 4, 2) := by decide +kernel
theorem dX6_nobody_28 : decode cX6_nobody 28 = .ok (.ldc2_w 261, 3) := by decide +kernel
theorem dX6_nobody_31 : decode cX6_nobody 31 = .ok (.iload_n 3, 1) := by decide +kernel
theorem dX6_nobody_32 : decode cX6_nobody 32 = .ok (.iconst 1, 1) := by decide +kernel
theorem dX6_nobody_33 : decode cX6_nobody 33 = .ok (.isub, 1) := by decide +kernel
theorem dX6_nobody_34 : decode cX6_nobody 34 = .ok (.invokestatic 263, 3) := by decide +kernel
theorem dX6_nobody_37 : decode cX6_nobody 37 = .ok (.lstore 5, 2) := by decide +kernel
theorem dX6_nobody_39 : decode cX6_nobody 39 = .ok (.lload 5, 2) := by decide +kernel
theorem dX6_nobody_41 : decode cX6_nobody 41 = .ok (.lconst 0, 1) := by decide +kernel
theorem dX6_nobody_42 : decode cX6_nobody 42 = .ok (.lcmp, 1) := by decide +kernel
theorem dX6_nobody_43 : decode cX6_nobody 43 = .ok (.ifCond .le 19, 3) := by decide +kernel
theorem dX6_nobody_46 : decode cX6_nobody 46 = .ok (.iload 4, 2) := by decide +kernel
theorem dX6_nobody_48 : decode cX6_nobody 48 = .ok (.i2l, 1) := by decide +kernel
theorem dX6_nobody_49 : decode cX6_nobody 49 = .ok (.iload_n 3, 1) := by decide +kernel
theorem dX6_nobody_50 : decode cX6_nobody 50 = .ok (.iconst 1, 1) := by decide +kernel
theorem dX6_nobody_51 : decode cX6_nobody 51 = .ok (.iadd, 1) := by decide +kernel
theorem dX6_nobody_52 : decode cX6_nobody 52 = .ok (.invokestatic 263, 3) := by decide +kernel
theorem dX6_nobody_55 : decode cX6_nobody 55 = .ok (.lload 5, 2) := by decide +kernel
theorem dX6_nobody_57 : decode cX6_nobody 57 = .ok (.ldiv, 1) := by decide +kernel
theorem dX6_nobody_58 : decode cX6_nobody 58 = .ok (.l2i, 1) := by decide +kernel
theorem dX6_nobody_59 : decode cX6_nobody 59 = .ok (.goto 4, 3) := by decide +kernel
theorem dX6_nobody_62 : decode cX6_nobody 62 = .ok (.iconst 0, 1) := by decide +kernel
theorem dX6_nobody_63 : decode cX6_nobody 63 = .ok (.ireturn, 1) := by decide +kernel
theorem dX6_know_0 : decode cX6_know 0 = .ok (.iload_n 1, 1) := by decide +kernel
theorem dX6_know_1 : decode cX6_know 1 = .ok (.iconst 0, 1) := by decide +kernel
theorem dX6_know_2 : decode cX6_know 2 = .ok (.iconst 5, 1) := by decide +kernel
theorem dX6_know_3 : decode cX6_know 3 = .ok (.invokestatic 55, 3) := by decide +kernel
theorem dX6_know_6 : decode cX6_know 6 = .ok (.ifCond .eq 13, 3) := by decide +kernel
theorem dX6_know_9 : decode cX6_know 9 = .ok (.iload_n 2, 1) := by decide +kernel
theorem dX6_know_10 : decode cX6_know 10 = .ok (.iconst 0, 1) := by decide +kernel
theorem dX6_know_11 : decode cX6_know 11 = .ok (.bipush 20, 2) := by decide +kernel
theorem dX6_know_13 : decode cX6_know 13 = .ok (.invokestatic 55, 3) := by decide +kernel
theorem dX6_know_16 : decode cX6_know 16 = .ok (.ifCond .ne 10, 3) := by decide +kernel
theorem dX6_know_19 : decode cX6_know 19 = .ok (.aload_n 0, 1) := by decide +kernel
theorem dX6_know_20 : decode cX6_know 20 = .ok (.bipush (-2), 2) := by decide +kernel
theorem dX6_know_22 : decode cX6_know 22 = .ok (.invokevirtual 59, 3) := by decide +kernel
theorem dX6_know_25 : decode cX6_know 25 = .ok (.ireturn, 1) := by decide +kernel
theorem dX6_know_26 : decode cX6_know 26 = .ok (.aload_n 0, 1) := by decide +kernel
theorem dX6_know_27 : decode cX6_know 27 = .ok (.getfield 25, 3) := by decide +kernel
theorem dX6_know_30 : decode cX6_know 30 = .ok (.getfield 267, 3) := by decide +kernel
theorem dX6_know_33 : decode cX6_know 33 = .ok (.iload_n 1, 1) := by decide +kernel
theorem dX6_know_34 : decode cX6_know 34 = .ok (.iaload, 1) := by decide +kernel
theorem dX6_know_35 : decode cX6_know 35 = .ok (.istore_n 3, 1) := by decide +kernel
theorem dX6_know_36 : decode cX6_know 36 = .ok (.aload_n 0, 1) := by decide +kernel
theorem dX6_know_37 : decode cX6_know 37 = .ok (.getfield 25, 3) := by decide +kernel
theorem dX6_know_40 : decode cX6_know 40 = .ok (.getfield 267, 3) := by decide +kernel
theorem dX6_know_43 : decode cX6_know 43 = .ok (.iload_n 1, 1) := by decide +kernel
theorem dX6_know_44 : decode cX6_know 44 = .ok (.iload_n 2, 1) := by decide +kernel
theorem dX6_know_45 : decode cX6_know 45 = .ok (.iastore, 1) := by decide +kernel
theorem dX6_know_46 : decode cX6_know 46 = .ok (.iload_n 3, 1) := by decide +kernel
theorem dX6_know_47 : decode cX6_know 47 = .ok (.ireturn, 1) := by decide +kernel
theorem dX6_bar_0 : decode cX6_bar 0 = .ok (.iload_n 1, 1) := by decide +kernel
theorem dX6_bar_1 : decode cX6_bar 1 = .ok (.iconst 1, 1) := by decide +kernel
theorem dX6_bar_2 : decode cX6_bar 2 = .ok (.bipush 99, 2) := by decide +kernel
theorem dX6_bar_4 : decode cX6_bar 4 = .ok (.invokestatic 55, 3) := by decide +kernel
theorem dX6_bar_7 : decode cX6_bar 7 = .ok (.ifCond .eq 13, 3) := by decide +kernel
theorem dX6_bar_10 : decode cX6_bar 10 = .ok (.iload_n 2, 1) := by decide +kernel
theorem dX6_bar_11 : decode cX6_bar 11 = .ok (.iconst 1, 1) := by decide +kernel
theorem dX6_bar_12 : decode cX6_bar 12 = .ok (.bipush 99, 2) := by decide +kernel
theorem dX6_bar_14 : decode cX6_bar 14 = .ok (.invokestatic 55, 3) := by decide +kernel
theorem dX6_bar_17 : decode cX6_bar 17 = .ok (.ifCond .ne 10, 3) := by decide +kernel
theorem dX6_bar_20 : decode cX6_bar 20 = .ok (.aload_n 0, 1) := by decide +kernel
theorem dX6_bar_21 : decode cX6_bar 21 = .ok (.bipush (-2), 2) := by decide +kernel
theorem dX6_bar_23 : decode cX6_bar 23 = .ok (.invokevirtual 59, 3) := by decide +kernel
theorem dX6_bar_26 : decode cX6_bar 26 = .ok (.ireturn, 1) := by decide +kernel
theorem dX6_bar_27 : decode cX6_bar 27 = .ok (.iconst (-1), 1) := by decide +kernel
theorem dX6_bar_28 : decode cX6_bar 28 = .ok (.istore_n 3, 1) := by decide +kernel
theorem dX6_bar_29 : decode cX6_bar 29 = .ok (.iload_n 3, 1) := by decide +kernel
theorem dX6_bar_30 : decode cX6_bar 30 = .ok (.bipush 6, 2) := by decide +kernel
theorem dX6_bar_32 : decode cX6_bar 32 = .ok (.if_icmp .ge 26, 3) := by decide +kernel
theorem dX6_bar_35 : decode cX6_bar 35 = .ok (.aload_n 0, 1) := by decide +kernel
theorem dX6_bar_36 : decode cX6_bar 36 = .ok (.getfield 25, 3) := by decide +kernel
theorem dX6_bar_39 : decode cX6_bar 39 = .ok (.iload_n 3, 1) := by decide +kernel
theorem dX6_bar_40 : decode cX6_bar 40 = .ok (.iload_n 1, 1) := by decide +kernel
theorem dX6_bar_41 : decode cX6_bar 41 = .ok (.iload_n 2, 1) := by decide +kernel
theorem dX6_bar_42 : decode cX6_bar 42 = .ok (.invokevirtual 270, 3) := by decide +kernel
theorem dX6_bar_45 : decode cX6_bar 45 = .ok (.ifCond .eq 7, 3) := by decide +kernel
theorem dX6_bar_48 : decode cX6_bar 48 = .ok (.iload_n 3, 1) := by decide +kernel
theorem dX6_bar_49 : decode cX6_bar 49 = .ok (.iconst 1, 1) := by decide +kernel
theorem dX6_bar_50 : decode cX6_bar 50 = .ok (.iadd, 1) := by decide +kernel
theorem dX6_bar_51 : decode cX6_bar 51 = .ok (.ireturn, 1) := by decide +kernel
theorem dX6_bar_52 : decode cX6_bar 52 = .ok (.iinc 3 1, 3) := by decide +kernel
theorem dX6_bar_55 : decode cX6_bar 55 = .ok (.goto (-26), 3) := by decide +kernel
theorem dX6_bar_58 : decode cX6_bar 58 = .ok (.iconst (-1), 1) := by decide +kernel
theorem dX6_bar_59 : decode cX6_bar 59 = .ok (.ireturn, 1) := by decide +kernel
theorem dX6_cuts_0 : decode cX6_cuts 0 = .ok (.aload_n 0, 1) := by decide +kernel
theorem dX6_cuts_1 : decode cX6_cuts 1 = .ok (.iload_n 1, 1) := by decide +kernel
theorem dX6_cuts_2 : decode cX6_cuts 2 = .ok (.iload_n 2, 1) := by decide +kernel
theorem dX6_cuts_3 : decode cX6_cuts 3 = .ok (.invokevirtual 216, 3) := by decide +kernel
theorem dX6_cuts_6 : decode cX6_cuts 6 = .ok (.astore_n 3, 1) := by decide +kernel
theorem dX6_cuts_7 : decode cX6_cuts 7 = .ok (.aload_n 3, 1) := by decide +kernel
theorem dX6_cuts_8 : decode cX6_cuts 8 = .ok (.ifnonnull 10, 3) := by decide +kernel
theorem dX6_cuts_11 : decode cX6_cuts 11 = .ok (.aload_n 0, 1) := by decide +kernel
theorem dX6_cuts_12 : decode cX6_cuts 12 = .ok (.bipush (-2), 2) := by decide +kernel
theorem dX6_cuts_14 : decode cX6_cuts 14 = .ok (.invokevirtual 59, 3) := by decide +kernel
theorem dX6_cuts_17 : decode cX6_cuts 17 = .ok (.ireturn, 1) := by decide +kernel
theorem dX6_cuts_18 : decode cX6_cuts 18 = .ok (.aload_n 0, 1) := by decide +kernel
theorem dX6_cuts_19 : decode cX6_cuts 19 = .ok (.getfield 35, 3) := by decide +kernel
theorem dX6_cuts_22 : decode cX6_cuts 22 = .ok (.aload_n 3, 1) := by decide +kernel
theorem dX6_cuts_23 : decode cX6_cuts 23 = .ok (.invokevirtual 273, 3) := by decide +kernel
theorem dX6_cuts_26 : decode cX6_cuts 26 = .ok (.iconst 0, 1) := by decide +kernel
theorem dX6_cuts_27 : decode cX6_cuts 27 = .ok (.istore 4, 2) := by decide +kernel
theorem dX6_cuts_29 : decode cX6_cuts 29 = .ok (.iload 4, 2) := by decide +kernel
theorem dX6_cuts_31 : decode cX6_cuts 31 = .ok (.aload_n 3, 1) := by decide +kernel
theorem dX6_cuts_32 : decode cX6_cuts 32 = .ok (.getfield 143, 3) := by decide +kernel
theorem dX6_cuts_35 : decode cX6_cuts 35 = .ok (.if_icmp .ge 62, 3) := by decide +kernel
theorem dX6_cuts_38 : decode cX6_cuts 38 = .ok (.iload 4, 2) := by decide +kernel
theorem dX6_cuts_40 : decode cX6_cuts 40 = .ok (.iconst 1, 1) := by decide +kernel
theorem dX6_cuts_41 : decode cX6_cuts 41 = .ok (.iadd, 1) := by decide +kernel
theorem dX6_cuts_42 : decode cX6_cuts 42 = .ok (.istore 5, 2) := by decide +kernel
theorem dX6_cuts_44 : decode cX6_cuts 44 = .ok (.iload 5, 2) := by decide +kernel
theorem dX6_cuts_46 : decode cX6_cuts 46 = .ok (.aload_n 3, 1) := by decide +kernel
theorem dX6_cuts_47 : decode cX6_cuts 47 = .ok (.getfield 143, 3) := by decide +kernel
theorem dX6_cuts_50 : decode cX6_cuts 50 = .ok (.if_icmp .ge 41, 3) := by decide +kernel
theorem dX6_cuts_53 : decode cX6_cuts 53 = .ok (.aload_n 3, 1) := by decide +kernel
theorem dX6_cuts_54 : decode cX6_cuts 54 = .ok (.iload 4, 2) := by decide +kernel
theorem dX6_cuts_56 : decode cX6_cuts 56 = .ok (.iload 5, 2) := by decide +kernel
theorem dX6_cuts_58 : decode cX6_cuts 58 = .ok (.invokevirtual 277, 3) := by decide +kernel
theorem dX6_cuts_61 : decode cX6_cuts 61 = .ok (.ifCond .eq 24, 3) := by decide +kernel
theorem dX6_cuts_64 : decode cX6_cuts 64 = .ok (.aload_n 0, 1) := by decide +kernel
theorem dX6_cuts_65 : decode cX6_cuts 65 = .ok (.aload_n 3, 1) := by decide +kernel
theorem dX6_cuts_66 : decode cX6_cuts 66 = .ok (.iload 4, 2) := by decide +kernel
theorem dX6_cuts_68 : decode cX6_cuts 68 = .ok (.iload 5, 2) := by decide +kernel
theorem dX6_cuts_70 : decode cX6_cuts 70 = .ok (.iload_n 2, 1) := by decide +kernel
theorem dX6_cuts_71 : decode cX6_cuts 71 = .ok (.invokevirtual 280, 3) := by decide +kernel
theorem dX6_cuts_74 : decode cX6_cuts 74 = .ok (.ifCond .eq 11, 3) := by decide +kernel
theorem dX6_cuts_77 : decode cX6_cuts 77 = .ok (.iload 4, 2) := by decide +kernel
theorem dX6_cuts_79 : decode cX6_cuts 79 = .ok (.iload 5, 2) := by decide +kernel
theorem dX6_cuts_81 : decode cX6_cuts 81 = .ok (.invokestatic 284, 3) := by decide +kernel
theorem dX6_cuts_84 : decode cX6_cuts 84 = .ok (.ireturn, 1) := by decide +kernel
theorem dX6_cuts_85 : decode cX6_cuts 85 = .ok (.iinc 5 1, 3) := by decide +kernel
theorem dX6_cuts_88 : decode cX6_cuts 88 = .ok (.goto (-44), 3) := by decide +kernel
theorem dX6_cuts_91 : decode cX6_cuts 91 = .ok (.iinc 4 1, 3) := by decide +kernel
theorem dX6_cuts_94 : decode cX6_cuts 94 = .ok (.goto (-65), 3) := by decide +kernel
theorem dX6_cuts_97 : decode cX6_cuts 97 = .ok (.iconst (-1), 1) := by decide +kernel
theorem dX6_cuts_98 : decode cX6_cuts 98 = .ok (.ireturn, 1) := by decide +kernel
theorem dX6_adds_0 : decode cX6_adds 0 = .ok (.aload_n 0, 1) := by decide +kernel
theorem dX6_adds_1 : decode cX6_adds 1 = .ok (.iload_n 1, 1) := by decide +kernel
theorem dX6_adds_2 : decode cX6_adds 2 = .ok (.iload_n 2, 1) := by decide +kernel
theorem dX6_adds_3 : decode cX6_adds 3 = .ok (.invokevirtual 216, 3) := by decide +kernel
theorem dX6_adds_6 : decode cX6_adds 6 = .ok (.astore 4, 2) := by decide +kernel
theorem dX6_adds_8 : decode cX6_adds 8 = .ok (.aload 4, 2) := by decide +kernel
theorem dX6_adds_10 : decode cX6_adds 10 = .ok (.ifnull 13, 3) := by decide +kernel
theorem dX6_adds_13 : decode cX6_adds 13 = .ok (.iload_n 3, 1) := by decide +kernel
theorem dX6_adds_14 : decode cX6_adds 14 = .ok (.iconst 0, 1) := by decide +kernel
theorem dX6_adds_15 : decode cX6_adds 15 = .ok (.bipush 9, 2) := by decide +kernel
theorem dX6_adds_17 : decode cX6_adds 17 = .ok (.invokestatic 55, 3) := by decide +kernel
theorem dX6_adds_20 : decode cX6_adds 20 = .ok (.ifCond .ne 10, 3) := by decide +kernel
theorem dX6_adds_23 : decode cX6_adds 23 = .ok (.aload_n 0, 1) := by decide +kernel
theorem dX6_adds_24 : decode cX6_adds 24 = .ok (.bipush (-2), 2) := by decide +kernel
theorem dX6_adds_26 : decode cX6_adds 26 = .ok (.invokevirtual 59, 3) := by decide +kernel
theorem dX6_adds_29 : decode cX6_adds 29 = .ok (.ireturn, 1) := by decide +kernel
theorem dX6_adds_30 : decode cX6_adds 30 = .ok (.aload_n 0, 1) := by decide +kernel
theorem dX6_adds_31 : decode cX6_adds 31 = .ok (.getfield 35, 3) := by decide +kernel
theorem dX6_adds_34 : decode cX6_adds 34 = .ok (.aload 4, 2) := by decide +kernel
theorem dX6_adds_36 : decode cX6_adds 36 = .ok (.invokevirtual 273, 3) := by decide +kernel
theorem dX6_adds_39 : decode cX6_adds 39 = .ok (.iconst 0, 1) := by decide +kernel
theorem dX6_adds_40 : decode cX6_adds 40 = .ok (.istore 5, 2) := by decide +kernel
theorem dX6_adds_42 : decode cX6_adds 42 = .ok (.iload 5, 2) := by decide +kernel
theorem dX6_adds_44 : decode cX6_adds 44 = .ok (.aload 4, 2) := by decide +kernel
theorem dX6_adds_46 : decode cX6_adds 46 = .ok (.getfield 143, 3) := by decide +kernel
theorem dX6_adds_49 : decode cX6_adds 49 = .ok (.if_icmp .ge 66, 3) := by decide +kernel
theorem dX6_adds_52 : decode cX6_adds 52 = .ok (.iload 5, 2) := by decide +kernel
theorem dX6_adds_54 : decode cX6_adds 54 = .ok (.iconst 1, 1) := by decide +kernel
theorem dX6_adds_55 : decode cX6_adds 55 = .ok (.iadd, 1) := by decide +kernel
theorem dX6_adds_56 : decode cX6_adds 56 = .ok (.istore 6, 2) := by decide +kernel
theorem dX6_adds_58 : decode cX6_adds 58 = .ok (.iload 6, 2) := by decide +kernel
theorem dX6_adds_60 : decode cX6_adds 60 = .ok (.aload 4, 2) := by decide +kernel
theorem dX6_adds_62 : decode cX6_adds 62 = .ok (.getfield 143, 3) := by decide +kernel
theorem dX6_adds_65 : decode cX6_adds 65 = .ok (.if_icmp .ge 44, 3) := by decide +kernel
theorem dX6_adds_68 : decode cX6_adds 68 = .ok (.aload 4, 2) := by decide +kernel
theorem dX6_adds_70 : decode cX6_adds 70 = .ok (.iload 5, 2) := by decide +kernel
theorem dX6_adds_72 : decode cX6_adds 72 = .ok (.iload 6, 2) := by decide +kernel
theorem dX6_adds_74 : decode cX6_adds 74 = .ok (.invokevirtual 277, 3) := by decide +kernel
theorem dX6_adds_77 : decode cX6_adds 77 = .ok (.ifCond .ne 26, 3) := by decide +kernel
theorem dX6_adds_80 : decode cX6_adds 80 = .ok (.aload_n 0, 1) := by decide +kernel
theorem dX6_adds_81 : decode cX6_adds 81 = .ok (.aload 4, 2) := by decide +kernel
theorem dX6_adds_83 : decode cX6_adds 83 = .ok (.iload 5, 2) := by decide +kernel
theorem dX6_adds_85 : decode cX6_adds 85 = .ok (.iload 6, 2) := by decide +kernel
theorem dX6_adds_87 : decode cX6_adds 87 = .ok (.iload_n 2, 1) := by decide +kernel
theorem dX6_adds_88 : decode cX6_adds 88 = .ok (.iload_n 3, 1) := by decide +kernel
theorem dX6_adds_89 : decode cX6_adds 89 = .ok (.invokevirtual 287, 3) := by decide +kernel
theorem dX6_adds_92 : decode cX6_adds 92 = .ok (.ifCond .eq 11, 3) := by decide +kernel
theorem dX6_adds_95 : decode cX6_adds 95 = .ok (.iload 5, 2) := by decide +kernel
theorem dX6_adds_97 : decode cX6_adds 97 = .ok (.iload 6, 2) := by decide +kernel
theorem dX6_adds_99 : decode cX6_adds 99 = .ok (.invokestatic 284, 3) := by decide +kernel
theorem dX6_adds_102 : decode cX6_adds 102 = .ok (.ireturn, 1) := by decide +kernel
theorem dX6_adds_103 : decode cX6_adds 103 = .ok (.iinc 6 1, 3) := by decide +kernel
theorem dX6_adds_106 : decode cX6_adds 106 = .ok (.goto (-48), 3) := by decide +kernel
theorem dX6_adds_109 : decode cX6_adds 109 = .ok (.iinc 5 1, 3) := by decide +kernel
theorem dX6_adds_112 : decode cX6_adds 112 = .ok (.goto (-70), 3) := by decide +kernel
theorem dX6_adds_115 : decode cX6_adds 115 = .ok (.iconst (-1), 1) := by decide +kernel
theorem dX6_adds_116 : decode cX6_adds 116 = .ok (.ireturn, 1) := by decide +kernel
theorem dX6_less_0 : decode cX6_less 0 = .ok (.aload_n 0, 1) := by decide +kernel
theorem dX6_less_1 : decode cX6_less 1 = .ok (.getfield 25, 3) := by decide +kernel
theorem dX6_less_4 : decode cX6_less 4 = .ok (.iload_n 1, 1) := by decide +kernel
theorem dX6_less_5 : decode cX6_less 5 = .ok (.invokevirtual 139, 3) := by decide +kernel
theorem dX6_less_8 : decode cX6_less 8 = .ok (.astore_n 2, 1) := by decide +kernel
theorem dX6_less_9 : decode cX6_less 9 = .ok (.aload_n 2, 1) := by decide +kernel
theorem dX6_less_10 : decode cX6_less 10 = .ok (.ifnonnull 10, 3) := by decide +kernel
theorem dX6_less_13 : decode cX6_less 13 = .ok (.aload_n 0, 1) := by decide +kernel
theorem dX6_less_14 : decode cX6_less 14 = .ok (.bipush (-2), 2) := by decide +kernel
theorem dX6_less_16 : decode cX6_less 16 = .ok (.invokevirtual 59, 3) := by decide +kernel
theorem dX6_less_19 : decode cX6_less 19 = .ok (.ireturn, 1) := by decide +kernel
theorem dX6_less_20 : decode cX6_less 20 = .ok (.aload_n 2, 1) := by decide +kernel
theorem dX6_less_21 : decode cX6_less 21 = .ok (.iconst 0, 1) := by decide +kernel
theorem dX6_less_22 : decode cX6_less 22 = .ok (.iconst 1, 1) := by decide +kernel
theorem dX6_less_23 : decode cX6_less 23 = .ok (.invokevirtual 235, 3) := by decide +kernel
theorem dX6_less_26 : decode cX6_less 26 = .ok (.istore_n 3, 1) := by decide +kernel
theorem dX6_less_27 : decode cX6_less 27 = .ok (.iload_n 3, 1) := by decide +kernel
theorem dX6_less_28 : decode cX6_less 28 = .ok (.iconst (-1), 1) := by decide +kernel
theorem dX6_less_29 : decode cX6_less 29 = .ok (.if_icmp .ne 10, 3) := by decide +kernel
theorem dX6_less_32 : decode cX6_less 32 = .ok (.aload_n 0, 1) := by decide +kernel
theorem dX6_less_33 : decode cX6_less 33 = .ok (.bipush (-5), 2) := by decide +kernel
theorem dX6_less_35 : decode cX6_less 35 = .ok (.invokevirtual 59, 3) := by decide +kernel
theorem dX6_less_38 : decode cX6_less 38 = .ok (.ireturn, 1) := by decide +kernel
theorem dX6_less_39 : decode cX6_less 39 = .ok (.aload_n 0, 1) := by decide +kernel
theorem dX6_less_40 : decode cX6_less 40 = .ok (.getfield 35, 3) := by decide +kernel
theorem dX6_less_43 : decode cX6_less 43 = .ok (.aload_n 2, 1) := by decide +kernel
theorem dX6_less_44 : decode cX6_less 44 = .ok (.invokevirtual 273, 3) := by decide +kernel
theorem dX6_less_47 : decode cX6_less 47 = .ok (.iload_n 3, 1) := by decide +kernel
theorem dX6_less_48 : decode cX6_less 48 = .ok (.invokestatic 291, 3) := by decide +kernel
theorem dX6_less_51 : decode cX6_less 51 = .ok (.istore 4, 2) := by decide +kernel
theorem dX6_less_53 : decode cX6_less 53 = .ok (.iconst 0, 1) := by decide +kernel
theorem dX6_less_54 : decode cX6_less 54 = .ok (.istore 5, 2) := by decide +kernel
theorem dX6_less_56 : decode cX6_less 56 = .ok (.iload 5, 2) := by decide +kernel
theorem dX6_less_58 : decode cX6_less 58 = .ok (.aload_n 2, 1) := by decide +kernel
theorem dX6_less_59 : decode cX6_less 59 = .ok (.getfield 143, 3) := by decide +kernel
theorem dX6_less_62 : decode cX6_less 62 = .ok (.if_icmp .ge 62, 3) := by decide +kernel
theorem dX6_less_65 : decode cX6_less 65 = .ok (.iload 5, 2) := by decide +kernel
theorem dX6_less_67 : decode cX6_less 67 = .ok (.iconst 1, 1) := by decide +kernel
theorem dX6_less_68 : decode cX6_less 68 = .ok (.iadd, 1) := by decide +kernel
theorem dX6_less_69 : decode cX6_less 69 = .ok (.istore 6, 2) := by decide +kernel
theorem dX6_less_71 : decode cX6_less 71 = .ok (.iload 6, 2) := by decide +kernel
theorem dX6_less_73 : decode cX6_less 73 = .ok (.aload_n 2, 1) := by decide +kernel
theorem dX6_less_74 : decode cX6_less 74 = .ok (.getfield 143, 3) := by decide +kernel
theorem dX6_less_77 : decode cX6_less 77 = .ok (.if_icmp .ge 41, 3) := by decide +kernel
theorem dX6_less_80 : decode cX6_less 80 = .ok (.aload_n 2, 1) := by decide +kernel
theorem dX6_less_81 : decode cX6_less 81 = .ok (.iload 5, 2) := by decide +kernel
theorem dX6_less_83 : decode cX6_less 83 = .ok (.iload 6, 2) := by decide +kernel
theorem dX6_less_85 : decode cX6_less 85 = .ok (.invokevirtual 277, 3) := by decide +kernel
theorem dX6_less_88 : decode cX6_less 88 = .ok (.ifCond .ne 24, 3) := by decide +kernel
theorem dX6_less_91 : decode cX6_less 91 = .ok (.aload_n 0, 1) := by decide +kernel
theorem dX6_less_92 : decode cX6_less 92 = .ok (.iload 5, 2) := by decide +kernel
theorem dX6_less_94 : decode cX6_less 94 = .ok (.iload 6, 2) := by decide +kernel
theorem dX6_less_96 : decode cX6_less 96 = .ok (.iload 4, 2) := by decide +kernel
theorem dX6_less_98 : decode cX6_less 98 = .ok (.invokevirtual 296, 3) := by decide +kernel
theorem dX6_less_101 : decode cX6_less 101 = .ok (.ifCond .eq 11, 3) := by decide +kernel
theorem dX6_less_104 : decode cX6_less 104 = .ok (.iload 5, 2) := by decide +kernel
theorem dX6_less_106 : decode cX6_less 106 = .ok (.iload 6, 2) := by decide +kernel
theorem dX6_less_108 : decode cX6_less 108 = .ok (.invokestatic 284, 3) := by decide +kernel
theorem dX6_less_111 : decode cX6_less 111 = .ok (.ireturn, 1) := by decide +kernel
theorem dX6_less_112 : decode cX6_less 112 = .ok (.iinc 6 1, 3) := by decide +kernel
theorem dX6_less_115 : decode cX6_less 115 = .ok (.goto (-44), 3) := by decide +kernel
theorem dX6_less_118 : decode cX6_less 118 = .ok (.iinc 5 1, 3) := by decide +kernel
theorem dX6_less_121 : decode cX6_less 121 = .ok (.goto (-65), 3) := by decide +kernel
theorem dX6_less_124 : decode cX6_less 124 = .ok (.iconst (-1), 1) := by decide +kernel
theorem dX6_less_125 : decode cX6_less 125 = .ok (.ireturn, 1) := by decide +kernel
theorem dX6_need_0 : decode cX6_need 0 = .ok (.aload_n 0, 1) := by decide +kernel
theorem dX6_need_1 : decode cX6_need 1 = .ok (.getfield 25, 3) := by decide +kernel
theorem dX6_need_4 : decode cX6_need 4 = .ok (.iload_n 1, 1) := by decide +kernel
theorem dX6_need_5 : decode cX6_need 5 = .ok (.invokevirtual 139, 3) := by decide +kernel
theorem dX6_need_8 : decode cX6_need 8 = .ok (.astore 4, 2) := by decide +kernel
theorem dX6_need_10 : decode cX6_need 10 = .ok (.aload 4, 2) := by decide +kernel
theorem dX6_need_12 : decode cX6_need 12 = .ok (.ifnull 21, 3) := by decide +kernel
theorem dX6_need_15 : decode cX6_need 15 = .ok (.aload 4, 2) := by decide +kernel
theorem dX6_need_17 : decode cX6_need 17 = .ok (.iload_n 2, 1) := by decide +kernel
theorem dX6_need_18 : decode cX6_need 18 = .ok (.invokevirtual 158, 3) := by decide +kernel
theorem dX6_need_21 : decode cX6_need 21 = .ok (.ifCond .eq 12, 3) := by decide +kernel
theorem dX6_need_24 : decode cX6_need 24 = .ok (.aload 4, 2) := by decide +kernel
theorem dX6_need_26 : decode cX6_need 26 = .ok (.iload_n 3, 1) := by decide +kernel
theorem dX6_need_27 : decode cX6_need 27 = .ok (.invokevirtual 205, 3) := by decide +kernel
theorem dX6_need_30 : decode cX6_need 30 = .ok (.ifCond .ne 10, 3) := by decide +kernel
theorem dX6_need_33 : decode cX6_need 33 = .ok (.aload_n 0, 1) := by decide +kernel
theorem dX6_need_34 : decode cX6_need 34 = .ok (.bipush (-2), 2) := by decide +kernel
theorem dX6_need_36 : decode cX6_need 36 = .ok (.invokevirtual 59, 3) := by decide +kernel
theorem dX6_need_39 : decode cX6_need 39 = .ok (.ireturn, 1) := by decide +kernel
theorem dX6_need_40 : decode cX6_need 40 = .ok (.aload 4, 2) := by decide +kernel
theorem dX6_need_42 : decode cX6_need 42 = .ok (.iload_n 2, 1) := by decide +kernel
theorem dX6_need_43 : decode cX6_need 43 = .ok (.iload_n 3, 1) := by decide +kernel
theorem dX6_need_44 : decode cX6_need 44 = .ok (.invokevirtual 299, 3) := by decide +kernel
theorem dX6_need_47 : decode cX6_need 47 = .ok (.ireturn, 1) := by decide +kernel
theorem dX6_pay_0 : decode cX6_pay 0 = .ok (.aload_n 0, 1) := by decide +kernel
theorem dX6_pay_1 : decode cX6_pay 1 = .ok (.iload_n 1, 1) := by decide +kernel
theorem dX6_pay_2 : decode cX6_pay 2 = .ok (.iload_n 2, 1) := by decide +kernel
theorem dX6_pay_3 : decode cX6_pay 3 = .ok (.invokevirtual 216, 3) := by decide +kernel
theorem dX6_pay_6 : decode cX6_pay 6 = .ok (.astore_n 3, 1) := by decide +kernel
theorem dX6_pay_7 : decode cX6_pay 7 = .ok (.aload_n 3, 1) := by decide +kernel
theorem dX6_pay_8 : decode cX6_pay 8 = .ok (.ifnonnull 10, 3) := by decide +kernel
theorem dX6_pay_11 : decode cX6_pay 11 = .ok (.aload_n 0, 1) := by decide +kernel
theorem dX6_pay_12 : decode cX6_pay 12 = .ok (.bipush (-2), 2) := by decide +kernel
theorem dX6_pay_14 : decode cX6_pay 14 = .ok (.invokevirtual 59, 3) := by decide +kernel
theorem dX6_pay_17 : decode cX6_pay 17 = .ok (.ireturn, 1) := by decide +kernel
theorem dX6_pay_18 : decode cX6_pay 18 = .ok (.aload_n 3, 1) := by decide +kernel
theorem dX6_pay_19 : decode cX6_pay 19 = .ok (.iload_n 2, 1) := by decide +kernel
theorem dX6_pay_20 : decode cX6_pay 20 = .ok (.invokevirtual 302, 3) := by decide +kernel
theorem dX6_pay_23 : decode cX6_pay 23 = .ok (.ifCond .ne 10, 3) := by decide +kernel
theorem dX6_pay_26 : decode cX6_pay 26 = .ok (.aload_n 0, 1) := by decide +kernel
theorem dX6_pay_27 : decode cX6_pay 27 = .ok (.bipush (-5), 2) := by decide +kernel
theorem dX6_pay_29 : decode cX6_pay 29 = .ok (.invokevirtual 59, 3) := by decide +kernel
theorem dX6_pay_32 : decode cX6_pay 32 = .ok (.ireturn, 1) := by decide +kernel
theorem dX6_pay_33 : decode cX6_pay 33 = .ok (.iconst 0, 1) := by decide +kernel
theorem dX6_pay_34 : decode cX6_pay 34 = .ok (.istore 4, 2) := by decide +kernel
theorem dX6_pay_36 : decode cX6_pay 36 = .ok (.iconst 0, 1) := by decide +kernel
theorem dX6_pay_37 : decode cX6_pay 37 = .ok (.istore 5, 2) := by decide +kernel
theorem dX6_pay_39 : decode cX6_pay 39 = .ok (.iload 5, 2) := by decide +kernel
theorem dX6_pay_41 : decode cX6_pay 41 = .ok (.aload_n 3, 1) := by decide +kernel
theorem dX6_pay_42 : decode cX6_pay 42 = .ok (.getfield 143, 3) := by decide +kernel
theorem dX6_pay_45 : decode cX6_pay 45 = .ok (.if_icmp .ge 21, 3) := by decide +kernel
theorem dX6_pay_48 : decode cX6_pay 48 = .ok (.iload 4, 2) := by decide +kernel
theorem dX6_pay_50 : decode cX6_pay 50 = .ok (.aload_n 3, 1) := by decide +kernel
theorem dX6_pay_51 : decode cX6_pay 51 = .ok (.iload 5, 2) := by decide +kernel
theorem dX6_pay_53 : decode cX6_pay 53 = .ok (.iload_n 2, 1) := by decide +kernel
theorem dX6_pay_54 : decode cX6_pay 54 = .ok (.invokevirtual 299, 3) := by decide +kernel
theorem dX6_pay_57 : decode cX6_pay 57 = .ok (.iadd, 1) := by decide +kernel
theorem dX6_pay_58 : decode cX6_pay 58 = .ok (.istore 4, 2) := by decide +kernel
theorem dX6_pay_60 : decode cX6_pay 60 = .ok (.iinc 5 1, 3) := by decide +kernel
theorem dX6_pay_63 : decode cX6_pay 63 = .ok (.goto (-24), 3) := by decide +kernel
theorem dX6_pay_66 : decode cX6_pay 66 = .ok (.iload 4, 2) := by decide +kernel
theorem dX6_pay_68 : decode cX6_pay 68 = .ok (.ireturn, 1) := by decide +kernel
theorem dX6_few_0 : decode cX6_few 0 = .ok (.aload_n 0, 1) := by decide +kernel
theorem dX6_few_1 : decode cX6_few 1 = .ok (.iload_n 1, 1) := by decide +kernel
theorem dX6_few_2 : decode cX6_few 2 = .ok (.iload_n 2, 1) := by decide +kernel
theorem dX6_few_3 : decode cX6_few 3 = .ok (.invokevirtual 216, 3) := by decide +kernel
theorem dX6_few_6 : decode cX6_few 6 = .ok (.astore_n 3, 1) := by decide +kernel
theorem dX6_few_7 : decode cX6_few 7 = .ok (.aload_n 3, 1) := by decide +kernel
theorem dX6_few_8 : decode cX6_few 8 = .ok (.ifnonnull 10, 3) := by decide +kernel
theorem dX6_few_11 : decode cX6_few 11 = .ok (.aload_n 0, 1) := by decide +kernel
theorem dX6_few_12 : decode cX6_few 12 = .ok (.bipush (-2), 2) := by decide +kernel
theorem dX6_few_14 : decode cX6_few 14 = .ok (.invokevirtual 59, 3) := by decide +kernel
theorem dX6_few_17 : decode cX6_few 17 = .ok (.ireturn, 1) := by decide +kernel
theorem dX6_few_18 : decode cX6_few 18 = .ok (.aload_n 3, 1) := by decide +kernel
theorem dX6_few_19 : decode cX6_few 19 = .ok (.iload_n 2, 1) := by decide +kernel
theorem dX6_few_20 : decode cX6_few 20 = .ok (.invokevirtual 302, 3) := by decide +kernel
theorem dX6_few_23 : decode cX6_few 23 = .ok (.ifCond .ne 10, 3) := by decide +kernel
theorem dX6_few_26 : decode cX6_few 26 = .ok (.aload_n 0, 1) := by decide +kernel
theorem dX6_few_27 : decode cX6_few 27 = .ok (.bipush (-5), 2) := by decide +kernel
theorem dX6_few_29 : decode cX6_few 29 = .ok (.invokevirtual 59, 3) := by decide +kernel
theorem dX6_few_32 : decode cX6_few 32 = .ok (.ireturn, 1) := by decide +kernel
theorem dX6_few_33 : decode cX6_few 33 = .ok (.iconst 0, 1) := by decide +kernel
theorem dX6_few_34 : decode cX6_few 34 = .ok (.istore 4, 2) := by decide +kernel
theorem dX6_few_36 : decode cX6_few 36 = .ok (.iconst 0, 1) := by decide +kernel
theorem dX6_few_37 : decode cX6_few 37 = .ok (.istore 5, 2) := by decide +kernel
theorem dX6_few_39 : decode cX6_few 39 = .ok (.iload 5, 2) := by decide +kernel
theorem dX6_few_41 : decode cX6_few 41 = .ok (.aload_n 3, 1) := by decide +kernel
theorem dX6_few_42 : decode cX6_few 42 = .ok (.getfield 143, 3) := by decide +kernel
theorem dX6_few_45 : decode cX6_few 45 = .ok (.if_icmp .ge 22, 3) := by decide +kernel
theorem dX6_few_48 : decode cX6_few 48 = .ok (.aload_n 3, 1) := by decide +kernel
theorem dX6_few_49 : decode cX6_few 49 = .ok (.iload 5, 2) := by decide +kernel
theorem dX6_few_51 : decode cX6_few 51 = .ok (.iload_n 2, 1) := by decide +kernel
theorem dX6_few_52 : decode cX6_few 52 = .ok (.invokevirtual 299, 3) := by decide +kernel
theorem dX6_few_55 : decode cX6_few 55 = .ok (.ifCond .le 6, 3) := by decide +kernel
theorem dX6_few_58 : decode cX6_few 58 = .ok (.iinc 4 1, 3) := by decide +kernel
theorem dX6_few_61 : decode cX6_few 61 = .ok (.iinc 5 1, 3) := by decide +kernel
theorem dX6_few_64 : decode cX6_few 64 = .ok (.goto (-25), 3) := by decide +kernel
theorem dX6_few_67 : decode cX6_few 67 = .ok (.iload 4, 2) := by decide +kernel
theorem dX6_few_69 : decode cX6_few 69 = .ok (.ireturn, 1) := by decide +kernel
theorem dX6_rota_0 : decode cX6_rota 0 = .ok (.aload_n 0, 1) := by decide +kernel
theorem dX6_rota_1 : decode cX6_rota 1 = .ok (.getfield 25, 3) := by decide +kernel
theorem dX6_rota_4 : decode cX6_rota 4 = .ok (.iload_n 1, 1) := by decide +kernel
theorem dX6_rota_5 : decode cX6_rota 5 = .ok (.invokevirtual 139, 3) := by decide +kernel
theorem dX6_rota_8 : decode cX6_rota 8 = .ok (.astore 4, 2) := by decide +kernel
theorem dX6_rota_10 : decode cX6_rota 10 = .ok (.aload_n 0, 1) := by decide +kernel
theorem dX6_rota_11 : decode cX6_rota 11 = .ok (.iload_n 2, 1) := by decide +kernel
theorem dX6_rota_12 : decode cX6_rota 12 = .ok (.invokevirtual 51, 3) := by decide +kernel
theorem dX6_rota_15 : decode cX6_rota 15 = .ok (.astore 5, 2) := by decide +kernel
theorem dX6_rota_17 : decode cX6_rota 17 = .ok (.aload 4, 2) := by decide +kernel
theorem dX6_rota_19 : decode cX6_rota 19 = .ok (.ifnull 18, 3) := by decide +kernel
theorem dX6_rota_22 : decode cX6_rota 22 = .ok (.aload 5, 2) := by decide +kernel
theorem dX6_rota_24 : decode cX6_rota 24 = .ok (.ifnull 13, 3) := by decide +kernel
theorem dX6_rota_27 : decode cX6_rota 27 = .ok (.iload_n 3, 1) := by decide +kernel
theorem dX6_rota_28 : decode cX6_rota 28 = .ok (.iconst 1, 1) := by decide +kernel
theorem dX6_rota_29 : decode cX6_rota 29 = .ok (.bipush 40, 2) := by decide +kernel
theorem dX6_rota_31 : decode cX6_rota 31 = .ok (.invokestatic 55, 3) := by decide +kernel
theorem dX6_rota_34 : decode cX6_rota 34 = .ok (.ifCond .ne 10, 3) := by decide +kernel
theorem dX6_rota_37 : decode cX6_rota 37 = .ok (.aload_n 0, 1) := by decide +kernel
theorem dX6_rota_38 : decode cX6_rota 38 = .ok (.bipush (-2), 2) := by decide +kernel
theorem dX6_rota_40 : decode cX6_rota 40 = .ok (.invokevirtual 59, 3) := by decide +kernel
theorem dX6_rota_43 : decode cX6_rota 43 = .ok (.ireturn, 1) := by decide +kernel
theorem dX6_rota_44 : decode cX6_rota 44 = .ok (.aload 5, 2) := by decide +kernel
theorem dX6_rota_46 : decode cX6_rota 46 = .ok (.invokevirtual 67, 3) := by decide +kernel
theorem dX6_rota_49 : decode cX6_rota 49 = .ok (.ifCond .eq 10, 3) := by decide +kernel
theorem dX6_rota_52 : decode cX6_rota 52 = .ok (.aload_n 0, 1) := by decide +kernel
theorem dX6_rota_53 : decode cX6_rota 53 = .ok (.bipush (-3), 2) := by decide +kernel
theorem dX6_rota_55 : decode cX6_rota 55 = .ok (.invokevirtual 59, 3) := by decide +kernel
theorem dX6_rota_58 : decode cX6_rota 58 = .ok (.ireturn, 1) := by decide +kernel
theorem dX6_rota_59 : decode cX6_rota 59 = .ok (.aload 5, 2) := by decide +kernel
theorem dX6_rota_61 : decode cX6_rota 61 = .ok (.invokevirtual 71, 3) := by decide +kernel
theorem dX6_rota_64 : decode cX6_rota 64 = .ok (.ifCond .ne 10, 3) := by decide +kernel
theorem dX6_rota_67 : decode cX6_rota 67 = .ok (.aload_n 0, 1) := by decide +kernel
theorem dX6_rota_68 : decode cX6_rota 68 = .ok (.bipush (-4), 2) := by decide +kernel
theorem dX6_rota_70 : decode cX6_rota 70 = .ok (.invokevirtual 59, 3) := by decide +kernel
theorem dX6_rota_73 : decode cX6_rota 73 = .ok (.ireturn, 1) := by decide +kernel
theorem dX6_rota_74 : decode cX6_rota 74 = .ok (.aload 4, 2) := by decide +kernel
theorem dX6_rota_76 : decode cX6_rota 76 = .ok (.aload 5, 2) := by decide +kernel
theorem dX6_rota_78 : decode cX6_rota 78 = .ok (.iload_n 3, 1) := by decide +kernel
theorem dX6_rota_79 : decode cX6_rota 79 = .ok (.invokestatic 305, 3) := by decide +kernel
theorem dX6_rota_82 : decode cX6_rota 82 = .ok (.ifCond .ne 10, 3) := by decide +kernel
theorem dX6_rota_85 : decode cX6_rota 85 = .ok (.aload_n 0, 1) := by decide +kernel
theorem dX6_rota_86 : decode cX6_rota 86 = .ok (.bipush (-2), 2) := by decide +kernel
theorem dX6_rota_88 : decode cX6_rota 88 = .ok (.invokevirtual 59, 3) := by decide +kernel
theorem dX6_rota_91 : decode cX6_rota 91 = .ok (.ireturn, 1) := by decide +kernel
theorem dX6_rota_92 : decode cX6_rota 92 = .ok (.iconst 0, 1) := by decide +kernel
theorem dX6_rota_93 : decode cX6_rota 93 = .ok (.istore 6, 2) := by decide +kernel
theorem dX6_rota_95 : decode cX6_rota 95 = .ok (.iload 6, 2) := by decide +kernel
theorem dX6_rota_97 : decode cX6_rota 97 = .ok (.aload 4, 2) := by decide +kernel
theorem dX6_rota_99 : decode cX6_rota 99 = .ok (.getfield 143, 3) := by decide +kernel
theorem dX6_rota_102 : decode cX6_rota 102 = .ok (.if_icmp .ge 35, 3) := by decide +kernel
theorem dX6_rota_105 : decode cX6_rota 105 = .ok (.aload 4, 2) := by decide +kernel
theorem dX6_rota_107 : decode cX6_rota 107 = .ok (.iload 6, 2) := by decide +kernel
theorem dX6_rota_109 : decode cX6_rota 109 = .ok (.invokevirtual 170, 3) := by decide +kernel
theorem dX6_rota_112 : decode cX6_rota 112 = .ok (.ifCond .ne 19, 3) := by decide +kernel
theorem dX6_rota_115 : decode cX6_rota 115 = .ok (.aload 4, 2) := by decide +kernel
theorem dX6_rota_117 : decode cX6_rota 117 = .ok (.iload 6, 2) := by decide +kernel
theorem dX6_rota_119 : decode cX6_rota 119 = .ok (.aload 5, 2) := by decide +kernel
theorem dX6_rota_121 : decode cX6_rota 121 = .ok (.iload_n 3, 1) := by decide +kernel
theorem dX6_rota_122 : decode cX6_rota 122 = .ok (.invokestatic 309, 3) := by decide +kernel
theorem dX6_rota_125 : decode cX6_rota 125 = .ok (.ifCond .le 6, 3) := by decide +kernel
theorem dX6_rota_128 : decode cX6_rota 128 = .ok (.iload 6, 2) := by decide +kernel
theorem dX6_rota_130 : decode cX6_rota 130 = .ok (.ireturn, 1) := by decide +kernel
theorem dX6_rota_131 : decode cX6_rota 131 = .ok (.iinc 6 1, 3) := by decide +kernel
theorem dX6_rota_134 : decode cX6_rota 134 = .ok (.goto (-39), 3) := by decide +kernel
theorem dX6_rota_137 : decode cX6_rota 137 = .ok (.iconst (-1), 1) := by decide +kernel
theorem dX6_rota_138 : decode cX6_rota 138 = .ok (.ireturn, 1) := by decide +kernel
theorem dX6_doers_0 : decode cX6_doers 0 = .ok (.aload_n 0, 1) := by decide +kernel
theorem dX6_doers_1 : decode cX6_doers 1 = .ok (.getfield 25, 3) := by decide +kernel
theorem dX6_doers_4 : decode cX6_doers 4 = .ok (.iload_n 1, 1) := by decide +kernel
theorem dX6_doers_5 : decode cX6_doers 5 = .ok (.invokevirtual 139, 3) := by decide +kernel
theorem dX6_doers_8 : decode cX6_doers 8 = .ok (.astore_n 3, 1) := by decide +kernel
theorem dX6_doers_9 : decode cX6_doers 9 = .ok (.aload_n 3, 1) := by decide +kernel
theorem dX6_doers_10 : decode cX6_doers 10 = .ok (.ifnull 14, 3) := by decide +kernel
theorem dX6_doers_13 : decode cX6_doers 13 = .ok (.iload_n 2, 1) := by decide +kernel
theorem dX6_doers_14 : decode cX6_doers 14 = .ok (.iconst 0, 1) := by decide +kernel
theorem dX6_doers_15 : decode cX6_doers 15 = .ok (.sipush 999, 3) := by decide +kernel
theorem dX6_doers_18 : decode cX6_doers 18 = .ok (.invokestatic 55, 3) := by decide +kernel
theorem dX6_doers_21 : decode cX6_doers 21 = .ok (.ifCond .ne 10, 3) := by decide +kernel
theorem dX6_doers_24 : decode cX6_doers 24 = .ok (.aload_n 0, 1) := by decide +kernel
theorem dX6_doers_25 : decode cX6_doers 25 = .ok (.bipush (-2), 2) := by decide +kernel
theorem dX6_doers_27 : decode cX6_doers 27 = .ok (.invokevirtual 59, 3) := by decide +kernel
theorem dX6_doers_30 : decode cX6_doers 30 = .ok (.ireturn, 1) := by decide +kernel
theorem dX6_doers_31 : decode cX6_doers 31 = .ok (.iconst 0, 1) := by decide +kernel
theorem dX6_doers_32 : decode cX6_doers 32 = .ok (.istore 4, 2) := by decide +kernel
theorem dX6_doers_34 : decode cX6_doers 34 = .ok (.iconst 0, 1) := by decide +kernel
theorem dX6_doers_35 : decode cX6_doers 35 = .ok (.istore 5, 2) := by decide +kernel
theorem dX6_doers_37 : decode cX6_doers 37 = .ok (.iload 5, 2) := by decide +kernel
theorem dX6_doers_39 : decode cX6_doers 39 = .ok (.aload_n 3, 1) := by decide +kernel
theorem dX6_doers_40 : decode cX6_doers 40 = .ok (.getfield 143, 3) := by decide +kernel
theorem dX6_doers_43 : decode cX6_doers 43 = .ok (.if_icmp .ge 82, 3) := by decide +kernel
theorem dX6_doers_46 : decode cX6_doers 46 = .ok (.aload_n 3, 1) := by decide +kernel
theorem dX6_doers_47 : decode cX6_doers 47 = .ok (.iload 5, 2) := by decide +kernel
theorem dX6_doers_49 : decode cX6_doers 49 = .ok (.iload_n 2, 1) := by decide +kernel
theorem dX6_doers_50 : decode cX6_doers 50 = .ok (.invokevirtual 313, 3) := by decide +kernel
theorem dX6_doers_53 : decode cX6_doers 53 = .ok (.istore 6, 2) := by decide +kernel
theorem dX6_doers_55 : decode cX6_doers 55 = .ok (.aload_n 3, 1) := by decide +kernel
theorem dX6_doers_56 : decode cX6_doers 56 = .ok (.getfield 173, 3) := by decide +kernel
theorem dX6_doers_59 : decode cX6_doers 59 = .ok (.iload 5, 2) := by decide +kernel
theorem dX6_doers_61 : decode cX6_doers 61 = .ok (.iaload, 1) := by decide +kernel
theorem dX6_doers_62 : decode cX6_doers 62 = .ok (.iconst 2, 1) := by decide +kernel
theorem dX6_doers_63 : decode cX6_doers 63 = .ok (.if_icmp .ne 16, 3) := by decide +kernel
theorem dX6_doers_66 : decode cX6_doers 66 = .ok (.aload_n 3, 1) := by decide +kernel
theorem dX6_doers_67 : decode cX6_doers 67 = .ok (.iload 5, 2) := by decide +kernel
theorem dX6_doers_69 : decode cX6_doers 69 = .ok (.invokevirtual 170, 3) := by decide +kernel
theorem dX6_doers_72 : decode cX6_doers 72 = .ok (.ifCond .ne 7, 3) := by decide +kernel
theorem dX6_doers_75 : decode cX6_doers 75 = .ok (.iconst 1, 1) := by decide +kernel
theorem dX6_doers_76 : decode cX6_doers 76 = .ok (.goto 4, 3) := by decide +kernel
theorem dX6_doers_79 : decode cX6_doers 79 = .ok (.iconst 0, 1) := by decide +kernel
theorem dX6_doers_80 : decode cX6_doers 80 = .ok (.istore 7, 2) := by decide +kernel
theorem dX6_doers_82 : decode cX6_doers 82 = .ok (.iload 7, 2) := by decide +kernel
theorem dX6_doers_84 : decode cX6_doers 84 = .ok (.ifCond .eq 21, 3) := by decide +kernel
theorem dX6_doers_87 : decode cX6_doers 87 = .ok (.aload_n 0, 1) := by decide +kernel
theorem dX6_doers_88 : decode cX6_doers 88 = .ok (.getfield 25, 3) := by decide +kernel
theorem dX6_doers_91 : decode cX6_doers 91 = .ok (.sipush 1000, 3) := by decide +kernel
theorem dX6_doers_94 : decode cX6_doers 94 = .ok (.invokevirtual 316, 3) := by decide +kernel
theorem dX6_doers_97 : decode cX6_doers 97 = .ok (.iload 6, 2) := by decide +kernel
theorem dX6_doers_99 : decode cX6_doers 99 = .ok (.if_icmp .ge 20, 3) := by decide +kernel
theorem dX6_doers_102 : decode cX6_doers 102 = .ok (.goto 8, 3) := by decide +kernel
theorem dX6_doers_105 : decode cX6_doers 105 = .ok (.iload 6, 2) := by decide +kernel
theorem dX6_doers_107 : decode cX6_doers 107 = .ok (.ifCond .le 12, 3) := by decide +kernel
theorem dX6_doers_110 : decode cX6_doers 110 = .ok (.iload 4, 2) := by decide +kernel
theorem dX6_doers_112 : decode cX6_doers 112 = .ok (.iconst 1, 1) := by decide +kernel
theorem dX6_doers_113 : decode cX6_doers 113 = .ok (.iload 5, 2) := by decide +kernel
theorem dX6_doers_115 : decode cX6_doers 115 = .ok (.ishl, 1) := by decide +kernel
theorem dX6_doers_116 : decode cX6_doers 116 = .ok (.ior, 1) := by decide +kernel
theorem dX6_doers_117 : decode cX6_doers 117 = .ok (.istore 4, 2) := by decide +kernel
theorem dX6_doers_119 : decode cX6_doers 119 = .ok (.iinc 5 1, 3) := by decide +kernel
theorem dX6_doers_122 : decode cX6_doers 122 = .ok (.goto (-85), 3) := by decide +kernel
theorem dX6_doers_125 : decode cX6_doers 125 = .ok (.iload 4, 2) := by decide +kernel
theorem dX6_doers_127 : decode cX6_doers 127 = .ok (.ireturn, 1) := by decide +kernel
theorem dX6_light_0 : decode cX6_light 0 = .ok (.aload_n 0, 1) := by decide +kernel
theorem dX6_light_1 : decode cX6_light 1 = .ok (.getfield 25, 3) := by decide +kernel
theorem dX6_light_4 : decode cX6_light 4 = .ok (.iload_n 1, 1) := by decide +kernel
theorem dX6_light_5 : decode cX6_light 5 = .ok (.invokevirtual 139, 3) := by decide +kernel
theorem dX6_light_8 : decode cX6_light 8 = .ok (.astore_n 3, 1) := by decide +kernel
theorem dX6_light_9 : decode cX6_light 9 = .ok (.aload_n 3, 1) := by decide +kernel
theorem dX6_light_10 : decode cX6_light 10 = .ok (.ifnull 13, 3) := by decide +kernel
theorem dX6_light_13 : decode cX6_light 13 = .ok (.iload_n 2, 1) := by decide +kernel
theorem dX6_light_14 : decode cX6_light 14 = .ok (.iconst 1, 1) := by decide +kernel
theorem dX6_light_15 : decode cX6_light 15 = .ok (.bipush 99, 2) := by decide +kernel
theorem dX6_light_17 : decode cX6_light 17 = .ok (.invokestatic 55, 3) := by decide +kernel
theorem dX6_light_20 : decode cX6_light 20 = .ok (.ifCond .ne 10, 3) := by decide +kernel
theorem dX6_light_23 : decode cX6_light 23 = .ok (.aload_n 0, 1) := by decide +kernel
theorem dX6_light_24 : decode cX6_light 24 = .ok (.bipush (-2), 2) := by decide +kernel
theorem dX6_light_26 : decode cX6_light 26 = .ok (.invokevirtual 59, 3) := by decide +kernel
theorem dX6_light_29 : decode cX6_light 29 = .ok (.ireturn, 1) := by decide +kernel
theorem dX6_light_30 : decode cX6_light 30 = .ok (.ldc_w 319, 3) := by decide +kernel
theorem dX6_light_33 : decode cX6_light 33 = .ok (.istore 4, 2) := by decide +kernel
theorem dX6_light_35 : decode cX6_light 35 = .ok (.iconst 1, 1) := by decide +kernel
theorem dX6_light_36 : decode cX6_light 36 = .ok (.istore 5, 2) := by decide +kernel
theorem dX6_light_38 : decode cX6_light 38 = .ok (.iload 5, 2) := by decide +kernel
theorem dX6_light_40 : decode cX6_light 40 = .ok (.iload_n 2, 1) := by decide +kernel
theorem dX6_light_41 : decode cX6_light 41 = .ok (.if_icmp .gt 19, 3) := by decide +kernel
theorem dX6_light_44 : decode cX6_light 44 = .ok (.aload_n 3, 1) := by decide +kernel
theorem dX6_light_45 : decode cX6_light 45 = .ok (.iload 4, 2) := by decide +kernel
theorem dX6_light_47 : decode cX6_light 47 = .ok (.iload 5, 2) := by decide +kernel
theorem dX6_light_49 : decode cX6_light 49 = .ok (.invokevirtual 320, 3) := by decide +kernel
theorem dX6_light_52 : decode cX6_light 52 = .ok (.istore 4, 2) := by decide +kernel
theorem dX6_light_54 : decode cX6_light 54 = .ok (.iinc 5 1, 3) := by decide +kernel
theorem dX6_light_57 : decode cX6_light 57 = .ok (.goto (-19), 3) := by decide +kernel
theorem dX6_light_60 : decode cX6_light 60 = .ok (.iload 4, 2) := by decide +kernel
theorem dX6_light_62 : decode cX6_light 62 = .ok (.ireturn, 1) := by decide +kernel
theorem dX6_late_0 : decode cX6_late 0 = .ok (.aload_n 0, 1) := by decide +kernel
theorem dX6_late_1 : decode cX6_late 1 = .ok (.getfield 25, 3) := by decide +kernel
theorem dX6_late_4 : decode cX6_late 4 = .ok (.iload_n 1, 1) := by decide +kernel
theorem dX6_late_5 : decode cX6_late 5 = .ok (.invokevirtual 139, 3) := by decide +kernel
theorem dX6_late_8 : decode cX6_late 8 = .ok (.astore_n 3, 1) := by decide +kernel
theorem dX6_late_9 : decode cX6_late 9 = .ok (.aload_n 3, 1) := by decide +kernel
theorem dX6_late_10 : decode cX6_late 10 = .ok (.ifnull 14, 3) := by decide +kernel
theorem dX6_late_13 : decode cX6_late 13 = .ok (.iload_n 2, 1) := by decide +kernel
theorem dX6_late_14 : decode cX6_late 14 = .ok (.iconst 0, 1) := by decide +kernel
theorem dX6_late_15 : decode cX6_late 15 = .ok (.ldc_w 319, 3) := by decide +kernel
theorem dX6_late_18 : decode cX6_late 18 = .ok (.invokestatic 55, 3) := by decide +kernel
theorem dX6_late_21 : decode cX6_late 21 = .ok (.ifCond .ne 10, 3) := by decide +kernel
theorem dX6_late_24 : decode cX6_late 24 = .ok (.aload_n 0, 1) := by decide +kernel
theorem dX6_late_25 : decode cX6_late 25 = .ok (.bipush (-2), 2) := by decide +kernel
theorem dX6_late_27 : decode cX6_late 27 = .ok (.invokevirtual 59, 3) := by decide +kernel
theorem dX6_late_30 : decode cX6_late 30 = .ok (.ireturn, 1) := by decide +kernel
theorem dX6_late_31 : decode cX6_late 31 = .ok (.ldc_w 319, 3) := by decide +kernel
theorem dX6_late_34 : decode cX6_late 34 = .ok (.istore 4, 2) := by decide +kernel
theorem dX6_late_36 : decode cX6_late 36 = .ok (.iconst 1, 1) := by decide +kernel
theorem dX6_late_37 : decode cX6_late 37 = .ok (.istore 5, 2) := by decide +kernel
theorem dX6_late_39 : decode cX6_late 39 = .ok (.iload 5, 2) := by decide +kernel
theorem dX6_late_41 : decode cX6_late 41 = .ok (.bipush 99, 2) := by decide +kernel
theorem dX6_late_43 : decode cX6_late 43 = .ok (.if_icmp .gt 28, 3) := by decide +kernel
theorem dX6_late_46 : decode cX6_late 46 = .ok (.aload_n 3, 1) := by decide +kernel
theorem dX6_late_47 : decode cX6_late 47 = .ok (.iload 4, 2) := by decide +kernel
theorem dX6_late_49 : decode cX6_late 49 = .ok (.iload 5, 2) := by decide +kernel
theorem dX6_late_51 : decode cX6_late 51 = .ok (.invokevirtual 320, 3) := by decide +kernel
theorem dX6_late_54 : decode cX6_late 54 = .ok (.istore 4, 2) := by decide +kernel
theorem dX6_late_56 : decode cX6_late 56 = .ok (.iload 4, 2) := by decide +kernel
theorem dX6_late_58 : decode cX6_late 58 = .ok (.iload_n 2, 1) := by decide +kernel
theorem dX6_late_59 : decode cX6_late 59 = .ok (.if_icmp .gt 6, 3) := by decide +kernel
theorem dX6_late_62 : decode cX6_late 62 = .ok (.iload 5, 2) := by decide +kernel
theorem dX6_late_64 : decode cX6_late 64 = .ok (.ireturn, 1) := by decide +kernel
theorem dX6_late_65 : decode cX6_late 65 = .ok (.iinc 5 1, 3) := by decide +kernel
theorem dX6_late_68 : decode cX6_late 68 = .ok (.goto (-29), 3) := by decide +kernel
theorem dX6_late_71 : decode cX6_late 71 = .ok (.iconst (-1), 1) := by decide +kernel
theorem dX6_late_72 : decode cX6_late 72 = .ok (.ireturn, 1) := by decide +kernel
theorem dX6_seed_0 : decode cX6_seed 0 = .ok (.aload_n 0, 1) := by decide +kernel
theorem dX6_seed_1 : decode cX6_seed 1 = .ok (.getfield 25, 3) := by decide +kernel
theorem dX6_seed_4 : decode cX6_seed 4 = .ok (.getfield 323, 3) := by decide +kernel
theorem dX6_seed_7 : decode cX6_seed 7 = .ok (.istore_n 2, 1) := by decide +kernel
theorem dX6_seed_8 : decode cX6_seed 8 = .ok (.aload_n 0, 1) := by decide +kernel
theorem dX6_seed_9 : decode cX6_seed 9 = .ok (.getfield 25, 3) := by decide +kernel
theorem dX6_seed_12 : decode cX6_seed 12 = .ok (.iload_n 1, 1) := by decide +kernel
theorem dX6_seed_13 : decode cX6_seed 13 = .ok (.putfield 323, 3) := by decide +kernel
theorem dX6_seed_16 : decode cX6_seed 16 = .ok (.iload_n 2, 1) := by decide +kernel
theorem dX6_seed_17 : decode cX6_seed 17 = .ok (.ireturn, 1) := by decide +kernel
theorem dX6_begin_0 : decode cX6_begin 0 = .ok (.aload_n 0, 1) := by decide +kernel
theorem dX6_begin_1 : decode cX6_begin 1 = .ok (.getfield 25, 3) := by decide +kernel
theorem dX6_begin_4 : decode cX6_begin 4 = .ok (.iload_n 1, 1) := by decide +kernel
theorem dX6_begin_5 : decode cX6_begin 5 = .ok (.invokevirtual 139, 3) := by decide +kernel
theorem dX6_begin_8 : decode cX6_begin 8 = .ok (.astore_n 2, 1) := by decide +kernel
theorem dX6_begin_9 : decode cX6_begin 9 = .ok (.aload_n 2, 1) := by decide +kernel
theorem dX6_begin_10 : decode cX6_begin 10 = .ok (.ifnonnull 10, 3) := by decide +kernel
theorem dX6_begin_13 : decode cX6_begin 13 = .ok (.aload_n 0, 1) := by decide +kernel
theorem dX6_begin_14 : decode cX6_begin 14 = .ok (.bipush (-2), 2) := by decide +kernel
theorem dX6_begin_16 : decode cX6_begin 16 = .ok (.invokevirtual 59, 3) := by decide +kernel
theorem dX6_begin_19 : decode cX6_begin 19 = .ok (.ireturn, 1) := by decide +kernel
theorem dX6_begin_20 : decode cX6_begin 20 = .ok (.aload_n 0, 1) := by decide +kernel
theorem dX6_begin_21 : decode cX6_begin 21 = .ok (.getfield 25, 3) := by decide +kernel
theorem dX6_begin_24 : decode cX6_begin 24 = .ok (.getfield 326, 3) := by decide +kernel
theorem dX6_begin_27 : decode cX6_begin 27 = .ok (.aload_n 2, 1) := by decide +kernel
theorem dX6_begin_28 : decode cX6_begin 28 = .ok (.iload_n 1, 1) := by decide +kernel
theorem dX6_begin_29 : decode cX6_begin 29 = .ok (.invokevirtual 330, 3) := by decide +kernel
theorem dX6_begin_32 : decode cX6_begin 32 = .ok (.aload_n 2, 1) := by decide +kernel
theorem dX6_begin_33 : decode cX6_begin 33 = .ok (.invokevirtual 334, 3) := by decide +kernel
theorem dX6_begin_36 : decode cX6_begin 36 = .ok (.ireturn, 1) := by decide +kernel
theorem dX6_step_0 : decode cX6_step 0 = .ok (.iload_n 1, 1) := by decide +kernel
theorem dX6_step_1 : decode cX6_step 1 = .ok (.iconst 1, 1) := by decide +kernel
theorem dX6_step_2 : decode cX6_step 2 = .ok (.sipush 999, 3) := by decide +kernel
theorem dX6_step_5 : decode cX6_step 5 = .ok (.invokestatic 55, 3) := by decide +kernel
theorem dX6_step_8 : decode cX6_step 8 = .ok (.ifCond .ne 10, 3) := by decide +kernel
theorem dX6_step_11 : decode cX6_step 11 = .ok (.aload_n 0, 1) := by decide +kernel
theorem dX6_step_12 : decode cX6_step 12 = .ok (.bipush (-2), 2) := by decide +kernel
theorem dX6_step_14 : decode cX6_step 14 = .ok (.invokevirtual 59, 3) := by decide +kernel
theorem dX6_step_17 : decode cX6_step 17 = .ok (.ireturn, 1) := by decide +kernel
theorem dX6_step_18 : decode cX6_step 18 = .ok (.aload_n 0, 1) := by decide +kernel
theorem dX6_step_19 : decode cX6_step 19 = .ok (.getfield 25, 3) := by decide +kernel
theorem dX6_step_22 : decode cX6_step 22 = .ok (.getfield 326, 3) := by decide +kernel
theorem dX6_step_25 : decode cX6_step 25 = .ok (.getfield 337, 3) := by decide +kernel
theorem dX6_step_28 : decode cX6_step 28 = .ok (.ifCond .eq 16, 3) := by decide +kernel
theorem dX6_step_31 : decode cX6_step 31 = .ok (.aload_n 0, 1) := by decide +kernel
theorem dX6_step_32 : decode cX6_step 32 = .ok (.getfield 25, 3) := by decide +kernel
theorem dX6_step_35 : decode cX6_step 35 = .ok (.getfield 326, 3) := by decide +kernel
theorem dX6_step_38 : decode cX6_step 38 = .ok (.invokevirtual 341, 3) := by decide +kernel
theorem dX6_step_41 : decode cX6_step 41 = .ok (.ifCond .eq 10, 3) := by decide +kernel
theorem dX6_step_44 : decode cX6_step 44 = .ok (.aload_n 0, 1) := by decide +kernel
theorem dX6_step_45 : decode cX6_step 45 = .ok (.bipush (-5), 2) := by decide +kernel
theorem dX6_step_47 : decode cX6_step 47 = .ok (.invokevirtual 59, 3) := by decide +kernel
theorem dX6_step_50 : decode cX6_step 50 = .ok (.ireturn, 1) := by decide +kernel
theorem dX6_step_51 : decode cX6_step 51 = .ok (.aload_n 0, 1) := by decide +kernel
theorem dX6_step_52 : decode cX6_step 52 = .ok (.getfield 25, 3) := by decide +kernel
theorem dX6_step_55 : decode cX6_step 55 = .ok (.getfield 326, 3) := by decide +kernel
theorem dX6_step_58 : decode cX6_step 58 = .ok (.iload_n 1, 1) := by decide +kernel
theorem dX6_step_59 : decode cX6_step 59 = .ok (.invokevirtual 344, 3) := by decide +kernel
theorem dX6_step_62 : decode cX6_step 62 = .ok (.ireturn, 1) := by decide +kernel
theorem dX6_search_0 : decode cX6_search 0 = .ok (.iload_n 1, 1) := by decide +kernel
theorem dX6_search_1 : decode cX6_search 1 = .ok (.iconst 0, 1) := by decide +kernel
theorem dX6_search_2 : decode cX6_search 2 = .ok (.iconst 4, 1) := by decide +kernel
theorem dX6_search_3 : decode cX6_search 3 = .ok (.invokestatic 55, 3) := by decide +kernel
theorem dX6_search_6 : decode cX6_search 6 = .ok (.ifCond .ne 10, 3) := by decide +kernel
theorem dX6_search_9 : decode cX6_search 9 = .ok (.aload_n 0, 1) := by decide +kernel
theorem dX6_search_10 : decode cX6_search 10 = .ok (.bipush (-2), 2) := by decide +kernel
theorem dX6_search_12 : decode cX6_search 12 = .ok (.invokevirtual 59, 3) := by decide +kernel
theorem dX6_search_15 : decode cX6_search 15 = .ok (.ireturn, 1) := by decide +kernel
theorem dX6_search_16 : decode cX6_search 16 = .ok (.aload_n 0, 1) := by decide +kernel
theorem dX6_search_17 : decode cX6_search 17 = .ok (.getfield 25, 3) := by decide +kernel
theorem dX6_search_20 : decode cX6_search 20 = .ok (.getfield 326, 3) := by decide +kernel
theorem dX6_search_23 : decode cX6_search 23 = .ok (.astore_n 2, 1) := by decide +kernel
theorem dX6_search_24 : decode cX6_search 24 = .ok (.aload_n 2, 1) := by decide +kernel
theorem dX6_search_25 : decode cX6_search 25 = .ok (.getfield 337, 3) := by decide +kernel
theorem dX6_search_28 : decode cX6_search 28 = .ok (.ifCond .ne 10, 3) := by decide +kernel
theorem dX6_search_31 : decode cX6_search 31 = .ok (.aload_n 0, 1) := by decide +kernel
theorem dX6_search_32 : decode cX6_search 32 = .ok (.bipush (-5), 2) := by decide +kernel
theorem dX6_search_34 : decode cX6_search 34 = .ok (.invokevirtual 59, 3) := by decide +kernel
theorem dX6_search_37 : decode cX6_search 37 = .ok (.ireturn, 1) := by decide +kernel
theorem dX6_search_38 : decode cX6_search 38 = .ok (.iload_n 1, 1) := by decide +kernel
theorem dX6_search_39 : decode cX6_search 39 = .ok (.tableswitch 49 0 3 #[29, 34, 39, 44], 29) := by decide +kernel
theorem dX6_search_68 : decode cX6_search 68 = .ok (.aload_n 2, 1) := by decide +kernel
theorem dX6_search_69 : decode cX6_search 69 = .ok (.getfield 347, 3) := by decide +kernel
theorem dX6_search_72 : decode cX6_search 72 = .ok (.ireturn, 1) := by decide +kernel
theorem dX6_search_73 : decode cX6_search 73 = .ok (.aload_n 2, 1) := by decide +kernel
theorem dX6_search_74 : decode cX6_search 74 = .ok (.getfield 350, 3) := by decide +kernel
theorem dX6_search_77 : decode cX6_search 77 = .ok (.ireturn, 1) := by decide +kernel
theorem dX6_search_78 : decode cX6_search 78 = .ok (.aload_n 2, 1) := by decide +kernel
theorem dX6_search_79 : decode cX6_search 79 = .ok (.getfield 353, 3) := by decide +kernel
theorem dX6_search_82 : decode cX6_search 82 = .ok (.ireturn, 1) := by decide +kernel
theorem dX6_search_83 : decode cX6_search 83 = .ok (.aload_n 2, 1) := by decide +kernel
theorem dX6_search_84 : decode cX6_search 84 = .ok (.getfield 356, 3) := by decide +kernel
theorem dX6_search_87 : decode cX6_search 87 = .ok (.ireturn, 1) := by decide +kernel
theorem dX6_search_88 : decode cX6_search 88 = .ok (.aload_n 2, 1) := by decide +kernel
theorem dX6_search_89 : decode cX6_search 89 = .ok (.invokevirtual 341, 3) := by decide +kernel
theorem dX6_search_92 : decode cX6_search 92 = .ok (.ifCond .eq 7, 3) := by decide +kernel
theorem dX6_search_95 : decode cX6_search 95 = .ok (.iconst 1, 1) := by decide +kernel
theorem dX6_search_96 : decode cX6_search 96 = .ok (.goto 4, 3) := by decide +kernel
theorem dX6_search_99 : decode cX6_search 99 = .ok (.iconst 0, 1) := by decide +kernel
theorem dX6_search_100 : decode cX6_search 100 = .ok (.ireturn, 1) := by decide +kernel
theorem dX6_image_0 : decode cX6_image 0 = .ok (.aload_n 0, 1) := by decide +kernel
theorem dX6_image_1 : decode cX6_image 1 = .ok (.getfield 29, 3) := by decide +kernel
theorem dX6_image_4 : decode cX6_image 4 = .ok (.aload_n 0, 1) := by decide +kernel
theorem dX6_image_5 : decode cX6_image 5 = .ok (.getfield 25, 3) := by decide +kernel
theorem dX6_image_8 : decode cX6_image 8 = .ok (.invokevirtual 359, 3) := by decide +kernel
theorem dX6_image_11 : decode cX6_image 11 = .ok (.aload_n 0, 1) := by decide +kernel
theorem dX6_image_12 : decode cX6_image 12 = .ok (.iconst 1, 1) := by decide +kernel
theorem dX6_image_13 : decode cX6_image 13 = .ok (.putfield 362, 3) := by decide +kernel
theorem dX6_image_16 : decode cX6_image 16 = .ok (.iconst 1, 1) := by decide +kernel
theorem dX6_image_17 : decode cX6_image 17 = .ok (.ireturn, 1) := by decide +kernel
theorem dX6_back_0 : decode cX6_back 0 = .ok (.aload_n 0, 1) := by decide +kernel
theorem dX6_back_1 : decode cX6_back 1 = .ok (.getfield 362, 3) := by decide +kernel
theorem dX6_back_4 : decode cX6_back 4 = .ok (.ifCond .ne 10, 3) := by decide +kernel
theorem dX6_back_7 : decode cX6_back 7 = .ok (.aload_n 0, 1) := by decide +kernel
theorem dX6_back_8 : decode cX6_back 8 = .ok (.bipush (-5), 2) := by decide +kernel
theorem dX6_back_10 : decode cX6_back 10 = .ok (.invokevirtual 59, 3) := by decide +kernel
theorem dX6_back_13 : decode cX6_back 13 = .ok (.ireturn, 1) := by decide +kernel
theorem dX6_back_14 : decode cX6_back 14 = .ok (.aload_n 0, 1) := by decide +kernel
theorem dX6_back_15 : decode cX6_back 15 = .ok (.getfield 25, 3) := by decide +kernel
theorem dX6_back_18 : decode cX6_back 18 = .ok (.aload_n 0, 1) := by decide +kernel
theorem dX6_back_19 : decode cX6_back 19 = .ok (.getfield 29, 3) := by decide +kernel
theorem dX6_back_22 : decode cX6_back 22 = .ok (.invokevirtual 359, 3) := by decide +kernel
theorem dX6_back_25 : decode cX6_back 25 = .ok (.iconst 1, 1) := by decide +kernel
theorem dX6_back_26 : decode cX6_back 26 = .ok (.ireturn, 1) := by decide +kernel
theorem dX6_status_0 : decode cX6_status 0 = .ok (.iload_n 1, 1) := by decide +kernel
theorem dX6_status_1 : decode cX6_status 1 = .ok (.tableswitch 60 0 3 #[31, 39, 47, 55], 31) := by decide +kernel
theorem dX6_status_32 : decode cX6_status 32 = .ok (.aload_n 0, 1) := by decide +kernel
theorem dX6_status_33 : decode cX6_status 33 = .ok (.getfield 25, 3) := by decide +kernel
theorem dX6_status_36 : decode cX6_status 36 = .ok (.getfield 138, 3) := by decide +kernel
theorem dX6_status_39 : decode cX6_status 39 = .ok (.ireturn, 1) := by decide +kernel
theorem dX6_status_40 : decode cX6_status 40 = .ok (.aload_n 0, 1) := by decide +kernel
theorem dX6_status_41 : decode cX6_status 41 = .ok (.getfield 18, 3) := by decide +kernel
theorem dX6_status_44 : decode cX6_status 44 = .ok (.getfield 117, 3) := by decide +kernel
theorem dX6_status_47 : decode cX6_status 47 = .ok (.ireturn, 1) := by decide +kernel
theorem dX6_status_48 : decode cX6_status 48 = .ok (.aload_n 0, 1) := by decide +kernel
theorem dX6_status_49 : decode cX6_status 49 = .ok (.getfield 25, 3) := by decide +kernel
theorem dX6_status_52 : decode cX6_status 52 = .ok (.getfield 323, 3) := by decide +kernel
theorem dX6_status_55 : decode cX6_status 55 = .ok (.ireturn, 1) := by decide +kernel
theorem dX6_status_56 : decode cX6_status 56 = .ok (.aload_n 0, 1) := by decide +kernel
theorem dX6_status_57 : decode cX6_status 57 = .ok (.invokevirtual 365, 3) := by decide +kernel
theorem dX6_status_60 : decode cX6_status 60 = .ok (.ireturn, 1) := by decide +kernel
theorem dX6_status_61 : decode cX6_status 61 = .ok (.iload_n 1, 1) := by decide +kernel
theorem dX6_status_62 : decode cX6_status 62 = .ok (.bipush 12, 2) := by decide +kernel
theorem dX6_status_64 : decode cX6_status 64 = .ok (.bipush 16, 2) := by decide +kernel
theorem dX6_status_66 : decode cX6_status 66 = .ok (.invokestatic 55, 3) := by decide +kernel
theorem dX6_status_69 : decode cX6_status 69 = .ok (.ifCond .eq 15, 3) := by decide +kernel
theorem dX6_status_72 : decode cX6_status 72 = .ok (.aload_n 0, 1) := by decide +kernel
theorem dX6_status_73 : decode cX6_status 73 = .ok (.getfield 46, 3) := by decide +kernel
theorem dX6_status_76 : decode cX6_status 76 = .ok (.iload_n 1, 1) := by decide +kernel
theorem dX6_status_77 : decode cX6_status 77 = .ok (.bipush 12, 2) := by decide +kernel
theorem dX6_status_79 : decode cX6_status 79 = .ok (.isub, 1) := by decide +kernel
theorem dX6_status_80 : decode cX6_status 80 = .ok (.iaload, 1) := by decide +kernel
theorem dX6_status_81 : decode cX6_status 81 = .ok (.goto 4, 3) := by decide +kernel
theorem dX6_status_84 : decode cX6_status 84 = .ok (.iconst (-1), 1) := by decide +kernel
theorem dX6_status_85 : decode cX6_status 85 = .ok (.ireturn, 1) := by decide +kernel
theorem dX6_refuse_0 : decode cX6_refuse 0 = .ok (.bipush (-2), 2) := by decide +kernel
theorem dX6_refuse_2 : decode cX6_refuse 2 = .ok (.iload_n 1, 1) := by decide +kernel
theorem dX6_refuse_3 : decode cX6_refuse 3 = .ok (.isub, 1) := by decide +kernel
theorem dX6_refuse_4 : decode cX6_refuse 4 = .ok (.istore_n 2, 1) := by decide +kernel
theorem dX6_refuse_5 : decode cX6_refuse 5 = .ok (.iload_n 2, 1) := by decide +kernel
theorem dX6_refuse_6 : decode cX6_refuse 6 = .ok (.ifCond .lt 18, 3) := by decide +kernel
theorem dX6_refuse_9 : decode cX6_refuse 9 = .ok (.iload_n 2, 1) := by decide +kernel
theorem dX6_refuse_10 : decode cX6_refuse 10 = .ok (.iconst 5, 1) := by decide +kernel
theorem dX6_refuse_11 : decode cX6_refuse 11 = .ok (.if_icmp .ge 13, 3) := by decide +kernel
theorem dX6_refuse_14 : decode cX6_refuse 14 = .ok (.aload_n 0, 1) := by decide +kernel
theorem dX6_refuse_15 : decode cX6_refuse 15 = .ok (.getfield 46, 3) := by decide +kernel
theorem dX6_refuse_18 : decode cX6_refuse 18 = .ok (.iload_n 2, 1) := by decide +kernel
theorem dX6_refuse_19 : decode cX6_refuse 19 = .ok (.dup2, 1) := by decide +kernel
theorem dX6_refuse_20 : decode cX6_refuse 20 = .ok (.iaload, 1) := by decide +kernel
theorem dX6_refuse_21 : decode cX6_refuse 21 = .ok (.iconst 1, 1) := by decide +kernel
theorem dX6_refuse_22 : decode cX6_refuse 22 = .ok (.iadd, 1) := by decide +kernel
theorem dX6_refuse_23 : decode cX6_refuse 23 = .ok (.iastore, 1) := by decide +kernel
theorem dX6_refuse_24 : decode cX6_refuse 24 = .ok (.iload_n 1, 1) := by decide +kernel
theorem dX6_refuse_25 : decode cX6_refuse 25 = .ok (.ireturn, 1) := by decide +kernel
theorem dX6_isWithin_0 : decode cX6_isWithin 0 = .ok (.iload_n 0, 1) := by decide +kernel
theorem dX6_isWithin_1 : decode cX6_isWithin 1 = .ok (.iload_n 1, 1) := by decide +kernel
theorem dX6_isWithin_2 : decode cX6_isWithin 2 = .ok (.if_icmp .lt 12, 3) := by decide +kernel
theorem dX6_isWithin_5 : decode cX6_isWithin 5 = .ok (.iload_n 0, 1) := by decide +kernel
theorem dX6_isWithin_6 : decode cX6_isWithin 6 = .ok (.iload_n 2, 1) := by decide +kernel
theorem dX6_isWithin_7 : decode cX6_isWithin 7 = .ok (.if_icmp .gt 7, 3) := by decide +kernel
theorem dX6_isWithin_10 : decode cX6_isWithin 10 = .ok (.iconst 1, 1) := by decide +kernel
theorem dX6_isWithin_11 : decode cX6_isWithin 11 = .ok (.goto 4, 3) := by decide +kernel
theorem dX6_isWithin_14 : decode cX6_isWithin 14 = .ok (.iconst 0, 1) := by decide +kernel
theorem dX6_isWithin_15 : decode cX6_isWithin 15 = .ok (.ireturn, 1) := by decide +kernel
theorem dX6_shelfAt_0 : decode cX6_shelfAt 0 = .ok (.iload_n 1, 1) := by decide +kernel
theorem dX6_shelfAt_1 : decode cX6_shelfAt 1 = .ok (.iconst 0, 1) := by decide +kernel
theorem dX6_shelfAt_2 : decode cX6_shelfAt 2 = .ok (.bipush 7, 2) := by decide +kernel
theorem dX6_shelfAt_4 : decode cX6_shelfAt 4 = .ok (.invokestatic 55, 3) := by decide +kernel
theorem dX6_shelfAt_7 : decode cX6_shelfAt 7 = .ok (.ifCond .eq 12, 3) := by decide +kernel
theorem dX6_shelfAt_10 : decode cX6_shelfAt 10 = .ok (.aload_n 0, 1) := by decide +kernel
theorem dX6_shelfAt_11 : decode cX6_shelfAt 11 = .ok (.getfield 11, 3) := by decide +kernel
theorem dX6_shelfAt_14 : decode cX6_shelfAt 14 = .ok (.iload_n 1, 1) := by decide +kernel
theorem dX6_shelfAt_15 : decode cX6_shelfAt 15 = .ok (.aaload, 1) := by decide +kernel
theorem dX6_shelfAt_16 : decode cX6_shelfAt 16 = .ok (.goto 4, 3) := by decide +kernel
theorem dX6_shelfAt_19 : decode cX6_shelfAt 19 = .ok (.aconst_null, 1) := by decide +kernel
theorem dX6_shelfAt_20 : decode cX6_shelfAt 20 = .ok (.areturn, 1) := by decide +kernel
theorem dX6_shelvesInUse_0 : decode cX6_shelvesInUse 0 = .ok (.iconst 0, 1) := by decide +kernel
theorem dX6_shelvesInUse_1 : decode cX6_shelvesInUse 1 = .ok (.istore_n 1, 1) := by decide +kernel
theorem dX6_shelvesInUse_2 : decode cX6_shelvesInUse 2 = .ok (.iconst 0, 1) := by decide +kernel
theorem dX6_shelvesInUse_3 : decode cX6_shelvesInUse 3 = .ok (.istore_n 2, 1) := by decide +kernel
theorem dX6_shelvesInUse_4 : decode cX6_shelvesInUse 4 = .ok (.iload_n 2, 1) := by decide +kernel
theorem dX6_shelvesInUse_5 : decode cX6_shelvesInUse 5 = .ok (.bipush 8, 2) := by decide +kernel
theorem dX6_shelvesInUse_7 : decode cX6_shelvesInUse 7 = .ok (.if_icmp .ge 25, 3) := by decide +kernel
theorem dX6_shelvesInUse_10 : decode cX6_shelvesInUse 10 = .ok (.aload_n 0, 1) := by decide +kernel
theorem dX6_shelvesInUse_11 : decode cX6_shelvesInUse 11 = .ok (.getfield 11, 3) := by decide +kernel
theorem dX6_shelvesInUse_14 : decode cX6_shelvesInUse 14 = .ok (.iload_n 2, 1) := by decide +kernel
theorem dX6_shelvesInUse_15 : decode cX6_shelvesInUse 15 = .ok (.aaload, 1) := by decide +kernel
theorem dX6_shelvesInUse_16 : decode cX6_shelvesInUse 16 = .ok (.getfield 82, 3) := by decide +kernel
theorem dX6_shelvesInUse_19 : decode cX6_shelvesInUse 19 = .ok (.iconst (-1), 1) := by decide +kernel
theorem dX6_shelvesInUse_20 : decode cX6_shelvesInUse 20 = .ok (.if_icmp .eq 6, 3) := by decide +kernel
theorem dX6_shelvesInUse_23 : decode cX6_shelvesInUse 23 = .ok (.iinc 1 1, 3) := by decide +kernel
theorem dX6_shelvesInUse_26 : decode cX6_shelvesInUse 26 = .ok (.iinc 2 1, 3) := by decide +kernel
theorem dX6_shelvesInUse_29 : decode cX6_shelvesInUse 29 = .ok (.goto (-25), 3) := by decide +kernel
theorem dX6_shelvesInUse_32 : decode cX6_shelvesInUse 32 = .ok (.iload_n 1, 1) := by decide +kernel
theorem dX6_shelvesInUse_33 : decode cX6_shelvesInUse 33 = .ok (.ireturn, 1) := by decide +kernel
theorem dX6_streetWithSet_0 : decode cX6_streetWithSet 0 = .ok (.aload_n 0, 1) := by decide +kernel
theorem dX6_streetWithSet_1 : decode cX6_streetWithSet 1 = .ok (.getfield 25, 3) := by decide +kernel
theorem dX6_streetWithSet_4 : decode cX6_streetWithSet 4 = .ok (.iload_n 1, 1) := by decide +kernel
theorem dX6_streetWithSet_5 : decode cX6_streetWithSet 5 = .ok (.invokevirtual 139, 3) := by decide +kernel
theorem dX6_streetWithSet_8 : decode cX6_streetWithSet 8 = .ok (.astore_n 3, 1) := by decide +kernel
theorem dX6_streetWithSet_9 : decode cX6_streetWithSet 9 = .ok (.aload_n 3, 1) := by decide +kernel
theorem dX6_streetWithSet_10 : decode cX6_streetWithSet 10 = .ok (.ifnull 15, 3) := by decide +kernel
theorem dX6_streetWithSet_13 : decode cX6_streetWithSet 13 = .ok (.aload_n 3, 1) := by decide +kernel
theorem dX6_streetWithSet_14 : decode cX6_streetWithSet 14 = .ok (.iload_n 2, 1) := by decide +kernel
theorem dX6_streetWithSet_15 : decode cX6_streetWithSet 15 = .ok (.invokevirtual 205, 3) := by decide +kernel
theorem dX6_streetWithSet_18 : decode cX6_streetWithSet 18 = .ok (.ifCond .eq 7, 3) := by decide +kernel
theorem dX6_streetWithSet_21 : decode cX6_streetWithSet 21 = .ok (.aload_n 3, 1) := by decide +kernel
theorem dX6_streetWithSet_22 : decode cX6_streetWithSet 22 = .ok (.goto 4, 3) := by decide +kernel
theorem dX6_streetWithSet_25 : decode cX6_streetWithSet 25 = .ok (.aconst_null, 1) := by decide +kernel
theorem dX6_streetWithSet_26 : decode cX6_streetWithSet 26 = .ok (.areturn, 1) := by decide +kernel
theorem dX6_isWayToldBy_0 : decode cX6_isWayToldBy 0 = .ok (.iload_n 0, 1) := by decide +kernel
theorem dX6_isWayToldBy_1 : decode cX6_isWayToldBy 1 = .ok (.tableswitch 96 1 5 #[35, 42, 51, 59, 88], 35) := by decide +kernel
theorem dX6_isWayToldBy_36 : decode cX6_isWayToldBy 36 = .ok (.iload_n 1, 1) := by decide +kernel
theorem dX6_isWayToldBy_37 : decode cX6_isWayToldBy 37 = .ok (.iconst 0, 1) := by decide +kernel
theorem dX6_isWayToldBy_38 : decode cX6_isWayToldBy 38 = .ok (.iconst 1, 1) := by decide +kernel
theorem dX6_isWayToldBy_39 : decode cX6_isWayToldBy 39 = .ok (.invokestatic 55, 3) := by decide +kernel
theorem dX6_isWayToldBy_42 : decode cX6_isWayToldBy 42 = .ok (.ireturn, 1) := by decide +kernel
theorem dX6_isWayToldBy_43 : decode cX6_isWayToldBy 43 = .ok (.iload_n 1, 1) := by decide +kernel
theorem dX6_isWayToldBy_44 : decode cX6_isWayToldBy 44 = .ok (.iconst 0, 1) := by decide +kernel
theorem dX6_isWayToldBy_45 : decode cX6_isWayToldBy 45 = .ok (.sipush 1000, 3) := by decide +kernel
theorem dX6_isWayToldBy_48 : decode cX6_isWayToldBy 48 = .ok (.invokestatic 55, 3) := by decide +kernel
theorem dX6_isWayToldBy_51 : decode cX6_isWayToldBy 51 = .ok (.ireturn, 1) := by decide +kernel
theorem dX6_isWayToldBy_52 : decode cX6_isWayToldBy 52 = .ok (.iload_n 1, 1) := by decide +kernel
theorem dX6_isWayToldBy_53 : decode cX6_isWayToldBy 53 = .ok (.iconst 0, 1) := by decide +kernel
theorem dX6_isWayToldBy_54 : decode cX6_isWayToldBy 54 = .ok (.bipush 11, 2) := by decide +kernel
theorem dX6_isWayToldBy_56 : decode cX6_isWayToldBy 56 = .ok (.invokestatic 55, 3) := by decide +kernel
theorem dX6_isWayToldBy_59 : decode cX6_isWayToldBy 59 = .ok (.ireturn, 1) := by decide +kernel
theorem dX6_isWayToldBy_60 : decode cX6_isWayToldBy 60 = .ok (.iload_n 1, 1) := by decide +kernel
theorem dX6_isWayToldBy_61 : decode cX6_isWayToldBy 61 = .ok (.bipush 100, 2) := by decide +kernel
theorem dX6_isWayToldBy_63 : decode cX6_isWayToldBy 63 = .ok (.sipush 999, 3) := by decide +kernel
theorem dX6_isWayToldBy_66 : decode cX6_isWayToldBy 66 = .ok (.invokestatic 55, 3) := by decide +kernel
theorem dX6_isWayToldBy_69 : decode cX6_isWayToldBy 69 = .ok (.ifCond .eq 18, 3) := by decide +kernel
theorem dX6_isWayToldBy_72 : decode cX6_isWayToldBy 72 = .ok (.iload_n 1, 1) := by decide +kernel
theorem dX6_isWayToldBy_73 : decode cX6_isWayToldBy 73 = .ok (.bipush 100, 2) := by decide +kernel
theorem dX6_isWayToldBy_75 : decode cX6_isWayToldBy 75 = .ok (.irem, 1) := by decide +kernel
theorem dX6_isWayToldBy_76 : decode cX6_isWayToldBy 76 = .ok (.iload_n 1, 1) := by decide +kernel
theorem dX6_isWayToldBy_77 : decode cX6_isWayToldBy 77 = .ok (.bipush 100, 2) := by decide +kernel
theorem dX6_isWayToldBy_79 : decode cX6_isWayToldBy 79 = .ok (.idiv, 1) := by decide +kernel
theorem dX6_isWayToldBy_80 : decode cX6_isWayToldBy 80 = .ok (.if_icmp .ge 7, 3) := by decide +kernel
theorem dX6_isWayToldBy_83 : decode cX6_isWayToldBy 83 = .ok (.iconst 1, 1) := by decide +kernel
theorem dX6_isWayToldBy_84 : decode cX6_isWayToldBy 84 = .ok (.goto 4, 3) := by decide +kernel
theorem dX6_isWayToldBy_87 : decode cX6_isWayToldBy 87 = .ok (.iconst 0, 1) := by decide +kernel
theorem dX6_isWayToldBy_88 : decode cX6_isWayToldBy 88 = .ok (.ireturn, 1) := by decide +kernel
theorem dX6_isWayToldBy_89 : decode cX6_isWayToldBy 89 = .ok (.iload_n 1, 1) := by decide +kernel
theorem dX6_isWayToldBy_90 : decode cX6_isWayToldBy 90 = .ok (.iconst 0, 1) := by decide +kernel
theorem dX6_isWayToldBy_91 : decode cX6_isWayToldBy 91 = .ok (.bipush 7, 2) := by decide +kernel
theorem dX6_isWayToldBy_93 : decode cX6_isWayToldBy 93 = .ok (.invokestatic 55, 3) := by decide +kernel
theorem dX6_isWayToldBy_96 : decode cX6_isWayToldBy 96 = .ok (.ireturn, 1) := by decide +kernel
theorem dX6_isWayToldBy_97 : decode cX6_isWayToldBy 97 = .ok (.iconst 0, 1) := by decide +kernel
theorem dX6_isWayToldBy_98 : decode cX6_isWayToldBy 98 = .ok (.ireturn, 1) := by decide +kernel
theorem dX6_restBy_0 : decode cX6_restBy 0 = .ok (.aload_n 0, 1) := by decide +kernel
theorem dX6_restBy_1 : decode cX6_restBy 1 = .ok (.getfield 25, 3) := by decide +kernel
theorem dX6_restBy_4 : decode cX6_restBy 4 = .ok (.iload_n 1, 1) := by decide +kernel
theorem dX6_restBy_5 : decode cX6_restBy 5 = .ok (.invokevirtual 139, 3) := by decide +kernel
theorem dX6_restBy_8 : decode cX6_restBy 8 = .ok (.astore_n 3, 1) := by decide +kernel
theorem dX6_restBy_9 : decode cX6_restBy 9 = .ok (.aload_n 3, 1) := by decide +kernel
theorem dX6_restBy_10 : decode cX6_restBy 10 = .ok (.ifnonnull 12, 3) := by decide +kernel
theorem dX6_restBy_13 : decode cX6_restBy 13 = .ok (.aload_n 0, 1) := by decide +kernel
theorem dX6_restBy_14 : decode cX6_restBy 14 = .ok (.bipush (-2), 2) := by decide +kernel
theorem dX6_restBy_16 : decode cX6_restBy 16 = .ok (.invokevirtual 59, 3) := by decide +kernel
theorem dX6_restBy_19 : decode cX6_restBy 19 = .ok (.goto 9, 3) := by decide +kernel
theorem dX6_restBy_22 : decode cX6_restBy 22 = .ok (.aload_n 3, 1) := by decide +kernel
theorem dX6_restBy_23 : decode cX6_restBy 23 = .ok (.iload_n 2, 1) := by decide +kernel
theorem dX6_restBy_24 : decode cX6_restBy 24 = .ok (.iconst 1, 1) := by decide +kernel
theorem dX6_restBy_25 : decode cX6_restBy 25 = .ok (.invokevirtual 235, 3) := by decide +kernel
theorem dX6_restBy_28 : decode cX6_restBy 28 = .ok (.ireturn, 1) := by decide +kernel
theorem dX6_belowGood_0 : decode cX6_belowGood 0 = .ok (.aload_n 0, 1) := by decide +kernel
theorem dX6_belowGood_1 : decode cX6_belowGood 1 = .ok (.getfield 25, 3) := by decide +kernel
theorem dX6_belowGood_4 : decode cX6_belowGood 4 = .ok (.iload_n 1, 1) := by decide +kernel
theorem dX6_belowGood_5 : decode cX6_belowGood 5 = .ok (.invokevirtual 139, 3) := by decide +kernel
theorem dX6_belowGood_8 : decode cX6_belowGood 8 = .ok (.astore_n 3, 1) := by decide +kernel
theorem dX6_belowGood_9 : decode cX6_belowGood 9 = .ok (.aload_n 3, 1) := by decide +kernel
theorem dX6_belowGood_10 : decode cX6_belowGood 10 = .ok (.ifnonnull 10, 3) := by decide +kernel
theorem dX6_belowGood_13 : decode cX6_belowGood 13 = .ok (.aload_n 0, 1) := by decide +kernel
theorem dX6_belowGood_14 : decode cX6_belowGood 14 = .ok (.bipush (-2), 2) := by decide +kernel
theorem dX6_belowGood_16 : decode cX6_belowGood 16 = .ok (.invokevirtual 59, 3) := by decide +kernel
theorem dX6_belowGood_19 : decode cX6_belowGood 19 = .ok (.ireturn, 1) := by decide +kernel
theorem dX6_belowGood_20 : decode cX6_belowGood 20 = .ok (.aload_n 3, 1) := by decide +kernel
theorem dX6_belowGood_21 : decode cX6_belowGood 21 = .ok (.iload_n 2, 1) := by decide +kernel
theorem dX6_belowGood_22 : decode cX6_belowGood 22 = .ok (.iconst 1, 1) := by decide +kernel
theorem dX6_belowGood_23 : decode cX6_belowGood 23 = .ok (.invokevirtual 235, 3) := by decide +kernel
theorem dX6_belowGood_26 : decode cX6_belowGood 26 = .ok (.istore 4, 2) := by decide +kernel
theorem dX6_belowGood_28 : decode cX6_belowGood 28 = .ok (.iload 4, 2) := by decide +kernel
theorem dX6_belowGood_30 : decode cX6_belowGood 30 = .ok (.iconst (-1), 1) := by decide +kernel
theorem dX6_belowGood_31 : decode cX6_belowGood 31 = .ok (.if_icmp .ne 5, 3) := by decide +kernel
theorem dX6_belowGood_34 : decode cX6_belowGood 34 = .ok (.iconst (-1), 1) := by decide +kernel
theorem dX6_belowGood_35 : decode cX6_belowGood 35 = .ok (.ireturn, 1) := by decide +kernel
theorem dX6_belowGood_36 : decode cX6_belowGood 36 = .ok (.aload_n 3, 1) := by decide +kernel
theorem dX6_belowGood_37 : decode cX6_belowGood 37 = .ok (.aload_n 3, 1) := by decide +kernel
theorem dX6_belowGood_38 : decode cX6_belowGood 38 = .ok (.iconst 3, 1) := by decide +kernel
theorem dX6_belowGood_39 : decode cX6_belowGood 39 = .ok (.iconst 0, 1) := by decide +kernel
theorem dX6_belowGood_40 : decode cX6_belowGood 40 = .ok (.invokevirtual 235, 3) := by decide +kernel
theorem dX6_belowGood_43 : decode cX6_belowGood 43 = .ok (.invokevirtual 220, 3) := by decide +kernel
theorem dX6_belowGood_46 : decode cX6_belowGood 46 = .ok (.aload_n 3, 1) := by decide +kernel
theorem dX6_belowGood_47 : decode cX6_belowGood 47 = .ok (.iload 4, 2) := by decide +kernel
theorem dX6_belowGood_49 : decode cX6_belowGood 49 = .ok (.invokevirtual 220, 3) := by decide +kernel
theorem dX6_belowGood_52 : decode cX6_belowGood 52 = .ok (.isub, 1) := by decide +kernel
theorem dX6_belowGood_53 : decode cX6_belowGood 53 = .ok (.ireturn, 1) := by decide +kernel
theorem dX6_isAlike_0 : decode cX6_isAlike 0 = .ok (.iload_n 0, 1) := by decide +kernel
theorem dX6_isAlike_1 : decode cX6_isAlike 1 = .ok (.iconst 1, 1) := by decide +kernel
theorem dX6_isAlike_2 : decode cX6_isAlike 2 = .ok (.bipush 99, 2) := by decide +kernel
theorem dX6_isAlike_4 : decode cX6_isAlike 4 = .ok (.invokestatic 55, 3) := by decide +kernel
theorem dX6_isAlike_7 : decode cX6_isAlike 7 = .ok (.ifCond .eq 26, 3) := by decide +kernel
theorem dX6_isAlike_10 : decode cX6_isAlike 10 = .ok (.iload_n 1, 1) := by decide +kernel
theorem dX6_isAlike_11 : decode cX6_isAlike 11 = .ok (.iconst 1, 1) := by decide +kernel
theorem dX6_isAlike_12 : decode cX6_isAlike 12 = .ok (.bipush 99, 2) := by decide +kernel
theorem dX6_isAlike_14 : decode cX6_isAlike 14 = .ok (.invokestatic 55, 3) := by decide +kernel
theorem dX6_isAlike_17 : decode cX6_isAlike 17 = .ok (.ifCond .eq 16, 3) := by decide +kernel
theorem dX6_isAlike_20 : decode cX6_isAlike 20 = .ok (.iload_n 2, 1) := by decide +kernel
theorem dX6_isAlike_21 : decode cX6_isAlike 21 = .ok (.iconst 1, 1) := by decide +kernel
theorem dX6_isAlike_22 : decode cX6_isAlike 22 = .ok (.iconst 5, 1) := by decide +kernel
theorem dX6_isAlike_23 : decode cX6_isAlike 23 = .ok (.invokestatic 55, 3) := by decide +kernel
theorem dX6_isAlike_26 : decode cX6_isAlike 26 = .ok (.ifCond .eq 7, 3) := by decide +kernel
theorem dX6_isAlike_29 : decode cX6_isAlike 29 = .ok (.iconst 1, 1) := by decide +kernel
theorem dX6_isAlike_30 : decode cX6_isAlike 30 = .ok (.goto 4, 3) := by decide +kernel
theorem dX6_isAlike_33 : decode cX6_isAlike 33 = .ok (.iconst 0, 1) := by decide +kernel
theorem dX6_isAlike_34 : decode cX6_isAlike 34 = .ok (.ireturn, 1) := by decide +kernel
theorem dX6_greatestLot_0 : decode cX6_greatestLot 0 = .ok (.sipush 1000, 3) := by decide +kernel
theorem dX6_greatestLot_3 : decode cX6_greatestLot 3 = .ok (.istore_n 3, 1) := by decide +kernel
theorem dX6_greatestLot_4 : decode cX6_greatestLot 4 = .ok (.iload_n 3, 1) := by decide +kernel
theorem dX6_greatestLot_5 : decode cX6_greatestLot 5 = .ok (.ifCond .le 38, 3) := by decide +kernel
theorem dX6_greatestLot_8 : decode cX6_greatestLot 8 = .ok (.iload_n 1, 1) := by decide +kernel
theorem dX6_greatestLot_9 : decode cX6_greatestLot 9 = .ok (.i2l, 1) := by decide +kernel
theorem dX6_greatestLot_10 : decode cX6_greatestLot 10 = .ok (.sipush 1000, 3) := by decide +kernel
theorem dX6_greatestLot_13 : decode cX6_greatestLot 13 = .ok (.iload_n 3, 1) := by decide +kernel
theorem dX6_greatestLot_14 : decode cX6_greatestLot 14 = .ok (.isub, 1) := by decide +kernel
theorem dX6_greatestLot_15 : decode cX6_greatestLot 15 = .ok (.i2l, 1) := by decide +kernel
theorem dX6_greatestLot_16 : decode cX6_greatestLot 16 = .ok (.iload_n 2, 1) := by decide +kernel
theorem dX6_greatestLot_17 : decode cX6_greatestLot 17 = .ok (.invokestatic 263, 3) := by decide +kernel
theorem dX6_greatestLot_20 : decode cX6_greatestLot 20 = .ok (.lmul, 1) := by decide +kernel
theorem dX6_greatestLot_21 : decode cX6_greatestLot 21 = .ok (.iload_n 0, 1) := by decide +kernel
theorem dX6_greatestLot_22 : decode cX6_greatestLot 22 = .ok (.i2l, 1) := by decide +kernel
theorem dX6_greatestLot_23 : decode cX6_greatestLot 23 = .ok (.ldc2_w 261, 3) := by decide +kernel
theorem dX6_greatestLot_26 : decode cX6_greatestLot 26 = .ok (.iload_n 2, 1) := by decide +kernel
theorem dX6_greatestLot_27 : decode cX6_greatestLot 27 = .ok (.invokestatic 263, 3) := by decide +kernel
theorem dX6_greatestLot_30 : decode cX6_greatestLot 30 = .ok (.lmul, 1) := by decide +kernel
theorem dX6_greatestLot_31 : decode cX6_greatestLot 31 = .ok (.lcmp, 1) := by decide +kernel
theorem dX6_greatestLot_32 : decode cX6_greatestLot 32 = .ok (.ifCond .lt 5, 3) := by decide +kernel
theorem dX6_greatestLot_35 : decode cX6_greatestLot 35 = .ok (.iload_n 3, 1) := by decide +kernel
theorem dX6_greatestLot_36 : decode cX6_greatestLot 36 = .ok (.ireturn, 1) := by decide +kernel
theorem dX6_greatestLot_37 : decode cX6_greatestLot 37 = .ok (.iinc 3 (-1), 3) := by decide +kernel
theorem dX6_greatestLot_40 : decode cX6_greatestLot 40 = .ok (.goto (-36), 3) := by decide +kernel
theorem dX6_greatestLot_43 : decode cX6_greatestLot 43 = .ok (.iconst 0, 1) := by decide +kernel
theorem dX6_greatestLot_44 : decode cX6_greatestLot 44 = .ok (.ireturn, 1) := by decide +kernel
theorem dX6_power_0 : decode cX6_power 0 = .ok (.lconst 1, 1) := by decide +kernel
theorem dX6_power_1 : decode cX6_power 1 = .ok (.lstore_n 3, 1) := by decide +kernel
theorem dX6_power_2 : decode cX6_power 2 = .ok (.iconst 0, 1) := by decide +kernel
theorem dX6_power_3 : decode cX6_power 3 = .ok (.istore 5, 2) := by decide +kernel
theorem dX6_power_5 : decode cX6_power 5 = .ok (.iload 5, 2) := by decide +kernel
theorem dX6_power_7 : decode cX6_power 7 = .ok (.iload_n 2, 1) := by decide +kernel
theorem dX6_power_8 : decode cX6_power 8 = .ok (.if_icmp .ge 13, 3) := by decide +kernel
theorem dX6_power_11 : decode cX6_power 11 = .ok (.lload_n 3, 1) := by decide +kernel
theorem dX6_power_12 : decode cX6_power 12 = .ok (.lload_n 0, 1) := by decide +kernel
theorem dX6_power_13 : decode cX6_power 13 = .ok (.lmul, 1) := by decide +kernel
theorem dX6_power_14 : decode cX6_power 14 = .ok (.lstore_n 3, 1) := by decide +kernel
theorem dX6_power_15 : decode cX6_power 15 = .ok (.iinc 5 1, 3) := by decide +kernel
theorem dX6_power_18 : decode cX6_power 18 = .ok (.goto (-13), 3) := by decide +kernel
theorem dX6_power_21 : decode cX6_power 21 = .ok (.lload_n 3, 1) := by decide +kernel
theorem dX6_power_22 : decode cX6_power 22 = .ok (.lreturn, 1) := by decide +kernel
theorem dX6_pairNumber_0 : decode cX6_pairNumber 0 = .ok (.bipush 100, 2) := by decide +kernel
theorem dX6_pairNumber_2 : decode cX6_pairNumber 2 = .ok (.iload_n 0, 1) := by decide +kernel
theorem dX6_pairNumber_3 : decode cX6_pairNumber 3 = .ok (.imul, 1) := by decide +kernel
theorem dX6_pairNumber_4 : decode cX6_pairNumber 4 = .ok (.iload_n 1, 1) := by decide +kernel
theorem dX6_pairNumber_5 : decode cX6_pairNumber 5 = .ok (.iadd, 1) := by decide +kernel
theorem dX6_pairNumber_6 : decode cX6_pairNumber 6 = .ok (.ireturn, 1) := by decide +kernel
theorem dX6_isCut_0 : decode cX6_isCut 0 = .ok (.aload_n 0, 1) := by decide +kernel
theorem dX6_isCut_1 : decode cX6_isCut 1 = .ok (.getfield 35, 3) := by decide +kernel
theorem dX6_isCut_4 : decode cX6_isCut 4 = .ok (.iload_n 2, 1) := by decide +kernel
theorem dX6_isCut_5 : decode cX6_isCut 5 = .ok (.iload_n 3, 1) := by decide +kernel
theorem dX6_isCut_6 : decode cX6_isCut 6 = .ok (.invokevirtual 186, 3) := by decide +kernel
theorem dX6_isCut_9 : decode cX6_isCut 9 = .ok (.aload_n 0, 1) := by decide +kernel
theorem dX6_isCut_10 : decode cX6_isCut 10 = .ok (.getfield 35, 3) := by decide +kernel
theorem dX6_isCut_13 : decode cX6_isCut 13 = .ok (.iload_n 2, 1) := by decide +kernel
theorem dX6_isCut_14 : decode cX6_isCut 14 = .ok (.iload 4, 2) := by decide +kernel
theorem dX6_isCut_16 : decode cX6_isCut 16 = .ok (.invokevirtual 213, 3) := by decide +kernel
theorem dX6_isCut_19 : decode cX6_isCut 19 = .ok (.aload_n 1, 1) := by decide +kernel
theorem dX6_isCut_20 : decode cX6_isCut 20 = .ok (.iload_n 2, 1) := by decide +kernel
theorem dX6_isCut_21 : decode cX6_isCut 21 = .ok (.iload 4, 2) := by decide +kernel
theorem dX6_isCut_23 : decode cX6_isCut 23 = .ok (.invokevirtual 213, 3) := by decide +kernel
theorem dX6_isCut_26 : decode cX6_isCut 26 = .ok (.if_icmp .gt 23, 3) := by decide +kernel
theorem dX6_isCut_29 : decode cX6_isCut 29 = .ok (.aload_n 0, 1) := by decide +kernel
theorem dX6_isCut_30 : decode cX6_isCut 30 = .ok (.getfield 35, 3) := by decide +kernel
theorem dX6_isCut_33 : decode cX6_isCut 33 = .ok (.iload_n 3, 1) := by decide +kernel
theorem dX6_isCut_34 : decode cX6_isCut 34 = .ok (.iload 4, 2) := by decide +kernel
theorem dX6_isCut_36 : decode cX6_isCut 36 = .ok (.invokevirtual 213, 3) := by decide +kernel
theorem dX6_isCut_39 : decode cX6_isCut 39 = .ok (.aload_n 1, 1) := by decide +kernel
theorem dX6_isCut_40 : decode cX6_isCut 40 = .ok (.iload_n 3, 1) := by decide +kernel
theorem dX6_isCut_41 : decode cX6_isCut 41 = .ok (.iload 4, 2) := by decide +kernel
theorem dX6_isCut_43 : decode cX6_isCut 43 = .ok (.invokevirtual 213, 3) := by decide +kernel
theorem dX6_isCut_46 : decode cX6_isCut 46 = .ok (.if_icmp .le 7, 3) := by decide +kernel
theorem dX6_isCut_49 : decode cX6_isCut 49 = .ok (.iconst 1, 1) := by decide +kernel
theorem dX6_isCut_50 : decode cX6_isCut 50 = .ok (.goto 4, 3) := by decide +kernel
theorem dX6_isCut_53 : decode cX6_isCut 53 = .ok (.iconst 0, 1) := by decide +kernel
theorem dX6_isCut_54 : decode cX6_isCut 54 = .ok (.istore 5, 2) := by decide +kernel
theorem dX6_isCut_56 : decode cX6_isCut 56 = .ok (.aload_n 0, 1) := by decide +kernel
theorem dX6_isCut_57 : decode cX6_isCut 57 = .ok (.getfield 35, 3) := by decide +kernel
theorem dX6_isCut_60 : decode cX6_isCut 60 = .ok (.iload_n 2, 1) := by decide +kernel
theorem dX6_isCut_61 : decode cX6_isCut 61 = .ok (.iload_n 3, 1) := by decide +kernel
theorem dX6_isCut_62 : decode cX6_isCut 62 = .ok (.aload_n 1, 1) := by decide +kernel
theorem dX6_isCut_63 : decode cX6_isCut 63 = .ok (.iload_n 2, 1) := by decide +kernel
theorem dX6_isCut_64 : decode cX6_isCut 64 = .ok (.iload_n 3, 1) := by decide +kernel
theorem dX6_isCut_65 : decode cX6_isCut 65 = .ok (.invokevirtual 182, 3) := by decide +kernel
theorem dX6_isCut_68 : decode cX6_isCut 68 = .ok (.invokevirtual 189, 3) := by decide +kernel
theorem dX6_isCut_71 : decode cX6_isCut 71 = .ok (.iload 5, 2) := by decide +kernel
theorem dX6_isCut_73 : decode cX6_isCut 73 = .ok (.ireturn, 1) := by decide +kernel
theorem dX6_isAdded_0 : decode cX6_isAdded 0 = .ok (.aload_n 0, 1) := by decide +kernel
theorem dX6_isAdded_1 : decode cX6_isAdded 1 = .ok (.getfield 35, 3) := by decide +kernel
theorem dX6_isAdded_4 : decode cX6_isAdded 4 = .ok (.iload_n 2, 1) := by decide +kernel
theorem dX6_isAdded_5 : decode cX6_isAdded 5 = .ok (.iload_n 3, 1) := by decide +kernel
theorem dX6_isAdded_6 : decode cX6_isAdded 6 = .ok (.iload 5, 2) := by decide +kernel
theorem dX6_isAdded_8 : decode cX6_isAdded 8 = .ok (.invokevirtual 189, 3) := by decide +kernel
theorem dX6_isAdded_11 : decode cX6_isAdded 11 = .ok (.aload_n 0, 1) := by decide +kernel
theorem dX6_isAdded_12 : decode cX6_isAdded 12 = .ok (.getfield 35, 3) := by decide +kernel
theorem dX6_isAdded_15 : decode cX6_isAdded 15 = .ok (.iload_n 2, 1) := by decide +kernel
theorem dX6_isAdded_16 : decode cX6_isAdded 16 = .ok (.iload 4, 2) := by decide +kernel
theorem dX6_isAdded_18 : decode cX6_isAdded 18 = .ok (.invokevirtual 213, 3) := by decide +kernel
theorem dX6_isAdded_21 : decode cX6_isAdded 21 = .ok (.aload_n 1, 1) := by decide +kernel
theorem dX6_isAdded_22 : decode cX6_isAdded 22 = .ok (.iload_n 2, 1) := by decide +kernel
theorem dX6_isAdded_23 : decode cX6_isAdded 23 = .ok (.iload 4, 2) := by decide +kernel
theorem dX6_isAdded_25 : decode cX6_isAdded 25 = .ok (.invokevirtual 213, 3) := by decide +kernel
theorem dX6_isAdded_28 : decode cX6_isAdded 28 = .ok (.if_icmp .le 27, 3) := by decide +kernel
theorem dX6_isAdded_31 : decode cX6_isAdded 31 = .ok (.aload_n 0, 1) := by decide +kernel
theorem dX6_isAdded_32 : decode cX6_isAdded 32 = .ok (.getfield 35, 3) := by decide +kernel
theorem dX6_isAdded_35 : decode cX6_isAdded 35 = .ok (.iload_n 3, 1) := by decide +kernel
theorem dX6_isAdded_36 : decode cX6_isAdded 36 = .ok (.iload 4, 2) := by decide +kernel
theorem dX6_isAdded_38 : decode cX6_isAdded 38 = .ok (.invokevirtual 213, 3) := by decide +kernel
theorem dX6_isAdded_41 : decode cX6_isAdded 41 = .ok (.aload_n 1, 1) := by decide +kernel
theorem dX6_isAdded_42 : decode cX6_isAdded 42 = .ok (.iload_n 3, 1) := by decide +kernel
theorem dX6_isAdded_43 : decode cX6_isAdded 43 = .ok (.iload 4, 2) := by decide +kernel
theorem dX6_isAdded_45 : decode cX6_isAdded 45 = .ok (.invokevirtual 213, 3) := by decide +kernel
theorem dX6_isAdded_48 : decode cX6_isAdded 48 = .ok (.if_icmp .le 7, 3) := by decide +kernel
theorem dX6_isAdded_51 : decode cX6_isAdded 51 = .ok (.iconst 1, 1) := by decide +kernel
theorem dX6_isAdded_52 : decode cX6_isAdded 52 = .ok (.goto 4, 3) := by decide +kernel
theorem dX6_isAdded_55 : decode cX6_isAdded 55 = .ok (.iconst 0, 1) := by decide +kernel
theorem dX6_isAdded_56 : decode cX6_isAdded 56 = .ok (.istore 6, 2) := by decide +kernel
theorem dX6_isAdded_58 : decode cX6_isAdded 58 = .ok (.aload_n 0, 1) := by decide +kernel
theorem dX6_isAdded_59 : decode cX6_isAdded 59 = .ok (.getfield 35, 3) := by decide +kernel
theorem dX6_isAdded_62 : decode cX6_isAdded 62 = .ok (.iload_n 2, 1) := by decide +kernel
theorem dX6_isAdded_63 : decode cX6_isAdded 63 = .ok (.iload_n 3, 1) := by decide +kernel
theorem dX6_isAdded_64 : decode cX6_isAdded 64 = .ok (.invokevirtual 186, 3) := by decide +kernel
theorem dX6_isAdded_67 : decode cX6_isAdded 67 = .ok (.iload 6, 2) := by decide +kernel
theorem dX6_isAdded_69 : decode cX6_isAdded 69 = .ok (.ireturn, 1) := by decide +kernel
theorem dX6_isLessened_0 : decode cX6_isLessened 0 = .ok (.aload_n 0, 1) := by decide +kernel
theorem dX6_isLessened_1 : decode cX6_isLessened 1 = .ok (.getfield 35, 3) := by decide +kernel
theorem dX6_isLessened_4 : decode cX6_isLessened 4 = .ok (.iload_n 1, 1) := by decide +kernel
theorem dX6_isLessened_5 : decode cX6_isLessened 5 = .ok (.iload_n 2, 1) := by decide +kernel
theorem dX6_isLessened_6 : decode cX6_isLessened 6 = .ok (.iconst 0, 1) := by decide +kernel
theorem dX6_isLessened_7 : decode cX6_isLessened 7 = .ok (.invokevirtual 189, 3) := by decide +kernel
theorem dX6_isLessened_10 : decode cX6_isLessened 10 = .ok (.aload_n 0, 1) := by decide +kernel
theorem dX6_isLessened_11 : decode cX6_isLessened 11 = .ok (.getfield 35, 3) := by decide +kernel
theorem dX6_isLessened_14 : decode cX6_isLessened 14 = .ok (.iload_n 3, 1) := by decide +kernel
theorem dX6_isLessened_15 : decode cX6_isLessened 15 = .ok (.invokevirtual 368, 3) := by decide +kernel
theorem dX6_isLessened_18 : decode cX6_isLessened 18 = .ok (.istore 4, 2) := by decide +kernel
theorem dX6_isLessened_20 : decode cX6_isLessened 20 = .ok (.aload_n 0, 1) := by decide +kernel
theorem dX6_isLessened_21 : decode cX6_isLessened 21 = .ok (.getfield 35, 3) := by decide +kernel
theorem dX6_isLessened_24 : decode cX6_isLessened 24 = .ok (.iload_n 1, 1) := by decide +kernel
theorem dX6_isLessened_25 : decode cX6_isLessened 25 = .ok (.iload_n 2, 1) := by decide +kernel
theorem dX6_isLessened_26 : decode cX6_isLessened 26 = .ok (.invokevirtual 186, 3) := by decide +kernel
theorem dX6_isLessened_29 : decode cX6_isLessened 29 = .ok (.iload 4, 2) := by decide +kernel
theorem dX6_isLessened_31 : decode cX6_isLessened 31 = .ok (.ireturn, 1) := by decide +kernel
theorem dX6_isRota_0 : decode cX6_isRota 0 = .ok (.aload_n 1, 1) := by decide +kernel
theorem dX6_isRota_1 : decode cX6_isRota 1 = .ok (.iconst 0, 1) := by decide +kernel
theorem dX6_isRota_2 : decode cX6_isRota 2 = .ok (.iload_n 2, 1) := by decide +kernel
theorem dX6_isRota_3 : decode cX6_isRota 3 = .ok (.invokevirtual 74, 3) := by decide +kernel
theorem dX6_isRota_6 : decode cX6_isRota 6 = .ok (.ifCond .ne 5, 3) := by decide +kernel
theorem dX6_isRota_9 : decode cX6_isRota 9 = .ok (.iconst 0, 1) := by decide +kernel
theorem dX6_isRota_10 : decode cX6_isRota 10 = .ok (.ireturn, 1) := by decide +kernel
theorem dX6_isRota_11 : decode cX6_isRota 11 = .ok (.iconst 0, 1) := by decide +kernel
theorem dX6_isRota_12 : decode cX6_isRota 12 = .ok (.istore_n 3, 1) := by decide +kernel
theorem dX6_isRota_13 : decode cX6_isRota 13 = .ok (.iload_n 3, 1) := by decide +kernel
theorem dX6_isRota_14 : decode cX6_isRota 14 = .ok (.iload_n 2, 1) := by decide +kernel
theorem dX6_isRota_15 : decode cX6_isRota 15 = .ok (.if_icmp .ge 36, 3) := by decide +kernel
theorem dX6_isRota_18 : decode cX6_isRota 18 = .ok (.aload_n 1, 1) := by decide +kernel
theorem dX6_isRota_19 : decode cX6_isRota 19 = .ok (.iload_n 3, 1) := by decide +kernel
theorem dX6_isRota_20 : decode cX6_isRota 20 = .ok (.invokevirtual 96, 3) := by decide +kernel
theorem dX6_isRota_23 : decode cX6_isRota 23 = .ok (.lstore 4, 2) := by decide +kernel
theorem dX6_isRota_25 : decode cX6_isRota 25 = .ok (.lload 4, 2) := by decide +kernel
theorem dX6_isRota_27 : decode cX6_isRota 27 = .ok (.lconst 0, 1) := by decide +kernel
theorem dX6_isRota_28 : decode cX6_isRota 28 = .ok (.lcmp, 1) := by decide +kernel
theorem dX6_isRota_29 : decode cX6_isRota 29 = .ok (.ifCond .lt 14, 3) := by decide +kernel
theorem dX6_isRota_32 : decode cX6_isRota 32 = .ok (.lload 4, 2) := by decide +kernel
theorem dX6_isRota_34 : decode cX6_isRota 34 = .ok (.aload_n 0, 1) := by decide +kernel
theorem dX6_isRota_35 : decode cX6_isRota 35 = .ok (.invokevirtual 334, 3) := by decide +kernel
theorem dX6_isRota_38 : decode cX6_isRota 38 = .ok (.i2l, 1) := by decide +kernel
theorem dX6_isRota_39 : decode cX6_isRota 39 = .ok (.lcmp, 1) := by decide +kernel
theorem dX6_isRota_40 : decode cX6_isRota 40 = .ok (.ifCond .lt 5, 3) := by decide +kernel
theorem dX6_isRota_43 : decode cX6_isRota 43 = .ok (.iconst 0, 1) := by decide +kernel
theorem dX6_isRota_44 : decode cX6_isRota 44 = .ok (.ireturn, 1) := by decide +kernel
theorem dX6_isRota_45 : decode cX6_isRota 45 = .ok (.iinc 3 1, 3) := by decide +kernel
theorem dX6_isRota_48 : decode cX6_isRota 48 = .ok (.goto (-35), 3) := by decide +kernel
theorem dX6_isRota_51 : decode cX6_isRota 51 = .ok (.iconst 1, 1) := by decide +kernel
theorem dX6_isRota_52 : decode cX6_isRota 52 = .ok (.ireturn, 1) := by decide +kernel
theorem dX6_gainByLeaving_0 : decode cX6_gainByLeaving 0 = .ok (.iconst 0, 1) := by decide +kernel
theorem dX6_gainByLeaving_1 : decode cX6_gainByLeaving 1 = .ok (.istore 4, 2) := by decide +kernel
theorem dX6_gainByLeaving_3 : decode cX6_gainByLeaving 3 = .ok (.iconst 0, 1) := by decide +kernel
theorem dX6_gainByLeaving_4 : decode cX6_gainByLeaving 4 = .ok (.istore 5, 2) := by decide +kernel
theorem dX6_gainByLeaving_6 : decode cX6_gainByLeaving 6 = .ok (.iload 5, 2) := by decide +kernel
theorem dX6_gainByLeaving_8 : decode cX6_gainByLeaving 8 = .ok (.iload_n 3, 1) := by decide +kernel
theorem dX6_gainByLeaving_9 : decode cX6_gainByLeaving 9 = .ok (.if_icmp .ge 49, 3) := by decide +kernel
theorem dX6_gainByLeaving_12 : decode cX6_gainByLeaving 12 = .ok (.aload_n 2, 1) := by decide +kernel
theorem dX6_gainByLeaving_13 : decode cX6_gainByLeaving 13 = .ok (.iload 5, 2) := by decide +kernel
theorem dX6_gainByLeaving_15 : decode cX6_gainByLeaving 15 = .ok (.invokevirtual 96, 3) := by decide +kernel
theorem dX6_gainByLeaving_18 : decode cX6_gainByLeaving 18 = .ok (.l2i, 1) := by decide +kernel
theorem dX6_gainByLeaving_19 : decode cX6_gainByLeaving 19 = .ok (.aload_n 0, 1) := by decide +kernel
theorem dX6_gainByLeaving_20 : decode cX6_gainByLeaving 20 = .ok (.getfield 152, 3) := by decide +kernel
theorem dX6_gainByLeaving_23 : decode cX6_gainByLeaving 23 = .ok (.ior, 1) := by decide +kernel
theorem dX6_gainByLeaving_24 : decode cX6_gainByLeaving 24 = .ok (.istore 6, 2) := by decide +kernel
theorem dX6_gainByLeaving_26 : decode cX6_gainByLeaving 26 = .ok (.iload 4, 2) := by decide +kernel
theorem dX6_gainByLeaving_28 : decode cX6_gainByLeaving 28 = .ok (.aload_n 0, 1) := by decide +kernel
theorem dX6_gainByLeaving_29 : decode cX6_gainByLeaving 29 = .ok (.iload_n 1, 1) := by decide +kernel
theorem dX6_gainByLeaving_30 : decode cX6_gainByLeaving 30 = .ok (.iload 6, 2) := by decide +kernel
theorem dX6_gainByLeaving_32 : decode cX6_gainByLeaving 32 = .ok (.iconst 1, 1) := by decide +kernel
theorem dX6_gainByLeaving_33 : decode cX6_gainByLeaving 33 = .ok (.iload_n 1, 1) := by decide +kernel
theorem dX6_gainByLeaving_34 : decode cX6_gainByLeaving 34 = .ok (.ishl, 1) := by decide +kernel
theorem dX6_gainByLeaving_35 : decode cX6_gainByLeaving 35 = .ok (.iconst (-1), 1) := by decide +kernel
theorem dX6_gainByLeaving_36 : decode cX6_gainByLeaving 36 = .ok (.ixor, 1) := by decide +kernel
theorem dX6_gainByLeaving_37 : decode cX6_gainByLeaving 37 = .ok (.iand, 1) := by decide +kernel
theorem dX6_gainByLeaving_38 : decode cX6_gainByLeaving 38 = .ok (.invokevirtual 213, 3) := by decide +kernel
theorem dX6_gainByLeaving_41 : decode cX6_gainByLeaving 41 = .ok (.aload_n 0, 1) := by decide +kernel
theorem dX6_gainByLeaving_42 : decode cX6_gainByLeaving 42 = .ok (.iload_n 1, 1) := by decide +kernel
theorem dX6_gainByLeaving_43 : decode cX6_gainByLeaving 43 = .ok (.iload 6, 2) := by decide +kernel
theorem dX6_gainByLeaving_45 : decode cX6_gainByLeaving 45 = .ok (.invokevirtual 213, 3) := by decide +kernel
theorem dX6_gainByLeaving_48 : decode cX6_gainByLeaving 48 = .ok (.isub, 1) := by decide +kernel
theorem dX6_gainByLeaving_49 : decode cX6_gainByLeaving 49 = .ok (.iadd, 1) := by decide +kernel
theorem dX6_gainByLeaving_50 : decode cX6_gainByLeaving 50 = .ok (.istore 4, 2) := by decide +kernel
theorem dX6_gainByLeaving_52 : decode cX6_gainByLeaving 52 = .ok (.iinc 5 1, 3) := by decide +kernel
theorem dX6_gainByLeaving_55 : decode cX6_gainByLeaving 55 = .ok (.goto (-49), 3) := by decide +kernel
theorem dX6_gainByLeaving_58 : decode cX6_gainByLeaving 58 = .ok (.iload 4, 2) := by decide +kernel
theorem dX6_gainByLeaving_60 : decode cX6_gainByLeaving 60 = .ok (.ireturn, 1) := by decide +kernel
theorem dX7_init_0 : decode cX7_init 0 = .ok (.aload_n 0, 1) := by decide +kernel
theorem dX7_init_1 : decode cX7_init 1 = .ok (.invokespecial 1, 3) := by decide +kernel
theorem dX7_init_4 : decode cX7_init 4 = .ok (.aload_n 0, 1) := by decide +kernel
theorem dX7_init_5 : decode cX7_init 5 = .ok (.bipush 8, 2) := by decide +kernel
theorem dX7_init_7 : decode cX7_init 7 = .ok (.newarray .int, 2) := by decide +kernel
theorem dX7_init_9 : decode cX7_init 9 = .ok (.putfield 7, 3) := by decide +kernel
theorem dX7_init_12 : decode cX7_init 12 = .ok (.aload_n 0, 1) := by decide +kernel
theorem dX7_init_13 : decode cX7_init 13 = .ok (.bipush 8, 2) := by decide +kernel
theorem dX7_init_15 : decode cX7_init 15 = .ok (.newarray .int, 2) := by decide +kernel
theorem dX7_init_17 : decode cX7_init 17 = .ok (.putfield 13, 3) := by decide +kernel
theorem dX7_init_20 : decode cX7_init 20 = .ok (.aload_n 0, 1) := by decide +kernel
theorem dX7_init_21 : decode cX7_init 21 = .ok (.bipush 8, 2) := by decide +kernel
theorem dX7_init_23 : decode cX7_init 23 = .ok (.newarray .int, 2) := by decide +kernel
theorem dX7_init_25 : decode cX7_init 25 = .ok (.putfield 16, 3) := by decide +kernel
theorem dX7_init_28 : decode cX7_init 28 = .ok (.aload_n 0, 1) := by decide +kernel
theorem dX7_init_29 : decode cX7_init 29 = .ok (.bipush 8, 2) := by decide +kernel
theorem dX7_init_31 : decode cX7_init 31 = .ok (.bipush 40, 2) := by decide +kernel
theorem dX7_init_33 : decode cX7_init 33 = .ok (.multianewarray 19 2, 4) := by decide +kernel
theorem dX7_init_37 : decode cX7_init 37 = .ok (.putfield 21, 3) := by decide +kernel
theorem dX7_init_40 : decode cX7_init 40 = .ok (.aload_n 0, 1) := by decide +kernel
theorem dX7_init_41 : decode cX7_init 41 = .ok (.bipush 8, 2) := by decide +kernel
theorem dX7_init_43 : decode cX7_init 43 = .ok (.newarray .int, 2) := by decide +kernel
theorem dX7_init_45 : decode cX7_init 45 = .ok (.putfield 24, 3) := by decide +kernel
theorem dX7_init_48 : decode cX7_init 48 = .ok (.aload_n 0, 1) := by decide +kernel
theorem dX7_init_49 : decode cX7_init 49 = .ok (.bipush 8, 2) := by decide +kernel
theorem dX7_init_51 : decode cX7_init 51 = .ok (.newarray .int, 2) := by decide +kernel
theorem dX7_init_53 : decode cX7_init 53 = .ok (.putfield 27, 3) := by decide +kernel
theorem dX7_init_56 : decode cX7_init 56 = .ok (.aload_n 0, 1) := by decide +kernel
theorem dX7_init_57 : decode cX7_init 57 = .ok (.bipush 40, 2) := by decide +kernel
theorem dX7_init_59 : decode cX7_init 59 = .ok (.newarray .long, 2) := by decide +kernel
theorem dX7_init_61 : decode cX7_init 61 = .ok (.putfield 30, 3) := by decide +kernel
theorem dX7_init_64 : decode cX7_init 64 = .ok (.aload_n 0, 1) := by decide +kernel
theorem dX7_init_65 : decode cX7_init 65 = .ok (.sipush 160, 3) := by decide +kernel
theorem dX7_init_68 : decode cX7_init 68 = .ok (.newarray .int, 2) := by decide +kernel
theorem dX7_init_70 : decode cX7_init 70 = .ok (.putfield 34, 3) := by decide +kernel
theorem dX7_init_73 : decode cX7_init 73 = .ok (.aload_n 0, 1) := by decide +kernel
theorem dX7_init_74 : decode cX7_init 74 = .ok (.bipush 8, 2) := by decide +kernel
theorem dX7_init_76 : decode cX7_init 76 = .ok (.newarray .int, 2) := by decide +kernel
theorem dX7_init_78 : decode cX7_init 78 = .ok (.putfield 37, 3) := by decide +kernel
theorem dX7_init_81 : decode cX7_init 81 = .ok (.aload_n 0, 1) := by decide +kernel
theorem dX7_init_82 : decode cX7_init 82 = .ok (.iconst 5, 1) := by decide +kernel
theorem dX7_init_83 : decode cX7_init 83 = .ok (.newarray .int, 2) := by decide +kernel
theorem dX7_init_85 : decode cX7_init 85 = .ok (.putfield 40, 3) := by decide +kernel
theorem dX7_init_88 : decode cX7_init 88 = .ok (.aload_n 0, 1) := by decide +kernel
theorem dX7_init_89 : decode cX7_init 89 = .ok (.iconst 5, 1) := by decide +kernel
theorem dX7_init_90 : decode cX7_init 90 = .ok (.newarray .int, 2) := by decide +kernel
theorem dX7_init_92 : decode cX7_init 92 = .ok (.putfield 43, 3) := by decide +kernel
theorem dX7_init_95 : decode cX7_init 95 = .ok (.aload_n 0, 1) := by decide +kernel
theorem dX7_init_96 : decode cX7_init 96 = .ok (.iconst 5, 1) := by decide +kernel
theorem dX7_init_97 : decode cX7_init 97 = .ok (.newarray .int, 2) := by decide +kernel
theorem dX7_init_99 : decode cX7_init 99 = .ok (.putfield 46, 3) := by decide +kernel
theorem dX7_init_102 : decode cX7_init 102 = .ok (.aload_n 0, 1) := by decide +kernel
theorem dX7_init_103 : decode cX7_init 103 = .ok (.iconst 5, 1) := by decide +kernel
theorem dX7_init_104 : decode cX7_init 104 = .ok (.bipush 12, 2) := by decide +kernel
theorem dX7_init_106 : decode cX7_init 106 = .ok (.multianewarray 49 2, 4) := by decide +kernel
theorem dX7_init_110 : decode cX7_init 110 = .ok (.putfield 51, 3) := by decide +kernel
theorem dX7_init_113 : decode cX7_init 113 = .ok (.aload_n 0, 1) := by decide +kernel
theorem dX7_init_114 : decode cX7_init 114 = .ok (.iconst 5, 1) := by decide +kernel
theorem dX7_init_115 : decode cX7_init 115 = .ok (.bipush 12, 2) := by decide +kernel
theorem dX7_init_117 : decode cX7_init 117 = .ok (.multianewarray 49 2, 4) := by decide +kernel
theorem dX7_init_121 : decode cX7_init 121 = .ok (.putfield 54, 3) := by decide +kernel
theorem dX7_init_124 : decode cX7_init 124 = .ok (.aload_n 0, 1) := by decide +kernel
theorem dX7_init_125 : decode cX7_init 125 = .ok (.iconst 5, 1) := by decide +kernel
theorem dX7_init_126 : decode cX7_init 126 = .ok (.bipush 12, 2) := by decide +kernel
theorem dX7_init_128 : decode cX7_init 128 = .ok (.multianewarray 49 2, 4) := by decide +kernel
theorem dX7_init_132 : decode cX7_init 132 = .ok (.putfield 57, 3) := by decide +kernel
theorem dX7_init_135 : decode cX7_init 135 = .ok (.aload_n 0, 1) := by decide +kernel
theorem dX7_init_136 : decode cX7_init 136 = .ok (.iconst 5, 1) := by decide +kernel
theorem dX7_init_137 : decode cX7_init 137 = .ok (.sipush 144, 3) := by decide +kernel
theorem dX7_init_140 : decode cX7_init 140 = .ok (.multianewarray 49 2, 4) := by decide +kernel
theorem dX7_init_144 : decode cX7_init 144 = .ok (.putfield 60, 3) := by decide +kernel
theorem dX7_init_147 : decode cX7_init 147 = .ok (.aload_n 0, 1) := by decide +kernel
theorem dX7_init_148 : decode cX7_init 148 = .ok (.iconst 5, 1) := by decide +kernel
theorem dX7_init_149 : decode cX7_init 149 = .ok (.bipush 12, 2) := by decide +kernel
theorem dX7_init_151 : decode cX7_init 151 = .ok (.multianewarray 49 2, 4) := by decide +kernel
theorem dX7_init_155 : decode cX7_init 155 = .ok (.putfield 63, 3) := by decide +kernel
theorem dX7_init_158 : decode cX7_init 158 = .ok (.aload_n 0, 1) := by decide +kernel
theorem dX7_init_159 : decode cX7_init 159 = .ok (.iconst 5, 1) := by decide +kernel
theorem dX7_init_160 : decode cX7_init 160 = .ok (.bipush 12, 2) := by decide +kernel
theorem dX7_init_162 : decode cX7_init 162 = .ok (.multianewarray 49 2, 4) := by decide +kernel
theorem dX7_init_166 : decode cX7_init 166 = .ok (.putfield 66, 3) := by decide +kernel
theorem dX7_init_169 : decode cX7_init 169 = .ok (.aload_n 0, 1) := by decide +kernel
theorem dX7_init_170 : decode cX7_init 170 = .ok (.bipush 6, 2) := by decide +kernel
theorem dX7_init_172 : decode cX7_init 172 = .ok (.newarray .int, 2) := by decide +kernel
theorem dX7_init_174 : decode cX7_init 174 = .ok (.putfield 69, 3) := by decide +kernel
theorem dX7_init_177 : decode cX7_init 177 = .ok (.aload_n 0, 1) := by decide +kernel
theorem dX7_init_178 : decode cX7_init 178 = .ok (.iconst 1, 1) := by decide +kernel
theorem dX7_init_179 : decode cX7_init 179 = .ok (.putfield 72, 3) := by decide +kernel
theorem dX7_init_182 : decode cX7_init 182 = .ok (.aload_n 0, 1) := by decide +kernel
theorem dX7_init_183 : decode cX7_init 183 = .ok (.iconst (-1), 1) := by decide +kernel
theorem dX7_init_184 : decode cX7_init 184 = .ok (.putfield 76, 3) := by decide +kernel
theorem dX7_init_187 : decode cX7_init 187 = .ok (.aload_n 0, 1) := by decide +kernel
theorem dX7_init_188 : decode cX7_init 188 = .ok (.iconst (-1), 1) := by decide +kernel
theorem dX7_init_189 : decode cX7_init 189 = .ok (.putfield 79, 3) := by decide +kernel
theorem dX7_init_192 : decode cX7_init 192 = .ok (.aload_n 0, 1) := by decide +kernel
theorem dX7_init_193 : decode cX7_init 193 = .ok (.sipush 4097, 3) := by decide +kernel
theorem dX7_init_196 : decode cX7_init 196 = .ok (.newarray .int, 2) := by decide +kernel
theorem dX7_init_198 : decode cX7_init 198 = .ok (.putfield 82, 3) := by decide +kernel
theorem dX7_init_201 : decode cX7_init 201 = .ok (.return_, 1) := by decide +kernel
theorem dX7_refuse_0 : decode cX7_refuse 0 = .ok (.aload_n 0, 1) := by decide +kernel
theorem dX7_refuse_1 : decode cX7_refuse 1 = .ok (.getfield 37, 3) := by decide +kernel
theorem dX7_refuse_4 : decode cX7_refuse 4 = .ok (.iload_n 1, 1) := by decide +kernel
theorem dX7_refuse_5 : decode cX7_refuse 5 = .ok (.ineg, 1) := by decide +kernel
theorem dX7_refuse_6 : decode cX7_refuse 6 = .ok (.dup2, 1) := by decide +kernel
theorem dX7_refuse_7 : decode cX7_refuse 7 = .ok (.iaload, 1) := by decide +kernel
theorem dX7_refuse_8 : decode cX7_refuse 8 = .ok (.iconst 1, 1) := by decide +kernel
theorem dX7_refuse_9 : decode cX7_refuse 9 = .ok (.iadd, 1) := by decide +kernel
theorem dX7_refuse_10 : decode cX7_refuse 10 = .ok (.iastore, 1) := by decide +kernel
theorem dX7_refuse_11 : decode cX7_refuse 11 = .ok (.iload_n 1, 1) := by decide +kernel
theorem dX7_refuse_12 : decode cX7_refuse 12 = .ok (.ireturn, 1) := by decide +kernel
theorem dX7_in_0 : decode cX7_in 0 = .ok (.lload_n 0, 1) := by decide +kernel
theorem dX7_in_1 : decode cX7_in 1 = .ok (.lload_n 2, 1) := by decide +kernel
theorem dX7_in_2 : decode cX7_in 2 = .ok (.lcmp, 1) := by decide +kernel
theorem dX7_in_3 : decode cX7_in 3 = .ok (.ifCond .lt 14, 3) := by decide +kernel
theorem dX7_in_6 : decode cX7_in 6 = .ok (.lload_n 0, 1) := by decide +kernel
theorem dX7_in_7 : decode cX7_in 7 = .ok (.lload 4, 2) := by decide +kernel
theorem dX7_in_9 : decode cX7_in 9 = .ok (.lcmp, 1) := by decide +kernel
theorem dX7_in_10 : decode cX7_in 10 = .ok (.ifCond .gt 7, 3) := by decide +kernel
theorem dX7_in_13 : decode cX7_in 13 = .ok (.iconst 1, 1) := by decide +kernel
theorem dX7_in_14 : decode cX7_in 14 = .ok (.goto 4, 3) := by decide +kernel
theorem dX7_in_17 : decode cX7_in 17 = .ok (.iconst 0, 1) := by decide +kernel
theorem dX7_in_18 : decode cX7_in 18 = .ok (.ireturn, 1) := by decide +kernel
theorem dX7_isStreet_0 : decode cX7_isStreet 0 = .ok (.iload_n 1, 1) := by decide +kernel
theorem dX7_isStreet_1 : decode cX7_isStreet 1 = .ok (.i2l, 1) := by decide +kernel
theorem dX7_isStreet_2 : decode cX7_isStreet 2 = .ok (.lconst 0, 1) := by decide +kernel
theorem dX7_isStreet_3 : decode cX7_isStreet 3 = .ok (.aload_n 0, 1) := by decide +kernel
theorem dX7_isStreet_4 : decode cX7_isStreet 4 = .ok (.getfield 85, 3) := by decide +kernel
theorem dX7_isStreet_7 : decode cX7_isStreet 7 = .ok (.iconst 1, 1) := by decide +kernel
theorem dX7_isStreet_8 : decode cX7_isStreet 8 = .ok (.isub, 1) := by decide +kernel
theorem dX7_isStreet_9 : decode cX7_isStreet 9 = .ok (.i2l, 1) := by decide +kernel
theorem dX7_isStreet_10 : decode cX7_isStreet 10 = .ok (.invokestatic 88, 3) := by decide +kernel
theorem dX7_isStreet_13 : decode cX7_isStreet 13 = .ok (.ireturn, 1) := by decide +kernel
theorem dX7_isPerson_0 : decode cX7_isPerson 0 = .ok (.aload_n 0, 1) := by decide +kernel
theorem dX7_isPerson_1 : decode cX7_isPerson 1 = .ok (.iload_n 1, 1) := by decide +kernel
theorem dX7_isPerson_2 : decode cX7_isPerson 2 = .ok (.invokevirtual 92, 3) := by decide +kernel
theorem dX7_isPerson_5 : decode cX7_isPerson 5 = .ok (.ifCond .eq 25, 3) := by decide +kernel
theorem dX7_isPerson_8 : decode cX7_isPerson 8 = .ok (.iload_n 2, 1) := by decide +kernel
theorem dX7_isPerson_9 : decode cX7_isPerson 9 = .ok (.i2l, 1) := by decide +kernel
theorem dX7_isPerson_10 : decode cX7_isPerson 10 = .ok (.lconst 0, 1) := by decide +kernel
theorem dX7_isPerson_11 : decode cX7_isPerson 11 = .ok (.aload_n 0, 1) := by decide +kernel
theorem dX7_isPerson_12 : decode cX7_isPerson 12 = .ok (.getfield 40, 3) := by decide +kernel
theorem dX7_isPerson_15 : decode cX7_isPerson 15 = .ok (.iload_n 1, 1) := by decide +kernel
theorem dX7_isPerson_16 : decode cX7_isPerson 16 = .ok (.iaload, 1) := by decide +kernel
theorem dX7_isPerson_17 : decode cX7_isPerson 17 = .ok (.iconst 1, 1) := by decide +kernel
theorem dX7_isPerson_18 : decode cX7_isPerson 18 = .ok (.isub, 1) := by decide +kernel
theorem dX7_isPerson_19 : decode cX7_isPerson 19 = .ok (.i2l, 1) := by decide +kernel
theorem dX7_isPerson_20 : decode cX7_isPerson 20 = .ok (.invokestatic 88, 3) := by decide +kernel
theorem dX7_isPerson_23 : decode cX7_isPerson 23 = .ok (.ifCond .eq 7, 3) := by decide +kernel
theorem dX7_isPerson_26 : decode cX7_isPerson 26 = .ok (.iconst 1, 1) := by decide +kernel
theorem dX7_isPerson_27 : decode cX7_isPerson 27 = .ok (.goto 4, 3) := by decide +kernel
theorem dX7_isPerson_30 : decode cX7_isPerson 30 = .ok (.iconst 0, 1) := by decide +kernel
theorem dX7_isPerson_31 : decode cX7_isPerson 31 = .ok (.ireturn, 1) := by decide +kernel
theorem dX7_isSet_0 : decode cX7_isSet 0 = .ok (.aload_n 0, 1) := by decide +kernel
theorem dX7_isSet_1 : decode cX7_isSet 1 = .ok (.iload_n 1, 1) := by decide +kernel
theorem dX7_isSet_2 : decode cX7_isSet 2 = .ok (.invokevirtual 92, 3) := by decide +kernel
theorem dX7_isSet_5 : decode cX7_isSet 5 = .ok (.ifCond .eq 21, 3) := by decide +kernel
theorem dX7_isSet_8 : decode cX7_isSet 8 = .ok (.lload_n 2, 1) := by decide +kernel
theorem dX7_isSet_9 : decode cX7_isSet 9 = .ok (.lconst 0, 1) := by decide +kernel
theorem dX7_isSet_10 : decode cX7_isSet 10 = .ok (.aload_n 0, 1) := by decide +kernel
theorem dX7_isSet_11 : decode cX7_isSet 11 = .ok (.iload_n 1, 1) := by decide +kernel
theorem dX7_isSet_12 : decode cX7_isSet 12 = .ok (.invokevirtual 96, 3) := by decide +kernel
theorem dX7_isSet_15 : decode cX7_isSet 15 = .ok (.i2l, 1) := by decide +kernel
theorem dX7_isSet_16 : decode cX7_isSet 16 = .ok (.invokestatic 88, 3) := by decide +kernel
theorem dX7_isSet_19 : decode cX7_isSet 19 = .ok (.ifCond .eq 7, 3) := by decide +kernel
theorem dX7_isSet_22 : decode cX7_isSet 22 = .ok (.iconst 1, 1) := by decide +kernel
theorem dX7_isSet_23 : decode cX7_isSet 23 = .ok (.goto 4, 3) := by decide +kernel
theorem dX7_isSet_26 : decode cX7_isSet 26 = .ok (.iconst 0, 1) := by decide +kernel
theorem dX7_isSet_27 : decode cX7_isSet 27 = .ok (.ireturn, 1) := by decide +kernel
theorem dX7_all_0 : decode cX7_all 0 = .ok (.iconst 1, 1) := by decide +kernel
theorem dX7_all_1 : decode cX7_all 1 = .ok (.aload_n 0, 1) := by decide +kernel
theorem dX7_all_2 : decode cX7_all 2 = .ok (.getfield 40, 3) := by decide +kernel
theorem dX7_all_5 : decode cX7_all 5 = .ok (.iload_n 1, 1) := by decide +kernel
theorem dX7_all_6 : decode cX7_all 6 = .ok (.iaload, 1) := by decide +kernel
theorem dX7_all_7 : decode cX7_all 7 = .ok (.ishl, 1) := by decide +kernel
theorem dX7_all_8 : decode cX7_all 8 = .ok (.iconst 1, 1) := by decide +kernel
theorem dX7_all_9 : decode cX7_all 9 = .ok (.isub, 1) := by decide +kernel
theorem dX7_all_10 : decode cX7_all 10 = .ok (.ireturn, 1) := by decide +kernel
theorem dX7_row_0 : decode cX7_row 0 = .ok (.iload_n 1, 1) := by decide +kernel
theorem dX7_row_1 : decode cX7_row 1 = .ok (.i2l, 1) := by decide +kernel
theorem dX7_row_2 : decode cX7_row 2 = .ok (.lconst 0, 1) := by decide +kernel
theorem dX7_row_3 : decode cX7_row 3 = .ok (.ldc2_w 100, 3) := by decide +kernel
theorem dX7_row_6 : decode cX7_row 6 = .ok (.invokestatic 88, 3) := by decide +kernel
theorem dX7_row_9 : decode cX7_row 9 = .ok (.ifCond .eq 27, 3) := by decide +kernel
theorem dX7_row_12 : decode cX7_row 12 = .ok (.iload_n 2, 1) := by decide +kernel
theorem dX7_row_13 : decode cX7_row 13 = .ok (.i2l, 1) := by decide +kernel
theorem dX7_row_14 : decode cX7_row 14 = .ok (.lconst 0, 1) := by decide +kernel
theorem dX7_row_15 : decode cX7_row 15 = .ok (.ldc2_w 102, 3) := by decide +kernel
theorem dX7_row_18 : decode cX7_row 18 = .ok (.invokestatic 88, 3) := by decide +kernel
theorem dX7_row_21 : decode cX7_row 21 = .ok (.ifCond .eq 15, 3) := by decide +kernel
theorem dX7_row_24 : decode cX7_row 24 = .ok (.iload_n 3, 1) := by decide +kernel
theorem dX7_row_25 : decode cX7_row 25 = .ok (.i2l, 1) := by decide +kernel
theorem dX7_row_26 : decode cX7_row 26 = .ok (.lconst 0, 1) := by decide +kernel
theorem dX7_row_27 : decode cX7_row 27 = .ok (.ldc2_w 104, 3) := by decide +kernel
theorem dX7_row_30 : decode cX7_row 30 = .ok (.invokestatic 88, 3) := by decide +kernel
theorem dX7_row_33 : decode cX7_row 33 = .ok (.ifCond .ne 10, 3) := by decide +kernel
theorem dX7_row_36 : decode cX7_row 36 = .ok (.aload_n 0, 1) := by decide +kernel
theorem dX7_row_37 : decode cX7_row 37 = .ok (.bipush (-2), 2) := by decide +kernel
theorem dX7_row_39 : decode cX7_row 39 = .ok (.invokevirtual 106, 3) := by decide +kernel
theorem dX7_row_42 : decode cX7_row 42 = .ok (.ireturn, 1) := by decide +kernel
theorem dX7_row_43 : decode cX7_row 43 = .ok (.aload_n 0, 1) := by decide +kernel
theorem dX7_row_44 : decode cX7_row 44 = .ok (.getfield 7, 3) := by decide +kernel
theorem dX7_row_47 : decode cX7_row 47 = .ok (.iload_n 1, 1) := by decide +kernel
theorem dX7_row_48 : decode cX7_row 48 = .ok (.iconst 1, 1) := by decide +kernel
theorem dX7_row_49 : decode cX7_row 49 = .ok (.iastore, 1) := by decide +kernel
theorem dX7_row_50 : decode cX7_row 50 = .ok (.aload_n 0, 1) := by decide +kernel
theorem dX7_row_51 : decode cX7_row 51 = .ok (.getfield 13, 3) := by decide +kernel
theorem dX7_row_54 : decode cX7_row 54 = .ok (.iload_n 1, 1) := by decide +kernel
theorem dX7_row_55 : decode cX7_row 55 = .ok (.iload_n 2, 1) := by decide +kernel
theorem dX7_row_56 : decode cX7_row 56 = .ok (.iastore, 1) := by decide +kernel
theorem dX7_row_57 : decode cX7_row 57 = .ok (.aload_n 0, 1) := by decide +kernel
theorem dX7_row_58 : decode cX7_row 58 = .ok (.getfield 16, 3) := by decide +kernel
theorem dX7_row_61 : decode cX7_row 61 = .ok (.iload_n 1, 1) := by decide +kernel
theorem dX7_row_62 : decode cX7_row 62 = .ok (.iload_n 3, 1) := by decide +kernel
theorem dX7_row_63 : decode cX7_row 63 = .ok (.iastore, 1) := by decide +kernel
theorem dX7_row_64 : decode cX7_row 64 = .ok (.iconst 0, 1) := by decide +kernel
theorem dX7_row_65 : decode cX7_row 65 = .ok (.istore 4, 2) := by decide +kernel
theorem dX7_row_67 : decode cX7_row 67 = .ok (.iload 4, 2) := by decide +kernel
theorem dX7_row_69 : decode cX7_row 69 = .ok (.bipush 40, 2) := by decide +kernel
theorem dX7_row_71 : decode cX7_row 71 = .ok (.if_icmp .ge 19, 3) := by decide +kernel
theorem dX7_row_74 : decode cX7_row 74 = .ok (.aload_n 0, 1) := by decide +kernel
theorem dX7_row_75 : decode cX7_row 75 = .ok (.getfield 21, 3) := by decide +kernel
theorem dX7_row_78 : decode cX7_row 78 = .ok (.iload_n 1, 1) := by decide +kernel
theorem dX7_row_79 : decode cX7_row 79 = .ok (.aaload, 1) := by decide +kernel
theorem dX7_row_80 : decode cX7_row 80 = .ok (.iload 4, 2) := by decide +kernel
theorem dX7_row_82 : decode cX7_row 82 = .ok (.lconst 0, 1) := by decide +kernel
theorem dX7_row_83 : decode cX7_row 83 = .ok (.lastore, 1) := by decide +kernel
theorem dX7_row_84 : decode cX7_row 84 = .ok (.iinc 4 1, 3) := by decide +kernel
theorem dX7_row_87 : decode cX7_row 87 = .ok (.goto (-20), 3) := by decide +kernel
theorem dX7_row_90 : decode cX7_row 90 = .ok (.iconst 1, 1) := by decide +kernel
theorem dX7_row_91 : decode cX7_row 91 = .ok (.ireturn, 1) := by decide +kernel
theorem dX7_fit_0 : decode cX7_fit 0 = .ok (.iload_n 0, 1) := by decide +kernel
theorem dX7_fit_1 : decode cX7_fit 1 = .ok (.tableswitch 47 0 3 #[31, 36, 41, 45], 31) := by decide +kernel
theorem dX7_fit_32 : decode cX7_fit 32 = .ok (.lload_n 1, 1) := by decide +kernel
theorem dX7_fit_33 : decode cX7_fit 33 = .ok (.l2i, 1) := by decide +kernel
theorem dX7_fit_34 : decode cX7_fit 34 = .ok (.i2b, 1) := by decide +kernel
theorem dX7_fit_35 : decode cX7_fit 35 = .ok (.i2l, 1) := by decide +kernel
theorem dX7_fit_36 : decode cX7_fit 36 = .ok (.lreturn, 1) := by decide +kernel
theorem dX7_fit_37 : decode cX7_fit 37 = .ok (.lload_n 1, 1) := by decide +kernel
theorem dX7_fit_38 : decode cX7_fit 38 = .ok (.l2i, 1) := by decide +kernel
theorem dX7_fit_39 : decode cX7_fit 39 = .ok (.i2s, 1) := by decide +kernel
theorem dX7_fit_40 : decode cX7_fit 40 = .ok (.i2l, 1) := by decide +kernel
theorem dX7_fit_41 : decode cX7_fit 41 = .ok (.lreturn, 1) := by decide +kernel
theorem dX7_fit_42 : decode cX7_fit 42 = .ok (.lload_n 1, 1) := by decide +kernel
theorem dX7_fit_43 : decode cX7_fit 43 = .ok (.l2i, 1) := by decide +kernel
theorem dX7_fit_44 : decode cX7_fit 44 = .ok (.i2l, 1) := by decide +kernel
theorem dX7_fit_45 : decode cX7_fit 45 = .ok (.lreturn, 1) := by decide +kernel
theorem dX7_fit_46 : decode cX7_fit 46 = .ok (.lload_n 1, 1) := by decide +kernel
theorem dX7_fit_47 : decode cX7_fit 47 = .ok (.lreturn, 1) := by decide +kernel
theorem dX7_fit_48 : decode cX7_fit 48 = .ok (.lload_n 1, 1) := by decide +kernel
theorem dX7_fit_49 : decode cX7_fit 49 = .ok (.lconst 0, 1) := by decide +kernel
theorem dX7_fit_50 : decode cX7_fit 50 = .ok (.lcmp, 1) := by decide +kernel
theorem dX7_fit_51 : decode cX7_fit 51 = .ok (.ifCond .eq 7, 3) := by decide +kernel
theorem dX7_fit_54 : decode cX7_fit 54 = .ok (.lconst 1, 1) := by decide +kernel
theorem dX7_fit_55 : decode cX7_fit 55 = .ok (.goto 4, 3) := by decide +kernel
theorem dX7_fit_58 : decode cX7_fit 58 = .ok (.lconst 0, 1) := by decide +kernel
theorem dX7_fit_59 : decode cX7_fit 59 = .ok (.lreturn, 1) := by decide +kernel
theorem dX7_set_0 : decode cX7_set 0 = .ok (.iload_n 1, 1) := by decide +kernel
theorem dX7_set_1 : decode cX7_set 1 = .ok (.i2l, 1) := by decide +kernel
theorem dX7_set_2 : decode cX7_set 2 = .ok (.lconst 0, 1) := by decide +kernel
theorem dX7_set_3 : decode cX7_set 3 = .ok (.ldc2_w 100, 3) := by decide +kernel
theorem dX7_set_6 : decode cX7_set 6 = .ok (.invokestatic 88, 3) := by decide +kernel
theorem dX7_set_9 : decode cX7_set 9 = .ok (.ifCond .ne 10, 3) := by decide +kernel
theorem dX7_set_12 : decode cX7_set 12 = .ok (.aload_n 0, 1) := by decide +kernel
theorem dX7_set_13 : decode cX7_set 13 = .ok (.bipush (-2), 2) := by decide +kernel
theorem dX7_set_15 : decode cX7_set 15 = .ok (.invokevirtual 106, 3) := by decide +kernel
theorem dX7_set_18 : decode cX7_set 18 = .ok (.ireturn, 1) := by decide +kernel
theorem dX7_set_19 : decode cX7_set 19 = .ok (.aload_n 0, 1) := by decide +kernel
theorem dX7_set_20 : decode cX7_set 20 = .ok (.getfield 7, 3) := by decide +kernel
theorem dX7_set_23 : decode cX7_set 23 = .ok (.iload_n 1, 1) := by decide +kernel
theorem dX7_set_24 : decode cX7_set 24 = .ok (.iaload, 1) := by decide +kernel
theorem dX7_set_25 : decode cX7_set 25 = .ok (.iconst 2, 1) := by decide +kernel
theorem dX7_set_26 : decode cX7_set 26 = .ok (.if_icmp .ne 10, 3) := by decide +kernel
theorem dX7_set_29 : decode cX7_set 29 = .ok (.aload_n 0, 1) := by decide +kernel
theorem dX7_set_30 : decode cX7_set 30 = .ok (.bipush (-3), 2) := by decide +kernel
theorem dX7_set_32 : decode cX7_set 32 = .ok (.invokevirtual 106, 3) := by decide +kernel
theorem dX7_set_35 : decode cX7_set 35 = .ok (.ireturn, 1) := by decide +kernel
theorem dX7_set_36 : decode cX7_set 36 = .ok (.aload_n 0, 1) := by decide +kernel
theorem dX7_set_37 : decode cX7_set 37 = .ok (.getfield 7, 3) := by decide +kernel
theorem dX7_set_40 : decode cX7_set 40 = .ok (.iload_n 1, 1) := by decide +kernel
theorem dX7_set_41 : decode cX7_set 41 = .ok (.iaload, 1) := by decide +kernel
theorem dX7_set_42 : decode cX7_set 42 = .ok (.ifCond .ne 10, 3) := by decide +kernel
theorem dX7_set_45 : decode cX7_set 45 = .ok (.aload_n 0, 1) := by decide +kernel
theorem dX7_set_46 : decode cX7_set 46 = .ok (.bipush (-4), 2) := by decide +kernel
theorem dX7_set_48 : decode cX7_set 48 = .ok (.invokevirtual 106, 3) := by decide +kernel
theorem dX7_set_51 : decode cX7_set 51 = .ok (.ireturn, 1) := by decide +kernel
theorem dX7_set_52 : decode cX7_set 52 = .ok (.iload_n 2, 1) := by decide +kernel
theorem dX7_set_53 : decode cX7_set 53 = .ok (.i2l, 1) := by decide +kernel
theorem dX7_set_54 : decode cX7_set 54 = .ok (.lconst 0, 1) := by decide +kernel
theorem dX7_set_55 : decode cX7_set 55 = .ok (.aload_n 0, 1) := by decide +kernel
theorem dX7_set_56 : decode cX7_set 56 = .ok (.getfield 16, 3) := by decide +kernel
theorem dX7_set_59 : decode cX7_set 59 = .ok (.iload_n 1, 1) := by decide +kernel
theorem dX7_set_60 : decode cX7_set 60 = .ok (.iaload, 1) := by decide +kernel
theorem dX7_set_61 : decode cX7_set 61 = .ok (.iconst 1, 1) := by decide +kernel
theorem dX7_set_62 : decode cX7_set 62 = .ok (.isub, 1) := by decide +kernel
theorem dX7_set_63 : decode cX7_set 63 = .ok (.i2l, 1) := by decide +kernel
theorem dX7_set_64 : decode cX7_set 64 = .ok (.invokestatic 88, 3) := by decide +kernel
theorem dX7_set_67 : decode cX7_set 67 = .ok (.ifCond .ne 10, 3) := by decide +kernel
theorem dX7_set_70 : decode cX7_set 70 = .ok (.aload_n 0, 1) := by decide +kernel
theorem dX7_set_71 : decode cX7_set 71 = .ok (.bipush (-2), 2) := by decide +kernel
theorem dX7_set_73 : decode cX7_set 73 = .ok (.invokevirtual 106, 3) := by decide +kernel
theorem dX7_set_76 : decode cX7_set 76 = .ok (.ireturn, 1) := by decide +kernel
theorem dX7_set_77 : decode cX7_set 77 = .ok (.aload_n 0, 1) := by decide +kernel
theorem dX7_set_78 : decode cX7_set 78 = .ok (.getfield 21, 3) := by decide +kernel
theorem dX7_set_81 : decode cX7_set 81 = .ok (.iload_n 1, 1) := by decide +kernel
theorem dX7_set_82 : decode cX7_set 82 = .ok (.aaload, 1) := by decide +kernel
theorem dX7_set_83 : decode cX7_set 83 = .ok (.iload_n 2, 1) := by decide +kernel
theorem dX7_set_84 : decode cX7_set 84 = .ok (.aload_n 0, 1) := by decide +kernel
theorem dX7_set_85 : decode cX7_set 85 = .ok (.getfield 13, 3) := by decide +kernel
theorem dX7_set_88 : decode cX7_set 88 = .ok (.iload_n 1, 1) := by decide +kernel
theorem dX7_set_89 : decode cX7_set 89 = .ok (.iaload, 1) := by decide +kernel
theorem dX7_set_90 : decode cX7_set 90 = .ok (.lload_n 3, 1) := by decide +kernel
theorem dX7_set_91 : decode cX7_set 91 = .ok (.invokestatic 109, 3) := by decide +kernel
theorem dX7_set_94 : decode cX7_set 94 = .ok (.lastore, 1) := by decide +kernel
theorem dX7_set_95 : decode cX7_set 95 = .ok (.iconst 1, 1) := by decide +kernel
theorem dX7_set_96 : decode cX7_set 96 = .ok (.ireturn, 1) := by decide +kernel
theorem dX7_copy_0 : decode cX7_copy 0 = .ok (.iload_n 1, 1) := by decide +kernel
theorem dX7_copy_1 : decode cX7_copy 1 = .ok (.i2l, 1) := by decide +kernel
theorem dX7_copy_2 : decode cX7_copy 2 = .ok (.lconst 0, 1) := by decide +kernel
theorem dX7_copy_3 : decode cX7_copy 3 = .ok (.ldc2_w 100, 3) := by decide +kernel
theorem dX7_copy_6 : decode cX7_copy 6 = .ok (.invokestatic 88, 3) := by decide +kernel
theorem dX7_copy_9 : decode cX7_copy 9 = .ok (.ifCond .eq 15, 3) := by decide +kernel
theorem dX7_copy_12 : decode cX7_copy 12 = .ok (.iload_n 2, 1) := by decide +kernel
theorem dX7_copy_13 : decode cX7_copy 13 = .ok (.i2l, 1) := by decide +kernel
theorem dX7_copy_14 : decode cX7_copy 14 = .ok (.lconst 0, 1) := by decide +kernel
theorem dX7_copy_15 : decode cX7_copy 15 = .ok (.ldc2_w 100, 3) := by decide +kernel
theorem dX7_copy_18 : decode cX7_copy 18 = .ok (.invokestatic 88, 3) := by decide +kernel
theorem dX7_copy_21 : decode cX7_copy 21 = .ok (.ifCond .ne 10, 3) := by decide +kernel
theorem dX7_copy_24 : decode cX7_copy 24 = .ok (.aload_n 0, 1) := by decide +kernel
theorem dX7_copy_25 : decode cX7_copy 25 = .ok (.bipush (-2), 2) := by decide +kernel
theorem dX7_copy_27 : decode cX7_copy 27 = .ok (.invokevirtual 106, 3) := by decide +kernel
theorem dX7_copy_30 : decode cX7_copy 30 = .ok (.ireturn, 1) := by decide +kernel
theorem dX7_copy_31 : decode cX7_copy 31 = .ok (.aload_n 0, 1) := by decide +kernel
theorem dX7_copy_32 : decode cX7_copy 32 = .ok (.getfield 7, 3) := by decide +kernel
theorem dX7_copy_35 : decode cX7_copy 35 = .ok (.iload_n 1, 1) := by decide +kernel
theorem dX7_copy_36 : decode cX7_copy 36 = .ok (.iaload, 1) := by decide +kernel
theorem dX7_copy_37 : decode cX7_copy 37 = .ok (.iconst 2, 1) := by decide +kernel
theorem dX7_copy_38 : decode cX7_copy 38 = .ok (.if_icmp .eq 48, 3) := by decide +kernel
theorem dX7_copy_41 : decode cX7_copy 41 = .ok (.aload_n 0, 1) := by decide +kernel
theorem dX7_copy_42 : decode cX7_copy 42 = .ok (.getfield 7, 3) := by decide +kernel
theorem dX7_copy_45 : decode cX7_copy 45 = .ok (.iload_n 2, 1) := by decide +kernel
theorem dX7_copy_46 : decode cX7_copy 46 = .ok (.iaload, 1) := by decide +kernel
theorem dX7_copy_47 : decode cX7_copy 47 = .ok (.iconst 2, 1) := by decide +kernel
theorem dX7_copy_48 : decode cX7_copy 48 = .ok (.if_icmp .eq 38, 3) := by decide +kernel
theorem dX7_copy_51 : decode cX7_copy 51 = .ok (.aload_n 0, 1) := by decide +kernel
theorem dX7_copy_52 : decode cX7_copy 52 = .ok (.getfield 7, 3) := by decide +kernel
theorem dX7_copy_55 : decode cX7_copy 55 = .ok (.iload_n 1, 1) := by decide +kernel
theorem dX7_copy_56 : decode cX7_copy 56 = .ok (.iaload, 1) := by decide +kernel
theorem dX7_copy_57 : decode cX7_copy 57 = .ok (.iconst 1, 1) := by decide +kernel
theorem dX7_copy_58 : decode cX7_copy 58 = .ok (.if_icmp .ne 35, 3) := by decide +kernel
theorem dX7_copy_61 : decode cX7_copy 61 = .ok (.aload_n 0, 1) := by decide +kernel
theorem dX7_copy_62 : decode cX7_copy 62 = .ok (.getfield 7, 3) := by decide +kernel
theorem dX7_copy_65 : decode cX7_copy 65 = .ok (.iload_n 2, 1) := by decide +kernel
theorem dX7_copy_66 : decode cX7_copy 66 = .ok (.iaload, 1) := by decide +kernel
theorem dX7_copy_67 : decode cX7_copy 67 = .ok (.iconst 1, 1) := by decide +kernel
theorem dX7_copy_68 : decode cX7_copy 68 = .ok (.if_icmp .ne 25, 3) := by decide +kernel
theorem dX7_copy_71 : decode cX7_copy 71 = .ok (.aload_n 0, 1) := by decide +kernel
theorem dX7_copy_72 : decode cX7_copy 72 = .ok (.getfield 13, 3) := by decide +kernel
theorem dX7_copy_75 : decode cX7_copy 75 = .ok (.iload_n 1, 1) := by decide +kernel
theorem dX7_copy_76 : decode cX7_copy 76 = .ok (.iaload, 1) := by decide +kernel
theorem dX7_copy_77 : decode cX7_copy 77 = .ok (.aload_n 0, 1) := by decide +kernel
theorem dX7_copy_78 : decode cX7_copy 78 = .ok (.getfield 13, 3) := by decide +kernel
theorem dX7_copy_81 : decode cX7_copy 81 = .ok (.iload_n 2, 1) := by decide +kernel
theorem dX7_copy_82 : decode cX7_copy 82 = .ok (.iaload, 1) := by decide +kernel
theorem dX7_copy_83 : decode cX7_copy 83 = .ok (.if_icmp .eq 10, 3) := by decide +kernel
theorem dX7_copy_86 : decode cX7_copy 86 = .ok (.aload_n 0, 1) := by decide +kernel
theorem dX7_copy_87 : decode cX7_copy 87 = .ok (.bipush (-3), 2) := by decide +kernel
theorem dX7_copy_89 : decode cX7_copy 89 = .ok (.invokevirtual 106, 3) := by decide +kernel
theorem dX7_copy_92 : decode cX7_copy 92 = .ok (.ireturn, 1) := by decide +kernel
theorem dX7_copy_93 : decode cX7_copy 93 = .ok (.aload_n 0, 1) := by decide +kernel
theorem dX7_copy_94 : decode cX7_copy 94 = .ok (.getfield 7, 3) := by decide +kernel
theorem dX7_copy_97 : decode cX7_copy 97 = .ok (.iload_n 1, 1) := by decide +kernel
theorem dX7_copy_98 : decode cX7_copy 98 = .ok (.iaload, 1) := by decide +kernel
theorem dX7_copy_99 : decode cX7_copy 99 = .ok (.ifCond .eq 12, 3) := by decide +kernel
theorem dX7_copy_102 : decode cX7_copy 102 = .ok (.aload_n 0, 1) := by decide +kernel
theorem dX7_copy_103 : decode cX7_copy 103 = .ok (.getfield 7, 3) := by decide +kernel
theorem dX7_copy_106 : decode cX7_copy 106 = .ok (.iload_n 2, 1) := by decide +kernel
theorem dX7_copy_107 : decode cX7_copy 107 = .ok (.iaload, 1) := by decide +kernel
theorem dX7_copy_108 : decode cX7_copy 108 = .ok (.ifCond .ne 10, 3) := by decide +kernel
theorem dX7_copy_111 : decode cX7_copy 111 = .ok (.aload_n 0, 1) := by decide +kernel
theorem dX7_copy_112 : decode cX7_copy 112 = .ok (.bipush (-4), 2) := by decide +kernel
theorem dX7_copy_114 : decode cX7_copy 114 = .ok (.invokevirtual 106, 3) := by decide +kernel
theorem dX7_copy_117 : decode cX7_copy 117 = .ok (.ireturn, 1) := by decide +kernel
theorem dX7_copy_118 : decode cX7_copy 118 = .ok (.iload 5, 2) := by decide +kernel
theorem dX7_copy_120 : decode cX7_copy 120 = .ok (.ifCond .lt 61, 3) := by decide +kernel
theorem dX7_copy_123 : decode cX7_copy 123 = .ok (.iload_n 3, 1) := by decide +kernel
theorem dX7_copy_124 : decode cX7_copy 124 = .ok (.ifCond .lt 57, 3) := by decide +kernel
theorem dX7_copy_127 : decode cX7_copy 127 = .ok (.iload 4, 2) := by decide +kernel
theorem dX7_copy_129 : decode cX7_copy 129 = .ok (.ifCond .lt 52, 3) := by decide +kernel
theorem dX7_copy_132 : decode cX7_copy 132 = .ok (.iload 5, 2) := by decide +kernel
theorem dX7_copy_134 : decode cX7_copy 134 = .ok (.aload_n 0, 1) := by decide +kernel
theorem dX7_copy_135 : decode cX7_copy 135 = .ok (.getfield 16, 3) := by decide +kernel
theorem dX7_copy_138 : decode cX7_copy 138 = .ok (.iload_n 1, 1) := by decide +kernel
theorem dX7_copy_139 : decode cX7_copy 139 = .ok (.iaload, 1) := by decide +kernel
theorem dX7_copy_140 : decode cX7_copy 140 = .ok (.if_icmp .gt 41, 3) := by decide +kernel
theorem dX7_copy_143 : decode cX7_copy 143 = .ok (.iload 5, 2) := by decide +kernel
theorem dX7_copy_145 : decode cX7_copy 145 = .ok (.aload_n 0, 1) := by decide +kernel
theorem dX7_copy_146 : decode cX7_copy 146 = .ok (.getfield 16, 3) := by decide +kernel
theorem dX7_copy_149 : decode cX7_copy 149 = .ok (.iload_n 2, 1) := by decide +kernel
theorem dX7_copy_150 : decode cX7_copy 150 = .ok (.iaload, 1) := by decide +kernel
theorem dX7_copy_151 : decode cX7_copy 151 = .ok (.if_icmp .gt 30, 3) := by decide +kernel
theorem dX7_copy_154 : decode cX7_copy 154 = .ok (.iload_n 3, 1) := by decide +kernel
theorem dX7_copy_155 : decode cX7_copy 155 = .ok (.aload_n 0, 1) := by decide +kernel
theorem dX7_copy_156 : decode cX7_copy 156 = .ok (.getfield 16, 3) := by decide +kernel
theorem dX7_copy_159 : decode cX7_copy 159 = .ok (.iload_n 1, 1) := by decide +kernel
theorem dX7_copy_160 : decode cX7_copy 160 = .ok (.iaload, 1) := by decide +kernel
theorem dX7_copy_161 : decode cX7_copy 161 = .ok (.iload 5, 2) := by decide +kernel
theorem dX7_copy_163 : decode cX7_copy 163 = .ok (.isub, 1) := by decide +kernel
theorem dX7_copy_164 : decode cX7_copy 164 = .ok (.if_icmp .gt 17, 3) := by decide +kernel
theorem dX7_copy_167 : decode cX7_copy 167 = .ok (.iload 4, 2) := by decide +kernel
theorem dX7_copy_169 : decode cX7_copy 169 = .ok (.aload_n 0, 1) := by decide +kernel
theorem dX7_copy_170 : decode cX7_copy 170 = .ok (.getfield 16, 3) := by decide +kernel
theorem dX7_copy_173 : decode cX7_copy 173 = .ok (.iload_n 2, 1) := by decide +kernel
theorem dX7_copy_174 : decode cX7_copy 174 = .ok (.iaload, 1) := by decide +kernel
theorem dX7_copy_175 : decode cX7_copy 175 = .ok (.iload 5, 2) := by decide +kernel
theorem dX7_copy_177 : decode cX7_copy 177 = .ok (.isub, 1) := by decide +kernel
theorem dX7_copy_178 : decode cX7_copy 178 = .ok (.if_icmp .le 10, 3) := by decide +kernel
theorem dX7_copy_181 : decode cX7_copy 181 = .ok (.aload_n 0, 1) := by decide +kernel
theorem dX7_copy_182 : decode cX7_copy 182 = .ok (.bipush (-2), 2) := by decide +kernel
theorem dX7_copy_184 : decode cX7_copy 184 = .ok (.invokevirtual 106, 3) := by decide +kernel
theorem dX7_copy_187 : decode cX7_copy 187 = .ok (.ireturn, 1) := by decide +kernel
theorem dX7_copy_188 : decode cX7_copy 188 = .ok (.iconst 0, 1) := by decide +kernel
theorem dX7_copy_189 : decode cX7_copy 189 = .ok (.istore 6, 2) := by decide +kernel
theorem dX7_copy_191 : decode cX7_copy 191 = .ok (.iload 6, 2) := by decide +kernel
theorem dX7_copy_193 : decode cX7_copy 193 = .ok (.iload 5, 2) := by decide +kernel
theorem dX7_copy_195 : decode cX7_copy 195 = .ok (.if_icmp .ge 27, 3) := by decide +kernel
theorem dX7_copy_198 : decode cX7_copy 198 = .ok (.aload_n 0, 1) := by decide +kernel
theorem dX7_copy_199 : decode cX7_copy 199 = .ok (.getfield 30, 3) := by decide +kernel
theorem dX7_copy_202 : decode cX7_copy 202 = .ok (.iload 6, 2) := by decide +kernel
theorem dX7_copy_204 : decode cX7_copy 204 = .ok (.aload_n 0, 1) := by decide +kernel
theorem dX7_copy_205 : decode cX7_copy 205 = .ok (.getfield 21, 3) := by decide +kernel
theorem dX7_copy_208 : decode cX7_copy 208 = .ok (.iload_n 1, 1) := by decide +kernel
theorem dX7_copy_209 : decode cX7_copy 209 = .ok (.aaload, 1) := by decide +kernel
theorem dX7_copy_210 : decode cX7_copy 210 = .ok (.iload_n 3, 1) := by decide +kernel
theorem dX7_copy_211 : decode cX7_copy 211 = .ok (.iload 6, 2) := by decide +kernel
theorem dX7_copy_213 : decode cX7_copy 213 = .ok (.iadd, 1) := by decide +kernel
theorem dX7_copy_214 : decode cX7_copy 214 = .ok (.laload, 1) := by decide +kernel
theorem dX7_copy_215 : decode cX7_copy 215 = .ok (.lastore, 1) := by decide +kernel
theorem dX7_copy_216 : decode cX7_copy 216 = .ok (.iinc 6 1, 3) := by decide +kernel
theorem dX7_copy_219 : decode cX7_copy 219 = .ok (.goto (-28), 3) := by decide +kernel
theorem dX7_copy_222 : decode cX7_copy 222 = .ok (.iconst 0, 1) := by decide +kernel
theorem dX7_copy_223 : decode cX7_copy 223 = .ok (.istore 6, 2) := by decide +kernel
theorem dX7_copy_225 : decode cX7_copy 225 = .ok (.iload 6, 2) := by decide +kernel
theorem dX7_copy_227 : decode cX7_copy 227 = .ok (.iload 5, 2) := by decide +kernel
theorem dX7_copy_229 : decode cX7_copy 229 = .ok (.if_icmp .ge 28, 3) := by decide +kernel
theorem dX7_copy_232 : decode cX7_copy 232 = .ok (.aload_n 0, 1) := by decide +kernel
theorem dX7_copy_233 : decode cX7_copy 233 = .ok (.getfield 21, 3) := by decide +kernel
theorem dX7_copy_236 : decode cX7_copy 236 = .ok (.iload_n 2, 1) := by decide +kernel
theorem dX7_copy_237 : decode cX7_copy 237 = .ok (.aaload, 1) := by decide +kernel
theorem dX7_copy_238 : decode cX7_copy 238 = .ok (.iload 4, 2) := by decide +kernel
theorem dX7_copy_240 : decode cX7_copy 240 = .ok (.iload 6, 2) := by decide +kernel
theorem dX7_copy_242 : decode cX7_copy 242 = .ok (.iadd, 1) := by decide +kernel
theorem dX7_copy_243 : decode cX7_copy 243 = .ok (.aload_n 0, 1) := by decide +kernel
theorem dX7_copy_244 : decode cX7_copy 244 = .ok (.getfield 30, 3) := by decide +kernel
theorem dX7_copy_247 : decode cX7_copy 247 = .ok (.iload 6, 2) := by decide +kernel
theorem dX7_copy_249 : decode cX7_copy 249 = .ok (.laload, 1) := by decide +kernel
theorem dX7_copy_250 : decode cX7_copy 250 = .ok (.lastore, 1) := by decide +kernel
theorem dX7_copy_251 : decode cX7_copy 251 = .ok (.iinc 6 1, 3) := by decide +kernel
theorem dX7_copy_254 : decode cX7_copy 254 = .ok (.goto (-29), 3) := by decide +kernel
theorem dX7_copy_257 : decode cX7_copy 257 = .ok (.iload 5, 2) := by decide +kernel
theorem dX7_copy_259 : decode cX7_copy 259 = .ok (.ireturn, 1) := by decide +kernel
theorem dX7_element_0 : decode cX7_element 0 = .ok (.iload_n 1, 1) := by decide +kernel
theorem dX7_element_1 : decode cX7_element 1 = .ok (.i2l, 1) := by decide +kernel
theorem dX7_element_2 : decode cX7_element 2 = .ok (.lconst 0, 1) := by decide +kernel
theorem dX7_element_3 : decode cX7_element 3 = .ok (.ldc2_w 100, 3) := by decide +kernel
theorem dX7_element_6 : decode cX7_element 6 = .ok (.invokestatic 88, 3) := by decide +kernel
theorem dX7_element_9 : decode cX7_element 9 = .ok (.ifCond .eq 42, 3) := by decide +kernel
theorem dX7_element_12 : decode cX7_element 12 = .ok (.aload_n 0, 1) := by decide +kernel
theorem dX7_element_13 : decode cX7_element 13 = .ok (.getfield 7, 3) := by decide +kernel
theorem dX7_element_16 : decode cX7_element 16 = .ok (.iload_n 1, 1) := by decide +kernel
theorem dX7_element_17 : decode cX7_element 17 = .ok (.iaload, 1) := by decide +kernel
theorem dX7_element_18 : decode cX7_element 18 = .ok (.iconst 1, 1) := by decide +kernel
theorem dX7_element_19 : decode cX7_element 19 = .ok (.if_icmp .ne 32, 3) := by decide +kernel
theorem dX7_element_22 : decode cX7_element 22 = .ok (.iload_n 2, 1) := by decide +kernel
theorem dX7_element_23 : decode cX7_element 23 = .ok (.i2l, 1) := by decide +kernel
theorem dX7_element_24 : decode cX7_element 24 = .ok (.lconst 0, 1) := by decide +kernel
theorem dX7_element_25 : decode cX7_element 25 = .ok (.aload_n 0, 1) := by decide +kernel
theorem dX7_element_26 : decode cX7_element 26 = .ok (.getfield 16, 3) := by decide +kernel
theorem dX7_element_29 : decode cX7_element 29 = .ok (.iload_n 1, 1) := by decide +kernel
theorem dX7_element_30 : decode cX7_element 30 = .ok (.iaload, 1) := by decide +kernel
theorem dX7_element_31 : decode cX7_element 31 = .ok (.iconst 1, 1) := by decide +kernel
theorem dX7_element_32 : decode cX7_element 32 = .ok (.isub, 1) := by decide +kernel
theorem dX7_element_33 : decode cX7_element 33 = .ok (.i2l, 1) := by decide +kernel
theorem dX7_element_34 : decode cX7_element 34 = .ok (.invokestatic 88, 3) := by decide +kernel
theorem dX7_element_37 : decode cX7_element 37 = .ok (.ifCond .eq 14, 3) := by decide +kernel
theorem dX7_element_40 : decode cX7_element 40 = .ok (.aload_n 0, 1) := by decide +kernel
theorem dX7_element_41 : decode cX7_element 41 = .ok (.getfield 21, 3) := by decide +kernel
theorem dX7_element_44 : decode cX7_element 44 = .ok (.iload_n 1, 1) := by decide +kernel
theorem dX7_element_45 : decode cX7_element 45 = .ok (.aaload, 1) := by decide +kernel
theorem dX7_element_46 : decode cX7_element 46 = .ok (.iload_n 2, 1) := by decide +kernel
theorem dX7_element_47 : decode cX7_element 47 = .ok (.laload, 1) := by decide +kernel
theorem dX7_element_48 : decode cX7_element 48 = .ok (.goto 4, 3) := by decide +kernel
theorem dX7_element_51 : decode cX7_element 51 = .ok (.lconst 0, 1) := by decide +kernel
theorem dX7_element_52 : decode cX7_element 52 = .ok (.lreturn, 1) := by decide +kernel
theorem dX7_holds_0 : decode cX7_holds 0 = .ok (.iload_n 1, 1) := by decide +kernel
theorem dX7_holds_1 : decode cX7_holds 1 = .ok (.i2l, 1) := by decide +kernel
theorem dX7_holds_2 : decode cX7_holds 2 = .ok (.lconst 0, 1) := by decide +kernel
theorem dX7_holds_3 : decode cX7_holds 3 = .ok (.ldc2_w 100, 3) := by decide +kernel
theorem dX7_holds_6 : decode cX7_holds 6 = .ok (.invokestatic 88, 3) := by decide +kernel
theorem dX7_holds_9 : decode cX7_holds 9 = .ok (.ifCond .eq 12, 3) := by decide +kernel
theorem dX7_holds_12 : decode cX7_holds 12 = .ok (.aload_n 0, 1) := by decide +kernel
theorem dX7_holds_13 : decode cX7_holds 13 = .ok (.getfield 7, 3) := by decide +kernel
theorem dX7_holds_16 : decode cX7_holds 16 = .ok (.iload_n 1, 1) := by decide +kernel
theorem dX7_holds_17 : decode cX7_holds 17 = .ok (.iaload, 1) := by decide +kernel
theorem dX7_holds_18 : decode cX7_holds 18 = .ok (.ifCond .ne 5, 3) := by decide +kernel
theorem dX7_holds_21 : decode cX7_holds 21 = .ok (.iconst (-1), 1) := by decide +kernel
theorem dX7_holds_22 : decode cX7_holds 22 = .ok (.ireturn, 1) := by decide +kernel
theorem dX7_holds_23 : decode cX7_holds 23 = .ok (.aload_n 0, 1) := by decide +kernel
theorem dX7_holds_24 : decode cX7_holds 24 = .ok (.getfield 7, 3) := by decide +kernel
theorem dX7_holds_27 : decode cX7_holds 27 = .ok (.iload_n 1, 1) := by decide +kernel
theorem dX7_holds_28 : decode cX7_holds 28 = .ok (.iaload, 1) := by decide +kernel
theorem dX7_holds_29 : decode cX7_holds 29 = .ok (.iconst 1, 1) := by decide +kernel
theorem dX7_holds_30 : decode cX7_holds 30 = .ok (.if_icmp .ne 12, 3) := by decide +kernel
theorem dX7_holds_33 : decode cX7_holds 33 = .ok (.aload_n 0, 1) := by decide +kernel
theorem dX7_holds_34 : decode cX7_holds 34 = .ok (.getfield 13, 3) := by decide +kernel
theorem dX7_holds_37 : decode cX7_holds 37 = .ok (.iload_n 1, 1) := by decide +kernel
theorem dX7_holds_38 : decode cX7_holds 38 = .ok (.iaload, 1) := by decide +kernel
theorem dX7_holds_39 : decode cX7_holds 39 = .ok (.goto 12, 3) := by decide +kernel
theorem dX7_holds_42 : decode cX7_holds 42 = .ok (.bipush 10, 2) := by decide +kernel
theorem dX7_holds_44 : decode cX7_holds 44 = .ok (.aload_n 0, 1) := by decide +kernel
theorem dX7_holds_45 : decode cX7_holds 45 = .ok (.getfield 24, 3) := by decide +kernel
theorem dX7_holds_48 : decode cX7_holds 48 = .ok (.iload_n 1, 1) := by decide +kernel
theorem dX7_holds_49 : decode cX7_holds 49 = .ok (.iaload, 1) := by decide +kernel
theorem dX7_holds_50 : decode cX7_holds 50 = .ok (.iadd, 1) := by decide +kernel
theorem dX7_holds_51 : decode cX7_holds 51 = .ok (.ireturn, 1) := by decide +kernel
theorem dX7_mayBy_0 : decode cX7_mayBy 0 = .ok (.iload_n 0, 1) := by decide +kernel
theorem dX7_mayBy_1 : decode cX7_mayBy 1 = .ok (.tableswitch 95 1 4 #[31, 39, 49, 59], 31) := by decide +kernel
theorem dX7_mayBy_32 : decode cX7_mayBy 32 = .ok (.iload_n 1, 1) := by decide +kernel
theorem dX7_mayBy_33 : decode cX7_mayBy 33 = .ok (.i2l, 1) := by decide +kernel
theorem dX7_mayBy_34 : decode cX7_mayBy 34 = .ok (.lconst 0, 1) := by decide +kernel
theorem dX7_mayBy_35 : decode cX7_mayBy 35 = .ok (.lconst 1, 1) := by decide +kernel
theorem dX7_mayBy_36 : decode cX7_mayBy 36 = .ok (.invokestatic 88, 3) := by decide +kernel
theorem dX7_mayBy_39 : decode cX7_mayBy 39 = .ok (.ireturn, 1) := by decide +kernel
theorem dX7_mayBy_40 : decode cX7_mayBy 40 = .ok (.iload_n 1, 1) := by decide +kernel
theorem dX7_mayBy_41 : decode cX7_mayBy 41 = .ok (.i2l, 1) := by decide +kernel
theorem dX7_mayBy_42 : decode cX7_mayBy 42 = .ok (.lconst 0, 1) := by decide +kernel
theorem dX7_mayBy_43 : decode cX7_mayBy 43 = .ok (.ldc2_w 113, 3) := by decide +kernel
theorem dX7_mayBy_46 : decode cX7_mayBy 46 = .ok (.invokestatic 88, 3) := by decide +kernel
theorem dX7_mayBy_49 : decode cX7_mayBy 49 = .ok (.ireturn, 1) := by decide +kernel
theorem dX7_mayBy_50 : decode cX7_mayBy 50 = .ok (.iload_n 1, 1) := by decide +kernel
theorem dX7_mayBy_51 : decode cX7_mayBy 51 = .ok (.i2l, 1) := by decide +kernel
theorem dX7_mayBy_52 : decode cX7_mayBy 52 = .ok (.lconst 0, 1) := by decide +kernel
theorem dX7_mayBy_53 : decode cX7_mayBy 53 = .ok (.ldc2_w 115, 3) := by decide +kernel
theorem dX7_mayBy_56 : decode cX7_mayBy 56 = .ok (.invokestatic 88, 3) := by decide +kernel
theorem dX7_mayBy_59 : decode cX7_mayBy 59 = .ok (.ireturn, 1) := by decide +kernel
theorem dX7_mayBy_60 : decode cX7_mayBy 60 = .ok (.iload_n 1, 1) := by decide +kernel
theorem dX7_mayBy_61 : decode cX7_mayBy 61 = .ok (.ifCond .lt 33, 3) := by decide +kernel
theorem dX7_mayBy_64 : decode cX7_mayBy 64 = .ok (.iload_n 1, 1) := by decide +kernel
theorem dX7_mayBy_65 : decode cX7_mayBy 65 = .ok (.bipush 100, 2) := by decide +kernel
theorem dX7_mayBy_67 : decode cX7_mayBy 67 = .ok (.idiv, 1) := by decide +kernel
theorem dX7_mayBy_68 : decode cX7_mayBy 68 = .ok (.i2l, 1) := by decide +kernel
theorem dX7_mayBy_69 : decode cX7_mayBy 69 = .ok (.lconst 1, 1) := by decide +kernel
theorem dX7_mayBy_70 : decode cX7_mayBy 70 = .ok (.ldc2_w 117, 3) := by decide +kernel
theorem dX7_mayBy_73 : decode cX7_mayBy 73 = .ok (.invokestatic 88, 3) := by decide +kernel
theorem dX7_mayBy_76 : decode cX7_mayBy 76 = .ok (.ifCond .eq 18, 3) := by decide +kernel
theorem dX7_mayBy_79 : decode cX7_mayBy 79 = .ok (.iload_n 1, 1) := by decide +kernel
theorem dX7_mayBy_80 : decode cX7_mayBy 80 = .ok (.bipush 100, 2) := by decide +kernel
theorem dX7_mayBy_82 : decode cX7_mayBy 82 = .ok (.irem, 1) := by decide +kernel
theorem dX7_mayBy_83 : decode cX7_mayBy 83 = .ok (.iload_n 1, 1) := by decide +kernel
theorem dX7_mayBy_84 : decode cX7_mayBy 84 = .ok (.bipush 100, 2) := by decide +kernel
theorem dX7_mayBy_86 : decode cX7_mayBy 86 = .ok (.idiv, 1) := by decide +kernel
theorem dX7_mayBy_87 : decode cX7_mayBy 87 = .ok (.if_icmp .ge 7, 3) := by decide +kernel
theorem dX7_mayBy_90 : decode cX7_mayBy 90 = .ok (.iconst 1, 1) := by decide +kernel
theorem dX7_mayBy_91 : decode cX7_mayBy 91 = .ok (.goto 4, 3) := by decide +kernel
theorem dX7_mayBy_94 : decode cX7_mayBy 94 = .ok (.iconst 0, 1) := by decide +kernel
theorem dX7_mayBy_95 : decode cX7_mayBy 95 = .ok (.ireturn, 1) := by decide +kernel
theorem dX7_mayBy_96 : decode cX7_mayBy 96 = .ok (.iload_n 1, 1) := by decide +kernel
theorem dX7_mayBy_97 : decode cX7_mayBy 97 = .ok (.i2l, 1) := by decide +kernel
theorem dX7_mayBy_98 : decode cX7_mayBy 98 = .ok (.lconst 0, 1) := by decide +kernel
theorem dX7_mayBy_99 : decode cX7_mayBy 99 = .ok (.ldc2_w 100, 3) := by decide +kernel
theorem dX7_mayBy_102 : decode cX7_mayBy 102 = .ok (.invokestatic 88, 3) := by decide +kernel
theorem dX7_mayBy_105 : decode cX7_mayBy 105 = .ok (.ireturn, 1) := by decide +kernel
theorem dX7_way_0 : decode cX7_way 0 = .ok (.iload_n 1, 1) := by decide +kernel
theorem dX7_way_1 : decode cX7_way 1 = .ok (.i2l, 1) := by decide +kernel
theorem dX7_way_2 : decode cX7_way 2 = .ok (.lconst 0, 1) := by decide +kernel
theorem dX7_way_3 : decode cX7_way 3 = .ok (.ldc2_w 100, 3) := by decide +kernel
theorem dX7_way_6 : decode cX7_way 6 = .ok (.invokestatic 88, 3) := by decide +kernel
theorem dX7_way_9 : decode cX7_way 9 = .ok (.ifCond .eq 23, 3) := by decide +kernel
theorem dX7_way_12 : decode cX7_way 12 = .ok (.iload_n 2, 1) := by decide +kernel
theorem dX7_way_13 : decode cX7_way 13 = .ok (.i2l, 1) := by decide +kernel
theorem dX7_way_14 : decode cX7_way 14 = .ok (.lconst 1, 1) := by decide +kernel
theorem dX7_way_15 : decode cX7_way 15 = .ok (.ldc2_w 119, 3) := by decide +kernel
theorem dX7_way_18 : decode cX7_way 18 = .ok (.invokestatic 88, 3) := by decide +kernel
theorem dX7_way_21 : decode cX7_way 21 = .ok (.ifCond .eq 11, 3) := by decide +kernel
theorem dX7_way_24 : decode cX7_way 24 = .ok (.iload_n 2, 1) := by decide +kernel
theorem dX7_way_25 : decode cX7_way 25 = .ok (.iload_n 3, 1) := by decide +kernel
theorem dX7_way_26 : decode cX7_way 26 = .ok (.invokestatic 121, 3) := by decide +kernel
theorem dX7_way_29 : decode cX7_way 29 = .ok (.ifCond .ne 10, 3) := by decide +kernel
theorem dX7_way_32 : decode cX7_way 32 = .ok (.aload_n 0, 1) := by decide +kernel
theorem dX7_way_33 : decode cX7_way 33 = .ok (.bipush (-2), 2) := by decide +kernel
theorem dX7_way_35 : decode cX7_way 35 = .ok (.invokevirtual 106, 3) := by decide +kernel
theorem dX7_way_38 : decode cX7_way 38 = .ok (.ireturn, 1) := by decide +kernel
theorem dX7_way_39 : decode cX7_way 39 = .ok (.iload_n 3, 1) := by decide +kernel
theorem dX7_way_40 : decode cX7_way 40 = .ok (.istore 4, 2) := by decide +kernel
theorem dX7_way_42 : decode cX7_way 42 = .ok (.iload_n 2, 1) := by decide +kernel
theorem dX7_way_43 : decode cX7_way 43 = .ok (.iconst 5, 1) := by decide +kernel
theorem dX7_way_44 : decode cX7_way 44 = .ok (.if_icmp .ne 93, 3) := by decide +kernel
theorem dX7_way_47 : decode cX7_way 47 = .ok (.aload_n 0, 1) := by decide +kernel
theorem dX7_way_48 : decode cX7_way 48 = .ok (.getfield 7, 3) := by decide +kernel
theorem dX7_way_51 : decode cX7_way 51 = .ok (.iload_n 3, 1) := by decide +kernel
theorem dX7_way_52 : decode cX7_way 52 = .ok (.iaload, 1) := by decide +kernel
theorem dX7_way_53 : decode cX7_way 53 = .ok (.iconst 2, 1) := by decide +kernel
theorem dX7_way_54 : decode cX7_way 54 = .ok (.if_icmp .ne 10, 3) := by decide +kernel
theorem dX7_way_57 : decode cX7_way 57 = .ok (.aload_n 0, 1) := by decide +kernel
theorem dX7_way_58 : decode cX7_way 58 = .ok (.bipush (-3), 2) := by decide +kernel
theorem dX7_way_60 : decode cX7_way 60 = .ok (.invokevirtual 106, 3) := by decide +kernel
theorem dX7_way_63 : decode cX7_way 63 = .ok (.ireturn, 1) := by decide +kernel
theorem dX7_way_64 : decode cX7_way 64 = .ok (.aload_n 0, 1) := by decide +kernel
theorem dX7_way_65 : decode cX7_way 65 = .ok (.getfield 7, 3) := by decide +kernel
theorem dX7_way_68 : decode cX7_way 68 = .ok (.iload_n 3, 1) := by decide +kernel
theorem dX7_way_69 : decode cX7_way 69 = .ok (.iaload, 1) := by decide +kernel
theorem dX7_way_70 : decode cX7_way 70 = .ok (.ifCond .ne 10, 3) := by decide +kernel
theorem dX7_way_73 : decode cX7_way 73 = .ok (.aload_n 0, 1) := by decide +kernel
theorem dX7_way_74 : decode cX7_way 74 = .ok (.bipush (-4), 2) := by decide +kernel
theorem dX7_way_76 : decode cX7_way 76 = .ok (.invokevirtual 106, 3) := by decide +kernel
theorem dX7_way_79 : decode cX7_way 79 = .ok (.ireturn, 1) := by decide +kernel
theorem dX7_way_80 : decode cX7_way 80 = .ok (.iconst 0, 1) := by decide +kernel
theorem dX7_way_81 : decode cX7_way 81 = .ok (.istore 4, 2) := by decide +kernel
theorem dX7_way_83 : decode cX7_way 83 = .ok (.iconst 0, 1) := by decide +kernel
theorem dX7_way_84 : decode cX7_way 84 = .ok (.istore 5, 2) := by decide +kernel
theorem dX7_way_86 : decode cX7_way 86 = .ok (.iload 5, 2) := by decide +kernel
theorem dX7_way_88 : decode cX7_way 88 = .ok (.aload_n 0, 1) := by decide +kernel
theorem dX7_way_89 : decode cX7_way 89 = .ok (.getfield 16, 3) := by decide +kernel
theorem dX7_way_92 : decode cX7_way 92 = .ok (.iload_n 3, 1) := by decide +kernel
theorem dX7_way_93 : decode cX7_way 93 = .ok (.iaload, 1) := by decide +kernel
theorem dX7_way_94 : decode cX7_way 94 = .ok (.if_icmp .ge 43, 3) := by decide +kernel
theorem dX7_way_97 : decode cX7_way 97 = .ok (.iload 5, 2) := by decide +kernel
theorem dX7_way_99 : decode cX7_way 99 = .ok (.bipush 12, 2) := by decide +kernel
theorem dX7_way_101 : decode cX7_way 101 = .ok (.if_icmp .ge 36, 3) := by decide +kernel
theorem dX7_way_104 : decode cX7_way 104 = .ok (.iload 4, 2) := by decide +kernel
theorem dX7_way_106 : decode cX7_way 106 = .ok (.aload_n 0, 1) := by decide +kernel
theorem dX7_way_107 : decode cX7_way 107 = .ok (.getfield 21, 3) := by decide +kernel
theorem dX7_way_110 : decode cX7_way 110 = .ok (.iload_n 3, 1) := by decide +kernel
theorem dX7_way_111 : decode cX7_way 111 = .ok (.aaload, 1) := by decide +kernel
theorem dX7_way_112 : decode cX7_way 112 = .ok (.iload 5, 2) := by decide +kernel
theorem dX7_way_114 : decode cX7_way 114 = .ok (.laload, 1) := by decide +kernel
theorem dX7_way_115 : decode cX7_way 115 = .ok (.lconst 0, 1) := by decide +kernel
theorem dX7_way_116 : decode cX7_way 116 = .ok (.lcmp, 1) := by decide +kernel
theorem dX7_way_117 : decode cX7_way 117 = .ok (.ifCond .eq 10, 3) := by decide +kernel
theorem dX7_way_120 : decode cX7_way 120 = .ok (.iconst 1, 1) := by decide +kernel
theorem dX7_way_121 : decode cX7_way 121 = .ok (.iload 5, 2) := by decide +kernel
theorem dX7_way_123 : decode cX7_way 123 = .ok (.ishl, 1) := by decide +kernel
theorem dX7_way_124 : decode cX7_way 124 = .ok (.goto 4, 3) := by decide +kernel
theorem dX7_way_127 : decode cX7_way 127 = .ok (.iconst 0, 1) := by decide +kernel
theorem dX7_way_128 : decode cX7_way 128 = .ok (.ior, 1) := by decide +kernel
theorem dX7_way_129 : decode cX7_way 129 = .ok (.istore 4, 2) := by decide +kernel
theorem dX7_way_131 : decode cX7_way 131 = .ok (.iinc 5 1, 3) := by decide +kernel
theorem dX7_way_134 : decode cX7_way 134 = .ok (.goto (-48), 3) := by decide +kernel
theorem dX7_way_137 : decode cX7_way 137 = .ok (.aload_n 0, 1) := by decide +kernel
theorem dX7_way_138 : decode cX7_way 138 = .ok (.getfield 7, 3) := by decide +kernel
theorem dX7_way_141 : decode cX7_way 141 = .ok (.iload_n 1, 1) := by decide +kernel
theorem dX7_way_142 : decode cX7_way 142 = .ok (.iconst 2, 1) := by decide +kernel
theorem dX7_way_143 : decode cX7_way 143 = .ok (.iastore, 1) := by decide +kernel
theorem dX7_way_144 : decode cX7_way 144 = .ok (.aload_n 0, 1) := by decide +kernel
theorem dX7_way_145 : decode cX7_way 145 = .ok (.getfield 24, 3) := by decide +kernel
theorem dX7_way_148 : decode cX7_way 148 = .ok (.iload_n 1, 1) := by decide +kernel
theorem dX7_way_149 : decode cX7_way 149 = .ok (.iload_n 2, 1) := by decide +kernel
theorem dX7_way_150 : decode cX7_way 150 = .ok (.iastore, 1) := by decide +kernel
theorem dX7_way_151 : decode cX7_way 151 = .ok (.aload_n 0, 1) := by decide +kernel
theorem dX7_way_152 : decode cX7_way 152 = .ok (.getfield 27, 3) := by decide +kernel
theorem dX7_way_155 : decode cX7_way 155 = .ok (.iload_n 1, 1) := by decide +kernel
theorem dX7_way_156 : decode cX7_way 156 = .ok (.iload 4, 2) := by decide +kernel
theorem dX7_way_158 : decode cX7_way 158 = .ok (.iastore, 1) := by decide +kernel
theorem dX7_way_159 : decode cX7_way 159 = .ok (.iconst 1, 1) := by decide +kernel
theorem dX7_way_160 : decode cX7_way 160 = .ok (.ireturn, 1) := by decide +kernel
theorem dX7_isUnder_0 : decode cX7_isUnder 0 = .ok (.iload_n 1, 1) := by decide +kernel
theorem dX7_isUnder_1 : decode cX7_isUnder 1 = .ok (.ifCond .eq 28, 3) := by decide +kernel
theorem dX7_isUnder_4 : decode cX7_isUnder 4 = .ok (.iload_n 0, 1) := by decide +kernel
theorem dX7_isUnder_5 : decode cX7_isUnder 5 = .ok (.iload_n 1, 1) := by decide +kernel
theorem dX7_isUnder_6 : decode cX7_isUnder 6 = .ok (.if_icmp .eq 23, 3) := by decide +kernel
theorem dX7_isUnder_9 : decode cX7_isUnder 9 = .ok (.iload_n 1, 1) := by decide +kernel
theorem dX7_isUnder_10 : decode cX7_isUnder 10 = .ok (.iconst 1, 1) := by decide +kernel
theorem dX7_isUnder_11 : decode cX7_isUnder 11 = .ok (.if_icmp .ne 8, 3) := by decide +kernel
theorem dX7_isUnder_14 : decode cX7_isUnder 14 = .ok (.iload_n 0, 1) := by decide +kernel
theorem dX7_isUnder_15 : decode cX7_isUnder 15 = .ok (.iconst 2, 1) := by decide +kernel
theorem dX7_isUnder_16 : decode cX7_isUnder 16 = .ok (.if_icmp .eq 13, 3) := by decide +kernel
theorem dX7_isUnder_19 : decode cX7_isUnder 19 = .ok (.iload_n 1, 1) := by decide +kernel
theorem dX7_isUnder_20 : decode cX7_isUnder 20 = .ok (.iconst 3, 1) := by decide +kernel
theorem dX7_isUnder_21 : decode cX7_isUnder 21 = .ok (.if_icmp .ne 12, 3) := by decide +kernel
theorem dX7_isUnder_24 : decode cX7_isUnder 24 = .ok (.iload_n 0, 1) := by decide +kernel
theorem dX7_isUnder_25 : decode cX7_isUnder 25 = .ok (.iconst 4, 1) := by decide +kernel
theorem dX7_isUnder_26 : decode cX7_isUnder 26 = .ok (.if_icmp .ne 7, 3) := by decide +kernel
theorem dX7_isUnder_29 : decode cX7_isUnder 29 = .ok (.iconst 1, 1) := by decide +kernel
theorem dX7_isUnder_30 : decode cX7_isUnder 30 = .ok (.goto 4, 3) := by decide +kernel
theorem dX7_isUnder_33 : decode cX7_isUnder 33 = .ok (.iconst 0, 1) := by decide +kernel
theorem dX7_isUnder_34 : decode cX7_isUnder 34 = .ok (.ireturn, 1) := by decide +kernel
theorem dX7_says_0 : decode cX7_says 0 = .ok (.iload_n 1, 1) := by decide +kernel
theorem dX7_says_1 : decode cX7_says 1 = .ok (.i2l, 1) := by decide +kernel
theorem dX7_says_2 : decode cX7_says 2 = .ok (.lconst 0, 1) := by decide +kernel
theorem dX7_says_3 : decode cX7_says 3 = .ok (.ldc2_w 100, 3) := by decide +kernel
theorem dX7_says_6 : decode cX7_says 6 = .ok (.invokestatic 88, 3) := by decide +kernel
theorem dX7_says_9 : decode cX7_says 9 = .ok (.ifCond .eq 15, 3) := by decide +kernel
theorem dX7_says_12 : decode cX7_says 12 = .ok (.iload_n 2, 1) := by decide +kernel
theorem dX7_says_13 : decode cX7_says 13 = .ok (.i2l, 1) := by decide +kernel
theorem dX7_says_14 : decode cX7_says 14 = .ok (.lconst 0, 1) := by decide +kernel
theorem dX7_says_15 : decode cX7_says 15 = .ok (.ldc2_w 119, 3) := by decide +kernel
theorem dX7_says_18 : decode cX7_says 18 = .ok (.invokestatic 88, 3) := by decide +kernel
theorem dX7_says_21 : decode cX7_says 21 = .ok (.ifCond .ne 10, 3) := by decide +kernel
theorem dX7_says_24 : decode cX7_says 24 = .ok (.aload_n 0, 1) := by decide +kernel
theorem dX7_says_25 : decode cX7_says 25 = .ok (.bipush (-2), 2) := by decide +kernel
theorem dX7_says_27 : decode cX7_says 27 = .ok (.invokevirtual 106, 3) := by decide +kernel
theorem dX7_says_30 : decode cX7_says 30 = .ok (.ireturn, 1) := by decide +kernel
theorem dX7_says_31 : decode cX7_says 31 = .ok (.aload_n 0, 1) := by decide +kernel
theorem dX7_says_32 : decode cX7_says 32 = .ok (.getfield 7, 3) := by decide +kernel
theorem dX7_says_35 : decode cX7_says 35 = .ok (.iload_n 1, 1) := by decide +kernel
theorem dX7_says_36 : decode cX7_says 36 = .ok (.iaload, 1) := by decide +kernel
theorem dX7_says_37 : decode cX7_says 37 = .ok (.iconst 1, 1) := by decide +kernel
theorem dX7_says_38 : decode cX7_says 38 = .ok (.if_icmp .eq 26, 3) := by decide +kernel
theorem dX7_says_41 : decode cX7_says 41 = .ok (.aload_n 0, 1) := by decide +kernel
theorem dX7_says_42 : decode cX7_says 42 = .ok (.getfield 7, 3) := by decide +kernel
theorem dX7_says_45 : decode cX7_says 45 = .ok (.iload_n 1, 1) := by decide +kernel
theorem dX7_says_46 : decode cX7_says 46 = .ok (.iaload, 1) := by decide +kernel
theorem dX7_says_47 : decode cX7_says 47 = .ok (.iconst 2, 1) := by decide +kernel
theorem dX7_says_48 : decode cX7_says 48 = .ok (.if_icmp .ne 23, 3) := by decide +kernel
theorem dX7_says_51 : decode cX7_says 51 = .ok (.aload_n 0, 1) := by decide +kernel
theorem dX7_says_52 : decode cX7_says 52 = .ok (.getfield 24, 3) := by decide +kernel
theorem dX7_says_55 : decode cX7_says 55 = .ok (.iload_n 1, 1) := by decide +kernel
theorem dX7_says_56 : decode cX7_says 56 = .ok (.iaload, 1) := by decide +kernel
theorem dX7_says_57 : decode cX7_says 57 = .ok (.iload_n 2, 1) := by decide +kernel
theorem dX7_says_58 : decode cX7_says 58 = .ok (.invokestatic 125, 3) := by decide +kernel
theorem dX7_says_61 : decode cX7_says 61 = .ok (.ifCond .ne 10, 3) := by decide +kernel
theorem dX7_says_64 : decode cX7_says 64 = .ok (.aload_n 0, 1) := by decide +kernel
theorem dX7_says_65 : decode cX7_says 65 = .ok (.bipush (-3), 2) := by decide +kernel
theorem dX7_says_67 : decode cX7_says 67 = .ok (.invokevirtual 106, 3) := by decide +kernel
theorem dX7_says_70 : decode cX7_says 70 = .ok (.ireturn, 1) := by decide +kernel
theorem dX7_says_71 : decode cX7_says 71 = .ok (.aload_n 0, 1) := by decide +kernel
theorem dX7_says_72 : decode cX7_says 72 = .ok (.getfield 7, 3) := by decide +kernel
theorem dX7_says_75 : decode cX7_says 75 = .ok (.iload_n 1, 1) := by decide +kernel
theorem dX7_says_76 : decode cX7_says 76 = .ok (.iaload, 1) := by decide +kernel
theorem dX7_says_77 : decode cX7_says 77 = .ok (.ifCond .ne 10, 3) := by decide +kernel
theorem dX7_says_80 : decode cX7_says 80 = .ok (.aload_n 0, 1) := by decide +kernel
theorem dX7_says_81 : decode cX7_says 81 = .ok (.bipush (-4), 2) := by decide +kernel
theorem dX7_says_83 : decode cX7_says 83 = .ok (.invokevirtual 106, 3) := by decide +kernel
theorem dX7_says_86 : decode cX7_says 86 = .ok (.ireturn, 1) := by decide +kernel
theorem dX7_says_87 : decode cX7_says 87 = .ok (.iload_n 2, 1) := by decide +kernel
theorem dX7_says_88 : decode cX7_says 88 = .ok (.tableswitch 100 0 3 #[32, 34, 100, 71], 32) := by decide +kernel
theorem dX7_says_120 : decode cX7_says 120 = .ok (.iconst 0, 1) := by decide +kernel
theorem dX7_says_121 : decode cX7_says 121 = .ok (.ireturn, 1) := by decide +kernel
theorem dX7_says_122 : decode cX7_says 122 = .ok (.aload_n 0, 1) := by decide +kernel
theorem dX7_says_123 : decode cX7_says 123 = .ok (.getfield 24, 3) := by decide +kernel
theorem dX7_says_126 : decode cX7_says 126 = .ok (.iload_n 1, 1) := by decide +kernel
theorem dX7_says_127 : decode cX7_says 127 = .ok (.iaload, 1) := by decide +kernel
theorem dX7_says_128 : decode cX7_says 128 = .ok (.iconst 2, 1) := by decide +kernel
theorem dX7_says_129 : decode cX7_says 129 = .ok (.if_icmp .ne 23, 3) := by decide +kernel
theorem dX7_says_132 : decode cX7_says 132 = .ok (.aload_n 0, 1) := by decide +kernel
theorem dX7_says_133 : decode cX7_says 133 = .ok (.getfield 27, 3) := by decide +kernel
theorem dX7_says_136 : decode cX7_says 136 = .ok (.iload_n 1, 1) := by decide +kernel
theorem dX7_says_137 : decode cX7_says 137 = .ok (.iaload, 1) := by decide +kernel
theorem dX7_says_138 : decode cX7_says 138 = .ok (.sipush 500, 3) := by decide +kernel
theorem dX7_says_141 : decode cX7_says 141 = .ok (.if_icmp .le 7, 3) := by decide +kernel
theorem dX7_says_144 : decode cX7_says 144 = .ok (.iconst 1, 1) := by decide +kernel
theorem dX7_says_145 : decode cX7_says 145 = .ok (.goto 13, 3) := by decide +kernel
theorem dX7_says_148 : decode cX7_says 148 = .ok (.iconst 0, 1) := by decide +kernel
theorem dX7_says_149 : decode cX7_says 149 = .ok (.goto 9, 3) := by decide +kernel
theorem dX7_says_152 : decode cX7_says 152 = .ok (.aload_n 0, 1) := by decide +kernel
theorem dX7_says_153 : decode cX7_says 153 = .ok (.getfield 27, 3) := by decide +kernel
theorem dX7_says_156 : decode cX7_says 156 = .ok (.iload_n 1, 1) := by decide +kernel
theorem dX7_says_157 : decode cX7_says 157 = .ok (.iaload, 1) := by decide +kernel
theorem dX7_says_158 : decode cX7_says 158 = .ok (.ireturn, 1) := by decide +kernel
theorem dX7_says_159 : decode cX7_says 159 = .ok (.aload_n 0, 1) := by decide +kernel
theorem dX7_says_160 : decode cX7_says 160 = .ok (.getfield 24, 3) := by decide +kernel
theorem dX7_says_163 : decode cX7_says 163 = .ok (.iload_n 1, 1) := by decide +kernel
theorem dX7_says_164 : decode cX7_says 164 = .ok (.iaload, 1) := by decide +kernel
theorem dX7_says_165 : decode cX7_says 165 = .ok (.iconst 4, 1) := by decide +kernel
theorem dX7_says_166 : decode cX7_says 166 = .ok (.if_icmp .ne 15, 3) := by decide +kernel
theorem dX7_says_169 : decode cX7_says 169 = .ok (.aload_n 0, 1) := by decide +kernel
theorem dX7_says_170 : decode cX7_says 170 = .ok (.getfield 27, 3) := by decide +kernel
theorem dX7_says_173 : decode cX7_says 173 = .ok (.iload_n 1, 1) := by decide +kernel
theorem dX7_says_174 : decode cX7_says 174 = .ok (.iaload, 1) := by decide +kernel
theorem dX7_says_175 : decode cX7_says 175 = .ok (.bipush 100, 2) := by decide +kernel
theorem dX7_says_177 : decode cX7_says 177 = .ok (.idiv, 1) := by decide +kernel
theorem dX7_says_178 : decode cX7_says 178 = .ok (.goto 9, 3) := by decide +kernel
theorem dX7_says_181 : decode cX7_says 181 = .ok (.aload_n 0, 1) := by decide +kernel
theorem dX7_says_182 : decode cX7_says 182 = .ok (.getfield 27, 3) := by decide +kernel
theorem dX7_says_185 : decode cX7_says 185 = .ok (.iload_n 1, 1) := by decide +kernel
theorem dX7_says_186 : decode cX7_says 186 = .ok (.iaload, 1) := by decide +kernel
theorem dX7_says_187 : decode cX7_says 187 = .ok (.ireturn, 1) := by decide +kernel
theorem dX7_says_188 : decode cX7_says 188 = .ok (.aload_n 0, 1) := by decide +kernel
theorem dX7_says_189 : decode cX7_says 189 = .ok (.getfield 27, 3) := by decide +kernel
theorem dX7_says_192 : decode cX7_says 192 = .ok (.iload_n 1, 1) := by decide +kernel
theorem dX7_says_193 : decode cX7_says 193 = .ok (.iaload, 1) := by decide +kernel
theorem dX7_says_194 : decode cX7_says 194 = .ok (.ireturn, 1) := by decide +kernel
theorem dX7_feed_0 : decode cX7_feed 0 = .ok (.iload_n 2, 1) := by decide +kernel
theorem dX7_feed_1 : decode cX7_feed 1 = .ok (.i2l, 1) := by decide +kernel
theorem dX7_feed_2 : decode cX7_feed 2 = .ok (.lconst 1, 1) := by decide +kernel
theorem dX7_feed_3 : decode cX7_feed 3 = .ok (.ldc2_w 102, 3) := by decide +kernel
theorem dX7_feed_6 : decode cX7_feed 6 = .ok (.invokestatic 88, 3) := by decide +kernel
theorem dX7_feed_9 : decode cX7_feed 9 = .ok (.ifCond .ne 10, 3) := by decide +kernel
theorem dX7_feed_12 : decode cX7_feed 12 = .ok (.aload_n 0, 1) := by decide +kernel
theorem dX7_feed_13 : decode cX7_feed 13 = .ok (.bipush (-2), 2) := by decide +kernel
theorem dX7_feed_15 : decode cX7_feed 15 = .ok (.invokevirtual 106, 3) := by decide +kernel
theorem dX7_feed_18 : decode cX7_feed 18 = .ok (.ireturn, 1) := by decide +kernel
theorem dX7_feed_19 : decode cX7_feed 19 = .ok (.iload_n 2, 1) := by decide +kernel
theorem dX7_feed_20 : decode cX7_feed 20 = .ok (.sipush 160, 3) := by decide +kernel
theorem dX7_feed_23 : decode cX7_feed 23 = .ok (.aload_n 0, 1) := by decide +kernel
theorem dX7_feed_24 : decode cX7_feed 24 = .ok (.getfield 128, 3) := by decide +kernel
theorem dX7_feed_27 : decode cX7_feed 27 = .ok (.isub, 1) := by decide +kernel
theorem dX7_feed_28 : decode cX7_feed 28 = .ok (.if_icmp .le 10, 3) := by decide +kernel
theorem dX7_feed_31 : decode cX7_feed 31 = .ok (.aload_n 0, 1) := by decide +kernel
theorem dX7_feed_32 : decode cX7_feed 32 = .ok (.bipush (-6), 2) := by decide +kernel
theorem dX7_feed_34 : decode cX7_feed 34 = .ok (.invokevirtual 106, 3) := by decide +kernel
theorem dX7_feed_37 : decode cX7_feed 37 = .ok (.ireturn, 1) := by decide +kernel
theorem dX7_feed_38 : decode cX7_feed 38 = .ok (.iload_n 2, 1) := by decide +kernel
theorem dX7_feed_39 : decode cX7_feed 39 = .ok (.iconst 1, 1) := by decide +kernel
theorem dX7_feed_40 : decode cX7_feed 40 = .ok (.isub, 1) := by decide +kernel
theorem dX7_feed_41 : decode cX7_feed 41 = .ok (.istore_n 3, 1) := by decide +kernel
theorem dX7_feed_42 : decode cX7_feed 42 = .ok (.iload_n 3, 1) := by decide +kernel
theorem dX7_feed_43 : decode cX7_feed 43 = .ok (.ifCond .lt 35, 3) := by decide +kernel
theorem dX7_feed_46 : decode cX7_feed 46 = .ok (.aload_n 0, 1) := by decide +kernel
theorem dX7_feed_47 : decode cX7_feed 47 = .ok (.getfield 34, 3) := by decide +kernel
theorem dX7_feed_50 : decode cX7_feed 50 = .ok (.aload_n 0, 1) := by decide +kernel
theorem dX7_feed_51 : decode cX7_feed 51 = .ok (.dup, 1) := by decide +kernel
theorem dX7_feed_52 : decode cX7_feed 52 = .ok (.getfield 128, 3) := by decide +kernel
theorem dX7_feed_55 : decode cX7_feed 55 = .ok (.dup_x1, 1) := by decide +kernel
theorem dX7_feed_56 : decode cX7_feed 56 = .ok (.iconst 1, 1) := by decide +kernel
theorem dX7_feed_57 : decode cX7_feed 57 = .ok (.iadd, 1) := by decide +kernel
theorem dX7_feed_58 : decode cX7_feed 58 = .ok (.putfield 128, 3) := by decide +kernel
theorem dX7_feed_61 : decode cX7_feed 61 = .ok (.iload_n 1, 1) := by decide +kernel
theorem dX7_feed_62 : decode cX7_feed 62 = .ok (.bipush 8, 2) := by decide +kernel
theorem dX7_feed_64 : decode cX7_feed 64 = .ok (.iload_n 3, 1) := by decide +kernel
theorem dX7_feed_65 : decode cX7_feed 65 = .ok (.imul, 1) := by decide +kernel
theorem dX7_feed_66 : decode cX7_feed 66 = .ok (.ishr, 1) := by decide +kernel
theorem dX7_feed_67 : decode cX7_feed 67 = .ok (.sipush 255, 3) := by decide +kernel
theorem dX7_feed_70 : decode cX7_feed 70 = .ok (.iand, 1) := by decide +kernel
theorem dX7_feed_71 : decode cX7_feed 71 = .ok (.iastore, 1) := by decide +kernel
theorem dX7_feed_72 : decode cX7_feed 72 = .ok (.iinc 3 (-1), 3) := by decide +kernel
theorem dX7_feed_75 : decode cX7_feed 75 = .ok (.goto (-33), 3) := by decide +kernel
theorem dX7_feed_78 : decode cX7_feed 78 = .ok (.aload_n 0, 1) := by decide +kernel
theorem dX7_feed_79 : decode cX7_feed 79 = .ok (.getfield 128, 3) := by decide +kernel
theorem dX7_feed_82 : decode cX7_feed 82 = .ok (.ireturn, 1) := by decide +kernel
theorem dX7_wipe_0 : decode cX7_wipe 0 = .ok (.aload_n 0, 1) := by decide +kernel
theorem dX7_wipe_1 : decode cX7_wipe 1 = .ok (.getfield 128, 3) := by decide +kernel
theorem dX7_wipe_4 : decode cX7_wipe 4 = .ok (.istore_n 1, 1) := by decide +kernel
theorem dX7_wipe_5 : decode cX7_wipe 5 = .ok (.aload_n 0, 1) := by decide +kernel
theorem dX7_wipe_6 : decode cX7_wipe 6 = .ok (.iconst 0, 1) := by decide +kernel
theorem dX7_wipe_7 : decode cX7_wipe 7 = .ok (.putfield 128, 3) := by decide +kernel
theorem dX7_wipe_10 : decode cX7_wipe 10 = .ok (.iload_n 1, 1) := by decide +kernel
theorem dX7_wipe_11 : decode cX7_wipe 11 = .ok (.ireturn, 1) := by decide +kernel
theorem dX7_isLetter_0 : decode cX7_isLetter 0 = .ok (.iload_n 0, 1) := by decide +kernel
theorem dX7_isLetter_1 : decode cX7_isLetter 1 = .ok (.bipush 97, 2) := by decide +kernel
theorem dX7_isLetter_3 : decode cX7_isLetter 3 = .ok (.if_icmp .lt 13, 3) := by decide +kernel
theorem dX7_isLetter_6 : decode cX7_isLetter 6 = .ok (.iload_n 0, 1) := by decide +kernel
theorem dX7_isLetter_7 : decode cX7_isLetter 7 = .ok (.bipush 122, 2) := by decide +kernel
theorem dX7_isLetter_9 : decode cX7_isLetter 9 = .ok (.if_icmp .gt 7, 3) := by decide +kernel
theorem dX7_isLetter_12 : decode cX7_isLetter 12 = .ok (.iconst 1, 1) := by decide +kernel
theorem dX7_isLetter_13 : decode cX7_isLetter 13 = .ok (.goto 4, 3) := by decide +kernel
theorem dX7_isLetter_16 : decode cX7_isLetter 16 = .ok (.iconst 0, 1) := by decide +kernel
theorem dX7_isLetter_17 : decode cX7_isLetter 17 = .ok (.ireturn, 1) := by decide +kernel
theorem dX7_isDigit_0 : decode cX7_isDigit 0 = .ok (.iload_n 0, 1) := by decide +kernel
theorem dX7_isDigit_1 : decode cX7_isDigit 1 = .ok (.bipush 48, 2) := by decide +kernel
theorem dX7_isDigit_3 : decode cX7_isDigit 3 = .ok (.if_icmp .lt 13, 3) := by decide +kernel
theorem dX7_isDigit_6 : decode cX7_isDigit 6 = .ok (.iload_n 0, 1) := by decide +kernel
theorem dX7_isDigit_7 : decode cX7_isDigit 7 = .ok (.bipush 57, 2) := by decide +kernel
theorem dX7_isDigit_9 : decode cX7_isDigit 9 = .ok (.if_icmp .gt 7, 3) := by decide +kernel
theorem dX7_isDigit_12 : decode cX7_isDigit 12 = .ok (.iconst 1, 1) := by decide +kernel
theorem dX7_isDigit_13 : decode cX7_isDigit 13 = .ok (.goto 4, 3) := by decide +kernel
theorem dX7_isDigit_16 : decode cX7_isDigit 16 = .ok (.iconst 0, 1) := by decide +kernel
theorem dX7_isDigit_17 : decode cX7_isDigit 17 = .ok (.ireturn, 1) := by decide +kernel
theorem dX7_look_0 : decode cX7_look 0 = .ok (.aload_n 0, 1) := by decide +kernel
theorem dX7_look_1 : decode cX7_look 1 = .ok (.getfield 131, 3) := by decide +kernel
theorem dX7_look_4 : decode cX7_look 4 = .ok (.aload_n 0, 1) := by decide +kernel
theorem dX7_look_5 : decode cX7_look 5 = .ok (.getfield 128, 3) := by decide +kernel
theorem dX7_look_8 : decode cX7_look 8 = .ok (.if_icmp .ge 30, 3) := by decide +kernel
theorem dX7_look_11 : decode cX7_look 11 = .ok (.aload_n 0, 1) := by decide +kernel
theorem dX7_look_12 : decode cX7_look 12 = .ok (.getfield 34, 3) := by decide +kernel
theorem dX7_look_15 : decode cX7_look 15 = .ok (.aload_n 0, 1) := by decide +kernel
theorem dX7_look_16 : decode cX7_look 16 = .ok (.getfield 131, 3) := by decide +kernel
theorem dX7_look_19 : decode cX7_look 19 = .ok (.iaload, 1) := by decide +kernel
theorem dX7_look_20 : decode cX7_look 20 = .ok (.bipush 32, 2) := by decide +kernel
theorem dX7_look_22 : decode cX7_look 22 = .ok (.if_icmp .ne 16, 3) := by decide +kernel
theorem dX7_look_25 : decode cX7_look 25 = .ok (.aload_n 0, 1) := by decide +kernel
theorem dX7_look_26 : decode cX7_look 26 = .ok (.dup, 1) := by decide +kernel
theorem dX7_look_27 : decode cX7_look 27 = .ok (.getfield 131, 3) := by decide +kernel
theorem dX7_look_30 : decode cX7_look 30 = .ok (.iconst 1, 1) := by decide +kernel
theorem dX7_look_31 : decode cX7_look 31 = .ok (.iadd, 1) := by decide +kernel
theorem dX7_look_32 : decode cX7_look 32 = .ok (.putfield 131, 3) := by decide +kernel
theorem dX7_look_35 : decode cX7_look 35 = .ok (.goto (-35), 3) := by decide +kernel
theorem dX7_look_38 : decode cX7_look 38 = .ok (.aload_n 0, 1) := by decide +kernel
theorem dX7_look_39 : decode cX7_look 39 = .ok (.aload_n 0, 1) := by decide +kernel
theorem dX7_look_40 : decode cX7_look 40 = .ok (.getfield 131, 3) := by decide +kernel
theorem dX7_look_43 : decode cX7_look 43 = .ok (.putfield 134, 3) := by decide +kernel
theorem dX7_look_46 : decode cX7_look 46 = .ok (.aload_n 0, 1) := by decide +kernel
theorem dX7_look_47 : decode cX7_look 47 = .ok (.lconst 0, 1) := by decide +kernel
theorem dX7_look_48 : decode cX7_look 48 = .ok (.putfield 137, 3) := by decide +kernel
theorem dX7_look_51 : decode cX7_look 51 = .ok (.aload_n 0, 1) := by decide +kernel
theorem dX7_look_52 : decode cX7_look 52 = .ok (.getfield 131, 3) := by decide +kernel
theorem dX7_look_55 : decode cX7_look 55 = .ok (.aload_n 0, 1) := by decide +kernel
theorem dX7_look_56 : decode cX7_look 56 = .ok (.getfield 128, 3) := by decide +kernel
theorem dX7_look_59 : decode cX7_look 59 = .ok (.if_icmp .ne 11, 3) := by decide +kernel
theorem dX7_look_62 : decode cX7_look 62 = .ok (.aload_n 0, 1) := by decide +kernel
theorem dX7_look_63 : decode cX7_look 63 = .ok (.iconst 0, 1) := by decide +kernel
theorem dX7_look_64 : decode cX7_look 64 = .ok (.putfield 141, 3) := by decide +kernel
theorem dX7_look_67 : decode cX7_look 67 = .ok (.goto 200, 3) := by decide +kernel
theorem dX7_look_70 : decode cX7_look 70 = .ok (.aload_n 0, 1) := by decide +kernel
theorem dX7_look_71 : decode cX7_look 71 = .ok (.getfield 34, 3) := by decide +kernel
theorem dX7_look_74 : decode cX7_look 74 = .ok (.aload_n 0, 1) := by decide +kernel
theorem dX7_look_75 : decode cX7_look 75 = .ok (.getfield 131, 3) := by decide +kernel
theorem dX7_look_78 : decode cX7_look 78 = .ok (.iaload, 1) := by decide +kernel
theorem dX7_look_79 : decode cX7_look 79 = .ok (.invokestatic 144, 3) := by decide +kernel
theorem dX7_look_82 : decode cX7_look 82 = .ok (.ifCond .eq 47, 3) := by decide +kernel
theorem dX7_look_85 : decode cX7_look 85 = .ok (.aload_n 0, 1) := by decide +kernel
theorem dX7_look_86 : decode cX7_look 86 = .ok (.iconst 1, 1) := by decide +kernel
theorem dX7_look_87 : decode cX7_look 87 = .ok (.putfield 141, 3) := by decide +kernel
theorem dX7_look_90 : decode cX7_look 90 = .ok (.aload_n 0, 1) := by decide +kernel
theorem dX7_look_91 : decode cX7_look 91 = .ok (.getfield 131, 3) := by decide +kernel
theorem dX7_look_94 : decode cX7_look 94 = .ok (.aload_n 0, 1) := by decide +kernel
theorem dX7_look_95 : decode cX7_look 95 = .ok (.getfield 128, 3) := by decide +kernel
theorem dX7_look_98 : decode cX7_look 98 = .ok (.if_icmp .ge 169, 3) := by decide +kernel
theorem dX7_look_101 : decode cX7_look 101 = .ok (.aload_n 0, 1) := by decide +kernel
theorem dX7_look_102 : decode cX7_look 102 = .ok (.getfield 34, 3) := by decide +kernel
theorem dX7_look_105 : decode cX7_look 105 = .ok (.aload_n 0, 1) := by decide +kernel
theorem dX7_look_106 : decode cX7_look 106 = .ok (.getfield 131, 3) := by decide +kernel
theorem dX7_look_109 : decode cX7_look 109 = .ok (.iaload, 1) := by decide +kernel
theorem dX7_look_110 : decode cX7_look 110 = .ok (.invokestatic 144, 3) := by decide +kernel
theorem dX7_look_113 : decode cX7_look 113 = .ok (.ifCond .eq 154, 3) := by decide +kernel
theorem dX7_look_116 : decode cX7_look 116 = .ok (.aload_n 0, 1) := by decide +kernel
theorem dX7_look_117 : decode cX7_look 117 = .ok (.dup, 1) := by decide +kernel
theorem dX7_look_118 : decode cX7_look 118 = .ok (.getfield 131, 3) := by decide +kernel
theorem dX7_look_121 : decode cX7_look 121 = .ok (.iconst 1, 1) := by decide +kernel
theorem dX7_look_122 : decode cX7_look 122 = .ok (.iadd, 1) := by decide +kernel
theorem dX7_look_123 : decode cX7_look 123 = .ok (.putfield 131, 3) := by decide +kernel
theorem dX7_look_126 : decode cX7_look 126 = .ok (.goto (-36), 3) := by decide +kernel
theorem dX7_look_129 : decode cX7_look 129 = .ok (.aload_n 0, 1) := by decide +kernel
theorem dX7_look_130 : decode cX7_look 130 = .ok (.getfield 34, 3) := by decide +kernel
theorem dX7_look_133 : decode cX7_look 133 = .ok (.aload_n 0, 1) := by decide +kernel
theorem dX7_look_134 : decode cX7_look 134 = .ok (.getfield 131, 3) := by decide +kernel
theorem dX7_look_137 : decode cX7_look 137 = .ok (.iaload, 1) := by decide +kernel
theorem dX7_look_138 : decode cX7_look 138 = .ok (.invokestatic 147, 3) := by decide +kernel
theorem dX7_look_141 : decode cX7_look 141 = .ok (.ifCond .eq 93, 3) := by decide +kernel
theorem dX7_look_144 : decode cX7_look 144 = .ok (.aload_n 0, 1) := by decide +kernel
theorem dX7_look_145 : decode cX7_look 145 = .ok (.iconst 2, 1) := by decide +kernel
theorem dX7_look_146 : decode cX7_look 146 = .ok (.putfield 141, 3) := by decide +kernel
theorem dX7_look_149 : decode cX7_look 149 = .ok (.aload_n 0, 1) := by decide +kernel
theorem dX7_look_150 : decode cX7_look 150 = .ok (.getfield 131, 3) := by decide +kernel
theorem dX7_look_153 : decode cX7_look 153 = .ok (.aload_n 0, 1) := by decide +kernel
theorem dX7_look_154 : decode cX7_look 154 = .ok (.getfield 128, 3) := by decide +kernel
theorem dX7_look_157 : decode cX7_look 157 = .ok (.if_icmp .ge 110, 3) := by decide +kernel
theorem dX7_look_160 : decode cX7_look 160 = .ok (.aload_n 0, 1) := by decide +kernel
theorem dX7_look_161 : decode cX7_look 161 = .ok (.getfield 34, 3) := by decide +kernel
theorem dX7_look_164 : decode cX7_look 164 = .ok (.aload_n 0, 1) := by decide +kernel
theorem dX7_look_165 : decode cX7_look 165 = .ok (.getfield 131, 3) := by decide +kernel
theorem dX7_look_168 : decode cX7_look 168 = .ok (.iaload, 1) := by decide +kernel
theorem dX7_look_169 : decode cX7_look 169 = .ok (.invokestatic 147, 3) := by decide +kernel
theorem dX7_look_172 : decode cX7_look 172 = .ok (.ifCond .eq 95, 3) := by decide +kernel
theorem dX7_look_175 : decode cX7_look 175 = .ok (.aload_n 0, 1) := by decide +kernel
theorem dX7_look_176 : decode cX7_look 176 = .ok (.aload_n 0, 1) := by decide +kernel
theorem dX7_look_177 : decode cX7_look 177 = .ok (.getfield 131, 3) := by decide +kernel
theorem dX7_look_180 : decode cX7_look 180 = .ok (.aload_n 0, 1) := by decide +kernel
theorem dX7_look_181 : decode cX7_look 181 = .ok (.getfield 134, 3) := by decide +kernel
theorem dX7_look_184 : decode cX7_look 184 = .ok (.isub, 1) := by decide +kernel
theorem dX7_look_185 : decode cX7_look 185 = .ok (.iconst 3, 1) := by decide +kernel
theorem dX7_look_186 : decode cX7_look 186 = .ok (.if_icmp .ge 29, 3) := by decide +kernel
theorem dX7_look_189 : decode cX7_look 189 = .ok (.aload_n 0, 1) := by decide +kernel
theorem dX7_look_190 : decode cX7_look 190 = .ok (.getfield 137, 3) := by decide +kernel
theorem dX7_look_193 : decode cX7_look 193 = .ok (.ldc2_w 150, 3) := by decide +kernel
theorem dX7_look_196 : decode cX7_look 196 = .ok (.lmul, 1) := by decide +kernel
theorem dX7_look_197 : decode cX7_look 197 = .ok (.aload_n 0, 1) := by decide +kernel
theorem dX7_look_198 : decode cX7_look 198 = .ok (.getfield 34, 3) := by decide +kernel
theorem dX7_look_201 : decode cX7_look 201 = .ok (.aload_n 0, 1) := by decide +kernel
theorem dX7_look_202 : decode cX7_look 202 = .ok (.getfield 131, 3) := by decide +kernel
theorem dX7_look_205 : decode cX7_look 205 = .ok (.iaload, 1) := by decide +kernel
theorem dX7_look_206 : decode cX7_look 206 = .ok (.i2l, 1) := by decide +kernel
theorem dX7_look_207 : decode cX7_look 207 = .ok (.ladd, 1) := by decide +kernel
theorem dX7_look_208 : decode cX7_look 208 = .ok (.ldc2_w 152, 3) := by decide +kernel
theorem dX7_look_211 : decode cX7_look 211 = .ok (.lsub, 1) := by decide +kernel
theorem dX7_look_212 : decode cX7_look 212 = .ok (.goto 6, 3) := by decide +kernel
theorem dX7_look_215 : decode cX7_look 215 = .ok (.ldc2_w 154, 3) := by decide +kernel
theorem dX7_look_218 : decode cX7_look 218 = .ok (.putfield 137, 3) := by decide +kernel
theorem dX7_look_221 : decode cX7_look 221 = .ok (.aload_n 0, 1) := by decide +kernel
theorem dX7_look_222 : decode cX7_look 222 = .ok (.dup, 1) := by decide +kernel
theorem dX7_look_223 : decode cX7_look 223 = .ok (.getfield 131, 3) := by decide +kernel
theorem dX7_look_226 : decode cX7_look 226 = .ok (.iconst 1, 1) := by decide +kernel
theorem dX7_look_227 : decode cX7_look 227 = .ok (.iadd, 1) := by decide +kernel
theorem dX7_look_228 : decode cX7_look 228 = .ok (.putfield 131, 3) := by decide +kernel
theorem dX7_look_231 : decode cX7_look 231 = .ok (.goto (-82), 3) := by decide +kernel
theorem dX7_look_234 : decode cX7_look 234 = .ok (.aload_n 0, 1) := by decide +kernel
theorem dX7_look_235 : decode cX7_look 235 = .ok (.aload_n 0, 1) := by decide +kernel
theorem dX7_look_236 : decode cX7_look 236 = .ok (.getfield 34, 3) := by decide +kernel
theorem dX7_look_239 : decode cX7_look 239 = .ok (.aload_n 0, 1) := by decide +kernel
theorem dX7_look_240 : decode cX7_look 240 = .ok (.getfield 131, 3) := by decide +kernel
theorem dX7_look_243 : decode cX7_look 243 = .ok (.iaload, 1) := by decide +kernel
theorem dX7_look_244 : decode cX7_look 244 = .ok (.bipush 59, 2) := by decide +kernel
theorem dX7_look_246 : decode cX7_look 246 = .ok (.if_icmp .ne 7, 3) := by decide +kernel
theorem dX7_look_249 : decode cX7_look 249 = .ok (.iconst 3, 1) := by decide +kernel
theorem dX7_look_250 : decode cX7_look 250 = .ok (.goto 4, 3) := by decide +kernel
theorem dX7_look_253 : decode cX7_look 253 = .ok (.iconst 4, 1) := by decide +kernel
theorem dX7_look_254 : decode cX7_look 254 = .ok (.putfield 141, 3) := by decide +kernel
theorem dX7_look_257 : decode cX7_look 257 = .ok (.aload_n 0, 1) := by decide +kernel
theorem dX7_look_258 : decode cX7_look 258 = .ok (.dup, 1) := by decide +kernel
theorem dX7_look_259 : decode cX7_look 259 = .ok (.getfield 131, 3) := by decide +kernel
theorem dX7_look_262 : decode cX7_look 262 = .ok (.iconst 1, 1) := by decide +kernel
theorem dX7_look_263 : decode cX7_look 263 = .ok (.iadd, 1) := by decide +kernel
theorem dX7_look_264 : decode cX7_look 264 = .ok (.putfield 131, 3) := by decide +kernel
theorem dX7_look_267 : decode cX7_look 267 = .ok (.return_, 1) := by decide +kernel
theorem dX7_wrong_0 : decode cX7_wrong 0 = .ok (.aload_n 0, 1) := by decide +kernel
theorem dX7_wrong_1 : decode cX7_wrong 1 = .ok (.aload_n 0, 1) := by decide +kernel
theorem dX7_wrong_2 : decode cX7_wrong 2 = .ok (.getfield 134, 3) := by decide +kernel
theorem dX7_wrong_5 : decode cX7_wrong 5 = .ok (.putfield 156, 3) := by decide +kernel
theorem dX7_wrong_8 : decode cX7_wrong 8 = .ok (.iconst 0, 1) := by decide +kernel
theorem dX7_wrong_9 : decode cX7_wrong 9 = .ok (.ireturn, 1) := by decide +kernel
theorem dX7_isWord_0 : decode cX7_isWord 0 = .ok (.aload_n 0, 1) := by decide +kernel
theorem dX7_isWord_1 : decode cX7_isWord 1 = .ok (.getfield 141, 3) := by decide +kernel
theorem dX7_isWord_4 : decode cX7_isWord 4 = .ok (.iconst 1, 1) := by decide +kernel
theorem dX7_isWord_5 : decode cX7_isWord 5 = .ok (.if_icmp .ne 19, 3) := by decide +kernel
theorem dX7_isWord_8 : decode cX7_isWord 8 = .ok (.aload_n 0, 1) := by decide +kernel
theorem dX7_isWord_9 : decode cX7_isWord 9 = .ok (.getfield 131, 3) := by decide +kernel
theorem dX7_isWord_12 : decode cX7_isWord 12 = .ok (.aload_n 0, 1) := by decide +kernel
theorem dX7_isWord_13 : decode cX7_isWord 13 = .ok (.getfield 134, 3) := by decide +kernel
theorem dX7_isWord_16 : decode cX7_isWord 16 = .ok (.isub, 1) := by decide +kernel
theorem dX7_isWord_17 : decode cX7_isWord 17 = .ok (.aload_n 1, 1) := by decide +kernel
theorem dX7_isWord_18 : decode cX7_isWord 18 = .ok (.invokevirtual 159, 3) := by decide +kernel
theorem dX7_isWord_21 : decode cX7_isWord 21 = .ok (.if_icmp .eq 5, 3) := by decide +kernel
theorem dX7_isWord_24 : decode cX7_isWord 24 = .ok (.iconst 0, 1) := by decide +kernel
theorem dX7_isWord_25 : decode cX7_isWord 25 = .ok (.ireturn, 1) := by decide +kernel
theorem dX7_isWord_26 : decode cX7_isWord 26 = .ok (.iconst 0, 1) := by decide +kernel
theorem dX7_isWord_27 : decode cX7_isWord 27 = .ok (.istore_n 2, 1) := by decide +kernel
theorem dX7_isWord_28 : decode cX7_isWord 28 = .ok (.iload_n 2, 1) := by decide +kernel
theorem dX7_isWord_29 : decode cX7_isWord 29 = .ok (.aload_n 1, 1) := by decide +kernel
theorem dX7_isWord_30 : decode cX7_isWord 30 = .ok (.invokevirtual 159, 3) := by decide +kernel
theorem dX7_isWord_33 : decode cX7_isWord 33 = .ok (.if_icmp .ge 30, 3) := by decide +kernel
theorem dX7_isWord_36 : decode cX7_isWord 36 = .ok (.aload_n 0, 1) := by decide +kernel
theorem dX7_isWord_37 : decode cX7_isWord 37 = .ok (.getfield 34, 3) := by decide +kernel
theorem dX7_isWord_40 : decode cX7_isWord 40 = .ok (.aload_n 0, 1) := by decide +kernel
theorem dX7_isWord_41 : decode cX7_isWord 41 = .ok (.getfield 134, 3) := by decide +kernel
theorem dX7_isWord_44 : decode cX7_isWord 44 = .ok (.iload_n 2, 1) := by decide +kernel
theorem dX7_isWord_45 : decode cX7_isWord 45 = .ok (.iadd, 1) := by decide +kernel
theorem dX7_isWord_46 : decode cX7_isWord 46 = .ok (.iaload, 1) := by decide +kernel
theorem dX7_isWord_47 : decode cX7_isWord 47 = .ok (.aload_n 1, 1) := by decide +kernel
theorem dX7_isWord_48 : decode cX7_isWord 48 = .ok (.iload_n 2, 1) := by decide +kernel
theorem dX7_isWord_49 : decode cX7_isWord 49 = .ok (.invokevirtual 165, 3) := by decide +kernel
theorem dX7_isWord_52 : decode cX7_isWord 52 = .ok (.if_icmp .eq 5, 3) := by decide +kernel
theorem dX7_isWord_55 : decode cX7_isWord 55 = .ok (.iconst 0, 1) := by decide +kernel
theorem dX7_isWord_56 : decode cX7_isWord 56 = .ok (.ireturn, 1) := by decide +kernel
theorem dX7_isWord_57 : decode cX7_isWord 57 = .ok (.iinc 2 1, 3) := by decide +kernel
theorem dX7_isWord_60 : decode cX7_isWord 60 = .ok (.goto (-32), 3) := by decide +kernel
theorem dX7_isWord_63 : decode cX7_isWord 63 = .ok (.iconst 1, 1) := by decide +kernel
theorem dX7_isWord_64 : decode cX7_isWord 64 = .ok (.ireturn, 1) := by decide +kernel
theorem dX7_word_0 : decode cX7_word 0 = .ok (.aload_n 0, 1) := by decide +kernel
theorem dX7_word_1 : decode cX7_word 1 = .ok (.aload_n 1, 1) := by decide +kernel
theorem dX7_word_2 : decode cX7_word 2 = .ok (.invokevirtual 169, 3) := by decide +kernel
theorem dX7_word_5 : decode cX7_word 5 = .ok (.ifCond .ne 8, 3) := by decide +kernel
theorem dX7_word_8 : decode cX7_word 8 = .ok (.aload_n 0, 1) := by decide +kernel
theorem dX7_word_9 : decode cX7_word 9 = .ok (.invokevirtual 173, 3) := by decide +kernel
theorem dX7_word_12 : decode cX7_word 12 = .ok (.ireturn, 1) := by decide +kernel
theorem dX7_word_13 : decode cX7_word 13 = .ok (.aload_n 0, 1) := by decide +kernel
theorem dX7_word_14 : decode cX7_word 14 = .ok (.invokevirtual 177, 3) := by decide +kernel
theorem dX7_word_17 : decode cX7_word 17 = .ok (.iconst 1, 1) := by decide +kernel
theorem dX7_word_18 : decode cX7_word 18 = .ok (.ireturn, 1) := by decide +kernel
theorem dX7_number_0 : decode cX7_number 0 = .ok (.aload_n 0, 1) := by decide +kernel
theorem dX7_number_1 : decode cX7_number 1 = .ok (.getfield 141, 3) := by decide +kernel
theorem dX7_number_4 : decode cX7_number 4 = .ok (.iconst 2, 1) := by decide +kernel
theorem dX7_number_5 : decode cX7_number 5 = .ok (.if_icmp .ne 17, 3) := by decide +kernel
theorem dX7_number_8 : decode cX7_number 8 = .ok (.aload_n 0, 1) := by decide +kernel
theorem dX7_number_9 : decode cX7_number 9 = .ok (.getfield 137, 3) := by decide +kernel
theorem dX7_number_12 : decode cX7_number 12 = .ok (.iload_n 1, 1) := by decide +kernel
theorem dX7_number_13 : decode cX7_number 13 = .ok (.i2l, 1) := by decide +kernel
theorem dX7_number_14 : decode cX7_number 14 = .ok (.iload_n 2, 1) := by decide +kernel
theorem dX7_number_15 : decode cX7_number 15 = .ok (.i2l, 1) := by decide +kernel
theorem dX7_number_16 : decode cX7_number 16 = .ok (.invokestatic 88, 3) := by decide +kernel
theorem dX7_number_19 : decode cX7_number 19 = .ok (.ifCond .ne 8, 3) := by decide +kernel
theorem dX7_number_22 : decode cX7_number 22 = .ok (.aload_n 0, 1) := by decide +kernel
theorem dX7_number_23 : decode cX7_number 23 = .ok (.invokevirtual 173, 3) := by decide +kernel
theorem dX7_number_26 : decode cX7_number 26 = .ok (.ireturn, 1) := by decide +kernel
theorem dX7_number_27 : decode cX7_number 27 = .ok (.aload_n 0, 1) := by decide +kernel
theorem dX7_number_28 : decode cX7_number 28 = .ok (.aload_n 0, 1) := by decide +kernel
theorem dX7_number_29 : decode cX7_number 29 = .ok (.getfield 137, 3) := by decide +kernel
theorem dX7_number_32 : decode cX7_number 32 = .ok (.l2i, 1) := by decide +kernel
theorem dX7_number_33 : decode cX7_number 33 = .ok (.putfield 180, 3) := by decide +kernel
theorem dX7_number_36 : decode cX7_number 36 = .ok (.aload_n 0, 1) := by decide +kernel
theorem dX7_number_37 : decode cX7_number 37 = .ok (.invokevirtual 177, 3) := by decide +kernel
theorem dX7_number_40 : decode cX7_number 40 = .ok (.iconst 1, 1) := by decide +kernel
theorem dX7_number_41 : decode cX7_number 41 = .ok (.ireturn, 1) := by decide +kernel
theorem dX7_tieThem_0 : decode cX7_tieThem 0 = .ok (.aload_n 0, 1) := by decide +kernel
theorem dX7_tieThem_1 : decode cX7_tieThem 1 = .ok (.getfield 57, 3) := by decide +kernel
theorem dX7_tieThem_4 : decode cX7_tieThem 4 = .ok (.iload_n 1, 1) := by decide +kernel
theorem dX7_tieThem_5 : decode cX7_tieThem 5 = .ok (.aaload, 1) := by decide +kernel
theorem dX7_tieThem_6 : decode cX7_tieThem 6 = .ok (.iload_n 2, 1) := by decide +kernel
theorem dX7_tieThem_7 : decode cX7_tieThem 7 = .ok (.dup2, 1) := by decide +kernel
theorem dX7_tieThem_8 : decode cX7_tieThem 8 = .ok (.iaload, 1) := by decide +kernel
theorem dX7_tieThem_9 : decode cX7_tieThem 9 = .ok (.iconst 1, 1) := by decide +kernel
theorem dX7_tieThem_10 : decode cX7_tieThem 10 = .ok (.iload_n 3, 1) := by decide +kernel
theorem dX7_tieThem_11 : decode cX7_tieThem 11 = .ok (.ishl, 1) := by decide +kernel
theorem dX7_tieThem_12 : decode cX7_tieThem 12 = .ok (.ior, 1) := by decide +kernel
theorem dX7_tieThem_13 : decode cX7_tieThem 13 = .ok (.iastore, 1) := by decide +kernel
theorem dX7_tieThem_14 : decode cX7_tieThem 14 = .ok (.aload_n 0, 1) := by decide +kernel
theorem dX7_tieThem_15 : decode cX7_tieThem 15 = .ok (.getfield 57, 3) := by decide +kernel
theorem dX7_tieThem_18 : decode cX7_tieThem 18 = .ok (.iload_n 1, 1) := by decide +kernel
theorem dX7_tieThem_19 : decode cX7_tieThem 19 = .ok (.aaload, 1) := by decide +kernel
theorem dX7_tieThem_20 : decode cX7_tieThem 20 = .ok (.iload_n 3, 1) := by decide +kernel
theorem dX7_tieThem_21 : decode cX7_tieThem 21 = .ok (.dup2, 1) := by decide +kernel
theorem dX7_tieThem_22 : decode cX7_tieThem 22 = .ok (.iaload, 1) := by decide +kernel
theorem dX7_tieThem_23 : decode cX7_tieThem 23 = .ok (.iconst 1, 1) := by decide +kernel
theorem dX7_tieThem_24 : decode cX7_tieThem 24 = .ok (.iload_n 2, 1) := by decide +kernel
theorem dX7_tieThem_25 : decode cX7_tieThem 25 = .ok (.ishl, 1) := by decide +kernel
theorem dX7_tieThem_26 : decode cX7_tieThem 26 = .ok (.ior, 1) := by decide +kernel
theorem dX7_tieThem_27 : decode cX7_tieThem 27 = .ok (.iastore, 1) := by decide +kernel
theorem dX7_tieThem_28 : decode cX7_tieThem 28 = .ok (.aload_n 0, 1) := by decide +kernel
theorem dX7_tieThem_29 : decode cX7_tieThem 29 = .ok (.getfield 60, 3) := by decide +kernel
theorem dX7_tieThem_32 : decode cX7_tieThem 32 = .ok (.iload_n 1, 1) := by decide +kernel
theorem dX7_tieThem_33 : decode cX7_tieThem 33 = .ok (.aaload, 1) := by decide +kernel
theorem dX7_tieThem_34 : decode cX7_tieThem 34 = .ok (.iload_n 2, 1) := by decide +kernel
theorem dX7_tieThem_35 : decode cX7_tieThem 35 = .ok (.bipush 12, 2) := by decide +kernel
theorem dX7_tieThem_37 : decode cX7_tieThem 37 = .ok (.imul, 1) := by decide +kernel
theorem dX7_tieThem_38 : decode cX7_tieThem 38 = .ok (.iload_n 3, 1) := by decide +kernel
theorem dX7_tieThem_39 : decode cX7_tieThem 39 = .ok (.iadd, 1) := by decide +kernel
theorem dX7_tieThem_40 : decode cX7_tieThem 40 = .ok (.iload 4, 2) := by decide +kernel
theorem dX7_tieThem_42 : decode cX7_tieThem 42 = .ok (.iastore, 1) := by decide +kernel
theorem dX7_tieThem_43 : decode cX7_tieThem 43 = .ok (.aload_n 0, 1) := by decide +kernel
theorem dX7_tieThem_44 : decode cX7_tieThem 44 = .ok (.getfield 60, 3) := by decide +kernel
theorem dX7_tieThem_47 : decode cX7_tieThem 47 = .ok (.iload_n 1, 1) := by decide +kernel
theorem dX7_tieThem_48 : decode cX7_tieThem 48 = .ok (.aaload, 1) := by decide +kernel
theorem dX7_tieThem_49 : decode cX7_tieThem 49 = .ok (.iload_n 3, 1) := by decide +kernel
theorem dX7_tieThem_50 : decode cX7_tieThem 50 = .ok (.bipush 12, 2) := by decide +kernel
theorem dX7_tieThem_52 : decode cX7_tieThem 52 = .ok (.imul, 1) := by decide +kernel
theorem dX7_tieThem_53 : decode cX7_tieThem 53 = .ok (.iload_n 2, 1) := by decide +kernel
theorem dX7_tieThem_54 : decode cX7_tieThem 54 = .ok (.iadd, 1) := by decide +kernel
theorem dX7_tieThem_55 : decode cX7_tieThem 55 = .ok (.iload 4, 2) := by decide +kernel
theorem dX7_tieThem_57 : decode cX7_tieThem 57 = .ok (.iastore, 1) := by decide +kernel
theorem dX7_tieThem_58 : decode cX7_tieThem 58 = .ok (.return_, 1) := by decide +kernel
theorem dX7_tieNew_0 : decode cX7_tieNew 0 = .ok (.iload_n 2, 1) := by decide +kernel
theorem dX7_tieNew_1 : decode cX7_tieNew 1 = .ok (.iload_n 3, 1) := by decide +kernel
theorem dX7_tieNew_2 : decode cX7_tieNew 2 = .ok (.if_icmp .eq 26, 3) := by decide +kernel
theorem dX7_tieNew_5 : decode cX7_tieNew 5 = .ok (.aload_n 0, 1) := by decide +kernel
theorem dX7_tieNew_6 : decode cX7_tieNew 6 = .ok (.getfield 57, 3) := by decide +kernel
theorem dX7_tieNew_9 : decode cX7_tieNew 9 = .ok (.iload_n 1, 1) := by decide +kernel
theorem dX7_tieNew_10 : decode cX7_tieNew 10 = .ok (.aaload, 1) := by decide +kernel
theorem dX7_tieNew_11 : decode cX7_tieNew 11 = .ok (.iload_n 2, 1) := by decide +kernel
theorem dX7_tieNew_12 : decode cX7_tieNew 12 = .ok (.iaload, 1) := by decide +kernel
theorem dX7_tieNew_13 : decode cX7_tieNew 13 = .ok (.iload_n 3, 1) := by decide +kernel
theorem dX7_tieNew_14 : decode cX7_tieNew 14 = .ok (.ishr, 1) := by decide +kernel
theorem dX7_tieNew_15 : decode cX7_tieNew 15 = .ok (.iconst 1, 1) := by decide +kernel
theorem dX7_tieNew_16 : decode cX7_tieNew 16 = .ok (.iand, 1) := by decide +kernel
theorem dX7_tieNew_17 : decode cX7_tieNew 17 = .ok (.ifCond .ne 11, 3) := by decide +kernel
theorem dX7_tieNew_20 : decode cX7_tieNew 20 = .ok (.aload_n 0, 1) := by decide +kernel
theorem dX7_tieNew_21 : decode cX7_tieNew 21 = .ok (.iload_n 1, 1) := by decide +kernel
theorem dX7_tieNew_22 : decode cX7_tieNew 22 = .ok (.iload_n 2, 1) := by decide +kernel
theorem dX7_tieNew_23 : decode cX7_tieNew 23 = .ok (.iload_n 3, 1) := by decide +kernel
theorem dX7_tieNew_24 : decode cX7_tieNew 24 = .ok (.iconst 0, 1) := by decide +kernel
theorem dX7_tieNew_25 : decode cX7_tieNew 25 = .ok (.invokevirtual 183, 3) := by decide +kernel
theorem dX7_tieNew_28 : decode cX7_tieNew 28 = .ok (.return_, 1) := by decide +kernel
theorem dX7_statement_0 : decode cX7_statement 0 = .ok (.aload_n 0, 1) := by decide +kernel
theorem dX7_statement_1 : decode cX7_statement 1 = .ok (.getfield 40, 3) := by decide +kernel
theorem dX7_statement_4 : decode cX7_statement 4 = .ok (.iload_n 1, 1) := by decide +kernel
theorem dX7_statement_5 : decode cX7_statement 5 = .ok (.iaload, 1) := by decide +kernel
theorem dX7_statement_6 : decode cX7_statement 6 = .ok (.istore_n 2, 1) := by decide +kernel
theorem dX7_statement_7 : decode cX7_statement 7 = .ok (.aload_n 0, 1) := by decide +kernel
theorem dX7_statement_8 : decode cX7_statement 8 = .ok (.ldc 187, 2) := by decide +kernel
theorem dX7_statement_10 : decode cX7_statement 10 = .ok (.invokevirtual 169, 3) := by decide +kernel
theorem dX7_statement_13 : decode cX7_statement 13 = .ok (.ifCond .ne 12, 3) := by decide +kernel
theorem dX7_statement_16 : decode cX7_statement 16 = .ok (.aload_n 0, 1) := by decide +kernel
theorem dX7_statement_17 : decode cX7_statement 17 = .ok (.ldc 188, 2) := by decide +kernel
theorem dX7_statement_19 : decode cX7_statement 19 = .ok (.invokevirtual 169, 3) := by decide +kernel
theorem dX7_statement_22 : decode cX7_statement 22 = .ok (.ifCond .eq 69, 3) := by decide +kernel
theorem dX7_statement_25 : decode cX7_statement 25 = .ok (.aload_n 0, 1) := by decide +kernel
theorem dX7_statement_26 : decode cX7_statement 26 = .ok (.ldc 187, 2) := by decide +kernel
theorem dX7_statement_28 : decode cX7_statement 28 = .ok (.invokevirtual 169, 3) := by decide +kernel
theorem dX7_statement_31 : decode cX7_statement 31 = .ok (.ifCond .eq 12, 3) := by decide +kernel
theorem dX7_statement_34 : decode cX7_statement 34 = .ok (.aload_n 0, 1) := by decide +kernel
theorem dX7_statement_35 : decode cX7_statement 35 = .ok (.getfield 51, 3) := by decide +kernel
theorem dX7_statement_38 : decode cX7_statement 38 = .ok (.iload_n 1, 1) := by decide +kernel
theorem dX7_statement_39 : decode cX7_statement 39 = .ok (.aaload, 1) := by decide +kernel
theorem dX7_statement_40 : decode cX7_statement 40 = .ok (.goto 9, 3) := by decide +kernel
theorem dX7_statement_43 : decode cX7_statement 43 = .ok (.aload_n 0, 1) := by decide +kernel
theorem dX7_statement_44 : decode cX7_statement 44 = .ok (.getfield 54, 3) := by decide +kernel
theorem dX7_statement_47 : decode cX7_statement 47 = .ok (.iload_n 1, 1) := by decide +kernel
theorem dX7_statement_48 : decode cX7_statement 48 = .ok (.aaload, 1) := by decide +kernel
theorem dX7_statement_49 : decode cX7_statement 49 = .ok (.astore_n 3, 1) := by decide +kernel
theorem dX7_statement_50 : decode cX7_statement 50 = .ok (.aload_n 0, 1) := by decide +kernel
theorem dX7_statement_51 : decode cX7_statement 51 = .ok (.invokevirtual 177, 3) := by decide +kernel
theorem dX7_statement_54 : decode cX7_statement 54 = .ok (.aload_n 0, 1) := by decide +kernel
theorem dX7_statement_55 : decode cX7_statement 55 = .ok (.iconst 0, 1) := by decide +kernel
theorem dX7_statement_56 : decode cX7_statement 56 = .ok (.bipush 99, 2) := by decide +kernel
theorem dX7_statement_58 : decode cX7_statement 58 = .ok (.invokevirtual 189, 3) := by decide +kernel
theorem dX7_statement_61 : decode cX7_statement 61 = .ok (.ifCond .ne 5, 3) := by decide +kernel
theorem dX7_statement_64 : decode cX7_statement 64 = .ok (.iconst 0, 1) := by decide +kernel
theorem dX7_statement_65 : decode cX7_statement 65 = .ok (.ireturn, 1) := by decide +kernel
theorem dX7_statement_66 : decode cX7_statement 66 = .ok (.iconst 0, 1) := by decide +kernel
theorem dX7_statement_67 : decode cX7_statement 67 = .ok (.istore 4, 2) := by decide +kernel
theorem dX7_statement_69 : decode cX7_statement 69 = .ok (.iload 4, 2) := by decide +kernel
theorem dX7_statement_71 : decode cX7_statement 71 = .ok (.iload_n 2, 1) := by decide +kernel
theorem dX7_statement_72 : decode cX7_statement 72 = .ok (.if_icmp .ge 17, 3) := by decide +kernel
theorem dX7_statement_75 : decode cX7_statement 75 = .ok (.aload_n 3, 1) := by decide +kernel
theorem dX7_statement_76 : decode cX7_statement 76 = .ok (.iload 4, 2) := by decide +kernel
theorem dX7_statement_78 : decode cX7_statement 78 = .ok (.aload_n 0, 1) := by decide +kernel
theorem dX7_statement_79 : decode cX7_statement 79 = .ok (.getfield 180, 3) := by decide +kernel
theorem dX7_statement_82 : decode cX7_statement 82 = .ok (.iastore, 1) := by decide +kernel
theorem dX7_statement_83 : decode cX7_statement 83 = .ok (.iinc 4 1, 3) := by decide +kernel
theorem dX7_statement_86 : decode cX7_statement 86 = .ok (.goto (-17), 3) := by decide +kernel
theorem dX7_statement_89 : decode cX7_statement 89 = .ok (.iconst 1, 1) := by decide +kernel
theorem dX7_statement_90 : decode cX7_statement 90 = .ok (.ireturn, 1) := by decide +kernel
theorem dX7_statement_91 : decode cX7_statement 91 = .ok (.aload_n 0, 1) := by decide +kernel
theorem dX7_statement_92 : decode cX7_statement 92 = .ok (.ldc 191, 2) := by decide +kernel
theorem dX7_statement_94 : decode cX7_statement 94 = .ok (.invokevirtual 169, 3) := by decide +kernel
theorem dX7_statement_97 : decode cX7_statement 97 = .ok (.ifCond .eq 31, 3) := by decide +kernel
theorem dX7_statement_100 : decode cX7_statement 100 = .ok (.aload_n 0, 1) := by decide +kernel
theorem dX7_statement_101 : decode cX7_statement 101 = .ok (.invokevirtual 177, 3) := by decide +kernel
theorem dX7_statement_104 : decode cX7_statement 104 = .ok (.aload_n 0, 1) := by decide +kernel
theorem dX7_statement_105 : decode cX7_statement 105 = .ok (.iconst 0, 1) := by decide +kernel
theorem dX7_statement_106 : decode cX7_statement 106 = .ok (.bipush 9, 2) := by decide +kernel
theorem dX7_statement_108 : decode cX7_statement 108 = .ok (.invokevirtual 189, 3) := by decide +kernel
theorem dX7_statement_111 : decode cX7_statement 111 = .ok (.ifCond .ne 5, 3) := by decide +kernel
theorem dX7_statement_114 : decode cX7_statement 114 = .ok (.iconst 0, 1) := by decide +kernel
theorem dX7_statement_115 : decode cX7_statement 115 = .ok (.ireturn, 1) := by decide +kernel
theorem dX7_statement_116 : decode cX7_statement 116 = .ok (.aload_n 0, 1) := by decide +kernel
theorem dX7_statement_117 : decode cX7_statement 117 = .ok (.getfield 43, 3) := by decide +kernel
theorem dX7_statement_120 : decode cX7_statement 120 = .ok (.iload_n 1, 1) := by decide +kernel
theorem dX7_statement_121 : decode cX7_statement 121 = .ok (.aload_n 0, 1) := by decide +kernel
theorem dX7_statement_122 : decode cX7_statement 122 = .ok (.getfield 180, 3) := by decide +kernel
theorem dX7_statement_125 : decode cX7_statement 125 = .ok (.iastore, 1) := by decide +kernel
theorem dX7_statement_126 : decode cX7_statement 126 = .ok (.iconst 1, 1) := by decide +kernel
theorem dX7_statement_127 : decode cX7_statement 127 = .ok (.ireturn, 1) := by decide +kernel
theorem dX7_statement_128 : decode cX7_statement 128 = .ok (.aload_n 0, 1) := by decide +kernel
theorem dX7_statement_129 : decode cX7_statement 129 = .ok (.ldc 192, 2) := by decide +kernel
theorem dX7_statement_131 : decode cX7_statement 131 = .ok (.invokevirtual 169, 3) := by decide +kernel
theorem dX7_statement_134 : decode cX7_statement 134 = .ok (.ifCond .eq 93, 3) := by decide +kernel
theorem dX7_statement_137 : decode cX7_statement 137 = .ok (.aload_n 0, 1) := by decide +kernel
theorem dX7_statement_138 : decode cX7_statement 138 = .ok (.invokevirtual 177, 3) := by decide +kernel
theorem dX7_statement_141 : decode cX7_statement 141 = .ok (.aload_n 0, 1) := by decide +kernel
theorem dX7_statement_142 : decode cX7_statement 142 = .ok (.iconst 0, 1) := by decide +kernel
theorem dX7_statement_143 : decode cX7_statement 143 = .ok (.iload_n 2, 1) := by decide +kernel
theorem dX7_statement_144 : decode cX7_statement 144 = .ok (.iconst 1, 1) := by decide +kernel
theorem dX7_statement_145 : decode cX7_statement 145 = .ok (.isub, 1) := by decide +kernel
theorem dX7_statement_146 : decode cX7_statement 146 = .ok (.invokevirtual 189, 3) := by decide +kernel
theorem dX7_statement_149 : decode cX7_statement 149 = .ok (.ifCond .ne 5, 3) := by decide +kernel
theorem dX7_statement_152 : decode cX7_statement 152 = .ok (.iconst 0, 1) := by decide +kernel
theorem dX7_statement_153 : decode cX7_statement 153 = .ok (.ireturn, 1) := by decide +kernel
theorem dX7_statement_154 : decode cX7_statement 154 = .ok (.aload_n 0, 1) := by decide +kernel
theorem dX7_statement_155 : decode cX7_statement 155 = .ok (.getfield 180, 3) := by decide +kernel
theorem dX7_statement_158 : decode cX7_statement 158 = .ok (.istore_n 3, 1) := by decide +kernel
theorem dX7_statement_159 : decode cX7_statement 159 = .ok (.aload_n 0, 1) := by decide +kernel
theorem dX7_statement_160 : decode cX7_statement 160 = .ok (.ldc 187, 2) := by decide +kernel
theorem dX7_statement_162 : decode cX7_statement 162 = .ok (.invokevirtual 194, 3) := by decide +kernel
theorem dX7_statement_165 : decode cX7_statement 165 = .ok (.ifCond .eq 13, 3) := by decide +kernel
theorem dX7_statement_168 : decode cX7_statement 168 = .ok (.aload_n 0, 1) := by decide +kernel
theorem dX7_statement_169 : decode cX7_statement 169 = .ok (.iconst 0, 1) := by decide +kernel
theorem dX7_statement_170 : decode cX7_statement 170 = .ok (.bipush 99, 2) := by decide +kernel
theorem dX7_statement_172 : decode cX7_statement 172 = .ok (.invokevirtual 189, 3) := by decide +kernel
theorem dX7_statement_175 : decode cX7_statement 175 = .ok (.ifCond .ne 5, 3) := by decide +kernel
theorem dX7_statement_178 : decode cX7_statement 178 = .ok (.iconst 0, 1) := by decide +kernel
theorem dX7_statement_179 : decode cX7_statement 179 = .ok (.ireturn, 1) := by decide +kernel
theorem dX7_statement_180 : decode cX7_statement 180 = .ok (.aload_n 0, 1) := by decide +kernel
theorem dX7_statement_181 : decode cX7_statement 181 = .ok (.getfield 51, 3) := by decide +kernel
theorem dX7_statement_184 : decode cX7_statement 184 = .ok (.iload_n 1, 1) := by decide +kernel
theorem dX7_statement_185 : decode cX7_statement 185 = .ok (.aaload, 1) := by decide +kernel
theorem dX7_statement_186 : decode cX7_statement 186 = .ok (.iload_n 3, 1) := by decide +kernel
theorem dX7_statement_187 : decode cX7_statement 187 = .ok (.aload_n 0, 1) := by decide +kernel
theorem dX7_statement_188 : decode cX7_statement 188 = .ok (.getfield 180, 3) := by decide +kernel
theorem dX7_statement_191 : decode cX7_statement 191 = .ok (.iastore, 1) := by decide +kernel
theorem dX7_statement_192 : decode cX7_statement 192 = .ok (.aload_n 0, 1) := by decide +kernel
theorem dX7_statement_193 : decode cX7_statement 193 = .ok (.ldc 188, 2) := by decide +kernel
theorem dX7_statement_195 : decode cX7_statement 195 = .ok (.invokevirtual 194, 3) := by decide +kernel
theorem dX7_statement_198 : decode cX7_statement 198 = .ok (.ifCond .eq 13, 3) := by decide +kernel
theorem dX7_statement_201 : decode cX7_statement 201 = .ok (.aload_n 0, 1) := by decide +kernel
theorem dX7_statement_202 : decode cX7_statement 202 = .ok (.iconst 0, 1) := by decide +kernel
theorem dX7_statement_203 : decode cX7_statement 203 = .ok (.bipush 99, 2) := by decide +kernel
theorem dX7_statement_205 : decode cX7_statement 205 = .ok (.invokevirtual 189, 3) := by decide +kernel
theorem dX7_statement_208 : decode cX7_statement 208 = .ok (.ifCond .ne 5, 3) := by decide +kernel
theorem dX7_statement_211 : decode cX7_statement 211 = .ok (.iconst 0, 1) := by decide +kernel
theorem dX7_statement_212 : decode cX7_statement 212 = .ok (.ireturn, 1) := by decide +kernel
theorem dX7_statement_213 : decode cX7_statement 213 = .ok (.aload_n 0, 1) := by decide +kernel
theorem dX7_statement_214 : decode cX7_statement 214 = .ok (.getfield 54, 3) := by decide +kernel
theorem dX7_statement_217 : decode cX7_statement 217 = .ok (.iload_n 1, 1) := by decide +kernel
theorem dX7_statement_218 : decode cX7_statement 218 = .ok (.aaload, 1) := by decide +kernel
theorem dX7_statement_219 : decode cX7_statement 219 = .ok (.iload_n 3, 1) := by decide +kernel
theorem dX7_statement_220 : decode cX7_statement 220 = .ok (.aload_n 0, 1) := by decide +kernel
theorem dX7_statement_221 : decode cX7_statement 221 = .ok (.getfield 180, 3) := by decide +kernel
theorem dX7_statement_224 : decode cX7_statement 224 = .ok (.iastore, 1) := by decide +kernel
theorem dX7_statement_225 : decode cX7_statement 225 = .ok (.iconst 1, 1) := by decide +kernel
theorem dX7_statement_226 : decode cX7_statement 226 = .ok (.ireturn, 1) := by decide +kernel
theorem dX7_statement_227 : decode cX7_statement 227 = .ok (.aload_n 0, 1) := by decide +kernel
theorem dX7_statement_228 : decode cX7_statement 228 = .ok (.ldc 197, 2) := by decide +kernel
theorem dX7_statement_230 : decode cX7_statement 230 = .ok (.invokevirtual 169, 3) := by decide +kernel
theorem dX7_statement_233 : decode cX7_statement 233 = .ok (.ifCond .eq 10, 3) := by decide +kernel
theorem dX7_statement_236 : decode cX7_statement 236 = .ok (.aload_n 0, 1) := by decide +kernel
theorem dX7_statement_237 : decode cX7_statement 237 = .ok (.iload_n 1, 1) := by decide +kernel
theorem dX7_statement_238 : decode cX7_statement 238 = .ok (.iload_n 2, 1) := by decide +kernel
theorem dX7_statement_239 : decode cX7_statement 239 = .ok (.invokevirtual 199, 3) := by decide +kernel
theorem dX7_statement_242 : decode cX7_statement 242 = .ok (.ireturn, 1) := by decide +kernel
theorem dX7_statement_243 : decode cX7_statement 243 = .ok (.aload_n 0, 1) := by decide +kernel
theorem dX7_statement_244 : decode cX7_statement 244 = .ok (.ldc 202, 2) := by decide +kernel
theorem dX7_statement_246 : decode cX7_statement 246 = .ok (.invokevirtual 169, 3) := by decide +kernel
theorem dX7_statement_249 : decode cX7_statement 249 = .ok (.ifCond .eq 37, 3) := by decide +kernel
theorem dX7_statement_252 : decode cX7_statement 252 = .ok (.aload_n 0, 1) := by decide +kernel
theorem dX7_statement_253 : decode cX7_statement 253 = .ok (.invokevirtual 177, 3) := by decide +kernel
theorem dX7_statement_256 : decode cX7_statement 256 = .ok (.aload_n 0, 1) := by decide +kernel
theorem dX7_statement_257 : decode cX7_statement 257 = .ok (.iconst 0, 1) := by decide +kernel
theorem dX7_statement_258 : decode cX7_statement 258 = .ok (.iload_n 2, 1) := by decide +kernel
theorem dX7_statement_259 : decode cX7_statement 259 = .ok (.iconst 1, 1) := by decide +kernel
theorem dX7_statement_260 : decode cX7_statement 260 = .ok (.isub, 1) := by decide +kernel
theorem dX7_statement_261 : decode cX7_statement 261 = .ok (.invokevirtual 189, 3) := by decide +kernel
theorem dX7_statement_264 : decode cX7_statement 264 = .ok (.ifCond .ne 5, 3) := by decide +kernel
theorem dX7_statement_267 : decode cX7_statement 267 = .ok (.iconst 0, 1) := by decide +kernel
theorem dX7_statement_268 : decode cX7_statement 268 = .ok (.ireturn, 1) := by decide +kernel
theorem dX7_statement_269 : decode cX7_statement 269 = .ok (.aload_n 0, 1) := by decide +kernel
theorem dX7_statement_270 : decode cX7_statement 270 = .ok (.getfield 46, 3) := by decide +kernel
theorem dX7_statement_273 : decode cX7_statement 273 = .ok (.iload_n 1, 1) := by decide +kernel
theorem dX7_statement_274 : decode cX7_statement 274 = .ok (.dup2, 1) := by decide +kernel
theorem dX7_statement_275 : decode cX7_statement 275 = .ok (.iaload, 1) := by decide +kernel
theorem dX7_statement_276 : decode cX7_statement 276 = .ok (.iconst 1, 1) := by decide +kernel
theorem dX7_statement_277 : decode cX7_statement 277 = .ok (.aload_n 0, 1) := by decide +kernel
theorem dX7_statement_278 : decode cX7_statement 278 = .ok (.getfield 180, 3) := by decide +kernel
theorem dX7_statement_281 : decode cX7_statement 281 = .ok (.ishl, 1) := by decide +kernel
theorem dX7_statement_282 : decode cX7_statement 282 = .ok (.ior, 1) := by decide +kernel
theorem dX7_statement_283 : decode cX7_statement 283 = .ok (.iastore, 1) := by decide +kernel
theorem dX7_statement_284 : decode cX7_statement 284 = .ok (.iconst 1, 1) := by decide +kernel
theorem dX7_statement_285 : decode cX7_statement 285 = .ok (.ireturn, 1) := by decide +kernel
theorem dX7_statement_286 : decode cX7_statement 286 = .ok (.aload_n 0, 1) := by decide +kernel
theorem dX7_statement_287 : decode cX7_statement 287 = .ok (.ldc 204, 2) := by decide +kernel
theorem dX7_statement_289 : decode cX7_statement 289 = .ok (.invokevirtual 169, 3) := by decide +kernel
theorem dX7_statement_292 : decode cX7_statement 292 = .ok (.ifCond .eq 38, 3) := by decide +kernel
theorem dX7_statement_295 : decode cX7_statement 295 = .ok (.iload_n 2, 1) := by decide +kernel
theorem dX7_statement_296 : decode cX7_statement 296 = .ok (.iconst 3, 1) := by decide +kernel
theorem dX7_statement_297 : decode cX7_statement 297 = .ok (.if_icmp .lt 33, 3) := by decide +kernel
theorem dX7_statement_300 : decode cX7_statement 300 = .ok (.aload_n 0, 1) := by decide +kernel
theorem dX7_statement_301 : decode cX7_statement 301 = .ok (.invokevirtual 177, 3) := by decide +kernel
theorem dX7_statement_304 : decode cX7_statement 304 = .ok (.iconst 0, 1) := by decide +kernel
theorem dX7_statement_305 : decode cX7_statement 305 = .ok (.istore_n 3, 1) := by decide +kernel
theorem dX7_statement_306 : decode cX7_statement 306 = .ok (.iload_n 3, 1) := by decide +kernel
theorem dX7_statement_307 : decode cX7_statement 307 = .ok (.iload_n 2, 1) := by decide +kernel
theorem dX7_statement_308 : decode cX7_statement 308 = .ok (.if_icmp .ge 20, 3) := by decide +kernel
theorem dX7_statement_311 : decode cX7_statement 311 = .ok (.aload_n 0, 1) := by decide +kernel
theorem dX7_statement_312 : decode cX7_statement 312 = .ok (.iload_n 1, 1) := by decide +kernel
theorem dX7_statement_313 : decode cX7_statement 313 = .ok (.iload_n 3, 1) := by decide +kernel
theorem dX7_statement_314 : decode cX7_statement 314 = .ok (.iload_n 3, 1) := by decide +kernel
theorem dX7_statement_315 : decode cX7_statement 315 = .ok (.iconst 1, 1) := by decide +kernel
theorem dX7_statement_316 : decode cX7_statement 316 = .ok (.iadd, 1) := by decide +kernel
theorem dX7_statement_317 : decode cX7_statement 317 = .ok (.iload_n 2, 1) := by decide +kernel
theorem dX7_statement_318 : decode cX7_statement 318 = .ok (.irem, 1) := by decide +kernel
theorem dX7_statement_319 : decode cX7_statement 319 = .ok (.invokevirtual 206, 3) := by decide +kernel
theorem dX7_statement_322 : decode cX7_statement 322 = .ok (.iinc 3 1, 3) := by decide +kernel
theorem dX7_statement_325 : decode cX7_statement 325 = .ok (.goto (-19), 3) := by decide +kernel
theorem dX7_statement_328 : decode cX7_statement 328 = .ok (.iconst 1, 1) := by decide +kernel
theorem dX7_statement_329 : decode cX7_statement 329 = .ok (.ireturn, 1) := by decide +kernel
theorem dX7_statement_330 : decode cX7_statement 330 = .ok (.aload_n 0, 1) := by decide +kernel
theorem dX7_statement_331 : decode cX7_statement 331 = .ok (.ldc 210, 2) := by decide +kernel
theorem dX7_statement_333 : decode cX7_statement 333 = .ok (.invokevirtual 169, 3) := by decide +kernel
theorem dX7_statement_336 : decode cX7_statement 336 = .ok (.ifCond .eq 45, 3) := by decide +kernel
theorem dX7_statement_339 : decode cX7_statement 339 = .ok (.aload_n 0, 1) := by decide +kernel
theorem dX7_statement_340 : decode cX7_statement 340 = .ok (.invokevirtual 177, 3) := by decide +kernel
theorem dX7_statement_343 : decode cX7_statement 343 = .ok (.iconst 0, 1) := by decide +kernel
theorem dX7_statement_344 : decode cX7_statement 344 = .ok (.istore_n 3, 1) := by decide +kernel
theorem dX7_statement_345 : decode cX7_statement 345 = .ok (.iload_n 3, 1) := by decide +kernel
theorem dX7_statement_346 : decode cX7_statement 346 = .ok (.iload_n 2, 1) := by decide +kernel
theorem dX7_statement_347 : decode cX7_statement 347 = .ok (.if_icmp .ge 32, 3) := by decide +kernel
theorem dX7_statement_350 : decode cX7_statement 350 = .ok (.iconst 0, 1) := by decide +kernel
theorem dX7_statement_351 : decode cX7_statement 351 = .ok (.istore 4, 2) := by decide +kernel
theorem dX7_statement_353 : decode cX7_statement 353 = .ok (.iload 4, 2) := by decide +kernel
theorem dX7_statement_355 : decode cX7_statement 355 = .ok (.iload_n 3, 1) := by decide +kernel
theorem dX7_statement_356 : decode cX7_statement 356 = .ok (.if_icmp .ge 17, 3) := by decide +kernel
theorem dX7_statement_359 : decode cX7_statement 359 = .ok (.aload_n 0, 1) := by decide +kernel
theorem dX7_statement_360 : decode cX7_statement 360 = .ok (.iload_n 1, 1) := by decide +kernel
theorem dX7_statement_361 : decode cX7_statement 361 = .ok (.iload 4, 2) := by decide +kernel
theorem dX7_statement_363 : decode cX7_statement 363 = .ok (.iload_n 3, 1) := by decide +kernel
theorem dX7_statement_364 : decode cX7_statement 364 = .ok (.invokevirtual 206, 3) := by decide +kernel
theorem dX7_statement_367 : decode cX7_statement 367 = .ok (.iinc 4 1, 3) := by decide +kernel
theorem dX7_statement_370 : decode cX7_statement 370 = .ok (.goto (-17), 3) := by decide +kernel
theorem dX7_statement_373 : decode cX7_statement 373 = .ok (.iinc 3 1, 3) := by decide +kernel
theorem dX7_statement_376 : decode cX7_statement 376 = .ok (.goto (-31), 3) := by decide +kernel
theorem dX7_statement_379 : decode cX7_statement 379 = .ok (.iconst 1, 1) := by decide +kernel
theorem dX7_statement_380 : decode cX7_statement 380 = .ok (.ireturn, 1) := by decide +kernel
theorem dX7_statement_381 : decode cX7_statement 381 = .ok (.aload_n 0, 1) := by decide +kernel
theorem dX7_statement_382 : decode cX7_statement 382 = .ok (.invokevirtual 173, 3) := by decide +kernel
theorem dX7_statement_385 : decode cX7_statement 385 = .ok (.ireturn, 1) := by decide +kernel
theorem dX7_tieTold_0 : decode cX7_tieTold 0 = .ok (.aload_n 0, 1) := by decide +kernel
theorem dX7_tieTold_1 : decode cX7_tieTold 1 = .ok (.invokevirtual 177, 3) := by decide +kernel
theorem dX7_tieTold_4 : decode cX7_tieTold 4 = .ok (.aload_n 0, 1) := by decide +kernel
theorem dX7_tieTold_5 : decode cX7_tieTold 5 = .ok (.iconst 0, 1) := by decide +kernel
theorem dX7_tieTold_6 : decode cX7_tieTold 6 = .ok (.iload_n 2, 1) := by decide +kernel
theorem dX7_tieTold_7 : decode cX7_tieTold 7 = .ok (.iconst 1, 1) := by decide +kernel
theorem dX7_tieTold_8 : decode cX7_tieTold 8 = .ok (.isub, 1) := by decide +kernel
theorem dX7_tieTold_9 : decode cX7_tieTold 9 = .ok (.invokevirtual 189, 3) := by decide +kernel
theorem dX7_tieTold_12 : decode cX7_tieTold 12 = .ok (.ifCond .ne 5, 3) := by decide +kernel
theorem dX7_tieTold_15 : decode cX7_tieTold 15 = .ok (.iconst 0, 1) := by decide +kernel
theorem dX7_tieTold_16 : decode cX7_tieTold 16 = .ok (.ireturn, 1) := by decide +kernel
theorem dX7_tieTold_17 : decode cX7_tieTold 17 = .ok (.aload_n 0, 1) := by decide +kernel
theorem dX7_tieTold_18 : decode cX7_tieTold 18 = .ok (.getfield 180, 3) := by decide +kernel
theorem dX7_tieTold_21 : decode cX7_tieTold 21 = .ok (.istore_n 3, 1) := by decide +kernel
theorem dX7_tieTold_22 : decode cX7_tieTold 22 = .ok (.aload_n 0, 1) := by decide +kernel
theorem dX7_tieTold_23 : decode cX7_tieTold 23 = .ok (.getfield 141, 3) := by decide +kernel
theorem dX7_tieTold_26 : decode cX7_tieTold 26 = .ok (.iconst 2, 1) := by decide +kernel
theorem dX7_tieTold_27 : decode cX7_tieTold 27 = .ok (.if_icmp .ne 18, 3) := by decide +kernel
theorem dX7_tieTold_30 : decode cX7_tieTold 30 = .ok (.aload_n 0, 1) := by decide +kernel
theorem dX7_tieTold_31 : decode cX7_tieTold 31 = .ok (.getfield 137, 3) := by decide +kernel
theorem dX7_tieTold_34 : decode cX7_tieTold 34 = .ok (.iload_n 3, 1) := by decide +kernel
theorem dX7_tieTold_35 : decode cX7_tieTold 35 = .ok (.i2l, 1) := by decide +kernel
theorem dX7_tieTold_36 : decode cX7_tieTold 36 = .ok (.lcmp, 1) := by decide +kernel
theorem dX7_tieTold_37 : decode cX7_tieTold 37 = .ok (.ifCond .ne 8, 3) := by decide +kernel
theorem dX7_tieTold_40 : decode cX7_tieTold 40 = .ok (.aload_n 0, 1) := by decide +kernel
theorem dX7_tieTold_41 : decode cX7_tieTold 41 = .ok (.invokevirtual 173, 3) := by decide +kernel
theorem dX7_tieTold_44 : decode cX7_tieTold 44 = .ok (.ireturn, 1) := by decide +kernel
theorem dX7_tieTold_45 : decode cX7_tieTold 45 = .ok (.aload_n 0, 1) := by decide +kernel
theorem dX7_tieTold_46 : decode cX7_tieTold 46 = .ok (.iconst 0, 1) := by decide +kernel
theorem dX7_tieTold_47 : decode cX7_tieTold 47 = .ok (.iload_n 2, 1) := by decide +kernel
theorem dX7_tieTold_48 : decode cX7_tieTold 48 = .ok (.iconst 1, 1) := by decide +kernel
theorem dX7_tieTold_49 : decode cX7_tieTold 49 = .ok (.isub, 1) := by decide +kernel
theorem dX7_tieTold_50 : decode cX7_tieTold 50 = .ok (.invokevirtual 189, 3) := by decide +kernel
theorem dX7_tieTold_53 : decode cX7_tieTold 53 = .ok (.ifCond .ne 5, 3) := by decide +kernel
theorem dX7_tieTold_56 : decode cX7_tieTold 56 = .ok (.iconst 0, 1) := by decide +kernel
theorem dX7_tieTold_57 : decode cX7_tieTold 57 = .ok (.ireturn, 1) := by decide +kernel
theorem dX7_tieTold_58 : decode cX7_tieTold 58 = .ok (.aload_n 0, 1) := by decide +kernel
theorem dX7_tieTold_59 : decode cX7_tieTold 59 = .ok (.getfield 180, 3) := by decide +kernel
theorem dX7_tieTold_62 : decode cX7_tieTold 62 = .ok (.istore 4, 2) := by decide +kernel
theorem dX7_tieTold_64 : decode cX7_tieTold 64 = .ok (.iconst 0, 1) := by decide +kernel
theorem dX7_tieTold_65 : decode cX7_tieTold 65 = .ok (.istore 5, 2) := by decide +kernel
theorem dX7_tieTold_67 : decode cX7_tieTold 67 = .ok (.aload_n 0, 1) := by decide +kernel
theorem dX7_tieTold_68 : decode cX7_tieTold 68 = .ok (.ldc 211, 2) := by decide +kernel
theorem dX7_tieTold_70 : decode cX7_tieTold 70 = .ok (.invokevirtual 169, 3) := by decide +kernel
theorem dX7_tieTold_73 : decode cX7_tieTold 73 = .ok (.ifCond .eq 25, 3) := by decide +kernel
theorem dX7_tieTold_76 : decode cX7_tieTold 76 = .ok (.aload_n 0, 1) := by decide +kernel
theorem dX7_tieTold_77 : decode cX7_tieTold 77 = .ok (.invokevirtual 177, 3) := by decide +kernel
theorem dX7_tieTold_80 : decode cX7_tieTold 80 = .ok (.aload_n 0, 1) := by decide +kernel
theorem dX7_tieTold_81 : decode cX7_tieTold 81 = .ok (.iconst 0, 1) := by decide +kernel
theorem dX7_tieTold_82 : decode cX7_tieTold 82 = .ok (.bipush 9, 2) := by decide +kernel
theorem dX7_tieTold_84 : decode cX7_tieTold 84 = .ok (.invokevirtual 189, 3) := by decide +kernel
theorem dX7_tieTold_87 : decode cX7_tieTold 87 = .ok (.ifCond .ne 5, 3) := by decide +kernel
theorem dX7_tieTold_90 : decode cX7_tieTold 90 = .ok (.iconst 0, 1) := by decide +kernel
theorem dX7_tieTold_91 : decode cX7_tieTold 91 = .ok (.ireturn, 1) := by decide +kernel
theorem dX7_tieTold_92 : decode cX7_tieTold 92 = .ok (.aload_n 0, 1) := by decide +kernel
theorem dX7_tieTold_93 : decode cX7_tieTold 93 = .ok (.getfield 180, 3) := by decide +kernel
theorem dX7_tieTold_96 : decode cX7_tieTold 96 = .ok (.istore 5, 2) := by decide +kernel
theorem dX7_tieTold_98 : decode cX7_tieTold 98 = .ok (.aload_n 0, 1) := by decide +kernel
theorem dX7_tieTold_99 : decode cX7_tieTold 99 = .ok (.iload_n 1, 1) := by decide +kernel
theorem dX7_tieTold_100 : decode cX7_tieTold 100 = .ok (.iload_n 3, 1) := by decide +kernel
theorem dX7_tieTold_101 : decode cX7_tieTold 101 = .ok (.iload 4, 2) := by decide +kernel
theorem dX7_tieTold_103 : decode cX7_tieTold 103 = .ok (.iload 5, 2) := by decide +kernel
theorem dX7_tieTold_105 : decode cX7_tieTold 105 = .ok (.invokevirtual 183, 3) := by decide +kernel
theorem dX7_tieTold_108 : decode cX7_tieTold 108 = .ok (.iconst 1, 1) := by decide +kernel
theorem dX7_tieTold_109 : decode cX7_tieTold 109 = .ok (.ireturn, 1) := by decide +kernel
theorem dX7_read_0 : decode cX7_read 0 = .ok (.aload_n 0, 1) := by decide +kernel
theorem dX7_read_1 : decode cX7_read 1 = .ok (.getfield 43, 3) := by decide +kernel
theorem dX7_read_4 : decode cX7_read 4 = .ok (.iload_n 1, 1) := by decide +kernel
theorem dX7_read_5 : decode cX7_read 5 = .ok (.iconst 0, 1) := by decide +kernel
theorem dX7_read_6 : decode cX7_read 6 = .ok (.iastore, 1) := by decide +kernel
theorem dX7_read_7 : decode cX7_read 7 = .ok (.aload_n 0, 1) := by decide +kernel
theorem dX7_read_8 : decode cX7_read 8 = .ok (.getfield 46, 3) := by decide +kernel
theorem dX7_read_11 : decode cX7_read 11 = .ok (.iload_n 1, 1) := by decide +kernel
theorem dX7_read_12 : decode cX7_read 12 = .ok (.iconst 0, 1) := by decide +kernel
theorem dX7_read_13 : decode cX7_read 13 = .ok (.iastore, 1) := by decide +kernel
theorem dX7_read_14 : decode cX7_read 14 = .ok (.iconst 0, 1) := by decide +kernel
theorem dX7_read_15 : decode cX7_read 15 = .ok (.istore_n 2, 1) := by decide +kernel
theorem dX7_read_16 : decode cX7_read 16 = .ok (.iload_n 2, 1) := by decide +kernel
theorem dX7_read_17 : decode cX7_read 17 = .ok (.bipush 12, 2) := by decide +kernel
theorem dX7_read_19 : decode cX7_read 19 = .ok (.if_icmp .ge 15, 3) := by decide +kernel
theorem dX7_read_22 : decode cX7_read 22 = .ok (.aload_n 0, 1) := by decide +kernel
theorem dX7_read_23 : decode cX7_read 23 = .ok (.iload_n 1, 1) := by decide +kernel
theorem dX7_read_24 : decode cX7_read 24 = .ok (.iload_n 2, 1) := by decide +kernel
theorem dX7_read_25 : decode cX7_read 25 = .ok (.invokevirtual 212, 3) := by decide +kernel
theorem dX7_read_28 : decode cX7_read 28 = .ok (.iinc 2 1, 3) := by decide +kernel
theorem dX7_read_31 : decode cX7_read 31 = .ok (.goto (-15), 3) := by decide +kernel
theorem dX7_read_34 : decode cX7_read 34 = .ok (.aload_n 0, 1) := by decide +kernel
theorem dX7_read_35 : decode cX7_read 35 = .ok (.iconst 0, 1) := by decide +kernel
theorem dX7_read_36 : decode cX7_read 36 = .ok (.putfield 131, 3) := by decide +kernel
theorem dX7_read_39 : decode cX7_read 39 = .ok (.aload_n 0, 1) := by decide +kernel
theorem dX7_read_40 : decode cX7_read 40 = .ok (.invokevirtual 177, 3) := by decide +kernel
theorem dX7_read_43 : decode cX7_read 43 = .ok (.aload_n 0, 1) := by decide +kernel
theorem dX7_read_44 : decode cX7_read 44 = .ok (.ldc 216, 2) := by decide +kernel
theorem dX7_read_46 : decode cX7_read 46 = .ok (.invokevirtual 194, 3) := by decide +kernel
theorem dX7_read_49 : decode cX7_read 49 = .ok (.ifCond .eq 13, 3) := by decide +kernel
theorem dX7_read_52 : decode cX7_read 52 = .ok (.aload_n 0, 1) := by decide +kernel
theorem dX7_read_53 : decode cX7_read 53 = .ok (.iconst 1, 1) := by decide +kernel
theorem dX7_read_54 : decode cX7_read 54 = .ok (.bipush 12, 2) := by decide +kernel
theorem dX7_read_56 : decode cX7_read 56 = .ok (.invokevirtual 189, 3) := by decide +kernel
theorem dX7_read_59 : decode cX7_read 59 = .ok (.ifCond .ne 5, 3) := by decide +kernel
theorem dX7_read_62 : decode cX7_read 62 = .ok (.iconst 0, 1) := by decide +kernel
theorem dX7_read_63 : decode cX7_read 63 = .ok (.ireturn, 1) := by decide +kernel
theorem dX7_read_64 : decode cX7_read 64 = .ok (.aload_n 0, 1) := by decide +kernel
theorem dX7_read_65 : decode cX7_read 65 = .ok (.getfield 40, 3) := by decide +kernel
theorem dX7_read_68 : decode cX7_read 68 = .ok (.iload_n 1, 1) := by decide +kernel
theorem dX7_read_69 : decode cX7_read 69 = .ok (.aload_n 0, 1) := by decide +kernel
theorem dX7_read_70 : decode cX7_read 70 = .ok (.getfield 180, 3) := by decide +kernel
theorem dX7_read_73 : decode cX7_read 73 = .ok (.iastore, 1) := by decide +kernel
theorem dX7_read_74 : decode cX7_read 74 = .ok (.aload_n 0, 1) := by decide +kernel
theorem dX7_read_75 : decode cX7_read 75 = .ok (.getfield 141, 3) := by decide +kernel
theorem dX7_read_78 : decode cX7_read 78 = .ok (.ifCond .eq 30, 3) := by decide +kernel
theorem dX7_read_81 : decode cX7_read 81 = .ok (.aload_n 0, 1) := by decide +kernel
theorem dX7_read_82 : decode cX7_read 82 = .ok (.getfield 141, 3) := by decide +kernel
theorem dX7_read_85 : decode cX7_read 85 = .ok (.iconst 3, 1) := by decide +kernel
theorem dX7_read_86 : decode cX7_read 86 = .ok (.if_icmp .eq 8, 3) := by decide +kernel
theorem dX7_read_89 : decode cX7_read 89 = .ok (.aload_n 0, 1) := by decide +kernel
theorem dX7_read_90 : decode cX7_read 90 = .ok (.invokevirtual 173, 3) := by decide +kernel
theorem dX7_read_93 : decode cX7_read 93 = .ok (.ireturn, 1) := by decide +kernel
theorem dX7_read_94 : decode cX7_read 94 = .ok (.aload_n 0, 1) := by decide +kernel
theorem dX7_read_95 : decode cX7_read 95 = .ok (.invokevirtual 177, 3) := by decide +kernel
theorem dX7_read_98 : decode cX7_read 98 = .ok (.aload_n 0, 1) := by decide +kernel
theorem dX7_read_99 : decode cX7_read 99 = .ok (.iload_n 1, 1) := by decide +kernel
theorem dX7_read_100 : decode cX7_read 100 = .ok (.invokevirtual 217, 3) := by decide +kernel
theorem dX7_read_103 : decode cX7_read 103 = .ok (.ifCond .ne (-29), 3) := by decide +kernel
theorem dX7_read_106 : decode cX7_read 106 = .ok (.iconst 0, 1) := by decide +kernel
theorem dX7_read_107 : decode cX7_read 107 = .ok (.ireturn, 1) := by decide +kernel
theorem dX7_read_108 : decode cX7_read 108 = .ok (.iconst 1, 1) := by decide +kernel
theorem dX7_read_109 : decode cX7_read 109 = .ok (.ireturn, 1) := by decide +kernel
theorem dX7_empty_0 : decode cX7_empty 0 = .ok (.aload_n 0, 1) := by decide +kernel
theorem dX7_empty_1 : decode cX7_empty 1 = .ok (.getfield 51, 3) := by decide +kernel
theorem dX7_empty_4 : decode cX7_empty 4 = .ok (.iload_n 1, 1) := by decide +kernel
theorem dX7_empty_5 : decode cX7_empty 5 = .ok (.aaload, 1) := by decide +kernel
theorem dX7_empty_6 : decode cX7_empty 6 = .ok (.iload_n 2, 1) := by decide +kernel
theorem dX7_empty_7 : decode cX7_empty 7 = .ok (.iconst 0, 1) := by decide +kernel
theorem dX7_empty_8 : decode cX7_empty 8 = .ok (.iastore, 1) := by decide +kernel
theorem dX7_empty_9 : decode cX7_empty 9 = .ok (.aload_n 0, 1) := by decide +kernel
theorem dX7_empty_10 : decode cX7_empty 10 = .ok (.getfield 54, 3) := by decide +kernel
theorem dX7_empty_13 : decode cX7_empty 13 = .ok (.iload_n 1, 1) := by decide +kernel
theorem dX7_empty_14 : decode cX7_empty 14 = .ok (.aaload, 1) := by decide +kernel
theorem dX7_empty_15 : decode cX7_empty 15 = .ok (.iload_n 2, 1) := by decide +kernel
theorem dX7_empty_16 : decode cX7_empty 16 = .ok (.iconst 0, 1) := by decide +kernel
theorem dX7_empty_17 : decode cX7_empty 17 = .ok (.iastore, 1) := by decide +kernel
theorem dX7_empty_18 : decode cX7_empty 18 = .ok (.aload_n 0, 1) := by decide +kernel
theorem dX7_empty_19 : decode cX7_empty 19 = .ok (.getfield 57, 3) := by decide +kernel
theorem dX7_empty_22 : decode cX7_empty 22 = .ok (.iload_n 1, 1) := by decide +kernel
theorem dX7_empty_23 : decode cX7_empty 23 = .ok (.aaload, 1) := by decide +kernel
theorem dX7_empty_24 : decode cX7_empty 24 = .ok (.iload_n 2, 1) := by decide +kernel
theorem dX7_empty_25 : decode cX7_empty 25 = .ok (.iconst 0, 1) := by decide +kernel
theorem dX7_empty_26 : decode cX7_empty 26 = .ok (.iastore, 1) := by decide +kernel
theorem dX7_empty_27 : decode cX7_empty 27 = .ok (.aload_n 0, 1) := by decide +kernel
theorem dX7_empty_28 : decode cX7_empty 28 = .ok (.getfield 63, 3) := by decide +kernel
theorem dX7_empty_31 : decode cX7_empty 31 = .ok (.iload_n 1, 1) := by decide +kernel
theorem dX7_empty_32 : decode cX7_empty 32 = .ok (.aaload, 1) := by decide +kernel
theorem dX7_empty_33 : decode cX7_empty 33 = .ok (.iload_n 2, 1) := by decide +kernel
theorem dX7_empty_34 : decode cX7_empty 34 = .ok (.iconst 0, 1) := by decide +kernel
theorem dX7_empty_35 : decode cX7_empty 35 = .ok (.iastore, 1) := by decide +kernel
theorem dX7_empty_36 : decode cX7_empty 36 = .ok (.aload_n 0, 1) := by decide +kernel
theorem dX7_empty_37 : decode cX7_empty 37 = .ok (.getfield 66, 3) := by decide +kernel
theorem dX7_empty_40 : decode cX7_empty 40 = .ok (.iload_n 1, 1) := by decide +kernel
theorem dX7_empty_41 : decode cX7_empty 41 = .ok (.aaload, 1) := by decide +kernel
theorem dX7_empty_42 : decode cX7_empty 42 = .ok (.iload_n 2, 1) := by decide +kernel
theorem dX7_empty_43 : decode cX7_empty 43 = .ok (.iconst 0, 1) := by decide +kernel
theorem dX7_empty_44 : decode cX7_empty 44 = .ok (.iastore, 1) := by decide +kernel
theorem dX7_empty_45 : decode cX7_empty 45 = .ok (.iconst 0, 1) := by decide +kernel
theorem dX7_empty_46 : decode cX7_empty 46 = .ok (.istore_n 3, 1) := by decide +kernel
theorem dX7_empty_47 : decode cX7_empty 47 = .ok (.iload_n 3, 1) := by decide +kernel
theorem dX7_empty_48 : decode cX7_empty 48 = .ok (.bipush 12, 2) := by decide +kernel
theorem dX7_empty_50 : decode cX7_empty 50 = .ok (.if_icmp .ge 37, 3) := by decide +kernel
theorem dX7_empty_53 : decode cX7_empty 53 = .ok (.aload_n 0, 1) := by decide +kernel
theorem dX7_empty_54 : decode cX7_empty 54 = .ok (.getfield 60, 3) := by decide +kernel
theorem dX7_empty_57 : decode cX7_empty 57 = .ok (.iload_n 1, 1) := by decide +kernel
theorem dX7_empty_58 : decode cX7_empty 58 = .ok (.aaload, 1) := by decide +kernel
theorem dX7_empty_59 : decode cX7_empty 59 = .ok (.iload_n 2, 1) := by decide +kernel
theorem dX7_empty_60 : decode cX7_empty 60 = .ok (.bipush 12, 2) := by decide +kernel
theorem dX7_empty_62 : decode cX7_empty 62 = .ok (.imul, 1) := by decide +kernel
theorem dX7_empty_63 : decode cX7_empty 63 = .ok (.iload_n 3, 1) := by decide +kernel
theorem dX7_empty_64 : decode cX7_empty 64 = .ok (.iadd, 1) := by decide +kernel
theorem dX7_empty_65 : decode cX7_empty 65 = .ok (.iconst 0, 1) := by decide +kernel
theorem dX7_empty_66 : decode cX7_empty 66 = .ok (.iastore, 1) := by decide +kernel
theorem dX7_empty_67 : decode cX7_empty 67 = .ok (.aload_n 0, 1) := by decide +kernel
theorem dX7_empty_68 : decode cX7_empty 68 = .ok (.getfield 60, 3) := by decide +kernel
theorem dX7_empty_71 : decode cX7_empty 71 = .ok (.iload_n 1, 1) := by decide +kernel
theorem dX7_empty_72 : decode cX7_empty 72 = .ok (.aaload, 1) := by decide +kernel
theorem dX7_empty_73 : decode cX7_empty 73 = .ok (.iload_n 3, 1) := by decide +kernel
theorem dX7_empty_74 : decode cX7_empty 74 = .ok (.bipush 12, 2) := by decide +kernel
theorem dX7_empty_76 : decode cX7_empty 76 = .ok (.imul, 1) := by decide +kernel
theorem dX7_empty_77 : decode cX7_empty 77 = .ok (.iload_n 2, 1) := by decide +kernel
theorem dX7_empty_78 : decode cX7_empty 78 = .ok (.iadd, 1) := by decide +kernel
theorem dX7_empty_79 : decode cX7_empty 79 = .ok (.iconst 0, 1) := by decide +kernel
theorem dX7_empty_80 : decode cX7_empty 80 = .ok (.iastore, 1) := by decide +kernel
theorem dX7_empty_81 : decode cX7_empty 81 = .ok (.iinc 3 1, 3) := by decide +kernel
theorem dX7_empty_84 : decode cX7_empty 84 = .ok (.goto (-37), 3) := by decide +kernel
theorem dX7_empty_87 : decode cX7_empty 87 = .ok (.return_, 1) := by decide +kernel
theorem dX7_street_0 : decode cX7_street 0 = .ok (.aload_n 0, 1) := by decide +kernel
theorem dX7_street_1 : decode cX7_street 1 = .ok (.getfield 85, 3) := by decide +kernel
theorem dX7_street_4 : decode cX7_street 4 = .ok (.iconst 4, 1) := by decide +kernel
theorem dX7_street_5 : decode cX7_street 5 = .ok (.if_icmp .ne 10, 3) := by decide +kernel
theorem dX7_street_8 : decode cX7_street 8 = .ok (.aload_n 0, 1) := by decide +kernel
theorem dX7_street_9 : decode cX7_street 9 = .ok (.bipush (-6), 2) := by decide +kernel
theorem dX7_street_11 : decode cX7_street 11 = .ok (.invokevirtual 106, 3) := by decide +kernel
theorem dX7_street_14 : decode cX7_street 14 = .ok (.ireturn, 1) := by decide +kernel
theorem dX7_street_15 : decode cX7_street 15 = .ok (.aload_n 0, 1) := by decide +kernel
theorem dX7_street_16 : decode cX7_street 16 = .ok (.aload_n 0, 1) := by decide +kernel
theorem dX7_street_17 : decode cX7_street 17 = .ok (.getfield 85, 3) := by decide +kernel
theorem dX7_street_20 : decode cX7_street 20 = .ok (.invokevirtual 220, 3) := by decide +kernel
theorem dX7_street_23 : decode cX7_street 23 = .ok (.istore_n 1, 1) := by decide +kernel
theorem dX7_street_24 : decode cX7_street 24 = .ok (.aload_n 0, 1) := by decide +kernel
theorem dX7_street_25 : decode cX7_street 25 = .ok (.iconst 0, 1) := by decide +kernel
theorem dX7_street_26 : decode cX7_street 26 = .ok (.putfield 128, 3) := by decide +kernel
theorem dX7_street_29 : decode cX7_street 29 = .ok (.iload_n 1, 1) := by decide +kernel
theorem dX7_street_30 : decode cX7_street 30 = .ok (.ifCond .ne 18, 3) := by decide +kernel
theorem dX7_street_33 : decode cX7_street 33 = .ok (.aload_n 0, 1) := by decide +kernel
theorem dX7_street_34 : decode cX7_street 34 = .ok (.bipush (-2), 2) := by decide +kernel
theorem dX7_street_36 : decode cX7_street 36 = .ok (.invokevirtual 106, 3) := by decide +kernel
theorem dX7_street_39 : decode cX7_street 39 = .ok (.pop, 1) := by decide +kernel
theorem dX7_street_40 : decode cX7_street 40 = .ok (.bipush (-20), 2) := by decide +kernel
theorem dX7_street_42 : decode cX7_street 42 = .ok (.aload_n 0, 1) := by decide +kernel
theorem dX7_street_43 : decode cX7_street 43 = .ok (.getfield 156, 3) := by decide +kernel
theorem dX7_street_46 : decode cX7_street 46 = .ok (.isub, 1) := by decide +kernel
theorem dX7_street_47 : decode cX7_street 47 = .ok (.ireturn, 1) := by decide +kernel
theorem dX7_street_48 : decode cX7_street 48 = .ok (.aload_n 0, 1) := by decide +kernel
theorem dX7_street_49 : decode cX7_street 49 = .ok (.dup, 1) := by decide +kernel
theorem dX7_street_50 : decode cX7_street 50 = .ok (.getfield 85, 3) := by decide +kernel
theorem dX7_street_53 : decode cX7_street 53 = .ok (.dup_x1, 1) := by decide +kernel
theorem dX7_street_54 : decode cX7_street 54 = .ok (.iconst 1, 1) := by decide +kernel
theorem dX7_street_55 : decode cX7_street 55 = .ok (.iadd, 1) := by decide +kernel
theorem dX7_street_56 : decode cX7_street 56 = .ok (.putfield 85, 3) := by decide +kernel
theorem dX7_street_59 : decode cX7_street 59 = .ok (.ireturn, 1) := by decide +kernel
theorem dX7_bits_0 : decode cX7_bits 0 = .ok (.iconst 0, 1) := by decide +kernel
theorem dX7_bits_1 : decode cX7_bits 1 = .ok (.istore_n 1, 1) := by decide +kernel
theorem dX7_bits_2 : decode cX7_bits 2 = .ok (.iconst 0, 1) := by decide +kernel
theorem dX7_bits_3 : decode cX7_bits 3 = .ok (.istore_n 2, 1) := by decide +kernel
theorem dX7_bits_4 : decode cX7_bits 4 = .ok (.iload_n 2, 1) := by decide +kernel
theorem dX7_bits_5 : decode cX7_bits 5 = .ok (.bipush 32, 2) := by decide +kernel
theorem dX7_bits_7 : decode cX7_bits 7 = .ok (.if_icmp .ge 17, 3) := by decide +kernel
theorem dX7_bits_10 : decode cX7_bits 10 = .ok (.iload_n 1, 1) := by decide +kernel
theorem dX7_bits_11 : decode cX7_bits 11 = .ok (.iload_n 0, 1) := by decide +kernel
theorem dX7_bits_12 : decode cX7_bits 12 = .ok (.iload_n 2, 1) := by decide +kernel
theorem dX7_bits_13 : decode cX7_bits 13 = .ok (.ishr, 1) := by decide +kernel
theorem dX7_bits_14 : decode cX7_bits 14 = .ok (.iconst 1, 1) := by decide +kernel
theorem dX7_bits_15 : decode cX7_bits 15 = .ok (.iand, 1) := by decide +kernel
theorem dX7_bits_16 : decode cX7_bits 16 = .ok (.iadd, 1) := by decide +kernel
theorem dX7_bits_17 : decode cX7_bits 17 = .ok (.istore_n 1, 1) := by decide +kernel
theorem dX7_bits_18 : decode cX7_bits 18 = .ok (.iinc 2 1, 3) := by decide +kernel
theorem dX7_bits_21 : decode cX7_bits 21 = .ok (.goto (-17), 3) := by decide +kernel
theorem dX7_bits_24 : decode cX7_bits 24 = .ok (.iload_n 1, 1) := by decide +kernel
theorem dX7_bits_25 : decode cX7_bits 25 = .ok (.ireturn, 1) := by decide +kernel
theorem dX7_pricesOf_0 : decode cX7_pricesOf 0 = .ok (.iconst 0, 1) := by decide +kernel
theorem dX7_pricesOf_1 : decode cX7_pricesOf 1 = .ok (.istore_n 3, 1) := by decide +kernel
theorem dX7_pricesOf_2 : decode cX7_pricesOf 2 = .ok (.iconst 0, 1) := by decide +kernel
theorem dX7_pricesOf_3 : decode cX7_pricesOf 3 = .ok (.istore 4, 2) := by decide +kernel
theorem dX7_pricesOf_5 : decode cX7_pricesOf 5 = .ok (.iload 4, 2) := by decide +kernel
theorem dX7_pricesOf_7 : decode cX7_pricesOf 7 = .ok (.aload_n 0, 1) := by decide +kernel
theorem dX7_pricesOf_8 : decode cX7_pricesOf 8 = .ok (.getfield 40, 3) := by decide +kernel
theorem dX7_pricesOf_11 : decode cX7_pricesOf 11 = .ok (.iload_n 1, 1) := by decide +kernel
theorem dX7_pricesOf_12 : decode cX7_pricesOf 12 = .ok (.iaload, 1) := by decide +kernel
theorem dX7_pricesOf_13 : decode cX7_pricesOf 13 = .ok (.if_icmp .ge 46, 3) := by decide +kernel
theorem dX7_pricesOf_16 : decode cX7_pricesOf 16 = .ok (.iload_n 3, 1) := by decide +kernel
theorem dX7_pricesOf_17 : decode cX7_pricesOf 17 = .ok (.aload_n 0, 1) := by decide +kernel
theorem dX7_pricesOf_18 : decode cX7_pricesOf 18 = .ok (.getfield 57, 3) := by decide +kernel
theorem dX7_pricesOf_21 : decode cX7_pricesOf 21 = .ok (.iload_n 1, 1) := by decide +kernel
theorem dX7_pricesOf_22 : decode cX7_pricesOf 22 = .ok (.aaload, 1) := by decide +kernel
theorem dX7_pricesOf_23 : decode cX7_pricesOf 23 = .ok (.iload_n 2, 1) := by decide +kernel
theorem dX7_pricesOf_24 : decode cX7_pricesOf 24 = .ok (.iaload, 1) := by decide +kernel
theorem dX7_pricesOf_25 : decode cX7_pricesOf 25 = .ok (.iload 4, 2) := by decide +kernel
theorem dX7_pricesOf_27 : decode cX7_pricesOf 27 = .ok (.ishr, 1) := by decide +kernel
theorem dX7_pricesOf_28 : decode cX7_pricesOf 28 = .ok (.iconst 1, 1) := by decide +kernel
theorem dX7_pricesOf_29 : decode cX7_pricesOf 29 = .ok (.iand, 1) := by decide +kernel
theorem dX7_pricesOf_30 : decode cX7_pricesOf 30 = .ok (.ifCond .eq 20, 3) := by decide +kernel
theorem dX7_pricesOf_33 : decode cX7_pricesOf 33 = .ok (.aload_n 0, 1) := by decide +kernel
theorem dX7_pricesOf_34 : decode cX7_pricesOf 34 = .ok (.getfield 60, 3) := by decide +kernel
theorem dX7_pricesOf_37 : decode cX7_pricesOf 37 = .ok (.iload_n 1, 1) := by decide +kernel
theorem dX7_pricesOf_38 : decode cX7_pricesOf 38 = .ok (.aaload, 1) := by decide +kernel
theorem dX7_pricesOf_39 : decode cX7_pricesOf 39 = .ok (.iload_n 2, 1) := by decide +kernel
theorem dX7_pricesOf_40 : decode cX7_pricesOf 40 = .ok (.bipush 12, 2) := by decide +kernel
theorem dX7_pricesOf_42 : decode cX7_pricesOf 42 = .ok (.imul, 1) := by decide +kernel
theorem dX7_pricesOf_43 : decode cX7_pricesOf 43 = .ok (.iload 4, 2) := by decide +kernel
theorem dX7_pricesOf_45 : decode cX7_pricesOf 45 = .ok (.iadd, 1) := by decide +kernel
theorem dX7_pricesOf_46 : decode cX7_pricesOf 46 = .ok (.iaload, 1) := by decide +kernel
theorem dX7_pricesOf_47 : decode cX7_pricesOf 47 = .ok (.goto 4, 3) := by decide +kernel
theorem dX7_pricesOf_50 : decode cX7_pricesOf 50 = .ok (.iconst 0, 1) := by decide +kernel
theorem dX7_pricesOf_51 : decode cX7_pricesOf 51 = .ok (.iadd, 1) := by decide +kernel
theorem dX7_pricesOf_52 : decode cX7_pricesOf 52 = .ok (.istore_n 3, 1) := by decide +kernel
theorem dX7_pricesOf_53 : decode cX7_pricesOf 53 = .ok (.iinc 4 1, 3) := by decide +kernel
theorem dX7_pricesOf_56 : decode cX7_pricesOf 56 = .ok (.goto (-51), 3) := by decide +kernel
theorem dX7_pricesOf_59 : decode cX7_pricesOf 59 = .ok (.iload_n 3, 1) := by decide +kernel
theorem dX7_pricesOf_60 : decode cX7_pricesOf 60 = .ok (.ireturn, 1) := by decide +kernel
theorem dX7_streetOf_0 : decode cX7_streetOf 0 = .ok (.aload_n 0, 1) := by decide +kernel
theorem dX7_streetOf_1 : decode cX7_streetOf 1 = .ok (.iload_n 1, 1) := by decide +kernel
theorem dX7_streetOf_2 : decode cX7_streetOf 2 = .ok (.invokevirtual 92, 3) := by decide +kernel
theorem dX7_streetOf_5 : decode cX7_streetOf 5 = .ok (.ifCond .eq 15, 3) := by decide +kernel
theorem dX7_streetOf_8 : decode cX7_streetOf 8 = .ok (.iload_n 2, 1) := by decide +kernel
theorem dX7_streetOf_9 : decode cX7_streetOf 9 = .ok (.i2l, 1) := by decide +kernel
theorem dX7_streetOf_10 : decode cX7_streetOf 10 = .ok (.lconst 0, 1) := by decide +kernel
theorem dX7_streetOf_11 : decode cX7_streetOf 11 = .ok (.ldc2_w 102, 3) := by decide +kernel
theorem dX7_streetOf_14 : decode cX7_streetOf 14 = .ok (.invokestatic 88, 3) := by decide +kernel
theorem dX7_streetOf_17 : decode cX7_streetOf 17 = .ok (.ifCond .ne 10, 3) := by decide +kernel
theorem dX7_streetOf_20 : decode cX7_streetOf 20 = .ok (.aload_n 0, 1) := by decide +kernel
theorem dX7_streetOf_21 : decode cX7_streetOf 21 = .ok (.bipush (-2), 2) := by decide +kernel
theorem dX7_streetOf_23 : decode cX7_streetOf 23 = .ok (.invokevirtual 106, 3) := by decide +kernel
theorem dX7_streetOf_26 : decode cX7_streetOf 26 = .ok (.ireturn, 1) := by decide +kernel
theorem dX7_streetOf_27 : decode cX7_streetOf 27 = .ok (.iconst 0, 1) := by decide +kernel
theorem dX7_streetOf_28 : decode cX7_streetOf 28 = .ok (.istore_n 3, 1) := by decide +kernel
theorem dX7_streetOf_29 : decode cX7_streetOf 29 = .ok (.iconst 0, 1) := by decide +kernel
theorem dX7_streetOf_30 : decode cX7_streetOf 30 = .ok (.istore 4, 2) := by decide +kernel
theorem dX7_streetOf_32 : decode cX7_streetOf 32 = .ok (.iconst 0, 1) := by decide +kernel
theorem dX7_streetOf_33 : decode cX7_streetOf 33 = .ok (.istore 5, 2) := by decide +kernel
theorem dX7_streetOf_35 : decode cX7_streetOf 35 = .ok (.iload 5, 2) := by decide +kernel
theorem dX7_streetOf_37 : decode cX7_streetOf 37 = .ok (.aload_n 0, 1) := by decide +kernel
theorem dX7_streetOf_38 : decode cX7_streetOf 38 = .ok (.getfield 40, 3) := by decide +kernel
theorem dX7_streetOf_41 : decode cX7_streetOf 41 = .ok (.iload_n 1, 1) := by decide +kernel
theorem dX7_streetOf_42 : decode cX7_streetOf 42 = .ok (.iaload, 1) := by decide +kernel
theorem dX7_streetOf_43 : decode cX7_streetOf 43 = .ok (.if_icmp .ge 36, 3) := by decide +kernel
theorem dX7_streetOf_46 : decode cX7_streetOf 46 = .ok (.iload_n 3, 1) := by decide +kernel
theorem dX7_streetOf_47 : decode cX7_streetOf 47 = .ok (.aload_n 0, 1) := by decide +kernel
theorem dX7_streetOf_48 : decode cX7_streetOf 48 = .ok (.getfield 57, 3) := by decide +kernel
theorem dX7_streetOf_51 : decode cX7_streetOf 51 = .ok (.iload_n 1, 1) := by decide +kernel
theorem dX7_streetOf_52 : decode cX7_streetOf 52 = .ok (.aaload, 1) := by decide +kernel
theorem dX7_streetOf_53 : decode cX7_streetOf 53 = .ok (.iload 5, 2) := by decide +kernel
theorem dX7_streetOf_55 : decode cX7_streetOf 55 = .ok (.iaload, 1) := by decide +kernel
theorem dX7_streetOf_56 : decode cX7_streetOf 56 = .ok (.invokestatic 223, 3) := by decide +kernel
theorem dX7_streetOf_59 : decode cX7_streetOf 59 = .ok (.iadd, 1) := by decide +kernel
theorem dX7_streetOf_60 : decode cX7_streetOf 60 = .ok (.istore_n 3, 1) := by decide +kernel
theorem dX7_streetOf_61 : decode cX7_streetOf 61 = .ok (.iload 4, 2) := by decide +kernel
theorem dX7_streetOf_63 : decode cX7_streetOf 63 = .ok (.aload_n 0, 1) := by decide +kernel
theorem dX7_streetOf_64 : decode cX7_streetOf 64 = .ok (.iload_n 1, 1) := by decide +kernel
theorem dX7_streetOf_65 : decode cX7_streetOf 65 = .ok (.iload 5, 2) := by decide +kernel
theorem dX7_streetOf_67 : decode cX7_streetOf 67 = .ok (.invokevirtual 226, 3) := by decide +kernel
theorem dX7_streetOf_70 : decode cX7_streetOf 70 = .ok (.iadd, 1) := by decide +kernel
theorem dX7_streetOf_71 : decode cX7_streetOf 71 = .ok (.istore 4, 2) := by decide +kernel
theorem dX7_streetOf_73 : decode cX7_streetOf 73 = .ok (.iinc 5 1, 3) := by decide +kernel
theorem dX7_streetOf_76 : decode cX7_streetOf 76 = .ok (.goto (-41), 3) := by decide +kernel
theorem dX7_streetOf_79 : decode cX7_streetOf 79 = .ok (.iload_n 2, 1) := by decide +kernel
theorem dX7_streetOf_80 : decode cX7_streetOf 80 = .ok (.tableswitch 57 0 3 #[32, 39, 43, 50], 32) := by decide +kernel
theorem dX7_streetOf_112 : decode cX7_streetOf 112 = .ok (.aload_n 0, 1) := by decide +kernel
theorem dX7_streetOf_113 : decode cX7_streetOf 113 = .ok (.getfield 40, 3) := by decide +kernel
theorem dX7_streetOf_116 : decode cX7_streetOf 116 = .ok (.iload_n 1, 1) := by decide +kernel
theorem dX7_streetOf_117 : decode cX7_streetOf 117 = .ok (.iaload, 1) := by decide +kernel
theorem dX7_streetOf_118 : decode cX7_streetOf 118 = .ok (.ireturn, 1) := by decide +kernel
theorem dX7_streetOf_119 : decode cX7_streetOf 119 = .ok (.iload_n 3, 1) := by decide +kernel
theorem dX7_streetOf_120 : decode cX7_streetOf 120 = .ok (.iconst 2, 1) := by decide +kernel
theorem dX7_streetOf_121 : decode cX7_streetOf 121 = .ok (.idiv, 1) := by decide +kernel
theorem dX7_streetOf_122 : decode cX7_streetOf 122 = .ok (.ireturn, 1) := by decide +kernel
theorem dX7_streetOf_123 : decode cX7_streetOf 123 = .ok (.aload_n 0, 1) := by decide +kernel
theorem dX7_streetOf_124 : decode cX7_streetOf 124 = .ok (.getfield 43, 3) := by decide +kernel
theorem dX7_streetOf_127 : decode cX7_streetOf 127 = .ok (.iload_n 1, 1) := by decide +kernel
theorem dX7_streetOf_128 : decode cX7_streetOf 128 = .ok (.iaload, 1) := by decide +kernel
theorem dX7_streetOf_129 : decode cX7_streetOf 129 = .ok (.ireturn, 1) := by decide +kernel
theorem dX7_streetOf_130 : decode cX7_streetOf 130 = .ok (.aload_n 0, 1) := by decide +kernel
theorem dX7_streetOf_131 : decode cX7_streetOf 131 = .ok (.getfield 46, 3) := by decide +kernel
theorem dX7_streetOf_134 : decode cX7_streetOf 134 = .ok (.iload_n 1, 1) := by decide +kernel
theorem dX7_streetOf_135 : decode cX7_streetOf 135 = .ok (.iaload, 1) := by decide +kernel
theorem dX7_streetOf_136 : decode cX7_streetOf 136 = .ok (.ireturn, 1) := by decide +kernel
theorem dX7_streetOf_137 : decode cX7_streetOf 137 = .ok (.iload 4, 2) := by decide +kernel
theorem dX7_streetOf_139 : decode cX7_streetOf 139 = .ok (.iconst 2, 1) := by decide +kernel
theorem dX7_streetOf_140 : decode cX7_streetOf 140 = .ok (.idiv, 1) := by decide +kernel
theorem dX7_streetOf_141 : decode cX7_streetOf 141 = .ok (.ireturn, 1) := by decide +kernel
theorem dX7_personOf_0 : decode cX7_personOf 0 = .ok (.aload_n 0, 1) := by decide +kernel
theorem dX7_personOf_1 : decode cX7_personOf 1 = .ok (.iload_n 1, 1) := by decide +kernel
theorem dX7_personOf_2 : decode cX7_personOf 2 = .ok (.iload_n 2, 1) := by decide +kernel
theorem dX7_personOf_3 : decode cX7_personOf 3 = .ok (.invokevirtual 230, 3) := by decide +kernel
theorem dX7_personOf_6 : decode cX7_personOf 6 = .ok (.ifCond .eq 15, 3) := by decide +kernel
theorem dX7_personOf_9 : decode cX7_personOf 9 = .ok (.iload_n 3, 1) := by decide +kernel
theorem dX7_personOf_10 : decode cX7_personOf 10 = .ok (.i2l, 1) := by decide +kernel
theorem dX7_personOf_11 : decode cX7_personOf 11 = .ok (.lconst 0, 1) := by decide +kernel
theorem dX7_personOf_12 : decode cX7_personOf 12 = .ok (.ldc2_w 119, 3) := by decide +kernel
theorem dX7_personOf_15 : decode cX7_personOf 15 = .ok (.invokestatic 88, 3) := by decide +kernel
theorem dX7_personOf_18 : decode cX7_personOf 18 = .ok (.ifCond .ne 10, 3) := by decide +kernel
theorem dX7_personOf_21 : decode cX7_personOf 21 = .ok (.aload_n 0, 1) := by decide +kernel
theorem dX7_personOf_22 : decode cX7_personOf 22 = .ok (.bipush (-2), 2) := by decide +kernel
theorem dX7_personOf_24 : decode cX7_personOf 24 = .ok (.invokevirtual 106, 3) := by decide +kernel
theorem dX7_personOf_27 : decode cX7_personOf 27 = .ok (.ireturn, 1) := by decide +kernel
theorem dX7_personOf_28 : decode cX7_personOf 28 = .ok (.iload_n 3, 1) := by decide +kernel
theorem dX7_personOf_29 : decode cX7_personOf 29 = .ok (.tableswitch 97 0 4 #[35, 44, 53, 62, 73], 35) := by decide +kernel
theorem dX7_personOf_64 : decode cX7_personOf 64 = .ok (.aload_n 0, 1) := by decide +kernel
theorem dX7_personOf_65 : decode cX7_personOf 65 = .ok (.getfield 51, 3) := by decide +kernel
theorem dX7_personOf_68 : decode cX7_personOf 68 = .ok (.iload_n 1, 1) := by decide +kernel
theorem dX7_personOf_69 : decode cX7_personOf 69 = .ok (.aaload, 1) := by decide +kernel
theorem dX7_personOf_70 : decode cX7_personOf 70 = .ok (.iload_n 2, 1) := by decide +kernel
theorem dX7_personOf_71 : decode cX7_personOf 71 = .ok (.iaload, 1) := by decide +kernel
theorem dX7_personOf_72 : decode cX7_personOf 72 = .ok (.ireturn, 1) := by decide +kernel
theorem dX7_personOf_73 : decode cX7_personOf 73 = .ok (.aload_n 0, 1) := by decide +kernel
theorem dX7_personOf_74 : decode cX7_personOf 74 = .ok (.getfield 54, 3) := by decide +kernel
theorem dX7_personOf_77 : decode cX7_personOf 77 = .ok (.iload_n 1, 1) := by decide +kernel
theorem dX7_personOf_78 : decode cX7_personOf 78 = .ok (.aaload, 1) := by decide +kernel
theorem dX7_personOf_79 : decode cX7_personOf 79 = .ok (.iload_n 2, 1) := by decide +kernel
theorem dX7_personOf_80 : decode cX7_personOf 80 = .ok (.iaload, 1) := by decide +kernel
theorem dX7_personOf_81 : decode cX7_personOf 81 = .ok (.ireturn, 1) := by decide +kernel
theorem dX7_personOf_82 : decode cX7_personOf 82 = .ok (.aload_n 0, 1) := by decide +kernel
theorem dX7_personOf_83 : decode cX7_personOf 83 = .ok (.getfield 57, 3) := by decide +kernel
theorem dX7_personOf_86 : decode cX7_personOf 86 = .ok (.iload_n 1, 1) := by decide +kernel
theorem dX7_personOf_87 : decode cX7_personOf 87 = .ok (.aaload, 1) := by decide +kernel
theorem dX7_personOf_88 : decode cX7_personOf 88 = .ok (.iload_n 2, 1) := by decide +kernel
theorem dX7_personOf_89 : decode cX7_personOf 89 = .ok (.iaload, 1) := by decide +kernel
theorem dX7_personOf_90 : decode cX7_personOf 90 = .ok (.ireturn, 1) := by decide +kernel
theorem dX7_personOf_91 : decode cX7_personOf 91 = .ok (.aload_n 0, 1) := by decide +kernel
theorem dX7_personOf_92 : decode cX7_personOf 92 = .ok (.getfield 46, 3) := by decide +kernel
theorem dX7_personOf_95 : decode cX7_personOf 95 = .ok (.iload_n 1, 1) := by decide +kernel
theorem dX7_personOf_96 : decode cX7_personOf 96 = .ok (.iaload, 1) := by decide +kernel
theorem dX7_personOf_97 : decode cX7_personOf 97 = .ok (.iload_n 2, 1) := by decide +kernel
theorem dX7_personOf_98 : decode cX7_personOf 98 = .ok (.ishr, 1) := by decide +kernel
theorem dX7_personOf_99 : decode cX7_personOf 99 = .ok (.iconst 1, 1) := by decide +kernel
theorem dX7_personOf_100 : decode cX7_personOf 100 = .ok (.iand, 1) := by decide +kernel
theorem dX7_personOf_101 : decode cX7_personOf 101 = .ok (.ireturn, 1) := by decide +kernel
theorem dX7_personOf_102 : decode cX7_personOf 102 = .ok (.aload_n 0, 1) := by decide +kernel
theorem dX7_personOf_103 : decode cX7_personOf 103 = .ok (.getfield 63, 3) := by decide +kernel
theorem dX7_personOf_106 : decode cX7_personOf 106 = .ok (.iload_n 1, 1) := by decide +kernel
theorem dX7_personOf_107 : decode cX7_personOf 107 = .ok (.aaload, 1) := by decide +kernel
theorem dX7_personOf_108 : decode cX7_personOf 108 = .ok (.iload_n 2, 1) := by decide +kernel
theorem dX7_personOf_109 : decode cX7_personOf 109 = .ok (.iaload, 1) := by decide +kernel
theorem dX7_personOf_110 : decode cX7_personOf 110 = .ok (.ifCond .ne 7, 3) := by decide +kernel
theorem dX7_personOf_113 : decode cX7_personOf 113 = .ok (.iconst (-1), 1) := by decide +kernel
theorem dX7_personOf_114 : decode cX7_personOf 114 = .ok (.goto 11, 3) := by decide +kernel
theorem dX7_personOf_117 : decode cX7_personOf 117 = .ok (.aload_n 0, 1) := by decide +kernel
theorem dX7_personOf_118 : decode cX7_personOf 118 = .ok (.getfield 63, 3) := by decide +kernel
theorem dX7_personOf_121 : decode cX7_personOf 121 = .ok (.iload_n 1, 1) := by decide +kernel
theorem dX7_personOf_122 : decode cX7_personOf 122 = .ok (.aaload, 1) := by decide +kernel
theorem dX7_personOf_123 : decode cX7_personOf 123 = .ok (.iload_n 2, 1) := by decide +kernel
theorem dX7_personOf_124 : decode cX7_personOf 124 = .ok (.iaload, 1) := by decide +kernel
theorem dX7_personOf_125 : decode cX7_personOf 125 = .ok (.ireturn, 1) := by decide +kernel
theorem dX7_personOf_126 : decode cX7_personOf 126 = .ok (.aload_n 0, 1) := by decide +kernel
theorem dX7_personOf_127 : decode cX7_personOf 127 = .ok (.iload_n 1, 1) := by decide +kernel
theorem dX7_personOf_128 : decode cX7_personOf 128 = .ok (.iload_n 2, 1) := by decide +kernel
theorem dX7_personOf_129 : decode cX7_personOf 129 = .ok (.invokevirtual 226, 3) := by decide +kernel
theorem dX7_personOf_132 : decode cX7_personOf 132 = .ok (.ireturn, 1) := by decide +kernel
theorem dX7_alter_0 : decode cX7_alter 0 = .ok (.aload_n 0, 1) := by decide +kernel
theorem dX7_alter_1 : decode cX7_alter 1 = .ok (.iload_n 1, 1) := by decide +kernel
theorem dX7_alter_2 : decode cX7_alter 2 = .ok (.iload_n 2, 1) := by decide +kernel
theorem dX7_alter_3 : decode cX7_alter 3 = .ok (.invokevirtual 230, 3) := by decide +kernel
theorem dX7_alter_6 : decode cX7_alter 6 = .ok (.ifCond .eq 26, 3) := by decide +kernel
theorem dX7_alter_9 : decode cX7_alter 9 = .ok (.iload_n 3, 1) := by decide +kernel
theorem dX7_alter_10 : decode cX7_alter 10 = .ok (.i2l, 1) := by decide +kernel
theorem dX7_alter_11 : decode cX7_alter 11 = .ok (.lconst 0, 1) := by decide +kernel
theorem dX7_alter_12 : decode cX7_alter 12 = .ok (.lconst 1, 1) := by decide +kernel
theorem dX7_alter_13 : decode cX7_alter 13 = .ok (.invokestatic 88, 3) := by decide +kernel
theorem dX7_alter_16 : decode cX7_alter 16 = .ok (.ifCond .eq 16, 3) := by decide +kernel
theorem dX7_alter_19 : decode cX7_alter 19 = .ok (.iload 4, 2) := by decide +kernel
theorem dX7_alter_21 : decode cX7_alter 21 = .ok (.i2l, 1) := by decide +kernel
theorem dX7_alter_22 : decode cX7_alter 22 = .ok (.lconst 0, 1) := by decide +kernel
theorem dX7_alter_23 : decode cX7_alter 23 = .ok (.ldc2_w 233, 3) := by decide +kernel
theorem dX7_alter_26 : decode cX7_alter 26 = .ok (.invokestatic 88, 3) := by decide +kernel
theorem dX7_alter_29 : decode cX7_alter 29 = .ok (.ifCond .ne 10, 3) := by decide +kernel
theorem dX7_alter_32 : decode cX7_alter 32 = .ok (.aload_n 0, 1) := by decide +kernel
theorem dX7_alter_33 : decode cX7_alter 33 = .ok (.bipush (-2), 2) := by decide +kernel
theorem dX7_alter_35 : decode cX7_alter 35 = .ok (.invokevirtual 106, 3) := by decide +kernel
theorem dX7_alter_38 : decode cX7_alter 38 = .ok (.ireturn, 1) := by decide +kernel
theorem dX7_alter_39 : decode cX7_alter 39 = .ok (.iload_n 3, 1) := by decide +kernel
theorem dX7_alter_40 : decode cX7_alter 40 = .ok (.ifCond .ne 12, 3) := by decide +kernel
theorem dX7_alter_43 : decode cX7_alter 43 = .ok (.aload_n 0, 1) := by decide +kernel
theorem dX7_alter_44 : decode cX7_alter 44 = .ok (.getfield 51, 3) := by decide +kernel
theorem dX7_alter_47 : decode cX7_alter 47 = .ok (.iload_n 1, 1) := by decide +kernel
theorem dX7_alter_48 : decode cX7_alter 48 = .ok (.aaload, 1) := by decide +kernel
theorem dX7_alter_49 : decode cX7_alter 49 = .ok (.goto 9, 3) := by decide +kernel
theorem dX7_alter_52 : decode cX7_alter 52 = .ok (.aload_n 0, 1) := by decide +kernel
theorem dX7_alter_53 : decode cX7_alter 53 = .ok (.getfield 54, 3) := by decide +kernel
theorem dX7_alter_56 : decode cX7_alter 56 = .ok (.iload_n 1, 1) := by decide +kernel
theorem dX7_alter_57 : decode cX7_alter 57 = .ok (.aaload, 1) := by decide +kernel
theorem dX7_alter_58 : decode cX7_alter 58 = .ok (.astore 5, 2) := by decide +kernel
theorem dX7_alter_60 : decode cX7_alter 60 = .ok (.aload 5, 2) := by decide +kernel
theorem dX7_alter_62 : decode cX7_alter 62 = .ok (.iload_n 2, 1) := by decide +kernel
theorem dX7_alter_63 : decode cX7_alter 63 = .ok (.iaload, 1) := by decide +kernel
theorem dX7_alter_64 : decode cX7_alter 64 = .ok (.istore 6, 2) := by decide +kernel
theorem dX7_alter_66 : decode cX7_alter 66 = .ok (.aload 5, 2) := by decide +kernel
theorem dX7_alter_68 : decode cX7_alter 68 = .ok (.iload_n 2, 1) := by decide +kernel
theorem dX7_alter_69 : decode cX7_alter 69 = .ok (.iload 4, 2) := by decide +kernel
theorem dX7_alter_71 : decode cX7_alter 71 = .ok (.iastore, 1) := by decide +kernel
theorem dX7_alter_72 : decode cX7_alter 72 = .ok (.iload 6, 2) := by decide +kernel
theorem dX7_alter_74 : decode cX7_alter 74 = .ok (.ireturn, 1) := by decide +kernel
theorem dX7_tie_0 : decode cX7_tie 0 = .ok (.aload_n 0, 1) := by decide +kernel
theorem dX7_tie_1 : decode cX7_tie 1 = .ok (.iload_n 1, 1) := by decide +kernel
theorem dX7_tie_2 : decode cX7_tie 2 = .ok (.iload_n 2, 1) := by decide +kernel
theorem dX7_tie_3 : decode cX7_tie 3 = .ok (.invokevirtual 230, 3) := by decide +kernel
theorem dX7_tie_6 : decode cX7_tie 6 = .ok (.ifCond .eq 32, 3) := by decide +kernel
theorem dX7_tie_9 : decode cX7_tie 9 = .ok (.aload_n 0, 1) := by decide +kernel
theorem dX7_tie_10 : decode cX7_tie 10 = .ok (.iload_n 1, 1) := by decide +kernel
theorem dX7_tie_11 : decode cX7_tie 11 = .ok (.iload_n 3, 1) := by decide +kernel
theorem dX7_tie_12 : decode cX7_tie 12 = .ok (.invokevirtual 230, 3) := by decide +kernel
theorem dX7_tie_15 : decode cX7_tie 15 = .ok (.ifCond .eq 23, 3) := by decide +kernel
theorem dX7_tie_18 : decode cX7_tie 18 = .ok (.iload_n 2, 1) := by decide +kernel
theorem dX7_tie_19 : decode cX7_tie 19 = .ok (.iload_n 3, 1) := by decide +kernel
theorem dX7_tie_20 : decode cX7_tie 20 = .ok (.if_icmp .eq 18, 3) := by decide +kernel
theorem dX7_tie_23 : decode cX7_tie 23 = .ok (.iload 4, 2) := by decide +kernel
theorem dX7_tie_25 : decode cX7_tie 25 = .ok (.i2l, 1) := by decide +kernel
theorem dX7_tie_26 : decode cX7_tie 26 = .ok (.ldc2_w 235, 3) := by decide +kernel
theorem dX7_tie_29 : decode cX7_tie 29 = .ok (.ldc2_w 117, 3) := by decide +kernel
theorem dX7_tie_32 : decode cX7_tie 32 = .ok (.invokestatic 88, 3) := by decide +kernel
theorem dX7_tie_35 : decode cX7_tie 35 = .ok (.ifCond .ne 10, 3) := by decide +kernel
theorem dX7_tie_38 : decode cX7_tie 38 = .ok (.aload_n 0, 1) := by decide +kernel
theorem dX7_tie_39 : decode cX7_tie 39 = .ok (.bipush (-2), 2) := by decide +kernel
theorem dX7_tie_41 : decode cX7_tie 41 = .ok (.invokevirtual 106, 3) := by decide +kernel
theorem dX7_tie_44 : decode cX7_tie 44 = .ok (.ireturn, 1) := by decide +kernel
theorem dX7_tie_45 : decode cX7_tie 45 = .ok (.aload_n 0, 1) := by decide +kernel
theorem dX7_tie_46 : decode cX7_tie 46 = .ok (.getfield 57, 3) := by decide +kernel
theorem dX7_tie_49 : decode cX7_tie 49 = .ok (.iload_n 1, 1) := by decide +kernel
theorem dX7_tie_50 : decode cX7_tie 50 = .ok (.aaload, 1) := by decide +kernel
theorem dX7_tie_51 : decode cX7_tie 51 = .ok (.iload_n 2, 1) := by decide +kernel
theorem dX7_tie_52 : decode cX7_tie 52 = .ok (.iaload, 1) := by decide +kernel
theorem dX7_tie_53 : decode cX7_tie 53 = .ok (.iload_n 3, 1) := by decide +kernel
theorem dX7_tie_54 : decode cX7_tie 54 = .ok (.ishr, 1) := by decide +kernel
theorem dX7_tie_55 : decode cX7_tie 55 = .ok (.iconst 1, 1) := by decide +kernel
theorem dX7_tie_56 : decode cX7_tie 56 = .ok (.iand, 1) := by decide +kernel
theorem dX7_tie_57 : decode cX7_tie 57 = .ok (.ifCond .eq 19, 3) := by decide +kernel
theorem dX7_tie_60 : decode cX7_tie 60 = .ok (.aload_n 0, 1) := by decide +kernel
theorem dX7_tie_61 : decode cX7_tie 61 = .ok (.getfield 60, 3) := by decide +kernel
theorem dX7_tie_64 : decode cX7_tie 64 = .ok (.iload_n 1, 1) := by decide +kernel
theorem dX7_tie_65 : decode cX7_tie 65 = .ok (.aaload, 1) := by decide +kernel
theorem dX7_tie_66 : decode cX7_tie 66 = .ok (.iload_n 2, 1) := by decide +kernel
theorem dX7_tie_67 : decode cX7_tie 67 = .ok (.bipush 12, 2) := by decide +kernel
theorem dX7_tie_69 : decode cX7_tie 69 = .ok (.imul, 1) := by decide +kernel
theorem dX7_tie_70 : decode cX7_tie 70 = .ok (.iload_n 3, 1) := by decide +kernel
theorem dX7_tie_71 : decode cX7_tie 71 = .ok (.iadd, 1) := by decide +kernel
theorem dX7_tie_72 : decode cX7_tie 72 = .ok (.iaload, 1) := by decide +kernel
theorem dX7_tie_73 : decode cX7_tie 73 = .ok (.goto 4, 3) := by decide +kernel
theorem dX7_tie_76 : decode cX7_tie 76 = .ok (.iconst (-1), 1) := by decide +kernel
theorem dX7_tie_77 : decode cX7_tie 77 = .ok (.istore 5, 2) := by decide +kernel
theorem dX7_tie_79 : decode cX7_tie 79 = .ok (.aload_n 0, 1) := by decide +kernel
theorem dX7_tie_80 : decode cX7_tie 80 = .ok (.iload_n 1, 1) := by decide +kernel
theorem dX7_tie_81 : decode cX7_tie 81 = .ok (.iload_n 2, 1) := by decide +kernel
theorem dX7_tie_82 : decode cX7_tie 82 = .ok (.iload_n 3, 1) := by decide +kernel
theorem dX7_tie_83 : decode cX7_tie 83 = .ok (.iload 4, 2) := by decide +kernel
theorem dX7_tie_85 : decode cX7_tie 85 = .ok (.iconst (-1), 1) := by decide +kernel
theorem dX7_tie_86 : decode cX7_tie 86 = .ok (.if_icmp .ne 7, 3) := by decide +kernel
theorem dX7_tie_89 : decode cX7_tie 89 = .ok (.iconst 0, 1) := by decide +kernel
theorem dX7_tie_90 : decode cX7_tie 90 = .ok (.goto 5, 3) := by decide +kernel
theorem dX7_tie_93 : decode cX7_tie 93 = .ok (.iload 4, 2) := by decide +kernel
theorem dX7_tie_95 : decode cX7_tie 95 = .ok (.invokevirtual 183, 3) := by decide +kernel
theorem dX7_tie_98 : decode cX7_tie 98 = .ok (.iload 4, 2) := by decide +kernel
theorem dX7_tie_100 : decode cX7_tie 100 = .ok (.iconst (-1), 1) := by decide +kernel
theorem dX7_tie_101 : decode cX7_tie 101 = .ok (.if_icmp .ne 35, 3) := by decide +kernel
theorem dX7_tie_104 : decode cX7_tie 104 = .ok (.aload_n 0, 1) := by decide +kernel
theorem dX7_tie_105 : decode cX7_tie 105 = .ok (.getfield 57, 3) := by decide +kernel
theorem dX7_tie_108 : decode cX7_tie 108 = .ok (.iload_n 1, 1) := by decide +kernel
theorem dX7_tie_109 : decode cX7_tie 109 = .ok (.aaload, 1) := by decide +kernel
theorem dX7_tie_110 : decode cX7_tie 110 = .ok (.iload_n 2, 1) := by decide +kernel
theorem dX7_tie_111 : decode cX7_tie 111 = .ok (.dup2, 1) := by decide +kernel
theorem dX7_tie_112 : decode cX7_tie 112 = .ok (.iaload, 1) := by decide +kernel
theorem dX7_tie_113 : decode cX7_tie 113 = .ok (.iconst 1, 1) := by decide +kernel
theorem dX7_tie_114 : decode cX7_tie 114 = .ok (.iload_n 3, 1) := by decide +kernel
theorem dX7_tie_115 : decode cX7_tie 115 = .ok (.ishl, 1) := by decide +kernel
theorem dX7_tie_116 : decode cX7_tie 116 = .ok (.iconst (-1), 1) := by decide +kernel
theorem dX7_tie_117 : decode cX7_tie 117 = .ok (.ixor, 1) := by decide +kernel
theorem dX7_tie_118 : decode cX7_tie 118 = .ok (.iand, 1) := by decide +kernel
theorem dX7_tie_119 : decode cX7_tie 119 = .ok (.iastore, 1) := by decide +kernel
theorem dX7_tie_120 : decode cX7_tie 120 = .ok (.aload_n 0, 1) := by decide +kernel
theorem dX7_tie_121 : decode cX7_tie 121 = .ok (.getfield 57, 3) := by decide +kernel
theorem dX7_tie_124 : decode cX7_tie 124 = .ok (.iload_n 1, 1) := by decide +kernel
theorem dX7_tie_125 : decode cX7_tie 125 = .ok (.aaload, 1) := by decide +kernel
theorem dX7_tie_126 : decode cX7_tie 126 = .ok (.iload_n 3, 1) := by decide +kernel
theorem dX7_tie_127 : decode cX7_tie 127 = .ok (.dup2, 1) := by decide +kernel
theorem dX7_tie_128 : decode cX7_tie 128 = .ok (.iaload, 1) := by decide +kernel
theorem dX7_tie_129 : decode cX7_tie 129 = .ok (.iconst 1, 1) := by decide +kernel
theorem dX7_tie_130 : decode cX7_tie 130 = .ok (.iload_n 2, 1) := by decide +kernel
theorem dX7_tie_131 : decode cX7_tie 131 = .ok (.ishl, 1) := by decide +kernel
theorem dX7_tie_132 : decode cX7_tie 132 = .ok (.iconst (-1), 1) := by decide +kernel
theorem dX7_tie_133 : decode cX7_tie 133 = .ok (.ixor, 1) := by decide +kernel
theorem dX7_tie_134 : decode cX7_tie 134 = .ok (.iand, 1) := by decide +kernel
theorem dX7_tie_135 : decode cX7_tie 135 = .ok (.iastore, 1) := by decide +kernel
theorem dX7_tie_136 : decode cX7_tie 136 = .ok (.iload 5, 2) := by decide +kernel
theorem dX7_tie_138 : decode cX7_tie 138 = .ok (.ireturn, 1) := by decide +kernel
theorem dX7_must_0 : decode cX7_must 0 = .ok (.aload_n 0, 1) := by decide +kernel
theorem dX7_must_1 : decode cX7_must 1 = .ok (.iload_n 1, 1) := by decide +kernel
theorem dX7_must_2 : decode cX7_must 2 = .ok (.iload_n 2, 1) := by decide +kernel
theorem dX7_must_3 : decode cX7_must 3 = .ok (.invokevirtual 230, 3) := by decide +kernel
theorem dX7_must_6 : decode cX7_must 6 = .ok (.ifCond .ne 10, 3) := by decide +kernel
theorem dX7_must_9 : decode cX7_must 9 = .ok (.aload_n 0, 1) := by decide +kernel
theorem dX7_must_10 : decode cX7_must 10 = .ok (.bipush (-2), 2) := by decide +kernel
theorem dX7_must_12 : decode cX7_must 12 = .ok (.invokevirtual 106, 3) := by decide +kernel
theorem dX7_must_15 : decode cX7_must 15 = .ok (.ireturn, 1) := by decide +kernel
theorem dX7_must_16 : decode cX7_must 16 = .ok (.aload_n 0, 1) := by decide +kernel
theorem dX7_must_17 : decode cX7_must 17 = .ok (.getfield 46, 3) := by decide +kernel
theorem dX7_must_20 : decode cX7_must 20 = .ok (.iload_n 1, 1) := by decide +kernel
theorem dX7_must_21 : decode cX7_must 21 = .ok (.iaload, 1) := by decide +kernel
theorem dX7_must_22 : decode cX7_must 22 = .ok (.iload_n 2, 1) := by decide +kernel
theorem dX7_must_23 : decode cX7_must 23 = .ok (.ishr, 1) := by decide +kernel
theorem dX7_must_24 : decode cX7_must 24 = .ok (.iconst 1, 1) := by decide +kernel
theorem dX7_must_25 : decode cX7_must 25 = .ok (.iand, 1) := by decide +kernel
theorem dX7_must_26 : decode cX7_must 26 = .ok (.istore 4, 2) := by decide +kernel
theorem dX7_must_28 : decode cX7_must 28 = .ok (.aload_n 0, 1) := by decide +kernel
theorem dX7_must_29 : decode cX7_must 29 = .ok (.getfield 46, 3) := by decide +kernel
theorem dX7_must_32 : decode cX7_must 32 = .ok (.iload_n 1, 1) := by decide +kernel
theorem dX7_must_33 : decode cX7_must 33 = .ok (.iload_n 3, 1) := by decide +kernel
theorem dX7_must_34 : decode cX7_must 34 = .ok (.ifCond .eq 16, 3) := by decide +kernel
theorem dX7_must_37 : decode cX7_must 37 = .ok (.aload_n 0, 1) := by decide +kernel
theorem dX7_must_38 : decode cX7_must 38 = .ok (.getfield 46, 3) := by decide +kernel
theorem dX7_must_41 : decode cX7_must 41 = .ok (.iload_n 1, 1) := by decide +kernel
theorem dX7_must_42 : decode cX7_must 42 = .ok (.iaload, 1) := by decide +kernel
theorem dX7_must_43 : decode cX7_must 43 = .ok (.iconst 1, 1) := by decide +kernel
theorem dX7_must_44 : decode cX7_must 44 = .ok (.iload_n 2, 1) := by decide +kernel
theorem dX7_must_45 : decode cX7_must 45 = .ok (.ishl, 1) := by decide +kernel
theorem dX7_must_46 : decode cX7_must 46 = .ok (.ior, 1) := by decide +kernel
theorem dX7_must_47 : decode cX7_must 47 = .ok (.goto 15, 3) := by decide +kernel
theorem dX7_must_50 : decode cX7_must 50 = .ok (.aload_n 0, 1) := by decide +kernel
theorem dX7_must_51 : decode cX7_must 51 = .ok (.getfield 46, 3) := by decide +kernel
theorem dX7_must_54 : decode cX7_must 54 = .ok (.iload_n 1, 1) := by decide +kernel
theorem dX7_must_55 : decode cX7_must 55 = .ok (.iaload, 1) := by decide +kernel
theorem dX7_must_56 : decode cX7_must 56 = .ok (.iconst 1, 1) := by decide +kernel
theorem dX7_must_57 : decode cX7_must 57 = .ok (.iload_n 2, 1) := by decide +kernel
theorem dX7_must_58 : decode cX7_must 58 = .ok (.ishl, 1) := by decide +kernel
theorem dX7_must_59 : decode cX7_must 59 = .ok (.iconst (-1), 1) := by decide +kernel
theorem dX7_must_60 : decode cX7_must 60 = .ok (.ixor, 1) := by decide +kernel
theorem dX7_must_61 : decode cX7_must 61 = .ok (.iand, 1) := by decide +kernel
theorem dX7_must_62 : decode cX7_must 62 = .ok (.iastore, 1) := by decide +kernel
theorem dX7_must_63 : decode cX7_must 63 = .ok (.iload 4, 2) := by decide +kernel
theorem dX7_must_65 : decode cX7_must 65 = .ok (.ireturn, 1) := by decide +kernel
theorem dX7_take_0 : decode cX7_take 0 = .ok (.aload_n 0, 1) := by decide +kernel
theorem dX7_take_1 : decode cX7_take 1 = .ok (.iload_n 1, 1) := by decide +kernel
theorem dX7_take_2 : decode cX7_take 2 = .ok (.iload_n 2, 1) := by decide +kernel
theorem dX7_take_3 : decode cX7_take 3 = .ok (.invokevirtual 230, 3) := by decide +kernel
theorem dX7_take_6 : decode cX7_take 6 = .ok (.ifCond .eq 17, 3) := by decide +kernel
theorem dX7_take_9 : decode cX7_take 9 = .ok (.iload_n 3, 1) := by decide +kernel
theorem dX7_take_10 : decode cX7_take 10 = .ok (.i2l, 1) := by decide +kernel
theorem dX7_take_11 : decode cX7_take 11 = .ok (.ldc2_w 235, 3) := by decide +kernel
theorem dX7_take_14 : decode cX7_take 14 = .ok (.ldc2_w 100, 3) := by decide +kernel
theorem dX7_take_17 : decode cX7_take 17 = .ok (.invokestatic 88, 3) := by decide +kernel
theorem dX7_take_20 : decode cX7_take 20 = .ok (.ifCond .ne 10, 3) := by decide +kernel
theorem dX7_take_23 : decode cX7_take 23 = .ok (.aload_n 0, 1) := by decide +kernel
theorem dX7_take_24 : decode cX7_take 24 = .ok (.bipush (-2), 2) := by decide +kernel
theorem dX7_take_26 : decode cX7_take 26 = .ok (.invokevirtual 106, 3) := by decide +kernel
theorem dX7_take_29 : decode cX7_take 29 = .ok (.ireturn, 1) := by decide +kernel
theorem dX7_take_30 : decode cX7_take 30 = .ok (.iload_n 3, 1) := by decide +kernel
theorem dX7_take_31 : decode cX7_take 31 = .ok (.iconst (-1), 1) := by decide +kernel
theorem dX7_take_32 : decode cX7_take 32 = .ok (.if_icmp .ne 14, 3) := by decide +kernel
theorem dX7_take_35 : decode cX7_take 35 = .ok (.aload_n 0, 1) := by decide +kernel
theorem dX7_take_36 : decode cX7_take 36 = .ok (.getfield 63, 3) := by decide +kernel
theorem dX7_take_39 : decode cX7_take 39 = .ok (.iload_n 1, 1) := by decide +kernel
theorem dX7_take_40 : decode cX7_take 40 = .ok (.aaload, 1) := by decide +kernel
theorem dX7_take_41 : decode cX7_take 41 = .ok (.iload_n 2, 1) := by decide +kernel
theorem dX7_take_42 : decode cX7_take 42 = .ok (.iconst 0, 1) := by decide +kernel
theorem dX7_take_43 : decode cX7_take 43 = .ok (.iastore, 1) := by decide +kernel
theorem dX7_take_44 : decode cX7_take 44 = .ok (.iconst 1, 1) := by decide +kernel
theorem dX7_take_45 : decode cX7_take 45 = .ok (.ireturn, 1) := by decide +kernel
theorem dX7_take_46 : decode cX7_take 46 = .ok (.aload_n 0, 1) := by decide +kernel
theorem dX7_take_47 : decode cX7_take 47 = .ok (.getfield 7, 3) := by decide +kernel
theorem dX7_take_50 : decode cX7_take 50 = .ok (.iload_n 3, 1) := by decide +kernel
theorem dX7_take_51 : decode cX7_take 51 = .ok (.iaload, 1) := by decide +kernel
theorem dX7_take_52 : decode cX7_take 52 = .ok (.iconst 1, 1) := by decide +kernel
theorem dX7_take_53 : decode cX7_take 53 = .ok (.if_icmp .ne 10, 3) := by decide +kernel
theorem dX7_take_56 : decode cX7_take 56 = .ok (.aload_n 0, 1) := by decide +kernel
theorem dX7_take_57 : decode cX7_take 57 = .ok (.bipush (-3), 2) := by decide +kernel
theorem dX7_take_59 : decode cX7_take 59 = .ok (.invokevirtual 106, 3) := by decide +kernel
theorem dX7_take_62 : decode cX7_take 62 = .ok (.ireturn, 1) := by decide +kernel
theorem dX7_take_63 : decode cX7_take 63 = .ok (.aload_n 0, 1) := by decide +kernel
theorem dX7_take_64 : decode cX7_take 64 = .ok (.getfield 7, 3) := by decide +kernel
theorem dX7_take_67 : decode cX7_take 67 = .ok (.iload_n 3, 1) := by decide +kernel
theorem dX7_take_68 : decode cX7_take 68 = .ok (.iaload, 1) := by decide +kernel
theorem dX7_take_69 : decode cX7_take 69 = .ok (.ifCond .ne 10, 3) := by decide +kernel
theorem dX7_take_72 : decode cX7_take 72 = .ok (.aload_n 0, 1) := by decide +kernel
theorem dX7_take_73 : decode cX7_take 73 = .ok (.bipush (-4), 2) := by decide +kernel
theorem dX7_take_75 : decode cX7_take 75 = .ok (.invokevirtual 106, 3) := by decide +kernel
theorem dX7_take_78 : decode cX7_take 78 = .ok (.ireturn, 1) := by decide +kernel
theorem dX7_take_79 : decode cX7_take 79 = .ok (.aload_n 0, 1) := by decide +kernel
theorem dX7_take_80 : decode cX7_take 80 = .ok (.getfield 63, 3) := by decide +kernel
theorem dX7_take_83 : decode cX7_take 83 = .ok (.iload_n 1, 1) := by decide +kernel
theorem dX7_take_84 : decode cX7_take 84 = .ok (.aaload, 1) := by decide +kernel
theorem dX7_take_85 : decode cX7_take 85 = .ok (.iload_n 2, 1) := by decide +kernel
theorem dX7_take_86 : decode cX7_take 86 = .ok (.aload_n 0, 1) := by decide +kernel
theorem dX7_take_87 : decode cX7_take 87 = .ok (.getfield 24, 3) := by decide +kernel
theorem dX7_take_90 : decode cX7_take 90 = .ok (.iload_n 3, 1) := by decide +kernel
theorem dX7_take_91 : decode cX7_take 91 = .ok (.iaload, 1) := by decide +kernel
theorem dX7_take_92 : decode cX7_take 92 = .ok (.iastore, 1) := by decide +kernel
theorem dX7_take_93 : decode cX7_take 93 = .ok (.aload_n 0, 1) := by decide +kernel
theorem dX7_take_94 : decode cX7_take 94 = .ok (.getfield 66, 3) := by decide +kernel
theorem dX7_take_97 : decode cX7_take 97 = .ok (.iload_n 1, 1) := by decide +kernel
theorem dX7_take_98 : decode cX7_take 98 = .ok (.aaload, 1) := by decide +kernel
theorem dX7_take_99 : decode cX7_take 99 = .ok (.iload_n 2, 1) := by decide +kernel
theorem dX7_take_100 : decode cX7_take 100 = .ok (.aload_n 0, 1) := by decide +kernel
theorem dX7_take_101 : decode cX7_take 101 = .ok (.getfield 27, 3) := by decide +kernel
theorem dX7_take_104 : decode cX7_take 104 = .ok (.iload_n 3, 1) := by decide +kernel
theorem dX7_take_105 : decode cX7_take 105 = .ok (.iaload, 1) := by decide +kernel
theorem dX7_take_106 : decode cX7_take 106 = .ok (.iastore, 1) := by decide +kernel
theorem dX7_take_107 : decode cX7_take 107 = .ok (.iconst 1, 1) := by decide +kernel
theorem dX7_take_108 : decode cX7_take 108 = .ok (.ireturn, 1) := by decide +kernel
theorem dX7_come_0 : decode cX7_come 0 = .ok (.aload_n 0, 1) := by decide +kernel
theorem dX7_come_1 : decode cX7_come 1 = .ok (.iload_n 1, 1) := by decide +kernel
theorem dX7_come_2 : decode cX7_come 2 = .ok (.iload_n 2, 1) := by decide +kernel
theorem dX7_come_3 : decode cX7_come 3 = .ok (.i2l, 1) := by decide +kernel
theorem dX7_come_4 : decode cX7_come 4 = .ok (.invokevirtual 237, 3) := by decide +kernel
theorem dX7_come_7 : decode cX7_come 7 = .ok (.ifCond .eq 28, 3) := by decide +kernel
theorem dX7_come_10 : decode cX7_come 10 = .ok (.iload_n 3, 1) := by decide +kernel
theorem dX7_come_11 : decode cX7_come 11 = .ok (.i2l, 1) := by decide +kernel
theorem dX7_come_12 : decode cX7_come 12 = .ok (.lconst 0, 1) := by decide +kernel
theorem dX7_come_13 : decode cX7_come 13 = .ok (.ldc2_w 233, 3) := by decide +kernel
theorem dX7_come_16 : decode cX7_come 16 = .ok (.invokestatic 88, 3) := by decide +kernel
theorem dX7_come_19 : decode cX7_come 19 = .ok (.ifCond .eq 16, 3) := by decide +kernel
theorem dX7_come_22 : decode cX7_come 22 = .ok (.iload 4, 2) := by decide +kernel
theorem dX7_come_24 : decode cX7_come 24 = .ok (.i2l, 1) := by decide +kernel
theorem dX7_come_25 : decode cX7_come 25 = .ok (.lconst 0, 1) := by decide +kernel
theorem dX7_come_26 : decode cX7_come 26 = .ok (.ldc2_w 233, 3) := by decide +kernel
theorem dX7_come_29 : decode cX7_come 29 = .ok (.invokestatic 88, 3) := by decide +kernel
theorem dX7_come_32 : decode cX7_come 32 = .ok (.ifCond .ne 10, 3) := by decide +kernel
theorem dX7_come_35 : decode cX7_come 35 = .ok (.aload_n 0, 1) := by decide +kernel
theorem dX7_come_36 : decode cX7_come 36 = .ok (.bipush (-2), 2) := by decide +kernel
theorem dX7_come_38 : decode cX7_come 38 = .ok (.invokevirtual 106, 3) := by decide +kernel
theorem dX7_come_41 : decode cX7_come 41 = .ok (.ireturn, 1) := by decide +kernel
theorem dX7_come_42 : decode cX7_come 42 = .ok (.aload_n 0, 1) := by decide +kernel
theorem dX7_come_43 : decode cX7_come 43 = .ok (.getfield 40, 3) := by decide +kernel
theorem dX7_come_46 : decode cX7_come 46 = .ok (.iload_n 1, 1) := by decide +kernel
theorem dX7_come_47 : decode cX7_come 47 = .ok (.iaload, 1) := by decide +kernel
theorem dX7_come_48 : decode cX7_come 48 = .ok (.istore 5, 2) := by decide +kernel
theorem dX7_come_50 : decode cX7_come 50 = .ok (.iload 5, 2) := by decide +kernel
theorem dX7_come_52 : decode cX7_come 52 = .ok (.bipush 12, 2) := by decide +kernel
theorem dX7_come_54 : decode cX7_come 54 = .ok (.if_icmp .ne 10, 3) := by decide +kernel
theorem dX7_come_57 : decode cX7_come 57 = .ok (.aload_n 0, 1) := by decide +kernel
theorem dX7_come_58 : decode cX7_come 58 = .ok (.bipush (-6), 2) := by decide +kernel
theorem dX7_come_60 : decode cX7_come 60 = .ok (.invokevirtual 106, 3) := by decide +kernel
theorem dX7_come_63 : decode cX7_come 63 = .ok (.ireturn, 1) := by decide +kernel
theorem dX7_come_64 : decode cX7_come 64 = .ok (.aload_n 0, 1) := by decide +kernel
theorem dX7_come_65 : decode cX7_come 65 = .ok (.iload_n 1, 1) := by decide +kernel
theorem dX7_come_66 : decode cX7_come 66 = .ok (.iload 5, 2) := by decide +kernel
theorem dX7_come_68 : decode cX7_come 68 = .ok (.invokevirtual 212, 3) := by decide +kernel
theorem dX7_come_71 : decode cX7_come 71 = .ok (.aload_n 0, 1) := by decide +kernel
theorem dX7_come_72 : decode cX7_come 72 = .ok (.getfield 46, 3) := by decide +kernel
theorem dX7_come_75 : decode cX7_come 75 = .ok (.iload_n 1, 1) := by decide +kernel
theorem dX7_come_76 : decode cX7_come 76 = .ok (.dup2, 1) := by decide +kernel
theorem dX7_come_77 : decode cX7_come 77 = .ok (.iaload, 1) := by decide +kernel
theorem dX7_come_78 : decode cX7_come 78 = .ok (.iconst 1, 1) := by decide +kernel
theorem dX7_come_79 : decode cX7_come 79 = .ok (.iload 5, 2) := by decide +kernel
theorem dX7_come_81 : decode cX7_come 81 = .ok (.ishl, 1) := by decide +kernel
theorem dX7_come_82 : decode cX7_come 82 = .ok (.iconst (-1), 1) := by decide +kernel
theorem dX7_come_83 : decode cX7_come 83 = .ok (.ixor, 1) := by decide +kernel
theorem dX7_come_84 : decode cX7_come 84 = .ok (.iand, 1) := by decide +kernel
theorem dX7_come_85 : decode cX7_come 85 = .ok (.iastore, 1) := by decide +kernel
theorem dX7_come_86 : decode cX7_come 86 = .ok (.aload_n 0, 1) := by decide +kernel
theorem dX7_come_87 : decode cX7_come 87 = .ok (.getfield 40, 3) := by decide +kernel
theorem dX7_come_90 : decode cX7_come 90 = .ok (.iload_n 1, 1) := by decide +kernel
theorem dX7_come_91 : decode cX7_come 91 = .ok (.iload 5, 2) := by decide +kernel
theorem dX7_come_93 : decode cX7_come 93 = .ok (.iconst 1, 1) := by decide +kernel
theorem dX7_come_94 : decode cX7_come 94 = .ok (.iadd, 1) := by decide +kernel
theorem dX7_come_95 : decode cX7_come 95 = .ok (.iastore, 1) := by decide +kernel
theorem dX7_come_96 : decode cX7_come 96 = .ok (.aload_n 0, 1) := by decide +kernel
theorem dX7_come_97 : decode cX7_come 97 = .ok (.getfield 51, 3) := by decide +kernel
theorem dX7_come_100 : decode cX7_come 100 = .ok (.iload_n 1, 1) := by decide +kernel
theorem dX7_come_101 : decode cX7_come 101 = .ok (.aaload, 1) := by decide +kernel
theorem dX7_come_102 : decode cX7_come 102 = .ok (.iload 5, 2) := by decide +kernel
theorem dX7_come_104 : decode cX7_come 104 = .ok (.iload_n 3, 1) := by decide +kernel
theorem dX7_come_105 : decode cX7_come 105 = .ok (.iastore, 1) := by decide +kernel
theorem dX7_come_106 : decode cX7_come 106 = .ok (.aload_n 0, 1) := by decide +kernel
theorem dX7_come_107 : decode cX7_come 107 = .ok (.getfield 54, 3) := by decide +kernel
theorem dX7_come_110 : decode cX7_come 110 = .ok (.iload_n 1, 1) := by decide +kernel
theorem dX7_come_111 : decode cX7_come 111 = .ok (.aaload, 1) := by decide +kernel
theorem dX7_come_112 : decode cX7_come 112 = .ok (.iload 5, 2) := by decide +kernel
theorem dX7_come_114 : decode cX7_come 114 = .ok (.iload 4, 2) := by decide +kernel
theorem dX7_come_116 : decode cX7_come 116 = .ok (.iastore, 1) := by decide +kernel
theorem dX7_come_117 : decode cX7_come 117 = .ok (.iconst 0, 1) := by decide +kernel
theorem dX7_come_118 : decode cX7_come 118 = .ok (.istore 6, 2) := by decide +kernel
theorem dX7_come_120 : decode cX7_come 120 = .ok (.iload 6, 2) := by decide +kernel
theorem dX7_come_122 : decode cX7_come 122 = .ok (.iload 5, 2) := by decide +kernel
theorem dX7_come_124 : decode cX7_come 124 = .ok (.if_icmp .ge 28, 3) := by decide +kernel
theorem dX7_come_127 : decode cX7_come 127 = .ok (.iload_n 2, 1) := by decide +kernel
theorem dX7_come_128 : decode cX7_come 128 = .ok (.iload 6, 2) := by decide +kernel
theorem dX7_come_130 : decode cX7_come 130 = .ok (.ishr, 1) := by decide +kernel
theorem dX7_come_131 : decode cX7_come 131 = .ok (.iconst 1, 1) := by decide +kernel
theorem dX7_come_132 : decode cX7_come 132 = .ok (.iand, 1) := by decide +kernel
theorem dX7_come_133 : decode cX7_come 133 = .ok (.ifCond .eq 13, 3) := by decide +kernel
theorem dX7_come_136 : decode cX7_come 136 = .ok (.aload_n 0, 1) := by decide +kernel
theorem dX7_come_137 : decode cX7_come 137 = .ok (.iload_n 1, 1) := by decide +kernel
theorem dX7_come_138 : decode cX7_come 138 = .ok (.iload 5, 2) := by decide +kernel
theorem dX7_come_140 : decode cX7_come 140 = .ok (.iload 6, 2) := by decide +kernel
theorem dX7_come_142 : decode cX7_come 142 = .ok (.iconst 0, 1) := by decide +kernel
theorem dX7_come_143 : decode cX7_come 143 = .ok (.invokevirtual 183, 3) := by decide +kernel
theorem dX7_come_146 : decode cX7_come 146 = .ok (.iinc 6 1, 3) := by decide +kernel
theorem dX7_come_149 : decode cX7_come 149 = .ok (.goto (-29), 3) := by decide +kernel
theorem dX7_come_152 : decode cX7_come 152 = .ok (.iload 5, 2) := by decide +kernel
theorem dX7_come_154 : decode cX7_come 154 = .ok (.ireturn, 1) := by decide +kernel
theorem dX7_gainOf_0 : decode cX7_gainOf 0 = .ok (.iload_n 3, 1) := by decide +kernel
theorem dX7_gainOf_1 : decode cX7_gainOf 1 = .ok (.aload_n 0, 1) := by decide +kernel
theorem dX7_gainOf_2 : decode cX7_gainOf 2 = .ok (.getfield 57, 3) := by decide +kernel
theorem dX7_gainOf_5 : decode cX7_gainOf 5 = .ok (.iload_n 1, 1) := by decide +kernel
theorem dX7_gainOf_6 : decode cX7_gainOf 6 = .ok (.aaload, 1) := by decide +kernel
theorem dX7_gainOf_7 : decode cX7_gainOf 7 = .ok (.iload_n 2, 1) := by decide +kernel
theorem dX7_gainOf_8 : decode cX7_gainOf 8 = .ok (.iaload, 1) := by decide +kernel
theorem dX7_gainOf_9 : decode cX7_gainOf 9 = .ok (.iconst 1, 1) := by decide +kernel
theorem dX7_gainOf_10 : decode cX7_gainOf 10 = .ok (.iload_n 2, 1) := by decide +kernel
theorem dX7_gainOf_11 : decode cX7_gainOf 11 = .ok (.ishl, 1) := by decide +kernel
theorem dX7_gainOf_12 : decode cX7_gainOf 12 = .ok (.ior, 1) := by decide +kernel
theorem dX7_gainOf_13 : decode cX7_gainOf 13 = .ok (.iand, 1) := by decide +kernel
theorem dX7_gainOf_14 : decode cX7_gainOf 14 = .ok (.invokestatic 223, 3) := by decide +kernel
theorem dX7_gainOf_17 : decode cX7_gainOf 17 = .ok (.istore 4, 2) := by decide +kernel
theorem dX7_gainOf_19 : decode cX7_gainOf 19 = .ok (.iload 4, 2) := by decide +kernel
theorem dX7_gainOf_21 : decode cX7_gainOf 21 = .ok (.ifCond .le 26, 3) := by decide +kernel
theorem dX7_gainOf_24 : decode cX7_gainOf 24 = .ok (.aload_n 0, 1) := by decide +kernel
theorem dX7_gainOf_25 : decode cX7_gainOf 25 = .ok (.getfield 54, 3) := by decide +kernel
theorem dX7_gainOf_28 : decode cX7_gainOf 28 = .ok (.iload_n 1, 1) := by decide +kernel
theorem dX7_gainOf_29 : decode cX7_gainOf 29 = .ok (.aaload, 1) := by decide +kernel
theorem dX7_gainOf_30 : decode cX7_gainOf 30 = .ok (.iload_n 2, 1) := by decide +kernel
theorem dX7_gainOf_31 : decode cX7_gainOf 31 = .ok (.iaload, 1) := by decide +kernel
theorem dX7_gainOf_32 : decode cX7_gainOf 32 = .ok (.aload_n 0, 1) := by decide +kernel
theorem dX7_gainOf_33 : decode cX7_gainOf 33 = .ok (.getfield 43, 3) := by decide +kernel
theorem dX7_gainOf_36 : decode cX7_gainOf 36 = .ok (.iload_n 1, 1) := by decide +kernel
theorem dX7_gainOf_37 : decode cX7_gainOf 37 = .ok (.iaload, 1) := by decide +kernel
theorem dX7_gainOf_38 : decode cX7_gainOf 38 = .ok (.iload 4, 2) := by decide +kernel
theorem dX7_gainOf_40 : decode cX7_gainOf 40 = .ok (.iconst 1, 1) := by decide +kernel
theorem dX7_gainOf_41 : decode cX7_gainOf 41 = .ok (.isub, 1) := by decide +kernel
theorem dX7_gainOf_42 : decode cX7_gainOf 42 = .ok (.imul, 1) := by decide +kernel
theorem dX7_gainOf_43 : decode cX7_gainOf 43 = .ok (.iadd, 1) := by decide +kernel
theorem dX7_gainOf_44 : decode cX7_gainOf 44 = .ok (.goto 4, 3) := by decide +kernel
theorem dX7_gainOf_47 : decode cX7_gainOf 47 = .ok (.iconst 0, 1) := by decide +kernel
theorem dX7_gainOf_48 : decode cX7_gainOf 48 = .ok (.istore 5, 2) := by decide +kernel
theorem dX7_gainOf_50 : decode cX7_gainOf 50 = .ok (.iload 5, 2) := by decide +kernel
theorem dX7_gainOf_52 : decode cX7_gainOf 52 = .ok (.iload_n 3, 1) := by decide +kernel
theorem dX7_gainOf_53 : decode cX7_gainOf 53 = .ok (.iload_n 2, 1) := by decide +kernel
theorem dX7_gainOf_54 : decode cX7_gainOf 54 = .ok (.ishr, 1) := by decide +kernel
theorem dX7_gainOf_55 : decode cX7_gainOf 55 = .ok (.iconst 1, 1) := by decide +kernel
theorem dX7_gainOf_56 : decode cX7_gainOf 56 = .ok (.iand, 1) := by decide +kernel
theorem dX7_gainOf_57 : decode cX7_gainOf 57 = .ok (.ifCond .eq 14, 3) := by decide +kernel
theorem dX7_gainOf_60 : decode cX7_gainOf 60 = .ok (.aload_n 0, 1) := by decide +kernel
theorem dX7_gainOf_61 : decode cX7_gainOf 61 = .ok (.getfield 51, 3) := by decide +kernel
theorem dX7_gainOf_64 : decode cX7_gainOf 64 = .ok (.iload_n 1, 1) := by decide +kernel
theorem dX7_gainOf_65 : decode cX7_gainOf 65 = .ok (.aaload, 1) := by decide +kernel
theorem dX7_gainOf_66 : decode cX7_gainOf 66 = .ok (.iload_n 2, 1) := by decide +kernel
theorem dX7_gainOf_67 : decode cX7_gainOf 67 = .ok (.iaload, 1) := by decide +kernel
theorem dX7_gainOf_68 : decode cX7_gainOf 68 = .ok (.goto 4, 3) := by decide +kernel
theorem dX7_gainOf_71 : decode cX7_gainOf 71 = .ok (.iconst 0, 1) := by decide +kernel
theorem dX7_gainOf_72 : decode cX7_gainOf 72 = .ok (.isub, 1) := by decide +kernel
theorem dX7_gainOf_73 : decode cX7_gainOf 73 = .ok (.aload_n 0, 1) := by decide +kernel
theorem dX7_gainOf_74 : decode cX7_gainOf 74 = .ok (.iload_n 1, 1) := by decide +kernel
theorem dX7_gainOf_75 : decode cX7_gainOf 75 = .ok (.iload_n 2, 1) := by decide +kernel
theorem dX7_gainOf_76 : decode cX7_gainOf 76 = .ok (.invokevirtual 226, 3) := by decide +kernel
theorem dX7_gainOf_79 : decode cX7_gainOf 79 = .ok (.isub, 1) := by decide +kernel
theorem dX7_gainOf_80 : decode cX7_gainOf 80 = .ok (.ireturn, 1) := by decide +kernel
theorem dX7_goodOf_0 : decode cX7_goodOf 0 = .ok (.iconst 0, 1) := by decide +kernel
theorem dX7_goodOf_1 : decode cX7_goodOf 1 = .ok (.istore_n 3, 1) := by decide +kernel
theorem dX7_goodOf_2 : decode cX7_goodOf 2 = .ok (.iconst 0, 1) := by decide +kernel
theorem dX7_goodOf_3 : decode cX7_goodOf 3 = .ok (.istore 4, 2) := by decide +kernel
theorem dX7_goodOf_5 : decode cX7_goodOf 5 = .ok (.iload 4, 2) := by decide +kernel
theorem dX7_goodOf_7 : decode cX7_goodOf 7 = .ok (.aload_n 0, 1) := by decide +kernel
theorem dX7_goodOf_8 : decode cX7_goodOf 8 = .ok (.getfield 40, 3) := by decide +kernel
theorem dX7_goodOf_11 : decode cX7_goodOf 11 = .ok (.iload_n 1, 1) := by decide +kernel
theorem dX7_goodOf_12 : decode cX7_goodOf 12 = .ok (.iaload, 1) := by decide +kernel
theorem dX7_goodOf_13 : decode cX7_goodOf 13 = .ok (.if_icmp .ge 20, 3) := by decide +kernel
theorem dX7_goodOf_16 : decode cX7_goodOf 16 = .ok (.iload_n 3, 1) := by decide +kernel
theorem dX7_goodOf_17 : decode cX7_goodOf 17 = .ok (.aload_n 0, 1) := by decide +kernel
theorem dX7_goodOf_18 : decode cX7_goodOf 18 = .ok (.iload_n 1, 1) := by decide +kernel
theorem dX7_goodOf_19 : decode cX7_goodOf 19 = .ok (.iload 4, 2) := by decide +kernel
theorem dX7_goodOf_21 : decode cX7_goodOf 21 = .ok (.iload_n 2, 1) := by decide +kernel
theorem dX7_goodOf_22 : decode cX7_goodOf 22 = .ok (.invokevirtual 241, 3) := by decide +kernel
theorem dX7_goodOf_25 : decode cX7_goodOf 25 = .ok (.iadd, 1) := by decide +kernel
theorem dX7_goodOf_26 : decode cX7_goodOf 26 = .ok (.istore_n 3, 1) := by decide +kernel
theorem dX7_goodOf_27 : decode cX7_goodOf 27 = .ok (.iinc 4 1, 3) := by decide +kernel
theorem dX7_goodOf_30 : decode cX7_goodOf 30 = .ok (.goto (-25), 3) := by decide +kernel
theorem dX7_goodOf_33 : decode cX7_goodOf 33 = .ok (.iload_n 3, 1) := by decide +kernel
theorem dX7_goodOf_34 : decode cX7_goodOf 34 = .ok (.ireturn, 1) := by decide +kernel
theorem dX7_would_0 : decode cX7_would 0 = .ok (.aload_n 0, 1) := by decide +kernel
theorem dX7_would_1 : decode cX7_would 1 = .ok (.getfield 46, 3) := by decide +kernel
theorem dX7_would_4 : decode cX7_would 4 = .ok (.iload_n 1, 1) := by decide +kernel
theorem dX7_would_5 : decode cX7_would 5 = .ok (.iaload, 1) := by decide +kernel
theorem dX7_would_6 : decode cX7_would 6 = .ok (.iload_n 2, 1) := by decide +kernel
theorem dX7_would_7 : decode cX7_would 7 = .ok (.ishr, 1) := by decide +kernel
theorem dX7_would_8 : decode cX7_would 8 = .ok (.iconst 1, 1) := by decide +kernel
theorem dX7_would_9 : decode cX7_would 9 = .ok (.iand, 1) := by decide +kernel
theorem dX7_would_10 : decode cX7_would 10 = .ok (.ifCond .ne 28, 3) := by decide +kernel
theorem dX7_would_13 : decode cX7_would 13 = .ok (.aload_n 0, 1) := by decide +kernel
theorem dX7_would_14 : decode cX7_would 14 = .ok (.iload_n 1, 1) := by decide +kernel
theorem dX7_would_15 : decode cX7_would 15 = .ok (.iload_n 2, 1) := by decide +kernel
theorem dX7_would_16 : decode cX7_would 16 = .ok (.iload_n 3, 1) := by decide +kernel
theorem dX7_would_17 : decode cX7_would 17 = .ok (.iconst 1, 1) := by decide +kernel
theorem dX7_would_18 : decode cX7_would 18 = .ok (.iload_n 2, 1) := by decide +kernel
theorem dX7_would_19 : decode cX7_would 19 = .ok (.ishl, 1) := by decide +kernel
theorem dX7_would_20 : decode cX7_would 20 = .ok (.ixor, 1) := by decide +kernel
theorem dX7_would_21 : decode cX7_would 21 = .ok (.invokevirtual 241, 3) := by decide +kernel
theorem dX7_would_24 : decode cX7_would 24 = .ok (.aload_n 0, 1) := by decide +kernel
theorem dX7_would_25 : decode cX7_would 25 = .ok (.iload_n 1, 1) := by decide +kernel
theorem dX7_would_26 : decode cX7_would 26 = .ok (.iload_n 2, 1) := by decide +kernel
theorem dX7_would_27 : decode cX7_would 27 = .ok (.iload_n 3, 1) := by decide +kernel
theorem dX7_would_28 : decode cX7_would 28 = .ok (.invokevirtual 241, 3) := by decide +kernel
theorem dX7_would_31 : decode cX7_would 31 = .ok (.if_icmp .le 7, 3) := by decide +kernel
theorem dX7_would_34 : decode cX7_would 34 = .ok (.iconst 1, 1) := by decide +kernel
theorem dX7_would_35 : decode cX7_would 35 = .ok (.goto 4, 3) := by decide +kernel
theorem dX7_would_38 : decode cX7_would 38 = .ok (.iconst 0, 1) := by decide +kernel
theorem dX7_would_39 : decode cX7_would 39 = .ok (.ireturn, 1) := by decide +kernel
theorem dX7_firstOf_0 : decode cX7_firstOf 0 = .ok (.iconst 0, 1) := by decide +kernel
theorem dX7_firstOf_1 : decode cX7_firstOf 1 = .ok (.istore_n 3, 1) := by decide +kernel
theorem dX7_firstOf_2 : decode cX7_firstOf 2 = .ok (.iload_n 3, 1) := by decide +kernel
theorem dX7_firstOf_3 : decode cX7_firstOf 3 = .ok (.aload_n 0, 1) := by decide +kernel
theorem dX7_firstOf_4 : decode cX7_firstOf 4 = .ok (.getfield 40, 3) := by decide +kernel
theorem dX7_firstOf_7 : decode cX7_firstOf 7 = .ok (.iload_n 1, 1) := by decide +kernel
theorem dX7_firstOf_8 : decode cX7_firstOf 8 = .ok (.iaload, 1) := by decide +kernel
theorem dX7_firstOf_9 : decode cX7_firstOf 9 = .ok (.if_icmp .ge 54, 3) := by decide +kernel
theorem dX7_firstOf_12 : decode cX7_firstOf 12 = .ok (.aload_n 0, 1) := by decide +kernel
theorem dX7_firstOf_13 : decode cX7_firstOf 13 = .ok (.getfield 46, 3) := by decide +kernel
theorem dX7_firstOf_16 : decode cX7_firstOf 16 = .ok (.iload_n 1, 1) := by decide +kernel
theorem dX7_firstOf_17 : decode cX7_firstOf 17 = .ok (.iaload, 1) := by decide +kernel
theorem dX7_firstOf_18 : decode cX7_firstOf 18 = .ok (.iload_n 3, 1) := by decide +kernel
theorem dX7_firstOf_19 : decode cX7_firstOf 19 = .ok (.ishr, 1) := by decide +kernel
theorem dX7_firstOf_20 : decode cX7_firstOf 20 = .ok (.iconst 1, 1) := by decide +kernel
theorem dX7_firstOf_21 : decode cX7_firstOf 21 = .ok (.iand, 1) := by decide +kernel
theorem dX7_firstOf_22 : decode cX7_firstOf 22 = .ok (.ifCond .eq 15, 3) := by decide +kernel
theorem dX7_firstOf_25 : decode cX7_firstOf 25 = .ok (.iload_n 2, 1) := by decide +kernel
theorem dX7_firstOf_26 : decode cX7_firstOf 26 = .ok (.iload_n 3, 1) := by decide +kernel
theorem dX7_firstOf_27 : decode cX7_firstOf 27 = .ok (.ishr, 1) := by decide +kernel
theorem dX7_firstOf_28 : decode cX7_firstOf 28 = .ok (.iconst 1, 1) := by decide +kernel
theorem dX7_firstOf_29 : decode cX7_firstOf 29 = .ok (.iand, 1) := by decide +kernel
theorem dX7_firstOf_30 : decode cX7_firstOf 30 = .ok (.ifCond .ne 7, 3) := by decide +kernel
theorem dX7_firstOf_33 : decode cX7_firstOf 33 = .ok (.iconst 1, 1) := by decide +kernel
theorem dX7_firstOf_34 : decode cX7_firstOf 34 = .ok (.goto 4, 3) := by decide +kernel
theorem dX7_firstOf_37 : decode cX7_firstOf 37 = .ok (.iconst 0, 1) := by decide +kernel
theorem dX7_firstOf_38 : decode cX7_firstOf 38 = .ok (.istore 4, 2) := by decide +kernel
theorem dX7_firstOf_40 : decode cX7_firstOf 40 = .ok (.iload 4, 2) := by decide +kernel
theorem dX7_firstOf_42 : decode cX7_firstOf 42 = .ok (.ifCond .ne 13, 3) := by decide +kernel
theorem dX7_firstOf_45 : decode cX7_firstOf 45 = .ok (.aload_n 0, 1) := by decide +kernel
theorem dX7_firstOf_46 : decode cX7_firstOf 46 = .ok (.iload_n 1, 1) := by decide +kernel
theorem dX7_firstOf_47 : decode cX7_firstOf 47 = .ok (.iload_n 3, 1) := by decide +kernel
theorem dX7_firstOf_48 : decode cX7_firstOf 48 = .ok (.iload_n 2, 1) := by decide +kernel
theorem dX7_firstOf_49 : decode cX7_firstOf 49 = .ok (.invokevirtual 245, 3) := by decide +kernel
theorem dX7_firstOf_52 : decode cX7_firstOf 52 = .ok (.ifCond .eq 5, 3) := by decide +kernel
theorem dX7_firstOf_55 : decode cX7_firstOf 55 = .ok (.iload_n 3, 1) := by decide +kernel
theorem dX7_firstOf_56 : decode cX7_firstOf 56 = .ok (.ireturn, 1) := by decide +kernel
theorem dX7_firstOf_57 : decode cX7_firstOf 57 = .ok (.iinc 3 1, 3) := by decide +kernel
theorem dX7_firstOf_60 : decode cX7_firstOf 60 = .ok (.goto (-58), 3) := by decide +kernel
theorem dX7_firstOf_63 : decode cX7_firstOf 63 = .ok (.iconst (-1), 1) := by decide +kernel
theorem dX7_firstOf_64 : decode cX7_firstOf 64 = .ok (.ireturn, 1) := by decide +kernel
theorem dX7_gain_0 : decode cX7_gain 0 = .ok (.aload_n 0, 1) := by decide +kernel
theorem dX7_gain_1 : decode cX7_gain 1 = .ok (.iload_n 1, 1) := by decide +kernel
theorem dX7_gain_2 : decode cX7_gain 2 = .ok (.iload_n 2, 1) := by decide +kernel
theorem dX7_gain_3 : decode cX7_gain 3 = .ok (.invokevirtual 230, 3) := by decide +kernel
theorem dX7_gain_6 : decode cX7_gain 6 = .ok (.ifCond .eq 13, 3) := by decide +kernel
theorem dX7_gain_9 : decode cX7_gain 9 = .ok (.aload_n 0, 1) := by decide +kernel
theorem dX7_gain_10 : decode cX7_gain 10 = .ok (.iload_n 1, 1) := by decide +kernel
theorem dX7_gain_11 : decode cX7_gain 11 = .ok (.iload_n 3, 1) := by decide +kernel
theorem dX7_gain_12 : decode cX7_gain 12 = .ok (.i2l, 1) := by decide +kernel
theorem dX7_gain_13 : decode cX7_gain 13 = .ok (.invokevirtual 237, 3) := by decide +kernel
theorem dX7_gain_16 : decode cX7_gain 16 = .ok (.ifCond .ne 13, 3) := by decide +kernel
theorem dX7_gain_19 : decode cX7_gain 19 = .ok (.ldc 249, 2) := by decide +kernel
theorem dX7_gain_21 : decode cX7_gain 21 = .ok (.aload_n 0, 1) := by decide +kernel
theorem dX7_gain_22 : decode cX7_gain 22 = .ok (.bipush (-2), 2) := by decide +kernel
theorem dX7_gain_24 : decode cX7_gain 24 = .ok (.invokevirtual 106, 3) := by decide +kernel
theorem dX7_gain_27 : decode cX7_gain 27 = .ok (.iadd, 1) := by decide +kernel
theorem dX7_gain_28 : decode cX7_gain 28 = .ok (.ireturn, 1) := by decide +kernel
theorem dX7_gain_29 : decode cX7_gain 29 = .ok (.aload_n 0, 1) := by decide +kernel
theorem dX7_gain_30 : decode cX7_gain 30 = .ok (.iload_n 1, 1) := by decide +kernel
theorem dX7_gain_31 : decode cX7_gain 31 = .ok (.iload_n 2, 1) := by decide +kernel
theorem dX7_gain_32 : decode cX7_gain 32 = .ok (.iload_n 3, 1) := by decide +kernel
theorem dX7_gain_33 : decode cX7_gain 33 = .ok (.invokevirtual 241, 3) := by decide +kernel
theorem dX7_gain_36 : decode cX7_gain 36 = .ok (.ireturn, 1) := by decide +kernel
theorem dX7_total_0 : decode cX7_total 0 = .ok (.aload_n 0, 1) := by decide +kernel
theorem dX7_total_1 : decode cX7_total 1 = .ok (.iload_n 1, 1) := by decide +kernel
theorem dX7_total_2 : decode cX7_total 2 = .ok (.iload_n 2, 1) := by decide +kernel
theorem dX7_total_3 : decode cX7_total 3 = .ok (.i2l, 1) := by decide +kernel
theorem dX7_total_4 : decode cX7_total 4 = .ok (.invokevirtual 237, 3) := by decide +kernel
theorem dX7_total_7 : decode cX7_total 7 = .ok (.ifCond .eq 12, 3) := by decide +kernel
theorem dX7_total_10 : decode cX7_total 10 = .ok (.aload_n 0, 1) := by decide +kernel
theorem dX7_total_11 : decode cX7_total 11 = .ok (.iload_n 1, 1) := by decide +kernel
theorem dX7_total_12 : decode cX7_total 12 = .ok (.iload_n 2, 1) := by decide +kernel
theorem dX7_total_13 : decode cX7_total 13 = .ok (.invokevirtual 250, 3) := by decide +kernel
theorem dX7_total_16 : decode cX7_total 16 = .ok (.goto 12, 3) := by decide +kernel
theorem dX7_total_19 : decode cX7_total 19 = .ok (.ldc 249, 2) := by decide +kernel
theorem dX7_total_21 : decode cX7_total 21 = .ok (.aload_n 0, 1) := by decide +kernel
theorem dX7_total_22 : decode cX7_total 22 = .ok (.bipush (-2), 2) := by decide +kernel
theorem dX7_total_24 : decode cX7_total 24 = .ok (.invokevirtual 106, 3) := by decide +kernel
theorem dX7_total_27 : decode cX7_total 27 = .ok (.iadd, 1) := by decide +kernel
theorem dX7_total_28 : decode cX7_total 28 = .ok (.ireturn, 1) := by decide +kernel
theorem dX7_judge_0 : decode cX7_judge 0 = .ok (.aload_n 0, 1) := by decide +kernel
theorem dX7_judge_1 : decode cX7_judge 1 = .ok (.iload_n 1, 1) := by decide +kernel
theorem dX7_judge_2 : decode cX7_judge 2 = .ok (.iload_n 2, 1) := by decide +kernel
theorem dX7_judge_3 : decode cX7_judge 3 = .ok (.i2l, 1) := by decide +kernel
theorem dX7_judge_4 : decode cX7_judge 4 = .ok (.invokevirtual 237, 3) := by decide +kernel
theorem dX7_judge_7 : decode cX7_judge 7 = .ok (.ifCond .eq 12, 3) := by decide +kernel
theorem dX7_judge_10 : decode cX7_judge 10 = .ok (.aload_n 0, 1) := by decide +kernel
theorem dX7_judge_11 : decode cX7_judge 11 = .ok (.iload_n 1, 1) := by decide +kernel
theorem dX7_judge_12 : decode cX7_judge 12 = .ok (.iload_n 2, 1) := by decide +kernel
theorem dX7_judge_13 : decode cX7_judge 13 = .ok (.invokevirtual 253, 3) := by decide +kernel
theorem dX7_judge_16 : decode cX7_judge 16 = .ok (.goto 9, 3) := by decide +kernel
theorem dX7_judge_19 : decode cX7_judge 19 = .ok (.aload_n 0, 1) := by decide +kernel
theorem dX7_judge_20 : decode cX7_judge 20 = .ok (.bipush (-2), 2) := by decide +kernel
theorem dX7_judge_22 : decode cX7_judge 22 = .ok (.invokevirtual 106, 3) := by decide +kernel
theorem dX7_judge_25 : decode cX7_judge 25 = .ok (.ireturn, 1) := by decide +kernel
theorem dX7_isRest_0 : decode cX7_isRest 0 = .ok (.aload_n 0, 1) := by decide +kernel
theorem dX7_isRest_1 : decode cX7_isRest 1 = .ok (.iload_n 1, 1) := by decide +kernel
theorem dX7_isRest_2 : decode cX7_isRest 2 = .ok (.iload_n 2, 1) := by decide +kernel
theorem dX7_isRest_3 : decode cX7_isRest 3 = .ok (.invokevirtual 253, 3) := by decide +kernel
theorem dX7_isRest_6 : decode cX7_isRest 6 = .ok (.iconst (-1), 1) := by decide +kernel
theorem dX7_isRest_7 : decode cX7_isRest 7 = .ok (.if_icmp .ne 7, 3) := by decide +kernel
theorem dX7_isRest_10 : decode cX7_isRest 10 = .ok (.iconst 1, 1) := by decide +kernel
theorem dX7_isRest_11 : decode cX7_isRest 11 = .ok (.goto 4, 3) := by decide +kernel
theorem dX7_isRest_14 : decode cX7_isRest 14 = .ok (.iconst 0, 1) := by decide +kernel
theorem dX7_isRest_15 : decode cX7_isRest 15 = .ok (.ireturn, 1) := by decide +kernel
theorem dX7_countRests_0 : decode cX7_countRests 0 = .ok (.iconst 0, 1) := by decide +kernel
theorem dX7_countRests_1 : decode cX7_countRests 1 = .ok (.istore_n 2, 1) := by decide +kernel
theorem dX7_countRests_2 : decode cX7_countRests 2 = .ok (.iconst 0, 1) := by decide +kernel
theorem dX7_countRests_3 : decode cX7_countRests 3 = .ok (.istore_n 3, 1) := by decide +kernel
theorem dX7_countRests_4 : decode cX7_countRests 4 = .ok (.iload_n 3, 1) := by decide +kernel
theorem dX7_countRests_5 : decode cX7_countRests 5 = .ok (.aload_n 0, 1) := by decide +kernel
theorem dX7_countRests_6 : decode cX7_countRests 6 = .ok (.iload_n 1, 1) := by decide +kernel
theorem dX7_countRests_7 : decode cX7_countRests 7 = .ok (.invokevirtual 96, 3) := by decide +kernel
theorem dX7_countRests_10 : decode cX7_countRests 10 = .ok (.if_icmp .gt 26, 3) := by decide +kernel
theorem dX7_countRests_13 : decode cX7_countRests 13 = .ok (.iload_n 2, 1) := by decide +kernel
theorem dX7_countRests_14 : decode cX7_countRests 14 = .ok (.aload_n 0, 1) := by decide +kernel
theorem dX7_countRests_15 : decode cX7_countRests 15 = .ok (.iload_n 1, 1) := by decide +kernel
theorem dX7_countRests_16 : decode cX7_countRests 16 = .ok (.iload_n 3, 1) := by decide +kernel
theorem dX7_countRests_17 : decode cX7_countRests 17 = .ok (.invokevirtual 256, 3) := by decide +kernel
theorem dX7_countRests_20 : decode cX7_countRests 20 = .ok (.ifCond .eq 7, 3) := by decide +kernel
theorem dX7_countRests_23 : decode cX7_countRests 23 = .ok (.iconst 1, 1) := by decide +kernel
theorem dX7_countRests_24 : decode cX7_countRests 24 = .ok (.goto 4, 3) := by decide +kernel
theorem dX7_countRests_27 : decode cX7_countRests 27 = .ok (.iconst 0, 1) := by decide +kernel
theorem dX7_countRests_28 : decode cX7_countRests 28 = .ok (.iadd, 1) := by decide +kernel
theorem dX7_countRests_29 : decode cX7_countRests 29 = .ok (.istore_n 2, 1) := by decide +kernel
theorem dX7_countRests_30 : decode cX7_countRests 30 = .ok (.iinc 3 1, 3) := by decide +kernel
theorem dX7_countRests_33 : decode cX7_countRests 33 = .ok (.goto (-29), 3) := by decide +kernel
theorem dX7_countRests_36 : decode cX7_countRests 36 = .ok (.iload_n 2, 1) := by decide +kernel
theorem dX7_countRests_37 : decode cX7_countRests 37 = .ok (.ireturn, 1) := by decide +kernel
theorem dX7_count_0 : decode cX7_count 0 = .ok (.aload_n 0, 1) := by decide +kernel
theorem dX7_count_1 : decode cX7_count 1 = .ok (.iload_n 1, 1) := by decide +kernel
theorem dX7_count_2 : decode cX7_count 2 = .ok (.invokevirtual 92, 3) := by decide +kernel
theorem dX7_count_5 : decode cX7_count 5 = .ok (.ifCond .eq 11, 3) := by decide +kernel
theorem dX7_count_8 : decode cX7_count 8 = .ok (.aload_n 0, 1) := by decide +kernel
theorem dX7_count_9 : decode cX7_count 9 = .ok (.iload_n 1, 1) := by decide +kernel
theorem dX7_count_10 : decode cX7_count 10 = .ok (.invokevirtual 259, 3) := by decide +kernel
theorem dX7_count_13 : decode cX7_count 13 = .ok (.goto 9, 3) := by decide +kernel
theorem dX7_count_16 : decode cX7_count 16 = .ok (.aload_n 0, 1) := by decide +kernel
theorem dX7_count_17 : decode cX7_count 17 = .ok (.bipush (-2), 2) := by decide +kernel
theorem dX7_count_19 : decode cX7_count 19 = .ok (.invokevirtual 106, 3) := by decide +kernel
theorem dX7_count_22 : decode cX7_count 22 = .ok (.ireturn, 1) := by decide +kernel
theorem dX7_costOf_0 : decode cX7_costOf 0 = .ok (.iconst 0, 1) := by decide +kernel
theorem dX7_costOf_1 : decode cX7_costOf 1 = .ok (.istore_n 3, 1) := by decide +kernel
theorem dX7_costOf_2 : decode cX7_costOf 2 = .ok (.iconst 0, 1) := by decide +kernel
theorem dX7_costOf_3 : decode cX7_costOf 3 = .ok (.istore 4, 2) := by decide +kernel
theorem dX7_costOf_5 : decode cX7_costOf 5 = .ok (.iload 4, 2) := by decide +kernel
theorem dX7_costOf_7 : decode cX7_costOf 7 = .ok (.aload_n 0, 1) := by decide +kernel
theorem dX7_costOf_8 : decode cX7_costOf 8 = .ok (.getfield 40, 3) := by decide +kernel
theorem dX7_costOf_11 : decode cX7_costOf 11 = .ok (.iload_n 1, 1) := by decide +kernel
theorem dX7_costOf_12 : decode cX7_costOf 12 = .ok (.iaload, 1) := by decide +kernel
theorem dX7_costOf_13 : decode cX7_costOf 13 = .ok (.if_icmp .ge 34, 3) := by decide +kernel
theorem dX7_costOf_16 : decode cX7_costOf 16 = .ok (.iload_n 3, 1) := by decide +kernel
theorem dX7_costOf_17 : decode cX7_costOf 17 = .ok (.iload_n 2, 1) := by decide +kernel
theorem dX7_costOf_18 : decode cX7_costOf 18 = .ok (.iload 4, 2) := by decide +kernel
theorem dX7_costOf_20 : decode cX7_costOf 20 = .ok (.ishr, 1) := by decide +kernel
theorem dX7_costOf_21 : decode cX7_costOf 21 = .ok (.iconst 1, 1) := by decide +kernel
theorem dX7_costOf_22 : decode cX7_costOf 22 = .ok (.iand, 1) := by decide +kernel
theorem dX7_costOf_23 : decode cX7_costOf 23 = .ok (.ifCond .eq 15, 3) := by decide +kernel
theorem dX7_costOf_26 : decode cX7_costOf 26 = .ok (.aload_n 0, 1) := by decide +kernel
theorem dX7_costOf_27 : decode cX7_costOf 27 = .ok (.getfield 51, 3) := by decide +kernel
theorem dX7_costOf_30 : decode cX7_costOf 30 = .ok (.iload_n 1, 1) := by decide +kernel
theorem dX7_costOf_31 : decode cX7_costOf 31 = .ok (.aaload, 1) := by decide +kernel
theorem dX7_costOf_32 : decode cX7_costOf 32 = .ok (.iload 4, 2) := by decide +kernel
theorem dX7_costOf_34 : decode cX7_costOf 34 = .ok (.iaload, 1) := by decide +kernel
theorem dX7_costOf_35 : decode cX7_costOf 35 = .ok (.goto 4, 3) := by decide +kernel
theorem dX7_costOf_38 : decode cX7_costOf 38 = .ok (.iconst 0, 1) := by decide +kernel
theorem dX7_costOf_39 : decode cX7_costOf 39 = .ok (.iadd, 1) := by decide +kernel
theorem dX7_costOf_40 : decode cX7_costOf 40 = .ok (.istore_n 3, 1) := by decide +kernel
theorem dX7_costOf_41 : decode cX7_costOf 41 = .ok (.iinc 4 1, 3) := by decide +kernel
theorem dX7_costOf_44 : decode cX7_costOf 44 = .ok (.goto (-39), 3) := by decide +kernel
theorem dX7_costOf_47 : decode cX7_costOf 47 = .ok (.iload_n 3, 1) := by decide +kernel
theorem dX7_costOf_48 : decode cX7_costOf 48 = .ok (.ireturn, 1) := by decide +kernel
theorem dX7_worthOf_0 : decode cX7_worthOf 0 = .ok (.iload_n 3, 1) := by decide +kernel
theorem dX7_worthOf_1 : decode cX7_worthOf 1 = .ok (.tableswitch 57 0 3 #[31, 37, 42, 50], 31) := by decide +kernel
theorem dX7_worthOf_32 : decode cX7_worthOf 32 = .ok (.iload_n 2, 1) := by decide +kernel
theorem dX7_worthOf_33 : decode cX7_worthOf 33 = .ok (.invokestatic 223, 3) := by decide +kernel
theorem dX7_worthOf_36 : decode cX7_worthOf 36 = .ok (.ineg, 1) := by decide +kernel
theorem dX7_worthOf_37 : decode cX7_worthOf 37 = .ok (.ireturn, 1) := by decide +kernel
theorem dX7_worthOf_38 : decode cX7_worthOf 38 = .ok (.iload_n 2, 1) := by decide +kernel
theorem dX7_worthOf_39 : decode cX7_worthOf 39 = .ok (.invokestatic 223, 3) := by decide +kernel
theorem dX7_worthOf_42 : decode cX7_worthOf 42 = .ok (.ireturn, 1) := by decide +kernel
theorem dX7_worthOf_43 : decode cX7_worthOf 43 = .ok (.aload_n 0, 1) := by decide +kernel
theorem dX7_worthOf_44 : decode cX7_worthOf 44 = .ok (.iload_n 1, 1) := by decide +kernel
theorem dX7_worthOf_45 : decode cX7_worthOf 45 = .ok (.iload_n 2, 1) := by decide +kernel
theorem dX7_worthOf_46 : decode cX7_worthOf 46 = .ok (.invokevirtual 262, 3) := by decide +kernel
theorem dX7_worthOf_49 : decode cX7_worthOf 49 = .ok (.ineg, 1) := by decide +kernel
theorem dX7_worthOf_50 : decode cX7_worthOf 50 = .ok (.ireturn, 1) := by decide +kernel
theorem dX7_worthOf_51 : decode cX7_worthOf 51 = .ok (.aload_n 0, 1) := by decide +kernel
theorem dX7_worthOf_52 : decode cX7_worthOf 52 = .ok (.iload_n 1, 1) := by decide +kernel
theorem dX7_worthOf_53 : decode cX7_worthOf 53 = .ok (.iload_n 2, 1) := by decide +kernel
theorem dX7_worthOf_54 : decode cX7_worthOf 54 = .ok (.invokevirtual 250, 3) := by decide +kernel
theorem dX7_worthOf_57 : decode cX7_worthOf 57 = .ok (.ireturn, 1) := by decide +kernel
theorem dX7_worthOf_58 : decode cX7_worthOf 58 = .ok (.aload_n 0, 1) := by decide +kernel
theorem dX7_worthOf_59 : decode cX7_worthOf 59 = .ok (.iload_n 1, 1) := by decide +kernel
theorem dX7_worthOf_60 : decode cX7_worthOf 60 = .ok (.iload_n 2, 1) := by decide +kernel
theorem dX7_worthOf_61 : decode cX7_worthOf 61 = .ok (.invokevirtual 250, 3) := by decide +kernel
theorem dX7_worthOf_64 : decode cX7_worthOf 64 = .ok (.ineg, 1) := by decide +kernel
theorem dX7_worthOf_65 : decode cX7_worthOf 65 = .ok (.ireturn, 1) := by decide +kernel
theorem dX7_seek_0 : decode cX7_seek 0 = .ok (.iconst (-1), 1) := by decide +kernel
theorem dX7_seek_1 : decode cX7_seek 1 = .ok (.istore_n 3, 1) := by decide +kernel
theorem dX7_seek_2 : decode cX7_seek 2 = .ok (.iconst 0, 1) := by decide +kernel
theorem dX7_seek_3 : decode cX7_seek 3 = .ok (.istore 4, 2) := by decide +kernel
theorem dX7_seek_5 : decode cX7_seek 5 = .ok (.iconst 0, 1) := by decide +kernel
theorem dX7_seek_6 : decode cX7_seek 6 = .ok (.istore 5, 2) := by decide +kernel
theorem dX7_seek_8 : decode cX7_seek 8 = .ok (.iload 5, 2) := by decide +kernel
theorem dX7_seek_10 : decode cX7_seek 10 = .ok (.aload_n 0, 1) := by decide +kernel
theorem dX7_seek_11 : decode cX7_seek 11 = .ok (.iload_n 1, 1) := by decide +kernel
theorem dX7_seek_12 : decode cX7_seek 12 = .ok (.invokevirtual 96, 3) := by decide +kernel
theorem dX7_seek_15 : decode cX7_seek 15 = .ok (.if_icmp .gt 48, 3) := by decide +kernel
theorem dX7_seek_18 : decode cX7_seek 18 = .ok (.aload_n 0, 1) := by decide +kernel
theorem dX7_seek_19 : decode cX7_seek 19 = .ok (.iload_n 1, 1) := by decide +kernel
theorem dX7_seek_20 : decode cX7_seek 20 = .ok (.iload 5, 2) := by decide +kernel
theorem dX7_seek_22 : decode cX7_seek 22 = .ok (.invokevirtual 256, 3) := by decide +kernel
theorem dX7_seek_25 : decode cX7_seek 25 = .ok (.ifCond .eq 32, 3) := by decide +kernel
theorem dX7_seek_28 : decode cX7_seek 28 = .ok (.aload_n 0, 1) := by decide +kernel
theorem dX7_seek_29 : decode cX7_seek 29 = .ok (.iload_n 1, 1) := by decide +kernel
theorem dX7_seek_30 : decode cX7_seek 30 = .ok (.iload 5, 2) := by decide +kernel
theorem dX7_seek_32 : decode cX7_seek 32 = .ok (.iload_n 2, 1) := by decide +kernel
theorem dX7_seek_33 : decode cX7_seek 33 = .ok (.invokevirtual 265, 3) := by decide +kernel
theorem dX7_seek_36 : decode cX7_seek 36 = .ok (.istore 6, 2) := by decide +kernel
theorem dX7_seek_38 : decode cX7_seek 38 = .ok (.iload_n 3, 1) := by decide +kernel
theorem dX7_seek_39 : decode cX7_seek 39 = .ok (.iconst (-1), 1) := by decide +kernel
theorem dX7_seek_40 : decode cX7_seek 40 = .ok (.if_icmp .eq 10, 3) := by decide +kernel
theorem dX7_seek_43 : decode cX7_seek 43 = .ok (.iload 6, 2) := by decide +kernel
theorem dX7_seek_45 : decode cX7_seek 45 = .ok (.iload 4, 2) := by decide +kernel
theorem dX7_seek_47 : decode cX7_seek 47 = .ok (.if_icmp .le 10, 3) := by decide +kernel
theorem dX7_seek_50 : decode cX7_seek 50 = .ok (.iload 5, 2) := by decide +kernel
theorem dX7_seek_52 : decode cX7_seek 52 = .ok (.istore_n 3, 1) := by decide +kernel
theorem dX7_seek_53 : decode cX7_seek 53 = .ok (.iload 6, 2) := by decide +kernel
theorem dX7_seek_55 : decode cX7_seek 55 = .ok (.istore 4, 2) := by decide +kernel
theorem dX7_seek_57 : decode cX7_seek 57 = .ok (.iinc 5 1, 3) := by decide +kernel
theorem dX7_seek_60 : decode cX7_seek 60 = .ok (.goto (-52), 3) := by decide +kernel
theorem dX7_seek_63 : decode cX7_seek 63 = .ok (.iload_n 3, 1) := by decide +kernel
theorem dX7_seek_64 : decode cX7_seek 64 = .ok (.ireturn, 1) := by decide +kernel
theorem dX7_sought_0 : decode cX7_sought 0 = .ok (.aload_n 0, 1) := by decide +kernel
theorem dX7_sought_1 : decode cX7_sought 1 = .ok (.iload_n 1, 1) := by decide +kernel
theorem dX7_sought_2 : decode cX7_sought 2 = .ok (.invokevirtual 92, 3) := by decide +kernel
theorem dX7_sought_5 : decode cX7_sought 5 = .ok (.ifCond .eq 12, 3) := by decide +kernel
theorem dX7_sought_8 : decode cX7_sought 8 = .ok (.aload_n 0, 1) := by decide +kernel
theorem dX7_sought_9 : decode cX7_sought 9 = .ok (.iload_n 1, 1) := by decide +kernel
theorem dX7_sought_10 : decode cX7_sought 10 = .ok (.iload_n 2, 1) := by decide +kernel
theorem dX7_sought_11 : decode cX7_sought 11 = .ok (.invokevirtual 268, 3) := by decide +kernel
theorem dX7_sought_14 : decode cX7_sought 14 = .ok (.goto 9, 3) := by decide +kernel
theorem dX7_sought_17 : decode cX7_sought 17 = .ok (.aload_n 0, 1) := by decide +kernel
theorem dX7_sought_18 : decode cX7_sought 18 = .ok (.bipush (-2), 2) := by decide +kernel
theorem dX7_sought_20 : decode cX7_sought 20 = .ok (.invokevirtual 106, 3) := by decide +kernel
theorem dX7_sought_23 : decode cX7_sought 23 = .ok (.ireturn, 1) := by decide +kernel
theorem dX7_rest_0 : decode cX7_rest 0 = .ok (.aload_n 0, 1) := by decide +kernel
theorem dX7_rest_1 : decode cX7_rest 1 = .ok (.iload_n 1, 1) := by decide +kernel
theorem dX7_rest_2 : decode cX7_rest 2 = .ok (.invokevirtual 92, 3) := by decide +kernel
theorem dX7_rest_5 : decode cX7_rest 5 = .ok (.ifCond .eq 7, 3) := by decide +kernel
theorem dX7_rest_8 : decode cX7_rest 8 = .ok (.iload_n 2, 1) := by decide +kernel
theorem dX7_rest_9 : decode cX7_rest 9 = .ok (.ifCond .ge 10, 3) := by decide +kernel
theorem dX7_rest_12 : decode cX7_rest 12 = .ok (.aload_n 0, 1) := by decide +kernel
theorem dX7_rest_13 : decode cX7_rest 13 = .ok (.bipush (-2), 2) := by decide +kernel
theorem dX7_rest_15 : decode cX7_rest 15 = .ok (.invokevirtual 106, 3) := by decide +kernel
theorem dX7_rest_18 : decode cX7_rest 18 = .ok (.ireturn, 1) := by decide +kernel
theorem dX7_rest_19 : decode cX7_rest 19 = .ok (.iload_n 2, 1) := by decide +kernel
theorem dX7_rest_20 : decode cX7_rest 20 = .ok (.istore_n 3, 1) := by decide +kernel
theorem dX7_rest_21 : decode cX7_rest 21 = .ok (.iconst 0, 1) := by decide +kernel
theorem dX7_rest_22 : decode cX7_rest 22 = .ok (.istore 4, 2) := by decide +kernel
theorem dX7_rest_24 : decode cX7_rest 24 = .ok (.iload 4, 2) := by decide +kernel
theorem dX7_rest_26 : decode cX7_rest 26 = .ok (.aload_n 0, 1) := by decide +kernel
theorem dX7_rest_27 : decode cX7_rest 27 = .ok (.iload_n 1, 1) := by decide +kernel
theorem dX7_rest_28 : decode cX7_rest 28 = .ok (.invokevirtual 96, 3) := by decide +kernel
theorem dX7_rest_31 : decode cX7_rest 31 = .ok (.if_icmp .gt 29, 3) := by decide +kernel
theorem dX7_rest_34 : decode cX7_rest 34 = .ok (.aload_n 0, 1) := by decide +kernel
theorem dX7_rest_35 : decode cX7_rest 35 = .ok (.iload_n 1, 1) := by decide +kernel
theorem dX7_rest_36 : decode cX7_rest 36 = .ok (.iload 4, 2) := by decide +kernel
theorem dX7_rest_38 : decode cX7_rest 38 = .ok (.invokevirtual 256, 3) := by decide +kernel
theorem dX7_rest_41 : decode cX7_rest 41 = .ok (.ifCond .eq 13, 3) := by decide +kernel
theorem dX7_rest_44 : decode cX7_rest 44 = .ok (.iload_n 3, 1) := by decide +kernel
theorem dX7_rest_45 : decode cX7_rest 45 = .ok (.ifCond .ne 6, 3) := by decide +kernel
theorem dX7_rest_48 : decode cX7_rest 48 = .ok (.iload 4, 2) := by decide +kernel
theorem dX7_rest_50 : decode cX7_rest 50 = .ok (.ireturn, 1) := by decide +kernel
theorem dX7_rest_51 : decode cX7_rest 51 = .ok (.iinc 3 (-1), 3) := by decide +kernel
theorem dX7_rest_54 : decode cX7_rest 54 = .ok (.iinc 4 1, 3) := by decide +kernel
theorem dX7_rest_57 : decode cX7_rest 57 = .ok (.goto (-33), 3) := by decide +kernel
theorem dX7_rest_60 : decode cX7_rest 60 = .ok (.aload_n 0, 1) := by decide +kernel
theorem dX7_rest_61 : decode cX7_rest 61 = .ok (.bipush (-2), 2) := by decide +kernel
theorem dX7_rest_63 : decode cX7_rest 63 = .ok (.invokevirtual 106, 3) := by decide +kernel
theorem dX7_rest_66 : decode cX7_rest 66 = .ok (.ireturn, 1) := by decide +kernel
theorem dX7_fewest_0 : decode cX7_fewest 0 = .ok (.aload_n 0, 1) := by decide +kernel
theorem dX7_fewest_1 : decode cX7_fewest 1 = .ok (.iload_n 1, 1) := by decide +kernel
theorem dX7_fewest_2 : decode cX7_fewest 2 = .ok (.iconst 0, 1) := by decide +kernel
theorem dX7_fewest_3 : decode cX7_fewest 3 = .ok (.invokevirtual 271, 3) := by decide +kernel
theorem dX7_fewest_6 : decode cX7_fewest 6 = .ok (.ireturn, 1) := by decide +kernel
theorem dX7_most_0 : decode cX7_most 0 = .ok (.aload_n 0, 1) := by decide +kernel
theorem dX7_most_1 : decode cX7_most 1 = .ok (.iload_n 1, 1) := by decide +kernel
theorem dX7_most_2 : decode cX7_most 2 = .ok (.iconst 1, 1) := by decide +kernel
theorem dX7_most_3 : decode cX7_most 3 = .ok (.invokevirtual 271, 3) := by decide +kernel
theorem dX7_most_6 : decode cX7_most 6 = .ok (.ireturn, 1) := by decide +kernel
theorem dX7_cheap_0 : decode cX7_cheap 0 = .ok (.aload_n 0, 1) := by decide +kernel
theorem dX7_cheap_1 : decode cX7_cheap 1 = .ok (.iload_n 1, 1) := by decide +kernel
theorem dX7_cheap_2 : decode cX7_cheap 2 = .ok (.iconst 2, 1) := by decide +kernel
theorem dX7_cheap_3 : decode cX7_cheap 3 = .ok (.invokevirtual 271, 3) := by decide +kernel
theorem dX7_cheap_6 : decode cX7_cheap 6 = .ok (.ireturn, 1) := by decide +kernel
theorem dX7_best_0 : decode cX7_best 0 = .ok (.aload_n 0, 1) := by decide +kernel
theorem dX7_best_1 : decode cX7_best 1 = .ok (.iload_n 1, 1) := by decide +kernel
theorem dX7_best_2 : decode cX7_best 2 = .ok (.iconst 3, 1) := by decide +kernel
theorem dX7_best_3 : decode cX7_best 3 = .ok (.invokevirtual 271, 3) := by decide +kernel
theorem dX7_best_6 : decode cX7_best 6 = .ok (.ireturn, 1) := by decide +kernel
theorem dX7_goodSet_0 : decode cX7_goodSet 0 = .ok (.iconst (-1), 1) := by decide +kernel
theorem dX7_goodSet_1 : decode cX7_goodSet 1 = .ok (.istore_n 2, 1) := by decide +kernel
theorem dX7_goodSet_2 : decode cX7_goodSet 2 = .ok (.iconst 0, 1) := by decide +kernel
theorem dX7_goodSet_3 : decode cX7_goodSet 3 = .ok (.istore_n 3, 1) := by decide +kernel
theorem dX7_goodSet_4 : decode cX7_goodSet 4 = .ok (.iconst 0, 1) := by decide +kernel
theorem dX7_goodSet_5 : decode cX7_goodSet 5 = .ok (.istore 4, 2) := by decide +kernel
theorem dX7_goodSet_7 : decode cX7_goodSet 7 = .ok (.iload 4, 2) := by decide +kernel
theorem dX7_goodSet_9 : decode cX7_goodSet 9 = .ok (.aload_n 0, 1) := by decide +kernel
theorem dX7_goodSet_10 : decode cX7_goodSet 10 = .ok (.iload_n 1, 1) := by decide +kernel
theorem dX7_goodSet_11 : decode cX7_goodSet 11 = .ok (.invokevirtual 96, 3) := by decide +kernel
theorem dX7_goodSet_14 : decode cX7_goodSet 14 = .ok (.if_icmp .gt 53, 3) := by decide +kernel
theorem dX7_goodSet_17 : decode cX7_goodSet 17 = .ok (.iload 4, 2) := by decide +kernel
theorem dX7_goodSet_19 : decode cX7_goodSet 19 = .ok (.aload_n 0, 1) := by decide +kernel
theorem dX7_goodSet_20 : decode cX7_goodSet 20 = .ok (.getfield 46, 3) := by decide +kernel
theorem dX7_goodSet_23 : decode cX7_goodSet 23 = .ok (.iload_n 1, 1) := by decide +kernel
theorem dX7_goodSet_24 : decode cX7_goodSet 24 = .ok (.iaload, 1) := by decide +kernel
theorem dX7_goodSet_25 : decode cX7_goodSet 25 = .ok (.iand, 1) := by decide +kernel
theorem dX7_goodSet_26 : decode cX7_goodSet 26 = .ok (.aload_n 0, 1) := by decide +kernel
theorem dX7_goodSet_27 : decode cX7_goodSet 27 = .ok (.getfield 46, 3) := by decide +kernel
theorem dX7_goodSet_30 : decode cX7_goodSet 30 = .ok (.iload_n 1, 1) := by decide +kernel
theorem dX7_goodSet_31 : decode cX7_goodSet 31 = .ok (.iaload, 1) := by decide +kernel
theorem dX7_goodSet_32 : decode cX7_goodSet 32 = .ok (.if_icmp .ne 29, 3) := by decide +kernel
theorem dX7_goodSet_35 : decode cX7_goodSet 35 = .ok (.aload_n 0, 1) := by decide +kernel
theorem dX7_goodSet_36 : decode cX7_goodSet 36 = .ok (.iload_n 1, 1) := by decide +kernel
theorem dX7_goodSet_37 : decode cX7_goodSet 37 = .ok (.iload 4, 2) := by decide +kernel
theorem dX7_goodSet_39 : decode cX7_goodSet 39 = .ok (.invokevirtual 250, 3) := by decide +kernel
theorem dX7_goodSet_42 : decode cX7_goodSet 42 = .ok (.istore 5, 2) := by decide +kernel
theorem dX7_goodSet_44 : decode cX7_goodSet 44 = .ok (.iload_n 2, 1) := by decide +kernel
theorem dX7_goodSet_45 : decode cX7_goodSet 45 = .ok (.iconst (-1), 1) := by decide +kernel
theorem dX7_goodSet_46 : decode cX7_goodSet 46 = .ok (.if_icmp .eq 9, 3) := by decide +kernel
theorem dX7_goodSet_49 : decode cX7_goodSet 49 = .ok (.iload 5, 2) := by decide +kernel
theorem dX7_goodSet_51 : decode cX7_goodSet 51 = .ok (.iload_n 3, 1) := by decide +kernel
theorem dX7_goodSet_52 : decode cX7_goodSet 52 = .ok (.if_icmp .le 9, 3) := by decide +kernel
theorem dX7_goodSet_55 : decode cX7_goodSet 55 = .ok (.iload 4, 2) := by decide +kernel
theorem dX7_goodSet_57 : decode cX7_goodSet 57 = .ok (.istore_n 2, 1) := by decide +kernel
theorem dX7_goodSet_58 : decode cX7_goodSet 58 = .ok (.iload 5, 2) := by decide +kernel
theorem dX7_goodSet_60 : decode cX7_goodSet 60 = .ok (.istore_n 3, 1) := by decide +kernel
theorem dX7_goodSet_61 : decode cX7_goodSet 61 = .ok (.iinc 4 1, 3) := by decide +kernel
theorem dX7_goodSet_64 : decode cX7_goodSet 64 = .ok (.goto (-57), 3) := by decide +kernel
theorem dX7_goodSet_67 : decode cX7_goodSet 67 = .ok (.iload_n 2, 1) := by decide +kernel
theorem dX7_goodSet_68 : decode cX7_goodSet 68 = .ok (.ireturn, 1) := by decide +kernel
theorem dX7_good_0 : decode cX7_good 0 = .ok (.aload_n 0, 1) := by decide +kernel
theorem dX7_good_1 : decode cX7_good 1 = .ok (.iload_n 1, 1) := by decide +kernel
theorem dX7_good_2 : decode cX7_good 2 = .ok (.invokevirtual 92, 3) := by decide +kernel
theorem dX7_good_5 : decode cX7_good 5 = .ok (.ifCond .eq 11, 3) := by decide +kernel
theorem dX7_good_8 : decode cX7_good 8 = .ok (.aload_n 0, 1) := by decide +kernel
theorem dX7_good_9 : decode cX7_good 9 = .ok (.iload_n 1, 1) := by decide +kernel
theorem dX7_good_10 : decode cX7_good 10 = .ok (.invokevirtual 274, 3) := by decide +kernel
theorem dX7_good_13 : decode cX7_good 13 = .ok (.goto 9, 3) := by decide +kernel
theorem dX7_good_16 : decode cX7_good 16 = .ok (.aload_n 0, 1) := by decide +kernel
theorem dX7_good_17 : decode cX7_good 17 = .ok (.bipush (-2), 2) := by decide +kernel
theorem dX7_good_19 : decode cX7_good 19 = .ok (.invokevirtual 106, 3) := by decide +kernel
theorem dX7_good_22 : decode cX7_good 22 = .ok (.ireturn, 1) := by decide +kernel
theorem dX7_below_0 : decode cX7_below 0 = .ok (.aload_n 0, 1) := by decide +kernel
theorem dX7_below_1 : decode cX7_below 1 = .ok (.iload_n 1, 1) := by decide +kernel
theorem dX7_below_2 : decode cX7_below 2 = .ok (.iload_n 2, 1) := by decide +kernel
theorem dX7_below_3 : decode cX7_below 3 = .ok (.invokevirtual 268, 3) := by decide +kernel
theorem dX7_below_6 : decode cX7_below 6 = .ok (.istore_n 3, 1) := by decide +kernel
theorem dX7_below_7 : decode cX7_below 7 = .ok (.iload_n 3, 1) := by decide +kernel
theorem dX7_below_8 : decode cX7_below 8 = .ok (.iconst (-1), 1) := by decide +kernel
theorem dX7_below_9 : decode cX7_below 9 = .ok (.if_icmp .ne 7, 3) := by decide +kernel
theorem dX7_below_12 : decode cX7_below 12 = .ok (.iconst (-1), 1) := by decide +kernel
theorem dX7_below_13 : decode cX7_below 13 = .ok (.goto 20, 3) := by decide +kernel
theorem dX7_below_16 : decode cX7_below 16 = .ok (.aload_n 0, 1) := by decide +kernel
theorem dX7_below_17 : decode cX7_below 17 = .ok (.iload_n 1, 1) := by decide +kernel
theorem dX7_below_18 : decode cX7_below 18 = .ok (.aload_n 0, 1) := by decide +kernel
theorem dX7_below_19 : decode cX7_below 19 = .ok (.iload_n 1, 1) := by decide +kernel
theorem dX7_below_20 : decode cX7_below 20 = .ok (.invokevirtual 274, 3) := by decide +kernel
theorem dX7_below_23 : decode cX7_below 23 = .ok (.invokevirtual 250, 3) := by decide +kernel
theorem dX7_below_26 : decode cX7_below 26 = .ok (.aload_n 0, 1) := by decide +kernel
theorem dX7_below_27 : decode cX7_below 27 = .ok (.iload_n 1, 1) := by decide +kernel
theorem dX7_below_28 : decode cX7_below 28 = .ok (.iload_n 3, 1) := by decide +kernel
theorem dX7_below_29 : decode cX7_below 29 = .ok (.invokevirtual 250, 3) := by decide +kernel
theorem dX7_below_32 : decode cX7_below 32 = .ok (.isub, 1) := by decide +kernel
theorem dX7_below_33 : decode cX7_below 33 = .ok (.ireturn, 1) := by decide +kernel
theorem dX7_lost_0 : decode cX7_lost 0 = .ok (.aload_n 0, 1) := by decide +kernel
theorem dX7_lost_1 : decode cX7_lost 1 = .ok (.iload_n 1, 1) := by decide +kernel
theorem dX7_lost_2 : decode cX7_lost 2 = .ok (.invokevirtual 92, 3) := by decide +kernel
theorem dX7_lost_5 : decode cX7_lost 5 = .ok (.ifCond .eq 12, 3) := by decide +kernel
theorem dX7_lost_8 : decode cX7_lost 8 = .ok (.aload_n 0, 1) := by decide +kernel
theorem dX7_lost_9 : decode cX7_lost 9 = .ok (.iload_n 1, 1) := by decide +kernel
theorem dX7_lost_10 : decode cX7_lost 10 = .ok (.iconst 3, 1) := by decide +kernel
theorem dX7_lost_11 : decode cX7_lost 11 = .ok (.invokevirtual 277, 3) := by decide +kernel
theorem dX7_lost_14 : decode cX7_lost 14 = .ok (.goto 9, 3) := by decide +kernel
theorem dX7_lost_17 : decode cX7_lost 17 = .ok (.aload_n 0, 1) := by decide +kernel
theorem dX7_lost_18 : decode cX7_lost 18 = .ok (.bipush (-2), 2) := by decide +kernel
theorem dX7_lost_20 : decode cX7_lost 20 = .ok (.invokevirtual 106, 3) := by decide +kernel
theorem dX7_lost_23 : decode cX7_lost 23 = .ok (.ireturn, 1) := by decide +kernel
theorem dX7_beside_0 : decode cX7_beside 0 = .ok (.aload_n 0, 1) := by decide +kernel
theorem dX7_beside_1 : decode cX7_beside 1 = .ok (.iload_n 1, 1) := by decide +kernel
theorem dX7_beside_2 : decode cX7_beside 2 = .ok (.invokevirtual 92, 3) := by decide +kernel
theorem dX7_beside_5 : decode cX7_beside 5 = .ok (.ifCond .eq 12, 3) := by decide +kernel
theorem dX7_beside_8 : decode cX7_beside 8 = .ok (.aload_n 0, 1) := by decide +kernel
theorem dX7_beside_9 : decode cX7_beside 9 = .ok (.iload_n 1, 1) := by decide +kernel
theorem dX7_beside_10 : decode cX7_beside 10 = .ok (.iconst 4, 1) := by decide +kernel
theorem dX7_beside_11 : decode cX7_beside 11 = .ok (.invokevirtual 277, 3) := by decide +kernel
theorem dX7_beside_14 : decode cX7_beside 14 = .ok (.goto 9, 3) := by decide +kernel
theorem dX7_beside_17 : decode cX7_beside 17 = .ok (.aload_n 0, 1) := by decide +kernel
theorem dX7_beside_18 : decode cX7_beside 18 = .ok (.bipush (-2), 2) := by decide +kernel
theorem dX7_beside_20 : decode cX7_beside 20 = .ok (.invokevirtual 106, 3) := by decide +kernel
theorem dX7_beside_23 : decode cX7_beside 23 = .ok (.ireturn, 1) := by decide +kernel
theorem dX7_inTurn_0 : decode cX7_inTurn 0 = .ok (.iload_n 2, 1) := by decide +kernel
theorem dX7_inTurn_1 : decode cX7_inTurn 1 = .ok (.aload_n 0, 1) := by decide +kernel
theorem dX7_inTurn_2 : decode cX7_inTurn 2 = .ok (.getfield 46, 3) := by decide +kernel
theorem dX7_inTurn_5 : decode cX7_inTurn 5 = .ok (.iload_n 1, 1) := by decide +kernel
theorem dX7_inTurn_6 : decode cX7_inTurn 6 = .ok (.iaload, 1) := by decide +kernel
theorem dX7_inTurn_7 : decode cX7_inTurn 7 = .ok (.ior, 1) := by decide +kernel
theorem dX7_inTurn_8 : decode cX7_inTurn 8 = .ok (.istore_n 3, 1) := by decide +kernel
theorem dX7_inTurn_9 : decode cX7_inTurn 9 = .ok (.iconst 0, 1) := by decide +kernel
theorem dX7_inTurn_10 : decode cX7_inTurn 10 = .ok (.istore 4, 2) := by decide +kernel
theorem dX7_inTurn_12 : decode cX7_inTurn 12 = .ok (.aload_n 0, 1) := by decide +kernel
theorem dX7_inTurn_13 : decode cX7_inTurn 13 = .ok (.getfield 82, 3) := by decide +kernel
theorem dX7_inTurn_16 : decode cX7_inTurn 16 = .ok (.iconst 0, 1) := by decide +kernel
theorem dX7_inTurn_17 : decode cX7_inTurn 17 = .ok (.iload_n 3, 1) := by decide +kernel
theorem dX7_inTurn_18 : decode cX7_inTurn 18 = .ok (.iastore, 1) := by decide +kernel
theorem dX7_inTurn_19 : decode cX7_inTurn 19 = .ok (.aload_n 0, 1) := by decide +kernel
theorem dX7_inTurn_20 : decode cX7_inTurn 20 = .ok (.iconst 0, 1) := by decide +kernel
theorem dX7_inTurn_21 : decode cX7_inTurn 21 = .ok (.putfield 280, 3) := by decide +kernel
theorem dX7_inTurn_24 : decode cX7_inTurn 24 = .ok (.aload_n 0, 1) := by decide +kernel
theorem dX7_inTurn_25 : decode cX7_inTurn 25 = .ok (.iconst 0, 1) := by decide +kernel
theorem dX7_inTurn_26 : decode cX7_inTurn 26 = .ok (.putfield 283, 3) := by decide +kernel
theorem dX7_inTurn_29 : decode cX7_inTurn 29 = .ok (.iload_n 3, 1) := by decide +kernel
theorem dX7_inTurn_30 : decode cX7_inTurn 30 = .ok (.istore 5, 2) := by decide +kernel
theorem dX7_inTurn_32 : decode cX7_inTurn 32 = .ok (.iconst 0, 1) := by decide +kernel
theorem dX7_inTurn_33 : decode cX7_inTurn 33 = .ok (.istore 6, 2) := by decide +kernel
theorem dX7_inTurn_35 : decode cX7_inTurn 35 = .ok (.iconst 0, 1) := by decide +kernel
theorem dX7_inTurn_36 : decode cX7_inTurn 36 = .ok (.istore 7, 2) := by decide +kernel
theorem dX7_inTurn_38 : decode cX7_inTurn 38 = .ok (.iload 7, 2) := by decide +kernel
theorem dX7_inTurn_40 : decode cX7_inTurn 40 = .ok (.aload_n 0, 1) := by decide +kernel
theorem dX7_inTurn_41 : decode cX7_inTurn 41 = .ok (.getfield 40, 3) := by decide +kernel
theorem dX7_inTurn_44 : decode cX7_inTurn 44 = .ok (.iload_n 1, 1) := by decide +kernel
theorem dX7_inTurn_45 : decode cX7_inTurn 45 = .ok (.iaload, 1) := by decide +kernel
theorem dX7_inTurn_46 : decode cX7_inTurn 46 = .ok (.if_icmp .ge 30, 3) := by decide +kernel
theorem dX7_inTurn_49 : decode cX7_inTurn 49 = .ok (.aload_n 0, 1) := by decide +kernel
theorem dX7_inTurn_50 : decode cX7_inTurn 50 = .ok (.iload_n 1, 1) := by decide +kernel
theorem dX7_inTurn_51 : decode cX7_inTurn 51 = .ok (.iload 7, 2) := by decide +kernel
theorem dX7_inTurn_53 : decode cX7_inTurn 53 = .ok (.iload_n 3, 1) := by decide +kernel
theorem dX7_inTurn_54 : decode cX7_inTurn 54 = .ok (.invokevirtual 245, 3) := by decide +kernel
theorem dX7_inTurn_57 : decode cX7_inTurn 57 = .ok (.ifCond .eq 13, 3) := by decide +kernel
theorem dX7_inTurn_60 : decode cX7_inTurn 60 = .ok (.iload_n 3, 1) := by decide +kernel
theorem dX7_inTurn_61 : decode cX7_inTurn 61 = .ok (.iconst 1, 1) := by decide +kernel
theorem dX7_inTurn_62 : decode cX7_inTurn 62 = .ok (.iload 7, 2) := by decide +kernel
theorem dX7_inTurn_64 : decode cX7_inTurn 64 = .ok (.ishl, 1) := by decide +kernel
theorem dX7_inTurn_65 : decode cX7_inTurn 65 = .ok (.ixor, 1) := by decide +kernel
theorem dX7_inTurn_66 : decode cX7_inTurn 66 = .ok (.istore_n 3, 1) := by decide +kernel
theorem dX7_inTurn_67 : decode cX7_inTurn 67 = .ok (.iinc 6 1, 3) := by decide +kernel
theorem dX7_inTurn_70 : decode cX7_inTurn 70 = .ok (.iinc 7 1, 3) := by decide +kernel
theorem dX7_inTurn_73 : decode cX7_inTurn 73 = .ok (.goto (-35), 3) := by decide +kernel
theorem dX7_inTurn_76 : decode cX7_inTurn 76 = .ok (.aload_n 0, 1) := by decide +kernel
theorem dX7_inTurn_77 : decode cX7_inTurn 77 = .ok (.dup, 1) := by decide +kernel
theorem dX7_inTurn_78 : decode cX7_inTurn 78 = .ok (.getfield 280, 3) := by decide +kernel
theorem dX7_inTurn_81 : decode cX7_inTurn 81 = .ok (.iload 6, 2) := by decide +kernel
theorem dX7_inTurn_83 : decode cX7_inTurn 83 = .ok (.iadd, 1) := by decide +kernel
theorem dX7_inTurn_84 : decode cX7_inTurn 84 = .ok (.putfield 280, 3) := by decide +kernel
theorem dX7_inTurn_87 : decode cX7_inTurn 87 = .ok (.aload_n 0, 1) := by decide +kernel
theorem dX7_inTurn_88 : decode cX7_inTurn 88 = .ok (.iload_n 3, 1) := by decide +kernel
theorem dX7_inTurn_89 : decode cX7_inTurn 89 = .ok (.putfield 286, 3) := by decide +kernel
theorem dX7_inTurn_92 : decode cX7_inTurn 92 = .ok (.iload 6, 2) := by decide +kernel
theorem dX7_inTurn_94 : decode cX7_inTurn 94 = .ok (.ifCond .ne 4, 3) := by decide +kernel
theorem dX7_inTurn_97 : decode cX7_inTurn 97 = .ok (.return_, 1) := by decide +kernel
theorem dX7_inTurn_98 : decode cX7_inTurn 98 = .ok (.iinc 4 1, 3) := by decide +kernel
theorem dX7_inTurn_101 : decode cX7_inTurn 101 = .ok (.iconst 0, 1) := by decide +kernel
theorem dX7_inTurn_102 : decode cX7_inTurn 102 = .ok (.istore 7, 2) := by decide +kernel
theorem dX7_inTurn_104 : decode cX7_inTurn 104 = .ok (.iload 7, 2) := by decide +kernel
theorem dX7_inTurn_106 : decode cX7_inTurn 106 = .ok (.iload 4, 2) := by decide +kernel
theorem dX7_inTurn_108 : decode cX7_inTurn 108 = .ok (.if_icmp .ge 30, 3) := by decide +kernel
theorem dX7_inTurn_111 : decode cX7_inTurn 111 = .ok (.aload_n 0, 1) := by decide +kernel
theorem dX7_inTurn_112 : decode cX7_inTurn 112 = .ok (.getfield 82, 3) := by decide +kernel
theorem dX7_inTurn_115 : decode cX7_inTurn 115 = .ok (.iload 7, 2) := by decide +kernel
theorem dX7_inTurn_117 : decode cX7_inTurn 117 = .ok (.iaload, 1) := by decide +kernel
theorem dX7_inTurn_118 : decode cX7_inTurn 118 = .ok (.iload_n 3, 1) := by decide +kernel
theorem dX7_inTurn_119 : decode cX7_inTurn 119 = .ok (.if_icmp .ne 13, 3) := by decide +kernel
theorem dX7_inTurn_122 : decode cX7_inTurn 122 = .ok (.aload_n 0, 1) := by decide +kernel
theorem dX7_inTurn_123 : decode cX7_inTurn 123 = .ok (.iload 4, 2) := by decide +kernel
theorem dX7_inTurn_125 : decode cX7_inTurn 125 = .ok (.iload 7, 2) := by decide +kernel
theorem dX7_inTurn_127 : decode cX7_inTurn 127 = .ok (.isub, 1) := by decide +kernel
theorem dX7_inTurn_128 : decode cX7_inTurn 128 = .ok (.putfield 283, 3) := by decide +kernel
theorem dX7_inTurn_131 : decode cX7_inTurn 131 = .ok (.return_, 1) := by decide +kernel
theorem dX7_inTurn_132 : decode cX7_inTurn 132 = .ok (.iinc 7 1, 3) := by decide +kernel
theorem dX7_inTurn_135 : decode cX7_inTurn 135 = .ok (.goto (-31), 3) := by decide +kernel
theorem dX7_inTurn_138 : decode cX7_inTurn 138 = .ok (.aload_n 0, 1) := by decide +kernel
theorem dX7_inTurn_139 : decode cX7_inTurn 139 = .ok (.getfield 82, 3) := by decide +kernel
theorem dX7_inTurn_142 : decode cX7_inTurn 142 = .ok (.iload 4, 2) := by decide +kernel
theorem dX7_inTurn_144 : decode cX7_inTurn 144 = .ok (.iload_n 3, 1) := by decide +kernel
theorem dX7_inTurn_145 : decode cX7_inTurn 145 = .ok (.iastore, 1) := by decide +kernel
theorem dX7_inTurn_146 : decode cX7_inTurn 146 = .ok (.goto (-117), 3) := by decide +kernel
theorem dX7_go_0 : decode cX7_go 0 = .ok (.aload_n 0, 1) := by decide +kernel
theorem dX7_go_1 : decode cX7_go 1 = .ok (.iload_n 1, 1) := by decide +kernel
theorem dX7_go_2 : decode cX7_go 2 = .ok (.iload_n 2, 1) := by decide +kernel
theorem dX7_go_3 : decode cX7_go 3 = .ok (.i2l, 1) := by decide +kernel
theorem dX7_go_4 : decode cX7_go 4 = .ok (.invokevirtual 237, 3) := by decide +kernel
theorem dX7_go_7 : decode cX7_go 7 = .ok (.ifCond .ne 10, 3) := by decide +kernel
theorem dX7_go_10 : decode cX7_go 10 = .ok (.aload_n 0, 1) := by decide +kernel
theorem dX7_go_11 : decode cX7_go 11 = .ok (.bipush (-2), 2) := by decide +kernel
theorem dX7_go_13 : decode cX7_go 13 = .ok (.invokevirtual 106, 3) := by decide +kernel
theorem dX7_go_16 : decode cX7_go 16 = .ok (.ireturn, 1) := by decide +kernel
theorem dX7_go_17 : decode cX7_go 17 = .ok (.aload_n 0, 1) := by decide +kernel
theorem dX7_go_18 : decode cX7_go 18 = .ok (.iload_n 1, 1) := by decide +kernel
theorem dX7_go_19 : decode cX7_go 19 = .ok (.iload_n 2, 1) := by decide +kernel
theorem dX7_go_20 : decode cX7_go 20 = .ok (.invokevirtual 289, 3) := by decide +kernel
theorem dX7_go_23 : decode cX7_go 23 = .ok (.aload_n 0, 1) := by decide +kernel
theorem dX7_go_24 : decode cX7_go 24 = .ok (.getfield 283, 3) := by decide +kernel
theorem dX7_go_27 : decode cX7_go 27 = .ok (.ifCond .le 12, 3) := by decide +kernel
theorem dX7_go_30 : decode cX7_go 30 = .ok (.aload_n 0, 1) := by decide +kernel
theorem dX7_go_31 : decode cX7_go 31 = .ok (.bipush (-5), 2) := by decide +kernel
theorem dX7_go_33 : decode cX7_go 33 = .ok (.invokevirtual 106, 3) := by decide +kernel
theorem dX7_go_36 : decode cX7_go 36 = .ok (.goto 7, 3) := by decide +kernel
theorem dX7_go_39 : decode cX7_go 39 = .ok (.aload_n 0, 1) := by decide +kernel
theorem dX7_go_40 : decode cX7_go 40 = .ok (.getfield 286, 3) := by decide +kernel
theorem dX7_go_43 : decode cX7_go 43 = .ok (.ireturn, 1) := by decide +kernel
theorem dX7_turns_0 : decode cX7_turns 0 = .ok (.aload_n 0, 1) := by decide +kernel
theorem dX7_turns_1 : decode cX7_turns 1 = .ok (.iload_n 1, 1) := by decide +kernel
theorem dX7_turns_2 : decode cX7_turns 2 = .ok (.iload_n 2, 1) := by decide +kernel
theorem dX7_turns_3 : decode cX7_turns 3 = .ok (.i2l, 1) := by decide +kernel
theorem dX7_turns_4 : decode cX7_turns 4 = .ok (.invokevirtual 237, 3) := by decide +kernel
theorem dX7_turns_7 : decode cX7_turns 7 = .ok (.ifCond .ne 10, 3) := by decide +kernel
theorem dX7_turns_10 : decode cX7_turns 10 = .ok (.aload_n 0, 1) := by decide +kernel
theorem dX7_turns_11 : decode cX7_turns 11 = .ok (.bipush (-2), 2) := by decide +kernel
theorem dX7_turns_13 : decode cX7_turns 13 = .ok (.invokevirtual 106, 3) := by decide +kernel
theorem dX7_turns_16 : decode cX7_turns 16 = .ok (.ireturn, 1) := by decide +kernel
theorem dX7_turns_17 : decode cX7_turns 17 = .ok (.aload_n 0, 1) := by decide +kernel
theorem dX7_turns_18 : decode cX7_turns 18 = .ok (.iload_n 1, 1) := by decide +kernel
theorem dX7_turns_19 : decode cX7_turns 19 = .ok (.iload_n 2, 1) := by decide +kernel
theorem dX7_turns_20 : decode cX7_turns 20 = .ok (.invokevirtual 289, 3) := by decide +kernel
theorem dX7_turns_23 : decode cX7_turns 23 = .ok (.aload_n 0, 1) := by decide +kernel
theorem dX7_turns_24 : decode cX7_turns 24 = .ok (.getfield 280, 3) := by decide +kernel
theorem dX7_turns_27 : decode cX7_turns 27 = .ok (.ireturn, 1) := by decide +kernel
theorem dX7_ring_0 : decode cX7_ring 0 = .ok (.aload_n 0, 1) := by decide +kernel
theorem dX7_ring_1 : decode cX7_ring 1 = .ok (.iload_n 1, 1) := by decide +kernel
theorem dX7_ring_2 : decode cX7_ring 2 = .ok (.iload_n 2, 1) := by decide +kernel
theorem dX7_ring_3 : decode cX7_ring 3 = .ok (.i2l, 1) := by decide +kernel
theorem dX7_ring_4 : decode cX7_ring 4 = .ok (.invokevirtual 237, 3) := by decide +kernel
theorem dX7_ring_7 : decode cX7_ring 7 = .ok (.ifCond .ne 10, 3) := by decide +kernel
theorem dX7_ring_10 : decode cX7_ring 10 = .ok (.aload_n 0, 1) := by decide +kernel
theorem dX7_ring_11 : decode cX7_ring 11 = .ok (.bipush (-2), 2) := by decide +kernel
theorem dX7_ring_13 : decode cX7_ring 13 = .ok (.invokevirtual 106, 3) := by decide +kernel
theorem dX7_ring_16 : decode cX7_ring 16 = .ok (.ireturn, 1) := by decide +kernel
theorem dX7_ring_17 : decode cX7_ring 17 = .ok (.aload_n 0, 1) := by decide +kernel
theorem dX7_ring_18 : decode cX7_ring 18 = .ok (.iload_n 1, 1) := by decide +kernel
theorem dX7_ring_19 : decode cX7_ring 19 = .ok (.iload_n 2, 1) := by decide +kernel
theorem dX7_ring_20 : decode cX7_ring 20 = .ok (.invokevirtual 289, 3) := by decide +kernel
theorem dX7_ring_23 : decode cX7_ring 23 = .ok (.aload_n 0, 1) := by decide +kernel
theorem dX7_ring_24 : decode cX7_ring 24 = .ok (.getfield 283, 3) := by decide +kernel
theorem dX7_ring_27 : decode cX7_ring 27 = .ok (.ireturn, 1) := by decide +kernel
theorem dX7_power_0 : decode cX7_power 0 = .ok (.lconst 1, 1) := by decide +kernel
theorem dX7_power_1 : decode cX7_power 1 = .ok (.lstore_n 3, 1) := by decide +kernel
theorem dX7_power_2 : decode cX7_power 2 = .ok (.iconst 0, 1) := by decide +kernel
theorem dX7_power_3 : decode cX7_power 3 = .ok (.istore 5, 2) := by decide +kernel
theorem dX7_power_5 : decode cX7_power 5 = .ok (.iload 5, 2) := by decide +kernel
theorem dX7_power_7 : decode cX7_power 7 = .ok (.iload_n 2, 1) := by decide +kernel
theorem dX7_power_8 : decode cX7_power 8 = .ok (.if_icmp .ge 13, 3) := by decide +kernel
theorem dX7_power_11 : decode cX7_power 11 = .ok (.lload_n 3, 1) := by decide +kernel
theorem dX7_power_12 : decode cX7_power 12 = .ok (.lload_n 0, 1) := by decide +kernel
theorem dX7_power_13 : decode cX7_power 13 = .ok (.lmul, 1) := by decide +kernel
theorem dX7_power_14 : decode cX7_power 14 = .ok (.lstore_n 3, 1) := by decide +kernel
theorem dX7_power_15 : decode cX7_power 15 = .ok (.iinc 5 1, 3) := by decide +kernel
theorem dX7_power_18 : decode cX7_power 18 = .ok (.goto (-13), 3) := by decide +kernel
theorem dX7_power_21 : decode cX7_power 21 = .ok (.lload_n 3, 1) := by decide +kernel
theorem dX7_power_22 : decode cX7_power 22 = .ok (.lreturn, 1) := by decide +kernel
theorem dX7_areChances_0 : decode cX7_areChances 0 = .ok (.iload_n 0, 1) := by decide +kernel
theorem dX7_areChances_1 : decode cX7_areChances 1 = .ok (.i2l, 1) := by decide +kernel
theorem dX7_areChances_2 : decode cX7_areChances 2 = .ok (.lconst 1, 1) := by decide +kernel
theorem dX7_areChances_3 : decode cX7_areChances 3 = .ok (.ldc2_w 233, 3) := by decide +kernel
theorem dX7_areChances_6 : decode cX7_areChances 6 = .ok (.invokestatic 88, 3) := by decide +kernel
theorem dX7_areChances_9 : decode cX7_areChances 9 = .ok (.ifCond .eq 31, 3) := by decide +kernel
theorem dX7_areChances_12 : decode cX7_areChances 12 = .ok (.iload_n 1, 1) := by decide +kernel
theorem dX7_areChances_13 : decode cX7_areChances 13 = .ok (.i2l, 1) := by decide +kernel
theorem dX7_areChances_14 : decode cX7_areChances 14 = .ok (.lconst 1, 1) := by decide +kernel
theorem dX7_areChances_15 : decode cX7_areChances 15 = .ok (.ldc2_w 233, 3) := by decide +kernel
theorem dX7_areChances_18 : decode cX7_areChances 18 = .ok (.invokestatic 88, 3) := by decide +kernel
theorem dX7_areChances_21 : decode cX7_areChances 21 = .ok (.ifCond .eq 19, 3) := by decide +kernel
theorem dX7_areChances_24 : decode cX7_areChances 24 = .ok (.iload_n 2, 1) := by decide +kernel
theorem dX7_areChances_25 : decode cX7_areChances 25 = .ok (.i2l, 1) := by decide +kernel
theorem dX7_areChances_26 : decode cX7_areChances 26 = .ok (.lconst 1, 1) := by decide +kernel
theorem dX7_areChances_27 : decode cX7_areChances 27 = .ok (.ldc2_w 119, 3) := by decide +kernel
theorem dX7_areChances_30 : decode cX7_areChances 30 = .ok (.invokestatic 88, 3) := by decide +kernel
theorem dX7_areChances_33 : decode cX7_areChances 33 = .ok (.ifCond .eq 7, 3) := by decide +kernel
theorem dX7_areChances_36 : decode cX7_areChances 36 = .ok (.iconst 1, 1) := by decide +kernel
theorem dX7_areChances_37 : decode cX7_areChances 37 = .ok (.goto 4, 3) := by decide +kernel
theorem dX7_areChances_40 : decode cX7_areChances 40 = .ok (.iconst 0, 1) := by decide +kernel
theorem dX7_areChances_41 : decode cX7_areChances 41 = .ok (.ireturn, 1) := by decide +kernel
theorem dX7_lotOf_0 : decode cX7_lotOf 0 = .ok (.sipush 1000, 3) := by decide +kernel
theorem dX7_lotOf_3 : decode cX7_lotOf 3 = .ok (.istore_n 3, 1) := by decide +kernel
theorem dX7_lotOf_4 : decode cX7_lotOf 4 = .ok (.iload_n 3, 1) := by decide +kernel
theorem dX7_lotOf_5 : decode cX7_lotOf 5 = .ok (.ifCond .le 38, 3) := by decide +kernel
theorem dX7_lotOf_8 : decode cX7_lotOf 8 = .ok (.iload_n 1, 1) := by decide +kernel
theorem dX7_lotOf_9 : decode cX7_lotOf 9 = .ok (.i2l, 1) := by decide +kernel
theorem dX7_lotOf_10 : decode cX7_lotOf 10 = .ok (.sipush 1000, 3) := by decide +kernel
theorem dX7_lotOf_13 : decode cX7_lotOf 13 = .ok (.iload_n 3, 1) := by decide +kernel
theorem dX7_lotOf_14 : decode cX7_lotOf 14 = .ok (.isub, 1) := by decide +kernel
theorem dX7_lotOf_15 : decode cX7_lotOf 15 = .ok (.i2l, 1) := by decide +kernel
theorem dX7_lotOf_16 : decode cX7_lotOf 16 = .ok (.iload_n 2, 1) := by decide +kernel
theorem dX7_lotOf_17 : decode cX7_lotOf 17 = .ok (.invokestatic 292, 3) := by decide +kernel
theorem dX7_lotOf_20 : decode cX7_lotOf 20 = .ok (.lmul, 1) := by decide +kernel
theorem dX7_lotOf_21 : decode cX7_lotOf 21 = .ok (.iload_n 0, 1) := by decide +kernel
theorem dX7_lotOf_22 : decode cX7_lotOf 22 = .ok (.i2l, 1) := by decide +kernel
theorem dX7_lotOf_23 : decode cX7_lotOf 23 = .ok (.ldc2_w 113, 3) := by decide +kernel
theorem dX7_lotOf_26 : decode cX7_lotOf 26 = .ok (.iload_n 2, 1) := by decide +kernel
theorem dX7_lotOf_27 : decode cX7_lotOf 27 = .ok (.invokestatic 292, 3) := by decide +kernel
theorem dX7_lotOf_30 : decode cX7_lotOf 30 = .ok (.lmul, 1) := by decide +kernel
theorem dX7_lotOf_31 : decode cX7_lotOf 31 = .ok (.lcmp, 1) := by decide +kernel
theorem dX7_lotOf_32 : decode cX7_lotOf 32 = .ok (.ifCond .lt 5, 3) := by decide +kernel
theorem dX7_lotOf_35 : decode cX7_lotOf 35 = .ok (.iload_n 3, 1) := by decide +kernel
theorem dX7_lotOf_36 : decode cX7_lotOf 36 = .ok (.ireturn, 1) := by decide +kernel
theorem dX7_lotOf_37 : decode cX7_lotOf 37 = .ok (.iinc 3 (-1), 3) := by decide +kernel
theorem dX7_lotOf_40 : decode cX7_lotOf 40 = .ok (.goto (-36), 3) := by decide +kernel
theorem dX7_lotOf_43 : decode cX7_lotOf 43 = .ok (.iconst 0, 1) := by decide +kernel
theorem dX7_lotOf_44 : decode cX7_lotOf 44 = .ok (.ireturn, 1) := by decide +kernel
theorem dX7_lot_0 : decode cX7_lot 0 = .ok (.iload_n 1, 1) := by decide +kernel
theorem dX7_lot_1 : decode cX7_lot 1 = .ok (.iload_n 2, 1) := by decide +kernel
theorem dX7_lot_2 : decode cX7_lot 2 = .ok (.iload_n 3, 1) := by decide +kernel
theorem dX7_lot_3 : decode cX7_lot 3 = .ok (.invokestatic 296, 3) := by decide +kernel
theorem dX7_lot_6 : decode cX7_lot 6 = .ok (.ifCond .eq 12, 3) := by decide +kernel
theorem dX7_lot_9 : decode cX7_lot 9 = .ok (.iload_n 1, 1) := by decide +kernel
theorem dX7_lot_10 : decode cX7_lot 10 = .ok (.iload_n 2, 1) := by decide +kernel
theorem dX7_lot_11 : decode cX7_lot 11 = .ok (.iload_n 3, 1) := by decide +kernel
theorem dX7_lot_12 : decode cX7_lot 12 = .ok (.invokestatic 299, 3) := by decide +kernel
theorem dX7_lot_15 : decode cX7_lot 15 = .ok (.goto 9, 3) := by decide +kernel
theorem dX7_lot_18 : decode cX7_lot 18 = .ok (.aload_n 0, 1) := by decide +kernel
theorem dX7_lot_19 : decode cX7_lot 19 = .ok (.bipush (-2), 2) := by decide +kernel
theorem dX7_lot_21 : decode cX7_lot 21 = .ok (.invokevirtual 106, 3) := by decide +kernel
theorem dX7_lot_24 : decode cX7_lot 24 = .ok (.ireturn, 1) := by decide +kernel
theorem dX7_nobody_0 : decode cX7_nobody 0 = .ok (.iload_n 1, 1) := by decide +kernel
theorem dX7_nobody_1 : decode cX7_nobody 1 = .ok (.iload_n 2, 1) := by decide +kernel
theorem dX7_nobody_2 : decode cX7_nobody 2 = .ok (.iload_n 3, 1) := by decide +kernel
theorem dX7_nobody_3 : decode cX7_nobody 3 = .ok (.invokestatic 296, 3) := by decide +kernel
theorem dX7_nobody_6 : decode cX7_nobody 6 = .ok (.ifCond .ne 10, 3) := by decide +kernel
theorem dX7_nobody_9 : decode cX7_nobody 9 = .ok (.aload_n 0, 1) := by decide +kernel
theorem dX7_nobody_10 : decode cX7_nobody 10 = .ok (.bipush (-2), 2) := by decide +kernel
theorem dX7_nobody_12 : decode cX7_nobody 12 = .ok (.invokevirtual 106, 3) := by decide +kernel
theorem dX7_nobody_15 : decode cX7_nobody 15 = .ok (.ireturn, 1) := by decide +kernel
theorem dX7_nobody_16 : decode cX7_nobody 16 = .ok (.sipush 1000, 3) := by decide +kernel
theorem dX7_nobody_19 : decode cX7_nobody 19 = .ok (.iload_n 1, 1) := by decide +kernel
theorem dX7_nobody_20 : decode cX7_nobody 20 = .ok (.iload_n 2, 1) := by decide +kernel
theorem dX7_nobody_21 : decode cX7_nobody 21 = .ok (.iload_n 3, 1) := by decide +kernel
theorem dX7_nobody_22 : decode cX7_nobody 22 = .ok (.invokestatic 299, 3) := by decide +kernel
theorem dX7_nobody_25 : decode cX7_nobody 25 = .ok (.isub, 1) := by decide +kernel
theorem dX7_nobody_26 : decode cX7_nobody 26 = .ok (.i2l, 1) := by decide +kernel
theorem dX7_nobody_27 : decode cX7_nobody 27 = .ok (.iload_n 3, 1) := by decide +kernel
theorem dX7_nobody_28 : decode cX7_nobody 28 = .ok (.iconst 1, 1) := by decide +kernel
theorem dX7_nobody_29 : decode cX7_nobody 29 = .ok (.iadd, 1) := by decide +kernel
theorem dX7_nobody_30 : decode cX7_nobody 30 = .ok (.invokestatic 292, 3) := by decide +kernel
theorem dX7_nobody_33 : decode cX7_nobody 33 = .ok (.ldc2_w 113, 3) := by decide +kernel
theorem dX7_nobody_36 : decode cX7_nobody 36 = .ok (.iload_n 3, 1) := by decide +kernel
theorem dX7_nobody_37 : decode cX7_nobody 37 = .ok (.iconst 1, 1) := by decide +kernel
theorem dX7_nobody_38 : decode cX7_nobody 38 = .ok (.isub, 1) := by decide +kernel
theorem dX7_nobody_39 : decode cX7_nobody 39 = .ok (.invokestatic 292, 3) := by decide +kernel
theorem dX7_nobody_42 : decode cX7_nobody 42 = .ok (.ldiv, 1) := by decide +kernel
theorem dX7_nobody_43 : decode cX7_nobody 43 = .ok (.l2i, 1) := by decide +kernel
theorem dX7_nobody_44 : decode cX7_nobody 44 = .ok (.ireturn, 1) := by decide +kernel
theorem dX7_know_0 : decode cX7_know 0 = .ok (.iload_n 1, 1) := by decide +kernel
theorem dX7_know_1 : decode cX7_know 1 = .ok (.i2l, 1) := by decide +kernel
theorem dX7_know_2 : decode cX7_know 2 = .ok (.lconst 0, 1) := by decide +kernel
theorem dX7_know_3 : decode cX7_know 3 = .ok (.ldc2_w 119, 3) := by decide +kernel
theorem dX7_know_6 : decode cX7_know 6 = .ok (.invokestatic 88, 3) := by decide +kernel
theorem dX7_know_9 : decode cX7_know 9 = .ok (.ifCond .eq 15, 3) := by decide +kernel
theorem dX7_know_12 : decode cX7_know 12 = .ok (.iload_n 2, 1) := by decide +kernel
theorem dX7_know_13 : decode cX7_know 13 = .ok (.i2l, 1) := by decide +kernel
theorem dX7_know_14 : decode cX7_know 14 = .ok (.lconst 0, 1) := by decide +kernel
theorem dX7_know_15 : decode cX7_know 15 = .ok (.ldc2_w 302, 3) := by decide +kernel
theorem dX7_know_18 : decode cX7_know 18 = .ok (.invokestatic 88, 3) := by decide +kernel
theorem dX7_know_21 : decode cX7_know 21 = .ok (.ifCond .ne 10, 3) := by decide +kernel
theorem dX7_know_24 : decode cX7_know 24 = .ok (.aload_n 0, 1) := by decide +kernel
theorem dX7_know_25 : decode cX7_know 25 = .ok (.bipush (-2), 2) := by decide +kernel
theorem dX7_know_27 : decode cX7_know 27 = .ok (.invokevirtual 106, 3) := by decide +kernel
theorem dX7_know_30 : decode cX7_know 30 = .ok (.ireturn, 1) := by decide +kernel
theorem dX7_know_31 : decode cX7_know 31 = .ok (.aload_n 0, 1) := by decide +kernel
theorem dX7_know_32 : decode cX7_know 32 = .ok (.getfield 69, 3) := by decide +kernel
theorem dX7_know_35 : decode cX7_know 35 = .ok (.iload_n 1, 1) := by decide +kernel
theorem dX7_know_36 : decode cX7_know 36 = .ok (.iaload, 1) := by decide +kernel
theorem dX7_know_37 : decode cX7_know 37 = .ok (.istore_n 3, 1) := by decide +kernel
theorem dX7_know_38 : decode cX7_know 38 = .ok (.aload_n 0, 1) := by decide +kernel
theorem dX7_know_39 : decode cX7_know 39 = .ok (.getfield 69, 3) := by decide +kernel
theorem dX7_know_42 : decode cX7_know 42 = .ok (.iload_n 1, 1) := by decide +kernel
theorem dX7_know_43 : decode cX7_know 43 = .ok (.iload_n 2, 1) := by decide +kernel
theorem dX7_know_44 : decode cX7_know 44 = .ok (.iastore, 1) := by decide +kernel
theorem dX7_know_45 : decode cX7_know 45 = .ok (.iload_n 3, 1) := by decide +kernel
theorem dX7_know_46 : decode cX7_know 46 = .ok (.ireturn, 1) := by decide +kernel
theorem dX7_bar_0 : decode cX7_bar 0 = .ok (.iload_n 1, 1) := by decide +kernel
theorem dX7_bar_1 : decode cX7_bar 1 = .ok (.i2l, 1) := by decide +kernel
theorem dX7_bar_2 : decode cX7_bar 2 = .ok (.lconst 1, 1) := by decide +kernel
theorem dX7_bar_3 : decode cX7_bar 3 = .ok (.ldc2_w 233, 3) := by decide +kernel
theorem dX7_bar_6 : decode cX7_bar 6 = .ok (.invokestatic 88, 3) := by decide +kernel
theorem dX7_bar_9 : decode cX7_bar 9 = .ok (.ifCond .eq 15, 3) := by decide +kernel
theorem dX7_bar_12 : decode cX7_bar 12 = .ok (.iload_n 2, 1) := by decide +kernel
theorem dX7_bar_13 : decode cX7_bar 13 = .ok (.i2l, 1) := by decide +kernel
theorem dX7_bar_14 : decode cX7_bar 14 = .ok (.lconst 1, 1) := by decide +kernel
theorem dX7_bar_15 : decode cX7_bar 15 = .ok (.ldc2_w 233, 3) := by decide +kernel
theorem dX7_bar_18 : decode cX7_bar 18 = .ok (.invokestatic 88, 3) := by decide +kernel
theorem dX7_bar_21 : decode cX7_bar 21 = .ok (.ifCond .ne 10, 3) := by decide +kernel
theorem dX7_bar_24 : decode cX7_bar 24 = .ok (.aload_n 0, 1) := by decide +kernel
theorem dX7_bar_25 : decode cX7_bar 25 = .ok (.bipush (-2), 2) := by decide +kernel
theorem dX7_bar_27 : decode cX7_bar 27 = .ok (.invokevirtual 106, 3) := by decide +kernel
theorem dX7_bar_30 : decode cX7_bar 30 = .ok (.ireturn, 1) := by decide +kernel
theorem dX7_bar_31 : decode cX7_bar 31 = .ok (.lconst 0, 1) := by decide +kernel
theorem dX7_bar_32 : decode cX7_bar 32 = .ok (.lstore_n 3, 1) := by decide +kernel
theorem dX7_bar_33 : decode cX7_bar 33 = .ok (.iconst 0, 1) := by decide +kernel
theorem dX7_bar_34 : decode cX7_bar 34 = .ok (.istore 5, 2) := by decide +kernel
theorem dX7_bar_36 : decode cX7_bar 36 = .ok (.iload 5, 2) := by decide +kernel
theorem dX7_bar_38 : decode cX7_bar 38 = .ok (.iconst 5, 1) := by decide +kernel
theorem dX7_bar_39 : decode cX7_bar 39 = .ok (.if_icmp .gt 24, 3) := by decide +kernel
theorem dX7_bar_42 : decode cX7_bar 42 = .ok (.lload_n 3, 1) := by decide +kernel
theorem dX7_bar_43 : decode cX7_bar 43 = .ok (.iload 5, 2) := by decide +kernel
theorem dX7_bar_45 : decode cX7_bar 45 = .ok (.i2l, 1) := by decide +kernel
theorem dX7_bar_46 : decode cX7_bar 46 = .ok (.aload_n 0, 1) := by decide +kernel
theorem dX7_bar_47 : decode cX7_bar 47 = .ok (.getfield 69, 3) := by decide +kernel
theorem dX7_bar_50 : decode cX7_bar 50 = .ok (.iload 5, 2) := by decide +kernel
theorem dX7_bar_52 : decode cX7_bar 52 = .ok (.iaload, 1) := by decide +kernel
theorem dX7_bar_53 : decode cX7_bar 53 = .ok (.i2l, 1) := by decide +kernel
theorem dX7_bar_54 : decode cX7_bar 54 = .ok (.lmul, 1) := by decide +kernel
theorem dX7_bar_55 : decode cX7_bar 55 = .ok (.ladd, 1) := by decide +kernel
theorem dX7_bar_56 : decode cX7_bar 56 = .ok (.lstore_n 3, 1) := by decide +kernel
theorem dX7_bar_57 : decode cX7_bar 57 = .ok (.iinc 5 1, 3) := by decide +kernel
theorem dX7_bar_60 : decode cX7_bar 60 = .ok (.goto (-24), 3) := by decide +kernel
theorem dX7_bar_63 : decode cX7_bar 63 = .ok (.lconst 0, 1) := by decide +kernel
theorem dX7_bar_64 : decode cX7_bar 64 = .ok (.lstore 5, 2) := by decide +kernel
theorem dX7_bar_66 : decode cX7_bar 66 = .ok (.iconst (-1), 1) := by decide +kernel
theorem dX7_bar_67 : decode cX7_bar 67 = .ok (.istore 7, 2) := by decide +kernel
theorem dX7_bar_69 : decode cX7_bar 69 = .ok (.iload 7, 2) := by decide +kernel
theorem dX7_bar_71 : decode cX7_bar 71 = .ok (.iconst 5, 1) := by decide +kernel
theorem dX7_bar_72 : decode cX7_bar 72 = .ok (.if_icmp .gt 132, 3) := by decide +kernel
theorem dX7_bar_75 : decode cX7_bar 75 = .ok (.lload 5, 2) := by decide +kernel
theorem dX7_bar_77 : decode cX7_bar 77 = .ok (.iload 7, 2) := by decide +kernel
theorem dX7_bar_79 : decode cX7_bar 79 = .ok (.ifCond .ge 7, 3) := by decide +kernel
theorem dX7_bar_82 : decode cX7_bar 82 = .ok (.lconst 0, 1) := by decide +kernel
theorem dX7_bar_83 : decode cX7_bar 83 = .ok (.goto 15, 3) := by decide +kernel
theorem dX7_bar_86 : decode cX7_bar 86 = .ok (.iload 7, 2) := by decide +kernel
theorem dX7_bar_88 : decode cX7_bar 88 = .ok (.i2l, 1) := by decide +kernel
theorem dX7_bar_89 : decode cX7_bar 89 = .ok (.aload_n 0, 1) := by decide +kernel
theorem dX7_bar_90 : decode cX7_bar 90 = .ok (.getfield 69, 3) := by decide +kernel
theorem dX7_bar_93 : decode cX7_bar 93 = .ok (.iload 7, 2) := by decide +kernel
theorem dX7_bar_95 : decode cX7_bar 95 = .ok (.iaload, 1) := by decide +kernel
theorem dX7_bar_96 : decode cX7_bar 96 = .ok (.i2l, 1) := by decide +kernel
theorem dX7_bar_97 : decode cX7_bar 97 = .ok (.lmul, 1) := by decide +kernel
theorem dX7_bar_98 : decode cX7_bar 98 = .ok (.ladd, 1) := by decide +kernel
theorem dX7_bar_99 : decode cX7_bar 99 = .ok (.lstore 5, 2) := by decide +kernel
theorem dX7_bar_101 : decode cX7_bar 101 = .ok (.iconst 1, 1) := by decide +kernel
theorem dX7_bar_102 : decode cX7_bar 102 = .ok (.istore 8, 2) := by decide +kernel
theorem dX7_bar_104 : decode cX7_bar 104 = .ok (.iconst 0, 1) := by decide +kernel
theorem dX7_bar_105 : decode cX7_bar 105 = .ok (.istore 9, 2) := by decide +kernel
theorem dX7_bar_107 : decode cX7_bar 107 = .ok (.iload 9, 2) := by decide +kernel
theorem dX7_bar_109 : decode cX7_bar 109 = .ok (.iconst 5, 1) := by decide +kernel
theorem dX7_bar_110 : decode cX7_bar 110 = .ok (.if_icmp .gt 78, 3) := by decide +kernel
theorem dX7_bar_113 : decode cX7_bar 113 = .ok (.iload_n 2, 1) := by decide +kernel
theorem dX7_bar_114 : decode cX7_bar 114 = .ok (.i2l, 1) := by decide +kernel
theorem dX7_bar_115 : decode cX7_bar 115 = .ok (.lload_n 3, 1) := by decide +kernel
theorem dX7_bar_116 : decode cX7_bar 116 = .ok (.lload 5, 2) := by decide +kernel
theorem dX7_bar_118 : decode cX7_bar 118 = .ok (.lsub, 1) := by decide +kernel
theorem dX7_bar_119 : decode cX7_bar 119 = .ok (.iload 9, 2) := by decide +kernel
theorem dX7_bar_121 : decode cX7_bar 121 = .ok (.invokestatic 292, 3) := by decide +kernel
theorem dX7_bar_124 : decode cX7_bar 124 = .ok (.lmul, 1) := by decide +kernel
theorem dX7_bar_125 : decode cX7_bar 125 = .ok (.iload_n 1, 1) := by decide +kernel
theorem dX7_bar_126 : decode cX7_bar 126 = .ok (.i2l, 1) := by decide +kernel
theorem dX7_bar_127 : decode cX7_bar 127 = .ok (.lload_n 3, 1) := by decide +kernel
theorem dX7_bar_128 : decode cX7_bar 128 = .ok (.iload 9, 2) := by decide +kernel
theorem dX7_bar_130 : decode cX7_bar 130 = .ok (.invokestatic 292, 3) := by decide +kernel
theorem dX7_bar_133 : decode cX7_bar 133 = .ok (.lmul, 1) := by decide +kernel
theorem dX7_bar_134 : decode cX7_bar 134 = .ok (.lcmp, 1) := by decide +kernel
theorem dX7_bar_135 : decode cX7_bar 135 = .ok (.ifCond .lt 7, 3) := by decide +kernel
theorem dX7_bar_138 : decode cX7_bar 138 = .ok (.iconst 1, 1) := by decide +kernel
theorem dX7_bar_139 : decode cX7_bar 139 = .ok (.goto 4, 3) := by decide +kernel
theorem dX7_bar_142 : decode cX7_bar 142 = .ok (.iconst 0, 1) := by decide +kernel
theorem dX7_bar_143 : decode cX7_bar 143 = .ok (.istore 10, 2) := by decide +kernel
theorem dX7_bar_145 : decode cX7_bar 145 = .ok (.iload 8, 2) := by decide +kernel
theorem dX7_bar_147 : decode cX7_bar 147 = .ok (.aload_n 0, 1) := by decide +kernel
theorem dX7_bar_148 : decode cX7_bar 148 = .ok (.getfield 69, 3) := by decide +kernel
theorem dX7_bar_151 : decode cX7_bar 151 = .ok (.iload 9, 2) := by decide +kernel
theorem dX7_bar_153 : decode cX7_bar 153 = .ok (.iaload, 1) := by decide +kernel
theorem dX7_bar_154 : decode cX7_bar 154 = .ok (.ifCond .eq 20, 3) := by decide +kernel
theorem dX7_bar_157 : decode cX7_bar 157 = .ok (.iload 10, 2) := by decide +kernel
theorem dX7_bar_159 : decode cX7_bar 159 = .ok (.iload 9, 2) := by decide +kernel
theorem dX7_bar_161 : decode cX7_bar 161 = .ok (.iload 7, 2) := by decide +kernel
theorem dX7_bar_163 : decode cX7_bar 163 = .ok (.if_icmp .gt 7, 3) := by decide +kernel
theorem dX7_bar_166 : decode cX7_bar 166 = .ok (.iconst 1, 1) := by decide +kernel
theorem dX7_bar_167 : decode cX7_bar 167 = .ok (.goto 4, 3) := by decide +kernel
theorem dX7_bar_170 : decode cX7_bar 170 = .ok (.iconst 0, 1) := by decide +kernel
theorem dX7_bar_171 : decode cX7_bar 171 = .ok (.if_icmp .ne 7, 3) := by decide +kernel
theorem dX7_bar_174 : decode cX7_bar 174 = .ok (.iconst 1, 1) := by decide +kernel
theorem dX7_bar_175 : decode cX7_bar 175 = .ok (.goto 4, 3) := by decide +kernel
theorem dX7_bar_178 : decode cX7_bar 178 = .ok (.iconst 0, 1) := by decide +kernel
theorem dX7_bar_179 : decode cX7_bar 179 = .ok (.iand, 1) := by decide +kernel
theorem dX7_bar_180 : decode cX7_bar 180 = .ok (.istore 8, 2) := by decide +kernel
theorem dX7_bar_182 : decode cX7_bar 182 = .ok (.iinc 9 1, 3) := by decide +kernel
theorem dX7_bar_185 : decode cX7_bar 185 = .ok (.goto (-78), 3) := by decide +kernel
theorem dX7_bar_188 : decode cX7_bar 188 = .ok (.iload 8, 2) := by decide +kernel
theorem dX7_bar_190 : decode cX7_bar 190 = .ok (.ifCond .eq 8, 3) := by decide +kernel
theorem dX7_bar_193 : decode cX7_bar 193 = .ok (.iload 7, 2) := by decide +kernel
theorem dX7_bar_195 : decode cX7_bar 195 = .ok (.iconst 1, 1) := by decide +kernel
theorem dX7_bar_196 : decode cX7_bar 196 = .ok (.iadd, 1) := by decide +kernel
theorem dX7_bar_197 : decode cX7_bar 197 = .ok (.ireturn, 1) := by decide +kernel
theorem dX7_bar_198 : decode cX7_bar 198 = .ok (.iinc 7 1, 3) := by decide +kernel
theorem dX7_bar_201 : decode cX7_bar 201 = .ok (.goto (-132), 3) := by decide +kernel
theorem dX7_bar_204 : decode cX7_bar 204 = .ok (.iconst (-1), 1) := by decide +kernel
theorem dX7_bar_205 : decode cX7_bar 205 = .ok (.ireturn, 1) := by decide +kernel
theorem dX7_cuts_0 : decode cX7_cuts 0 = .ok (.aload_n 0, 1) := by decide +kernel
theorem dX7_cuts_1 : decode cX7_cuts 1 = .ok (.iload_n 1, 1) := by decide +kernel
theorem dX7_cuts_2 : decode cX7_cuts 2 = .ok (.iload_n 2, 1) := by decide +kernel
theorem dX7_cuts_3 : decode cX7_cuts 3 = .ok (.i2l, 1) := by decide +kernel
theorem dX7_cuts_4 : decode cX7_cuts 4 = .ok (.invokevirtual 237, 3) := by decide +kernel
theorem dX7_cuts_7 : decode cX7_cuts 7 = .ok (.ifCond .ne 10, 3) := by decide +kernel
theorem dX7_cuts_10 : decode cX7_cuts 10 = .ok (.aload_n 0, 1) := by decide +kernel
theorem dX7_cuts_11 : decode cX7_cuts 11 = .ok (.bipush (-2), 2) := by decide +kernel
theorem dX7_cuts_13 : decode cX7_cuts 13 = .ok (.invokevirtual 106, 3) := by decide +kernel
theorem dX7_cuts_16 : decode cX7_cuts 16 = .ok (.ireturn, 1) := by decide +kernel
theorem dX7_cuts_17 : decode cX7_cuts 17 = .ok (.iconst 0, 1) := by decide +kernel
theorem dX7_cuts_18 : decode cX7_cuts 18 = .ok (.istore_n 3, 1) := by decide +kernel
theorem dX7_cuts_19 : decode cX7_cuts 19 = .ok (.iload_n 3, 1) := by decide +kernel
theorem dX7_cuts_20 : decode cX7_cuts 20 = .ok (.aload_n 0, 1) := by decide +kernel
theorem dX7_cuts_21 : decode cX7_cuts 21 = .ok (.getfield 40, 3) := by decide +kernel
theorem dX7_cuts_24 : decode cX7_cuts 24 = .ok (.iload_n 1, 1) := by decide +kernel
theorem dX7_cuts_25 : decode cX7_cuts 25 = .ok (.iaload, 1) := by decide +kernel
theorem dX7_cuts_26 : decode cX7_cuts 26 = .ok (.if_icmp .ge 133, 3) := by decide +kernel
theorem dX7_cuts_29 : decode cX7_cuts 29 = .ok (.iload_n 3, 1) := by decide +kernel
theorem dX7_cuts_30 : decode cX7_cuts 30 = .ok (.iconst 1, 1) := by decide +kernel
theorem dX7_cuts_31 : decode cX7_cuts 31 = .ok (.iadd, 1) := by decide +kernel
theorem dX7_cuts_32 : decode cX7_cuts 32 = .ok (.istore 4, 2) := by decide +kernel
theorem dX7_cuts_34 : decode cX7_cuts 34 = .ok (.iload 4, 2) := by decide +kernel
theorem dX7_cuts_36 : decode cX7_cuts 36 = .ok (.aload_n 0, 1) := by decide +kernel
theorem dX7_cuts_37 : decode cX7_cuts 37 = .ok (.getfield 40, 3) := by decide +kernel
theorem dX7_cuts_40 : decode cX7_cuts 40 = .ok (.iload_n 1, 1) := by decide +kernel
theorem dX7_cuts_41 : decode cX7_cuts 41 = .ok (.iaload, 1) := by decide +kernel
theorem dX7_cuts_42 : decode cX7_cuts 42 = .ok (.if_icmp .ge 111, 3) := by decide +kernel
theorem dX7_cuts_45 : decode cX7_cuts 45 = .ok (.aload_n 0, 1) := by decide +kernel
theorem dX7_cuts_46 : decode cX7_cuts 46 = .ok (.getfield 57, 3) := by decide +kernel
theorem dX7_cuts_49 : decode cX7_cuts 49 = .ok (.iload_n 1, 1) := by decide +kernel
theorem dX7_cuts_50 : decode cX7_cuts 50 = .ok (.aaload, 1) := by decide +kernel
theorem dX7_cuts_51 : decode cX7_cuts 51 = .ok (.iload_n 3, 1) := by decide +kernel
theorem dX7_cuts_52 : decode cX7_cuts 52 = .ok (.iaload, 1) := by decide +kernel
theorem dX7_cuts_53 : decode cX7_cuts 53 = .ok (.iload 4, 2) := by decide +kernel
theorem dX7_cuts_55 : decode cX7_cuts 55 = .ok (.ishr, 1) := by decide +kernel
theorem dX7_cuts_56 : decode cX7_cuts 56 = .ok (.iconst 1, 1) := by decide +kernel
theorem dX7_cuts_57 : decode cX7_cuts 57 = .ok (.iand, 1) := by decide +kernel
theorem dX7_cuts_58 : decode cX7_cuts 58 = .ok (.ifCond .eq 89, 3) := by decide +kernel
theorem dX7_cuts_61 : decode cX7_cuts 61 = .ok (.aload_n 0, 1) := by decide +kernel
theorem dX7_cuts_62 : decode cX7_cuts 62 = .ok (.iload_n 1, 1) := by decide +kernel
theorem dX7_cuts_63 : decode cX7_cuts 63 = .ok (.iload_n 3, 1) := by decide +kernel
theorem dX7_cuts_64 : decode cX7_cuts 64 = .ok (.iload_n 2, 1) := by decide +kernel
theorem dX7_cuts_65 : decode cX7_cuts 65 = .ok (.invokevirtual 241, 3) := by decide +kernel
theorem dX7_cuts_68 : decode cX7_cuts 68 = .ok (.istore 5, 2) := by decide +kernel
theorem dX7_cuts_70 : decode cX7_cuts 70 = .ok (.aload_n 0, 1) := by decide +kernel
theorem dX7_cuts_71 : decode cX7_cuts 71 = .ok (.iload_n 1, 1) := by decide +kernel
theorem dX7_cuts_72 : decode cX7_cuts 72 = .ok (.iload 4, 2) := by decide +kernel
theorem dX7_cuts_74 : decode cX7_cuts 74 = .ok (.iload_n 2, 1) := by decide +kernel
theorem dX7_cuts_75 : decode cX7_cuts 75 = .ok (.invokevirtual 241, 3) := by decide +kernel
theorem dX7_cuts_78 : decode cX7_cuts 78 = .ok (.istore 6, 2) := by decide +kernel
theorem dX7_cuts_80 : decode cX7_cuts 80 = .ok (.aload_n 0, 1) := by decide +kernel
theorem dX7_cuts_81 : decode cX7_cuts 81 = .ok (.iload_n 1, 1) := by decide +kernel
theorem dX7_cuts_82 : decode cX7_cuts 82 = .ok (.iload_n 3, 1) := by decide +kernel
theorem dX7_cuts_83 : decode cX7_cuts 83 = .ok (.iload 4, 2) := by decide +kernel
theorem dX7_cuts_85 : decode cX7_cuts 85 = .ok (.iconst (-1), 1) := by decide +kernel
theorem dX7_cuts_86 : decode cX7_cuts 86 = .ok (.invokevirtual 304, 3) := by decide +kernel
theorem dX7_cuts_89 : decode cX7_cuts 89 = .ok (.istore 7, 2) := by decide +kernel
theorem dX7_cuts_91 : decode cX7_cuts 91 = .ok (.aload_n 0, 1) := by decide +kernel
theorem dX7_cuts_92 : decode cX7_cuts 92 = .ok (.iload_n 1, 1) := by decide +kernel
theorem dX7_cuts_93 : decode cX7_cuts 93 = .ok (.iload_n 3, 1) := by decide +kernel
theorem dX7_cuts_94 : decode cX7_cuts 94 = .ok (.iload_n 2, 1) := by decide +kernel
theorem dX7_cuts_95 : decode cX7_cuts 95 = .ok (.invokevirtual 241, 3) := by decide +kernel
theorem dX7_cuts_98 : decode cX7_cuts 98 = .ok (.iload 5, 2) := by decide +kernel
theorem dX7_cuts_100 : decode cX7_cuts 100 = .ok (.if_icmp .gt 16, 3) := by decide +kernel
theorem dX7_cuts_103 : decode cX7_cuts 103 = .ok (.aload_n 0, 1) := by decide +kernel
theorem dX7_cuts_104 : decode cX7_cuts 104 = .ok (.iload_n 1, 1) := by decide +kernel
theorem dX7_cuts_105 : decode cX7_cuts 105 = .ok (.iload 4, 2) := by decide +kernel
theorem dX7_cuts_107 : decode cX7_cuts 107 = .ok (.iload_n 2, 1) := by decide +kernel
theorem dX7_cuts_108 : decode cX7_cuts 108 = .ok (.invokevirtual 241, 3) := by decide +kernel
theorem dX7_cuts_111 : decode cX7_cuts 111 = .ok (.iload 6, 2) := by decide +kernel
theorem dX7_cuts_113 : decode cX7_cuts 113 = .ok (.if_icmp .le 7, 3) := by decide +kernel
theorem dX7_cuts_116 : decode cX7_cuts 116 = .ok (.iconst 1, 1) := by decide +kernel
theorem dX7_cuts_117 : decode cX7_cuts 117 = .ok (.goto 4, 3) := by decide +kernel
theorem dX7_cuts_120 : decode cX7_cuts 120 = .ok (.iconst 0, 1) := by decide +kernel
theorem dX7_cuts_121 : decode cX7_cuts 121 = .ok (.istore 8, 2) := by decide +kernel
theorem dX7_cuts_123 : decode cX7_cuts 123 = .ok (.aload_n 0, 1) := by decide +kernel
theorem dX7_cuts_124 : decode cX7_cuts 124 = .ok (.iload_n 1, 1) := by decide +kernel
theorem dX7_cuts_125 : decode cX7_cuts 125 = .ok (.iload_n 3, 1) := by decide +kernel
theorem dX7_cuts_126 : decode cX7_cuts 126 = .ok (.iload 4, 2) := by decide +kernel
theorem dX7_cuts_128 : decode cX7_cuts 128 = .ok (.iload 7, 2) := by decide +kernel
theorem dX7_cuts_130 : decode cX7_cuts 130 = .ok (.invokevirtual 304, 3) := by decide +kernel
theorem dX7_cuts_133 : decode cX7_cuts 133 = .ok (.pop, 1) := by decide +kernel
theorem dX7_cuts_134 : decode cX7_cuts 134 = .ok (.iload 8, 2) := by decide +kernel
theorem dX7_cuts_136 : decode cX7_cuts 136 = .ok (.ifCond .eq 11, 3) := by decide +kernel
theorem dX7_cuts_139 : decode cX7_cuts 139 = .ok (.bipush 100, 2) := by decide +kernel
theorem dX7_cuts_141 : decode cX7_cuts 141 = .ok (.iload_n 3, 1) := by decide +kernel
theorem dX7_cuts_142 : decode cX7_cuts 142 = .ok (.imul, 1) := by decide +kernel
theorem dX7_cuts_143 : decode cX7_cuts 143 = .ok (.iload 4, 2) := by decide +kernel
theorem dX7_cuts_145 : decode cX7_cuts 145 = .ok (.iadd, 1) := by decide +kernel
theorem dX7_cuts_146 : decode cX7_cuts 146 = .ok (.ireturn, 1) := by decide +kernel
theorem dX7_cuts_147 : decode cX7_cuts 147 = .ok (.iinc 4 1, 3) := by decide +kernel
theorem dX7_cuts_150 : decode cX7_cuts 150 = .ok (.goto (-116), 3) := by decide +kernel
theorem dX7_cuts_153 : decode cX7_cuts 153 = .ok (.iinc 3 1, 3) := by decide +kernel
theorem dX7_cuts_156 : decode cX7_cuts 156 = .ok (.goto (-137), 3) := by decide +kernel
theorem dX7_cuts_159 : decode cX7_cuts 159 = .ok (.iconst (-1), 1) := by decide +kernel
theorem dX7_cuts_160 : decode cX7_cuts 160 = .ok (.ireturn, 1) := by decide +kernel
theorem dX7_adds_0 : decode cX7_adds 0 = .ok (.aload_n 0, 1) := by decide +kernel
theorem dX7_adds_1 : decode cX7_adds 1 = .ok (.iload_n 1, 1) := by decide +kernel
theorem dX7_adds_2 : decode cX7_adds 2 = .ok (.iload_n 2, 1) := by decide +kernel
theorem dX7_adds_3 : decode cX7_adds 3 = .ok (.i2l, 1) := by decide +kernel
theorem dX7_adds_4 : decode cX7_adds 4 = .ok (.invokevirtual 237, 3) := by decide +kernel
theorem dX7_adds_7 : decode cX7_adds 7 = .ok (.ifCond .eq 15, 3) := by decide +kernel
theorem dX7_adds_10 : decode cX7_adds 10 = .ok (.iload_n 3, 1) := by decide +kernel
theorem dX7_adds_11 : decode cX7_adds 11 = .ok (.i2l, 1) := by decide +kernel
theorem dX7_adds_12 : decode cX7_adds 12 = .ok (.lconst 0, 1) := by decide +kernel
theorem dX7_adds_13 : decode cX7_adds 13 = .ok (.ldc2_w 117, 3) := by decide +kernel
theorem dX7_adds_16 : decode cX7_adds 16 = .ok (.invokestatic 88, 3) := by decide +kernel
theorem dX7_adds_19 : decode cX7_adds 19 = .ok (.ifCond .ne 10, 3) := by decide +kernel
theorem dX7_adds_22 : decode cX7_adds 22 = .ok (.aload_n 0, 1) := by decide +kernel
theorem dX7_adds_23 : decode cX7_adds 23 = .ok (.bipush (-2), 2) := by decide +kernel
theorem dX7_adds_25 : decode cX7_adds 25 = .ok (.invokevirtual 106, 3) := by decide +kernel
theorem dX7_adds_28 : decode cX7_adds 28 = .ok (.ireturn, 1) := by decide +kernel
theorem dX7_adds_29 : decode cX7_adds 29 = .ok (.iconst 0, 1) := by decide +kernel
theorem dX7_adds_30 : decode cX7_adds 30 = .ok (.istore 4, 2) := by decide +kernel
theorem dX7_adds_32 : decode cX7_adds 32 = .ok (.iload 4, 2) := by decide +kernel
theorem dX7_adds_34 : decode cX7_adds 34 = .ok (.aload_n 0, 1) := by decide +kernel
theorem dX7_adds_35 : decode cX7_adds 35 = .ok (.getfield 40, 3) := by decide +kernel
theorem dX7_adds_38 : decode cX7_adds 38 = .ok (.iload_n 1, 1) := by decide +kernel
theorem dX7_adds_39 : decode cX7_adds 39 = .ok (.iaload, 1) := by decide +kernel
theorem dX7_adds_40 : decode cX7_adds 40 = .ok (.if_icmp .ge 138, 3) := by decide +kernel
theorem dX7_adds_43 : decode cX7_adds 43 = .ok (.iload 4, 2) := by decide +kernel
theorem dX7_adds_45 : decode cX7_adds 45 = .ok (.iconst 1, 1) := by decide +kernel
theorem dX7_adds_46 : decode cX7_adds 46 = .ok (.iadd, 1) := by decide +kernel
theorem dX7_adds_47 : decode cX7_adds 47 = .ok (.istore 5, 2) := by decide +kernel
theorem dX7_adds_49 : decode cX7_adds 49 = .ok (.iload 5, 2) := by decide +kernel
theorem dX7_adds_51 : decode cX7_adds 51 = .ok (.aload_n 0, 1) := by decide +kernel
theorem dX7_adds_52 : decode cX7_adds 52 = .ok (.getfield 40, 3) := by decide +kernel
theorem dX7_adds_55 : decode cX7_adds 55 = .ok (.iload_n 1, 1) := by decide +kernel
theorem dX7_adds_56 : decode cX7_adds 56 = .ok (.iaload, 1) := by decide +kernel
theorem dX7_adds_57 : decode cX7_adds 57 = .ok (.if_icmp .ge 115, 3) := by decide +kernel
theorem dX7_adds_60 : decode cX7_adds 60 = .ok (.aload_n 0, 1) := by decide +kernel
theorem dX7_adds_61 : decode cX7_adds 61 = .ok (.getfield 57, 3) := by decide +kernel
theorem dX7_adds_64 : decode cX7_adds 64 = .ok (.iload_n 1, 1) := by decide +kernel
theorem dX7_adds_65 : decode cX7_adds 65 = .ok (.aaload, 1) := by decide +kernel
theorem dX7_adds_66 : decode cX7_adds 66 = .ok (.iload 4, 2) := by decide +kernel
theorem dX7_adds_68 : decode cX7_adds 68 = .ok (.iaload, 1) := by decide +kernel
theorem dX7_adds_69 : decode cX7_adds 69 = .ok (.iload 5, 2) := by decide +kernel
theorem dX7_adds_71 : decode cX7_adds 71 = .ok (.ishr, 1) := by decide +kernel
theorem dX7_adds_72 : decode cX7_adds 72 = .ok (.iconst 1, 1) := by decide +kernel
theorem dX7_adds_73 : decode cX7_adds 73 = .ok (.iand, 1) := by decide +kernel
theorem dX7_adds_74 : decode cX7_adds 74 = .ok (.ifCond .ne 92, 3) := by decide +kernel
theorem dX7_adds_77 : decode cX7_adds 77 = .ok (.aload_n 0, 1) := by decide +kernel
theorem dX7_adds_78 : decode cX7_adds 78 = .ok (.iload_n 1, 1) := by decide +kernel
theorem dX7_adds_79 : decode cX7_adds 79 = .ok (.iload 4, 2) := by decide +kernel
theorem dX7_adds_81 : decode cX7_adds 81 = .ok (.iload_n 2, 1) := by decide +kernel
theorem dX7_adds_82 : decode cX7_adds 82 = .ok (.invokevirtual 241, 3) := by decide +kernel
theorem dX7_adds_85 : decode cX7_adds 85 = .ok (.istore 6, 2) := by decide +kernel
theorem dX7_adds_87 : decode cX7_adds 87 = .ok (.aload_n 0, 1) := by decide +kernel
theorem dX7_adds_88 : decode cX7_adds 88 = .ok (.iload_n 1, 1) := by decide +kernel
theorem dX7_adds_89 : decode cX7_adds 89 = .ok (.iload 5, 2) := by decide +kernel
theorem dX7_adds_91 : decode cX7_adds 91 = .ok (.iload_n 2, 1) := by decide +kernel
theorem dX7_adds_92 : decode cX7_adds 92 = .ok (.invokevirtual 241, 3) := by decide +kernel
theorem dX7_adds_95 : decode cX7_adds 95 = .ok (.istore 7, 2) := by decide +kernel
theorem dX7_adds_97 : decode cX7_adds 97 = .ok (.aload_n 0, 1) := by decide +kernel
theorem dX7_adds_98 : decode cX7_adds 98 = .ok (.iload_n 1, 1) := by decide +kernel
theorem dX7_adds_99 : decode cX7_adds 99 = .ok (.iload 4, 2) := by decide +kernel
theorem dX7_adds_101 : decode cX7_adds 101 = .ok (.iload 5, 2) := by decide +kernel
theorem dX7_adds_103 : decode cX7_adds 103 = .ok (.iload_n 3, 1) := by decide +kernel
theorem dX7_adds_104 : decode cX7_adds 104 = .ok (.invokevirtual 304, 3) := by decide +kernel
theorem dX7_adds_107 : decode cX7_adds 107 = .ok (.pop, 1) := by decide +kernel
theorem dX7_adds_108 : decode cX7_adds 108 = .ok (.aload_n 0, 1) := by decide +kernel
theorem dX7_adds_109 : decode cX7_adds 109 = .ok (.iload_n 1, 1) := by decide +kernel
theorem dX7_adds_110 : decode cX7_adds 110 = .ok (.iload 4, 2) := by decide +kernel
theorem dX7_adds_112 : decode cX7_adds 112 = .ok (.iload_n 2, 1) := by decide +kernel
theorem dX7_adds_113 : decode cX7_adds 113 = .ok (.invokevirtual 241, 3) := by decide +kernel
theorem dX7_adds_116 : decode cX7_adds 116 = .ok (.iload 6, 2) := by decide +kernel
theorem dX7_adds_118 : decode cX7_adds 118 = .ok (.if_icmp .le 20, 3) := by decide +kernel
theorem dX7_adds_121 : decode cX7_adds 121 = .ok (.aload_n 0, 1) := by decide +kernel
theorem dX7_adds_122 : decode cX7_adds 122 = .ok (.iload_n 1, 1) := by decide +kernel
theorem dX7_adds_123 : decode cX7_adds 123 = .ok (.iload 5, 2) := by decide +kernel
theorem dX7_adds_125 : decode cX7_adds 125 = .ok (.iload_n 2, 1) := by decide +kernel
theorem dX7_adds_126 : decode cX7_adds 126 = .ok (.invokevirtual 241, 3) := by decide +kernel
theorem dX7_adds_129 : decode cX7_adds 129 = .ok (.iload 7, 2) := by decide +kernel
theorem dX7_adds_131 : decode cX7_adds 131 = .ok (.if_icmp .le 7, 3) := by decide +kernel
theorem dX7_adds_134 : decode cX7_adds 134 = .ok (.iconst 1, 1) := by decide +kernel
theorem dX7_adds_135 : decode cX7_adds 135 = .ok (.goto 4, 3) := by decide +kernel
theorem dX7_adds_138 : decode cX7_adds 138 = .ok (.iconst 0, 1) := by decide +kernel
theorem dX7_adds_139 : decode cX7_adds 139 = .ok (.istore 8, 2) := by decide +kernel
theorem dX7_adds_141 : decode cX7_adds 141 = .ok (.aload_n 0, 1) := by decide +kernel
theorem dX7_adds_142 : decode cX7_adds 142 = .ok (.iload_n 1, 1) := by decide +kernel
theorem dX7_adds_143 : decode cX7_adds 143 = .ok (.iload 4, 2) := by decide +kernel
theorem dX7_adds_145 : decode cX7_adds 145 = .ok (.iload 5, 2) := by decide +kernel
theorem dX7_adds_147 : decode cX7_adds 147 = .ok (.iconst (-1), 1) := by decide +kernel
theorem dX7_adds_148 : decode cX7_adds 148 = .ok (.invokevirtual 304, 3) := by decide +kernel
theorem dX7_adds_151 : decode cX7_adds 151 = .ok (.pop, 1) := by decide +kernel
theorem dX7_adds_152 : decode cX7_adds 152 = .ok (.iload 8, 2) := by decide +kernel
theorem dX7_adds_154 : decode cX7_adds 154 = .ok (.ifCond .eq 12, 3) := by decide +kernel
theorem dX7_adds_157 : decode cX7_adds 157 = .ok (.bipush 100, 2) := by decide +kernel
theorem dX7_adds_159 : decode cX7_adds 159 = .ok (.iload 4, 2) := by decide +kernel
theorem dX7_adds_161 : decode cX7_adds 161 = .ok (.imul, 1) := by decide +kernel
theorem dX7_adds_162 : decode cX7_adds 162 = .ok (.iload 5, 2) := by decide +kernel
theorem dX7_adds_164 : decode cX7_adds 164 = .ok (.iadd, 1) := by decide +kernel
theorem dX7_adds_165 : decode cX7_adds 165 = .ok (.ireturn, 1) := by decide +kernel
theorem dX7_adds_166 : decode cX7_adds 166 = .ok (.iinc 5 1, 3) := by decide +kernel
theorem dX7_adds_169 : decode cX7_adds 169 = .ok (.goto (-120), 3) := by decide +kernel
theorem dX7_adds_172 : decode cX7_adds 172 = .ok (.iinc 4 1, 3) := by decide +kernel
theorem dX7_adds_175 : decode cX7_adds 175 = .ok (.goto (-143), 3) := by decide +kernel
theorem dX7_adds_178 : decode cX7_adds 178 = .ok (.iconst (-1), 1) := by decide +kernel
theorem dX7_adds_179 : decode cX7_adds 179 = .ok (.ireturn, 1) := by decide +kernel
theorem dX7_less_0 : decode cX7_less 0 = .ok (.aload_n 0, 1) := by decide +kernel
theorem dX7_less_1 : decode cX7_less 1 = .ok (.iload_n 1, 1) := by decide +kernel
theorem dX7_less_2 : decode cX7_less 2 = .ok (.invokevirtual 92, 3) := by decide +kernel
theorem dX7_less_5 : decode cX7_less 5 = .ok (.ifCond .ne 10, 3) := by decide +kernel
theorem dX7_less_8 : decode cX7_less 8 = .ok (.aload_n 0, 1) := by decide +kernel
theorem dX7_less_9 : decode cX7_less 9 = .ok (.bipush (-2), 2) := by decide +kernel
theorem dX7_less_11 : decode cX7_less 11 = .ok (.invokevirtual 106, 3) := by decide +kernel
theorem dX7_less_14 : decode cX7_less 14 = .ok (.ireturn, 1) := by decide +kernel
theorem dX7_less_15 : decode cX7_less 15 = .ok (.aload_n 0, 1) := by decide +kernel
theorem dX7_less_16 : decode cX7_less 16 = .ok (.iload_n 1, 1) := by decide +kernel
theorem dX7_less_17 : decode cX7_less 17 = .ok (.iconst 0, 1) := by decide +kernel
theorem dX7_less_18 : decode cX7_less 18 = .ok (.invokevirtual 268, 3) := by decide +kernel
theorem dX7_less_21 : decode cX7_less 21 = .ok (.istore_n 2, 1) := by decide +kernel
theorem dX7_less_22 : decode cX7_less 22 = .ok (.iload_n 2, 1) := by decide +kernel
theorem dX7_less_23 : decode cX7_less 23 = .ok (.iconst (-1), 1) := by decide +kernel
theorem dX7_less_24 : decode cX7_less 24 = .ok (.if_icmp .ne 10, 3) := by decide +kernel
theorem dX7_less_27 : decode cX7_less 27 = .ok (.aload_n 0, 1) := by decide +kernel
theorem dX7_less_28 : decode cX7_less 28 = .ok (.bipush (-5), 2) := by decide +kernel
theorem dX7_less_30 : decode cX7_less 30 = .ok (.invokevirtual 106, 3) := by decide +kernel
theorem dX7_less_33 : decode cX7_less 33 = .ok (.ireturn, 1) := by decide +kernel
theorem dX7_less_34 : decode cX7_less 34 = .ok (.iconst 0, 1) := by decide +kernel
theorem dX7_less_35 : decode cX7_less 35 = .ok (.istore_n 3, 1) := by decide +kernel
theorem dX7_less_36 : decode cX7_less 36 = .ok (.iload_n 3, 1) := by decide +kernel
theorem dX7_less_37 : decode cX7_less 37 = .ok (.aload_n 0, 1) := by decide +kernel
theorem dX7_less_38 : decode cX7_less 38 = .ok (.getfield 40, 3) := by decide +kernel
theorem dX7_less_41 : decode cX7_less 41 = .ok (.iload_n 1, 1) := by decide +kernel
theorem dX7_less_42 : decode cX7_less 42 = .ok (.iaload, 1) := by decide +kernel
theorem dX7_less_43 : decode cX7_less 43 = .ok (.if_icmp .ge 101, 3) := by decide +kernel
theorem dX7_less_46 : decode cX7_less 46 = .ok (.iload_n 3, 1) := by decide +kernel
theorem dX7_less_47 : decode cX7_less 47 = .ok (.iconst 1, 1) := by decide +kernel
theorem dX7_less_48 : decode cX7_less 48 = .ok (.iadd, 1) := by decide +kernel
theorem dX7_less_49 : decode cX7_less 49 = .ok (.istore 4, 2) := by decide +kernel
theorem dX7_less_51 : decode cX7_less 51 = .ok (.iload 4, 2) := by decide +kernel
theorem dX7_less_53 : decode cX7_less 53 = .ok (.aload_n 0, 1) := by decide +kernel
theorem dX7_less_54 : decode cX7_less 54 = .ok (.getfield 40, 3) := by decide +kernel
theorem dX7_less_57 : decode cX7_less 57 = .ok (.iload_n 1, 1) := by decide +kernel
theorem dX7_less_58 : decode cX7_less 58 = .ok (.iaload, 1) := by decide +kernel
theorem dX7_less_59 : decode cX7_less 59 = .ok (.if_icmp .ge 79, 3) := by decide +kernel
theorem dX7_less_62 : decode cX7_less 62 = .ok (.aload_n 0, 1) := by decide +kernel
theorem dX7_less_63 : decode cX7_less 63 = .ok (.getfield 57, 3) := by decide +kernel
theorem dX7_less_66 : decode cX7_less 66 = .ok (.iload_n 1, 1) := by decide +kernel
theorem dX7_less_67 : decode cX7_less 67 = .ok (.aaload, 1) := by decide +kernel
theorem dX7_less_68 : decode cX7_less 68 = .ok (.iload_n 3, 1) := by decide +kernel
theorem dX7_less_69 : decode cX7_less 69 = .ok (.iaload, 1) := by decide +kernel
theorem dX7_less_70 : decode cX7_less 70 = .ok (.iload 4, 2) := by decide +kernel
theorem dX7_less_72 : decode cX7_less 72 = .ok (.ishr, 1) := by decide +kernel
theorem dX7_less_73 : decode cX7_less 73 = .ok (.iconst 1, 1) := by decide +kernel
theorem dX7_less_74 : decode cX7_less 74 = .ok (.iand, 1) := by decide +kernel
theorem dX7_less_75 : decode cX7_less 75 = .ok (.ifCond .ne 57, 3) := by decide +kernel
theorem dX7_less_78 : decode cX7_less 78 = .ok (.aload_n 0, 1) := by decide +kernel
theorem dX7_less_79 : decode cX7_less 79 = .ok (.iload_n 1, 1) := by decide +kernel
theorem dX7_less_80 : decode cX7_less 80 = .ok (.iload_n 3, 1) := by decide +kernel
theorem dX7_less_81 : decode cX7_less 81 = .ok (.iload 4, 2) := by decide +kernel
theorem dX7_less_83 : decode cX7_less 83 = .ok (.iconst 0, 1) := by decide +kernel
theorem dX7_less_84 : decode cX7_less 84 = .ok (.invokevirtual 304, 3) := by decide +kernel
theorem dX7_less_87 : decode cX7_less 87 = .ok (.pop, 1) := by decide +kernel
theorem dX7_less_88 : decode cX7_less 88 = .ok (.aload_n 0, 1) := by decide +kernel
theorem dX7_less_89 : decode cX7_less 89 = .ok (.iload_n 1, 1) := by decide +kernel
theorem dX7_less_90 : decode cX7_less 90 = .ok (.iconst 0, 1) := by decide +kernel
theorem dX7_less_91 : decode cX7_less 91 = .ok (.invokevirtual 268, 3) := by decide +kernel
theorem dX7_less_94 : decode cX7_less 94 = .ok (.istore 5, 2) := by decide +kernel
theorem dX7_less_96 : decode cX7_less 96 = .ok (.aload_n 0, 1) := by decide +kernel
theorem dX7_less_97 : decode cX7_less 97 = .ok (.iload_n 1, 1) := by decide +kernel
theorem dX7_less_98 : decode cX7_less 98 = .ok (.iload_n 3, 1) := by decide +kernel
theorem dX7_less_99 : decode cX7_less 99 = .ok (.iload 4, 2) := by decide +kernel
theorem dX7_less_101 : decode cX7_less 101 = .ok (.iconst (-1), 1) := by decide +kernel
theorem dX7_less_102 : decode cX7_less 102 = .ok (.invokevirtual 304, 3) := by decide +kernel
theorem dX7_less_105 : decode cX7_less 105 = .ok (.pop, 1) := by decide +kernel
theorem dX7_less_106 : decode cX7_less 106 = .ok (.iload 5, 2) := by decide +kernel
theorem dX7_less_108 : decode cX7_less 108 = .ok (.iconst (-1), 1) := by decide +kernel
theorem dX7_less_109 : decode cX7_less 109 = .ok (.if_icmp .eq 23, 3) := by decide +kernel
theorem dX7_less_112 : decode cX7_less 112 = .ok (.iload 5, 2) := by decide +kernel
theorem dX7_less_114 : decode cX7_less 114 = .ok (.invokestatic 223, 3) := by decide +kernel
theorem dX7_less_117 : decode cX7_less 117 = .ok (.iload_n 2, 1) := by decide +kernel
theorem dX7_less_118 : decode cX7_less 118 = .ok (.invokestatic 223, 3) := by decide +kernel
theorem dX7_less_121 : decode cX7_less 121 = .ok (.if_icmp .ge 11, 3) := by decide +kernel
theorem dX7_less_124 : decode cX7_less 124 = .ok (.bipush 100, 2) := by decide +kernel
theorem dX7_less_126 : decode cX7_less 126 = .ok (.iload_n 3, 1) := by decide +kernel
theorem dX7_less_127 : decode cX7_less 127 = .ok (.imul, 1) := by decide +kernel
theorem dX7_less_128 : decode cX7_less 128 = .ok (.iload 4, 2) := by decide +kernel
theorem dX7_less_130 : decode cX7_less 130 = .ok (.iadd, 1) := by decide +kernel
theorem dX7_less_131 : decode cX7_less 131 = .ok (.ireturn, 1) := by decide +kernel
theorem dX7_less_132 : decode cX7_less 132 = .ok (.iinc 4 1, 3) := by decide +kernel
theorem dX7_less_135 : decode cX7_less 135 = .ok (.goto (-84), 3) := by decide +kernel
theorem dX7_less_138 : decode cX7_less 138 = .ok (.iinc 3 1, 3) := by decide +kernel
theorem dX7_less_141 : decode cX7_less 141 = .ok (.goto (-105), 3) := by decide +kernel
theorem dX7_less_144 : decode cX7_less 144 = .ok (.iconst (-1), 1) := by decide +kernel
theorem dX7_less_145 : decode cX7_less 145 = .ok (.ireturn, 1) := by decide +kernel
theorem dX7_needOf_0 : decode cX7_needOf 0 = .ok (.aload_n 0, 1) := by decide +kernel
theorem dX7_needOf_1 : decode cX7_needOf 1 = .ok (.getfield 46, 3) := by decide +kernel
theorem dX7_needOf_4 : decode cX7_needOf 4 = .ok (.iload_n 1, 1) := by decide +kernel
theorem dX7_needOf_5 : decode cX7_needOf 5 = .ok (.iaload, 1) := by decide +kernel
theorem dX7_needOf_6 : decode cX7_needOf 6 = .ok (.iload_n 2, 1) := by decide +kernel
theorem dX7_needOf_7 : decode cX7_needOf 7 = .ok (.ishr, 1) := by decide +kernel
theorem dX7_needOf_8 : decode cX7_needOf 8 = .ok (.iconst 1, 1) := by decide +kernel
theorem dX7_needOf_9 : decode cX7_needOf 9 = .ok (.iand, 1) := by decide +kernel
theorem dX7_needOf_10 : decode cX7_needOf 10 = .ok (.ifCond .eq 5, 3) := by decide +kernel
theorem dX7_needOf_13 : decode cX7_needOf 13 = .ok (.iconst 0, 1) := by decide +kernel
theorem dX7_needOf_14 : decode cX7_needOf 14 = .ok (.ireturn, 1) := by decide +kernel
theorem dX7_needOf_15 : decode cX7_needOf 15 = .ok (.aload_n 0, 1) := by decide +kernel
theorem dX7_needOf_16 : decode cX7_needOf 16 = .ok (.iload_n 1, 1) := by decide +kernel
theorem dX7_needOf_17 : decode cX7_needOf 17 = .ok (.iload_n 2, 1) := by decide +kernel
theorem dX7_needOf_18 : decode cX7_needOf 18 = .ok (.iload_n 3, 1) := by decide +kernel
theorem dX7_needOf_19 : decode cX7_needOf 19 = .ok (.iconst 1, 1) := by decide +kernel
theorem dX7_needOf_20 : decode cX7_needOf 20 = .ok (.iload_n 2, 1) := by decide +kernel
theorem dX7_needOf_21 : decode cX7_needOf 21 = .ok (.ishl, 1) := by decide +kernel
theorem dX7_needOf_22 : decode cX7_needOf 22 = .ok (.ixor, 1) := by decide +kernel
theorem dX7_needOf_23 : decode cX7_needOf 23 = .ok (.invokevirtual 241, 3) := by decide +kernel
theorem dX7_needOf_26 : decode cX7_needOf 26 = .ok (.aload_n 0, 1) := by decide +kernel
theorem dX7_needOf_27 : decode cX7_needOf 27 = .ok (.iload_n 1, 1) := by decide +kernel
theorem dX7_needOf_28 : decode cX7_needOf 28 = .ok (.iload_n 2, 1) := by decide +kernel
theorem dX7_needOf_29 : decode cX7_needOf 29 = .ok (.iload_n 3, 1) := by decide +kernel
theorem dX7_needOf_30 : decode cX7_needOf 30 = .ok (.invokevirtual 241, 3) := by decide +kernel
theorem dX7_needOf_33 : decode cX7_needOf 33 = .ok (.isub, 1) := by decide +kernel
theorem dX7_needOf_34 : decode cX7_needOf 34 = .ok (.istore 4, 2) := by decide +kernel
theorem dX7_needOf_36 : decode cX7_needOf 36 = .ok (.iload 4, 2) := by decide +kernel
theorem dX7_needOf_38 : decode cX7_needOf 38 = .ok (.ifCond .le 8, 3) := by decide +kernel
theorem dX7_needOf_41 : decode cX7_needOf 41 = .ok (.iload 4, 2) := by decide +kernel
theorem dX7_needOf_43 : decode cX7_needOf 43 = .ok (.goto 4, 3) := by decide +kernel
theorem dX7_needOf_46 : decode cX7_needOf 46 = .ok (.iconst 0, 1) := by decide +kernel
theorem dX7_needOf_47 : decode cX7_needOf 47 = .ok (.ireturn, 1) := by decide +kernel
theorem dX7_need_0 : decode cX7_need 0 = .ok (.aload_n 0, 1) := by decide +kernel
theorem dX7_need_1 : decode cX7_need 1 = .ok (.iload_n 1, 1) := by decide +kernel
theorem dX7_need_2 : decode cX7_need 2 = .ok (.iload_n 2, 1) := by decide +kernel
theorem dX7_need_3 : decode cX7_need 3 = .ok (.invokevirtual 230, 3) := by decide +kernel
theorem dX7_need_6 : decode cX7_need 6 = .ok (.ifCond .eq 23, 3) := by decide +kernel
theorem dX7_need_9 : decode cX7_need 9 = .ok (.aload_n 0, 1) := by decide +kernel
theorem dX7_need_10 : decode cX7_need 10 = .ok (.iload_n 1, 1) := by decide +kernel
theorem dX7_need_11 : decode cX7_need 11 = .ok (.iload_n 3, 1) := by decide +kernel
theorem dX7_need_12 : decode cX7_need 12 = .ok (.i2l, 1) := by decide +kernel
theorem dX7_need_13 : decode cX7_need 13 = .ok (.invokevirtual 237, 3) := by decide +kernel
theorem dX7_need_16 : decode cX7_need 16 = .ok (.ifCond .eq 13, 3) := by decide +kernel
theorem dX7_need_19 : decode cX7_need 19 = .ok (.aload_n 0, 1) := by decide +kernel
theorem dX7_need_20 : decode cX7_need 20 = .ok (.iload_n 1, 1) := by decide +kernel
theorem dX7_need_21 : decode cX7_need 21 = .ok (.iload_n 2, 1) := by decide +kernel
theorem dX7_need_22 : decode cX7_need 22 = .ok (.iload_n 3, 1) := by decide +kernel
theorem dX7_need_23 : decode cX7_need 23 = .ok (.invokevirtual 307, 3) := by decide +kernel
theorem dX7_need_26 : decode cX7_need 26 = .ok (.goto 9, 3) := by decide +kernel
theorem dX7_need_29 : decode cX7_need 29 = .ok (.aload_n 0, 1) := by decide +kernel
theorem dX7_need_30 : decode cX7_need 30 = .ok (.bipush (-2), 2) := by decide +kernel
theorem dX7_need_32 : decode cX7_need 32 = .ok (.invokevirtual 106, 3) := by decide +kernel
theorem dX7_need_35 : decode cX7_need 35 = .ok (.ireturn, 1) := by decide +kernel
theorem dX7_pay_0 : decode cX7_pay 0 = .ok (.aload_n 0, 1) := by decide +kernel
theorem dX7_pay_1 : decode cX7_pay 1 = .ok (.iload_n 1, 1) := by decide +kernel
theorem dX7_pay_2 : decode cX7_pay 2 = .ok (.iload_n 2, 1) := by decide +kernel
theorem dX7_pay_3 : decode cX7_pay 3 = .ok (.i2l, 1) := by decide +kernel
theorem dX7_pay_4 : decode cX7_pay 4 = .ok (.invokevirtual 237, 3) := by decide +kernel
theorem dX7_pay_7 : decode cX7_pay 7 = .ok (.ifCond .ne 10, 3) := by decide +kernel
theorem dX7_pay_10 : decode cX7_pay 10 = .ok (.aload_n 0, 1) := by decide +kernel
theorem dX7_pay_11 : decode cX7_pay 11 = .ok (.bipush (-2), 2) := by decide +kernel
theorem dX7_pay_13 : decode cX7_pay 13 = .ok (.invokevirtual 106, 3) := by decide +kernel
theorem dX7_pay_16 : decode cX7_pay 16 = .ok (.ireturn, 1) := by decide +kernel
theorem dX7_pay_17 : decode cX7_pay 17 = .ok (.aload_n 0, 1) := by decide +kernel
theorem dX7_pay_18 : decode cX7_pay 18 = .ok (.getfield 46, 3) := by decide +kernel
theorem dX7_pay_21 : decode cX7_pay 21 = .ok (.iload_n 1, 1) := by decide +kernel
theorem dX7_pay_22 : decode cX7_pay 22 = .ok (.iaload, 1) := by decide +kernel
theorem dX7_pay_23 : decode cX7_pay 23 = .ok (.iload_n 2, 1) := by decide +kernel
theorem dX7_pay_24 : decode cX7_pay 24 = .ok (.iconst (-1), 1) := by decide +kernel
theorem dX7_pay_25 : decode cX7_pay 25 = .ok (.ixor, 1) := by decide +kernel
theorem dX7_pay_26 : decode cX7_pay 26 = .ok (.iand, 1) := by decide +kernel
theorem dX7_pay_27 : decode cX7_pay 27 = .ok (.ifCond .eq 10, 3) := by decide +kernel
theorem dX7_pay_30 : decode cX7_pay 30 = .ok (.aload_n 0, 1) := by decide +kernel
theorem dX7_pay_31 : decode cX7_pay 31 = .ok (.bipush (-5), 2) := by decide +kernel
theorem dX7_pay_33 : decode cX7_pay 33 = .ok (.invokevirtual 106, 3) := by decide +kernel
theorem dX7_pay_36 : decode cX7_pay 36 = .ok (.ireturn, 1) := by decide +kernel
theorem dX7_pay_37 : decode cX7_pay 37 = .ok (.iconst 0, 1) := by decide +kernel
theorem dX7_pay_38 : decode cX7_pay 38 = .ok (.istore_n 3, 1) := by decide +kernel
theorem dX7_pay_39 : decode cX7_pay 39 = .ok (.iconst 0, 1) := by decide +kernel
theorem dX7_pay_40 : decode cX7_pay 40 = .ok (.istore 4, 2) := by decide +kernel
theorem dX7_pay_42 : decode cX7_pay 42 = .ok (.iload 4, 2) := by decide +kernel
theorem dX7_pay_44 : decode cX7_pay 44 = .ok (.aload_n 0, 1) := by decide +kernel
theorem dX7_pay_45 : decode cX7_pay 45 = .ok (.getfield 40, 3) := by decide +kernel
theorem dX7_pay_48 : decode cX7_pay 48 = .ok (.iload_n 1, 1) := by decide +kernel
theorem dX7_pay_49 : decode cX7_pay 49 = .ok (.iaload, 1) := by decide +kernel
theorem dX7_pay_50 : decode cX7_pay 50 = .ok (.if_icmp .ge 20, 3) := by decide +kernel
theorem dX7_pay_53 : decode cX7_pay 53 = .ok (.iload_n 3, 1) := by decide +kernel
theorem dX7_pay_54 : decode cX7_pay 54 = .ok (.aload_n 0, 1) := by decide +kernel
theorem dX7_pay_55 : decode cX7_pay 55 = .ok (.iload_n 1, 1) := by decide +kernel
theorem dX7_pay_56 : decode cX7_pay 56 = .ok (.iload 4, 2) := by decide +kernel
theorem dX7_pay_58 : decode cX7_pay 58 = .ok (.iload_n 2, 1) := by decide +kernel
theorem dX7_pay_59 : decode cX7_pay 59 = .ok (.invokevirtual 307, 3) := by decide +kernel
theorem dX7_pay_62 : decode cX7_pay 62 = .ok (.iadd, 1) := by decide +kernel
theorem dX7_pay_63 : decode cX7_pay 63 = .ok (.istore_n 3, 1) := by decide +kernel
theorem dX7_pay_64 : decode cX7_pay 64 = .ok (.iinc 4 1, 3) := by decide +kernel
theorem dX7_pay_67 : decode cX7_pay 67 = .ok (.goto (-25), 3) := by decide +kernel
theorem dX7_pay_70 : decode cX7_pay 70 = .ok (.iload_n 3, 1) := by decide +kernel
theorem dX7_pay_71 : decode cX7_pay 71 = .ok (.ireturn, 1) := by decide +kernel
theorem dX7_few_0 : decode cX7_few 0 = .ok (.aload_n 0, 1) := by decide +kernel
theorem dX7_few_1 : decode cX7_few 1 = .ok (.iload_n 1, 1) := by decide +kernel
theorem dX7_few_2 : decode cX7_few 2 = .ok (.iload_n 2, 1) := by decide +kernel
theorem dX7_few_3 : decode cX7_few 3 = .ok (.i2l, 1) := by decide +kernel
theorem dX7_few_4 : decode cX7_few 4 = .ok (.invokevirtual 237, 3) := by decide +kernel
theorem dX7_few_7 : decode cX7_few 7 = .ok (.ifCond .ne 10, 3) := by decide +kernel
theorem dX7_few_10 : decode cX7_few 10 = .ok (.aload_n 0, 1) := by decide +kernel
theorem dX7_few_11 : decode cX7_few 11 = .ok (.bipush (-2), 2) := by decide +kernel
theorem dX7_few_13 : decode cX7_few 13 = .ok (.invokevirtual 106, 3) := by decide +kernel
theorem dX7_few_16 : decode cX7_few 16 = .ok (.ireturn, 1) := by decide +kernel
theorem dX7_few_17 : decode cX7_few 17 = .ok (.aload_n 0, 1) := by decide +kernel
theorem dX7_few_18 : decode cX7_few 18 = .ok (.getfield 46, 3) := by decide +kernel
theorem dX7_few_21 : decode cX7_few 21 = .ok (.iload_n 1, 1) := by decide +kernel
theorem dX7_few_22 : decode cX7_few 22 = .ok (.iaload, 1) := by decide +kernel
theorem dX7_few_23 : decode cX7_few 23 = .ok (.iload_n 2, 1) := by decide +kernel
theorem dX7_few_24 : decode cX7_few 24 = .ok (.iconst (-1), 1) := by decide +kernel
theorem dX7_few_25 : decode cX7_few 25 = .ok (.ixor, 1) := by decide +kernel
theorem dX7_few_26 : decode cX7_few 26 = .ok (.iand, 1) := by decide +kernel
theorem dX7_few_27 : decode cX7_few 27 = .ok (.ifCond .eq 10, 3) := by decide +kernel
theorem dX7_few_30 : decode cX7_few 30 = .ok (.aload_n 0, 1) := by decide +kernel
theorem dX7_few_31 : decode cX7_few 31 = .ok (.bipush (-5), 2) := by decide +kernel
theorem dX7_few_33 : decode cX7_few 33 = .ok (.invokevirtual 106, 3) := by decide +kernel
theorem dX7_few_36 : decode cX7_few 36 = .ok (.ireturn, 1) := by decide +kernel
theorem dX7_few_37 : decode cX7_few 37 = .ok (.iconst 0, 1) := by decide +kernel
theorem dX7_few_38 : decode cX7_few 38 = .ok (.istore_n 3, 1) := by decide +kernel
theorem dX7_few_39 : decode cX7_few 39 = .ok (.iconst 0, 1) := by decide +kernel
theorem dX7_few_40 : decode cX7_few 40 = .ok (.istore 4, 2) := by decide +kernel
theorem dX7_few_42 : decode cX7_few 42 = .ok (.iload 4, 2) := by decide +kernel
theorem dX7_few_44 : decode cX7_few 44 = .ok (.aload_n 0, 1) := by decide +kernel
theorem dX7_few_45 : decode cX7_few 45 = .ok (.getfield 40, 3) := by decide +kernel
theorem dX7_few_48 : decode cX7_few 48 = .ok (.iload_n 1, 1) := by decide +kernel
theorem dX7_few_49 : decode cX7_few 49 = .ok (.iaload, 1) := by decide +kernel
theorem dX7_few_50 : decode cX7_few 50 = .ok (.if_icmp .ge 28, 3) := by decide +kernel
theorem dX7_few_53 : decode cX7_few 53 = .ok (.iload_n 3, 1) := by decide +kernel
theorem dX7_few_54 : decode cX7_few 54 = .ok (.aload_n 0, 1) := by decide +kernel
theorem dX7_few_55 : decode cX7_few 55 = .ok (.iload_n 1, 1) := by decide +kernel
theorem dX7_few_56 : decode cX7_few 56 = .ok (.iload 4, 2) := by decide +kernel
theorem dX7_few_58 : decode cX7_few 58 = .ok (.iload_n 2, 1) := by decide +kernel
theorem dX7_few_59 : decode cX7_few 59 = .ok (.invokevirtual 307, 3) := by decide +kernel
theorem dX7_few_62 : decode cX7_few 62 = .ok (.ifCond .le 7, 3) := by decide +kernel
theorem dX7_few_65 : decode cX7_few 65 = .ok (.iconst 1, 1) := by decide +kernel
theorem dX7_few_66 : decode cX7_few 66 = .ok (.goto 4, 3) := by decide +kernel
theorem dX7_few_69 : decode cX7_few 69 = .ok (.iconst 0, 1) := by decide +kernel
theorem dX7_few_70 : decode cX7_few 70 = .ok (.iadd, 1) := by decide +kernel
theorem dX7_few_71 : decode cX7_few 71 = .ok (.istore_n 3, 1) := by decide +kernel
theorem dX7_few_72 : decode cX7_few 72 = .ok (.iinc 4 1, 3) := by decide +kernel
theorem dX7_few_75 : decode cX7_few 75 = .ok (.goto (-33), 3) := by decide +kernel
theorem dX7_few_78 : decode cX7_few 78 = .ok (.iload_n 3, 1) := by decide +kernel
theorem dX7_few_79 : decode cX7_few 79 = .ok (.ireturn, 1) := by decide +kernel
theorem dX7_rota_0 : decode cX7_rota 0 = .ok (.aload_n 0, 1) := by decide +kernel
theorem dX7_rota_1 : decode cX7_rota 1 = .ok (.iload_n 1, 1) := by decide +kernel
theorem dX7_rota_2 : decode cX7_rota 2 = .ok (.invokevirtual 92, 3) := by decide +kernel
theorem dX7_rota_5 : decode cX7_rota 5 = .ok (.ifCond .eq 27, 3) := by decide +kernel
theorem dX7_rota_8 : decode cX7_rota 8 = .ok (.iload_n 2, 1) := by decide +kernel
theorem dX7_rota_9 : decode cX7_rota 9 = .ok (.i2l, 1) := by decide +kernel
theorem dX7_rota_10 : decode cX7_rota 10 = .ok (.lconst 0, 1) := by decide +kernel
theorem dX7_rota_11 : decode cX7_rota 11 = .ok (.ldc2_w 100, 3) := by decide +kernel
theorem dX7_rota_14 : decode cX7_rota 14 = .ok (.invokestatic 88, 3) := by decide +kernel
theorem dX7_rota_17 : decode cX7_rota 17 = .ok (.ifCond .eq 15, 3) := by decide +kernel
theorem dX7_rota_20 : decode cX7_rota 20 = .ok (.iload_n 3, 1) := by decide +kernel
theorem dX7_rota_21 : decode cX7_rota 21 = .ok (.i2l, 1) := by decide +kernel
theorem dX7_rota_22 : decode cX7_rota 22 = .ok (.lconst 1, 1) := by decide +kernel
theorem dX7_rota_23 : decode cX7_rota 23 = .ok (.ldc2_w 104, 3) := by decide +kernel
theorem dX7_rota_26 : decode cX7_rota 26 = .ok (.invokestatic 88, 3) := by decide +kernel
theorem dX7_rota_29 : decode cX7_rota 29 = .ok (.ifCond .ne 10, 3) := by decide +kernel
theorem dX7_rota_32 : decode cX7_rota 32 = .ok (.aload_n 0, 1) := by decide +kernel
theorem dX7_rota_33 : decode cX7_rota 33 = .ok (.bipush (-2), 2) := by decide +kernel
theorem dX7_rota_35 : decode cX7_rota 35 = .ok (.invokevirtual 106, 3) := by decide +kernel
theorem dX7_rota_38 : decode cX7_rota 38 = .ok (.ireturn, 1) := by decide +kernel
theorem dX7_rota_39 : decode cX7_rota 39 = .ok (.aload_n 0, 1) := by decide +kernel
theorem dX7_rota_40 : decode cX7_rota 40 = .ok (.getfield 7, 3) := by decide +kernel
theorem dX7_rota_43 : decode cX7_rota 43 = .ok (.iload_n 2, 1) := by decide +kernel
theorem dX7_rota_44 : decode cX7_rota 44 = .ok (.iaload, 1) := by decide +kernel
theorem dX7_rota_45 : decode cX7_rota 45 = .ok (.iconst 2, 1) := by decide +kernel
theorem dX7_rota_46 : decode cX7_rota 46 = .ok (.if_icmp .ne 10, 3) := by decide +kernel
theorem dX7_rota_49 : decode cX7_rota 49 = .ok (.aload_n 0, 1) := by decide +kernel
theorem dX7_rota_50 : decode cX7_rota 50 = .ok (.bipush (-3), 2) := by decide +kernel
theorem dX7_rota_52 : decode cX7_rota 52 = .ok (.invokevirtual 106, 3) := by decide +kernel
theorem dX7_rota_55 : decode cX7_rota 55 = .ok (.ireturn, 1) := by decide +kernel
theorem dX7_rota_56 : decode cX7_rota 56 = .ok (.aload_n 0, 1) := by decide +kernel
theorem dX7_rota_57 : decode cX7_rota 57 = .ok (.getfield 7, 3) := by decide +kernel
theorem dX7_rota_60 : decode cX7_rota 60 = .ok (.iload_n 2, 1) := by decide +kernel
theorem dX7_rota_61 : decode cX7_rota 61 = .ok (.iaload, 1) := by decide +kernel
theorem dX7_rota_62 : decode cX7_rota 62 = .ok (.ifCond .ne 10, 3) := by decide +kernel
theorem dX7_rota_65 : decode cX7_rota 65 = .ok (.aload_n 0, 1) := by decide +kernel
theorem dX7_rota_66 : decode cX7_rota 66 = .ok (.bipush (-4), 2) := by decide +kernel
theorem dX7_rota_68 : decode cX7_rota 68 = .ok (.invokevirtual 106, 3) := by decide +kernel
theorem dX7_rota_71 : decode cX7_rota 71 = .ok (.ireturn, 1) := by decide +kernel
theorem dX7_rota_72 : decode cX7_rota 72 = .ok (.aload_n 0, 1) := by decide +kernel
theorem dX7_rota_73 : decode cX7_rota 73 = .ok (.getfield 16, 3) := by decide +kernel
theorem dX7_rota_76 : decode cX7_rota 76 = .ok (.iload_n 2, 1) := by decide +kernel
theorem dX7_rota_77 : decode cX7_rota 77 = .ok (.iaload, 1) := by decide +kernel
theorem dX7_rota_78 : decode cX7_rota 78 = .ok (.iload_n 3, 1) := by decide +kernel
theorem dX7_rota_79 : decode cX7_rota 79 = .ok (.if_icmp .ge 10, 3) := by decide +kernel
theorem dX7_rota_82 : decode cX7_rota 82 = .ok (.aload_n 0, 1) := by decide +kernel
theorem dX7_rota_83 : decode cX7_rota 83 = .ok (.bipush (-2), 2) := by decide +kernel
theorem dX7_rota_85 : decode cX7_rota 85 = .ok (.invokevirtual 106, 3) := by decide +kernel
theorem dX7_rota_88 : decode cX7_rota 88 = .ok (.ireturn, 1) := by decide +kernel
theorem dX7_rota_89 : decode cX7_rota 89 = .ok (.iconst 0, 1) := by decide +kernel
theorem dX7_rota_90 : decode cX7_rota 90 = .ok (.istore 4, 2) := by decide +kernel
theorem dX7_rota_92 : decode cX7_rota 92 = .ok (.iload 4, 2) := by decide +kernel
theorem dX7_rota_94 : decode cX7_rota 94 = .ok (.iload_n 3, 1) := by decide +kernel
theorem dX7_rota_95 : decode cX7_rota 95 = .ok (.if_icmp .ge 33, 3) := by decide +kernel
theorem dX7_rota_98 : decode cX7_rota 98 = .ok (.aload_n 0, 1) := by decide +kernel
theorem dX7_rota_99 : decode cX7_rota 99 = .ok (.iload_n 1, 1) := by decide +kernel
theorem dX7_rota_100 : decode cX7_rota 100 = .ok (.aload_n 0, 1) := by decide +kernel
theorem dX7_rota_101 : decode cX7_rota 101 = .ok (.getfield 21, 3) := by decide +kernel
theorem dX7_rota_104 : decode cX7_rota 104 = .ok (.iload_n 2, 1) := by decide +kernel
theorem dX7_rota_105 : decode cX7_rota 105 = .ok (.aaload, 1) := by decide +kernel
theorem dX7_rota_106 : decode cX7_rota 106 = .ok (.iload 4, 2) := by decide +kernel
theorem dX7_rota_108 : decode cX7_rota 108 = .ok (.laload, 1) := by decide +kernel
theorem dX7_rota_109 : decode cX7_rota 109 = .ok (.invokevirtual 237, 3) := by decide +kernel
theorem dX7_rota_112 : decode cX7_rota 112 = .ok (.ifCond .ne 10, 3) := by decide +kernel
theorem dX7_rota_115 : decode cX7_rota 115 = .ok (.aload_n 0, 1) := by decide +kernel
theorem dX7_rota_116 : decode cX7_rota 116 = .ok (.bipush (-2), 2) := by decide +kernel
theorem dX7_rota_118 : decode cX7_rota 118 = .ok (.invokevirtual 106, 3) := by decide +kernel
theorem dX7_rota_121 : decode cX7_rota 121 = .ok (.ireturn, 1) := by decide +kernel
theorem dX7_rota_122 : decode cX7_rota 122 = .ok (.iinc 4 1, 3) := by decide +kernel
theorem dX7_rota_125 : decode cX7_rota 125 = .ok (.goto (-33), 3) := by decide +kernel
theorem dX7_rota_128 : decode cX7_rota 128 = .ok (.iconst 0, 1) := by decide +kernel
theorem dX7_rota_129 : decode cX7_rota 129 = .ok (.istore 4, 2) := by decide +kernel
theorem dX7_rota_131 : decode cX7_rota 131 = .ok (.iload 4, 2) := by decide +kernel
theorem dX7_rota_133 : decode cX7_rota 133 = .ok (.aload_n 0, 1) := by decide +kernel
theorem dX7_rota_134 : decode cX7_rota 134 = .ok (.getfield 40, 3) := by decide +kernel
theorem dX7_rota_137 : decode cX7_rota 137 = .ok (.iload_n 1, 1) := by decide +kernel
theorem dX7_rota_138 : decode cX7_rota 138 = .ok (.iaload, 1) := by decide +kernel
theorem dX7_rota_139 : decode cX7_rota 139 = .ok (.if_icmp .ge 99, 3) := by decide +kernel
theorem dX7_rota_142 : decode cX7_rota 142 = .ok (.iconst 0, 1) := by decide +kernel
theorem dX7_rota_143 : decode cX7_rota 143 = .ok (.istore 5, 2) := by decide +kernel
theorem dX7_rota_145 : decode cX7_rota 145 = .ok (.iconst 0, 1) := by decide +kernel
theorem dX7_rota_146 : decode cX7_rota 146 = .ok (.istore 6, 2) := by decide +kernel
theorem dX7_rota_148 : decode cX7_rota 148 = .ok (.iload 6, 2) := by decide +kernel
theorem dX7_rota_150 : decode cX7_rota 150 = .ok (.iload_n 3, 1) := by decide +kernel
theorem dX7_rota_151 : decode cX7_rota 151 = .ok (.if_icmp .ge 59, 3) := by decide +kernel
theorem dX7_rota_154 : decode cX7_rota 154 = .ok (.aload_n 0, 1) := by decide +kernel
theorem dX7_rota_155 : decode cX7_rota 155 = .ok (.getfield 21, 3) := by decide +kernel
theorem dX7_rota_158 : decode cX7_rota 158 = .ok (.iload_n 2, 1) := by decide +kernel
theorem dX7_rota_159 : decode cX7_rota 159 = .ok (.aaload, 1) := by decide +kernel
theorem dX7_rota_160 : decode cX7_rota 160 = .ok (.iload 6, 2) := by decide +kernel
theorem dX7_rota_162 : decode cX7_rota 162 = .ok (.laload, 1) := by decide +kernel
theorem dX7_rota_163 : decode cX7_rota 163 = .ok (.l2i, 1) := by decide +kernel
theorem dX7_rota_164 : decode cX7_rota 164 = .ok (.aload_n 0, 1) := by decide +kernel
theorem dX7_rota_165 : decode cX7_rota 165 = .ok (.getfield 46, 3) := by decide +kernel
theorem dX7_rota_168 : decode cX7_rota 168 = .ok (.iload_n 1, 1) := by decide +kernel
theorem dX7_rota_169 : decode cX7_rota 169 = .ok (.iaload, 1) := by decide +kernel
theorem dX7_rota_170 : decode cX7_rota 170 = .ok (.ior, 1) := by decide +kernel
theorem dX7_rota_171 : decode cX7_rota 171 = .ok (.istore 7, 2) := by decide +kernel
theorem dX7_rota_173 : decode cX7_rota 173 = .ok (.iload 5, 2) := by decide +kernel
theorem dX7_rota_175 : decode cX7_rota 175 = .ok (.aload_n 0, 1) := by decide +kernel
theorem dX7_rota_176 : decode cX7_rota 176 = .ok (.iload_n 1, 1) := by decide +kernel
theorem dX7_rota_177 : decode cX7_rota 177 = .ok (.iload 4, 2) := by decide +kernel
theorem dX7_rota_179 : decode cX7_rota 179 = .ok (.iload 7, 2) := by decide +kernel
theorem dX7_rota_181 : decode cX7_rota 181 = .ok (.iconst 1, 1) := by decide +kernel
theorem dX7_rota_182 : decode cX7_rota 182 = .ok (.iload 4, 2) := by decide +kernel
theorem dX7_rota_184 : decode cX7_rota 184 = .ok (.ishl, 1) := by decide +kernel
theorem dX7_rota_185 : decode cX7_rota 185 = .ok (.iconst (-1), 1) := by decide +kernel
theorem dX7_rota_186 : decode cX7_rota 186 = .ok (.ixor, 1) := by decide +kernel
theorem dX7_rota_187 : decode cX7_rota 187 = .ok (.iand, 1) := by decide +kernel
theorem dX7_rota_188 : decode cX7_rota 188 = .ok (.invokevirtual 241, 3) := by decide +kernel
theorem dX7_rota_191 : decode cX7_rota 191 = .ok (.aload_n 0, 1) := by decide +kernel
theorem dX7_rota_192 : decode cX7_rota 192 = .ok (.iload_n 1, 1) := by decide +kernel
theorem dX7_rota_193 : decode cX7_rota 193 = .ok (.iload 4, 2) := by decide +kernel
theorem dX7_rota_195 : decode cX7_rota 195 = .ok (.iload 7, 2) := by decide +kernel
theorem dX7_rota_197 : decode cX7_rota 197 = .ok (.invokevirtual 241, 3) := by decide +kernel
theorem dX7_rota_200 : decode cX7_rota 200 = .ok (.isub, 1) := by decide +kernel
theorem dX7_rota_201 : decode cX7_rota 201 = .ok (.iadd, 1) := by decide +kernel
theorem dX7_rota_202 : decode cX7_rota 202 = .ok (.istore 5, 2) := by decide +kernel
theorem dX7_rota_204 : decode cX7_rota 204 = .ok (.iinc 6 1, 3) := by decide +kernel
theorem dX7_rota_207 : decode cX7_rota 207 = .ok (.goto (-59), 3) := by decide +kernel
theorem dX7_rota_210 : decode cX7_rota 210 = .ok (.aload_n 0, 1) := by decide +kernel
theorem dX7_rota_211 : decode cX7_rota 211 = .ok (.getfield 46, 3) := by decide +kernel
theorem dX7_rota_214 : decode cX7_rota 214 = .ok (.iload_n 1, 1) := by decide +kernel
theorem dX7_rota_215 : decode cX7_rota 215 = .ok (.iaload, 1) := by decide +kernel
theorem dX7_rota_216 : decode cX7_rota 216 = .ok (.iload 4, 2) := by decide +kernel
theorem dX7_rota_218 : decode cX7_rota 218 = .ok (.ishr, 1) := by decide +kernel
theorem dX7_rota_219 : decode cX7_rota 219 = .ok (.iconst 1, 1) := by decide +kernel
theorem dX7_rota_220 : decode cX7_rota 220 = .ok (.iand, 1) := by decide +kernel
theorem dX7_rota_221 : decode cX7_rota 221 = .ok (.ifCond .ne 11, 3) := by decide +kernel
theorem dX7_rota_224 : decode cX7_rota 224 = .ok (.iload 5, 2) := by decide +kernel
theorem dX7_rota_226 : decode cX7_rota 226 = .ok (.ifCond .le 6, 3) := by decide +kernel
theorem dX7_rota_229 : decode cX7_rota 229 = .ok (.iload 4, 2) := by decide +kernel
theorem dX7_rota_231 : decode cX7_rota 231 = .ok (.ireturn, 1) := by decide +kernel
theorem dX7_rota_232 : decode cX7_rota 232 = .ok (.iinc 4 1, 3) := by decide +kernel
theorem dX7_rota_235 : decode cX7_rota 235 = .ok (.goto (-104), 3) := by decide +kernel
theorem dX7_rota_238 : decode cX7_rota 238 = .ok (.iconst (-1), 1) := by decide +kernel
theorem dX7_rota_239 : decode cX7_rota 239 = .ok (.ireturn, 1) := by decide +kernel
theorem dX7_seed_0 : decode cX7_seed 0 = .ok (.aload_n 0, 1) := by decide +kernel
theorem dX7_seed_1 : decode cX7_seed 1 = .ok (.getfield 72, 3) := by decide +kernel
theorem dX7_seed_4 : decode cX7_seed 4 = .ok (.istore_n 2, 1) := by decide +kernel
theorem dX7_seed_5 : decode cX7_seed 5 = .ok (.aload_n 0, 1) := by decide +kernel
theorem dX7_seed_6 : decode cX7_seed 6 = .ok (.iload_n 1, 1) := by decide +kernel
theorem dX7_seed_7 : decode cX7_seed 7 = .ok (.putfield 72, 3) := by decide +kernel
theorem dX7_seed_10 : decode cX7_seed 10 = .ok (.iload_n 2, 1) := by decide +kernel
theorem dX7_seed_11 : decode cX7_seed 11 = .ok (.ireturn, 1) := by decide +kernel
theorem dX7_draw_0 : decode cX7_draw 0 = .ok (.aload_n 0, 1) := by decide +kernel
theorem dX7_draw_1 : decode cX7_draw 1 = .ok (.aload_n 0, 1) := by decide +kernel
theorem dX7_draw_2 : decode cX7_draw 2 = .ok (.getfield 72, 3) := by decide +kernel
theorem dX7_draw_5 : decode cX7_draw 5 = .ok (.ldc_w 310, 3) := by decide +kernel
theorem dX7_draw_8 : decode cX7_draw 8 = .ok (.imul, 1) := by decide +kernel
theorem dX7_draw_9 : decode cX7_draw 9 = .ok (.sipush 12345, 3) := by decide +kernel
theorem dX7_draw_12 : decode cX7_draw 12 = .ok (.iadd, 1) := by decide +kernel
theorem dX7_draw_13 : decode cX7_draw 13 = .ok (.putfield 72, 3) := by decide +kernel
theorem dX7_draw_16 : decode cX7_draw 16 = .ok (.aload_n 0, 1) := by decide +kernel
theorem dX7_draw_17 : decode cX7_draw 17 = .ok (.getfield 72, 3) := by decide +kernel
theorem dX7_draw_20 : decode cX7_draw 20 = .ok (.bipush 16, 2) := by decide +kernel
theorem dX7_draw_22 : decode cX7_draw 22 = .ok (.iushr, 1) := by decide +kernel
theorem dX7_draw_23 : decode cX7_draw 23 = .ok (.iload_n 1, 1) := by decide +kernel
theorem dX7_draw_24 : decode cX7_draw 24 = .ok (.irem, 1) := by decide +kernel
theorem dX7_draw_25 : decode cX7_draw 25 = .ok (.ireturn, 1) := by decide +kernel
theorem dX7_thousandths_0 : decode cX7_thousandths 0 = .ok (.aload_n 0, 1) := by decide +kernel
theorem dX7_thousandths_1 : decode cX7_thousandths 1 = .ok (.getfield 46, 3) := by decide +kernel
theorem dX7_thousandths_4 : decode cX7_thousandths 4 = .ok (.iload_n 1, 1) := by decide +kernel
theorem dX7_thousandths_5 : decode cX7_thousandths 5 = .ok (.iaload, 1) := by decide +kernel
theorem dX7_thousandths_6 : decode cX7_thousandths 6 = .ok (.iload_n 2, 1) := by decide +kernel
theorem dX7_thousandths_7 : decode cX7_thousandths 7 = .ok (.ishr, 1) := by decide +kernel
theorem dX7_thousandths_8 : decode cX7_thousandths 8 = .ok (.iconst 1, 1) := by decide +kernel
theorem dX7_thousandths_9 : decode cX7_thousandths 9 = .ok (.iand, 1) := by decide +kernel
theorem dX7_thousandths_10 : decode cX7_thousandths 10 = .ok (.ifCond .eq 7, 3) := by decide +kernel
theorem dX7_thousandths_13 : decode cX7_thousandths 13 = .ok (.sipush 1000, 3) := by decide +kernel
theorem dX7_thousandths_16 : decode cX7_thousandths 16 = .ok (.ireturn, 1) := by decide +kernel
theorem dX7_thousandths_17 : decode cX7_thousandths 17 = .ok (.aload_n 0, 1) := by decide +kernel
theorem dX7_thousandths_18 : decode cX7_thousandths 18 = .ok (.getfield 66, 3) := by decide +kernel
theorem dX7_thousandths_21 : decode cX7_thousandths 21 = .ok (.iload_n 1, 1) := by decide +kernel
theorem dX7_thousandths_22 : decode cX7_thousandths 22 = .ok (.aaload, 1) := by decide +kernel
theorem dX7_thousandths_23 : decode cX7_thousandths 23 = .ok (.iload_n 2, 1) := by decide +kernel
theorem dX7_thousandths_24 : decode cX7_thousandths 24 = .ok (.iaload, 1) := by decide +kernel
theorem dX7_thousandths_25 : decode cX7_thousandths 25 = .ok (.istore 4, 2) := by decide +kernel
theorem dX7_thousandths_27 : decode cX7_thousandths 27 = .ok (.aload_n 0, 1) := by decide +kernel
theorem dX7_thousandths_28 : decode cX7_thousandths 28 = .ok (.getfield 63, 3) := by decide +kernel
theorem dX7_thousandths_31 : decode cX7_thousandths 31 = .ok (.iload_n 1, 1) := by decide +kernel
theorem dX7_thousandths_32 : decode cX7_thousandths 32 = .ok (.aaload, 1) := by decide +kernel
theorem dX7_thousandths_33 : decode cX7_thousandths 33 = .ok (.iload_n 2, 1) := by decide +kernel
theorem dX7_thousandths_34 : decode cX7_thousandths 34 = .ok (.iaload, 1) := by decide +kernel
theorem dX7_thousandths_35 : decode cX7_thousandths 35 = .ok (.tableswitch 152 1 5 #[33, 49, 52, 78, 103], 33) := by decide +kernel
theorem dX7_thousandths_68 : decode cX7_thousandths 68 = .ok (.iload 4, 2) := by decide +kernel
theorem dX7_thousandths_70 : decode cX7_thousandths 70 = .ok (.iconst 1, 1) := by decide +kernel
theorem dX7_thousandths_71 : decode cX7_thousandths 71 = .ok (.if_icmp .ne 7, 3) := by decide +kernel
theorem dX7_thousandths_74 : decode cX7_thousandths 74 = .ok (.iconst 1, 1) := by decide +kernel
theorem dX7_thousandths_75 : decode cX7_thousandths 75 = .ok (.goto 4, 3) := by decide +kernel
theorem dX7_thousandths_78 : decode cX7_thousandths 78 = .ok (.iconst 0, 1) := by decide +kernel
theorem dX7_thousandths_79 : decode cX7_thousandths 79 = .ok (.istore 5, 2) := by decide +kernel
theorem dX7_thousandths_81 : decode cX7_thousandths 81 = .ok (.goto 109, 3) := by decide +kernel
theorem dX7_thousandths_84 : decode cX7_thousandths 84 = .ok (.iload 4, 2) := by decide +kernel
theorem dX7_thousandths_86 : decode cX7_thousandths 86 = .ok (.ireturn, 1) := by decide +kernel
theorem dX7_thousandths_87 : decode cX7_thousandths 87 = .ok (.aload_n 0, 1) := by decide +kernel
theorem dX7_thousandths_88 : decode cX7_thousandths 88 = .ok (.getfield 57, 3) := by decide +kernel
theorem dX7_thousandths_91 : decode cX7_thousandths 91 = .ok (.iload_n 1, 1) := by decide +kernel
theorem dX7_thousandths_92 : decode cX7_thousandths 92 = .ok (.aaload, 1) := by decide +kernel
theorem dX7_thousandths_93 : decode cX7_thousandths 93 = .ok (.iload_n 2, 1) := by decide +kernel
theorem dX7_thousandths_94 : decode cX7_thousandths 94 = .ok (.iaload, 1) := by decide +kernel
theorem dX7_thousandths_95 : decode cX7_thousandths 95 = .ok (.invokestatic 223, 3) := by decide +kernel
theorem dX7_thousandths_98 : decode cX7_thousandths 98 = .ok (.iload 4, 2) := by decide +kernel
theorem dX7_thousandths_100 : decode cX7_thousandths 100 = .ok (.if_icmp .gt 7, 3) := by decide +kernel
theorem dX7_thousandths_103 : decode cX7_thousandths 103 = .ok (.iconst 1, 1) := by decide +kernel
theorem dX7_thousandths_104 : decode cX7_thousandths 104 = .ok (.goto 4, 3) := by decide +kernel
theorem dX7_thousandths_107 : decode cX7_thousandths 107 = .ok (.iconst 0, 1) := by decide +kernel
theorem dX7_thousandths_108 : decode cX7_thousandths 108 = .ok (.istore 5, 2) := by decide +kernel
theorem dX7_thousandths_110 : decode cX7_thousandths 110 = .ok (.goto 80, 3) := by decide +kernel
theorem dX7_thousandths_113 : decode cX7_thousandths 113 = .ok (.iload_n 3, 1) := by decide +kernel
theorem dX7_thousandths_114 : decode cX7_thousandths 114 = .ok (.iload 4, 2) := by decide +kernel
theorem dX7_thousandths_116 : decode cX7_thousandths 116 = .ok (.bipush 100, 2) := by decide +kernel
theorem dX7_thousandths_118 : decode cX7_thousandths 118 = .ok (.idiv, 1) := by decide +kernel
theorem dX7_thousandths_119 : decode cX7_thousandths 119 = .ok (.irem, 1) := by decide +kernel
theorem dX7_thousandths_120 : decode cX7_thousandths 120 = .ok (.iload 4, 2) := by decide +kernel
theorem dX7_thousandths_122 : decode cX7_thousandths 122 = .ok (.bipush 100, 2) := by decide +kernel
theorem dX7_thousandths_124 : decode cX7_thousandths 124 = .ok (.irem, 1) := by decide +kernel
theorem dX7_thousandths_125 : decode cX7_thousandths 125 = .ok (.if_icmp .ne 7, 3) := by decide +kernel
theorem dX7_thousandths_128 : decode cX7_thousandths 128 = .ok (.iconst 1, 1) := by decide +kernel
theorem dX7_thousandths_129 : decode cX7_thousandths 129 = .ok (.goto 4, 3) := by decide +kernel
theorem dX7_thousandths_132 : decode cX7_thousandths 132 = .ok (.iconst 0, 1) := by decide +kernel
theorem dX7_thousandths_133 : decode cX7_thousandths 133 = .ok (.istore 5, 2) := by decide +kernel
theorem dX7_thousandths_135 : decode cX7_thousandths 135 = .ok (.goto 55, 3) := by decide +kernel
theorem dX7_thousandths_138 : decode cX7_thousandths 138 = .ok (.iload 4, 2) := by decide +kernel
theorem dX7_thousandths_140 : decode cX7_thousandths 140 = .ok (.aload_n 0, 1) := by decide +kernel
theorem dX7_thousandths_141 : decode cX7_thousandths 141 = .ok (.iload_n 1, 1) := by decide +kernel
theorem dX7_thousandths_142 : decode cX7_thousandths 142 = .ok (.invokevirtual 96, 3) := by decide +kernel
theorem dX7_thousandths_145 : decode cX7_thousandths 145 = .ok (.iand, 1) := by decide +kernel
theorem dX7_thousandths_146 : decode cX7_thousandths 146 = .ok (.iconst 1, 1) := by decide +kernel
theorem dX7_thousandths_147 : decode cX7_thousandths 147 = .ok (.iload_n 2, 1) := by decide +kernel
theorem dX7_thousandths_148 : decode cX7_thousandths 148 = .ok (.ishl, 1) := by decide +kernel
theorem dX7_thousandths_149 : decode cX7_thousandths 149 = .ok (.iconst (-1), 1) := by decide +kernel
theorem dX7_thousandths_150 : decode cX7_thousandths 150 = .ok (.ixor, 1) := by decide +kernel
theorem dX7_thousandths_151 : decode cX7_thousandths 151 = .ok (.iand, 1) := by decide +kernel
theorem dX7_thousandths_152 : decode cX7_thousandths 152 = .ok (.istore 6, 2) := by decide +kernel
theorem dX7_thousandths_154 : decode cX7_thousandths 154 = .ok (.aload_n 0, 1) := by decide +kernel
theorem dX7_thousandths_155 : decode cX7_thousandths 155 = .ok (.iload_n 1, 1) := by decide +kernel
theorem dX7_thousandths_156 : decode cX7_thousandths 156 = .ok (.iload_n 2, 1) := by decide +kernel
theorem dX7_thousandths_157 : decode cX7_thousandths 157 = .ok (.iload 6, 2) := by decide +kernel
theorem dX7_thousandths_159 : decode cX7_thousandths 159 = .ok (.iconst 1, 1) := by decide +kernel
theorem dX7_thousandths_160 : decode cX7_thousandths 160 = .ok (.iload_n 2, 1) := by decide +kernel
theorem dX7_thousandths_161 : decode cX7_thousandths 161 = .ok (.ishl, 1) := by decide +kernel
theorem dX7_thousandths_162 : decode cX7_thousandths 162 = .ok (.ior, 1) := by decide +kernel
theorem dX7_thousandths_163 : decode cX7_thousandths 163 = .ok (.invokevirtual 241, 3) := by decide +kernel
theorem dX7_thousandths_166 : decode cX7_thousandths 166 = .ok (.aload_n 0, 1) := by decide +kernel
theorem dX7_thousandths_167 : decode cX7_thousandths 167 = .ok (.iload_n 1, 1) := by decide +kernel
theorem dX7_thousandths_168 : decode cX7_thousandths 168 = .ok (.iload_n 2, 1) := by decide +kernel
theorem dX7_thousandths_169 : decode cX7_thousandths 169 = .ok (.iload 6, 2) := by decide +kernel
theorem dX7_thousandths_171 : decode cX7_thousandths 171 = .ok (.invokevirtual 241, 3) := by decide +kernel
theorem dX7_thousandths_174 : decode cX7_thousandths 174 = .ok (.if_icmp .le 7, 3) := by decide +kernel
theorem dX7_thousandths_177 : decode cX7_thousandths 177 = .ok (.iconst 1, 1) := by decide +kernel
theorem dX7_thousandths_178 : decode cX7_thousandths 178 = .ok (.goto 4, 3) := by decide +kernel
theorem dX7_thousandths_181 : decode cX7_thousandths 181 = .ok (.iconst 0, 1) := by decide +kernel
theorem dX7_thousandths_182 : decode cX7_thousandths 182 = .ok (.istore 5, 2) := by decide +kernel
theorem dX7_thousandths_184 : decode cX7_thousandths 184 = .ok (.goto 6, 3) := by decide +kernel
theorem dX7_thousandths_187 : decode cX7_thousandths 187 = .ok (.iconst 0, 1) := by decide +kernel
theorem dX7_thousandths_188 : decode cX7_thousandths 188 = .ok (.istore 5, 2) := by decide +kernel
theorem dX7_thousandths_190 : decode cX7_thousandths 190 = .ok (.iload 5, 2) := by decide +kernel
theorem dX7_thousandths_192 : decode cX7_thousandths 192 = .ok (.ifCond .eq 9, 3) := by decide +kernel
theorem dX7_thousandths_195 : decode cX7_thousandths 195 = .ok (.sipush 1000, 3) := by decide +kernel
theorem dX7_thousandths_198 : decode cX7_thousandths 198 = .ok (.goto 4, 3) := by decide +kernel
theorem dX7_thousandths_201 : decode cX7_thousandths 201 = .ok (.iconst 0, 1) := by decide +kernel
theorem dX7_thousandths_202 : decode cX7_thousandths 202 = .ok (.ireturn, 1) := by decide +kernel
theorem dX7_doers_0 : decode cX7_doers 0 = .ok (.aload_n 0, 1) := by decide +kernel
theorem dX7_doers_1 : decode cX7_doers 1 = .ok (.iload_n 1, 1) := by decide +kernel
theorem dX7_doers_2 : decode cX7_doers 2 = .ok (.invokevirtual 92, 3) := by decide +kernel
theorem dX7_doers_5 : decode cX7_doers 5 = .ok (.ifCond .eq 15, 3) := by decide +kernel
theorem dX7_doers_8 : decode cX7_doers 8 = .ok (.iload_n 2, 1) := by decide +kernel
theorem dX7_doers_9 : decode cX7_doers 9 = .ok (.i2l, 1) := by decide +kernel
theorem dX7_doers_10 : decode cX7_doers 10 = .ok (.lconst 0, 1) := by decide +kernel
theorem dX7_doers_11 : decode cX7_doers 11 = .ok (.ldc2_w 311, 3) := by decide +kernel
theorem dX7_doers_14 : decode cX7_doers 14 = .ok (.invokestatic 88, 3) := by decide +kernel
theorem dX7_doers_17 : decode cX7_doers 17 = .ok (.ifCond .ne 10, 3) := by decide +kernel
theorem dX7_doers_20 : decode cX7_doers 20 = .ok (.aload_n 0, 1) := by decide +kernel
theorem dX7_doers_21 : decode cX7_doers 21 = .ok (.bipush (-2), 2) := by decide +kernel
theorem dX7_doers_23 : decode cX7_doers 23 = .ok (.invokevirtual 106, 3) := by decide +kernel
theorem dX7_doers_26 : decode cX7_doers 26 = .ok (.ireturn, 1) := by decide +kernel
theorem dX7_doers_27 : decode cX7_doers 27 = .ok (.iconst 0, 1) := by decide +kernel
theorem dX7_doers_28 : decode cX7_doers 28 = .ok (.istore_n 3, 1) := by decide +kernel
theorem dX7_doers_29 : decode cX7_doers 29 = .ok (.iconst 0, 1) := by decide +kernel
theorem dX7_doers_30 : decode cX7_doers 30 = .ok (.istore 4, 2) := by decide +kernel
theorem dX7_doers_32 : decode cX7_doers 32 = .ok (.iload 4, 2) := by decide +kernel
theorem dX7_doers_34 : decode cX7_doers 34 = .ok (.aload_n 0, 1) := by decide +kernel
theorem dX7_doers_35 : decode cX7_doers 35 = .ok (.getfield 40, 3) := by decide +kernel
theorem dX7_doers_38 : decode cX7_doers 38 = .ok (.iload_n 1, 1) := by decide +kernel
theorem dX7_doers_39 : decode cX7_doers 39 = .ok (.iaload, 1) := by decide +kernel
theorem dX7_doers_40 : decode cX7_doers 40 = .ok (.if_icmp .ge 109, 3) := by decide +kernel
theorem dX7_doers_43 : decode cX7_doers 43 = .ok (.aload_n 0, 1) := by decide +kernel
theorem dX7_doers_44 : decode cX7_doers 44 = .ok (.iload_n 1, 1) := by decide +kernel
theorem dX7_doers_45 : decode cX7_doers 45 = .ok (.iload 4, 2) := by decide +kernel
theorem dX7_doers_47 : decode cX7_doers 47 = .ok (.iload_n 2, 1) := by decide +kernel
theorem dX7_doers_48 : decode cX7_doers 48 = .ok (.invokevirtual 313, 3) := by decide +kernel
theorem dX7_doers_51 : decode cX7_doers 51 = .ok (.istore 5, 2) := by decide +kernel
theorem dX7_doers_53 : decode cX7_doers 53 = .ok (.aload_n 0, 1) := by decide +kernel
theorem dX7_doers_54 : decode cX7_doers 54 = .ok (.getfield 46, 3) := by decide +kernel
theorem dX7_doers_57 : decode cX7_doers 57 = .ok (.iload_n 1, 1) := by decide +kernel
theorem dX7_doers_58 : decode cX7_doers 58 = .ok (.iaload, 1) := by decide +kernel
theorem dX7_doers_59 : decode cX7_doers 59 = .ok (.iload 4, 2) := by decide +kernel
theorem dX7_doers_61 : decode cX7_doers 61 = .ok (.ishr, 1) := by decide +kernel
theorem dX7_doers_62 : decode cX7_doers 62 = .ok (.iconst 1, 1) := by decide +kernel
theorem dX7_doers_63 : decode cX7_doers 63 = .ok (.iand, 1) := by decide +kernel
theorem dX7_doers_64 : decode cX7_doers 64 = .ok (.ifCond .ne 20, 3) := by decide +kernel
theorem dX7_doers_67 : decode cX7_doers 67 = .ok (.aload_n 0, 1) := by decide +kernel
theorem dX7_doers_68 : decode cX7_doers 68 = .ok (.getfield 63, 3) := by decide +kernel
theorem dX7_doers_71 : decode cX7_doers 71 = .ok (.iload_n 1, 1) := by decide +kernel
theorem dX7_doers_72 : decode cX7_doers 72 = .ok (.aaload, 1) := by decide +kernel
theorem dX7_doers_73 : decode cX7_doers 73 = .ok (.iload 4, 2) := by decide +kernel
theorem dX7_doers_75 : decode cX7_doers 75 = .ok (.iaload, 1) := by decide +kernel
theorem dX7_doers_76 : decode cX7_doers 76 = .ok (.iconst 2, 1) := by decide +kernel
theorem dX7_doers_77 : decode cX7_doers 77 = .ok (.if_icmp .ne 7, 3) := by decide +kernel
theorem dX7_doers_80 : decode cX7_doers 80 = .ok (.iconst 1, 1) := by decide +kernel
theorem dX7_doers_81 : decode cX7_doers 81 = .ok (.goto 4, 3) := by decide +kernel
theorem dX7_doers_84 : decode cX7_doers 84 = .ok (.iconst 0, 1) := by decide +kernel
theorem dX7_doers_85 : decode cX7_doers 85 = .ok (.istore 6, 2) := by decide +kernel
theorem dX7_doers_87 : decode cX7_doers 87 = .ok (.iload 6, 2) := by decide +kernel
theorem dX7_doers_89 : decode cX7_doers 89 = .ok (.ifCond .eq 23, 3) := by decide +kernel
theorem dX7_doers_92 : decode cX7_doers 92 = .ok (.aload_n 0, 1) := by decide +kernel
theorem dX7_doers_93 : decode cX7_doers 93 = .ok (.sipush 1000, 3) := by decide +kernel
theorem dX7_doers_96 : decode cX7_doers 96 = .ok (.invokevirtual 316, 3) := by decide +kernel
theorem dX7_doers_99 : decode cX7_doers 99 = .ok (.iload 5, 2) := by decide +kernel
theorem dX7_doers_101 : decode cX7_doers 101 = .ok (.if_icmp .ge 7, 3) := by decide +kernel
theorem dX7_doers_104 : decode cX7_doers 104 = .ok (.iconst 1, 1) := by decide +kernel
theorem dX7_doers_105 : decode cX7_doers 105 = .ok (.goto 20, 3) := by decide +kernel
theorem dX7_doers_108 : decode cX7_doers 108 = .ok (.iconst 0, 1) := by decide +kernel
theorem dX7_doers_109 : decode cX7_doers 109 = .ok (.goto 16, 3) := by decide +kernel
theorem dX7_doers_112 : decode cX7_doers 112 = .ok (.iload 5, 2) := by decide +kernel
theorem dX7_doers_114 : decode cX7_doers 114 = .ok (.sipush 1000, 3) := by decide +kernel
theorem dX7_doers_117 : decode cX7_doers 117 = .ok (.if_icmp .ne 7, 3) := by decide +kernel
theorem dX7_doers_120 : decode cX7_doers 120 = .ok (.iconst 1, 1) := by decide +kernel
theorem dX7_doers_121 : decode cX7_doers 121 = .ok (.goto 4, 3) := by decide +kernel
theorem dX7_doers_124 : decode cX7_doers 124 = .ok (.iconst 0, 1) := by decide +kernel
theorem dX7_doers_125 : decode cX7_doers 125 = .ok (.istore 7, 2) := by decide +kernel
theorem dX7_doers_127 : decode cX7_doers 127 = .ok (.iload_n 3, 1) := by decide +kernel
theorem dX7_doers_128 : decode cX7_doers 128 = .ok (.iload 7, 2) := by decide +kernel
theorem dX7_doers_130 : decode cX7_doers 130 = .ok (.ifCond .eq 10, 3) := by decide +kernel
theorem dX7_doers_133 : decode cX7_doers 133 = .ok (.iconst 1, 1) := by decide +kernel
theorem dX7_doers_134 : decode cX7_doers 134 = .ok (.iload 4, 2) := by decide +kernel
theorem dX7_doers_136 : decode cX7_doers 136 = .ok (.ishl, 1) := by decide +kernel
theorem dX7_doers_137 : decode cX7_doers 137 = .ok (.goto 4, 3) := by decide +kernel
theorem dX7_doers_140 : decode cX7_doers 140 = .ok (.iconst 0, 1) := by decide +kernel
theorem dX7_doers_141 : decode cX7_doers 141 = .ok (.ior, 1) := by decide +kernel
theorem dX7_doers_142 : decode cX7_doers 142 = .ok (.istore_n 3, 1) := by decide +kernel
theorem dX7_doers_143 : decode cX7_doers 143 = .ok (.iinc 4 1, 3) := by decide +kernel
theorem dX7_doers_146 : decode cX7_doers 146 = .ok (.goto (-114), 3) := by decide +kernel
theorem dX7_doers_149 : decode cX7_doers 149 = .ok (.iload_n 3, 1) := by decide +kernel
theorem dX7_doers_150 : decode cX7_doers 150 = .ok (.ireturn, 1) := by decide +kernel
theorem dX7_hourOf_0 : decode cX7_hourOf 0 = .ok (.iload_n 2, 1) := by decide +kernel
theorem dX7_hourOf_1 : decode cX7_hourOf 1 = .ok (.istore 4, 2) := by decide +kernel
theorem dX7_hourOf_3 : decode cX7_hourOf 3 = .ok (.iconst 0, 1) := by decide +kernel
theorem dX7_hourOf_4 : decode cX7_hourOf 4 = .ok (.istore 5, 2) := by decide +kernel
theorem dX7_hourOf_6 : decode cX7_hourOf 6 = .ok (.iload 5, 2) := by decide +kernel
theorem dX7_hourOf_8 : decode cX7_hourOf 8 = .ok (.aload_n 0, 1) := by decide +kernel
theorem dX7_hourOf_9 : decode cX7_hourOf 9 = .ok (.getfield 40, 3) := by decide +kernel
theorem dX7_hourOf_12 : decode cX7_hourOf 12 = .ok (.iload_n 1, 1) := by decide +kernel
theorem dX7_hourOf_13 : decode cX7_hourOf 13 = .ok (.iaload, 1) := by decide +kernel
theorem dX7_hourOf_14 : decode cX7_hourOf 14 = .ok (.if_icmp .ge 33, 3) := by decide +kernel
theorem dX7_hourOf_17 : decode cX7_hourOf 17 = .ok (.iload 4, 2) := by decide +kernel
theorem dX7_hourOf_19 : decode cX7_hourOf 19 = .ok (.i2l, 1) := by decide +kernel
theorem dX7_hourOf_20 : decode cX7_hourOf 20 = .ok (.sipush 1000, 3) := by decide +kernel
theorem dX7_hourOf_23 : decode cX7_hourOf 23 = .ok (.aload_n 0, 1) := by decide +kernel
theorem dX7_hourOf_24 : decode cX7_hourOf 24 = .ok (.iload_n 1, 1) := by decide +kernel
theorem dX7_hourOf_25 : decode cX7_hourOf 25 = .ok (.iload 5, 2) := by decide +kernel
theorem dX7_hourOf_27 : decode cX7_hourOf 27 = .ok (.iload_n 3, 1) := by decide +kernel
theorem dX7_hourOf_28 : decode cX7_hourOf 28 = .ok (.invokevirtual 313, 3) := by decide +kernel
theorem dX7_hourOf_31 : decode cX7_hourOf 31 = .ok (.isub, 1) := by decide +kernel
theorem dX7_hourOf_32 : decode cX7_hourOf 32 = .ok (.i2l, 1) := by decide +kernel
theorem dX7_hourOf_33 : decode cX7_hourOf 33 = .ok (.lmul, 1) := by decide +kernel
theorem dX7_hourOf_34 : decode cX7_hourOf 34 = .ok (.ldc2_w 113, 3) := by decide +kernel
theorem dX7_hourOf_37 : decode cX7_hourOf 37 = .ok (.ldiv, 1) := by decide +kernel
theorem dX7_hourOf_38 : decode cX7_hourOf 38 = .ok (.l2i, 1) := by decide +kernel
theorem dX7_hourOf_39 : decode cX7_hourOf 39 = .ok (.istore 4, 2) := by decide +kernel
theorem dX7_hourOf_41 : decode cX7_hourOf 41 = .ok (.iinc 5 1, 3) := by decide +kernel
theorem dX7_hourOf_44 : decode cX7_hourOf 44 = .ok (.goto (-38), 3) := by decide +kernel
theorem dX7_hourOf_47 : decode cX7_hourOf 47 = .ok (.iload 4, 2) := by decide +kernel
theorem dX7_hourOf_49 : decode cX7_hourOf 49 = .ok (.ireturn, 1) := by decide +kernel
theorem dX7_light_0 : decode cX7_light 0 = .ok (.aload_n 0, 1) := by decide +kernel
theorem dX7_light_1 : decode cX7_light 1 = .ok (.iload_n 1, 1) := by decide +kernel
theorem dX7_light_2 : decode cX7_light 2 = .ok (.invokevirtual 92, 3) := by decide +kernel
theorem dX7_light_5 : decode cX7_light 5 = .ok (.ifCond .eq 15, 3) := by decide +kernel
theorem dX7_light_8 : decode cX7_light 8 = .ok (.iload_n 2, 1) := by decide +kernel
theorem dX7_light_9 : decode cX7_light 9 = .ok (.i2l, 1) := by decide +kernel
theorem dX7_light_10 : decode cX7_light 10 = .ok (.lconst 1, 1) := by decide +kernel
theorem dX7_light_11 : decode cX7_light 11 = .ok (.ldc2_w 233, 3) := by decide +kernel
theorem dX7_light_14 : decode cX7_light 14 = .ok (.invokestatic 88, 3) := by decide +kernel
theorem dX7_light_17 : decode cX7_light 17 = .ok (.ifCond .ne 10, 3) := by decide +kernel
theorem dX7_light_20 : decode cX7_light 20 = .ok (.aload_n 0, 1) := by decide +kernel
theorem dX7_light_21 : decode cX7_light 21 = .ok (.bipush (-2), 2) := by decide +kernel
theorem dX7_light_23 : decode cX7_light 23 = .ok (.invokevirtual 106, 3) := by decide +kernel
theorem dX7_light_26 : decode cX7_light 26 = .ok (.ireturn, 1) := by decide +kernel
theorem dX7_light_27 : decode cX7_light 27 = .ok (.ldc_w 319, 3) := by decide +kernel
theorem dX7_light_30 : decode cX7_light 30 = .ok (.istore_n 3, 1) := by decide +kernel
theorem dX7_light_31 : decode cX7_light 31 = .ok (.iconst 1, 1) := by decide +kernel
theorem dX7_light_32 : decode cX7_light 32 = .ok (.istore 4, 2) := by decide +kernel
theorem dX7_light_34 : decode cX7_light 34 = .ok (.iload 4, 2) := by decide +kernel
theorem dX7_light_36 : decode cX7_light 36 = .ok (.iload_n 2, 1) := by decide +kernel
theorem dX7_light_37 : decode cX7_light 37 = .ok (.if_icmp .gt 18, 3) := by decide +kernel
theorem dX7_light_40 : decode cX7_light 40 = .ok (.aload_n 0, 1) := by decide +kernel
theorem dX7_light_41 : decode cX7_light 41 = .ok (.iload_n 1, 1) := by decide +kernel
theorem dX7_light_42 : decode cX7_light 42 = .ok (.iload_n 3, 1) := by decide +kernel
theorem dX7_light_43 : decode cX7_light 43 = .ok (.iload 4, 2) := by decide +kernel
theorem dX7_light_45 : decode cX7_light 45 = .ok (.invokevirtual 320, 3) := by decide +kernel
theorem dX7_light_48 : decode cX7_light 48 = .ok (.istore_n 3, 1) := by decide +kernel
theorem dX7_light_49 : decode cX7_light 49 = .ok (.iinc 4 1, 3) := by decide +kernel
theorem dX7_light_52 : decode cX7_light 52 = .ok (.goto (-18), 3) := by decide +kernel
theorem dX7_light_55 : decode cX7_light 55 = .ok (.iload_n 3, 1) := by decide +kernel
theorem dX7_light_56 : decode cX7_light 56 = .ok (.ireturn, 1) := by decide +kernel
theorem dX7_late_0 : decode cX7_late 0 = .ok (.aload_n 0, 1) := by decide +kernel
theorem dX7_late_1 : decode cX7_late 1 = .ok (.iload_n 1, 1) := by decide +kernel
theorem dX7_late_2 : decode cX7_late 2 = .ok (.invokevirtual 92, 3) := by decide +kernel
theorem dX7_late_5 : decode cX7_late 5 = .ok (.ifCond .eq 15, 3) := by decide +kernel
theorem dX7_late_8 : decode cX7_late 8 = .ok (.iload_n 2, 1) := by decide +kernel
theorem dX7_late_9 : decode cX7_late 9 = .ok (.i2l, 1) := by decide +kernel
theorem dX7_late_10 : decode cX7_late 10 = .ok (.lconst 0, 1) := by decide +kernel
theorem dX7_late_11 : decode cX7_late 11 = .ok (.ldc2_w 323, 3) := by decide +kernel
theorem dX7_late_14 : decode cX7_late 14 = .ok (.invokestatic 88, 3) := by decide +kernel
theorem dX7_late_17 : decode cX7_late 17 = .ok (.ifCond .ne 10, 3) := by decide +kernel
theorem dX7_late_20 : decode cX7_late 20 = .ok (.aload_n 0, 1) := by decide +kernel
theorem dX7_late_21 : decode cX7_late 21 = .ok (.bipush (-2), 2) := by decide +kernel
theorem dX7_late_23 : decode cX7_late 23 = .ok (.invokevirtual 106, 3) := by decide +kernel
theorem dX7_late_26 : decode cX7_late 26 = .ok (.ireturn, 1) := by decide +kernel
theorem dX7_late_27 : decode cX7_late 27 = .ok (.ldc_w 319, 3) := by decide +kernel
theorem dX7_late_30 : decode cX7_late 30 = .ok (.istore_n 3, 1) := by decide +kernel
theorem dX7_late_31 : decode cX7_late 31 = .ok (.iconst 1, 1) := by decide +kernel
theorem dX7_late_32 : decode cX7_late 32 = .ok (.istore 4, 2) := by decide +kernel
theorem dX7_late_34 : decode cX7_late 34 = .ok (.iload 4, 2) := by decide +kernel
theorem dX7_late_36 : decode cX7_late 36 = .ok (.bipush 99, 2) := by decide +kernel
theorem dX7_late_38 : decode cX7_late 38 = .ok (.if_icmp .gt 26, 3) := by decide +kernel
theorem dX7_late_41 : decode cX7_late 41 = .ok (.aload_n 0, 1) := by decide +kernel
theorem dX7_late_42 : decode cX7_late 42 = .ok (.iload_n 1, 1) := by decide +kernel
theorem dX7_late_43 : decode cX7_late 43 = .ok (.iload_n 3, 1) := by decide +kernel
theorem dX7_late_44 : decode cX7_late 44 = .ok (.iload 4, 2) := by decide +kernel
theorem dX7_late_46 : decode cX7_late 46 = .ok (.invokevirtual 320, 3) := by decide +kernel
theorem dX7_late_49 : decode cX7_late 49 = .ok (.istore_n 3, 1) := by decide +kernel
theorem dX7_late_50 : decode cX7_late 50 = .ok (.iload_n 3, 1) := by decide +kernel
theorem dX7_late_51 : decode cX7_late 51 = .ok (.iload_n 2, 1) := by decide +kernel
theorem dX7_late_52 : decode cX7_late 52 = .ok (.if_icmp .gt 6, 3) := by decide +kernel
theorem dX7_late_55 : decode cX7_late 55 = .ok (.iload 4, 2) := by decide +kernel
theorem dX7_late_57 : decode cX7_late 57 = .ok (.ireturn, 1) := by decide +kernel
theorem dX7_late_58 : decode cX7_late 58 = .ok (.iinc 4 1, 3) := by decide +kernel
theorem dX7_late_61 : decode cX7_late 61 = .ok (.goto (-27), 3) := by decide +kernel
theorem dX7_late_64 : decode cX7_late 64 = .ok (.iconst (-1), 1) := by decide +kernel
theorem dX7_late_65 : decode cX7_late 65 = .ok (.ireturn, 1) := by decide +kernel
theorem dX7_over_0 : decode cX7_over 0 = .ok (.iconst 0, 1) := by decide +kernel
theorem dX7_over_1 : decode cX7_over 1 = .ok (.istore_n 2, 1) := by decide +kernel
theorem dX7_over_2 : decode cX7_over 2 = .ok (.iload_n 2, 1) := by decide +kernel
theorem dX7_over_3 : decode cX7_over 3 = .ok (.aload_n 0, 1) := by decide +kernel
theorem dX7_over_4 : decode cX7_over 4 = .ok (.arraylength, 1) := by decide +kernel
theorem dX7_over_5 : decode cX7_over 5 = .ok (.if_icmp .ge 15, 3) := by decide +kernel
theorem dX7_over_8 : decode cX7_over 8 = .ok (.aload_n 1, 1) := by decide +kernel
theorem dX7_over_9 : decode cX7_over 9 = .ok (.iload_n 2, 1) := by decide +kernel
theorem dX7_over_10 : decode cX7_over 10 = .ok (.aload_n 0, 1) := by decide +kernel
theorem dX7_over_11 : decode cX7_over 11 = .ok (.iload_n 2, 1) := by decide +kernel
theorem dX7_over_12 : decode cX7_over 12 = .ok (.iaload, 1) := by decide +kernel
theorem dX7_over_13 : decode cX7_over 13 = .ok (.iastore, 1) := by decide +kernel
theorem dX7_over_14 : decode cX7_over 14 = .ok (.iinc 2 1, 3) := by decide +kernel
theorem dX7_over_17 : decode cX7_over 17 = .ok (.goto (-15), 3) := by decide +kernel
theorem dX7_over_20 : decode cX7_over 20 = .ok (.return_, 1) := by decide +kernel
theorem dX7_begin_0 : decode cX7_begin 0 = .ok (.aload_n 0, 1) := by decide +kernel
theorem dX7_begin_1 : decode cX7_begin 1 = .ok (.iload_n 1, 1) := by decide +kernel
theorem dX7_begin_2 : decode cX7_begin 2 = .ok (.invokevirtual 92, 3) := by decide +kernel
theorem dX7_begin_5 : decode cX7_begin 5 = .ok (.ifCond .ne 10, 3) := by decide +kernel
theorem dX7_begin_8 : decode cX7_begin 8 = .ok (.aload_n 0, 1) := by decide +kernel
theorem dX7_begin_9 : decode cX7_begin 9 = .ok (.bipush (-2), 2) := by decide +kernel
theorem dX7_begin_11 : decode cX7_begin 11 = .ok (.invokevirtual 106, 3) := by decide +kernel
theorem dX7_begin_14 : decode cX7_begin 14 = .ok (.ireturn, 1) := by decide +kernel
theorem dX7_begin_15 : decode cX7_begin 15 = .ok (.aload_n 0, 1) := by decide +kernel
theorem dX7_begin_16 : decode cX7_begin 16 = .ok (.getfield 40, 3) := by decide +kernel
theorem dX7_begin_19 : decode cX7_begin 19 = .ok (.iconst 4, 1) := by decide +kernel
theorem dX7_begin_20 : decode cX7_begin 20 = .ok (.aload_n 0, 1) := by decide +kernel
theorem dX7_begin_21 : decode cX7_begin 21 = .ok (.getfield 40, 3) := by decide +kernel
theorem dX7_begin_24 : decode cX7_begin 24 = .ok (.iload_n 1, 1) := by decide +kernel
theorem dX7_begin_25 : decode cX7_begin 25 = .ok (.iaload, 1) := by decide +kernel
theorem dX7_begin_26 : decode cX7_begin 26 = .ok (.iastore, 1) := by decide +kernel
theorem dX7_begin_27 : decode cX7_begin 27 = .ok (.aload_n 0, 1) := by decide +kernel
theorem dX7_begin_28 : decode cX7_begin 28 = .ok (.getfield 43, 3) := by decide +kernel
theorem dX7_begin_31 : decode cX7_begin 31 = .ok (.iconst 4, 1) := by decide +kernel
theorem dX7_begin_32 : decode cX7_begin 32 = .ok (.aload_n 0, 1) := by decide +kernel
theorem dX7_begin_33 : decode cX7_begin 33 = .ok (.getfield 43, 3) := by decide +kernel
theorem dX7_begin_36 : decode cX7_begin 36 = .ok (.iload_n 1, 1) := by decide +kernel
theorem dX7_begin_37 : decode cX7_begin 37 = .ok (.iaload, 1) := by decide +kernel
theorem dX7_begin_38 : decode cX7_begin 38 = .ok (.iastore, 1) := by decide +kernel
theorem dX7_begin_39 : decode cX7_begin 39 = .ok (.aload_n 0, 1) := by decide +kernel
theorem dX7_begin_40 : decode cX7_begin 40 = .ok (.getfield 46, 3) := by decide +kernel
theorem dX7_begin_43 : decode cX7_begin 43 = .ok (.iconst 4, 1) := by decide +kernel
theorem dX7_begin_44 : decode cX7_begin 44 = .ok (.aload_n 0, 1) := by decide +kernel
theorem dX7_begin_45 : decode cX7_begin 45 = .ok (.getfield 46, 3) := by decide +kernel
theorem dX7_begin_48 : decode cX7_begin 48 = .ok (.iload_n 1, 1) := by decide +kernel
theorem dX7_begin_49 : decode cX7_begin 49 = .ok (.iaload, 1) := by decide +kernel
theorem dX7_begin_50 : decode cX7_begin 50 = .ok (.iastore, 1) := by decide +kernel
theorem dX7_begin_51 : decode cX7_begin 51 = .ok (.aload_n 0, 1) := by decide +kernel
theorem dX7_begin_52 : decode cX7_begin 52 = .ok (.getfield 51, 3) := by decide +kernel
theorem dX7_begin_55 : decode cX7_begin 55 = .ok (.iload_n 1, 1) := by decide +kernel
theorem dX7_begin_56 : decode cX7_begin 56 = .ok (.aaload, 1) := by decide +kernel
theorem dX7_begin_57 : decode cX7_begin 57 = .ok (.aload_n 0, 1) := by decide +kernel
theorem dX7_begin_58 : decode cX7_begin 58 = .ok (.getfield 51, 3) := by decide +kernel
theorem dX7_begin_61 : decode cX7_begin 61 = .ok (.iconst 4, 1) := by decide +kernel
theorem dX7_begin_62 : decode cX7_begin 62 = .ok (.aaload, 1) := by decide +kernel
theorem dX7_begin_63 : decode cX7_begin 63 = .ok (.invokestatic 325, 3) := by decide +kernel
theorem dX7_begin_66 : decode cX7_begin 66 = .ok (.aload_n 0, 1) := by decide +kernel
theorem dX7_begin_67 : decode cX7_begin 67 = .ok (.getfield 54, 3) := by decide +kernel
theorem dX7_begin_70 : decode cX7_begin 70 = .ok (.iload_n 1, 1) := by decide +kernel
theorem dX7_begin_71 : decode cX7_begin 71 = .ok (.aaload, 1) := by decide +kernel
theorem dX7_begin_72 : decode cX7_begin 72 = .ok (.aload_n 0, 1) := by decide +kernel
theorem dX7_begin_73 : decode cX7_begin 73 = .ok (.getfield 54, 3) := by decide +kernel
theorem dX7_begin_76 : decode cX7_begin 76 = .ok (.iconst 4, 1) := by decide +kernel
theorem dX7_begin_77 : decode cX7_begin 77 = .ok (.aaload, 1) := by decide +kernel
theorem dX7_begin_78 : decode cX7_begin 78 = .ok (.invokestatic 325, 3) := by decide +kernel
theorem dX7_begin_81 : decode cX7_begin 81 = .ok (.aload_n 0, 1) := by decide +kernel
theorem dX7_begin_82 : decode cX7_begin 82 = .ok (.getfield 57, 3) := by decide +kernel
theorem dX7_begin_85 : decode cX7_begin 85 = .ok (.iload_n 1, 1) := by decide +kernel
theorem dX7_begin_86 : decode cX7_begin 86 = .ok (.aaload, 1) := by decide +kernel
theorem dX7_begin_87 : decode cX7_begin 87 = .ok (.aload_n 0, 1) := by decide +kernel
theorem dX7_begin_88 : decode cX7_begin 88 = .ok (.getfield 57, 3) := by decide +kernel
theorem dX7_begin_91 : decode cX7_begin 91 = .ok (.iconst 4, 1) := by decide +kernel
theorem dX7_begin_92 : decode cX7_begin 92 = .ok (.aaload, 1) := by decide +kernel
theorem dX7_begin_93 : decode cX7_begin 93 = .ok (.invokestatic 325, 3) := by decide +kernel
theorem dX7_begin_96 : decode cX7_begin 96 = .ok (.aload_n 0, 1) := by decide +kernel
theorem dX7_begin_97 : decode cX7_begin 97 = .ok (.getfield 60, 3) := by decide +kernel
theorem dX7_begin_100 : decode cX7_begin 100 = .ok (.iload_n 1, 1) := by decide +kernel
theorem dX7_begin_101 : decode cX7_begin 101 = .ok (.aaload, 1) := by decide +kernel
theorem dX7_begin_102 : decode cX7_begin 102 = .ok (.aload_n 0, 1) := by decide +kernel
theorem dX7_begin_103 : decode cX7_begin 103 = .ok (.getfield 60, 3) := by decide +kernel
theorem dX7_begin_106 : decode cX7_begin 106 = .ok (.iconst 4, 1) := by decide +kernel
theorem dX7_begin_107 : decode cX7_begin 107 = .ok (.aaload, 1) := by decide +kernel
theorem dX7_begin_108 : decode cX7_begin 108 = .ok (.invokestatic 325, 3) := by decide +kernel
theorem dX7_begin_111 : decode cX7_begin 111 = .ok (.aload_n 0, 1) := by decide +kernel
theorem dX7_begin_112 : decode cX7_begin 112 = .ok (.iload_n 1, 1) := by decide +kernel
theorem dX7_begin_113 : decode cX7_begin 113 = .ok (.putfield 76, 3) := by decide +kernel
theorem dX7_begin_116 : decode cX7_begin 116 = .ok (.aload_n 0, 1) := by decide +kernel
theorem dX7_begin_117 : decode cX7_begin 117 = .ok (.iconst 0, 1) := by decide +kernel
theorem dX7_begin_118 : decode cX7_begin 118 = .ok (.putfield 329, 3) := by decide +kernel
theorem dX7_begin_121 : decode cX7_begin 121 = .ok (.aload_n 0, 1) := by decide +kernel
theorem dX7_begin_122 : decode cX7_begin 122 = .ok (.iconst 0, 1) := by decide +kernel
theorem dX7_begin_123 : decode cX7_begin 123 = .ok (.putfield 332, 3) := by decide +kernel
theorem dX7_begin_126 : decode cX7_begin 126 = .ok (.aload_n 0, 1) := by decide +kernel
theorem dX7_begin_127 : decode cX7_begin 127 = .ok (.iconst (-1), 1) := by decide +kernel
theorem dX7_begin_128 : decode cX7_begin 128 = .ok (.putfield 79, 3) := by decide +kernel
theorem dX7_begin_131 : decode cX7_begin 131 = .ok (.iconst 1, 1) := by decide +kernel
theorem dX7_begin_132 : decode cX7_begin 132 = .ok (.aload_n 0, 1) := by decide +kernel
theorem dX7_begin_133 : decode cX7_begin 133 = .ok (.getfield 40, 3) := by decide +kernel
theorem dX7_begin_136 : decode cX7_begin 136 = .ok (.iload_n 1, 1) := by decide +kernel
theorem dX7_begin_137 : decode cX7_begin 137 = .ok (.iaload, 1) := by decide +kernel
theorem dX7_begin_138 : decode cX7_begin 138 = .ok (.ishl, 1) := by decide +kernel
theorem dX7_begin_139 : decode cX7_begin 139 = .ok (.ireturn, 1) := by decide +kernel
theorem dX7_isDone_0 : decode cX7_isDone 0 = .ok (.aload_n 0, 1) := by decide +kernel
theorem dX7_isDone_1 : decode cX7_isDone 1 = .ok (.getfield 329, 3) := by decide +kernel
theorem dX7_isDone_4 : decode cX7_isDone 4 = .ok (.aload_n 0, 1) := by decide +kernel
theorem dX7_isDone_5 : decode cX7_isDone 5 = .ok (.iconst 4, 1) := by decide +kernel
theorem dX7_isDone_6 : decode cX7_isDone 6 = .ok (.invokevirtual 96, 3) := by decide +kernel
theorem dX7_isDone_9 : decode cX7_isDone 9 = .ok (.if_icmp .le 7, 3) := by decide +kernel
theorem dX7_isDone_12 : decode cX7_isDone 12 = .ok (.iconst 1, 1) := by decide +kernel
theorem dX7_isDone_13 : decode cX7_isDone 13 = .ok (.goto 4, 3) := by decide +kernel
theorem dX7_isDone_16 : decode cX7_isDone 16 = .ok (.iconst 0, 1) := by decide +kernel
theorem dX7_isDone_17 : decode cX7_isDone 17 = .ok (.ireturn, 1) := by decide +kernel
theorem dX7_step_0 : decode cX7_step 0 = .ok (.iload_n 1, 1) := by decide +kernel
theorem dX7_step_1 : decode cX7_step 1 = .ok (.i2l, 1) := by decide +kernel
theorem dX7_step_2 : decode cX7_step 2 = .ok (.lconst 1, 1) := by decide +kernel
theorem dX7_step_3 : decode cX7_step 3 = .ok (.ldc2_w 311, 3) := by decide +kernel
theorem dX7_step_6 : decode cX7_step 6 = .ok (.invokestatic 88, 3) := by decide +kernel
theorem dX7_step_9 : decode cX7_step 9 = .ok (.ifCond .ne 10, 3) := by decide +kernel
theorem dX7_step_12 : decode cX7_step 12 = .ok (.aload_n 0, 1) := by decide +kernel
theorem dX7_step_13 : decode cX7_step 13 = .ok (.bipush (-2), 2) := by decide +kernel
theorem dX7_step_15 : decode cX7_step 15 = .ok (.invokevirtual 106, 3) := by decide +kernel
theorem dX7_step_18 : decode cX7_step 18 = .ok (.ireturn, 1) := by decide +kernel
theorem dX7_step_19 : decode cX7_step 19 = .ok (.aload_n 0, 1) := by decide +kernel
theorem dX7_step_20 : decode cX7_step 20 = .ok (.getfield 76, 3) := by decide +kernel
theorem dX7_step_23 : decode cX7_step 23 = .ok (.iconst (-1), 1) := by decide +kernel
theorem dX7_step_24 : decode cX7_step 24 = .ok (.if_icmp .eq 10, 3) := by decide +kernel
theorem dX7_step_27 : decode cX7_step 27 = .ok (.aload_n 0, 1) := by decide +kernel
theorem dX7_step_28 : decode cX7_step 28 = .ok (.invokevirtual 335, 3) := by decide +kernel
theorem dX7_step_31 : decode cX7_step 31 = .ok (.ifCond .eq 10, 3) := by decide +kernel
theorem dX7_step_34 : decode cX7_step 34 = .ok (.aload_n 0, 1) := by decide +kernel
theorem dX7_step_35 : decode cX7_step 35 = .ok (.bipush (-5), 2) := by decide +kernel
theorem dX7_step_37 : decode cX7_step 37 = .ok (.invokevirtual 106, 3) := by decide +kernel
theorem dX7_step_40 : decode cX7_step 40 = .ok (.ireturn, 1) := by decide +kernel
theorem dX7_step_41 : decode cX7_step 41 = .ok (.iconst 0, 1) := by decide +kernel
theorem dX7_step_42 : decode cX7_step 42 = .ok (.istore_n 2, 1) := by decide +kernel
theorem dX7_step_43 : decode cX7_step 43 = .ok (.iconst 0, 1) := by decide +kernel
theorem dX7_step_44 : decode cX7_step 44 = .ok (.istore_n 3, 1) := by decide +kernel
theorem dX7_step_45 : decode cX7_step 45 = .ok (.iload_n 3, 1) := by decide +kernel
theorem dX7_step_46 : decode cX7_step 46 = .ok (.iload_n 1, 1) := by decide +kernel
theorem dX7_step_47 : decode cX7_step 47 = .ok (.if_icmp .ge 49, 3) := by decide +kernel
theorem dX7_step_50 : decode cX7_step 50 = .ok (.aload_n 0, 1) := by decide +kernel
theorem dX7_step_51 : decode cX7_step 51 = .ok (.invokevirtual 335, 3) := by decide +kernel
theorem dX7_step_54 : decode cX7_step 54 = .ok (.ifCond .ne 42, 3) := by decide +kernel
theorem dX7_step_57 : decode cX7_step 57 = .ok (.aload_n 0, 1) := by decide +kernel
theorem dX7_step_58 : decode cX7_step 58 = .ok (.iconst 4, 1) := by decide +kernel
theorem dX7_step_59 : decode cX7_step 59 = .ok (.aload_n 0, 1) := by decide +kernel
theorem dX7_step_60 : decode cX7_step 60 = .ok (.getfield 329, 3) := by decide +kernel
theorem dX7_step_63 : decode cX7_step 63 = .ok (.invokevirtual 256, 3) := by decide +kernel
theorem dX7_step_66 : decode cX7_step 66 = .ok (.ifCond .eq 14, 3) := by decide +kernel
theorem dX7_step_69 : decode cX7_step 69 = .ok (.iinc 2 1, 3) := by decide +kernel
theorem dX7_step_72 : decode cX7_step 72 = .ok (.aload_n 0, 1) := by decide +kernel
theorem dX7_step_73 : decode cX7_step 73 = .ok (.aload_n 0, 1) := by decide +kernel
theorem dX7_step_74 : decode cX7_step 74 = .ok (.getfield 329, 3) := by decide +kernel
theorem dX7_step_77 : decode cX7_step 77 = .ok (.putfield 79, 3) := by decide +kernel
theorem dX7_step_80 : decode cX7_step 80 = .ok (.aload_n 0, 1) := by decide +kernel
theorem dX7_step_81 : decode cX7_step 81 = .ok (.dup, 1) := by decide +kernel
theorem dX7_step_82 : decode cX7_step 82 = .ok (.getfield 329, 3) := by decide +kernel
theorem dX7_step_85 : decode cX7_step 85 = .ok (.iconst 1, 1) := by decide +kernel
theorem dX7_step_86 : decode cX7_step 86 = .ok (.iadd, 1) := by decide +kernel
theorem dX7_step_87 : decode cX7_step 87 = .ok (.putfield 329, 3) := by decide +kernel
theorem dX7_step_90 : decode cX7_step 90 = .ok (.iinc 3 1, 3) := by decide +kernel
theorem dX7_step_93 : decode cX7_step 93 = .ok (.goto (-48), 3) := by decide +kernel
theorem dX7_step_96 : decode cX7_step 96 = .ok (.aload_n 0, 1) := by decide +kernel
theorem dX7_step_97 : decode cX7_step 97 = .ok (.dup, 1) := by decide +kernel
theorem dX7_step_98 : decode cX7_step 98 = .ok (.getfield 332, 3) := by decide +kernel
theorem dX7_step_101 : decode cX7_step 101 = .ok (.iload_n 2, 1) := by decide +kernel
theorem dX7_step_102 : decode cX7_step 102 = .ok (.iadd, 1) := by decide +kernel
theorem dX7_step_103 : decode cX7_step 103 = .ok (.putfield 332, 3) := by decide +kernel
theorem dX7_step_106 : decode cX7_step 106 = .ok (.iload_n 2, 1) := by decide +kernel
theorem dX7_step_107 : decode cX7_step 107 = .ok (.ireturn, 1) := by decide +kernel
theorem dX7_search_0 : decode cX7_search 0 = .ok (.iload_n 1, 1) := by decide +kernel
theorem dX7_search_1 : decode cX7_search 1 = .ok (.i2l, 1) := by decide +kernel
theorem dX7_search_2 : decode cX7_search 2 = .ok (.lconst 0, 1) := by decide +kernel
theorem dX7_search_3 : decode cX7_search 3 = .ok (.ldc2_w 102, 3) := by decide +kernel
theorem dX7_search_6 : decode cX7_search 6 = .ok (.invokestatic 88, 3) := by decide +kernel
theorem dX7_search_9 : decode cX7_search 9 = .ok (.ifCond .ne 10, 3) := by decide +kernel
theorem dX7_search_12 : decode cX7_search 12 = .ok (.aload_n 0, 1) := by decide +kernel
theorem dX7_search_13 : decode cX7_search 13 = .ok (.bipush (-2), 2) := by decide +kernel
theorem dX7_search_15 : decode cX7_search 15 = .ok (.invokevirtual 106, 3) := by decide +kernel
theorem dX7_search_18 : decode cX7_search 18 = .ok (.ireturn, 1) := by decide +kernel
theorem dX7_search_19 : decode cX7_search 19 = .ok (.aload_n 0, 1) := by decide +kernel
theorem dX7_search_20 : decode cX7_search 20 = .ok (.getfield 76, 3) := by decide +kernel
theorem dX7_search_23 : decode cX7_search 23 = .ok (.iconst (-1), 1) := by decide +kernel
theorem dX7_search_24 : decode cX7_search 24 = .ok (.if_icmp .ne 10, 3) := by decide +kernel
theorem dX7_search_27 : decode cX7_search 27 = .ok (.aload_n 0, 1) := by decide +kernel
theorem dX7_search_28 : decode cX7_search 28 = .ok (.bipush (-5), 2) := by decide +kernel
theorem dX7_search_30 : decode cX7_search 30 = .ok (.invokevirtual 106, 3) := by decide +kernel
theorem dX7_search_33 : decode cX7_search 33 = .ok (.ireturn, 1) := by decide +kernel
theorem dX7_search_34 : decode cX7_search 34 = .ok (.iload_n 1, 1) := by decide +kernel
theorem dX7_search_35 : decode cX7_search 35 = .ok (.tableswitch 49 0 3 #[29, 34, 39, 44], 29) := by decide +kernel
theorem dX7_search_64 : decode cX7_search 64 = .ok (.aload_n 0, 1) := by decide +kernel
theorem dX7_search_65 : decode cX7_search 65 = .ok (.getfield 76, 3) := by decide +kernel
theorem dX7_search_68 : decode cX7_search 68 = .ok (.ireturn, 1) := by decide +kernel
theorem dX7_search_69 : decode cX7_search 69 = .ok (.aload_n 0, 1) := by decide +kernel
theorem dX7_search_70 : decode cX7_search 70 = .ok (.getfield 329, 3) := by decide +kernel
theorem dX7_search_73 : decode cX7_search 73 = .ok (.ireturn, 1) := by decide +kernel
theorem dX7_search_74 : decode cX7_search 74 = .ok (.aload_n 0, 1) := by decide +kernel
theorem dX7_search_75 : decode cX7_search 75 = .ok (.getfield 332, 3) := by decide +kernel
theorem dX7_search_78 : decode cX7_search 78 = .ok (.ireturn, 1) := by decide +kernel
theorem dX7_search_79 : decode cX7_search 79 = .ok (.aload_n 0, 1) := by decide +kernel
theorem dX7_search_80 : decode cX7_search 80 = .ok (.getfield 79, 3) := by decide +kernel
theorem dX7_search_83 : decode cX7_search 83 = .ok (.ireturn, 1) := by decide +kernel
theorem dX7_search_84 : decode cX7_search 84 = .ok (.aload_n 0, 1) := by decide +kernel
theorem dX7_search_85 : decode cX7_search 85 = .ok (.invokevirtual 335, 3) := by decide +kernel
theorem dX7_search_88 : decode cX7_search 88 = .ok (.ifCond .eq 7, 3) := by decide +kernel
theorem dX7_search_91 : decode cX7_search 91 = .ok (.iconst 1, 1) := by decide +kernel
theorem dX7_search_92 : decode cX7_search 92 = .ok (.goto 4, 3) := by decide +kernel
theorem dX7_search_95 : decode cX7_search 95 = .ok (.iconst 0, 1) := by decide +kernel
theorem dX7_search_96 : decode cX7_search 96 = .ok (.ireturn, 1) := by decide +kernel
theorem dX7_takeFrom_0 : decode cX7_takeFrom 0 = .ok (.aload_n 0, 1) := by decide +kernel
theorem dX7_takeFrom_1 : decode cX7_takeFrom 1 = .ok (.aload_n 1, 1) := by decide +kernel
theorem dX7_takeFrom_2 : decode cX7_takeFrom 2 = .ok (.getfield 85, 3) := by decide +kernel
theorem dX7_takeFrom_5 : decode cX7_takeFrom 5 = .ok (.putfield 85, 3) := by decide +kernel
theorem dX7_takeFrom_8 : decode cX7_takeFrom 8 = .ok (.aload_n 1, 1) := by decide +kernel
theorem dX7_takeFrom_9 : decode cX7_takeFrom 9 = .ok (.getfield 40, 3) := by decide +kernel
theorem dX7_takeFrom_12 : decode cX7_takeFrom 12 = .ok (.aload_n 0, 1) := by decide +kernel
theorem dX7_takeFrom_13 : decode cX7_takeFrom 13 = .ok (.getfield 40, 3) := by decide +kernel
theorem dX7_takeFrom_16 : decode cX7_takeFrom 16 = .ok (.invokestatic 325, 3) := by decide +kernel
theorem dX7_takeFrom_19 : decode cX7_takeFrom 19 = .ok (.aload_n 1, 1) := by decide +kernel
theorem dX7_takeFrom_20 : decode cX7_takeFrom 20 = .ok (.getfield 43, 3) := by decide +kernel
theorem dX7_takeFrom_23 : decode cX7_takeFrom 23 = .ok (.aload_n 0, 1) := by decide +kernel
theorem dX7_takeFrom_24 : decode cX7_takeFrom 24 = .ok (.getfield 43, 3) := by decide +kernel
theorem dX7_takeFrom_27 : decode cX7_takeFrom 27 = .ok (.invokestatic 325, 3) := by decide +kernel
theorem dX7_takeFrom_30 : decode cX7_takeFrom 30 = .ok (.aload_n 1, 1) := by decide +kernel
theorem dX7_takeFrom_31 : decode cX7_takeFrom 31 = .ok (.getfield 46, 3) := by decide +kernel
theorem dX7_takeFrom_34 : decode cX7_takeFrom 34 = .ok (.aload_n 0, 1) := by decide +kernel
theorem dX7_takeFrom_35 : decode cX7_takeFrom 35 = .ok (.getfield 46, 3) := by decide +kernel
theorem dX7_takeFrom_38 : decode cX7_takeFrom 38 = .ok (.invokestatic 325, 3) := by decide +kernel
theorem dX7_takeFrom_41 : decode cX7_takeFrom 41 = .ok (.iconst 0, 1) := by decide +kernel
theorem dX7_takeFrom_42 : decode cX7_takeFrom 42 = .ok (.istore_n 2, 1) := by decide +kernel
theorem dX7_takeFrom_43 : decode cX7_takeFrom 43 = .ok (.iload_n 2, 1) := by decide +kernel
theorem dX7_takeFrom_44 : decode cX7_takeFrom 44 = .ok (.iconst 5, 1) := by decide +kernel
theorem dX7_takeFrom_45 : decode cX7_takeFrom 45 = .ok (.if_icmp .ge 99, 3) := by decide +kernel
theorem dX7_takeFrom_48 : decode cX7_takeFrom 48 = .ok (.aload_n 1, 1) := by decide +kernel
theorem dX7_takeFrom_49 : decode cX7_takeFrom 49 = .ok (.getfield 51, 3) := by decide +kernel
theorem dX7_takeFrom_52 : decode cX7_takeFrom 52 = .ok (.iload_n 2, 1) := by decide +kernel
theorem dX7_takeFrom_53 : decode cX7_takeFrom 53 = .ok (.aaload, 1) := by decide +kernel
theorem dX7_takeFrom_54 : decode cX7_takeFrom 54 = .ok (.aload_n 0, 1) := by decide +kernel
theorem dX7_takeFrom_55 : decode cX7_takeFrom 55 = .ok (.getfield 51, 3) := by decide +kernel
theorem dX7_takeFrom_58 : decode cX7_takeFrom 58 = .ok (.iload_n 2, 1) := by decide +kernel
theorem dX7_takeFrom_59 : decode cX7_takeFrom 59 = .ok (.aaload, 1) := by decide +kernel
theorem dX7_takeFrom_60 : decode cX7_takeFrom 60 = .ok (.invokestatic 325, 3) := by decide +kernel
theorem dX7_takeFrom_63 : decode cX7_takeFrom 63 = .ok (.aload_n 1, 1) := by decide +kernel
theorem dX7_takeFrom_64 : decode cX7_takeFrom 64 = .ok (.getfield 54, 3) := by decide +kernel
theorem dX7_takeFrom_67 : decode cX7_takeFrom 67 = .ok (.iload_n 2, 1) := by decide +kernel
theorem dX7_takeFrom_68 : decode cX7_takeFrom 68 = .ok (.aaload, 1) := by decide +kernel
theorem dX7_takeFrom_69 : decode cX7_takeFrom 69 = .ok (.aload_n 0, 1) := by decide +kernel
theorem dX7_takeFrom_70 : decode cX7_takeFrom 70 = .ok (.getfield 54, 3) := by decide +kernel
theorem dX7_takeFrom_73 : decode cX7_takeFrom 73 = .ok (.iload_n 2, 1) := by decide +kernel
theorem dX7_takeFrom_74 : decode cX7_takeFrom 74 = .ok (.aaload, 1) := by decide +kernel
theorem dX7_takeFrom_75 : decode cX7_takeFrom 75 = .ok (.invokestatic 325, 3) := by decide +kernel
theorem dX7_takeFrom_78 : decode cX7_takeFrom 78 = .ok (.aload_n 1, 1) := by decide +kernel
theorem dX7_takeFrom_79 : decode cX7_takeFrom 79 = .ok (.getfield 57, 3) := by decide +kernel
theorem dX7_takeFrom_82 : decode cX7_takeFrom 82 = .ok (.iload_n 2, 1) := by decide +kernel
theorem dX7_takeFrom_83 : decode cX7_takeFrom 83 = .ok (.aaload, 1) := by decide +kernel
theorem dX7_takeFrom_84 : decode cX7_takeFrom 84 = .ok (.aload_n 0, 1) := by decide +kernel
theorem dX7_takeFrom_85 : decode cX7_takeFrom 85 = .ok (.getfield 57, 3) := by decide +kernel
theorem dX7_takeFrom_88 : decode cX7_takeFrom 88 = .ok (.iload_n 2, 1) := by decide +kernel
theorem dX7_takeFrom_89 : decode cX7_takeFrom 89 = .ok (.aaload, 1) := by decide +kernel
theorem dX7_takeFrom_90 : decode cX7_takeFrom 90 = .ok (.invokestatic 325, 3) := by decide +kernel
theorem dX7_takeFrom_93 : decode cX7_takeFrom 93 = .ok (.aload_n 1, 1) := by decide +kernel
theorem dX7_takeFrom_94 : decode cX7_takeFrom 94 = .ok (.getfield 60, 3) := by decide +kernel
theorem dX7_takeFrom_97 : decode cX7_takeFrom 97 = .ok (.iload_n 2, 1) := by decide +kernel
theorem dX7_takeFrom_98 : decode cX7_takeFrom 98 = .ok (.aaload, 1) := by decide +kernel
theorem dX7_takeFrom_99 : decode cX7_takeFrom 99 = .ok (.aload_n 0, 1) := by decide +kernel
theorem dX7_takeFrom_100 : decode cX7_takeFrom 100 = .ok (.getfield 60, 3) := by decide +kernel
theorem dX7_takeFrom_103 : decode cX7_takeFrom 103 = .ok (.iload_n 2, 1) := by decide +kernel
theorem dX7_takeFrom_104 : decode cX7_takeFrom 104 = .ok (.aaload, 1) := by decide +kernel
theorem dX7_takeFrom_105 : decode cX7_takeFrom 105 = .ok (.invokestatic 325, 3) := by decide +kernel
theorem dX7_takeFrom_108 : decode cX7_takeFrom 108 = .ok (.aload_n 1, 1) := by decide +kernel
theorem dX7_takeFrom_109 : decode cX7_takeFrom 109 = .ok (.getfield 63, 3) := by decide +kernel
theorem dX7_takeFrom_112 : decode cX7_takeFrom 112 = .ok (.iload_n 2, 1) := by decide +kernel
theorem dX7_takeFrom_113 : decode cX7_takeFrom 113 = .ok (.aaload, 1) := by decide +kernel
theorem dX7_takeFrom_114 : decode cX7_takeFrom 114 = .ok (.aload_n 0, 1) := by decide +kernel
theorem dX7_takeFrom_115 : decode cX7_takeFrom 115 = .ok (.getfield 63, 3) := by decide +kernel
theorem dX7_takeFrom_118 : decode cX7_takeFrom 118 = .ok (.iload_n 2, 1) := by decide +kernel
theorem dX7_takeFrom_119 : decode cX7_takeFrom 119 = .ok (.aaload, 1) := by decide +kernel
theorem dX7_takeFrom_120 : decode cX7_takeFrom 120 = .ok (.invokestatic 325, 3) := by decide +kernel
theorem dX7_takeFrom_123 : decode cX7_takeFrom 123 = .ok (.aload_n 1, 1) := by decide +kernel
theorem dX7_takeFrom_124 : decode cX7_takeFrom 124 = .ok (.getfield 66, 3) := by decide +kernel
theorem dX7_takeFrom_127 : decode cX7_takeFrom 127 = .ok (.iload_n 2, 1) := by decide +kernel
theorem dX7_takeFrom_128 : decode cX7_takeFrom 128 = .ok (.aaload, 1) := by decide +kernel
theorem dX7_takeFrom_129 : decode cX7_takeFrom 129 = .ok (.aload_n 0, 1) := by decide +kernel
theorem dX7_takeFrom_130 : decode cX7_takeFrom 130 = .ok (.getfield 66, 3) := by decide +kernel
theorem dX7_takeFrom_133 : decode cX7_takeFrom 133 = .ok (.iload_n 2, 1) := by decide +kernel
theorem dX7_takeFrom_134 : decode cX7_takeFrom 134 = .ok (.aaload, 1) := by decide +kernel
theorem dX7_takeFrom_135 : decode cX7_takeFrom 135 = .ok (.invokestatic 325, 3) := by decide +kernel
theorem dX7_takeFrom_138 : decode cX7_takeFrom 138 = .ok (.iinc 2 1, 3) := by decide +kernel
theorem dX7_takeFrom_141 : decode cX7_takeFrom 141 = .ok (.goto (-98), 3) := by decide +kernel
theorem dX7_takeFrom_144 : decode cX7_takeFrom 144 = .ok (.aload_n 1, 1) := by decide +kernel
theorem dX7_takeFrom_145 : decode cX7_takeFrom 145 = .ok (.getfield 69, 3) := by decide +kernel
theorem dX7_takeFrom_148 : decode cX7_takeFrom 148 = .ok (.aload_n 0, 1) := by decide +kernel
theorem dX7_takeFrom_149 : decode cX7_takeFrom 149 = .ok (.getfield 69, 3) := by decide +kernel
theorem dX7_takeFrom_152 : decode cX7_takeFrom 152 = .ok (.invokestatic 325, 3) := by decide +kernel
theorem dX7_takeFrom_155 : decode cX7_takeFrom 155 = .ok (.aload_n 0, 1) := by decide +kernel
theorem dX7_takeFrom_156 : decode cX7_takeFrom 156 = .ok (.aload_n 1, 1) := by decide +kernel
theorem dX7_takeFrom_157 : decode cX7_takeFrom 157 = .ok (.getfield 72, 3) := by decide +kernel
theorem dX7_takeFrom_160 : decode cX7_takeFrom 160 = .ok (.putfield 72, 3) := by decide +kernel
theorem dX7_takeFrom_163 : decode cX7_takeFrom 163 = .ok (.aload_n 0, 1) := by decide +kernel
theorem dX7_takeFrom_164 : decode cX7_takeFrom 164 = .ok (.aload_n 1, 1) := by decide +kernel
theorem dX7_takeFrom_165 : decode cX7_takeFrom 165 = .ok (.getfield 76, 3) := by decide +kernel
theorem dX7_takeFrom_168 : decode cX7_takeFrom 168 = .ok (.putfield 76, 3) := by decide +kernel
theorem dX7_takeFrom_171 : decode cX7_takeFrom 171 = .ok (.aload_n 0, 1) := by decide +kernel
theorem dX7_takeFrom_172 : decode cX7_takeFrom 172 = .ok (.aload_n 1, 1) := by decide +kernel
theorem dX7_takeFrom_173 : decode cX7_takeFrom 173 = .ok (.getfield 329, 3) := by decide +kernel
theorem dX7_takeFrom_176 : decode cX7_takeFrom 176 = .ok (.putfield 329, 3) := by decide +kernel
theorem dX7_takeFrom_179 : decode cX7_takeFrom 179 = .ok (.aload_n 0, 1) := by decide +kernel
theorem dX7_takeFrom_180 : decode cX7_takeFrom 180 = .ok (.aload_n 1, 1) := by decide +kernel
theorem dX7_takeFrom_181 : decode cX7_takeFrom 181 = .ok (.getfield 332, 3) := by decide +kernel
theorem dX7_takeFrom_184 : decode cX7_takeFrom 184 = .ok (.putfield 332, 3) := by decide +kernel
theorem dX7_takeFrom_187 : decode cX7_takeFrom 187 = .ok (.aload_n 0, 1) := by decide +kernel
theorem dX7_takeFrom_188 : decode cX7_takeFrom 188 = .ok (.aload_n 1, 1) := by decide +kernel
theorem dX7_takeFrom_189 : decode cX7_takeFrom 189 = .ok (.getfield 79, 3) := by decide +kernel
theorem dX7_takeFrom_192 : decode cX7_takeFrom 192 = .ok (.putfield 79, 3) := by decide +kernel
theorem dX7_takeFrom_195 : decode cX7_takeFrom 195 = .ok (.return_, 1) := by decide +kernel
theorem dX7_image_0 : decode cX7_image 0 = .ok (.aload_n 0, 1) := by decide +kernel
theorem dX7_image_1 : decode cX7_image 1 = .ok (.getfield 338, 3) := by decide +kernel
theorem dX7_image_4 : decode cX7_image 4 = .ok (.ifnonnull 14, 3) := by decide +kernel
theorem dX7_image_7 : decode cX7_image 7 = .ok (.aload_n 0, 1) := by decide +kernel
theorem dX7_image_8 : decode cX7_image 8 = .ok (.new 8, 3) := by decide +kernel
theorem dX7_image_11 : decode cX7_image 11 = .ok (.dup, 1) := by decide +kernel
theorem dX7_image_12 : decode cX7_image 12 = .ok (.invokespecial 342, 3) := by decide +kernel
theorem dX7_image_15 : decode cX7_image 15 = .ok (.putfield 338, 3) := by decide +kernel
theorem dX7_image_18 : decode cX7_image 18 = .ok (.aload_n 0, 1) := by decide +kernel
theorem dX7_image_19 : decode cX7_image 19 = .ok (.getfield 338, 3) := by decide +kernel
theorem dX7_image_22 : decode cX7_image 22 = .ok (.aload_n 0, 1) := by decide +kernel
theorem dX7_image_23 : decode cX7_image 23 = .ok (.invokevirtual 343, 3) := by decide +kernel
theorem dX7_image_26 : decode cX7_image 26 = .ok (.iconst 1, 1) := by decide +kernel
theorem dX7_image_27 : decode cX7_image 27 = .ok (.ireturn, 1) := by decide +kernel
theorem dX7_back_0 : decode cX7_back 0 = .ok (.aload_n 0, 1) := by decide +kernel
theorem dX7_back_1 : decode cX7_back 1 = .ok (.getfield 338, 3) := by decide +kernel
theorem dX7_back_4 : decode cX7_back 4 = .ok (.ifnonnull 10, 3) := by decide +kernel
theorem dX7_back_7 : decode cX7_back 7 = .ok (.aload_n 0, 1) := by decide +kernel
theorem dX7_back_8 : decode cX7_back 8 = .ok (.bipush (-5), 2) := by decide +kernel
theorem dX7_back_10 : decode cX7_back 10 = .ok (.invokevirtual 106, 3) := by decide +kernel
theorem dX7_back_13 : decode cX7_back 13 = .ok (.ireturn, 1) := by decide +kernel
theorem dX7_back_14 : decode cX7_back 14 = .ok (.aload_n 0, 1) := by decide +kernel
theorem dX7_back_15 : decode cX7_back 15 = .ok (.aload_n 0, 1) := by decide +kernel
theorem dX7_back_16 : decode cX7_back 16 = .ok (.getfield 338, 3) := by decide +kernel
theorem dX7_back_19 : decode cX7_back 19 = .ok (.invokevirtual 343, 3) := by decide +kernel
theorem dX7_back_22 : decode cX7_back 22 = .ok (.iconst 1, 1) := by decide +kernel
theorem dX7_back_23 : decode cX7_back 23 = .ok (.ireturn, 1) := by decide +kernel
theorem dX7_status_0 : decode cX7_status 0 = .ok (.iload_n 1, 1) := by decide +kernel
theorem dX7_status_1 : decode cX7_status 1 = .ok (.tableswitch 81 0 3 #[31, 36, 41, 46], 31) := by decide +kernel
theorem dX7_status_32 : decode cX7_status 32 = .ok (.aload_n 0, 1) := by decide +kernel
theorem dX7_status_33 : decode cX7_status 33 = .ok (.getfield 85, 3) := by decide +kernel
theorem dX7_status_36 : decode cX7_status 36 = .ok (.ireturn, 1) := by decide +kernel
theorem dX7_status_37 : decode cX7_status 37 = .ok (.aload_n 0, 1) := by decide +kernel
theorem dX7_status_38 : decode cX7_status 38 = .ok (.getfield 128, 3) := by decide +kernel
theorem dX7_status_41 : decode cX7_status 41 = .ok (.ireturn, 1) := by decide +kernel
theorem dX7_status_42 : decode cX7_status 42 = .ok (.aload_n 0, 1) := by decide +kernel
theorem dX7_status_43 : decode cX7_status 43 = .ok (.getfield 72, 3) := by decide +kernel
theorem dX7_status_46 : decode cX7_status 46 = .ok (.ireturn, 1) := by decide +kernel
theorem dX7_status_47 : decode cX7_status 47 = .ok (.iconst 0, 1) := by decide +kernel
theorem dX7_status_48 : decode cX7_status 48 = .ok (.istore_n 2, 1) := by decide +kernel
theorem dX7_status_49 : decode cX7_status 49 = .ok (.iconst 0, 1) := by decide +kernel
theorem dX7_status_50 : decode cX7_status 50 = .ok (.istore_n 3, 1) := by decide +kernel
theorem dX7_status_51 : decode cX7_status 51 = .ok (.iload_n 3, 1) := by decide +kernel
theorem dX7_status_52 : decode cX7_status 52 = .ok (.bipush 8, 2) := by decide +kernel
theorem dX7_status_54 : decode cX7_status 54 = .ok (.if_icmp .ge 26, 3) := by decide +kernel
theorem dX7_status_57 : decode cX7_status 57 = .ok (.iload_n 2, 1) := by decide +kernel
theorem dX7_status_58 : decode cX7_status 58 = .ok (.aload_n 0, 1) := by decide +kernel
theorem dX7_status_59 : decode cX7_status 59 = .ok (.getfield 7, 3) := by decide +kernel
theorem dX7_status_62 : decode cX7_status 62 = .ok (.iload_n 3, 1) := by decide +kernel
theorem dX7_status_63 : decode cX7_status 63 = .ok (.iaload, 1) := by decide +kernel
theorem dX7_status_64 : decode cX7_status 64 = .ok (.ifCond .eq 7, 3) := by decide +kernel
theorem dX7_status_67 : decode cX7_status 67 = .ok (.iconst 1, 1) := by decide +kernel
theorem dX7_status_68 : decode cX7_status 68 = .ok (.goto 4, 3) := by decide +kernel
theorem dX7_status_71 : decode cX7_status 71 = .ok (.iconst 0, 1) := by decide +kernel
theorem dX7_status_72 : decode cX7_status 72 = .ok (.iadd, 1) := by decide +kernel
theorem dX7_status_73 : decode cX7_status 73 = .ok (.istore_n 2, 1) := by decide +kernel
theorem dX7_status_74 : decode cX7_status 74 = .ok (.iinc 3 1, 3) := by decide +kernel
theorem dX7_status_77 : decode cX7_status 77 = .ok (.goto (-26), 3) := by decide +kernel
theorem dX7_status_80 : decode cX7_status 80 = .ok (.iload_n 2, 1) := by decide +kernel
theorem dX7_status_81 : decode cX7_status 81 = .ok (.ireturn, 1) := by decide +kernel
theorem dX7_status_82 : decode cX7_status 82 = .ok (.iload_n 1, 1) := by decide +kernel
theorem dX7_status_83 : decode cX7_status 83 = .ok (.i2l, 1) := by decide +kernel
theorem dX7_status_84 : decode cX7_status 84 = .ok (.ldc2_w 347, 3) := by decide +kernel
theorem dX7_status_87 : decode cX7_status 87 = .ok (.ldc2_w 349, 3) := by decide +kernel
theorem dX7_status_90 : decode cX7_status 90 = .ok (.invokestatic 88, 3) := by decide +kernel
theorem dX7_status_93 : decode cX7_status 93 = .ok (.ifCond .eq 15, 3) := by decide +kernel
theorem dX7_status_96 : decode cX7_status 96 = .ok (.aload_n 0, 1) := by decide +kernel
theorem dX7_status_97 : decode cX7_status 97 = .ok (.getfield 37, 3) := by decide +kernel
theorem dX7_status_100 : decode cX7_status 100 = .ok (.iload_n 1, 1) := by decide +kernel
theorem dX7_status_101 : decode cX7_status 101 = .ok (.bipush 10, 2) := by decide +kernel
theorem dX7_status_103 : decode cX7_status 103 = .ok (.isub, 1) := by decide +kernel
theorem dX7_status_104 : decode cX7_status 104 = .ok (.iaload, 1) := by decide +kernel
theorem dX7_status_105 : decode cX7_status 105 = .ok (.goto 4, 3) := by decide +kernel
theorem dX7_status_108 : decode cX7_status 108 = .ok (.iconst (-1), 1) := by decide +kernel
theorem dX7_status_109 : decode cX7_status 109 = .ok (.ireturn, 1) := by decide +kernel
theorem dJ6_bitCount_0f7a4_0 : decode cJ6_bitCount_0f7a4 0 = .ok (.iload_n 0, 1) := by decide +kernel
theorem dJ6_bitCount_0f7a4_1 : decode cJ6_bitCount_0f7a4 1 = .ok (.iload_n 0, 1) := by decide +kernel
theorem dJ6_bitCount_0f7a4_2 : decode cJ6_bitCount_0f7a4 2 = .ok (.iconst 1, 1) := by decide +kernel
theorem dJ6_bitCount_0f7a4_3 : decode cJ6_bitCount_0f7a4 3 = .ok (.iushr, 1) := by decide +kernel
theorem dJ6_bitCount_0f7a4_4 : decode cJ6_bitCount_0f7a4 4 = .ok (.ldc_w 265, 3) := by decide +kernel
theorem dJ6_bitCount_0f7a4_7 : decode cJ6_bitCount_0f7a4 7 = .ok (.iand, 1) := by decide +kernel
theorem dJ6_bitCount_0f7a4_8 : decode cJ6_bitCount_0f7a4 8 = .ok (.isub, 1) := by decide +kernel
theorem dJ6_bitCount_0f7a4_9 : decode cJ6_bitCount_0f7a4 9 = .ok (.istore_n 0, 1) := by decide +kernel
theorem dJ6_bitCount_0f7a4_10 : decode cJ6_bitCount_0f7a4 10 = .ok (.iload_n 0, 1) := by decide +kernel
theorem dJ6_bitCount_0f7a4_11 : decode cJ6_bitCount_0f7a4 11 = .ok (.ldc_w 266, 3) := by decide +kernel
theorem dJ6_bitCount_0f7a4_14 : decode cJ6_bitCount_0f7a4 14 = .ok (.iand, 1) := by decide +kernel
theorem dJ6_bitCount_0f7a4_15 : decode cJ6_bitCount_0f7a4 15 = .ok (.iload_n 0, 1) := by decide +kernel
theorem dJ6_bitCount_0f7a4_16 : decode cJ6_bitCount_0f7a4 16 = .ok (.iconst 2, 1) := by decide +kernel
theorem dJ6_bitCount_0f7a4_17 : decode cJ6_bitCount_0f7a4 17 = .ok (.iushr, 1) := by decide +kernel
theorem dJ6_bitCount_0f7a4_18 : decode cJ6_bitCount_0f7a4 18 = .ok (.ldc_w 266, 3) := by decide +kernel
theorem dJ6_bitCount_0f7a4_21 : decode cJ6_bitCount_0f7a4 21 = .ok (.iand, 1) := by decide +kernel
theorem dJ6_bitCount_0f7a4_22 : decode cJ6_bitCount_0f7a4 22 = .ok (.iadd, 1) := by decide +kernel
theorem dJ6_bitCount_0f7a4_23 : decode cJ6_bitCount_0f7a4 23 = .ok (.istore_n 0, 1) := by decide +kernel
theorem dJ6_bitCount_0f7a4_24 : decode cJ6_bitCount_0f7a4 24 = .ok (.iload_n 0, 1) := by decide +kernel
theorem dJ6_bitCount_0f7a4_25 : decode cJ6_bitCount_0f7a4 25 = .ok (.iload_n 0, 1) := by decide +kernel
theorem dJ6_bitCount_0f7a4_26 : decode cJ6_bitCount_0f7a4 26 = .ok (.iconst 4, 1) := by decide +kernel
theorem dJ6_bitCount_0f7a4_27 : decode cJ6_bitCount_0f7a4 27 = .ok (.iushr, 1) := by decide +kernel
theorem dJ6_bitCount_0f7a4_28 : decode cJ6_bitCount_0f7a4 28 = .ok (.iadd, 1) := by decide +kernel
theorem dJ6_bitCount_0f7a4_29 : decode cJ6_bitCount_0f7a4 29 = .ok (.ldc_w 267, 3) := by decide +kernel
theorem dJ6_bitCount_0f7a4_32 : decode cJ6_bitCount_0f7a4 32 = .ok (.iand, 1) := by decide +kernel
theorem dJ6_bitCount_0f7a4_33 : decode cJ6_bitCount_0f7a4 33 = .ok (.istore_n 0, 1) := by decide +kernel
theorem dJ6_bitCount_0f7a4_34 : decode cJ6_bitCount_0f7a4 34 = .ok (.iload_n 0, 1) := by decide +kernel
theorem dJ6_bitCount_0f7a4_35 : decode cJ6_bitCount_0f7a4 35 = .ok (.iload_n 0, 1) := by decide +kernel
theorem dJ6_bitCount_0f7a4_36 : decode cJ6_bitCount_0f7a4 36 = .ok (.bipush 8, 2) := by decide +kernel
theorem dJ6_bitCount_0f7a4_38 : decode cJ6_bitCount_0f7a4 38 = .ok (.iushr, 1) := by decide +kernel
theorem dJ6_bitCount_0f7a4_39 : decode cJ6_bitCount_0f7a4 39 = .ok (.iadd, 1) := by decide +kernel
theorem dJ6_bitCount_0f7a4_40 : decode cJ6_bitCount_0f7a4 40 = .ok (.istore_n 0, 1) := by decide +kernel
theorem dJ6_bitCount_0f7a4_41 : decode cJ6_bitCount_0f7a4 41 = .ok (.iload_n 0, 1) := by decide +kernel
theorem dJ6_bitCount_0f7a4_42 : decode cJ6_bitCount_0f7a4 42 = .ok (.iload_n 0, 1) := by decide +kernel
theorem dJ6_bitCount_0f7a4_43 : decode cJ6_bitCount_0f7a4 43 = .ok (.bipush 16, 2) := by decide +kernel
theorem dJ6_bitCount_0f7a4_45 : decode cJ6_bitCount_0f7a4 45 = .ok (.iushr, 1) := by decide +kernel
theorem dJ6_bitCount_0f7a4_46 : decode cJ6_bitCount_0f7a4 46 = .ok (.iadd, 1) := by decide +kernel
theorem dJ6_bitCount_0f7a4_47 : decode cJ6_bitCount_0f7a4 47 = .ok (.istore_n 0, 1) := by decide +kernel
theorem dJ6_bitCount_0f7a4_48 : decode cJ6_bitCount_0f7a4 48 = .ok (.iload_n 0, 1) := by decide +kernel
theorem dJ6_bitCount_0f7a4_49 : decode cJ6_bitCount_0f7a4 49 = .ok (.bipush 63, 2) := by decide +kernel
theorem dJ6_bitCount_0f7a4_51 : decode cJ6_bitCount_0f7a4 51 = .ok (.iand, 1) := by decide +kernel
theorem dJ6_bitCount_0f7a4_52 : decode cJ6_bitCount_0f7a4 52 = .ok (.ireturn, 1) := by decide +kernel
theorem dJ0_length_8abf5_0 : decode cJ0_length_8abf5 0 = .ok (.aload_n 0, 1) := by decide +kernel
theorem dJ0_length_8abf5_1 : decode cJ0_length_8abf5 1 = .ok (.getfield 9, 3) := by decide +kernel
theorem dJ0_length_8abf5_4 : decode cJ0_length_8abf5 4 = .ok (.arraylength, 1) := by decide +kernel
theorem dJ0_length_8abf5_5 : decode cJ0_length_8abf5 5 = .ok (.aload_n 0, 1) := by decide +kernel
theorem dJ0_length_8abf5_6 : decode cJ0_length_8abf5 6 = .ok (.invokevirtual 335, 3) := by decide +kernel
theorem dJ0_length_8abf5_9 : decode cJ0_length_8abf5 9 = .ok (.ishr, 1) := by decide +kernel
theorem dJ0_length_8abf5_10 : decode cJ0_length_8abf5 10 = .ok (.ireturn, 1) := by decide +kernel
theorem dJ0_charAt_5068e_0 : decode cJ0_charAt_5068e 0 = .ok (.aload_n 0, 1) := by decide +kernel
theorem dJ0_charAt_5068e_1 : decode cJ0_charAt_5068e 1 = .ok (.invokevirtual 492, 3) := by decide +kernel
theorem dJ0_charAt_5068e_4 : decode cJ0_charAt_5068e 4 = .ok (.ifCond .eq 12, 3) := by decide +kernel
theorem dJ0_charAt_5068e_7 : decode cJ0_charAt_5068e 7 = .ok (.aload_n 0, 1) := by decide +kernel
theorem dJ0_charAt_5068e_8 : decode cJ0_charAt_5068e 8 = .ok (.getfield 9, 3) := by decide +kernel
theorem dJ0_charAt_5068e_11 : decode cJ0_charAt_5068e 11 = .ok (.iload_n 1, 1) := by decide +kernel
theorem dJ0_charAt_5068e_12 : decode cJ0_charAt_5068e 12 = .ok (.invokestatic 495, 3) := by decide +kernel
theorem dJ0_charAt_5068e_15 : decode cJ0_charAt_5068e 15 = .ok (.ireturn, 1) := by decide +kernel
theorem dJ0_charAt_5068e_16 : decode cJ0_charAt_5068e 16 = .ok (.aload_n 0, 1) := by decide +kernel
theorem dJ0_charAt_5068e_17 : decode cJ0_charAt_5068e 17 = .ok (.getfield 9, 3) := by decide +kernel
theorem dJ0_charAt_5068e_20 : decode cJ0_charAt_5068e 20 = .ok (.iload_n 1, 1) := by decide +kernel
theorem dJ0_charAt_5068e_21 : decode cJ0_charAt_5068e 21 = .ok (.invokestatic 498, 3) := by decide +kernel
theorem dJ0_charAt_5068e_24 : decode cJ0_charAt_5068e 24 = .ok (.ireturn, 1) := by decide +kernel
theorem dJ0_coder_7d493_0 : decode cJ0_coder_7d493 0 = .ok (.getstatic 38, 3) := by decide +kernel
theorem dJ0_coder_7d493_3 : decode cJ0_coder_7d493 3 = .ok (.ifCond .eq 10, 3) := by decide +kernel
theorem dJ0_coder_7d493_6 : decode cJ0_coder_7d493 6 = .ok (.aload_n 0, 1) := by decide +kernel
theorem dJ0_coder_7d493_7 : decode cJ0_coder_7d493 7 = .ok (.getfield 15, 3) := by decide +kernel
theorem dJ0_coder_7d493_10 : decode cJ0_coder_7d493 10 = .ok (.goto 4, 3) := by decide +kernel
theorem dJ0_coder_7d493_13 : decode cJ0_coder_7d493 13 = .ok (.iconst 1, 1) := by decide +kernel
theorem dJ0_coder_7d493_14 : decode cJ0_coder_7d493 14 = .ok (.ireturn, 1) := by decide +kernel
theorem dJ0_isLatin1_aae02_0 : decode cJ0_isLatin1_aae02 0 = .ok (.getstatic 38, 3) := by decide +kernel
theorem dJ0_isLatin1_aae02_3 : decode cJ0_isLatin1_aae02 3 = .ok (.ifCond .eq 14, 3) := by decide +kernel
theorem dJ0_isLatin1_aae02_6 : decode cJ0_isLatin1_aae02 6 = .ok (.aload_n 0, 1) := by decide +kernel
theorem dJ0_isLatin1_aae02_7 : decode cJ0_isLatin1_aae02 7 = .ok (.getfield 15, 3) := by decide +kernel
theorem dJ0_isLatin1_aae02_10 : decode cJ0_isLatin1_aae02 10 = .ok (.ifCond .ne 7, 3) := by decide +kernel
theorem dJ0_isLatin1_aae02_13 : decode cJ0_isLatin1_aae02 13 = .ok (.iconst 1, 1) := by decide +kernel
theorem dJ0_isLatin1_aae02_14 : decode cJ0_isLatin1_aae02 14 = .ok (.goto 4, 3) := by decide +kernel
theorem dJ0_isLatin1_aae02_17 : decode cJ0_isLatin1_aae02 17 = .ok (.iconst 0, 1) := by decide +kernel
theorem dJ0_isLatin1_aae02_18 : decode cJ0_isLatin1_aae02 18 = .ok (.ireturn, 1) := by decide +kernel
theorem dJ0_checkIndex_df160_0 : decode cJ0_checkIndex_df160 0 = .ok (.iload_n 0, 1) := by decide +kernel
theorem dJ0_checkIndex_df160_1 : decode cJ0_checkIndex_df160 1 = .ok (.iload_n 1, 1) := by decide +kernel
theorem dJ0_checkIndex_df160_2 : decode cJ0_checkIndex_df160 2 = .ok (.getstatic 1053, 3) := by decide +kernel
theorem dJ0_checkIndex_df160_5 : decode cJ0_checkIndex_df160 5 = .ok (.invokestatic 1059, 3) := by decide +kernel
theorem dJ0_checkIndex_df160_8 : decode cJ0_checkIndex_df160 8 = .ok (.pop, 1) := by decide +kernel
theorem dJ0_checkIndex_df160_9 : decode cJ0_checkIndex_df160 9 = .ok (.return_, 1) := by decide +kernel
theorem dJ1_charAt_3b067_0 : decode cJ1_charAt_3b067 0 = .ok (.iload_n 1, 1) := by decide +kernel
theorem dJ1_charAt_3b067_1 : decode cJ1_charAt_3b067 1 = .ok (.aload_n 0, 1) := by decide +kernel
theorem dJ1_charAt_3b067_2 : decode cJ1_charAt_3b067 2 = .ok (.arraylength, 1) := by decide +kernel
theorem dJ1_charAt_3b067_3 : decode cJ1_charAt_3b067 3 = .ok (.invokestatic 9, 3) := by decide +kernel
theorem dJ1_charAt_3b067_6 : decode cJ1_charAt_3b067 6 = .ok (.aload_n 0, 1) := by decide +kernel
theorem dJ1_charAt_3b067_7 : decode cJ1_charAt_3b067 7 = .ok (.iload_n 1, 1) := by decide +kernel
theorem dJ1_charAt_3b067_8 : decode cJ1_charAt_3b067 8 = .ok (.baload, 1) := by decide +kernel
theorem dJ1_charAt_3b067_9 : decode cJ1_charAt_3b067 9 = .ok (.sipush 255, 3) := by decide +kernel
theorem dJ1_charAt_3b067_12 : decode cJ1_charAt_3b067 12 = .ok (.iand, 1) := by decide +kernel
theorem dJ1_charAt_3b067_13 : decode cJ1_charAt_3b067 13 = .ok (.i2c, 1) := by decide +kernel
theorem dJ1_charAt_3b067_14 : decode cJ1_charAt_3b067 14 = .ok (.ireturn, 1) := by decide +kernel
theorem dJ2_getChar_3b067_0 : decode cJ2_getChar_3b067 0 = .ok (.getstatic 44, 3) := by decide +kernel
theorem dJ2_getChar_3b067_3 : decode cJ2_getChar_3b067 3 = .ok (.ifCond .ne 25, 3) := by decide +kernel
theorem dJ2_getChar_3b067_6 : decode cJ2_getChar_3b067 6 = .ok (.iload_n 1, 1) := by decide +kernel
theorem dJ2_getChar_3b067_7 : decode cJ2_getChar_3b067 7 = .ok (.ifCond .lt 11, 3) := by decide +kernel
theorem dJ2_getChar_3b067_10 : decode cJ2_getChar_3b067 10 = .ok (.iload_n 1, 1) := by decide +kernel
theorem dJ2_getChar_3b067_11 : decode cJ2_getChar_3b067 11 = .ok (.aload_n 0, 1) := by decide +kernel
theorem dJ2_getChar_3b067_12 : decode cJ2_getChar_3b067 12 = .ok (.invokestatic 48, 3) := by decide +kernel
theorem dJ2_getChar_3b067_15 : decode cJ2_getChar_3b067 15 = .ok (.if_icmp .lt 13, 3) := by decide +kernel
theorem dJ2_getChar_3b067_18 : decode cJ2_getChar_3b067 18 = .ok (.new 52, 3) := by decide +kernel
theorem dJ2_getChar_3b067_21 : decode cJ2_getChar_3b067 21 = .ok (.dup, 1) := by decide +kernel
theorem dJ2_getChar_3b067_22 : decode cJ2_getChar_3b067 22 = .ok (.ldc 54, 2) := by decide +kernel
theorem dJ2_getChar_3b067_24 : decode cJ2_getChar_3b067 24 = .ok (.invokespecial 56, 3) := by decide +kernel
theorem dJ2_getChar_3b067_27 : decode cJ2_getChar_3b067 27 = .ok (.athrow, 1) := by decide +kernel
theorem dJ2_getChar_3b067_28 : decode cJ2_getChar_3b067 28 = .ok (.iload_n 1, 1) := by decide +kernel
theorem dJ2_getChar_3b067_29 : decode cJ2_getChar_3b067 29 = .ok (.iconst 1, 1) := by decide +kernel
theorem dJ2_getChar_3b067_30 : decode cJ2_getChar_3b067 30 = .ok (.ishl, 1) := by decide +kernel
theorem dJ2_getChar_3b067_31 : decode cJ2_getChar_3b067 31 = .ok (.istore_n 1, 1) := by decide +kernel
theorem dJ2_getChar_3b067_32 : decode cJ2_getChar_3b067 32 = .ok (.aload_n 0, 1) := by decide +kernel
theorem dJ2_getChar_3b067_33 : decode cJ2_getChar_3b067 33 = .ok (.iload_n 1, 1) := by decide +kernel
theorem dJ2_getChar_3b067_34 : decode cJ2_getChar_3b067 34 = .ok (.iinc 1 1, 3) := by decide +kernel
theorem dJ2_getChar_3b067_37 : decode cJ2_getChar_3b067 37 = .ok (.baload, 1) := by decide +kernel
theorem dJ2_getChar_3b067_38 : decode cJ2_getChar_3b067 38 = .ok (.sipush 255, 3) := by decide +kernel
theorem dJ2_getChar_3b067_41 : decode cJ2_getChar_3b067 41 = .ok (.iand, 1) := by decide +kernel
theorem dJ2_getChar_3b067_42 : decode cJ2_getChar_3b067 42 = .ok (.getstatic 59, 3) := by decide +kernel
theorem dJ2_getChar_3b067_45 : decode cJ2_getChar_3b067 45 = .ok (.ishl, 1) := by decide +kernel
theorem dJ2_getChar_3b067_46 : decode cJ2_getChar_3b067 46 = .ok (.aload_n 0, 1) := by decide +kernel
theorem dJ2_getChar_3b067_47 : decode cJ2_getChar_3b067 47 = .ok (.iload_n 1, 1) := by decide +kernel
theorem dJ2_getChar_3b067_48 : decode cJ2_getChar_3b067 48 = .ok (.baload, 1) := by decide +kernel
theorem dJ2_getChar_3b067_49 : decode cJ2_getChar_3b067 49 = .ok (.sipush 255, 3) := by decide +kernel
theorem dJ2_getChar_3b067_52 : decode cJ2_getChar_3b067 52 = .ok (.iand, 1) := by decide +kernel
theorem dJ2_getChar_3b067_53 : decode cJ2_getChar_3b067 53 = .ok (.getstatic 63, 3) := by decide +kernel
theorem dJ2_getChar_3b067_56 : decode cJ2_getChar_3b067 56 = .ok (.ishl, 1) := by decide +kernel
theorem dJ2_getChar_3b067_57 : decode cJ2_getChar_3b067 57 = .ok (.ior, 1) := by decide +kernel
theorem dJ2_getChar_3b067_58 : decode cJ2_getChar_3b067 58 = .ok (.i2c, 1) := by decide +kernel
theorem dJ2_getChar_3b067_59 : decode cJ2_getChar_3b067 59 = .ok (.ireturn, 1) := by decide +kernel
theorem dJ2_length_9d52b_0 : decode cJ2_length_9d52b 0 = .ok (.aload_n 0, 1) := by decide +kernel
theorem dJ2_length_9d52b_1 : decode cJ2_length_9d52b 1 = .ok (.arraylength, 1) := by decide +kernel
theorem dJ2_length_9d52b_2 : decode cJ2_length_9d52b 2 = .ok (.iconst 1, 1) := by decide +kernel
theorem dJ2_length_9d52b_3 : decode cJ2_length_9d52b 3 = .ok (.ishr, 1) := by decide +kernel
theorem dJ2_length_9d52b_4 : decode cJ2_length_9d52b 4 = .ok (.ireturn, 1) := by decide +kernel
theorem dJ2_charAt_3b067_0 : decode cJ2_charAt_3b067 0 = .ok (.iload_n 1, 1) := by decide +kernel
theorem dJ2_charAt_3b067_1 : decode cJ2_charAt_3b067 1 = .ok (.aload_n 0, 1) := by decide +kernel
theorem dJ2_charAt_3b067_2 : decode cJ2_charAt_3b067 2 = .ok (.invokestatic 67, 3) := by decide +kernel
theorem dJ2_charAt_3b067_5 : decode cJ2_charAt_3b067 5 = .ok (.aload_n 0, 1) := by decide +kernel
theorem dJ2_charAt_3b067_6 : decode cJ2_charAt_3b067 6 = .ok (.iload_n 1, 1) := by decide +kernel
theorem dJ2_charAt_3b067_7 : decode cJ2_charAt_3b067 7 = .ok (.invokestatic 71, 3) := by decide +kernel
theorem dJ2_charAt_3b067_10 : decode cJ2_charAt_3b067 10 = .ok (.ireturn, 1) := by decide +kernel
theorem dJ2_checkIndex_2214a_0 : decode cJ2_checkIndex_2214a 0 = .ok (.iload_n 0, 1) := by decide +kernel
theorem dJ2_checkIndex_2214a_1 : decode cJ2_checkIndex_2214a 1 = .ok (.aload_n 1, 1) := by decide +kernel
theorem dJ2_checkIndex_2214a_2 : decode cJ2_checkIndex_2214a 2 = .ok (.invokestatic 48, 3) := by decide +kernel
theorem dJ2_checkIndex_2214a_5 : decode cJ2_checkIndex_2214a 5 = .ok (.invokestatic 414, 3) := by decide +kernel
theorem dJ2_checkIndex_2214a_8 : decode cJ2_checkIndex_2214a 8 = .ok (.return_, 1) := by decide +kernel
theorem dJ7_fill_d0a16_0 : decode cJ7_fill_d0a16 0 = .ok (.iconst 0, 1) := by decide +kernel
theorem dJ7_fill_d0a16_1 : decode cJ7_fill_d0a16 1 = .ok (.istore_n 3, 1) := by decide +kernel
theorem dJ7_fill_d0a16_2 : decode cJ7_fill_d0a16 2 = .ok (.aload_n 0, 1) := by decide +kernel
theorem dJ7_fill_d0a16_3 : decode cJ7_fill_d0a16 3 = .ok (.arraylength, 1) := by decide +kernel
theorem dJ7_fill_d0a16_4 : decode cJ7_fill_d0a16 4 = .ok (.istore 4, 2) := by decide +kernel
theorem dJ7_fill_d0a16_6 : decode cJ7_fill_d0a16 6 = .ok (.iload_n 3, 1) := by decide +kernel
theorem dJ7_fill_d0a16_7 : decode cJ7_fill_d0a16 7 = .ok (.iload 4, 2) := by decide +kernel
theorem dJ7_fill_d0a16_9 : decode cJ7_fill_d0a16 9 = .ok (.if_icmp .ge 13, 3) := by decide +kernel
theorem dJ7_fill_d0a16_12 : decode cJ7_fill_d0a16 12 = .ok (.aload_n 0, 1) := by decide +kernel
theorem dJ7_fill_d0a16_13 : decode cJ7_fill_d0a16 13 = .ok (.iload_n 3, 1) := by decide +kernel
theorem dJ7_fill_d0a16_14 : decode cJ7_fill_d0a16 14 = .ok (.lload_n 1, 1) := by decide +kernel
theorem dJ7_fill_d0a16_15 : decode cJ7_fill_d0a16 15 = .ok (.lastore, 1) := by decide +kernel
theorem dJ7_fill_d0a16_16 : decode cJ7_fill_d0a16 16 = .ok (.iinc 3 1, 3) := by decide +kernel
theorem dJ7_fill_d0a16_19 : decode cJ7_fill_d0a16 19 = .ok (.goto (-13), 3) := by decide +kernel
theorem dJ7_fill_d0a16_22 : decode cJ7_fill_d0a16 22 = .ok (.return_, 1) := by decide +kernel
theorem dJ7_fill_53178_0 : decode cJ7_fill_53178 0 = .ok (.iconst 0, 1) := by decide +kernel
theorem dJ7_fill_53178_1 : decode cJ7_fill_53178 1 = .ok (.istore_n 2, 1) := by decide +kernel
theorem dJ7_fill_53178_2 : decode cJ7_fill_53178 2 = .ok (.aload_n 0, 1) := by decide +kernel
theorem dJ7_fill_53178_3 : decode cJ7_fill_53178 3 = .ok (.arraylength, 1) := by decide +kernel
theorem dJ7_fill_53178_4 : decode cJ7_fill_53178 4 = .ok (.istore_n 3, 1) := by decide +kernel
theorem dJ7_fill_53178_5 : decode cJ7_fill_53178 5 = .ok (.iload_n 2, 1) := by decide +kernel
theorem dJ7_fill_53178_6 : decode cJ7_fill_53178 6 = .ok (.iload_n 3, 1) := by decide +kernel
theorem dJ7_fill_53178_7 : decode cJ7_fill_53178 7 = .ok (.if_icmp .ge 13, 3) := by decide +kernel
theorem dJ7_fill_53178_10 : decode cJ7_fill_53178 10 = .ok (.aload_n 0, 1) := by decide +kernel
theorem dJ7_fill_53178_11 : decode cJ7_fill_53178 11 = .ok (.iload_n 2, 1) := by decide +kernel
theorem dJ7_fill_53178_12 : decode cJ7_fill_53178 12 = .ok (.iload_n 1, 1) := by decide +kernel
theorem dJ7_fill_53178_13 : decode cJ7_fill_53178 13 = .ok (.iastore, 1) := by decide +kernel
theorem dJ7_fill_53178_14 : decode cJ7_fill_53178 14 = .ok (.iinc 2 1, 3) := by decide +kernel
theorem dJ7_fill_53178_17 : decode cJ7_fill_53178 17 = .ok (.goto (-12), 3) := by decide +kernel
theorem dJ7_fill_53178_20 : decode cJ7_fill_53178 20 = .ok (.return_, 1) := by decide +kernel
theorem dJ3_checkIndex_8e157_0 : decode cJ3_checkIndex_8e157 0 = .ok (.iload_n 0, 1) := by decide +kernel
theorem dJ3_checkIndex_8e157_1 : decode cJ3_checkIndex_8e157 1 = .ok (.ifCond .lt 8, 3) := by decide +kernel
theorem dJ3_checkIndex_8e157_4 : decode cJ3_checkIndex_8e157 4 = .ok (.iload_n 0, 1) := by decide +kernel
theorem dJ3_checkIndex_8e157_5 : decode cJ3_checkIndex_8e157 5 = .ok (.iload_n 1, 1) := by decide +kernel
theorem dJ3_checkIndex_8e157_6 : decode cJ3_checkIndex_8e157 6 = .ok (.if_icmp .lt 10, 3) := by decide +kernel
theorem dJ3_checkIndex_8e157_9 : decode cJ3_checkIndex_8e157 9 = .ok (.aload_n 2, 1) := by decide +kernel
theorem dJ3_checkIndex_8e157_10 : decode cJ3_checkIndex_8e157 10 = .ok (.iload_n 0, 1) := by decide +kernel
theorem dJ3_checkIndex_8e157_11 : decode cJ3_checkIndex_8e157 11 = .ok (.iload_n 1, 1) := by decide +kernel
theorem dJ3_checkIndex_8e157_12 : decode cJ3_checkIndex_8e157 12 = .ok (.invokestatic 95, 3) := by decide +kernel
theorem dJ3_checkIndex_8e157_15 : decode cJ3_checkIndex_8e157 15 = .ok (.athrow, 1) := by decide +kernel
theorem dJ3_checkIndex_8e157_16 : decode cJ3_checkIndex_8e157 16 = .ok (.iload_n 0, 1) := by decide +kernel
theorem dJ3_checkIndex_8e157_17 : decode cJ3_checkIndex_8e157 17 = .ok (.ireturn, 1) := by decide +kernel
theorem dL_law_0 : decode cL_law 0 = .ok (.new 7, 3) := by decide +kernel
theorem dL_law_3 : decode cL_law 3 = .ok (.dup, 1) := by decide +kernel
theorem dL_law_4 : decode cL_law 4 = .ok (.invokespecial 9, 3) := by decide +kernel
theorem dL_law_7 : decode cL_law 7 = .ok (.astore_n 1, 1) := by decide +kernel
theorem dL_law_8 : decode cL_law 8 = .ok (.new 10, 3) := by decide +kernel
theorem dL_law_11 : decode cL_law 11 = .ok (.dup, 1) := by decide +kernel
theorem dL_law_12 : decode cL_law 12 = .ok (.invokespecial 12, 3) := by decide +kernel
theorem dL_law_15 : decode cL_law 15 = .ok (.astore_n 2, 1) := by decide +kernel
theorem dL_law_16 : decode cL_law 16 = .ok (.iconst 0, 1) := by decide +kernel
theorem dL_law_17 : decode cL_law 17 = .ok (.istore_n 3, 1) := by decide +kernel
theorem dL_law_18 : decode cL_law 18 = .ok (.iload_n 3, 1) := by decide +kernel
theorem dL_law_19 : decode cL_law 19 = .ok (.aload_n 0, 1) := by decide +kernel
theorem dL_law_20 : decode cL_law 20 = .ok (.arraylength, 1) := by decide +kernel
theorem dL_law_21 : decode cL_law 21 = .ok (.bipush 6, 2) := by decide +kernel
theorem dL_law_23 : decode cL_law 23 = .ok (.isub, 1) := by decide +kernel
theorem dL_law_24 : decode cL_law 24 = .ok (.if_icmp .gt 2018, 3) := by decide +kernel
theorem dL_law_27 : decode cL_law 27 = .ok (.aload_n 0, 1) := by decide +kernel
theorem dL_law_28 : decode cL_law 28 = .ok (.iload_n 3, 1) := by decide +kernel
theorem dL_law_29 : decode cL_law 29 = .ok (.iaload, 1) := by decide +kernel
theorem dL_law_30 : decode cL_law 30 = .ok (.bipush 63, 2) := by decide +kernel
theorem dL_law_32 : decode cL_law 32 = .ok (.iand, 1) := by decide +kernel
theorem dL_law_33 : decode cL_law 33 = .ok (.tableswitch 2003 0 52 #[227, 270, 343, 406, 440, 463, 506, 539, 572, 585, 598, 631, 674, 727, 780, 839, 882, 935, 978, 1011, 1044, 1067, 1100, 1123, 1146, 1169, 1192, 1215, 1238, 1261, 1294, 1327, 1360, 1403, 1446, 1479, 1512, 1545, 1588, 1611, 1654, 1687, 1720, 1763, 1796, 1829, 1862, 1885, 1908, 1931, 1954, 1967, 1980], 227) := by decide +kernel
theorem dL_law_260 : decode cL_law 260 = .ok (.aload_n 1, 1) := by decide +kernel
theorem dL_law_261 : decode cL_law 261 = .ok (.aload_n 0, 1) := by decide +kernel
theorem dL_law_262 : decode cL_law 262 = .ok (.iload_n 3, 1) := by decide +kernel
theorem dL_law_263 : decode cL_law 263 = .ok (.iconst 1, 1) := by decide +kernel
theorem dL_law_264 : decode cL_law 264 = .ok (.iadd, 1) := by decide +kernel
theorem dL_law_265 : decode cL_law 265 = .ok (.iaload, 1) := by decide +kernel
theorem dL_law_266 : decode cL_law 266 = .ok (.aload_n 0, 1) := by decide +kernel
theorem dL_law_267 : decode cL_law 267 = .ok (.iload_n 3, 1) := by decide +kernel
theorem dL_law_268 : decode cL_law 268 = .ok (.iconst 2, 1) := by decide +kernel
theorem dL_law_269 : decode cL_law 269 = .ok (.iadd, 1) := by decide +kernel
theorem dL_law_270 : decode cL_law 270 = .ok (.iaload, 1) := by decide +kernel
theorem dL_law_271 : decode cL_law 271 = .ok (.aload_n 0, 1) := by decide +kernel
theorem dL_law_272 : decode cL_law 272 = .ok (.iload_n 3, 1) := by decide +kernel
theorem dL_law_273 : decode cL_law 273 = .ok (.iconst 3, 1) := by decide +kernel
theorem dL_law_274 : decode cL_law 274 = .ok (.iadd, 1) := by decide +kernel
theorem dL_law_275 : decode cL_law 275 = .ok (.iaload, 1) := by decide +kernel
theorem dL_law_276 : decode cL_law 276 = .ok (.invokevirtual 13, 3) := by decide +kernel
theorem dL_law_279 : decode cL_law 279 = .ok (.aload_n 2, 1) := by decide +kernel
theorem dL_law_280 : decode cL_law 280 = .ok (.aload_n 0, 1) := by decide +kernel
theorem dL_law_281 : decode cL_law 281 = .ok (.iload_n 3, 1) := by decide +kernel
theorem dL_law_282 : decode cL_law 282 = .ok (.iconst 1, 1) := by decide +kernel
theorem dL_law_283 : decode cL_law 283 = .ok (.iadd, 1) := by decide +kernel
theorem dL_law_284 : decode cL_law 284 = .ok (.iaload, 1) := by decide +kernel
theorem dL_law_285 : decode cL_law 285 = .ok (.aload_n 0, 1) := by decide +kernel
theorem dL_law_286 : decode cL_law 286 = .ok (.iload_n 3, 1) := by decide +kernel
theorem dL_law_287 : decode cL_law 287 = .ok (.iconst 2, 1) := by decide +kernel
theorem dL_law_288 : decode cL_law 288 = .ok (.iadd, 1) := by decide +kernel
theorem dL_law_289 : decode cL_law 289 = .ok (.iaload, 1) := by decide +kernel
theorem dL_law_290 : decode cL_law 290 = .ok (.aload_n 0, 1) := by decide +kernel
theorem dL_law_291 : decode cL_law 291 = .ok (.iload_n 3, 1) := by decide +kernel
theorem dL_law_292 : decode cL_law 292 = .ok (.iconst 3, 1) := by decide +kernel
theorem dL_law_293 : decode cL_law 293 = .ok (.iadd, 1) := by decide +kernel
theorem dL_law_294 : decode cL_law 294 = .ok (.iaload, 1) := by decide +kernel
theorem dL_law_295 : decode cL_law 295 = .ok (.invokevirtual 17, 3) := by decide +kernel
theorem dL_law_298 : decode cL_law 298 = .ok (.if_icmp .eq 1738, 3) := by decide +kernel
theorem dL_law_301 : decode cL_law 301 = .ok (.iconst 0, 1) := by decide +kernel
theorem dL_law_302 : decode cL_law 302 = .ok (.ireturn, 1) := by decide +kernel
theorem dL_law_303 : decode cL_law 303 = .ok (.aload_n 1, 1) := by decide +kernel
theorem dL_law_304 : decode cL_law 304 = .ok (.aload_n 0, 1) := by decide +kernel
theorem dL_law_305 : decode cL_law 305 = .ok (.iload_n 3, 1) := by decide +kernel
theorem dL_law_306 : decode cL_law 306 = .ok (.iconst 1, 1) := by decide +kernel
theorem dL_law_307 : decode cL_law 307 = .ok (.iadd, 1) := by decide +kernel
theorem dL_law_308 : decode cL_law 308 = .ok (.iaload, 1) := by decide +kernel
theorem dL_law_309 : decode cL_law 309 = .ok (.aload_n 0, 1) := by decide +kernel
theorem dL_law_310 : decode cL_law 310 = .ok (.iload_n 3, 1) := by decide +kernel
theorem dL_law_311 : decode cL_law 311 = .ok (.iconst 2, 1) := by decide +kernel
theorem dL_law_312 : decode cL_law 312 = .ok (.iadd, 1) := by decide +kernel
theorem dL_law_313 : decode cL_law 313 = .ok (.iaload, 1) := by decide +kernel
theorem dL_law_314 : decode cL_law 314 = .ok (.aload_n 0, 1) := by decide +kernel
theorem dL_law_315 : decode cL_law 315 = .ok (.iload_n 3, 1) := by decide +kernel
theorem dL_law_316 : decode cL_law 316 = .ok (.iconst 3, 1) := by decide +kernel
theorem dL_law_317 : decode cL_law 317 = .ok (.iadd, 1) := by decide +kernel
theorem dL_law_318 : decode cL_law 318 = .ok (.iaload, 1) := by decide +kernel
theorem dL_law_319 : decode cL_law 319 = .ok (.i2l, 1) := by decide +kernel
theorem dL_law_320 : decode cL_law 320 = .ok (.bipush 32, 2) := by decide +kernel
theorem dL_law_322 : decode cL_law 322 = .ok (.lshl, 1) := by decide +kernel
theorem dL_law_323 : decode cL_law 323 = .ok (.aload_n 0, 1) := by decide +kernel
theorem dL_law_324 : decode cL_law 324 = .ok (.iload_n 3, 1) := by decide +kernel
theorem dL_law_325 : decode cL_law 325 = .ok (.iconst 4, 1) := by decide +kernel
theorem dL_law_326 : decode cL_law 326 = .ok (.iadd, 1) := by decide +kernel
theorem dL_law_327 : decode cL_law 327 = .ok (.iaload, 1) := by decide +kernel
theorem dL_law_328 : decode cL_law 328 = .ok (.i2l, 1) := by decide +kernel
theorem dL_law_329 : decode cL_law 329 = .ok (.ldc2_w 18, 3) := by decide +kernel
theorem dL_law_332 : decode cL_law 332 = .ok (.land, 1) := by decide +kernel
theorem dL_law_333 : decode cL_law 333 = .ok (.lor, 1) := by decide +kernel
theorem dL_law_334 : decode cL_law 334 = .ok (.invokevirtual 20, 3) := by decide +kernel
theorem dL_law_337 : decode cL_law 337 = .ok (.aload_n 2, 1) := by decide +kernel
theorem dL_law_338 : decode cL_law 338 = .ok (.aload_n 0, 1) := by decide +kernel
theorem dL_law_339 : decode cL_law 339 = .ok (.iload_n 3, 1) := by decide +kernel
theorem dL_law_340 : decode cL_law 340 = .ok (.iconst 1, 1) := by decide +kernel
theorem dL_law_341 : decode cL_law 341 = .ok (.iadd, 1) := by decide +kernel
theorem dL_law_342 : decode cL_law 342 = .ok (.iaload, 1) := by decide +kernel
theorem dL_law_343 : decode cL_law 343 = .ok (.aload_n 0, 1) := by decide +kernel
theorem dL_law_344 : decode cL_law 344 = .ok (.iload_n 3, 1) := by decide +kernel
theorem dL_law_345 : decode cL_law 345 = .ok (.iconst 2, 1) := by decide +kernel
theorem dL_law_346 : decode cL_law 346 = .ok (.iadd, 1) := by decide +kernel
theorem dL_law_347 : decode cL_law 347 = .ok (.iaload, 1) := by decide +kernel
theorem dL_law_348 : decode cL_law 348 = .ok (.aload_n 0, 1) := by decide +kernel
theorem dL_law_349 : decode cL_law 349 = .ok (.iload_n 3, 1) := by decide +kernel
theorem dL_law_350 : decode cL_law 350 = .ok (.iconst 3, 1) := by decide +kernel
theorem dL_law_351 : decode cL_law 351 = .ok (.iadd, 1) := by decide +kernel
theorem dL_law_352 : decode cL_law 352 = .ok (.iaload, 1) := by decide +kernel
theorem dL_law_353 : decode cL_law 353 = .ok (.i2l, 1) := by decide +kernel
theorem dL_law_354 : decode cL_law 354 = .ok (.bipush 32, 2) := by decide +kernel
theorem dL_law_356 : decode cL_law 356 = .ok (.lshl, 1) := by decide +kernel
theorem dL_law_357 : decode cL_law 357 = .ok (.aload_n 0, 1) := by decide +kernel
theorem dL_law_358 : decode cL_law 358 = .ok (.iload_n 3, 1) := by decide +kernel
theorem dL_law_359 : decode cL_law 359 = .ok (.iconst 4, 1) := by decide +kernel
theorem dL_law_360 : decode cL_law 360 = .ok (.iadd, 1) := by decide +kernel
theorem dL_law_361 : decode cL_law 361 = .ok (.iaload, 1) := by decide +kernel
theorem dL_law_362 : decode cL_law 362 = .ok (.i2l, 1) := by decide +kernel
theorem dL_law_363 : decode cL_law 363 = .ok (.ldc2_w 18, 3) := by decide +kernel
theorem dL_law_366 : decode cL_law 366 = .ok (.land, 1) := by decide +kernel
theorem dL_law_367 : decode cL_law 367 = .ok (.lor, 1) := by decide +kernel
theorem dL_law_368 : decode cL_law 368 = .ok (.invokevirtual 24, 3) := by decide +kernel
theorem dL_law_371 : decode cL_law 371 = .ok (.if_icmp .eq 1665, 3) := by decide +kernel
theorem dL_law_374 : decode cL_law 374 = .ok (.iconst 0, 1) := by decide +kernel
theorem dL_law_375 : decode cL_law 375 = .ok (.ireturn, 1) := by decide +kernel
theorem dL_law_376 : decode cL_law 376 = .ok (.aload_n 1, 1) := by decide +kernel
theorem dL_law_377 : decode cL_law 377 = .ok (.aload_n 0, 1) := by decide +kernel
theorem dL_law_378 : decode cL_law 378 = .ok (.iload_n 3, 1) := by decide +kernel
theorem dL_law_379 : decode cL_law 379 = .ok (.iconst 1, 1) := by decide +kernel
theorem dL_law_380 : decode cL_law 380 = .ok (.iadd, 1) := by decide +kernel
theorem dL_law_381 : decode cL_law 381 = .ok (.iaload, 1) := by decide +kernel
theorem dL_law_382 : decode cL_law 382 = .ok (.aload_n 0, 1) := by decide +kernel
theorem dL_law_383 : decode cL_law 383 = .ok (.iload_n 3, 1) := by decide +kernel
theorem dL_law_384 : decode cL_law 384 = .ok (.iconst 2, 1) := by decide +kernel
theorem dL_law_385 : decode cL_law 385 = .ok (.iadd, 1) := by decide +kernel
theorem dL_law_386 : decode cL_law 386 = .ok (.iaload, 1) := by decide +kernel
theorem dL_law_387 : decode cL_law 387 = .ok (.aload_n 0, 1) := by decide +kernel
theorem dL_law_388 : decode cL_law 388 = .ok (.iload_n 3, 1) := by decide +kernel
theorem dL_law_389 : decode cL_law 389 = .ok (.iconst 3, 1) := by decide +kernel
theorem dL_law_390 : decode cL_law 390 = .ok (.iadd, 1) := by decide +kernel
theorem dL_law_391 : decode cL_law 391 = .ok (.iaload, 1) := by decide +kernel
theorem dL_law_392 : decode cL_law 392 = .ok (.aload_n 0, 1) := by decide +kernel
theorem dL_law_393 : decode cL_law 393 = .ok (.iload_n 3, 1) := by decide +kernel
theorem dL_law_394 : decode cL_law 394 = .ok (.iconst 4, 1) := by decide +kernel
theorem dL_law_395 : decode cL_law 395 = .ok (.iadd, 1) := by decide +kernel
theorem dL_law_396 : decode cL_law 396 = .ok (.iaload, 1) := by decide +kernel
theorem dL_law_397 : decode cL_law 397 = .ok (.aload_n 0, 1) := by decide +kernel
theorem dL_law_398 : decode cL_law 398 = .ok (.iload_n 3, 1) := by decide +kernel
theorem dL_law_399 : decode cL_law 399 = .ok (.iconst 5, 1) := by decide +kernel
theorem dL_law_400 : decode cL_law 400 = .ok (.iadd, 1) := by decide +kernel
theorem dL_law_401 : decode cL_law 401 = .ok (.iaload, 1) := by decide +kernel
theorem dL_law_402 : decode cL_law 402 = .ok (.invokevirtual 25, 3) := by decide +kernel
theorem dL_law_405 : decode cL_law 405 = .ok (.aload_n 2, 1) := by decide +kernel
theorem dL_law_406 : decode cL_law 406 = .ok (.aload_n 0, 1) := by decide +kernel
theorem dL_law_407 : decode cL_law 407 = .ok (.iload_n 3, 1) := by decide +kernel
theorem dL_law_408 : decode cL_law 408 = .ok (.iconst 1, 1) := by decide +kernel
theorem dL_law_409 : decode cL_law 409 = .ok (.iadd, 1) := by decide +kernel
theorem dL_law_410 : decode cL_law 410 = .ok (.iaload, 1) := by decide +kernel
theorem dL_law_411 : decode cL_law 411 = .ok (.aload_n 0, 1) := by decide +kernel
theorem dL_law_412 : decode cL_law 412 = .ok (.iload_n 3, 1) := by decide +kernel
theorem dL_law_413 : decode cL_law 413 = .ok (.iconst 2, 1) := by decide +kernel
theorem dL_law_414 : decode cL_law 414 = .ok (.iadd, 1) := by decide +kernel
theorem dL_law_415 : decode cL_law 415 = .ok (.iaload, 1) := by decide +kernel
theorem dL_law_416 : decode cL_law 416 = .ok (.aload_n 0, 1) := by decide +kernel
theorem dL_law_417 : decode cL_law 417 = .ok (.iload_n 3, 1) := by decide +kernel
theorem dL_law_418 : decode cL_law 418 = .ok (.iconst 3, 1) := by decide +kernel
theorem dL_law_419 : decode cL_law 419 = .ok (.iadd, 1) := by decide +kernel
theorem dL_law_420 : decode cL_law 420 = .ok (.iaload, 1) := by decide +kernel
theorem dL_law_421 : decode cL_law 421 = .ok (.aload_n 0, 1) := by decide +kernel
theorem dL_law_422 : decode cL_law 422 = .ok (.iload_n 3, 1) := by decide +kernel
theorem dL_law_423 : decode cL_law 423 = .ok (.iconst 4, 1) := by decide +kernel
theorem dL_law_424 : decode cL_law 424 = .ok (.iadd, 1) := by decide +kernel
theorem dL_law_425 : decode cL_law 425 = .ok (.iaload, 1) := by decide +kernel
theorem dL_law_426 : decode cL_law 426 = .ok (.aload_n 0, 1) := by decide +kernel
theorem dL_law_427 : decode cL_law 427 = .ok (.iload_n 3, 1) := by decide +kernel
theorem dL_law_428 : decode cL_law 428 = .ok (.iconst 5, 1) := by decide +kernel
theorem dL_law_429 : decode cL_law 429 = .ok (.iadd, 1) := by decide +kernel
theorem dL_law_430 : decode cL_law 430 = .ok (.iaload, 1) := by decide +kernel
theorem dL_law_431 : decode cL_law 431 = .ok (.invokevirtual 29, 3) := by decide +kernel
theorem dL_law_434 : decode cL_law 434 = .ok (.if_icmp .eq 1602, 3) := by decide +kernel
theorem dL_law_437 : decode cL_law 437 = .ok (.iconst 0, 1) := by decide +kernel
theorem dL_law_438 : decode cL_law 438 = .ok (.ireturn, 1) := by decide +kernel
theorem dL_law_439 : decode cL_law 439 = .ok (.aload_n 1, 1) := by decide +kernel
theorem dL_law_440 : decode cL_law 440 = .ok (.aload_n 0, 1) := by decide +kernel
theorem dL_law_441 : decode cL_law 441 = .ok (.iload_n 3, 1) := by decide +kernel
theorem dL_law_442 : decode cL_law 442 = .ok (.iconst 1, 1) := by decide +kernel
theorem dL_law_443 : decode cL_law 443 = .ok (.iadd, 1) := by decide +kernel
theorem dL_law_444 : decode cL_law 444 = .ok (.iaload, 1) := by decide +kernel
theorem dL_law_445 : decode cL_law 445 = .ok (.aload_n 0, 1) := by decide +kernel
theorem dL_law_446 : decode cL_law 446 = .ok (.iload_n 3, 1) := by decide +kernel
theorem dL_law_447 : decode cL_law 447 = .ok (.iconst 2, 1) := by decide +kernel
theorem dL_law_448 : decode cL_law 448 = .ok (.iadd, 1) := by decide +kernel
theorem dL_law_449 : decode cL_law 449 = .ok (.iaload, 1) := by decide +kernel
theorem dL_law_450 : decode cL_law 450 = .ok (.invokevirtual 30, 3) := by decide +kernel
theorem dL_law_453 : decode cL_law 453 = .ok (.aload_n 2, 1) := by decide +kernel
theorem dL_law_454 : decode cL_law 454 = .ok (.aload_n 0, 1) := by decide +kernel
theorem dL_law_455 : decode cL_law 455 = .ok (.iload_n 3, 1) := by decide +kernel
theorem dL_law_456 : decode cL_law 456 = .ok (.iconst 1, 1) := by decide +kernel
theorem dL_law_457 : decode cL_law 457 = .ok (.iadd, 1) := by decide +kernel
theorem dL_law_458 : decode cL_law 458 = .ok (.iaload, 1) := by decide +kernel
theorem dL_law_459 : decode cL_law 459 = .ok (.aload_n 0, 1) := by decide +kernel
theorem dL_law_460 : decode cL_law 460 = .ok (.iload_n 3, 1) := by decide +kernel
theorem dL_law_461 : decode cL_law 461 = .ok (.iconst 2, 1) := by decide +kernel
theorem dL_law_462 : decode cL_law 462 = .ok (.iadd, 1) := by decide +kernel
theorem dL_law_463 : decode cL_law 463 = .ok (.iaload, 1) := by decide +kernel
theorem dL_law_464 : decode cL_law 464 = .ok (.invokevirtual 34, 3) := by decide +kernel
theorem dL_law_467 : decode cL_law 467 = .ok (.lcmp, 1) := by decide +kernel
theorem dL_law_468 : decode cL_law 468 = .ok (.ifCond .eq 1568, 3) := by decide +kernel
theorem dL_law_471 : decode cL_law 471 = .ok (.iconst 0, 1) := by decide +kernel
theorem dL_law_472 : decode cL_law 472 = .ok (.ireturn, 1) := by decide +kernel
theorem dL_law_473 : decode cL_law 473 = .ok (.aload_n 1, 1) := by decide +kernel
theorem dL_law_474 : decode cL_law 474 = .ok (.aload_n 0, 1) := by decide +kernel
theorem dL_law_475 : decode cL_law 475 = .ok (.iload_n 3, 1) := by decide +kernel
theorem dL_law_476 : decode cL_law 476 = .ok (.iconst 1, 1) := by decide +kernel
theorem dL_law_477 : decode cL_law 477 = .ok (.iadd, 1) := by decide +kernel
theorem dL_law_478 : decode cL_law 478 = .ok (.iaload, 1) := by decide +kernel
theorem dL_law_479 : decode cL_law 479 = .ok (.invokevirtual 35, 3) := by decide +kernel
theorem dL_law_482 : decode cL_law 482 = .ok (.aload_n 2, 1) := by decide +kernel
theorem dL_law_483 : decode cL_law 483 = .ok (.aload_n 0, 1) := by decide +kernel
theorem dL_law_484 : decode cL_law 484 = .ok (.iload_n 3, 1) := by decide +kernel
theorem dL_law_485 : decode cL_law 485 = .ok (.iconst 1, 1) := by decide +kernel
theorem dL_law_486 : decode cL_law 486 = .ok (.iadd, 1) := by decide +kernel
theorem dL_law_487 : decode cL_law 487 = .ok (.iaload, 1) := by decide +kernel
theorem dL_law_488 : decode cL_law 488 = .ok (.invokevirtual 39, 3) := by decide +kernel
theorem dL_law_491 : decode cL_law 491 = .ok (.if_icmp .eq 1545, 3) := by decide +kernel
theorem dL_law_494 : decode cL_law 494 = .ok (.iconst 0, 1) := by decide +kernel
theorem dL_law_495 : decode cL_law 495 = .ok (.ireturn, 1) := by decide +kernel
theorem dL_law_496 : decode cL_law 496 = .ok (.aload_n 1, 1) := by decide +kernel
theorem dL_law_497 : decode cL_law 497 = .ok (.aload_n 0, 1) := by decide +kernel
theorem dL_law_498 : decode cL_law 498 = .ok (.iload_n 3, 1) := by decide +kernel
theorem dL_law_499 : decode cL_law 499 = .ok (.iconst 1, 1) := by decide +kernel
theorem dL_law_500 : decode cL_law 500 = .ok (.iadd, 1) := by decide +kernel
theorem dL_law_501 : decode cL_law 501 = .ok (.iaload, 1) := by decide +kernel
theorem dL_law_502 : decode cL_law 502 = .ok (.aload_n 0, 1) := by decide +kernel
theorem dL_law_503 : decode cL_law 503 = .ok (.iload_n 3, 1) := by decide +kernel
theorem dL_law_504 : decode cL_law 504 = .ok (.iconst 2, 1) := by decide +kernel
theorem dL_law_505 : decode cL_law 505 = .ok (.iadd, 1) := by decide +kernel
theorem dL_law_506 : decode cL_law 506 = .ok (.iaload, 1) := by decide +kernel
theorem dL_law_507 : decode cL_law 507 = .ok (.aload_n 0, 1) := by decide +kernel
theorem dL_law_508 : decode cL_law 508 = .ok (.iload_n 3, 1) := by decide +kernel
theorem dL_law_509 : decode cL_law 509 = .ok (.iconst 3, 1) := by decide +kernel
theorem dL_law_510 : decode cL_law 510 = .ok (.iadd, 1) := by decide +kernel
theorem dL_law_511 : decode cL_law 511 = .ok (.iaload, 1) := by decide +kernel
theorem dL_law_512 : decode cL_law 512 = .ok (.invokevirtual 40, 3) := by decide +kernel
theorem dL_law_515 : decode cL_law 515 = .ok (.aload_n 2, 1) := by decide +kernel
theorem dL_law_516 : decode cL_law 516 = .ok (.aload_n 0, 1) := by decide +kernel
theorem dL_law_517 : decode cL_law 517 = .ok (.iload_n 3, 1) := by decide +kernel
theorem dL_law_518 : decode cL_law 518 = .ok (.iconst 1, 1) := by decide +kernel
theorem dL_law_519 : decode cL_law 519 = .ok (.iadd, 1) := by decide +kernel
theorem dL_law_520 : decode cL_law 520 = .ok (.iaload, 1) := by decide +kernel
theorem dL_law_521 : decode cL_law 521 = .ok (.aload_n 0, 1) := by decide +kernel
theorem dL_law_522 : decode cL_law 522 = .ok (.iload_n 3, 1) := by decide +kernel
theorem dL_law_523 : decode cL_law 523 = .ok (.iconst 2, 1) := by decide +kernel
theorem dL_law_524 : decode cL_law 524 = .ok (.iadd, 1) := by decide +kernel
theorem dL_law_525 : decode cL_law 525 = .ok (.iaload, 1) := by decide +kernel
theorem dL_law_526 : decode cL_law 526 = .ok (.aload_n 0, 1) := by decide +kernel
theorem dL_law_527 : decode cL_law 527 = .ok (.iload_n 3, 1) := by decide +kernel
theorem dL_law_528 : decode cL_law 528 = .ok (.iconst 3, 1) := by decide +kernel
theorem dL_law_529 : decode cL_law 529 = .ok (.iadd, 1) := by decide +kernel
theorem dL_law_530 : decode cL_law 530 = .ok (.iaload, 1) := by decide +kernel
theorem dL_law_531 : decode cL_law 531 = .ok (.invokevirtual 43, 3) := by decide +kernel
theorem dL_law_534 : decode cL_law 534 = .ok (.if_icmp .eq 1502, 3) := by decide +kernel
theorem dL_law_537 : decode cL_law 537 = .ok (.iconst 0, 1) := by decide +kernel
theorem dL_law_538 : decode cL_law 538 = .ok (.ireturn, 1) := by decide +kernel
theorem dL_law_539 : decode cL_law 539 = .ok (.aload_n 1, 1) := by decide +kernel
theorem dL_law_540 : decode cL_law 540 = .ok (.aload_n 0, 1) := by decide +kernel
theorem dL_law_541 : decode cL_law 541 = .ok (.iload_n 3, 1) := by decide +kernel
theorem dL_law_542 : decode cL_law 542 = .ok (.iconst 1, 1) := by decide +kernel
theorem dL_law_543 : decode cL_law 543 = .ok (.iadd, 1) := by decide +kernel
theorem dL_law_544 : decode cL_law 544 = .ok (.iaload, 1) := by decide +kernel
theorem dL_law_545 : decode cL_law 545 = .ok (.aload_n 0, 1) := by decide +kernel
theorem dL_law_546 : decode cL_law 546 = .ok (.iload_n 3, 1) := by decide +kernel
theorem dL_law_547 : decode cL_law 547 = .ok (.iconst 2, 1) := by decide +kernel
theorem dL_law_548 : decode cL_law 548 = .ok (.iadd, 1) := by decide +kernel
theorem dL_law_549 : decode cL_law 549 = .ok (.iaload, 1) := by decide +kernel
theorem dL_law_550 : decode cL_law 550 = .ok (.invokevirtual 44, 3) := by decide +kernel
theorem dL_law_553 : decode cL_law 553 = .ok (.aload_n 2, 1) := by decide +kernel
theorem dL_law_554 : decode cL_law 554 = .ok (.aload_n 0, 1) := by decide +kernel
theorem dL_law_555 : decode cL_law 555 = .ok (.iload_n 3, 1) := by decide +kernel
theorem dL_law_556 : decode cL_law 556 = .ok (.iconst 1, 1) := by decide +kernel
theorem dL_law_557 : decode cL_law 557 = .ok (.iadd, 1) := by decide +kernel
theorem dL_law_558 : decode cL_law 558 = .ok (.iaload, 1) := by decide +kernel
theorem dL_law_559 : decode cL_law 559 = .ok (.aload_n 0, 1) := by decide +kernel
theorem dL_law_560 : decode cL_law 560 = .ok (.iload_n 3, 1) := by decide +kernel
theorem dL_law_561 : decode cL_law 561 = .ok (.iconst 2, 1) := by decide +kernel
theorem dL_law_562 : decode cL_law 562 = .ok (.iadd, 1) := by decide +kernel
theorem dL_law_563 : decode cL_law 563 = .ok (.iaload, 1) := by decide +kernel
theorem dL_law_564 : decode cL_law 564 = .ok (.invokevirtual 48, 3) := by decide +kernel
theorem dL_law_567 : decode cL_law 567 = .ok (.if_icmp .eq 1469, 3) := by decide +kernel
theorem dL_law_570 : decode cL_law 570 = .ok (.iconst 0, 1) := by decide +kernel
theorem dL_law_571 : decode cL_law 571 = .ok (.ireturn, 1) := by decide +kernel
theorem dL_law_572 : decode cL_law 572 = .ok (.aload_n 1, 1) := by decide +kernel
theorem dL_law_573 : decode cL_law 573 = .ok (.aload_n 0, 1) := by decide +kernel
theorem dL_law_574 : decode cL_law 574 = .ok (.iload_n 3, 1) := by decide +kernel
theorem dL_law_575 : decode cL_law 575 = .ok (.iconst 1, 1) := by decide +kernel
theorem dL_law_576 : decode cL_law 576 = .ok (.iadd, 1) := by decide +kernel
theorem dL_law_577 : decode cL_law 577 = .ok (.iaload, 1) := by decide +kernel
theorem dL_law_578 : decode cL_law 578 = .ok (.aload_n 0, 1) := by decide +kernel
theorem dL_law_579 : decode cL_law 579 = .ok (.iload_n 3, 1) := by decide +kernel
theorem dL_law_580 : decode cL_law 580 = .ok (.iconst 2, 1) := by decide +kernel
theorem dL_law_581 : decode cL_law 581 = .ok (.iadd, 1) := by decide +kernel
theorem dL_law_582 : decode cL_law 582 = .ok (.iaload, 1) := by decide +kernel
theorem dL_law_583 : decode cL_law 583 = .ok (.invokevirtual 49, 3) := by decide +kernel
theorem dL_law_586 : decode cL_law 586 = .ok (.aload_n 2, 1) := by decide +kernel
theorem dL_law_587 : decode cL_law 587 = .ok (.aload_n 0, 1) := by decide +kernel
theorem dL_law_588 : decode cL_law 588 = .ok (.iload_n 3, 1) := by decide +kernel
theorem dL_law_589 : decode cL_law 589 = .ok (.iconst 1, 1) := by decide +kernel
theorem dL_law_590 : decode cL_law 590 = .ok (.iadd, 1) := by decide +kernel
theorem dL_law_591 : decode cL_law 591 = .ok (.iaload, 1) := by decide +kernel
theorem dL_law_592 : decode cL_law 592 = .ok (.aload_n 0, 1) := by decide +kernel
theorem dL_law_593 : decode cL_law 593 = .ok (.iload_n 3, 1) := by decide +kernel
theorem dL_law_594 : decode cL_law 594 = .ok (.iconst 2, 1) := by decide +kernel
theorem dL_law_595 : decode cL_law 595 = .ok (.iadd, 1) := by decide +kernel
theorem dL_law_596 : decode cL_law 596 = .ok (.iaload, 1) := by decide +kernel
theorem dL_law_597 : decode cL_law 597 = .ok (.invokevirtual 52, 3) := by decide +kernel
theorem dL_law_600 : decode cL_law 600 = .ok (.if_icmp .eq 1436, 3) := by decide +kernel
theorem dL_law_603 : decode cL_law 603 = .ok (.iconst 0, 1) := by decide +kernel
theorem dL_law_604 : decode cL_law 604 = .ok (.ireturn, 1) := by decide +kernel
theorem dL_law_605 : decode cL_law 605 = .ok (.aload_n 1, 1) := by decide +kernel
theorem dL_law_606 : decode cL_law 606 = .ok (.invokevirtual 53, 3) := by decide +kernel
theorem dL_law_609 : decode cL_law 609 = .ok (.aload_n 2, 1) := by decide +kernel
theorem dL_law_610 : decode cL_law 610 = .ok (.invokevirtual 57, 3) := by decide +kernel
theorem dL_law_613 : decode cL_law 613 = .ok (.if_icmp .eq 1423, 3) := by decide +kernel
theorem dL_law_616 : decode cL_law 616 = .ok (.iconst 0, 1) := by decide +kernel
theorem dL_law_617 : decode cL_law 617 = .ok (.ireturn, 1) := by decide +kernel
theorem dL_law_618 : decode cL_law 618 = .ok (.aload_n 1, 1) := by decide +kernel
theorem dL_law_619 : decode cL_law 619 = .ok (.invokevirtual 58, 3) := by decide +kernel
theorem dL_law_622 : decode cL_law 622 = .ok (.aload_n 2, 1) := by decide +kernel
theorem dL_law_623 : decode cL_law 623 = .ok (.invokevirtual 61, 3) := by decide +kernel
theorem dL_law_626 : decode cL_law 626 = .ok (.if_icmp .eq 1410, 3) := by decide +kernel
theorem dL_law_629 : decode cL_law 629 = .ok (.iconst 0, 1) := by decide +kernel
theorem dL_law_630 : decode cL_law 630 = .ok (.ireturn, 1) := by decide +kernel
theorem dL_law_631 : decode cL_law 631 = .ok (.aload_n 1, 1) := by decide +kernel
theorem dL_law_632 : decode cL_law 632 = .ok (.aload_n 0, 1) := by decide +kernel
theorem dL_law_633 : decode cL_law 633 = .ok (.iload_n 3, 1) := by decide +kernel
theorem dL_law_634 : decode cL_law 634 = .ok (.iconst 1, 1) := by decide +kernel
theorem dL_law_635 : decode cL_law 635 = .ok (.iadd, 1) := by decide +kernel
theorem dL_law_636 : decode cL_law 636 = .ok (.iaload, 1) := by decide +kernel
theorem dL_law_637 : decode cL_law 637 = .ok (.aload_n 0, 1) := by decide +kernel
theorem dL_law_638 : decode cL_law 638 = .ok (.iload_n 3, 1) := by decide +kernel
theorem dL_law_639 : decode cL_law 639 = .ok (.iconst 2, 1) := by decide +kernel
theorem dL_law_640 : decode cL_law 640 = .ok (.iadd, 1) := by decide +kernel
theorem dL_law_641 : decode cL_law 641 = .ok (.iaload, 1) := by decide +kernel
theorem dL_law_642 : decode cL_law 642 = .ok (.invokevirtual 62, 3) := by decide +kernel
theorem dL_law_645 : decode cL_law 645 = .ok (.aload_n 2, 1) := by decide +kernel
theorem dL_law_646 : decode cL_law 646 = .ok (.aload_n 0, 1) := by decide +kernel
theorem dL_law_647 : decode cL_law 647 = .ok (.iload_n 3, 1) := by decide +kernel
theorem dL_law_648 : decode cL_law 648 = .ok (.iconst 1, 1) := by decide +kernel
theorem dL_law_649 : decode cL_law 649 = .ok (.iadd, 1) := by decide +kernel
theorem dL_law_650 : decode cL_law 650 = .ok (.iaload, 1) := by decide +kernel
theorem dL_law_651 : decode cL_law 651 = .ok (.aload_n 0, 1) := by decide +kernel
theorem dL_law_652 : decode cL_law 652 = .ok (.iload_n 3, 1) := by decide +kernel
theorem dL_law_653 : decode cL_law 653 = .ok (.iconst 2, 1) := by decide +kernel
theorem dL_law_654 : decode cL_law 654 = .ok (.iadd, 1) := by decide +kernel
theorem dL_law_655 : decode cL_law 655 = .ok (.iaload, 1) := by decide +kernel
theorem dL_law_656 : decode cL_law 656 = .ok (.invokevirtual 65, 3) := by decide +kernel
theorem dL_law_659 : decode cL_law 659 = .ok (.if_icmp .eq 1377, 3) := by decide +kernel
theorem dL_law_662 : decode cL_law 662 = .ok (.iconst 0, 1) := by decide +kernel
theorem dL_law_663 : decode cL_law 663 = .ok (.ireturn, 1) := by decide +kernel
theorem dL_law_664 : decode cL_law 664 = .ok (.aload_n 1, 1) := by decide +kernel
theorem dL_law_665 : decode cL_law 665 = .ok (.aload_n 0, 1) := by decide +kernel
theorem dL_law_666 : decode cL_law 666 = .ok (.iload_n 3, 1) := by decide +kernel
theorem dL_law_667 : decode cL_law 667 = .ok (.iconst 1, 1) := by decide +kernel
theorem dL_law_668 : decode cL_law 668 = .ok (.iadd, 1) := by decide +kernel
theorem dL_law_669 : decode cL_law 669 = .ok (.iaload, 1) := by decide +kernel
theorem dL_law_670 : decode cL_law 670 = .ok (.aload_n 0, 1) := by decide +kernel
theorem dL_law_671 : decode cL_law 671 = .ok (.iload_n 3, 1) := by decide +kernel
theorem dL_law_672 : decode cL_law 672 = .ok (.iconst 2, 1) := by decide +kernel
theorem dL_law_673 : decode cL_law 673 = .ok (.iadd, 1) := by decide +kernel
theorem dL_law_674 : decode cL_law 674 = .ok (.iaload, 1) := by decide +kernel
theorem dL_law_675 : decode cL_law 675 = .ok (.aload_n 0, 1) := by decide +kernel
theorem dL_law_676 : decode cL_law 676 = .ok (.iload_n 3, 1) := by decide +kernel
theorem dL_law_677 : decode cL_law 677 = .ok (.iconst 3, 1) := by decide +kernel
theorem dL_law_678 : decode cL_law 678 = .ok (.iadd, 1) := by decide +kernel
theorem dL_law_679 : decode cL_law 679 = .ok (.iaload, 1) := by decide +kernel
theorem dL_law_680 : decode cL_law 680 = .ok (.invokevirtual 66, 3) := by decide +kernel
theorem dL_law_683 : decode cL_law 683 = .ok (.aload_n 2, 1) := by decide +kernel
theorem dL_law_684 : decode cL_law 684 = .ok (.aload_n 0, 1) := by decide +kernel
theorem dL_law_685 : decode cL_law 685 = .ok (.iload_n 3, 1) := by decide +kernel
theorem dL_law_686 : decode cL_law 686 = .ok (.iconst 1, 1) := by decide +kernel
theorem dL_law_687 : decode cL_law 687 = .ok (.iadd, 1) := by decide +kernel
theorem dL_law_688 : decode cL_law 688 = .ok (.iaload, 1) := by decide +kernel
theorem dL_law_689 : decode cL_law 689 = .ok (.aload_n 0, 1) := by decide +kernel
theorem dL_law_690 : decode cL_law 690 = .ok (.iload_n 3, 1) := by decide +kernel
theorem dL_law_691 : decode cL_law 691 = .ok (.iconst 2, 1) := by decide +kernel
theorem dL_law_692 : decode cL_law 692 = .ok (.iadd, 1) := by decide +kernel
theorem dL_law_693 : decode cL_law 693 = .ok (.iaload, 1) := by decide +kernel
theorem dL_law_694 : decode cL_law 694 = .ok (.aload_n 0, 1) := by decide +kernel
theorem dL_law_695 : decode cL_law 695 = .ok (.iload_n 3, 1) := by decide +kernel
theorem dL_law_696 : decode cL_law 696 = .ok (.iconst 3, 1) := by decide +kernel
theorem dL_law_697 : decode cL_law 697 = .ok (.iadd, 1) := by decide +kernel
theorem dL_law_698 : decode cL_law 698 = .ok (.iaload, 1) := by decide +kernel
theorem dL_law_699 : decode cL_law 699 = .ok (.invokevirtual 69, 3) := by decide +kernel
theorem dL_law_702 : decode cL_law 702 = .ok (.if_icmp .eq 1334, 3) := by decide +kernel
theorem dL_law_705 : decode cL_law 705 = .ok (.iconst 0, 1) := by decide +kernel
theorem dL_law_706 : decode cL_law 706 = .ok (.ireturn, 1) := by decide +kernel
theorem dL_law_707 : decode cL_law 707 = .ok (.aload_n 1, 1) := by decide +kernel
theorem dL_law_708 : decode cL_law 708 = .ok (.aload_n 0, 1) := by decide +kernel
theorem dL_law_709 : decode cL_law 709 = .ok (.iload_n 3, 1) := by decide +kernel
theorem dL_law_710 : decode cL_law 710 = .ok (.iconst 1, 1) := by decide +kernel
theorem dL_law_711 : decode cL_law 711 = .ok (.iadd, 1) := by decide +kernel
theorem dL_law_712 : decode cL_law 712 = .ok (.iaload, 1) := by decide +kernel
theorem dL_law_713 : decode cL_law 713 = .ok (.aload_n 0, 1) := by decide +kernel
theorem dL_law_714 : decode cL_law 714 = .ok (.iload_n 3, 1) := by decide +kernel
theorem dL_law_715 : decode cL_law 715 = .ok (.iconst 2, 1) := by decide +kernel
theorem dL_law_716 : decode cL_law 716 = .ok (.iadd, 1) := by decide +kernel
theorem dL_law_717 : decode cL_law 717 = .ok (.iaload, 1) := by decide +kernel
theorem dL_law_718 : decode cL_law 718 = .ok (.aload_n 0, 1) := by decide +kernel
theorem dL_law_719 : decode cL_law 719 = .ok (.iload_n 3, 1) := by decide +kernel
theorem dL_law_720 : decode cL_law 720 = .ok (.iconst 3, 1) := by decide +kernel
theorem dL_law_721 : decode cL_law 721 = .ok (.iadd, 1) := by decide +kernel
theorem dL_law_722 : decode cL_law 722 = .ok (.iaload, 1) := by decide +kernel
theorem dL_law_723 : decode cL_law 723 = .ok (.aload_n 0, 1) := by decide +kernel
theorem dL_law_724 : decode cL_law 724 = .ok (.iload_n 3, 1) := by decide +kernel
theorem dL_law_725 : decode cL_law 725 = .ok (.iconst 4, 1) := by decide +kernel
theorem dL_law_726 : decode cL_law 726 = .ok (.iadd, 1) := by decide +kernel
theorem dL_law_727 : decode cL_law 727 = .ok (.iaload, 1) := by decide +kernel
theorem dL_law_728 : decode cL_law 728 = .ok (.invokevirtual 70, 3) := by decide +kernel
theorem dL_law_731 : decode cL_law 731 = .ok (.aload_n 2, 1) := by decide +kernel
theorem dL_law_732 : decode cL_law 732 = .ok (.aload_n 0, 1) := by decide +kernel
theorem dL_law_733 : decode cL_law 733 = .ok (.iload_n 3, 1) := by decide +kernel
theorem dL_law_734 : decode cL_law 734 = .ok (.iconst 1, 1) := by decide +kernel
theorem dL_law_735 : decode cL_law 735 = .ok (.iadd, 1) := by decide +kernel
theorem dL_law_736 : decode cL_law 736 = .ok (.iaload, 1) := by decide +kernel
theorem dL_law_737 : decode cL_law 737 = .ok (.aload_n 0, 1) := by decide +kernel
theorem dL_law_738 : decode cL_law 738 = .ok (.iload_n 3, 1) := by decide +kernel
theorem dL_law_739 : decode cL_law 739 = .ok (.iconst 2, 1) := by decide +kernel
theorem dL_law_740 : decode cL_law 740 = .ok (.iadd, 1) := by decide +kernel
theorem dL_law_741 : decode cL_law 741 = .ok (.iaload, 1) := by decide +kernel
theorem dL_law_742 : decode cL_law 742 = .ok (.aload_n 0, 1) := by decide +kernel
theorem dL_law_743 : decode cL_law 743 = .ok (.iload_n 3, 1) := by decide +kernel
theorem dL_law_744 : decode cL_law 744 = .ok (.iconst 3, 1) := by decide +kernel
theorem dL_law_745 : decode cL_law 745 = .ok (.iadd, 1) := by decide +kernel
theorem dL_law_746 : decode cL_law 746 = .ok (.iaload, 1) := by decide +kernel
theorem dL_law_747 : decode cL_law 747 = .ok (.aload_n 0, 1) := by decide +kernel
theorem dL_law_748 : decode cL_law 748 = .ok (.iload_n 3, 1) := by decide +kernel
theorem dL_law_749 : decode cL_law 749 = .ok (.iconst 4, 1) := by decide +kernel
theorem dL_law_750 : decode cL_law 750 = .ok (.iadd, 1) := by decide +kernel
theorem dL_law_751 : decode cL_law 751 = .ok (.iaload, 1) := by decide +kernel
theorem dL_law_752 : decode cL_law 752 = .ok (.invokevirtual 74, 3) := by decide +kernel
theorem dL_law_755 : decode cL_law 755 = .ok (.if_icmp .eq 1281, 3) := by decide +kernel
theorem dL_law_758 : decode cL_law 758 = .ok (.iconst 0, 1) := by decide +kernel
theorem dL_law_759 : decode cL_law 759 = .ok (.ireturn, 1) := by decide +kernel
theorem dL_law_760 : decode cL_law 760 = .ok (.aload_n 1, 1) := by decide +kernel
theorem dL_law_761 : decode cL_law 761 = .ok (.aload_n 0, 1) := by decide +kernel
theorem dL_law_762 : decode cL_law 762 = .ok (.iload_n 3, 1) := by decide +kernel
theorem dL_law_763 : decode cL_law 763 = .ok (.iconst 1, 1) := by decide +kernel
theorem dL_law_764 : decode cL_law 764 = .ok (.iadd, 1) := by decide +kernel
theorem dL_law_765 : decode cL_law 765 = .ok (.iaload, 1) := by decide +kernel
theorem dL_law_766 : decode cL_law 766 = .ok (.aload_n 0, 1) := by decide +kernel
theorem dL_law_767 : decode cL_law 767 = .ok (.iload_n 3, 1) := by decide +kernel
theorem dL_law_768 : decode cL_law 768 = .ok (.iconst 2, 1) := by decide +kernel
theorem dL_law_769 : decode cL_law 769 = .ok (.iadd, 1) := by decide +kernel
theorem dL_law_770 : decode cL_law 770 = .ok (.iaload, 1) := by decide +kernel
theorem dL_law_771 : decode cL_law 771 = .ok (.aload_n 0, 1) := by decide +kernel
theorem dL_law_772 : decode cL_law 772 = .ok (.iload_n 3, 1) := by decide +kernel
theorem dL_law_773 : decode cL_law 773 = .ok (.iconst 3, 1) := by decide +kernel
theorem dL_law_774 : decode cL_law 774 = .ok (.iadd, 1) := by decide +kernel
theorem dL_law_775 : decode cL_law 775 = .ok (.iaload, 1) := by decide +kernel
theorem dL_law_776 : decode cL_law 776 = .ok (.aload_n 0, 1) := by decide +kernel
theorem dL_law_777 : decode cL_law 777 = .ok (.iload_n 3, 1) := by decide +kernel
theorem dL_law_778 : decode cL_law 778 = .ok (.iconst 4, 1) := by decide +kernel
theorem dL_law_779 : decode cL_law 779 = .ok (.iadd, 1) := by decide +kernel
theorem dL_law_780 : decode cL_law 780 = .ok (.iaload, 1) := by decide +kernel
theorem dL_law_781 : decode cL_law 781 = .ok (.invokevirtual 75, 3) := by decide +kernel
theorem dL_law_784 : decode cL_law 784 = .ok (.aload_n 2, 1) := by decide +kernel
theorem dL_law_785 : decode cL_law 785 = .ok (.aload_n 0, 1) := by decide +kernel
theorem dL_law_786 : decode cL_law 786 = .ok (.iload_n 3, 1) := by decide +kernel
theorem dL_law_787 : decode cL_law 787 = .ok (.iconst 1, 1) := by decide +kernel
theorem dL_law_788 : decode cL_law 788 = .ok (.iadd, 1) := by decide +kernel
theorem dL_law_789 : decode cL_law 789 = .ok (.iaload, 1) := by decide +kernel
theorem dL_law_790 : decode cL_law 790 = .ok (.aload_n 0, 1) := by decide +kernel
theorem dL_law_791 : decode cL_law 791 = .ok (.iload_n 3, 1) := by decide +kernel
theorem dL_law_792 : decode cL_law 792 = .ok (.iconst 2, 1) := by decide +kernel
theorem dL_law_793 : decode cL_law 793 = .ok (.iadd, 1) := by decide +kernel
theorem dL_law_794 : decode cL_law 794 = .ok (.iaload, 1) := by decide +kernel
theorem dL_law_795 : decode cL_law 795 = .ok (.aload_n 0, 1) := by decide +kernel
theorem dL_law_796 : decode cL_law 796 = .ok (.iload_n 3, 1) := by decide +kernel
theorem dL_law_797 : decode cL_law 797 = .ok (.iconst 3, 1) := by decide +kernel
theorem dL_law_798 : decode cL_law 798 = .ok (.iadd, 1) := by decide +kernel
theorem dL_law_799 : decode cL_law 799 = .ok (.iaload, 1) := by decide +kernel
theorem dL_law_800 : decode cL_law 800 = .ok (.aload_n 0, 1) := by decide +kernel
theorem dL_law_801 : decode cL_law 801 = .ok (.iload_n 3, 1) := by decide +kernel
theorem dL_law_802 : decode cL_law 802 = .ok (.iconst 4, 1) := by decide +kernel
theorem dL_law_803 : decode cL_law 803 = .ok (.iadd, 1) := by decide +kernel
theorem dL_law_804 : decode cL_law 804 = .ok (.iaload, 1) := by decide +kernel
theorem dL_law_805 : decode cL_law 805 = .ok (.invokevirtual 78, 3) := by decide +kernel
theorem dL_law_808 : decode cL_law 808 = .ok (.if_icmp .eq 1228, 3) := by decide +kernel
theorem dL_law_811 : decode cL_law 811 = .ok (.iconst 0, 1) := by decide +kernel
theorem dL_law_812 : decode cL_law 812 = .ok (.ireturn, 1) := by decide +kernel
theorem dL_law_813 : decode cL_law 813 = .ok (.aload_n 1, 1) := by decide +kernel
theorem dL_law_814 : decode cL_law 814 = .ok (.aload_n 0, 1) := by decide +kernel
theorem dL_law_815 : decode cL_law 815 = .ok (.iload_n 3, 1) := by decide +kernel
theorem dL_law_816 : decode cL_law 816 = .ok (.iconst 1, 1) := by decide +kernel
theorem dL_law_817 : decode cL_law 817 = .ok (.iadd, 1) := by decide +kernel
theorem dL_law_818 : decode cL_law 818 = .ok (.iaload, 1) := by decide +kernel
theorem dL_law_819 : decode cL_law 819 = .ok (.aload_n 0, 1) := by decide +kernel
theorem dL_law_820 : decode cL_law 820 = .ok (.iload_n 3, 1) := by decide +kernel
theorem dL_law_821 : decode cL_law 821 = .ok (.iconst 2, 1) := by decide +kernel
theorem dL_law_822 : decode cL_law 822 = .ok (.iadd, 1) := by decide +kernel
theorem dL_law_823 : decode cL_law 823 = .ok (.iaload, 1) := by decide +kernel
theorem dL_law_824 : decode cL_law 824 = .ok (.aload_n 0, 1) := by decide +kernel
theorem dL_law_825 : decode cL_law 825 = .ok (.iload_n 3, 1) := by decide +kernel
theorem dL_law_826 : decode cL_law 826 = .ok (.iconst 3, 1) := by decide +kernel
theorem dL_law_827 : decode cL_law 827 = .ok (.iadd, 1) := by decide +kernel
theorem dL_law_828 : decode cL_law 828 = .ok (.iaload, 1) := by decide +kernel
theorem dL_law_829 : decode cL_law 829 = .ok (.ifCond .eq 7, 3) := by decide +kernel
theorem dL_law_832 : decode cL_law 832 = .ok (.iconst 1, 1) := by decide +kernel
theorem dL_law_833 : decode cL_law 833 = .ok (.goto 4, 3) := by decide +kernel
theorem dL_law_836 : decode cL_law 836 = .ok (.iconst 0, 1) := by decide +kernel
theorem dL_law_837 : decode cL_law 837 = .ok (.invokevirtual 79, 3) := by decide +kernel
theorem dL_law_840 : decode cL_law 840 = .ok (.aload_n 2, 1) := by decide +kernel
theorem dL_law_841 : decode cL_law 841 = .ok (.aload_n 0, 1) := by decide +kernel
theorem dL_law_842 : decode cL_law 842 = .ok (.iload_n 3, 1) := by decide +kernel
theorem dL_law_843 : decode cL_law 843 = .ok (.iconst 1, 1) := by decide +kernel
theorem dL_law_844 : decode cL_law 844 = .ok (.iadd, 1) := by decide +kernel
theorem dL_law_845 : decode cL_law 845 = .ok (.iaload, 1) := by decide +kernel
theorem dL_law_846 : decode cL_law 846 = .ok (.aload_n 0, 1) := by decide +kernel
theorem dL_law_847 : decode cL_law 847 = .ok (.iload_n 3, 1) := by decide +kernel
theorem dL_law_848 : decode cL_law 848 = .ok (.iconst 2, 1) := by decide +kernel
theorem dL_law_849 : decode cL_law 849 = .ok (.iadd, 1) := by decide +kernel
theorem dL_law_850 : decode cL_law 850 = .ok (.iaload, 1) := by decide +kernel
theorem dL_law_851 : decode cL_law 851 = .ok (.aload_n 0, 1) := by decide +kernel
theorem dL_law_852 : decode cL_law 852 = .ok (.iload_n 3, 1) := by decide +kernel
theorem dL_law_853 : decode cL_law 853 = .ok (.iconst 3, 1) := by decide +kernel
theorem dL_law_854 : decode cL_law 854 = .ok (.iadd, 1) := by decide +kernel
theorem dL_law_855 : decode cL_law 855 = .ok (.iaload, 1) := by decide +kernel
theorem dL_law_856 : decode cL_law 856 = .ok (.ifCond .eq 7, 3) := by decide +kernel
theorem dL_law_859 : decode cL_law 859 = .ok (.iconst 1, 1) := by decide +kernel
theorem dL_law_860 : decode cL_law 860 = .ok (.goto 4, 3) := by decide +kernel
theorem dL_law_863 : decode cL_law 863 = .ok (.iconst 0, 1) := by decide +kernel
theorem dL_law_864 : decode cL_law 864 = .ok (.invokevirtual 83, 3) := by decide +kernel
theorem dL_law_867 : decode cL_law 867 = .ok (.if_icmp .eq 1169, 3) := by decide +kernel
theorem dL_law_870 : decode cL_law 870 = .ok (.iconst 0, 1) := by decide +kernel
theorem dL_law_871 : decode cL_law 871 = .ok (.ireturn, 1) := by decide +kernel
theorem dL_law_872 : decode cL_law 872 = .ok (.aload_n 1, 1) := by decide +kernel
theorem dL_law_873 : decode cL_law 873 = .ok (.aload_n 0, 1) := by decide +kernel
theorem dL_law_874 : decode cL_law 874 = .ok (.iload_n 3, 1) := by decide +kernel
theorem dL_law_875 : decode cL_law 875 = .ok (.iconst 1, 1) := by decide +kernel
theorem dL_law_876 : decode cL_law 876 = .ok (.iadd, 1) := by decide +kernel
theorem dL_law_877 : decode cL_law 877 = .ok (.iaload, 1) := by decide +kernel
theorem dL_law_878 : decode cL_law 878 = .ok (.aload_n 0, 1) := by decide +kernel
theorem dL_law_879 : decode cL_law 879 = .ok (.iload_n 3, 1) := by decide +kernel
theorem dL_law_880 : decode cL_law 880 = .ok (.iconst 2, 1) := by decide +kernel
theorem dL_law_881 : decode cL_law 881 = .ok (.iadd, 1) := by decide +kernel
theorem dL_law_882 : decode cL_law 882 = .ok (.iaload, 1) := by decide +kernel
theorem dL_law_883 : decode cL_law 883 = .ok (.aload_n 0, 1) := by decide +kernel
theorem dL_law_884 : decode cL_law 884 = .ok (.iload_n 3, 1) := by decide +kernel
theorem dL_law_885 : decode cL_law 885 = .ok (.iconst 3, 1) := by decide +kernel
theorem dL_law_886 : decode cL_law 886 = .ok (.iadd, 1) := by decide +kernel
theorem dL_law_887 : decode cL_law 887 = .ok (.iaload, 1) := by decide +kernel
theorem dL_law_888 : decode cL_law 888 = .ok (.invokevirtual 84, 3) := by decide +kernel
theorem dL_law_891 : decode cL_law 891 = .ok (.aload_n 2, 1) := by decide +kernel
theorem dL_law_892 : decode cL_law 892 = .ok (.aload_n 0, 1) := by decide +kernel
theorem dL_law_893 : decode cL_law 893 = .ok (.iload_n 3, 1) := by decide +kernel
theorem dL_law_894 : decode cL_law 894 = .ok (.iconst 1, 1) := by decide +kernel
theorem dL_law_895 : decode cL_law 895 = .ok (.iadd, 1) := by decide +kernel
theorem dL_law_896 : decode cL_law 896 = .ok (.iaload, 1) := by decide +kernel
theorem dL_law_897 : decode cL_law 897 = .ok (.aload_n 0, 1) := by decide +kernel
theorem dL_law_898 : decode cL_law 898 = .ok (.iload_n 3, 1) := by decide +kernel
theorem dL_law_899 : decode cL_law 899 = .ok (.iconst 2, 1) := by decide +kernel
theorem dL_law_900 : decode cL_law 900 = .ok (.iadd, 1) := by decide +kernel
theorem dL_law_901 : decode cL_law 901 = .ok (.iaload, 1) := by decide +kernel
theorem dL_law_902 : decode cL_law 902 = .ok (.aload_n 0, 1) := by decide +kernel
theorem dL_law_903 : decode cL_law 903 = .ok (.iload_n 3, 1) := by decide +kernel
theorem dL_law_904 : decode cL_law 904 = .ok (.iconst 3, 1) := by decide +kernel
theorem dL_law_905 : decode cL_law 905 = .ok (.iadd, 1) := by decide +kernel
theorem dL_law_906 : decode cL_law 906 = .ok (.iaload, 1) := by decide +kernel
theorem dL_law_907 : decode cL_law 907 = .ok (.invokevirtual 87, 3) := by decide +kernel
theorem dL_law_910 : decode cL_law 910 = .ok (.if_icmp .eq 1126, 3) := by decide +kernel
theorem dL_law_913 : decode cL_law 913 = .ok (.iconst 0, 1) := by decide +kernel
theorem dL_law_914 : decode cL_law 914 = .ok (.ireturn, 1) := by decide +kernel
theorem dL_law_915 : decode cL_law 915 = .ok (.aload_n 1, 1) := by decide +kernel
theorem dL_law_916 : decode cL_law 916 = .ok (.aload_n 0, 1) := by decide +kernel
theorem dL_law_917 : decode cL_law 917 = .ok (.iload_n 3, 1) := by decide +kernel
theorem dL_law_918 : decode cL_law 918 = .ok (.iconst 1, 1) := by decide +kernel
theorem dL_law_919 : decode cL_law 919 = .ok (.iadd, 1) := by decide +kernel
theorem dL_law_920 : decode cL_law 920 = .ok (.iaload, 1) := by decide +kernel
theorem dL_law_921 : decode cL_law 921 = .ok (.aload_n 0, 1) := by decide +kernel
theorem dL_law_922 : decode cL_law 922 = .ok (.iload_n 3, 1) := by decide +kernel
theorem dL_law_923 : decode cL_law 923 = .ok (.iconst 2, 1) := by decide +kernel
theorem dL_law_924 : decode cL_law 924 = .ok (.iadd, 1) := by decide +kernel
theorem dL_law_925 : decode cL_law 925 = .ok (.iaload, 1) := by decide +kernel
theorem dL_law_926 : decode cL_law 926 = .ok (.aload_n 0, 1) := by decide +kernel
theorem dL_law_927 : decode cL_law 927 = .ok (.iload_n 3, 1) := by decide +kernel
theorem dL_law_928 : decode cL_law 928 = .ok (.iconst 3, 1) := by decide +kernel
theorem dL_law_929 : decode cL_law 929 = .ok (.iadd, 1) := by decide +kernel
theorem dL_law_930 : decode cL_law 930 = .ok (.iaload, 1) := by decide +kernel
theorem dL_law_931 : decode cL_law 931 = .ok (.aload_n 0, 1) := by decide +kernel
theorem dL_law_932 : decode cL_law 932 = .ok (.iload_n 3, 1) := by decide +kernel
theorem dL_law_933 : decode cL_law 933 = .ok (.iconst 4, 1) := by decide +kernel
theorem dL_law_934 : decode cL_law 934 = .ok (.iadd, 1) := by decide +kernel
theorem dL_law_935 : decode cL_law 935 = .ok (.iaload, 1) := by decide +kernel
theorem dL_law_936 : decode cL_law 936 = .ok (.invokevirtual 88, 3) := by decide +kernel
theorem dL_law_939 : decode cL_law 939 = .ok (.aload_n 2, 1) := by decide +kernel
theorem dL_law_940 : decode cL_law 940 = .ok (.aload_n 0, 1) := by decide +kernel
theorem dL_law_941 : decode cL_law 941 = .ok (.iload_n 3, 1) := by decide +kernel
theorem dL_law_942 : decode cL_law 942 = .ok (.iconst 1, 1) := by decide +kernel
theorem dL_law_943 : decode cL_law 943 = .ok (.iadd, 1) := by decide +kernel
theorem dL_law_944 : decode cL_law 944 = .ok (.iaload, 1) := by decide +kernel
theorem dL_law_945 : decode cL_law 945 = .ok (.aload_n 0, 1) := by decide +kernel
theorem dL_law_946 : decode cL_law 946 = .ok (.iload_n 3, 1) := by decide +kernel
theorem dL_law_947 : decode cL_law 947 = .ok (.iconst 2, 1) := by decide +kernel
theorem dL_law_948 : decode cL_law 948 = .ok (.iadd, 1) := by decide +kernel
theorem dL_law_949 : decode cL_law 949 = .ok (.iaload, 1) := by decide +kernel
theorem dL_law_950 : decode cL_law 950 = .ok (.aload_n 0, 1) := by decide +kernel
theorem dL_law_951 : decode cL_law 951 = .ok (.iload_n 3, 1) := by decide +kernel
theorem dL_law_952 : decode cL_law 952 = .ok (.iconst 3, 1) := by decide +kernel
theorem dL_law_953 : decode cL_law 953 = .ok (.iadd, 1) := by decide +kernel
theorem dL_law_954 : decode cL_law 954 = .ok (.iaload, 1) := by decide +kernel
theorem dL_law_955 : decode cL_law 955 = .ok (.aload_n 0, 1) := by decide +kernel
theorem dL_law_956 : decode cL_law 956 = .ok (.iload_n 3, 1) := by decide +kernel
theorem dL_law_957 : decode cL_law 957 = .ok (.iconst 4, 1) := by decide +kernel
theorem dL_law_958 : decode cL_law 958 = .ok (.iadd, 1) := by decide +kernel
theorem dL_law_959 : decode cL_law 959 = .ok (.iaload, 1) := by decide +kernel
theorem dL_law_960 : decode cL_law 960 = .ok (.invokevirtual 91, 3) := by decide +kernel
theorem dL_law_963 : decode cL_law 963 = .ok (.if_icmp .eq 1073, 3) := by decide +kernel
theorem dL_law_966 : decode cL_law 966 = .ok (.iconst 0, 1) := by decide +kernel
theorem dL_law_967 : decode cL_law 967 = .ok (.ireturn, 1) := by decide +kernel
theorem dL_law_968 : decode cL_law 968 = .ok (.aload_n 1, 1) := by decide +kernel
theorem dL_law_969 : decode cL_law 969 = .ok (.aload_n 0, 1) := by decide +kernel
theorem dL_law_970 : decode cL_law 970 = .ok (.iload_n 3, 1) := by decide +kernel
theorem dL_law_971 : decode cL_law 971 = .ok (.iconst 1, 1) := by decide +kernel
theorem dL_law_972 : decode cL_law 972 = .ok (.iadd, 1) := by decide +kernel
theorem dL_law_973 : decode cL_law 973 = .ok (.iaload, 1) := by decide +kernel
theorem dL_law_974 : decode cL_law 974 = .ok (.aload_n 0, 1) := by decide +kernel
theorem dL_law_975 : decode cL_law 975 = .ok (.iload_n 3, 1) := by decide +kernel
theorem dL_law_976 : decode cL_law 976 = .ok (.iconst 2, 1) := by decide +kernel
theorem dL_law_977 : decode cL_law 977 = .ok (.iadd, 1) := by decide +kernel
theorem dL_law_978 : decode cL_law 978 = .ok (.iaload, 1) := by decide +kernel
theorem dL_law_979 : decode cL_law 979 = .ok (.aload_n 0, 1) := by decide +kernel
theorem dL_law_980 : decode cL_law 980 = .ok (.iload_n 3, 1) := by decide +kernel
theorem dL_law_981 : decode cL_law 981 = .ok (.iconst 3, 1) := by decide +kernel
theorem dL_law_982 : decode cL_law 982 = .ok (.iadd, 1) := by decide +kernel
theorem dL_law_983 : decode cL_law 983 = .ok (.iaload, 1) := by decide +kernel
theorem dL_law_984 : decode cL_law 984 = .ok (.invokevirtual 92, 3) := by decide +kernel
theorem dL_law_987 : decode cL_law 987 = .ok (.aload_n 2, 1) := by decide +kernel
theorem dL_law_988 : decode cL_law 988 = .ok (.aload_n 0, 1) := by decide +kernel
theorem dL_law_989 : decode cL_law 989 = .ok (.iload_n 3, 1) := by decide +kernel
theorem dL_law_990 : decode cL_law 990 = .ok (.iconst 1, 1) := by decide +kernel
theorem dL_law_991 : decode cL_law 991 = .ok (.iadd, 1) := by decide +kernel
theorem dL_law_992 : decode cL_law 992 = .ok (.iaload, 1) := by decide +kernel
theorem dL_law_993 : decode cL_law 993 = .ok (.aload_n 0, 1) := by decide +kernel
theorem dL_law_994 : decode cL_law 994 = .ok (.iload_n 3, 1) := by decide +kernel
theorem dL_law_995 : decode cL_law 995 = .ok (.iconst 2, 1) := by decide +kernel
theorem dL_law_996 : decode cL_law 996 = .ok (.iadd, 1) := by decide +kernel
theorem dL_law_997 : decode cL_law 997 = .ok (.iaload, 1) := by decide +kernel
theorem dL_law_998 : decode cL_law 998 = .ok (.aload_n 0, 1) := by decide +kernel
theorem dL_law_999 : decode cL_law 999 = .ok (.iload_n 3, 1) := by decide +kernel
theorem dL_law_1000 : decode cL_law 1000 = .ok (.iconst 3, 1) := by decide +kernel
theorem dL_law_1001 : decode cL_law 1001 = .ok (.iadd, 1) := by decide +kernel
theorem dL_law_1002 : decode cL_law 1002 = .ok (.iaload, 1) := by decide +kernel
theorem dL_law_1003 : decode cL_law 1003 = .ok (.invokevirtual 95, 3) := by decide +kernel
theorem dL_law_1006 : decode cL_law 1006 = .ok (.if_icmp .eq 1030, 3) := by decide +kernel
theorem dL_law_1009 : decode cL_law 1009 = .ok (.iconst 0, 1) := by decide +kernel
theorem dL_law_1010 : decode cL_law 1010 = .ok (.ireturn, 1) := by decide +kernel
theorem dL_law_1011 : decode cL_law 1011 = .ok (.aload_n 1, 1) := by decide +kernel
theorem dL_law_1012 : decode cL_law 1012 = .ok (.aload_n 0, 1) := by decide +kernel
theorem dL_law_1013 : decode cL_law 1013 = .ok (.iload_n 3, 1) := by decide +kernel
theorem dL_law_1014 : decode cL_law 1014 = .ok (.iconst 1, 1) := by decide +kernel
theorem dL_law_1015 : decode cL_law 1015 = .ok (.iadd, 1) := by decide +kernel
theorem dL_law_1016 : decode cL_law 1016 = .ok (.iaload, 1) := by decide +kernel
theorem dL_law_1017 : decode cL_law 1017 = .ok (.aload_n 0, 1) := by decide +kernel
theorem dL_law_1018 : decode cL_law 1018 = .ok (.iload_n 3, 1) := by decide +kernel
theorem dL_law_1019 : decode cL_law 1019 = .ok (.iconst 2, 1) := by decide +kernel
theorem dL_law_1020 : decode cL_law 1020 = .ok (.iadd, 1) := by decide +kernel
theorem dL_law_1021 : decode cL_law 1021 = .ok (.iaload, 1) := by decide +kernel
theorem dL_law_1022 : decode cL_law 1022 = .ok (.invokevirtual 96, 3) := by decide +kernel
theorem dL_law_1025 : decode cL_law 1025 = .ok (.aload_n 2, 1) := by decide +kernel
theorem dL_law_1026 : decode cL_law 1026 = .ok (.aload_n 0, 1) := by decide +kernel
theorem dL_law_1027 : decode cL_law 1027 = .ok (.iload_n 3, 1) := by decide +kernel
theorem dL_law_1028 : decode cL_law 1028 = .ok (.iconst 1, 1) := by decide +kernel
theorem dL_law_1029 : decode cL_law 1029 = .ok (.iadd, 1) := by decide +kernel
theorem dL_law_1030 : decode cL_law 1030 = .ok (.iaload, 1) := by decide +kernel
theorem dL_law_1031 : decode cL_law 1031 = .ok (.aload_n 0, 1) := by decide +kernel
theorem dL_law_1032 : decode cL_law 1032 = .ok (.iload_n 3, 1) := by decide +kernel
theorem dL_law_1033 : decode cL_law 1033 = .ok (.iconst 2, 1) := by decide +kernel
theorem dL_law_1034 : decode cL_law 1034 = .ok (.iadd, 1) := by decide +kernel
theorem dL_law_1035 : decode cL_law 1035 = .ok (.iaload, 1) := by decide +kernel
theorem dL_law_1036 : decode cL_law 1036 = .ok (.invokevirtual 99, 3) := by decide +kernel
theorem dL_law_1039 : decode cL_law 1039 = .ok (.if_icmp .eq 997, 3) := by decide +kernel
theorem dL_law_1042 : decode cL_law 1042 = .ok (.iconst 0, 1) := by decide +kernel
theorem dL_law_1043 : decode cL_law 1043 = .ok (.ireturn, 1) := by decide +kernel
theorem dL_law_1044 : decode cL_law 1044 = .ok (.aload_n 1, 1) := by decide +kernel
theorem dL_law_1045 : decode cL_law 1045 = .ok (.aload_n 0, 1) := by decide +kernel
theorem dL_law_1046 : decode cL_law 1046 = .ok (.iload_n 3, 1) := by decide +kernel
theorem dL_law_1047 : decode cL_law 1047 = .ok (.iconst 1, 1) := by decide +kernel
theorem dL_law_1048 : decode cL_law 1048 = .ok (.iadd, 1) := by decide +kernel
theorem dL_law_1049 : decode cL_law 1049 = .ok (.iaload, 1) := by decide +kernel
theorem dL_law_1050 : decode cL_law 1050 = .ok (.aload_n 0, 1) := by decide +kernel
theorem dL_law_1051 : decode cL_law 1051 = .ok (.iload_n 3, 1) := by decide +kernel
theorem dL_law_1052 : decode cL_law 1052 = .ok (.iconst 2, 1) := by decide +kernel
theorem dL_law_1053 : decode cL_law 1053 = .ok (.iadd, 1) := by decide +kernel
theorem dL_law_1054 : decode cL_law 1054 = .ok (.iaload, 1) := by decide +kernel
theorem dL_law_1055 : decode cL_law 1055 = .ok (.invokevirtual 100, 3) := by decide +kernel
theorem dL_law_1058 : decode cL_law 1058 = .ok (.aload_n 2, 1) := by decide +kernel
theorem dL_law_1059 : decode cL_law 1059 = .ok (.aload_n 0, 1) := by decide +kernel
theorem dL_law_1060 : decode cL_law 1060 = .ok (.iload_n 3, 1) := by decide +kernel
theorem dL_law_1061 : decode cL_law 1061 = .ok (.iconst 1, 1) := by decide +kernel
theorem dL_law_1062 : decode cL_law 1062 = .ok (.iadd, 1) := by decide +kernel
theorem dL_law_1063 : decode cL_law 1063 = .ok (.iaload, 1) := by decide +kernel
theorem dL_law_1064 : decode cL_law 1064 = .ok (.aload_n 0, 1) := by decide +kernel
theorem dL_law_1065 : decode cL_law 1065 = .ok (.iload_n 3, 1) := by decide +kernel
theorem dL_law_1066 : decode cL_law 1066 = .ok (.iconst 2, 1) := by decide +kernel
theorem dL_law_1067 : decode cL_law 1067 = .ok (.iadd, 1) := by decide +kernel
theorem dL_law_1068 : decode cL_law 1068 = .ok (.iaload, 1) := by decide +kernel
theorem dL_law_1069 : decode cL_law 1069 = .ok (.invokevirtual 103, 3) := by decide +kernel
theorem dL_law_1072 : decode cL_law 1072 = .ok (.if_icmp .eq 964, 3) := by decide +kernel
theorem dL_law_1075 : decode cL_law 1075 = .ok (.iconst 0, 1) := by decide +kernel
theorem dL_law_1076 : decode cL_law 1076 = .ok (.ireturn, 1) := by decide +kernel
theorem dL_law_1077 : decode cL_law 1077 = .ok (.aload_n 1, 1) := by decide +kernel
theorem dL_law_1078 : decode cL_law 1078 = .ok (.aload_n 0, 1) := by decide +kernel
theorem dL_law_1079 : decode cL_law 1079 = .ok (.iload_n 3, 1) := by decide +kernel
theorem dL_law_1080 : decode cL_law 1080 = .ok (.iconst 1, 1) := by decide +kernel
theorem dL_law_1081 : decode cL_law 1081 = .ok (.iadd, 1) := by decide +kernel
theorem dL_law_1082 : decode cL_law 1082 = .ok (.iaload, 1) := by decide +kernel
theorem dL_law_1083 : decode cL_law 1083 = .ok (.invokevirtual 104, 3) := by decide +kernel
theorem dL_law_1086 : decode cL_law 1086 = .ok (.aload_n 2, 1) := by decide +kernel
theorem dL_law_1087 : decode cL_law 1087 = .ok (.aload_n 0, 1) := by decide +kernel
theorem dL_law_1088 : decode cL_law 1088 = .ok (.iload_n 3, 1) := by decide +kernel
theorem dL_law_1089 : decode cL_law 1089 = .ok (.iconst 1, 1) := by decide +kernel
theorem dL_law_1090 : decode cL_law 1090 = .ok (.iadd, 1) := by decide +kernel
theorem dL_law_1091 : decode cL_law 1091 = .ok (.iaload, 1) := by decide +kernel
theorem dL_law_1092 : decode cL_law 1092 = .ok (.invokevirtual 107, 3) := by decide +kernel
theorem dL_law_1095 : decode cL_law 1095 = .ok (.if_icmp .eq 941, 3) := by decide +kernel
theorem dL_law_1098 : decode cL_law 1098 = .ok (.iconst 0, 1) := by decide +kernel
theorem dL_law_1099 : decode cL_law 1099 = .ok (.ireturn, 1) := by decide +kernel
theorem dL_law_1100 : decode cL_law 1100 = .ok (.aload_n 1, 1) := by decide +kernel
theorem dL_law_1101 : decode cL_law 1101 = .ok (.aload_n 0, 1) := by decide +kernel
theorem dL_law_1102 : decode cL_law 1102 = .ok (.iload_n 3, 1) := by decide +kernel
theorem dL_law_1103 : decode cL_law 1103 = .ok (.iconst 1, 1) := by decide +kernel
theorem dL_law_1104 : decode cL_law 1104 = .ok (.iadd, 1) := by decide +kernel
theorem dL_law_1105 : decode cL_law 1105 = .ok (.iaload, 1) := by decide +kernel
theorem dL_law_1106 : decode cL_law 1106 = .ok (.aload_n 0, 1) := by decide +kernel
theorem dL_law_1107 : decode cL_law 1107 = .ok (.iload_n 3, 1) := by decide +kernel
theorem dL_law_1108 : decode cL_law 1108 = .ok (.iconst 2, 1) := by decide +kernel
theorem dL_law_1109 : decode cL_law 1109 = .ok (.iadd, 1) := by decide +kernel
theorem dL_law_1110 : decode cL_law 1110 = .ok (.iaload, 1) := by decide +kernel
theorem dL_law_1111 : decode cL_law 1111 = .ok (.invokevirtual 108, 3) := by decide +kernel
theorem dL_law_1114 : decode cL_law 1114 = .ok (.aload_n 2, 1) := by decide +kernel
theorem dL_law_1115 : decode cL_law 1115 = .ok (.aload_n 0, 1) := by decide +kernel
theorem dL_law_1116 : decode cL_law 1116 = .ok (.iload_n 3, 1) := by decide +kernel
theorem dL_law_1117 : decode cL_law 1117 = .ok (.iconst 1, 1) := by decide +kernel
theorem dL_law_1118 : decode cL_law 1118 = .ok (.iadd, 1) := by decide +kernel
theorem dL_law_1119 : decode cL_law 1119 = .ok (.iaload, 1) := by decide +kernel
theorem dL_law_1120 : decode cL_law 1120 = .ok (.aload_n 0, 1) := by decide +kernel
theorem dL_law_1121 : decode cL_law 1121 = .ok (.iload_n 3, 1) := by decide +kernel
theorem dL_law_1122 : decode cL_law 1122 = .ok (.iconst 2, 1) := by decide +kernel
theorem dL_law_1123 : decode cL_law 1123 = .ok (.iadd, 1) := by decide +kernel
theorem dL_law_1124 : decode cL_law 1124 = .ok (.iaload, 1) := by decide +kernel
theorem dL_law_1125 : decode cL_law 1125 = .ok (.invokevirtual 111, 3) := by decide +kernel
theorem dL_law_1128 : decode cL_law 1128 = .ok (.if_icmp .eq 908, 3) := by decide +kernel
theorem dL_law_1131 : decode cL_law 1131 = .ok (.iconst 0, 1) := by decide +kernel
theorem dL_law_1132 : decode cL_law 1132 = .ok (.ireturn, 1) := by decide +kernel
theorem dL_law_1133 : decode cL_law 1133 = .ok (.aload_n 1, 1) := by decide +kernel
theorem dL_law_1134 : decode cL_law 1134 = .ok (.aload_n 0, 1) := by decide +kernel
theorem dL_law_1135 : decode cL_law 1135 = .ok (.iload_n 3, 1) := by decide +kernel
theorem dL_law_1136 : decode cL_law 1136 = .ok (.iconst 1, 1) := by decide +kernel
theorem dL_law_1137 : decode cL_law 1137 = .ok (.iadd, 1) := by decide +kernel
theorem dL_law_1138 : decode cL_law 1138 = .ok (.iaload, 1) := by decide +kernel
theorem dL_law_1139 : decode cL_law 1139 = .ok (.invokevirtual 112, 3) := by decide +kernel
theorem dL_law_1142 : decode cL_law 1142 = .ok (.aload_n 2, 1) := by decide +kernel
theorem dL_law_1143 : decode cL_law 1143 = .ok (.aload_n 0, 1) := by decide +kernel
theorem dL_law_1144 : decode cL_law 1144 = .ok (.iload_n 3, 1) := by decide +kernel
theorem dL_law_1145 : decode cL_law 1145 = .ok (.iconst 1, 1) := by decide +kernel
theorem dL_law_1146 : decode cL_law 1146 = .ok (.iadd, 1) := by decide +kernel
theorem dL_law_1147 : decode cL_law 1147 = .ok (.iaload, 1) := by decide +kernel
theorem dL_law_1148 : decode cL_law 1148 = .ok (.invokevirtual 115, 3) := by decide +kernel
theorem dL_law_1151 : decode cL_law 1151 = .ok (.if_icmp .eq 885, 3) := by decide +kernel
theorem dL_law_1154 : decode cL_law 1154 = .ok (.iconst 0, 1) := by decide +kernel
theorem dL_law_1155 : decode cL_law 1155 = .ok (.ireturn, 1) := by decide +kernel
theorem dL_law_1156 : decode cL_law 1156 = .ok (.aload_n 1, 1) := by decide +kernel
theorem dL_law_1157 : decode cL_law 1157 = .ok (.aload_n 0, 1) := by decide +kernel
theorem dL_law_1158 : decode cL_law 1158 = .ok (.iload_n 3, 1) := by decide +kernel
theorem dL_law_1159 : decode cL_law 1159 = .ok (.iconst 1, 1) := by decide +kernel
theorem dL_law_1160 : decode cL_law 1160 = .ok (.iadd, 1) := by decide +kernel
theorem dL_law_1161 : decode cL_law 1161 = .ok (.iaload, 1) := by decide +kernel
theorem dL_law_1162 : decode cL_law 1162 = .ok (.invokevirtual 116, 3) := by decide +kernel
theorem dL_law_1165 : decode cL_law 1165 = .ok (.aload_n 2, 1) := by decide +kernel
theorem dL_law_1166 : decode cL_law 1166 = .ok (.aload_n 0, 1) := by decide +kernel
theorem dL_law_1167 : decode cL_law 1167 = .ok (.iload_n 3, 1) := by decide +kernel
theorem dL_law_1168 : decode cL_law 1168 = .ok (.iconst 1, 1) := by decide +kernel
theorem dL_law_1169 : decode cL_law 1169 = .ok (.iadd, 1) := by decide +kernel
theorem dL_law_1170 : decode cL_law 1170 = .ok (.iaload, 1) := by decide +kernel
theorem dL_law_1171 : decode cL_law 1171 = .ok (.invokevirtual 119, 3) := by decide +kernel
theorem dL_law_1174 : decode cL_law 1174 = .ok (.if_icmp .eq 862, 3) := by decide +kernel
theorem dL_law_1177 : decode cL_law 1177 = .ok (.iconst 0, 1) := by decide +kernel
theorem dL_law_1178 : decode cL_law 1178 = .ok (.ireturn, 1) := by decide +kernel
theorem dL_law_1179 : decode cL_law 1179 = .ok (.aload_n 1, 1) := by decide +kernel
theorem dL_law_1180 : decode cL_law 1180 = .ok (.aload_n 0, 1) := by decide +kernel
theorem dL_law_1181 : decode cL_law 1181 = .ok (.iload_n 3, 1) := by decide +kernel
theorem dL_law_1182 : decode cL_law 1182 = .ok (.iconst 1, 1) := by decide +kernel
theorem dL_law_1183 : decode cL_law 1183 = .ok (.iadd, 1) := by decide +kernel
theorem dL_law_1184 : decode cL_law 1184 = .ok (.iaload, 1) := by decide +kernel
theorem dL_law_1185 : decode cL_law 1185 = .ok (.invokevirtual 120, 3) := by decide +kernel
theorem dL_law_1188 : decode cL_law 1188 = .ok (.aload_n 2, 1) := by decide +kernel
theorem dL_law_1189 : decode cL_law 1189 = .ok (.aload_n 0, 1) := by decide +kernel
theorem dL_law_1190 : decode cL_law 1190 = .ok (.iload_n 3, 1) := by decide +kernel
theorem dL_law_1191 : decode cL_law 1191 = .ok (.iconst 1, 1) := by decide +kernel
theorem dL_law_1192 : decode cL_law 1192 = .ok (.iadd, 1) := by decide +kernel
theorem dL_law_1193 : decode cL_law 1193 = .ok (.iaload, 1) := by decide +kernel
theorem dL_law_1194 : decode cL_law 1194 = .ok (.invokevirtual 123, 3) := by decide +kernel
theorem dL_law_1197 : decode cL_law 1197 = .ok (.if_icmp .eq 839, 3) := by decide +kernel
theorem dL_law_1200 : decode cL_law 1200 = .ok (.iconst 0, 1) := by decide +kernel
theorem dL_law_1201 : decode cL_law 1201 = .ok (.ireturn, 1) := by decide +kernel
theorem dL_law_1202 : decode cL_law 1202 = .ok (.aload_n 1, 1) := by decide +kernel
theorem dL_law_1203 : decode cL_law 1203 = .ok (.aload_n 0, 1) := by decide +kernel
theorem dL_law_1204 : decode cL_law 1204 = .ok (.iload_n 3, 1) := by decide +kernel
theorem dL_law_1205 : decode cL_law 1205 = .ok (.iconst 1, 1) := by decide +kernel
theorem dL_law_1206 : decode cL_law 1206 = .ok (.iadd, 1) := by decide +kernel
theorem dL_law_1207 : decode cL_law 1207 = .ok (.iaload, 1) := by decide +kernel
theorem dL_law_1208 : decode cL_law 1208 = .ok (.invokevirtual 124, 3) := by decide +kernel
theorem dL_law_1211 : decode cL_law 1211 = .ok (.aload_n 2, 1) := by decide +kernel
theorem dL_law_1212 : decode cL_law 1212 = .ok (.aload_n 0, 1) := by decide +kernel
theorem dL_law_1213 : decode cL_law 1213 = .ok (.iload_n 3, 1) := by decide +kernel
theorem dL_law_1214 : decode cL_law 1214 = .ok (.iconst 1, 1) := by decide +kernel
theorem dL_law_1215 : decode cL_law 1215 = .ok (.iadd, 1) := by decide +kernel
theorem dL_law_1216 : decode cL_law 1216 = .ok (.iaload, 1) := by decide +kernel
theorem dL_law_1217 : decode cL_law 1217 = .ok (.invokevirtual 127, 3) := by decide +kernel
theorem dL_law_1220 : decode cL_law 1220 = .ok (.if_icmp .eq 816, 3) := by decide +kernel
theorem dL_law_1223 : decode cL_law 1223 = .ok (.iconst 0, 1) := by decide +kernel
theorem dL_law_1224 : decode cL_law 1224 = .ok (.ireturn, 1) := by decide +kernel
theorem dL_law_1225 : decode cL_law 1225 = .ok (.aload_n 1, 1) := by decide +kernel
theorem dL_law_1226 : decode cL_law 1226 = .ok (.aload_n 0, 1) := by decide +kernel
theorem dL_law_1227 : decode cL_law 1227 = .ok (.iload_n 3, 1) := by decide +kernel
theorem dL_law_1228 : decode cL_law 1228 = .ok (.iconst 1, 1) := by decide +kernel
theorem dL_law_1229 : decode cL_law 1229 = .ok (.iadd, 1) := by decide +kernel
theorem dL_law_1230 : decode cL_law 1230 = .ok (.iaload, 1) := by decide +kernel
theorem dL_law_1231 : decode cL_law 1231 = .ok (.invokevirtual 128, 3) := by decide +kernel
theorem dL_law_1234 : decode cL_law 1234 = .ok (.aload_n 2, 1) := by decide +kernel
theorem dL_law_1235 : decode cL_law 1235 = .ok (.aload_n 0, 1) := by decide +kernel
theorem dL_law_1236 : decode cL_law 1236 = .ok (.iload_n 3, 1) := by decide +kernel
theorem dL_law_1237 : decode cL_law 1237 = .ok (.iconst 1, 1) := by decide +kernel
theorem dL_law_1238 : decode cL_law 1238 = .ok (.iadd, 1) := by decide +kernel
theorem dL_law_1239 : decode cL_law 1239 = .ok (.iaload, 1) := by decide +kernel
theorem dL_law_1240 : decode cL_law 1240 = .ok (.invokevirtual 131, 3) := by decide +kernel
theorem dL_law_1243 : decode cL_law 1243 = .ok (.if_icmp .eq 793, 3) := by decide +kernel
theorem dL_law_1246 : decode cL_law 1246 = .ok (.iconst 0, 1) := by decide +kernel
theorem dL_law_1247 : decode cL_law 1247 = .ok (.ireturn, 1) := by decide +kernel
theorem dL_law_1248 : decode cL_law 1248 = .ok (.aload_n 1, 1) := by decide +kernel
theorem dL_law_1249 : decode cL_law 1249 = .ok (.aload_n 0, 1) := by decide +kernel
theorem dL_law_1250 : decode cL_law 1250 = .ok (.iload_n 3, 1) := by decide +kernel
theorem dL_law_1251 : decode cL_law 1251 = .ok (.iconst 1, 1) := by decide +kernel
theorem dL_law_1252 : decode cL_law 1252 = .ok (.iadd, 1) := by decide +kernel
theorem dL_law_1253 : decode cL_law 1253 = .ok (.iaload, 1) := by decide +kernel
theorem dL_law_1254 : decode cL_law 1254 = .ok (.invokevirtual 132, 3) := by decide +kernel
theorem dL_law_1257 : decode cL_law 1257 = .ok (.aload_n 2, 1) := by decide +kernel
theorem dL_law_1258 : decode cL_law 1258 = .ok (.aload_n 0, 1) := by decide +kernel
theorem dL_law_1259 : decode cL_law 1259 = .ok (.iload_n 3, 1) := by decide +kernel
theorem dL_law_1260 : decode cL_law 1260 = .ok (.iconst 1, 1) := by decide +kernel
theorem dL_law_1261 : decode cL_law 1261 = .ok (.iadd, 1) := by decide +kernel
theorem dL_law_1262 : decode cL_law 1262 = .ok (.iaload, 1) := by decide +kernel
theorem dL_law_1263 : decode cL_law 1263 = .ok (.invokevirtual 135, 3) := by decide +kernel
theorem dL_law_1266 : decode cL_law 1266 = .ok (.if_icmp .eq 770, 3) := by decide +kernel
theorem dL_law_1269 : decode cL_law 1269 = .ok (.iconst 0, 1) := by decide +kernel
theorem dL_law_1270 : decode cL_law 1270 = .ok (.ireturn, 1) := by decide +kernel
theorem dL_law_1271 : decode cL_law 1271 = .ok (.aload_n 1, 1) := by decide +kernel
theorem dL_law_1272 : decode cL_law 1272 = .ok (.aload_n 0, 1) := by decide +kernel
theorem dL_law_1273 : decode cL_law 1273 = .ok (.iload_n 3, 1) := by decide +kernel
theorem dL_law_1274 : decode cL_law 1274 = .ok (.iconst 1, 1) := by decide +kernel
theorem dL_law_1275 : decode cL_law 1275 = .ok (.iadd, 1) := by decide +kernel
theorem dL_law_1276 : decode cL_law 1276 = .ok (.iaload, 1) := by decide +kernel
theorem dL_law_1277 : decode cL_law 1277 = .ok (.invokevirtual 136, 3) := by decide +kernel
theorem dL_law_1280 : decode cL_law 1280 = .ok (.aload_n 2, 1) := by decide +kernel
theorem dL_law_1281 : decode cL_law 1281 = .ok (.aload_n 0, 1) := by decide +kernel
theorem dL_law_1282 : decode cL_law 1282 = .ok (.iload_n 3, 1) := by decide +kernel
theorem dL_law_1283 : decode cL_law 1283 = .ok (.iconst 1, 1) := by decide +kernel
theorem dL_law_1284 : decode cL_law 1284 = .ok (.iadd, 1) := by decide +kernel
theorem dL_law_1285 : decode cL_law 1285 = .ok (.iaload, 1) := by decide +kernel
theorem dL_law_1286 : decode cL_law 1286 = .ok (.invokevirtual 139, 3) := by decide +kernel
theorem dL_law_1289 : decode cL_law 1289 = .ok (.if_icmp .eq 747, 3) := by decide +kernel
theorem dL_law_1292 : decode cL_law 1292 = .ok (.iconst 0, 1) := by decide +kernel
theorem dL_law_1293 : decode cL_law 1293 = .ok (.ireturn, 1) := by decide +kernel
theorem dL_law_1294 : decode cL_law 1294 = .ok (.aload_n 1, 1) := by decide +kernel
theorem dL_law_1295 : decode cL_law 1295 = .ok (.aload_n 0, 1) := by decide +kernel
theorem dL_law_1296 : decode cL_law 1296 = .ok (.iload_n 3, 1) := by decide +kernel
theorem dL_law_1297 : decode cL_law 1297 = .ok (.iconst 1, 1) := by decide +kernel
theorem dL_law_1298 : decode cL_law 1298 = .ok (.iadd, 1) := by decide +kernel
theorem dL_law_1299 : decode cL_law 1299 = .ok (.iaload, 1) := by decide +kernel
theorem dL_law_1300 : decode cL_law 1300 = .ok (.aload_n 0, 1) := by decide +kernel
theorem dL_law_1301 : decode cL_law 1301 = .ok (.iload_n 3, 1) := by decide +kernel
theorem dL_law_1302 : decode cL_law 1302 = .ok (.iconst 2, 1) := by decide +kernel
theorem dL_law_1303 : decode cL_law 1303 = .ok (.iadd, 1) := by decide +kernel
theorem dL_law_1304 : decode cL_law 1304 = .ok (.iaload, 1) := by decide +kernel
theorem dL_law_1305 : decode cL_law 1305 = .ok (.invokevirtual 140, 3) := by decide +kernel
theorem dL_law_1308 : decode cL_law 1308 = .ok (.aload_n 2, 1) := by decide +kernel
theorem dL_law_1309 : decode cL_law 1309 = .ok (.aload_n 0, 1) := by decide +kernel
theorem dL_law_1310 : decode cL_law 1310 = .ok (.iload_n 3, 1) := by decide +kernel
theorem dL_law_1311 : decode cL_law 1311 = .ok (.iconst 1, 1) := by decide +kernel
theorem dL_law_1312 : decode cL_law 1312 = .ok (.iadd, 1) := by decide +kernel
theorem dL_law_1313 : decode cL_law 1313 = .ok (.iaload, 1) := by decide +kernel
theorem dL_law_1314 : decode cL_law 1314 = .ok (.aload_n 0, 1) := by decide +kernel
theorem dL_law_1315 : decode cL_law 1315 = .ok (.iload_n 3, 1) := by decide +kernel
theorem dL_law_1316 : decode cL_law 1316 = .ok (.iconst 2, 1) := by decide +kernel
theorem dL_law_1317 : decode cL_law 1317 = .ok (.iadd, 1) := by decide +kernel
theorem dL_law_1318 : decode cL_law 1318 = .ok (.iaload, 1) := by decide +kernel
theorem dL_law_1319 : decode cL_law 1319 = .ok (.invokevirtual 143, 3) := by decide +kernel
theorem dL_law_1322 : decode cL_law 1322 = .ok (.if_icmp .eq 714, 3) := by decide +kernel
theorem dL_law_1325 : decode cL_law 1325 = .ok (.iconst 0, 1) := by decide +kernel
theorem dL_law_1326 : decode cL_law 1326 = .ok (.ireturn, 1) := by decide +kernel
theorem dL_law_1327 : decode cL_law 1327 = .ok (.aload_n 1, 1) := by decide +kernel
theorem dL_law_1328 : decode cL_law 1328 = .ok (.aload_n 0, 1) := by decide +kernel
theorem dL_law_1329 : decode cL_law 1329 = .ok (.iload_n 3, 1) := by decide +kernel
theorem dL_law_1330 : decode cL_law 1330 = .ok (.iconst 1, 1) := by decide +kernel
theorem dL_law_1331 : decode cL_law 1331 = .ok (.iadd, 1) := by decide +kernel
theorem dL_law_1332 : decode cL_law 1332 = .ok (.iaload, 1) := by decide +kernel
theorem dL_law_1333 : decode cL_law 1333 = .ok (.aload_n 0, 1) := by decide +kernel
theorem dL_law_1334 : decode cL_law 1334 = .ok (.iload_n 3, 1) := by decide +kernel
theorem dL_law_1335 : decode cL_law 1335 = .ok (.iconst 2, 1) := by decide +kernel
theorem dL_law_1336 : decode cL_law 1336 = .ok (.iadd, 1) := by decide +kernel
theorem dL_law_1337 : decode cL_law 1337 = .ok (.iaload, 1) := by decide +kernel
theorem dL_law_1338 : decode cL_law 1338 = .ok (.invokevirtual 144, 3) := by decide +kernel
theorem dL_law_1341 : decode cL_law 1341 = .ok (.aload_n 2, 1) := by decide +kernel
theorem dL_law_1342 : decode cL_law 1342 = .ok (.aload_n 0, 1) := by decide +kernel
theorem dL_law_1343 : decode cL_law 1343 = .ok (.iload_n 3, 1) := by decide +kernel
theorem dL_law_1344 : decode cL_law 1344 = .ok (.iconst 1, 1) := by decide +kernel
theorem dL_law_1345 : decode cL_law 1345 = .ok (.iadd, 1) := by decide +kernel
theorem dL_law_1346 : decode cL_law 1346 = .ok (.iaload, 1) := by decide +kernel
theorem dL_law_1347 : decode cL_law 1347 = .ok (.aload_n 0, 1) := by decide +kernel
theorem dL_law_1348 : decode cL_law 1348 = .ok (.iload_n 3, 1) := by decide +kernel
theorem dL_law_1349 : decode cL_law 1349 = .ok (.iconst 2, 1) := by decide +kernel
theorem dL_law_1350 : decode cL_law 1350 = .ok (.iadd, 1) := by decide +kernel
theorem dL_law_1351 : decode cL_law 1351 = .ok (.iaload, 1) := by decide +kernel
theorem dL_law_1352 : decode cL_law 1352 = .ok (.invokevirtual 147, 3) := by decide +kernel
theorem dL_law_1355 : decode cL_law 1355 = .ok (.if_icmp .eq 681, 3) := by decide +kernel
theorem dL_law_1358 : decode cL_law 1358 = .ok (.iconst 0, 1) := by decide +kernel
theorem dL_law_1359 : decode cL_law 1359 = .ok (.ireturn, 1) := by decide +kernel
theorem dL_law_1360 : decode cL_law 1360 = .ok (.aload_n 1, 1) := by decide +kernel
theorem dL_law_1361 : decode cL_law 1361 = .ok (.aload_n 0, 1) := by decide +kernel
theorem dL_law_1362 : decode cL_law 1362 = .ok (.iload_n 3, 1) := by decide +kernel
theorem dL_law_1363 : decode cL_law 1363 = .ok (.iconst 1, 1) := by decide +kernel
theorem dL_law_1364 : decode cL_law 1364 = .ok (.iadd, 1) := by decide +kernel
theorem dL_law_1365 : decode cL_law 1365 = .ok (.iaload, 1) := by decide +kernel
theorem dL_law_1366 : decode cL_law 1366 = .ok (.aload_n 0, 1) := by decide +kernel
theorem dL_law_1367 : decode cL_law 1367 = .ok (.iload_n 3, 1) := by decide +kernel
theorem dL_law_1368 : decode cL_law 1368 = .ok (.iconst 2, 1) := by decide +kernel
theorem dL_law_1369 : decode cL_law 1369 = .ok (.iadd, 1) := by decide +kernel
theorem dL_law_1370 : decode cL_law 1370 = .ok (.iaload, 1) := by decide +kernel
theorem dL_law_1371 : decode cL_law 1371 = .ok (.invokevirtual 148, 3) := by decide +kernel
theorem dL_law_1374 : decode cL_law 1374 = .ok (.aload_n 2, 1) := by decide +kernel
theorem dL_law_1375 : decode cL_law 1375 = .ok (.aload_n 0, 1) := by decide +kernel
theorem dL_law_1376 : decode cL_law 1376 = .ok (.iload_n 3, 1) := by decide +kernel
theorem dL_law_1377 : decode cL_law 1377 = .ok (.iconst 1, 1) := by decide +kernel
theorem dL_law_1378 : decode cL_law 1378 = .ok (.iadd, 1) := by decide +kernel
theorem dL_law_1379 : decode cL_law 1379 = .ok (.iaload, 1) := by decide +kernel
theorem dL_law_1380 : decode cL_law 1380 = .ok (.aload_n 0, 1) := by decide +kernel
theorem dL_law_1381 : decode cL_law 1381 = .ok (.iload_n 3, 1) := by decide +kernel
theorem dL_law_1382 : decode cL_law 1382 = .ok (.iconst 2, 1) := by decide +kernel
theorem dL_law_1383 : decode cL_law 1383 = .ok (.iadd, 1) := by decide +kernel
theorem dL_law_1384 : decode cL_law 1384 = .ok (.iaload, 1) := by decide +kernel
theorem dL_law_1385 : decode cL_law 1385 = .ok (.invokevirtual 151, 3) := by decide +kernel
theorem dL_law_1388 : decode cL_law 1388 = .ok (.if_icmp .eq 648, 3) := by decide +kernel
theorem dL_law_1391 : decode cL_law 1391 = .ok (.iconst 0, 1) := by decide +kernel
theorem dL_law_1392 : decode cL_law 1392 = .ok (.ireturn, 1) := by decide +kernel
theorem dL_law_1393 : decode cL_law 1393 = .ok (.aload_n 1, 1) := by decide +kernel
theorem dL_law_1394 : decode cL_law 1394 = .ok (.aload_n 0, 1) := by decide +kernel
theorem dL_law_1395 : decode cL_law 1395 = .ok (.iload_n 3, 1) := by decide +kernel
theorem dL_law_1396 : decode cL_law 1396 = .ok (.iconst 1, 1) := by decide +kernel
theorem dL_law_1397 : decode cL_law 1397 = .ok (.iadd, 1) := by decide +kernel
theorem dL_law_1398 : decode cL_law 1398 = .ok (.iaload, 1) := by decide +kernel
theorem dL_law_1399 : decode cL_law 1399 = .ok (.aload_n 0, 1) := by decide +kernel
theorem dL_law_1400 : decode cL_law 1400 = .ok (.iload_n 3, 1) := by decide +kernel
theorem dL_law_1401 : decode cL_law 1401 = .ok (.iconst 2, 1) := by decide +kernel
theorem dL_law_1402 : decode cL_law 1402 = .ok (.iadd, 1) := by decide +kernel
theorem dL_law_1403 : decode cL_law 1403 = .ok (.iaload, 1) := by decide +kernel
theorem dL_law_1404 : decode cL_law 1404 = .ok (.aload_n 0, 1) := by decide +kernel
theorem dL_law_1405 : decode cL_law 1405 = .ok (.iload_n 3, 1) := by decide +kernel
theorem dL_law_1406 : decode cL_law 1406 = .ok (.iconst 3, 1) := by decide +kernel
theorem dL_law_1407 : decode cL_law 1407 = .ok (.iadd, 1) := by decide +kernel
theorem dL_law_1408 : decode cL_law 1408 = .ok (.iaload, 1) := by decide +kernel
theorem dL_law_1409 : decode cL_law 1409 = .ok (.invokevirtual 152, 3) := by decide +kernel
theorem dL_law_1412 : decode cL_law 1412 = .ok (.aload_n 2, 1) := by decide +kernel
theorem dL_law_1413 : decode cL_law 1413 = .ok (.aload_n 0, 1) := by decide +kernel
theorem dL_law_1414 : decode cL_law 1414 = .ok (.iload_n 3, 1) := by decide +kernel
theorem dL_law_1415 : decode cL_law 1415 = .ok (.iconst 1, 1) := by decide +kernel
theorem dL_law_1416 : decode cL_law 1416 = .ok (.iadd, 1) := by decide +kernel
theorem dL_law_1417 : decode cL_law 1417 = .ok (.iaload, 1) := by decide +kernel
theorem dL_law_1418 : decode cL_law 1418 = .ok (.aload_n 0, 1) := by decide +kernel
theorem dL_law_1419 : decode cL_law 1419 = .ok (.iload_n 3, 1) := by decide +kernel
theorem dL_law_1420 : decode cL_law 1420 = .ok (.iconst 2, 1) := by decide +kernel
theorem dL_law_1421 : decode cL_law 1421 = .ok (.iadd, 1) := by decide +kernel
theorem dL_law_1422 : decode cL_law 1422 = .ok (.iaload, 1) := by decide +kernel
theorem dL_law_1423 : decode cL_law 1423 = .ok (.aload_n 0, 1) := by decide +kernel
theorem dL_law_1424 : decode cL_law 1424 = .ok (.iload_n 3, 1) := by decide +kernel
theorem dL_law_1425 : decode cL_law 1425 = .ok (.iconst 3, 1) := by decide +kernel
theorem dL_law_1426 : decode cL_law 1426 = .ok (.iadd, 1) := by decide +kernel
theorem dL_law_1427 : decode cL_law 1427 = .ok (.iaload, 1) := by decide +kernel
theorem dL_law_1428 : decode cL_law 1428 = .ok (.invokevirtual 155, 3) := by decide +kernel
theorem dL_law_1431 : decode cL_law 1431 = .ok (.if_icmp .eq 605, 3) := by decide +kernel
theorem dL_law_1434 : decode cL_law 1434 = .ok (.iconst 0, 1) := by decide +kernel
theorem dL_law_1435 : decode cL_law 1435 = .ok (.ireturn, 1) := by decide +kernel
theorem dL_law_1436 : decode cL_law 1436 = .ok (.aload_n 1, 1) := by decide +kernel
theorem dL_law_1437 : decode cL_law 1437 = .ok (.aload_n 0, 1) := by decide +kernel
theorem dL_law_1438 : decode cL_law 1438 = .ok (.iload_n 3, 1) := by decide +kernel
theorem dL_law_1439 : decode cL_law 1439 = .ok (.iconst 1, 1) := by decide +kernel
theorem dL_law_1440 : decode cL_law 1440 = .ok (.iadd, 1) := by decide +kernel
theorem dL_law_1441 : decode cL_law 1441 = .ok (.iaload, 1) := by decide +kernel
theorem dL_law_1442 : decode cL_law 1442 = .ok (.aload_n 0, 1) := by decide +kernel
theorem dL_law_1443 : decode cL_law 1443 = .ok (.iload_n 3, 1) := by decide +kernel
theorem dL_law_1444 : decode cL_law 1444 = .ok (.iconst 2, 1) := by decide +kernel
theorem dL_law_1445 : decode cL_law 1445 = .ok (.iadd, 1) := by decide +kernel
theorem dL_law_1446 : decode cL_law 1446 = .ok (.iaload, 1) := by decide +kernel
theorem dL_law_1447 : decode cL_law 1447 = .ok (.aload_n 0, 1) := by decide +kernel
theorem dL_law_1448 : decode cL_law 1448 = .ok (.iload_n 3, 1) := by decide +kernel
theorem dL_law_1449 : decode cL_law 1449 = .ok (.iconst 3, 1) := by decide +kernel
theorem dL_law_1450 : decode cL_law 1450 = .ok (.iadd, 1) := by decide +kernel
theorem dL_law_1451 : decode cL_law 1451 = .ok (.iaload, 1) := by decide +kernel
theorem dL_law_1452 : decode cL_law 1452 = .ok (.invokevirtual 156, 3) := by decide +kernel
theorem dL_law_1455 : decode cL_law 1455 = .ok (.aload_n 2, 1) := by decide +kernel
theorem dL_law_1456 : decode cL_law 1456 = .ok (.aload_n 0, 1) := by decide +kernel
theorem dL_law_1457 : decode cL_law 1457 = .ok (.iload_n 3, 1) := by decide +kernel
theorem dL_law_1458 : decode cL_law 1458 = .ok (.iconst 1, 1) := by decide +kernel
theorem dL_law_1459 : decode cL_law 1459 = .ok (.iadd, 1) := by decide +kernel
theorem dL_law_1460 : decode cL_law 1460 = .ok (.iaload, 1) := by decide +kernel
theorem dL_law_1461 : decode cL_law 1461 = .ok (.aload_n 0, 1) := by decide +kernel
theorem dL_law_1462 : decode cL_law 1462 = .ok (.iload_n 3, 1) := by decide +kernel
theorem dL_law_1463 : decode cL_law 1463 = .ok (.iconst 2, 1) := by decide +kernel
theorem dL_law_1464 : decode cL_law 1464 = .ok (.iadd, 1) := by decide +kernel
theorem dL_law_1465 : decode cL_law 1465 = .ok (.iaload, 1) := by decide +kernel
theorem dL_law_1466 : decode cL_law 1466 = .ok (.aload_n 0, 1) := by decide +kernel
theorem dL_law_1467 : decode cL_law 1467 = .ok (.iload_n 3, 1) := by decide +kernel
theorem dL_law_1468 : decode cL_law 1468 = .ok (.iconst 3, 1) := by decide +kernel
theorem dL_law_1469 : decode cL_law 1469 = .ok (.iadd, 1) := by decide +kernel
theorem dL_law_1470 : decode cL_law 1470 = .ok (.iaload, 1) := by decide +kernel
theorem dL_law_1471 : decode cL_law 1471 = .ok (.invokevirtual 159, 3) := by decide +kernel
theorem dL_law_1474 : decode cL_law 1474 = .ok (.if_icmp .eq 562, 3) := by decide +kernel
theorem dL_law_1477 : decode cL_law 1477 = .ok (.iconst 0, 1) := by decide +kernel
theorem dL_law_1478 : decode cL_law 1478 = .ok (.ireturn, 1) := by decide +kernel
theorem dL_law_1479 : decode cL_law 1479 = .ok (.aload_n 1, 1) := by decide +kernel
theorem dL_law_1480 : decode cL_law 1480 = .ok (.aload_n 0, 1) := by decide +kernel
theorem dL_law_1481 : decode cL_law 1481 = .ok (.iload_n 3, 1) := by decide +kernel
theorem dL_law_1482 : decode cL_law 1482 = .ok (.iconst 1, 1) := by decide +kernel
theorem dL_law_1483 : decode cL_law 1483 = .ok (.iadd, 1) := by decide +kernel
theorem dL_law_1484 : decode cL_law 1484 = .ok (.iaload, 1) := by decide +kernel
theorem dL_law_1485 : decode cL_law 1485 = .ok (.aload_n 0, 1) := by decide +kernel
theorem dL_law_1486 : decode cL_law 1486 = .ok (.iload_n 3, 1) := by decide +kernel
theorem dL_law_1487 : decode cL_law 1487 = .ok (.iconst 2, 1) := by decide +kernel
theorem dL_law_1488 : decode cL_law 1488 = .ok (.iadd, 1) := by decide +kernel
theorem dL_law_1489 : decode cL_law 1489 = .ok (.iaload, 1) := by decide +kernel
theorem dL_law_1490 : decode cL_law 1490 = .ok (.invokevirtual 160, 3) := by decide +kernel
theorem dL_law_1493 : decode cL_law 1493 = .ok (.aload_n 2, 1) := by decide +kernel
theorem dL_law_1494 : decode cL_law 1494 = .ok (.aload_n 0, 1) := by decide +kernel
theorem dL_law_1495 : decode cL_law 1495 = .ok (.iload_n 3, 1) := by decide +kernel
theorem dL_law_1496 : decode cL_law 1496 = .ok (.iconst 1, 1) := by decide +kernel
theorem dL_law_1497 : decode cL_law 1497 = .ok (.iadd, 1) := by decide +kernel
theorem dL_law_1498 : decode cL_law 1498 = .ok (.iaload, 1) := by decide +kernel
theorem dL_law_1499 : decode cL_law 1499 = .ok (.aload_n 0, 1) := by decide +kernel
theorem dL_law_1500 : decode cL_law 1500 = .ok (.iload_n 3, 1) := by decide +kernel
theorem dL_law_1501 : decode cL_law 1501 = .ok (.iconst 2, 1) := by decide +kernel
theorem dL_law_1502 : decode cL_law 1502 = .ok (.iadd, 1) := by decide +kernel
theorem dL_law_1503 : decode cL_law 1503 = .ok (.iaload, 1) := by decide +kernel
theorem dL_law_1504 : decode cL_law 1504 = .ok (.invokevirtual 163, 3) := by decide +kernel
theorem dL_law_1507 : decode cL_law 1507 = .ok (.if_icmp .eq 529, 3) := by decide +kernel
theorem dL_law_1510 : decode cL_law 1510 = .ok (.iconst 0, 1) := by decide +kernel
theorem dL_law_1511 : decode cL_law 1511 = .ok (.ireturn, 1) := by decide +kernel
theorem dL_law_1512 : decode cL_law 1512 = .ok (.aload_n 1, 1) := by decide +kernel
theorem dL_law_1513 : decode cL_law 1513 = .ok (.aload_n 0, 1) := by decide +kernel
theorem dL_law_1514 : decode cL_law 1514 = .ok (.iload_n 3, 1) := by decide +kernel
theorem dL_law_1515 : decode cL_law 1515 = .ok (.iconst 1, 1) := by decide +kernel
theorem dL_law_1516 : decode cL_law 1516 = .ok (.iadd, 1) := by decide +kernel
theorem dL_law_1517 : decode cL_law 1517 = .ok (.iaload, 1) := by decide +kernel
theorem dL_law_1518 : decode cL_law 1518 = .ok (.aload_n 0, 1) := by decide +kernel
theorem dL_law_1519 : decode cL_law 1519 = .ok (.iload_n 3, 1) := by decide +kernel
theorem dL_law_1520 : decode cL_law 1520 = .ok (.iconst 2, 1) := by decide +kernel
theorem dL_law_1521 : decode cL_law 1521 = .ok (.iadd, 1) := by decide +kernel
theorem dL_law_1522 : decode cL_law 1522 = .ok (.iaload, 1) := by decide +kernel
theorem dL_law_1523 : decode cL_law 1523 = .ok (.invokevirtual 164, 3) := by decide +kernel
theorem dL_law_1526 : decode cL_law 1526 = .ok (.aload_n 2, 1) := by decide +kernel
theorem dL_law_1527 : decode cL_law 1527 = .ok (.aload_n 0, 1) := by decide +kernel
theorem dL_law_1528 : decode cL_law 1528 = .ok (.iload_n 3, 1) := by decide +kernel
theorem dL_law_1529 : decode cL_law 1529 = .ok (.iconst 1, 1) := by decide +kernel
theorem dL_law_1530 : decode cL_law 1530 = .ok (.iadd, 1) := by decide +kernel
theorem dL_law_1531 : decode cL_law 1531 = .ok (.iaload, 1) := by decide +kernel
theorem dL_law_1532 : decode cL_law 1532 = .ok (.aload_n 0, 1) := by decide +kernel
theorem dL_law_1533 : decode cL_law 1533 = .ok (.iload_n 3, 1) := by decide +kernel
theorem dL_law_1534 : decode cL_law 1534 = .ok (.iconst 2, 1) := by decide +kernel
theorem dL_law_1535 : decode cL_law 1535 = .ok (.iadd, 1) := by decide +kernel
theorem dL_law_1536 : decode cL_law 1536 = .ok (.iaload, 1) := by decide +kernel
theorem dL_law_1537 : decode cL_law 1537 = .ok (.invokevirtual 167, 3) := by decide +kernel
theorem dL_law_1540 : decode cL_law 1540 = .ok (.if_icmp .eq 496, 3) := by decide +kernel
theorem dL_law_1543 : decode cL_law 1543 = .ok (.iconst 0, 1) := by decide +kernel
theorem dL_law_1544 : decode cL_law 1544 = .ok (.ireturn, 1) := by decide +kernel
theorem dL_law_1545 : decode cL_law 1545 = .ok (.aload_n 1, 1) := by decide +kernel
theorem dL_law_1546 : decode cL_law 1546 = .ok (.aload_n 0, 1) := by decide +kernel
theorem dL_law_1547 : decode cL_law 1547 = .ok (.iload_n 3, 1) := by decide +kernel
theorem dL_law_1548 : decode cL_law 1548 = .ok (.iconst 1, 1) := by decide +kernel
theorem dL_law_1549 : decode cL_law 1549 = .ok (.iadd, 1) := by decide +kernel
theorem dL_law_1550 : decode cL_law 1550 = .ok (.iaload, 1) := by decide +kernel
theorem dL_law_1551 : decode cL_law 1551 = .ok (.aload_n 0, 1) := by decide +kernel
theorem dL_law_1552 : decode cL_law 1552 = .ok (.iload_n 3, 1) := by decide +kernel
theorem dL_law_1553 : decode cL_law 1553 = .ok (.iconst 2, 1) := by decide +kernel
theorem dL_law_1554 : decode cL_law 1554 = .ok (.iadd, 1) := by decide +kernel
theorem dL_law_1555 : decode cL_law 1555 = .ok (.iaload, 1) := by decide +kernel
theorem dL_law_1556 : decode cL_law 1556 = .ok (.invokevirtual 168, 3) := by decide +kernel
theorem dL_law_1559 : decode cL_law 1559 = .ok (.aload_n 2, 1) := by decide +kernel
theorem dL_law_1560 : decode cL_law 1560 = .ok (.aload_n 0, 1) := by decide +kernel
theorem dL_law_1561 : decode cL_law 1561 = .ok (.iload_n 3, 1) := by decide +kernel
theorem dL_law_1562 : decode cL_law 1562 = .ok (.iconst 1, 1) := by decide +kernel
theorem dL_law_1563 : decode cL_law 1563 = .ok (.iadd, 1) := by decide +kernel
theorem dL_law_1564 : decode cL_law 1564 = .ok (.iaload, 1) := by decide +kernel
theorem dL_law_1565 : decode cL_law 1565 = .ok (.aload_n 0, 1) := by decide +kernel
theorem dL_law_1566 : decode cL_law 1566 = .ok (.iload_n 3, 1) := by decide +kernel
theorem dL_law_1567 : decode cL_law 1567 = .ok (.iconst 2, 1) := by decide +kernel
theorem dL_law_1568 : decode cL_law 1568 = .ok (.iadd, 1) := by decide +kernel
theorem dL_law_1569 : decode cL_law 1569 = .ok (.iaload, 1) := by decide +kernel
theorem dL_law_1570 : decode cL_law 1570 = .ok (.invokevirtual 171, 3) := by decide +kernel
theorem dL_law_1573 : decode cL_law 1573 = .ok (.if_icmp .eq 463, 3) := by decide +kernel
theorem dL_law_1576 : decode cL_law 1576 = .ok (.iconst 0, 1) := by decide +kernel
theorem dL_law_1577 : decode cL_law 1577 = .ok (.ireturn, 1) := by decide +kernel
theorem dL_law_1578 : decode cL_law 1578 = .ok (.aload_n 1, 1) := by decide +kernel
theorem dL_law_1579 : decode cL_law 1579 = .ok (.aload_n 0, 1) := by decide +kernel
theorem dL_law_1580 : decode cL_law 1580 = .ok (.iload_n 3, 1) := by decide +kernel
theorem dL_law_1581 : decode cL_law 1581 = .ok (.iconst 1, 1) := by decide +kernel
theorem dL_law_1582 : decode cL_law 1582 = .ok (.iadd, 1) := by decide +kernel
theorem dL_law_1583 : decode cL_law 1583 = .ok (.iaload, 1) := by decide +kernel
theorem dL_law_1584 : decode cL_law 1584 = .ok (.aload_n 0, 1) := by decide +kernel
theorem dL_law_1585 : decode cL_law 1585 = .ok (.iload_n 3, 1) := by decide +kernel
theorem dL_law_1586 : decode cL_law 1586 = .ok (.iconst 2, 1) := by decide +kernel
theorem dL_law_1587 : decode cL_law 1587 = .ok (.iadd, 1) := by decide +kernel
theorem dL_law_1588 : decode cL_law 1588 = .ok (.iaload, 1) := by decide +kernel
theorem dL_law_1589 : decode cL_law 1589 = .ok (.aload_n 0, 1) := by decide +kernel
theorem dL_law_1590 : decode cL_law 1590 = .ok (.iload_n 3, 1) := by decide +kernel
theorem dL_law_1591 : decode cL_law 1591 = .ok (.iconst 3, 1) := by decide +kernel
theorem dL_law_1592 : decode cL_law 1592 = .ok (.iadd, 1) := by decide +kernel
theorem dL_law_1593 : decode cL_law 1593 = .ok (.iaload, 1) := by decide +kernel
theorem dL_law_1594 : decode cL_law 1594 = .ok (.invokevirtual 172, 3) := by decide +kernel
theorem dL_law_1597 : decode cL_law 1597 = .ok (.aload_n 2, 1) := by decide +kernel
theorem dL_law_1598 : decode cL_law 1598 = .ok (.aload_n 0, 1) := by decide +kernel
theorem dL_law_1599 : decode cL_law 1599 = .ok (.iload_n 3, 1) := by decide +kernel
theorem dL_law_1600 : decode cL_law 1600 = .ok (.iconst 1, 1) := by decide +kernel
theorem dL_law_1601 : decode cL_law 1601 = .ok (.iadd, 1) := by decide +kernel
theorem dL_law_1602 : decode cL_law 1602 = .ok (.iaload, 1) := by decide +kernel
theorem dL_law_1603 : decode cL_law 1603 = .ok (.aload_n 0, 1) := by decide +kernel
theorem dL_law_1604 : decode cL_law 1604 = .ok (.iload_n 3, 1) := by decide +kernel
theorem dL_law_1605 : decode cL_law 1605 = .ok (.iconst 2, 1) := by decide +kernel
theorem dL_law_1606 : decode cL_law 1606 = .ok (.iadd, 1) := by decide +kernel
theorem dL_law_1607 : decode cL_law 1607 = .ok (.iaload, 1) := by decide +kernel
theorem dL_law_1608 : decode cL_law 1608 = .ok (.aload_n 0, 1) := by decide +kernel
theorem dL_law_1609 : decode cL_law 1609 = .ok (.iload_n 3, 1) := by decide +kernel
theorem dL_law_1610 : decode cL_law 1610 = .ok (.iconst 3, 1) := by decide +kernel
theorem dL_law_1611 : decode cL_law 1611 = .ok (.iadd, 1) := by decide +kernel
theorem dL_law_1612 : decode cL_law 1612 = .ok (.iaload, 1) := by decide +kernel
theorem dL_law_1613 : decode cL_law 1613 = .ok (.invokevirtual 175, 3) := by decide +kernel
theorem dL_law_1616 : decode cL_law 1616 = .ok (.if_icmp .eq 420, 3) := by decide +kernel
theorem dL_law_1619 : decode cL_law 1619 = .ok (.iconst 0, 1) := by decide +kernel
theorem dL_law_1620 : decode cL_law 1620 = .ok (.ireturn, 1) := by decide +kernel
theorem dL_law_1621 : decode cL_law 1621 = .ok (.aload_n 1, 1) := by decide +kernel
theorem dL_law_1622 : decode cL_law 1622 = .ok (.aload_n 0, 1) := by decide +kernel
theorem dL_law_1623 : decode cL_law 1623 = .ok (.iload_n 3, 1) := by decide +kernel
theorem dL_law_1624 : decode cL_law 1624 = .ok (.iconst 1, 1) := by decide +kernel
theorem dL_law_1625 : decode cL_law 1625 = .ok (.iadd, 1) := by decide +kernel
theorem dL_law_1626 : decode cL_law 1626 = .ok (.iaload, 1) := by decide +kernel
theorem dL_law_1627 : decode cL_law 1627 = .ok (.invokevirtual 176, 3) := by decide +kernel
theorem dL_law_1630 : decode cL_law 1630 = .ok (.aload_n 2, 1) := by decide +kernel
theorem dL_law_1631 : decode cL_law 1631 = .ok (.aload_n 0, 1) := by decide +kernel
theorem dL_law_1632 : decode cL_law 1632 = .ok (.iload_n 3, 1) := by decide +kernel
theorem dL_law_1633 : decode cL_law 1633 = .ok (.iconst 1, 1) := by decide +kernel
theorem dL_law_1634 : decode cL_law 1634 = .ok (.iadd, 1) := by decide +kernel
theorem dL_law_1635 : decode cL_law 1635 = .ok (.iaload, 1) := by decide +kernel
theorem dL_law_1636 : decode cL_law 1636 = .ok (.invokevirtual 179, 3) := by decide +kernel
theorem dL_law_1639 : decode cL_law 1639 = .ok (.if_icmp .eq 397, 3) := by decide +kernel
theorem dL_law_1642 : decode cL_law 1642 = .ok (.iconst 0, 1) := by decide +kernel
theorem dL_law_1643 : decode cL_law 1643 = .ok (.ireturn, 1) := by decide +kernel
theorem dL_law_1644 : decode cL_law 1644 = .ok (.aload_n 1, 1) := by decide +kernel
theorem dL_law_1645 : decode cL_law 1645 = .ok (.aload_n 0, 1) := by decide +kernel
theorem dL_law_1646 : decode cL_law 1646 = .ok (.iload_n 3, 1) := by decide +kernel
theorem dL_law_1647 : decode cL_law 1647 = .ok (.iconst 1, 1) := by decide +kernel
theorem dL_law_1648 : decode cL_law 1648 = .ok (.iadd, 1) := by decide +kernel
theorem dL_law_1649 : decode cL_law 1649 = .ok (.iaload, 1) := by decide +kernel
theorem dL_law_1650 : decode cL_law 1650 = .ok (.aload_n 0, 1) := by decide +kernel
theorem dL_law_1651 : decode cL_law 1651 = .ok (.iload_n 3, 1) := by decide +kernel
theorem dL_law_1652 : decode cL_law 1652 = .ok (.iconst 2, 1) := by decide +kernel
theorem dL_law_1653 : decode cL_law 1653 = .ok (.iadd, 1) := by decide +kernel
theorem dL_law_1654 : decode cL_law 1654 = .ok (.iaload, 1) := by decide +kernel
theorem dL_law_1655 : decode cL_law 1655 = .ok (.aload_n 0, 1) := by decide +kernel
theorem dL_law_1656 : decode cL_law 1656 = .ok (.iload_n 3, 1) := by decide +kernel
theorem dL_law_1657 : decode cL_law 1657 = .ok (.iconst 3, 1) := by decide +kernel
theorem dL_law_1658 : decode cL_law 1658 = .ok (.iadd, 1) := by decide +kernel
theorem dL_law_1659 : decode cL_law 1659 = .ok (.iaload, 1) := by decide +kernel
theorem dL_law_1660 : decode cL_law 1660 = .ok (.invokevirtual 180, 3) := by decide +kernel
theorem dL_law_1663 : decode cL_law 1663 = .ok (.aload_n 2, 1) := by decide +kernel
theorem dL_law_1664 : decode cL_law 1664 = .ok (.aload_n 0, 1) := by decide +kernel
theorem dL_law_1665 : decode cL_law 1665 = .ok (.iload_n 3, 1) := by decide +kernel
theorem dL_law_1666 : decode cL_law 1666 = .ok (.iconst 1, 1) := by decide +kernel
theorem dL_law_1667 : decode cL_law 1667 = .ok (.iadd, 1) := by decide +kernel
theorem dL_law_1668 : decode cL_law 1668 = .ok (.iaload, 1) := by decide +kernel
theorem dL_law_1669 : decode cL_law 1669 = .ok (.aload_n 0, 1) := by decide +kernel
theorem dL_law_1670 : decode cL_law 1670 = .ok (.iload_n 3, 1) := by decide +kernel
theorem dL_law_1671 : decode cL_law 1671 = .ok (.iconst 2, 1) := by decide +kernel
theorem dL_law_1672 : decode cL_law 1672 = .ok (.iadd, 1) := by decide +kernel
theorem dL_law_1673 : decode cL_law 1673 = .ok (.iaload, 1) := by decide +kernel
theorem dL_law_1674 : decode cL_law 1674 = .ok (.aload_n 0, 1) := by decide +kernel
theorem dL_law_1675 : decode cL_law 1675 = .ok (.iload_n 3, 1) := by decide +kernel
theorem dL_law_1676 : decode cL_law 1676 = .ok (.iconst 3, 1) := by decide +kernel
theorem dL_law_1677 : decode cL_law 1677 = .ok (.iadd, 1) := by decide +kernel
theorem dL_law_1678 : decode cL_law 1678 = .ok (.iaload, 1) := by decide +kernel
theorem dL_law_1679 : decode cL_law 1679 = .ok (.invokevirtual 183, 3) := by decide +kernel
theorem dL_law_1682 : decode cL_law 1682 = .ok (.if_icmp .eq 354, 3) := by decide +kernel
theorem dL_law_1685 : decode cL_law 1685 = .ok (.iconst 0, 1) := by decide +kernel
theorem dL_law_1686 : decode cL_law 1686 = .ok (.ireturn, 1) := by decide +kernel
theorem dL_law_1687 : decode cL_law 1687 = .ok (.aload_n 1, 1) := by decide +kernel
theorem dL_law_1688 : decode cL_law 1688 = .ok (.aload_n 0, 1) := by decide +kernel
theorem dL_law_1689 : decode cL_law 1689 = .ok (.iload_n 3, 1) := by decide +kernel
theorem dL_law_1690 : decode cL_law 1690 = .ok (.iconst 1, 1) := by decide +kernel
theorem dL_law_1691 : decode cL_law 1691 = .ok (.iadd, 1) := by decide +kernel
theorem dL_law_1692 : decode cL_law 1692 = .ok (.iaload, 1) := by decide +kernel
theorem dL_law_1693 : decode cL_law 1693 = .ok (.aload_n 0, 1) := by decide +kernel
theorem dL_law_1694 : decode cL_law 1694 = .ok (.iload_n 3, 1) := by decide +kernel
theorem dL_law_1695 : decode cL_law 1695 = .ok (.iconst 2, 1) := by decide +kernel
theorem dL_law_1696 : decode cL_law 1696 = .ok (.iadd, 1) := by decide +kernel
theorem dL_law_1697 : decode cL_law 1697 = .ok (.iaload, 1) := by decide +kernel
theorem dL_law_1698 : decode cL_law 1698 = .ok (.invokevirtual 184, 3) := by decide +kernel
theorem dL_law_1701 : decode cL_law 1701 = .ok (.aload_n 2, 1) := by decide +kernel
theorem dL_law_1702 : decode cL_law 1702 = .ok (.aload_n 0, 1) := by decide +kernel
theorem dL_law_1703 : decode cL_law 1703 = .ok (.iload_n 3, 1) := by decide +kernel
theorem dL_law_1704 : decode cL_law 1704 = .ok (.iconst 1, 1) := by decide +kernel
theorem dL_law_1705 : decode cL_law 1705 = .ok (.iadd, 1) := by decide +kernel
theorem dL_law_1706 : decode cL_law 1706 = .ok (.iaload, 1) := by decide +kernel
theorem dL_law_1707 : decode cL_law 1707 = .ok (.aload_n 0, 1) := by decide +kernel
theorem dL_law_1708 : decode cL_law 1708 = .ok (.iload_n 3, 1) := by decide +kernel
theorem dL_law_1709 : decode cL_law 1709 = .ok (.iconst 2, 1) := by decide +kernel
theorem dL_law_1710 : decode cL_law 1710 = .ok (.iadd, 1) := by decide +kernel
theorem dL_law_1711 : decode cL_law 1711 = .ok (.iaload, 1) := by decide +kernel
theorem dL_law_1712 : decode cL_law 1712 = .ok (.invokevirtual 187, 3) := by decide +kernel
theorem dL_law_1715 : decode cL_law 1715 = .ok (.if_icmp .eq 321, 3) := by decide +kernel
theorem dL_law_1718 : decode cL_law 1718 = .ok (.iconst 0, 1) := by decide +kernel
theorem dL_law_1719 : decode cL_law 1719 = .ok (.ireturn, 1) := by decide +kernel
theorem dL_law_1720 : decode cL_law 1720 = .ok (.aload_n 1, 1) := by decide +kernel
theorem dL_law_1721 : decode cL_law 1721 = .ok (.aload_n 0, 1) := by decide +kernel
theorem dL_law_1722 : decode cL_law 1722 = .ok (.iload_n 3, 1) := by decide +kernel
theorem dL_law_1723 : decode cL_law 1723 = .ok (.iconst 1, 1) := by decide +kernel
theorem dL_law_1724 : decode cL_law 1724 = .ok (.iadd, 1) := by decide +kernel
theorem dL_law_1725 : decode cL_law 1725 = .ok (.iaload, 1) := by decide +kernel
theorem dL_law_1726 : decode cL_law 1726 = .ok (.aload_n 0, 1) := by decide +kernel
theorem dL_law_1727 : decode cL_law 1727 = .ok (.iload_n 3, 1) := by decide +kernel
theorem dL_law_1728 : decode cL_law 1728 = .ok (.iconst 2, 1) := by decide +kernel
theorem dL_law_1729 : decode cL_law 1729 = .ok (.iadd, 1) := by decide +kernel
theorem dL_law_1730 : decode cL_law 1730 = .ok (.iaload, 1) := by decide +kernel
theorem dL_law_1731 : decode cL_law 1731 = .ok (.invokevirtual 188, 3) := by decide +kernel
theorem dL_law_1734 : decode cL_law 1734 = .ok (.aload_n 2, 1) := by decide +kernel
theorem dL_law_1735 : decode cL_law 1735 = .ok (.aload_n 0, 1) := by decide +kernel
theorem dL_law_1736 : decode cL_law 1736 = .ok (.iload_n 3, 1) := by decide +kernel
theorem dL_law_1737 : decode cL_law 1737 = .ok (.iconst 1, 1) := by decide +kernel
theorem dL_law_1738 : decode cL_law 1738 = .ok (.iadd, 1) := by decide +kernel
theorem dL_law_1739 : decode cL_law 1739 = .ok (.iaload, 1) := by decide +kernel
theorem dL_law_1740 : decode cL_law 1740 = .ok (.aload_n 0, 1) := by decide +kernel
theorem dL_law_1741 : decode cL_law 1741 = .ok (.iload_n 3, 1) := by decide +kernel
theorem dL_law_1742 : decode cL_law 1742 = .ok (.iconst 2, 1) := by decide +kernel
theorem dL_law_1743 : decode cL_law 1743 = .ok (.iadd, 1) := by decide +kernel
theorem dL_law_1744 : decode cL_law 1744 = .ok (.iaload, 1) := by decide +kernel
theorem dL_law_1745 : decode cL_law 1745 = .ok (.invokevirtual 191, 3) := by decide +kernel
theorem dL_law_1748 : decode cL_law 1748 = .ok (.if_icmp .eq 288, 3) := by decide +kernel
theorem dL_law_1751 : decode cL_law 1751 = .ok (.iconst 0, 1) := by decide +kernel
theorem dL_law_1752 : decode cL_law 1752 = .ok (.ireturn, 1) := by decide +kernel
theorem dL_law_1753 : decode cL_law 1753 = .ok (.aload_n 1, 1) := by decide +kernel
theorem dL_law_1754 : decode cL_law 1754 = .ok (.aload_n 0, 1) := by decide +kernel
theorem dL_law_1755 : decode cL_law 1755 = .ok (.iload_n 3, 1) := by decide +kernel
theorem dL_law_1756 : decode cL_law 1756 = .ok (.iconst 1, 1) := by decide +kernel
theorem dL_law_1757 : decode cL_law 1757 = .ok (.iadd, 1) := by decide +kernel
theorem dL_law_1758 : decode cL_law 1758 = .ok (.iaload, 1) := by decide +kernel
theorem dL_law_1759 : decode cL_law 1759 = .ok (.aload_n 0, 1) := by decide +kernel
theorem dL_law_1760 : decode cL_law 1760 = .ok (.iload_n 3, 1) := by decide +kernel
theorem dL_law_1761 : decode cL_law 1761 = .ok (.iconst 2, 1) := by decide +kernel
theorem dL_law_1762 : decode cL_law 1762 = .ok (.iadd, 1) := by decide +kernel
theorem dL_law_1763 : decode cL_law 1763 = .ok (.iaload, 1) := by decide +kernel
theorem dL_law_1764 : decode cL_law 1764 = .ok (.aload_n 0, 1) := by decide +kernel
theorem dL_law_1765 : decode cL_law 1765 = .ok (.iload_n 3, 1) := by decide +kernel
theorem dL_law_1766 : decode cL_law 1766 = .ok (.iconst 3, 1) := by decide +kernel
theorem dL_law_1767 : decode cL_law 1767 = .ok (.iadd, 1) := by decide +kernel
theorem dL_law_1768 : decode cL_law 1768 = .ok (.iaload, 1) := by decide +kernel
theorem dL_law_1769 : decode cL_law 1769 = .ok (.invokevirtual 192, 3) := by decide +kernel
theorem dL_law_1772 : decode cL_law 1772 = .ok (.aload_n 2, 1) := by decide +kernel
theorem dL_law_1773 : decode cL_law 1773 = .ok (.aload_n 0, 1) := by decide +kernel
theorem dL_law_1774 : decode cL_law 1774 = .ok (.iload_n 3, 1) := by decide +kernel
theorem dL_law_1775 : decode cL_law 1775 = .ok (.iconst 1, 1) := by decide +kernel
theorem dL_law_1776 : decode cL_law 1776 = .ok (.iadd, 1) := by decide +kernel
theorem dL_law_1777 : decode cL_law 1777 = .ok (.iaload, 1) := by decide +kernel
theorem dL_law_1778 : decode cL_law 1778 = .ok (.aload_n 0, 1) := by decide +kernel
theorem dL_law_1779 : decode cL_law 1779 = .ok (.iload_n 3, 1) := by decide +kernel
theorem dL_law_1780 : decode cL_law 1780 = .ok (.iconst 2, 1) := by decide +kernel
theorem dL_law_1781 : decode cL_law 1781 = .ok (.iadd, 1) := by decide +kernel
theorem dL_law_1782 : decode cL_law 1782 = .ok (.iaload, 1) := by decide +kernel
theorem dL_law_1783 : decode cL_law 1783 = .ok (.aload_n 0, 1) := by decide +kernel
theorem dL_law_1784 : decode cL_law 1784 = .ok (.iload_n 3, 1) := by decide +kernel
theorem dL_law_1785 : decode cL_law 1785 = .ok (.iconst 3, 1) := by decide +kernel
theorem dL_law_1786 : decode cL_law 1786 = .ok (.iadd, 1) := by decide +kernel
theorem dL_law_1787 : decode cL_law 1787 = .ok (.iaload, 1) := by decide +kernel
theorem dL_law_1788 : decode cL_law 1788 = .ok (.invokevirtual 195, 3) := by decide +kernel
theorem dL_law_1791 : decode cL_law 1791 = .ok (.if_icmp .eq 245, 3) := by decide +kernel
theorem dL_law_1794 : decode cL_law 1794 = .ok (.iconst 0, 1) := by decide +kernel
theorem dL_law_1795 : decode cL_law 1795 = .ok (.ireturn, 1) := by decide +kernel
theorem dL_law_1796 : decode cL_law 1796 = .ok (.aload_n 1, 1) := by decide +kernel
theorem dL_law_1797 : decode cL_law 1797 = .ok (.aload_n 0, 1) := by decide +kernel
theorem dL_law_1798 : decode cL_law 1798 = .ok (.iload_n 3, 1) := by decide +kernel
theorem dL_law_1799 : decode cL_law 1799 = .ok (.iconst 1, 1) := by decide +kernel
theorem dL_law_1800 : decode cL_law 1800 = .ok (.iadd, 1) := by decide +kernel
theorem dL_law_1801 : decode cL_law 1801 = .ok (.iaload, 1) := by decide +kernel
theorem dL_law_1802 : decode cL_law 1802 = .ok (.aload_n 0, 1) := by decide +kernel
theorem dL_law_1803 : decode cL_law 1803 = .ok (.iload_n 3, 1) := by decide +kernel
theorem dL_law_1804 : decode cL_law 1804 = .ok (.iconst 2, 1) := by decide +kernel
theorem dL_law_1805 : decode cL_law 1805 = .ok (.iadd, 1) := by decide +kernel
theorem dL_law_1806 : decode cL_law 1806 = .ok (.iaload, 1) := by decide +kernel
theorem dL_law_1807 : decode cL_law 1807 = .ok (.invokevirtual 196, 3) := by decide +kernel
theorem dL_law_1810 : decode cL_law 1810 = .ok (.aload_n 2, 1) := by decide +kernel
theorem dL_law_1811 : decode cL_law 1811 = .ok (.aload_n 0, 1) := by decide +kernel
theorem dL_law_1812 : decode cL_law 1812 = .ok (.iload_n 3, 1) := by decide +kernel
theorem dL_law_1813 : decode cL_law 1813 = .ok (.iconst 1, 1) := by decide +kernel
theorem dL_law_1814 : decode cL_law 1814 = .ok (.iadd, 1) := by decide +kernel
theorem dL_law_1815 : decode cL_law 1815 = .ok (.iaload, 1) := by decide +kernel
theorem dL_law_1816 : decode cL_law 1816 = .ok (.aload_n 0, 1) := by decide +kernel
theorem dL_law_1817 : decode cL_law 1817 = .ok (.iload_n 3, 1) := by decide +kernel
theorem dL_law_1818 : decode cL_law 1818 = .ok (.iconst 2, 1) := by decide +kernel
theorem dL_law_1819 : decode cL_law 1819 = .ok (.iadd, 1) := by decide +kernel
theorem dL_law_1820 : decode cL_law 1820 = .ok (.iaload, 1) := by decide +kernel
theorem dL_law_1821 : decode cL_law 1821 = .ok (.invokevirtual 199, 3) := by decide +kernel
theorem dL_law_1824 : decode cL_law 1824 = .ok (.if_icmp .eq 212, 3) := by decide +kernel
theorem dL_law_1827 : decode cL_law 1827 = .ok (.iconst 0, 1) := by decide +kernel
theorem dL_law_1828 : decode cL_law 1828 = .ok (.ireturn, 1) := by decide +kernel
theorem dL_law_1829 : decode cL_law 1829 = .ok (.aload_n 1, 1) := by decide +kernel
theorem dL_law_1830 : decode cL_law 1830 = .ok (.aload_n 0, 1) := by decide +kernel
theorem dL_law_1831 : decode cL_law 1831 = .ok (.iload_n 3, 1) := by decide +kernel
theorem dL_law_1832 : decode cL_law 1832 = .ok (.iconst 1, 1) := by decide +kernel
theorem dL_law_1833 : decode cL_law 1833 = .ok (.iadd, 1) := by decide +kernel
theorem dL_law_1834 : decode cL_law 1834 = .ok (.iaload, 1) := by decide +kernel
theorem dL_law_1835 : decode cL_law 1835 = .ok (.aload_n 0, 1) := by decide +kernel
theorem dL_law_1836 : decode cL_law 1836 = .ok (.iload_n 3, 1) := by decide +kernel
theorem dL_law_1837 : decode cL_law 1837 = .ok (.iconst 2, 1) := by decide +kernel
theorem dL_law_1838 : decode cL_law 1838 = .ok (.iadd, 1) := by decide +kernel
theorem dL_law_1839 : decode cL_law 1839 = .ok (.iaload, 1) := by decide +kernel
theorem dL_law_1840 : decode cL_law 1840 = .ok (.invokevirtual 200, 3) := by decide +kernel
theorem dL_law_1843 : decode cL_law 1843 = .ok (.aload_n 2, 1) := by decide +kernel
theorem dL_law_1844 : decode cL_law 1844 = .ok (.aload_n 0, 1) := by decide +kernel
theorem dL_law_1845 : decode cL_law 1845 = .ok (.iload_n 3, 1) := by decide +kernel
theorem dL_law_1846 : decode cL_law 1846 = .ok (.iconst 1, 1) := by decide +kernel
theorem dL_law_1847 : decode cL_law 1847 = .ok (.iadd, 1) := by decide +kernel
theorem dL_law_1848 : decode cL_law 1848 = .ok (.iaload, 1) := by decide +kernel
theorem dL_law_1849 : decode cL_law 1849 = .ok (.aload_n 0, 1) := by decide +kernel
theorem dL_law_1850 : decode cL_law 1850 = .ok (.iload_n 3, 1) := by decide +kernel
theorem dL_law_1851 : decode cL_law 1851 = .ok (.iconst 2, 1) := by decide +kernel
theorem dL_law_1852 : decode cL_law 1852 = .ok (.iadd, 1) := by decide +kernel
theorem dL_law_1853 : decode cL_law 1853 = .ok (.iaload, 1) := by decide +kernel
theorem dL_law_1854 : decode cL_law 1854 = .ok (.invokevirtual 203, 3) := by decide +kernel
theorem dL_law_1857 : decode cL_law 1857 = .ok (.if_icmp .eq 179, 3) := by decide +kernel
theorem dL_law_1860 : decode cL_law 1860 = .ok (.iconst 0, 1) := by decide +kernel
theorem dL_law_1861 : decode cL_law 1861 = .ok (.ireturn, 1) := by decide +kernel
theorem dL_law_1862 : decode cL_law 1862 = .ok (.aload_n 1, 1) := by decide +kernel
theorem dL_law_1863 : decode cL_law 1863 = .ok (.aload_n 0, 1) := by decide +kernel
theorem dL_law_1864 : decode cL_law 1864 = .ok (.iload_n 3, 1) := by decide +kernel
theorem dL_law_1865 : decode cL_law 1865 = .ok (.iconst 1, 1) := by decide +kernel
theorem dL_law_1866 : decode cL_law 1866 = .ok (.iadd, 1) := by decide +kernel
theorem dL_law_1867 : decode cL_law 1867 = .ok (.iaload, 1) := by decide +kernel
theorem dL_law_1868 : decode cL_law 1868 = .ok (.aload_n 0, 1) := by decide +kernel
theorem dL_law_1869 : decode cL_law 1869 = .ok (.iload_n 3, 1) := by decide +kernel
theorem dL_law_1870 : decode cL_law 1870 = .ok (.iconst 2, 1) := by decide +kernel
theorem dL_law_1871 : decode cL_law 1871 = .ok (.iadd, 1) := by decide +kernel
theorem dL_law_1872 : decode cL_law 1872 = .ok (.iaload, 1) := by decide +kernel
theorem dL_law_1873 : decode cL_law 1873 = .ok (.invokevirtual 204, 3) := by decide +kernel
theorem dL_law_1876 : decode cL_law 1876 = .ok (.aload_n 2, 1) := by decide +kernel
theorem dL_law_1877 : decode cL_law 1877 = .ok (.aload_n 0, 1) := by decide +kernel
theorem dL_law_1878 : decode cL_law 1878 = .ok (.iload_n 3, 1) := by decide +kernel
theorem dL_law_1879 : decode cL_law 1879 = .ok (.iconst 1, 1) := by decide +kernel
theorem dL_law_1880 : decode cL_law 1880 = .ok (.iadd, 1) := by decide +kernel
theorem dL_law_1881 : decode cL_law 1881 = .ok (.iaload, 1) := by decide +kernel
theorem dL_law_1882 : decode cL_law 1882 = .ok (.aload_n 0, 1) := by decide +kernel
theorem dL_law_1883 : decode cL_law 1883 = .ok (.iload_n 3, 1) := by decide +kernel
theorem dL_law_1884 : decode cL_law 1884 = .ok (.iconst 2, 1) := by decide +kernel
theorem dL_law_1885 : decode cL_law 1885 = .ok (.iadd, 1) := by decide +kernel
theorem dL_law_1886 : decode cL_law 1886 = .ok (.iaload, 1) := by decide +kernel
theorem dL_law_1887 : decode cL_law 1887 = .ok (.invokevirtual 207, 3) := by decide +kernel
theorem dL_law_1890 : decode cL_law 1890 = .ok (.if_icmp .eq 146, 3) := by decide +kernel
theorem dL_law_1893 : decode cL_law 1893 = .ok (.iconst 0, 1) := by decide +kernel
theorem dL_law_1894 : decode cL_law 1894 = .ok (.ireturn, 1) := by decide +kernel
theorem dL_law_1895 : decode cL_law 1895 = .ok (.aload_n 1, 1) := by decide +kernel
theorem dL_law_1896 : decode cL_law 1896 = .ok (.aload_n 0, 1) := by decide +kernel
theorem dL_law_1897 : decode cL_law 1897 = .ok (.iload_n 3, 1) := by decide +kernel
theorem dL_law_1898 : decode cL_law 1898 = .ok (.iconst 1, 1) := by decide +kernel
theorem dL_law_1899 : decode cL_law 1899 = .ok (.iadd, 1) := by decide +kernel
theorem dL_law_1900 : decode cL_law 1900 = .ok (.iaload, 1) := by decide +kernel
theorem dL_law_1901 : decode cL_law 1901 = .ok (.invokevirtual 208, 3) := by decide +kernel
theorem dL_law_1904 : decode cL_law 1904 = .ok (.aload_n 2, 1) := by decide +kernel
theorem dL_law_1905 : decode cL_law 1905 = .ok (.aload_n 0, 1) := by decide +kernel
theorem dL_law_1906 : decode cL_law 1906 = .ok (.iload_n 3, 1) := by decide +kernel
theorem dL_law_1907 : decode cL_law 1907 = .ok (.iconst 1, 1) := by decide +kernel
theorem dL_law_1908 : decode cL_law 1908 = .ok (.iadd, 1) := by decide +kernel
theorem dL_law_1909 : decode cL_law 1909 = .ok (.iaload, 1) := by decide +kernel
theorem dL_law_1910 : decode cL_law 1910 = .ok (.invokevirtual 211, 3) := by decide +kernel
theorem dL_law_1913 : decode cL_law 1913 = .ok (.if_icmp .eq 123, 3) := by decide +kernel
theorem dL_law_1916 : decode cL_law 1916 = .ok (.iconst 0, 1) := by decide +kernel
theorem dL_law_1917 : decode cL_law 1917 = .ok (.ireturn, 1) := by decide +kernel
theorem dL_law_1918 : decode cL_law 1918 = .ok (.aload_n 1, 1) := by decide +kernel
theorem dL_law_1919 : decode cL_law 1919 = .ok (.aload_n 0, 1) := by decide +kernel
theorem dL_law_1920 : decode cL_law 1920 = .ok (.iload_n 3, 1) := by decide +kernel
theorem dL_law_1921 : decode cL_law 1921 = .ok (.iconst 1, 1) := by decide +kernel
theorem dL_law_1922 : decode cL_law 1922 = .ok (.iadd, 1) := by decide +kernel
theorem dL_law_1923 : decode cL_law 1923 = .ok (.iaload, 1) := by decide +kernel
theorem dL_law_1924 : decode cL_law 1924 = .ok (.invokevirtual 212, 3) := by decide +kernel
theorem dL_law_1927 : decode cL_law 1927 = .ok (.aload_n 2, 1) := by decide +kernel
theorem dL_law_1928 : decode cL_law 1928 = .ok (.aload_n 0, 1) := by decide +kernel
theorem dL_law_1929 : decode cL_law 1929 = .ok (.iload_n 3, 1) := by decide +kernel
theorem dL_law_1930 : decode cL_law 1930 = .ok (.iconst 1, 1) := by decide +kernel
theorem dL_law_1931 : decode cL_law 1931 = .ok (.iadd, 1) := by decide +kernel
theorem dL_law_1932 : decode cL_law 1932 = .ok (.iaload, 1) := by decide +kernel
theorem dL_law_1933 : decode cL_law 1933 = .ok (.invokevirtual 215, 3) := by decide +kernel
theorem dL_law_1936 : decode cL_law 1936 = .ok (.if_icmp .eq 100, 3) := by decide +kernel
theorem dL_law_1939 : decode cL_law 1939 = .ok (.iconst 0, 1) := by decide +kernel
theorem dL_law_1940 : decode cL_law 1940 = .ok (.ireturn, 1) := by decide +kernel
theorem dL_law_1941 : decode cL_law 1941 = .ok (.aload_n 1, 1) := by decide +kernel
theorem dL_law_1942 : decode cL_law 1942 = .ok (.aload_n 0, 1) := by decide +kernel
theorem dL_law_1943 : decode cL_law 1943 = .ok (.iload_n 3, 1) := by decide +kernel
theorem dL_law_1944 : decode cL_law 1944 = .ok (.iconst 1, 1) := by decide +kernel
theorem dL_law_1945 : decode cL_law 1945 = .ok (.iadd, 1) := by decide +kernel
theorem dL_law_1946 : decode cL_law 1946 = .ok (.iaload, 1) := by decide +kernel
theorem dL_law_1947 : decode cL_law 1947 = .ok (.invokevirtual 216, 3) := by decide +kernel
theorem dL_law_1950 : decode cL_law 1950 = .ok (.aload_n 2, 1) := by decide +kernel
theorem dL_law_1951 : decode cL_law 1951 = .ok (.aload_n 0, 1) := by decide +kernel
theorem dL_law_1952 : decode cL_law 1952 = .ok (.iload_n 3, 1) := by decide +kernel
theorem dL_law_1953 : decode cL_law 1953 = .ok (.iconst 1, 1) := by decide +kernel
theorem dL_law_1954 : decode cL_law 1954 = .ok (.iadd, 1) := by decide +kernel
theorem dL_law_1955 : decode cL_law 1955 = .ok (.iaload, 1) := by decide +kernel
theorem dL_law_1956 : decode cL_law 1956 = .ok (.invokevirtual 219, 3) := by decide +kernel
theorem dL_law_1959 : decode cL_law 1959 = .ok (.if_icmp .eq 77, 3) := by decide +kernel
theorem dL_law_1962 : decode cL_law 1962 = .ok (.iconst 0, 1) := by decide +kernel
theorem dL_law_1963 : decode cL_law 1963 = .ok (.ireturn, 1) := by decide +kernel
theorem dL_law_1964 : decode cL_law 1964 = .ok (.aload_n 1, 1) := by decide +kernel
theorem dL_law_1965 : decode cL_law 1965 = .ok (.aload_n 0, 1) := by decide +kernel
theorem dL_law_1966 : decode cL_law 1966 = .ok (.iload_n 3, 1) := by decide +kernel
theorem dL_law_1967 : decode cL_law 1967 = .ok (.iconst 1, 1) := by decide +kernel
theorem dL_law_1968 : decode cL_law 1968 = .ok (.iadd, 1) := by decide +kernel
theorem dL_law_1969 : decode cL_law 1969 = .ok (.iaload, 1) := by decide +kernel
theorem dL_law_1970 : decode cL_law 1970 = .ok (.invokevirtual 220, 3) := by decide +kernel
theorem dL_law_1973 : decode cL_law 1973 = .ok (.aload_n 2, 1) := by decide +kernel
theorem dL_law_1974 : decode cL_law 1974 = .ok (.aload_n 0, 1) := by decide +kernel
theorem dL_law_1975 : decode cL_law 1975 = .ok (.iload_n 3, 1) := by decide +kernel
theorem dL_law_1976 : decode cL_law 1976 = .ok (.iconst 1, 1) := by decide +kernel
theorem dL_law_1977 : decode cL_law 1977 = .ok (.iadd, 1) := by decide +kernel
theorem dL_law_1978 : decode cL_law 1978 = .ok (.iaload, 1) := by decide +kernel
theorem dL_law_1979 : decode cL_law 1979 = .ok (.invokevirtual 223, 3) := by decide +kernel
theorem dL_law_1982 : decode cL_law 1982 = .ok (.if_icmp .eq 54, 3) := by decide +kernel
theorem dL_law_1985 : decode cL_law 1985 = .ok (.iconst 0, 1) := by decide +kernel
theorem dL_law_1986 : decode cL_law 1986 = .ok (.ireturn, 1) := by decide +kernel
theorem dL_law_1987 : decode cL_law 1987 = .ok (.aload_n 1, 1) := by decide +kernel
theorem dL_law_1988 : decode cL_law 1988 = .ok (.invokevirtual 224, 3) := by decide +kernel
theorem dL_law_1991 : decode cL_law 1991 = .ok (.aload_n 2, 1) := by decide +kernel
theorem dL_law_1992 : decode cL_law 1992 = .ok (.invokevirtual 227, 3) := by decide +kernel
theorem dL_law_1995 : decode cL_law 1995 = .ok (.if_icmp .eq 41, 3) := by decide +kernel
theorem dL_law_1998 : decode cL_law 1998 = .ok (.iconst 0, 1) := by decide +kernel
theorem dL_law_1999 : decode cL_law 1999 = .ok (.ireturn, 1) := by decide +kernel
theorem dL_law_2000 : decode cL_law 2000 = .ok (.aload_n 1, 1) := by decide +kernel
theorem dL_law_2001 : decode cL_law 2001 = .ok (.invokevirtual 228, 3) := by decide +kernel
theorem dL_law_2004 : decode cL_law 2004 = .ok (.aload_n 2, 1) := by decide +kernel
theorem dL_law_2005 : decode cL_law 2005 = .ok (.invokevirtual 231, 3) := by decide +kernel
theorem dL_law_2008 : decode cL_law 2008 = .ok (.if_icmp .eq 28, 3) := by decide +kernel
theorem dL_law_2011 : decode cL_law 2011 = .ok (.iconst 0, 1) := by decide +kernel
theorem dL_law_2012 : decode cL_law 2012 = .ok (.ireturn, 1) := by decide +kernel
theorem dL_law_2013 : decode cL_law 2013 = .ok (.aload_n 1, 1) := by decide +kernel
theorem dL_law_2014 : decode cL_law 2014 = .ok (.aload_n 0, 1) := by decide +kernel
theorem dL_law_2015 : decode cL_law 2015 = .ok (.iload_n 3, 1) := by decide +kernel
theorem dL_law_2016 : decode cL_law 2016 = .ok (.iconst 1, 1) := by decide +kernel
theorem dL_law_2017 : decode cL_law 2017 = .ok (.iadd, 1) := by decide +kernel
theorem dL_law_2018 : decode cL_law 2018 = .ok (.iaload, 1) := by decide +kernel
theorem dL_law_2019 : decode cL_law 2019 = .ok (.invokevirtual 232, 3) := by decide +kernel
theorem dL_law_2022 : decode cL_law 2022 = .ok (.aload_n 2, 1) := by decide +kernel
theorem dL_law_2023 : decode cL_law 2023 = .ok (.aload_n 0, 1) := by decide +kernel
theorem dL_law_2024 : decode cL_law 2024 = .ok (.iload_n 3, 1) := by decide +kernel
theorem dL_law_2025 : decode cL_law 2025 = .ok (.iconst 1, 1) := by decide +kernel
theorem dL_law_2026 : decode cL_law 2026 = .ok (.iadd, 1) := by decide +kernel
theorem dL_law_2027 : decode cL_law 2027 = .ok (.iaload, 1) := by decide +kernel
theorem dL_law_2028 : decode cL_law 2028 = .ok (.invokevirtual 235, 3) := by decide +kernel
theorem dL_law_2031 : decode cL_law 2031 = .ok (.if_icmp .eq 5, 3) := by decide +kernel
theorem dL_law_2034 : decode cL_law 2034 = .ok (.iconst 0, 1) := by decide +kernel
theorem dL_law_2035 : decode cL_law 2035 = .ok (.ireturn, 1) := by decide +kernel
theorem dL_law_2036 : decode cL_law 2036 = .ok (.iinc 3 6, 3) := by decide +kernel
theorem dL_law_2039 : decode cL_law 2039 = .ok (.goto (-2021), 3) := by decide +kernel
theorem dL_law_2042 : decode cL_law 2042 = .ok (.iconst 1, 1) := by decide +kernel
theorem dL_law_2043 : decode cL_law 2043 = .ok (.ireturn, 1) := by decide +kernel
