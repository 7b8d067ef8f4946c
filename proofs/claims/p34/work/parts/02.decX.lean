theorem dX0_init_0 : decode cX0_init 0 = .ok (.aload_n 0, 1) := by decide +kernel
theorem dX0_init_1 : decode cX0_init 1 = .ok (.invokespecial 3, 3) := by decide +kernel
theorem dX0_init_4 : decode cX0_init 4 = .ok (.aload_n 0, 1) := by decide +kernel
theorem dX0_init_5 : decode cX0_init 5 = .ok (.bipush 100, 2) := by decide +kernel
theorem dX0_init_7 : decode cX0_init 7 = .ok (.newarray .long, 2) := by decide +kernel
theorem dX0_init_9 : decode cX0_init 9 = .ok (.putfield 9, 3) := by decide +kernel
theorem dX0_init_12 : decode cX0_init 12 = .ok (.aload_n 0, 1) := by decide +kernel
theorem dX0_init_13 : decode cX0_init 13 = .ok (.sipush 1024, 3) := by decide +kernel
theorem dX0_init_16 : decode cX0_init 16 = .ok (.newarray .long, 2) := by decide +kernel
theorem dX0_init_18 : decode cX0_init 18 = .ok (.putfield 15, 3) := by decide +kernel
theorem dX0_init_21 : decode cX0_init 21 = .ok (.return_, 1) := by decide +kernel
theorem dX0_find_0 : decode cX0_find 0 = .ok (.aload_n 0, 1) := by decide +kernel
theorem dX0_find_1 : decode cX0_find 1 = .ok (.aload_n 1, 1) := by decide +kernel
theorem dX0_find_2 : decode cX0_find 2 = .ok (.iload_n 2, 1) := by decide +kernel
theorem dX0_find_3 : decode cX0_find 3 = .ok (.aload_n 3, 1) := by decide +kernel
theorem dX0_find_4 : decode cX0_find 4 = .ok (.invokevirtual 18, 3) := by decide +kernel
theorem dX0_find_7 : decode cX0_find 7 = .ok (.ifCond .ne 5, 3) := by decide +kernel
theorem dX0_find_10 : decode cX0_find 10 = .ok (.iconst 0, 1) := by decide +kernel
theorem dX0_find_11 : decode cX0_find 11 = .ok (.ireturn, 1) := by decide +kernel
theorem dX0_find_12 : decode cX0_find 12 = .ok (.iconst 0, 1) := by decide +kernel
theorem dX0_find_13 : decode cX0_find 13 = .ok (.istore 4, 2) := by decide +kernel
theorem dX0_find_15 : decode cX0_find 15 = .ok (.iload 4, 2) := by decide +kernel
theorem dX0_find_17 : decode cX0_find 17 = .ok (.aload_n 1, 1) := by decide +kernel
theorem dX0_find_18 : decode cX0_find 18 = .ok (.getfield 22, 3) := by decide +kernel
theorem dX0_find_21 : decode cX0_find 21 = .ok (.if_icmp .ge 15, 3) := by decide +kernel
theorem dX0_find_24 : decode cX0_find 24 = .ok (.aload_n 0, 1) := by decide +kernel
theorem dX0_find_25 : decode cX0_find 25 = .ok (.iload 4, 2) := by decide +kernel
theorem dX0_find_27 : decode cX0_find 27 = .ok (.invokevirtual 28, 3) := by decide +kernel
theorem dX0_find_30 : decode cX0_find 30 = .ok (.iinc 4 1, 3) := by decide +kernel
theorem dX0_find_33 : decode cX0_find 33 = .ok (.goto (-18), 3) := by decide +kernel
theorem dX0_find_36 : decode cX0_find 36 = .ok (.aload_n 0, 1) := by decide +kernel
theorem dX0_find_37 : decode cX0_find 37 = .ok (.getfield 15, 3) := by decide +kernel
theorem dX0_find_40 : decode cX0_find 40 = .ok (.iconst 1, 1) := by decide +kernel
theorem dX0_find_41 : decode cX0_find 41 = .ok (.aload_n 1, 1) := by decide +kernel
theorem dX0_find_42 : decode cX0_find 42 = .ok (.getfield 22, 3) := by decide +kernel
theorem dX0_find_45 : decode cX0_find 45 = .ok (.ishl, 1) := by decide +kernel
theorem dX0_find_46 : decode cX0_find 46 = .ok (.iconst 1, 1) := by decide +kernel
theorem dX0_find_47 : decode cX0_find 47 = .ok (.isub, 1) := by decide +kernel
theorem dX0_find_48 : decode cX0_find 48 = .ok (.laload, 1) := by decide +kernel
theorem dX0_find_49 : decode cX0_find 49 = .ok (.lstore 4, 2) := by decide +kernel
theorem dX0_find_51 : decode cX0_find 51 = .ok (.lload 4, 2) := by decide +kernel
theorem dX0_find_53 : decode cX0_find 53 = .ok (.lneg, 1) := by decide +kernel
theorem dX0_find_54 : decode cX0_find 54 = .ok (.ldc2_w 32, 3) := by decide +kernel
theorem dX0_find_57 : decode cX0_find 57 = .ok (.land, 1) := by decide +kernel
theorem dX0_find_58 : decode cX0_find 58 = .ok (.l2i, 1) := by decide +kernel
theorem dX0_find_59 : decode cX0_find 59 = .ok (.ireturn, 1) := by decide +kernel
theorem dX0_rankPairs_0 : decode cX0_rankPairs 0 = .ok (.iconst 0, 1) := by decide +kernel
theorem dX0_rankPairs_1 : decode cX0_rankPairs 1 = .ok (.istore 4, 2) := by decide +kernel
theorem dX0_rankPairs_3 : decode cX0_rankPairs 3 = .ok (.iconst 0, 1) := by decide +kernel
theorem dX0_rankPairs_4 : decode cX0_rankPairs 4 = .ok (.istore 5, 2) := by decide +kernel
theorem dX0_rankPairs_6 : decode cX0_rankPairs 6 = .ok (.iload 5, 2) := by decide +kernel
theorem dX0_rankPairs_8 : decode cX0_rankPairs 8 = .ok (.aload_n 0, 1) := by decide +kernel
theorem dX0_rankPairs_9 : decode cX0_rankPairs 9 = .ok (.getfield 9, 3) := by decide +kernel
theorem dX0_rankPairs_12 : decode cX0_rankPairs 12 = .ok (.arraylength, 1) := by decide +kernel
theorem dX0_rankPairs_13 : decode cX0_rankPairs 13 = .ok (.if_icmp .ge 17, 3) := by decide +kernel
theorem dX0_rankPairs_16 : decode cX0_rankPairs 16 = .ok (.aload_n 0, 1) := by decide +kernel
theorem dX0_rankPairs_17 : decode cX0_rankPairs 17 = .ok (.getfield 9, 3) := by decide +kernel
theorem dX0_rankPairs_20 : decode cX0_rankPairs 20 = .ok (.iload 5, 2) := by decide +kernel
theorem dX0_rankPairs_22 : decode cX0_rankPairs 22 = .ok (.lconst 0, 1) := by decide +kernel
theorem dX0_rankPairs_23 : decode cX0_rankPairs 23 = .ok (.lastore, 1) := by decide +kernel
theorem dX0_rankPairs_24 : decode cX0_rankPairs 24 = .ok (.iinc 5 1, 3) := by decide +kernel
theorem dX0_rankPairs_27 : decode cX0_rankPairs 27 = .ok (.goto (-21), 3) := by decide +kernel
theorem dX0_rankPairs_30 : decode cX0_rankPairs 30 = .ok (.iconst 0, 1) := by decide +kernel
theorem dX0_rankPairs_31 : decode cX0_rankPairs 31 = .ok (.istore 5, 2) := by decide +kernel
theorem dX0_rankPairs_33 : decode cX0_rankPairs 33 = .ok (.iload 5, 2) := by decide +kernel
theorem dX0_rankPairs_35 : decode cX0_rankPairs 35 = .ok (.aload_n 1, 1) := by decide +kernel
theorem dX0_rankPairs_36 : decode cX0_rankPairs 36 = .ok (.getfield 34, 3) := by decide +kernel
theorem dX0_rankPairs_39 : decode cX0_rankPairs 39 = .ok (.if_icmp .ge 89, 3) := by decide +kernel
theorem dX0_rankPairs_42 : decode cX0_rankPairs 42 = .ok (.iload_n 2, 1) := by decide +kernel
theorem dX0_rankPairs_43 : decode cX0_rankPairs 43 = .ok (.iload 5, 2) := by decide +kernel
theorem dX0_rankPairs_45 : decode cX0_rankPairs 45 = .ok (.invokestatic 37, 3) := by decide +kernel
theorem dX0_rankPairs_48 : decode cX0_rankPairs 48 = .ok (.ifCond .eq 13, 3) := by decide +kernel
theorem dX0_rankPairs_51 : decode cX0_rankPairs 51 = .ok (.aload_n 1, 1) := by decide +kernel
theorem dX0_rankPairs_52 : decode cX0_rankPairs 52 = .ok (.iload 5, 2) := by decide +kernel
theorem dX0_rankPairs_54 : decode cX0_rankPairs 54 = .ok (.aload_n 3, 1) := by decide +kernel
theorem dX0_rankPairs_55 : decode cX0_rankPairs 55 = .ok (.invokevirtual 41, 3) := by decide +kernel
theorem dX0_rankPairs_58 : decode cX0_rankPairs 58 = .ok (.goto 4, 3) := by decide +kernel
theorem dX0_rankPairs_61 : decode cX0_rankPairs 61 = .ok (.iconst 0, 1) := by decide +kernel
theorem dX0_rankPairs_62 : decode cX0_rankPairs 62 = .ok (.istore 6, 2) := by decide +kernel
theorem dX0_rankPairs_64 : decode cX0_rankPairs 64 = .ok (.iload 6, 2) := by decide +kernel
theorem dX0_rankPairs_66 : decode cX0_rankPairs 66 = .ok (.ifCond .le 56, 3) := by decide +kernel
theorem dX0_rankPairs_69 : decode cX0_rankPairs 69 = .ok (.aload_n 1, 1) := by decide +kernel
theorem dX0_rankPairs_70 : decode cX0_rankPairs 70 = .ok (.getfield 45, 3) := by decide +kernel
theorem dX0_rankPairs_73 : decode cX0_rankPairs 73 = .ok (.iload 5, 2) := by decide +kernel
theorem dX0_rankPairs_75 : decode cX0_rankPairs 75 = .ok (.iaload, 1) := by decide +kernel
theorem dX0_rankPairs_76 : decode cX0_rankPairs 76 = .ok (.aload_n 1, 1) := by decide +kernel
theorem dX0_rankPairs_77 : decode cX0_rankPairs 77 = .ok (.getfield 49, 3) := by decide +kernel
theorem dX0_rankPairs_80 : decode cX0_rankPairs 80 = .ok (.iload 5, 2) := by decide +kernel
theorem dX0_rankPairs_82 : decode cX0_rankPairs 82 = .ok (.iaload, 1) := by decide +kernel
theorem dX0_rankPairs_83 : decode cX0_rankPairs 83 = .ok (.invokestatic 52, 3) := by decide +kernel
theorem dX0_rankPairs_86 : decode cX0_rankPairs 86 = .ok (.istore 7, 2) := by decide +kernel
theorem dX0_rankPairs_88 : decode cX0_rankPairs 88 = .ok (.aload_n 0, 1) := by decide +kernel
theorem dX0_rankPairs_89 : decode cX0_rankPairs 89 = .ok (.getfield 9, 3) := by decide +kernel
theorem dX0_rankPairs_92 : decode cX0_rankPairs 92 = .ok (.iload 7, 2) := by decide +kernel
theorem dX0_rankPairs_94 : decode cX0_rankPairs 94 = .ok (.aload_n 0, 1) := by decide +kernel
theorem dX0_rankPairs_95 : decode cX0_rankPairs 95 = .ok (.getfield 9, 3) := by decide +kernel
theorem dX0_rankPairs_98 : decode cX0_rankPairs 98 = .ok (.iload 7, 2) := by decide +kernel
theorem dX0_rankPairs_100 : decode cX0_rankPairs 100 = .ok (.laload, 1) := by decide +kernel
theorem dX0_rankPairs_101 : decode cX0_rankPairs 101 = .ok (.iload 6, 2) := by decide +kernel
theorem dX0_rankPairs_103 : decode cX0_rankPairs 103 = .ok (.aload_n 1, 1) := by decide +kernel
theorem dX0_rankPairs_104 : decode cX0_rankPairs 104 = .ok (.getfield 56, 3) := by decide +kernel
theorem dX0_rankPairs_107 : decode cX0_rankPairs 107 = .ok (.iload 5, 2) := by decide +kernel
theorem dX0_rankPairs_109 : decode cX0_rankPairs 109 = .ok (.iaload, 1) := by decide +kernel
theorem dX0_rankPairs_110 : decode cX0_rankPairs 110 = .ok (.iload 5, 2) := by decide +kernel
theorem dX0_rankPairs_112 : decode cX0_rankPairs 112 = .ok (.invokestatic 59, 3) := by decide +kernel
theorem dX0_rankPairs_115 : decode cX0_rankPairs 115 = .ok (.invokestatic 63, 3) := by decide +kernel
theorem dX0_rankPairs_118 : decode cX0_rankPairs 118 = .ok (.lastore, 1) := by decide +kernel
theorem dX0_rankPairs_119 : decode cX0_rankPairs 119 = .ok (.iconst 1, 1) := by decide +kernel
theorem dX0_rankPairs_120 : decode cX0_rankPairs 120 = .ok (.istore 4, 2) := by decide +kernel
theorem dX0_rankPairs_122 : decode cX0_rankPairs 122 = .ok (.iinc 5 1, 3) := by decide +kernel
theorem dX0_rankPairs_125 : decode cX0_rankPairs 125 = .ok (.goto (-92), 3) := by decide +kernel
theorem dX0_rankPairs_128 : decode cX0_rankPairs 128 = .ok (.iload 4, 2) := by decide +kernel
theorem dX0_rankPairs_130 : decode cX0_rankPairs 130 = .ok (.ireturn, 1) := by decide +kernel
theorem dX0_pairOf_0 : decode cX0_pairOf 0 = .ok (.iload_n 0, 1) := by decide +kernel
theorem dX0_pairOf_1 : decode cX0_pairOf 1 = .ok (.iload_n 1, 1) := by decide +kernel
theorem dX0_pairOf_2 : decode cX0_pairOf 2 = .ok (.invokestatic 69, 3) := by decide +kernel
theorem dX0_pairOf_5 : decode cX0_pairOf 5 = .ok (.bipush 10, 2) := by decide +kernel
theorem dX0_pairOf_7 : decode cX0_pairOf 7 = .ok (.imul, 1) := by decide +kernel
theorem dX0_pairOf_8 : decode cX0_pairOf 8 = .ok (.iload_n 0, 1) := by decide +kernel
theorem dX0_pairOf_9 : decode cX0_pairOf 9 = .ok (.iload_n 1, 1) := by decide +kernel
theorem dX0_pairOf_10 : decode cX0_pairOf 10 = .ok (.invokestatic 71, 3) := by decide +kernel
theorem dX0_pairOf_13 : decode cX0_pairOf 13 = .ok (.iadd, 1) := by decide +kernel
theorem dX0_pairOf_14 : decode cX0_pairOf 14 = .ok (.ireturn, 1) := by decide +kernel
theorem dX0_worth_0 : decode cX0_worth 0 = .ok (.iload_n 0, 1) := by decide +kernel
theorem dX0_worth_1 : decode cX0_worth 1 = .ok (.i2l, 1) := by decide +kernel
theorem dX0_worth_2 : decode cX0_worth 2 = .ok (.bipush 40, 2) := by decide +kernel
theorem dX0_worth_4 : decode cX0_worth 4 = .ok (.lshl, 1) := by decide +kernel
theorem dX0_worth_5 : decode cX0_worth 5 = .ok (.iload_n 1, 1) := by decide +kernel
theorem dX0_worth_6 : decode cX0_worth 6 = .ok (.i2l, 1) := by decide +kernel
theorem dX0_worth_7 : decode cX0_worth 7 = .ok (.bipush 24, 2) := by decide +kernel
theorem dX0_worth_9 : decode cX0_worth 9 = .ok (.lshl, 1) := by decide +kernel
theorem dX0_worth_10 : decode cX0_worth 10 = .ok (.lsub, 1) := by decide +kernel
theorem dX0_worth_11 : decode cX0_worth 11 = .ok (.lconst 1, 1) := by decide +kernel
theorem dX0_worth_12 : decode cX0_worth 12 = .ok (.iload_n 2, 1) := by decide +kernel
theorem dX0_worth_13 : decode cX0_worth 13 = .ok (.lshl, 1) := by decide +kernel
theorem dX0_worth_14 : decode cX0_worth 14 = .ok (.lsub, 1) := by decide +kernel
theorem dX0_worth_15 : decode cX0_worth 15 = .ok (.lreturn, 1) := by decide +kernel
theorem dX0_admit_0 : decode cX0_admit 0 = .ok (.iconst 1, 1) := by decide +kernel
theorem dX0_admit_1 : decode cX0_admit 1 = .ok (.iload_n 1, 1) := by decide +kernel
theorem dX0_admit_2 : decode cX0_admit 2 = .ok (.ishl, 1) := by decide +kernel
theorem dX0_admit_3 : decode cX0_admit 3 = .ok (.istore_n 2, 1) := by decide +kernel
theorem dX0_admit_4 : decode cX0_admit 4 = .ok (.iconst 0, 1) := by decide +kernel
theorem dX0_admit_5 : decode cX0_admit 5 = .ok (.istore_n 3, 1) := by decide +kernel
theorem dX0_admit_6 : decode cX0_admit 6 = .ok (.iload_n 3, 1) := by decide +kernel
theorem dX0_admit_7 : decode cX0_admit 7 = .ok (.iload_n 2, 1) := by decide +kernel
theorem dX0_admit_8 : decode cX0_admit 8 = .ok (.if_icmp .ge 23, 3) := by decide +kernel
theorem dX0_admit_11 : decode cX0_admit 11 = .ok (.aload_n 0, 1) := by decide +kernel
theorem dX0_admit_12 : decode cX0_admit 12 = .ok (.getfield 15, 3) := by decide +kernel
theorem dX0_admit_15 : decode cX0_admit 15 = .ok (.iload_n 2, 1) := by decide +kernel
theorem dX0_admit_16 : decode cX0_admit 16 = .ok (.iload_n 3, 1) := by decide +kernel
theorem dX0_admit_17 : decode cX0_admit 17 = .ok (.iadd, 1) := by decide +kernel
theorem dX0_admit_18 : decode cX0_admit 18 = .ok (.aload_n 0, 1) := by decide +kernel
theorem dX0_admit_19 : decode cX0_admit 19 = .ok (.getfield 15, 3) := by decide +kernel
theorem dX0_admit_22 : decode cX0_admit 22 = .ok (.iload_n 3, 1) := by decide +kernel
theorem dX0_admit_23 : decode cX0_admit 23 = .ok (.laload, 1) := by decide +kernel
theorem dX0_admit_24 : decode cX0_admit 24 = .ok (.lastore, 1) := by decide +kernel
theorem dX0_admit_25 : decode cX0_admit 25 = .ok (.iinc 3 1, 3) := by decide +kernel
theorem dX0_admit_28 : decode cX0_admit 28 = .ok (.goto (-22), 3) := by decide +kernel
theorem dX0_admit_31 : decode cX0_admit 31 = .ok (.iconst 0, 1) := by decide +kernel
theorem dX0_admit_32 : decode cX0_admit 32 = .ok (.istore_n 3, 1) := by decide +kernel
theorem dX0_admit_33 : decode cX0_admit 33 = .ok (.iload_n 3, 1) := by decide +kernel
theorem dX0_admit_34 : decode cX0_admit 34 = .ok (.iload_n 1, 1) := by decide +kernel
theorem dX0_admit_35 : decode cX0_admit 35 = .ok (.if_icmp .ge 36, 3) := by decide +kernel
theorem dX0_admit_38 : decode cX0_admit 38 = .ok (.aload_n 0, 1) := by decide +kernel
theorem dX0_admit_39 : decode cX0_admit 39 = .ok (.getfield 9, 3) := by decide +kernel
theorem dX0_admit_42 : decode cX0_admit 42 = .ok (.iload_n 1, 1) := by decide +kernel
theorem dX0_admit_43 : decode cX0_admit 43 = .ok (.iload_n 3, 1) := by decide +kernel
theorem dX0_admit_44 : decode cX0_admit 44 = .ok (.invokestatic 52, 3) := by decide +kernel
theorem dX0_admit_47 : decode cX0_admit 47 = .ok (.laload, 1) := by decide +kernel
theorem dX0_admit_48 : decode cX0_admit 48 = .ok (.lstore 4, 2) := by decide +kernel
theorem dX0_admit_50 : decode cX0_admit 50 = .ok (.lload 4, 2) := by decide +kernel
theorem dX0_admit_52 : decode cX0_admit 52 = .ok (.lconst 0, 1) := by decide +kernel
theorem dX0_admit_53 : decode cX0_admit 53 = .ok (.lcmp, 1) := by decide +kernel
theorem dX0_admit_54 : decode cX0_admit 54 = .ok (.ifCond .le 11, 3) := by decide +kernel
theorem dX0_admit_57 : decode cX0_admit 57 = .ok (.aload_n 0, 1) := by decide +kernel
theorem dX0_admit_58 : decode cX0_admit 58 = .ok (.iload_n 2, 1) := by decide +kernel
theorem dX0_admit_59 : decode cX0_admit 59 = .ok (.iload_n 3, 1) := by decide +kernel
theorem dX0_admit_60 : decode cX0_admit 60 = .ok (.lload 4, 2) := by decide +kernel
theorem dX0_admit_62 : decode cX0_admit 62 = .ok (.invokevirtual 74, 3) := by decide +kernel
theorem dX0_admit_65 : decode cX0_admit 65 = .ok (.iinc 3 1, 3) := by decide +kernel
theorem dX0_admit_68 : decode cX0_admit 68 = .ok (.goto (-35), 3) := by decide +kernel
theorem dX0_admit_71 : decode cX0_admit 71 = .ok (.return_, 1) := by decide +kernel
theorem dX0_admitWith_0 : decode cX0_admitWith 0 = .ok (.iconst 0, 1) := by decide +kernel
theorem dX0_admitWith_1 : decode cX0_admitWith 1 = .ok (.istore 5, 2) := by decide +kernel
theorem dX0_admitWith_3 : decode cX0_admitWith 3 = .ok (.iload 5, 2) := by decide +kernel
theorem dX0_admitWith_5 : decode cX0_admitWith 5 = .ok (.iload_n 1, 1) := by decide +kernel
theorem dX0_admitWith_6 : decode cX0_admitWith 6 = .ok (.if_icmp .ge 58, 3) := by decide +kernel
theorem dX0_admitWith_9 : decode cX0_admitWith 9 = .ok (.iload 5, 2) := by decide +kernel
theorem dX0_admitWith_11 : decode cX0_admitWith 11 = .ok (.iload_n 2, 1) := by decide +kernel
theorem dX0_admitWith_12 : decode cX0_admitWith 12 = .ok (.invokestatic 37, 3) := by decide +kernel
theorem dX0_admitWith_15 : decode cX0_admitWith 15 = .ok (.ifCond .eq 43, 3) := by decide +kernel
theorem dX0_admitWith_18 : decode cX0_admitWith 18 = .ok (.lload_n 3, 1) := by decide +kernel
theorem dX0_admitWith_19 : decode cX0_admitWith 19 = .ok (.aload_n 0, 1) := by decide +kernel
theorem dX0_admitWith_20 : decode cX0_admitWith 20 = .ok (.getfield 15, 3) := by decide +kernel
theorem dX0_admitWith_23 : decode cX0_admitWith 23 = .ok (.iload 5, 2) := by decide +kernel
theorem dX0_admitWith_25 : decode cX0_admitWith 25 = .ok (.iconst 1, 1) := by decide +kernel
theorem dX0_admitWith_26 : decode cX0_admitWith 26 = .ok (.iload_n 2, 1) := by decide +kernel
theorem dX0_admitWith_27 : decode cX0_admitWith 27 = .ok (.ishl, 1) := by decide +kernel
theorem dX0_admitWith_28 : decode cX0_admitWith 28 = .ok (.iconst (-1), 1) := by decide +kernel
theorem dX0_admitWith_29 : decode cX0_admitWith 29 = .ok (.ixor, 1) := by decide +kernel
theorem dX0_admitWith_30 : decode cX0_admitWith 30 = .ok (.iand, 1) := by decide +kernel
theorem dX0_admitWith_31 : decode cX0_admitWith 31 = .ok (.laload, 1) := by decide +kernel
theorem dX0_admitWith_32 : decode cX0_admitWith 32 = .ok (.ladd, 1) := by decide +kernel
theorem dX0_admitWith_33 : decode cX0_admitWith 33 = .ok (.lstore 6, 2) := by decide +kernel
theorem dX0_admitWith_35 : decode cX0_admitWith 35 = .ok (.aload_n 0, 1) := by decide +kernel
theorem dX0_admitWith_36 : decode cX0_admitWith 36 = .ok (.getfield 15, 3) := by decide +kernel
theorem dX0_admitWith_39 : decode cX0_admitWith 39 = .ok (.iload_n 1, 1) := by decide +kernel
theorem dX0_admitWith_40 : decode cX0_admitWith 40 = .ok (.iload 5, 2) := by decide +kernel
theorem dX0_admitWith_42 : decode cX0_admitWith 42 = .ok (.iadd, 1) := by decide +kernel
theorem dX0_admitWith_43 : decode cX0_admitWith 43 = .ok (.aload_n 0, 1) := by decide +kernel
theorem dX0_admitWith_44 : decode cX0_admitWith 44 = .ok (.getfield 15, 3) := by decide +kernel
theorem dX0_admitWith_47 : decode cX0_admitWith 47 = .ok (.iload_n 1, 1) := by decide +kernel
theorem dX0_admitWith_48 : decode cX0_admitWith 48 = .ok (.iload 5, 2) := by decide +kernel
theorem dX0_admitWith_50 : decode cX0_admitWith 50 = .ok (.iadd, 1) := by decide +kernel
theorem dX0_admitWith_51 : decode cX0_admitWith 51 = .ok (.laload, 1) := by decide +kernel
theorem dX0_admitWith_52 : decode cX0_admitWith 52 = .ok (.lload 6, 2) := by decide +kernel
theorem dX0_admitWith_54 : decode cX0_admitWith 54 = .ok (.invokestatic 63, 3) := by decide +kernel
theorem dX0_admitWith_57 : decode cX0_admitWith 57 = .ok (.lastore, 1) := by decide +kernel
theorem dX0_admitWith_58 : decode cX0_admitWith 58 = .ok (.iinc 5 1, 3) := by decide +kernel
theorem dX0_admitWith_61 : decode cX0_admitWith 61 = .ok (.goto (-58), 3) := by decide +kernel
theorem dX0_admitWith_64 : decode cX0_admitWith 64 = .ok (.return_, 1) := by decide +kernel
theorem dX1_init_0 : decode cX1_init 0 = .ok (.aload_n 0, 1) := by decide +kernel
theorem dX1_init_1 : decode cX1_init 1 = .ok (.invokespecial 3, 3) := by decide +kernel
theorem dX1_init_4 : decode cX1_init 4 = .ok (.aload_n 0, 1) := by decide +kernel
theorem dX1_init_5 : decode cX1_init 5 = .ok (.iconst 4, 1) := by decide +kernel
theorem dX1_init_6 : decode cX1_init 6 = .ok (.putfield 9, 3) := by decide +kernel
theorem dX1_init_9 : decode cX1_init 9 = .ok (.aload_n 0, 1) := by decide +kernel
theorem dX1_init_10 : decode cX1_init 10 = .ok (.iconst 0, 1) := by decide +kernel
theorem dX1_init_11 : decode cX1_init 11 = .ok (.putfield 15, 3) := by decide +kernel
theorem dX1_init_14 : decode cX1_init 14 = .ok (.aload_n 0, 1) := by decide +kernel
theorem dX1_init_15 : decode cX1_init 15 = .ok (.bipush 24, 2) := by decide +kernel
theorem dX1_init_17 : decode cX1_init 17 = .ok (.newarray .int, 2) := by decide +kernel
theorem dX1_init_19 : decode cX1_init 19 = .ok (.putfield 18, 3) := by decide +kernel
theorem dX1_init_22 : decode cX1_init 22 = .ok (.aload_n 0, 1) := by decide +kernel
theorem dX1_init_23 : decode cX1_init 23 = .ok (.bipush 24, 2) := by decide +kernel
theorem dX1_init_25 : decode cX1_init 25 = .ok (.newarray .int, 2) := by decide +kernel
theorem dX1_init_27 : decode cX1_init 27 = .ok (.putfield 22, 3) := by decide +kernel
theorem dX1_init_30 : decode cX1_init 30 = .ok (.aload_n 0, 1) := by decide +kernel
theorem dX1_init_31 : decode cX1_init 31 = .ok (.bipush 24, 2) := by decide +kernel
theorem dX1_init_33 : decode cX1_init 33 = .ok (.newarray .int, 2) := by decide +kernel
theorem dX1_init_35 : decode cX1_init 35 = .ok (.putfield 25, 3) := by decide +kernel
theorem dX1_init_38 : decode cX1_init 38 = .ok (.aload_n 0, 1) := by decide +kernel
theorem dX1_init_39 : decode cX1_init 39 = .ok (.bipush 24, 2) := by decide +kernel
theorem dX1_init_41 : decode cX1_init 41 = .ok (.newarray .boolean, 2) := by decide +kernel
theorem dX1_init_43 : decode cX1_init 43 = .ok (.putfield 28, 3) := by decide +kernel
theorem dX1_init_46 : decode cX1_init 46 = .ok (.aload_n 0, 1) := by decide +kernel
theorem dX1_init_47 : decode cX1_init 47 = .ok (.new 32, 3) := by decide +kernel
theorem dX1_init_50 : decode cX1_init 50 = .ok (.dup, 1) := by decide +kernel
theorem dX1_init_51 : decode cX1_init 51 = .ok (.invokespecial 34, 3) := by decide +kernel
theorem dX1_init_54 : decode cX1_init 54 = .ok (.putfield 35, 3) := by decide +kernel
theorem dX1_init_57 : decode cX1_init 57 = .ok (.aload_n 0, 1) := by decide +kernel
theorem dX1_init_58 : decode cX1_init 58 = .ok (.new 32, 3) := by decide +kernel
theorem dX1_init_61 : decode cX1_init 61 = .ok (.dup, 1) := by decide +kernel
theorem dX1_init_62 : decode cX1_init 62 = .ok (.invokespecial 34, 3) := by decide +kernel
theorem dX1_init_65 : decode cX1_init 65 = .ok (.putfield 39, 3) := by decide +kernel
theorem dX1_init_68 : decode cX1_init 68 = .ok (.return_, 1) := by decide +kernel
theorem dX1_clear_0 : decode cX1_clear 0 = .ok (.aload_n 0, 1) := by decide +kernel
theorem dX1_clear_1 : decode cX1_clear 1 = .ok (.iconst 4, 1) := by decide +kernel
theorem dX1_clear_2 : decode cX1_clear 2 = .ok (.putfield 9, 3) := by decide +kernel
theorem dX1_clear_5 : decode cX1_clear 5 = .ok (.aload_n 0, 1) := by decide +kernel
theorem dX1_clear_6 : decode cX1_clear 6 = .ok (.iconst 0, 1) := by decide +kernel
theorem dX1_clear_7 : decode cX1_clear 7 = .ok (.putfield 15, 3) := by decide +kernel
theorem dX1_clear_10 : decode cX1_clear 10 = .ok (.aload_n 0, 1) := by decide +kernel
theorem dX1_clear_11 : decode cX1_clear 11 = .ok (.getfield 35, 3) := by decide +kernel
theorem dX1_clear_14 : decode cX1_clear 14 = .ok (.invokevirtual 42, 3) := by decide +kernel
theorem dX1_clear_17 : decode cX1_clear 17 = .ok (.aload_n 0, 1) := by decide +kernel
theorem dX1_clear_18 : decode cX1_clear 18 = .ok (.getfield 39, 3) := by decide +kernel
theorem dX1_clear_21 : decode cX1_clear 21 = .ok (.invokevirtual 42, 3) := by decide +kernel
theorem dX1_clear_24 : decode cX1_clear 24 = .ok (.return_, 1) := by decide +kernel
theorem dX1_isFull_0 : decode cX1_isFull 0 = .ok (.aload_n 0, 1) := by decide +kernel
theorem dX1_isFull_1 : decode cX1_isFull 1 = .ok (.getfield 15, 3) := by decide +kernel
theorem dX1_isFull_4 : decode cX1_isFull 4 = .ok (.bipush 24, 2) := by decide +kernel
theorem dX1_isFull_6 : decode cX1_isFull 6 = .ok (.if_icmp .lt 7, 3) := by decide +kernel
theorem dX1_isFull_9 : decode cX1_isFull 9 = .ok (.iconst 1, 1) := by decide +kernel
theorem dX1_isFull_10 : decode cX1_isFull 10 = .ok (.goto 4, 3) := by decide +kernel
theorem dX1_isFull_13 : decode cX1_isFull 13 = .ok (.iconst 0, 1) := by decide +kernel
theorem dX1_isFull_14 : decode cX1_isFull 14 = .ok (.ireturn, 1) := by decide +kernel
theorem dX1_addLine_0 : decode cX1_addLine 0 = .ok (.aload_n 0, 1) := by decide +kernel
theorem dX1_addLine_1 : decode cX1_addLine 1 = .ok (.invokevirtual 45, 3) := by decide +kernel
theorem dX1_addLine_4 : decode cX1_addLine 4 = .ok (.ifCond .eq 4, 3) := by decide +kernel
theorem dX1_addLine_7 : decode cX1_addLine 7 = .ok (.return_, 1) := by decide +kernel
theorem dX1_addLine_8 : decode cX1_addLine 8 = .ok (.aload_n 0, 1) := by decide +kernel
theorem dX1_addLine_9 : decode cX1_addLine 9 = .ok (.getfield 18, 3) := by decide +kernel
theorem dX1_addLine_12 : decode cX1_addLine 12 = .ok (.aload_n 0, 1) := by decide +kernel
theorem dX1_addLine_13 : decode cX1_addLine 13 = .ok (.getfield 15, 3) := by decide +kernel
theorem dX1_addLine_16 : decode cX1_addLine 16 = .ok (.iload_n 1, 1) := by decide +kernel
theorem dX1_addLine_17 : decode cX1_addLine 17 = .ok (.iastore, 1) := by decide +kernel
theorem dX1_addLine_18 : decode cX1_addLine 18 = .ok (.aload_n 0, 1) := by decide +kernel
theorem dX1_addLine_19 : decode cX1_addLine 19 = .ok (.getfield 22, 3) := by decide +kernel
theorem dX1_addLine_22 : decode cX1_addLine 22 = .ok (.aload_n 0, 1) := by decide +kernel
theorem dX1_addLine_23 : decode cX1_addLine 23 = .ok (.getfield 15, 3) := by decide +kernel
theorem dX1_addLine_26 : decode cX1_addLine 26 = .ok (.iload_n 2, 1) := by decide +kernel
theorem dX1_addLine_27 : decode cX1_addLine 27 = .ok (.iastore, 1) := by decide +kernel
theorem dX1_addLine_28 : decode cX1_addLine 28 = .ok (.aload_n 0, 1) := by decide +kernel
theorem dX1_addLine_29 : decode cX1_addLine 29 = .ok (.getfield 28, 3) := by decide +kernel
theorem dX1_addLine_32 : decode cX1_addLine 32 = .ok (.aload_n 0, 1) := by decide +kernel
theorem dX1_addLine_33 : decode cX1_addLine 33 = .ok (.getfield 15, 3) := by decide +kernel
theorem dX1_addLine_36 : decode cX1_addLine 36 = .ok (.iload_n 3, 1) := by decide +kernel
theorem dX1_addLine_37 : decode cX1_addLine 37 = .ok (.bastore, 1) := by decide +kernel
theorem dX1_addLine_38 : decode cX1_addLine 38 = .ok (.aload_n 0, 1) := by decide +kernel
theorem dX1_addLine_39 : decode cX1_addLine 39 = .ok (.getfield 25, 3) := by decide +kernel
theorem dX1_addLine_42 : decode cX1_addLine 42 = .ok (.aload_n 0, 1) := by decide +kernel
theorem dX1_addLine_43 : decode cX1_addLine 43 = .ok (.getfield 15, 3) := by decide +kernel
theorem dX1_addLine_46 : decode cX1_addLine 46 = .ok (.iload 4, 2) := by decide +kernel
theorem dX1_addLine_48 : decode cX1_addLine 48 = .ok (.iastore, 1) := by decide +kernel
theorem dX1_addLine_49 : decode cX1_addLine 49 = .ok (.aload_n 0, 1) := by decide +kernel
theorem dX1_addLine_50 : decode cX1_addLine 50 = .ok (.dup, 1) := by decide +kernel
theorem dX1_addLine_51 : decode cX1_addLine 51 = .ok (.getfield 15, 3) := by decide +kernel
theorem dX1_addLine_54 : decode cX1_addLine 54 = .ok (.iconst 1, 1) := by decide +kernel
theorem dX1_addLine_55 : decode cX1_addLine 55 = .ok (.iadd, 1) := by decide +kernel
theorem dX1_addLine_56 : decode cX1_addLine 56 = .ok (.putfield 15, 3) := by decide +kernel
theorem dX1_addLine_59 : decode cX1_addLine 59 = .ok (.return_, 1) := by decide +kernel
theorem dX1_allLines_0 : decode cX1_allLines 0 = .ok (.iconst 1, 1) := by decide +kernel
theorem dX1_allLines_1 : decode cX1_allLines 1 = .ok (.aload_n 0, 1) := by decide +kernel
theorem dX1_allLines_2 : decode cX1_allLines 2 = .ok (.getfield 15, 3) := by decide +kernel
theorem dX1_allLines_5 : decode cX1_allLines 5 = .ok (.ishl, 1) := by decide +kernel
theorem dX1_allLines_6 : decode cX1_allLines 6 = .ok (.iconst 1, 1) := by decide +kernel
theorem dX1_allLines_7 : decode cX1_allLines 7 = .ok (.isub, 1) := by decide +kernel
theorem dX1_allLines_8 : decode cX1_allLines 8 = .ok (.ireturn, 1) := by decide +kernel
theorem dX1_openLines_0 : decode cX1_openLines 0 = .ok (.aload_n 0, 1) := by decide +kernel
theorem dX1_openLines_1 : decode cX1_openLines 1 = .ok (.getfield 39, 3) := by decide +kernel
theorem dX1_openLines_4 : decode cX1_openLines 4 = .ok (.iload_n 1, 1) := by decide +kernel
theorem dX1_openLines_5 : decode cX1_openLines 5 = .ok (.invokevirtual 49, 3) := by decide +kernel
theorem dX1_openLines_8 : decode cX1_openLines 8 = .ok (.istore_n 2, 1) := by decide +kernel
theorem dX1_openLines_9 : decode cX1_openLines 9 = .ok (.aload_n 0, 1) := by decide +kernel
theorem dX1_openLines_10 : decode cX1_openLines 10 = .ok (.invokevirtual 53, 3) := by decide +kernel
theorem dX1_openLines_13 : decode cX1_openLines 13 = .ok (.aload_n 0, 1) := by decide +kernel
theorem dX1_openLines_14 : decode cX1_openLines 14 = .ok (.getfield 35, 3) := by decide +kernel
theorem dX1_openLines_17 : decode cX1_openLines 17 = .ok (.iload_n 1, 1) := by decide +kernel
theorem dX1_openLines_18 : decode cX1_openLines 18 = .ok (.invokevirtual 49, 3) := by decide +kernel
theorem dX1_openLines_21 : decode cX1_openLines 21 = .ok (.iconst (-1), 1) := by decide +kernel
theorem dX1_openLines_22 : decode cX1_openLines 22 = .ok (.ixor, 1) := by decide +kernel
theorem dX1_openLines_23 : decode cX1_openLines 23 = .ok (.iand, 1) := by decide +kernel
theorem dX1_openLines_24 : decode cX1_openLines 24 = .ok (.istore_n 3, 1) := by decide +kernel
theorem dX1_openLines_25 : decode cX1_openLines 25 = .ok (.iconst 0, 1) := by decide +kernel
theorem dX1_openLines_26 : decode cX1_openLines 26 = .ok (.istore 4, 2) := by decide +kernel
theorem dX1_openLines_28 : decode cX1_openLines 28 = .ok (.iload 4, 2) := by decide +kernel
theorem dX1_openLines_30 : decode cX1_openLines 30 = .ok (.aload_n 0, 1) := by decide +kernel
theorem dX1_openLines_31 : decode cX1_openLines 31 = .ok (.getfield 15, 3) := by decide +kernel
theorem dX1_openLines_34 : decode cX1_openLines 34 = .ok (.if_icmp .ge 46, 3) := by decide +kernel
theorem dX1_openLines_37 : decode cX1_openLines 37 = .ok (.iload_n 2, 1) := by decide +kernel
theorem dX1_openLines_38 : decode cX1_openLines 38 = .ok (.aload_n 0, 1) := by decide +kernel
theorem dX1_openLines_39 : decode cX1_openLines 39 = .ok (.getfield 18, 3) := by decide +kernel
theorem dX1_openLines_42 : decode cX1_openLines 42 = .ok (.iload 4, 2) := by decide +kernel
theorem dX1_openLines_44 : decode cX1_openLines 44 = .ok (.iaload, 1) := by decide +kernel
theorem dX1_openLines_45 : decode cX1_openLines 45 = .ok (.invokestatic 57, 3) := by decide +kernel
theorem dX1_openLines_48 : decode cX1_openLines 48 = .ok (.ifCond .ne 17, 3) := by decide +kernel
theorem dX1_openLines_51 : decode cX1_openLines 51 = .ok (.iload_n 2, 1) := by decide +kernel
theorem dX1_openLines_52 : decode cX1_openLines 52 = .ok (.aload_n 0, 1) := by decide +kernel
theorem dX1_openLines_53 : decode cX1_openLines 53 = .ok (.getfield 22, 3) := by decide +kernel
theorem dX1_openLines_56 : decode cX1_openLines 56 = .ok (.iload 4, 2) := by decide +kernel
theorem dX1_openLines_58 : decode cX1_openLines 58 = .ok (.iaload, 1) := by decide +kernel
theorem dX1_openLines_59 : decode cX1_openLines 59 = .ok (.invokestatic 57, 3) := by decide +kernel
theorem dX1_openLines_62 : decode cX1_openLines 62 = .ok (.ifCond .eq 12, 3) := by decide +kernel
theorem dX1_openLines_65 : decode cX1_openLines 65 = .ok (.iload_n 3, 1) := by decide +kernel
theorem dX1_openLines_66 : decode cX1_openLines 66 = .ok (.iconst 1, 1) := by decide +kernel
theorem dX1_openLines_67 : decode cX1_openLines 67 = .ok (.iload 4, 2) := by decide +kernel
theorem dX1_openLines_69 : decode cX1_openLines 69 = .ok (.ishl, 1) := by decide +kernel
theorem dX1_openLines_70 : decode cX1_openLines 70 = .ok (.iconst (-1), 1) := by decide +kernel
theorem dX1_openLines_71 : decode cX1_openLines 71 = .ok (.ixor, 1) := by decide +kernel
theorem dX1_openLines_72 : decode cX1_openLines 72 = .ok (.iand, 1) := by decide +kernel
theorem dX1_openLines_73 : decode cX1_openLines 73 = .ok (.istore_n 3, 1) := by decide +kernel
theorem dX1_openLines_74 : decode cX1_openLines 74 = .ok (.iinc 4 1, 3) := by decide +kernel
theorem dX1_openLines_77 : decode cX1_openLines 77 = .ok (.goto (-49), 3) := by decide +kernel
theorem dX1_openLines_80 : decode cX1_openLines 80 = .ok (.iload_n 3, 1) := by decide +kernel
theorem dX1_openLines_81 : decode cX1_openLines 81 = .ok (.ireturn, 1) := by decide +kernel
theorem dX1_costOf_0 : decode cX1_costOf 0 = .ok (.iconst 0, 1) := by decide +kernel
theorem dX1_costOf_1 : decode cX1_costOf 1 = .ok (.istore_n 2, 1) := by decide +kernel
theorem dX1_costOf_2 : decode cX1_costOf 2 = .ok (.iconst 0, 1) := by decide +kernel
theorem dX1_costOf_3 : decode cX1_costOf 3 = .ok (.istore_n 3, 1) := by decide +kernel
theorem dX1_costOf_4 : decode cX1_costOf 4 = .ok (.iload_n 3, 1) := by decide +kernel
theorem dX1_costOf_5 : decode cX1_costOf 5 = .ok (.aload_n 0, 1) := by decide +kernel
theorem dX1_costOf_6 : decode cX1_costOf 6 = .ok (.getfield 15, 3) := by decide +kernel
theorem dX1_costOf_9 : decode cX1_costOf 9 = .ok (.if_icmp .ge 26, 3) := by decide +kernel
theorem dX1_costOf_12 : decode cX1_costOf 12 = .ok (.iload_n 1, 1) := by decide +kernel
theorem dX1_costOf_13 : decode cX1_costOf 13 = .ok (.iload_n 3, 1) := by decide +kernel
theorem dX1_costOf_14 : decode cX1_costOf 14 = .ok (.invokestatic 57, 3) := by decide +kernel
theorem dX1_costOf_17 : decode cX1_costOf 17 = .ok (.ifCond .eq 12, 3) := by decide +kernel
theorem dX1_costOf_20 : decode cX1_costOf 20 = .ok (.iload_n 2, 1) := by decide +kernel
theorem dX1_costOf_21 : decode cX1_costOf 21 = .ok (.aload_n 0, 1) := by decide +kernel
theorem dX1_costOf_22 : decode cX1_costOf 22 = .ok (.getfield 25, 3) := by decide +kernel
theorem dX1_costOf_25 : decode cX1_costOf 25 = .ok (.iload_n 3, 1) := by decide +kernel
theorem dX1_costOf_26 : decode cX1_costOf 26 = .ok (.iaload, 1) := by decide +kernel
theorem dX1_costOf_27 : decode cX1_costOf 27 = .ok (.iadd, 1) := by decide +kernel
theorem dX1_costOf_28 : decode cX1_costOf 28 = .ok (.istore_n 2, 1) := by decide +kernel
theorem dX1_costOf_29 : decode cX1_costOf 29 = .ok (.iinc 3 1, 3) := by decide +kernel
theorem dX1_costOf_32 : decode cX1_costOf 32 = .ok (.goto (-28), 3) := by decide +kernel
theorem dX1_costOf_35 : decode cX1_costOf 35 = .ok (.iload_n 2, 1) := by decide +kernel
theorem dX1_costOf_36 : decode cX1_costOf 36 = .ok (.ireturn, 1) := by decide +kernel
theorem dX1_personsOf_0 : decode cX1_personsOf 0 = .ok (.iconst 0, 1) := by decide +kernel
theorem dX1_personsOf_1 : decode cX1_personsOf 1 = .ok (.istore_n 2, 1) := by decide +kernel
theorem dX1_personsOf_2 : decode cX1_personsOf 2 = .ok (.iconst 0, 1) := by decide +kernel
theorem dX1_personsOf_3 : decode cX1_personsOf 3 = .ok (.istore_n 3, 1) := by decide +kernel
theorem dX1_personsOf_4 : decode cX1_personsOf 4 = .ok (.iload_n 3, 1) := by decide +kernel
theorem dX1_personsOf_5 : decode cX1_personsOf 5 = .ok (.aload_n 0, 1) := by decide +kernel
theorem dX1_personsOf_6 : decode cX1_personsOf 6 = .ok (.getfield 15, 3) := by decide +kernel
theorem dX1_personsOf_9 : decode cX1_personsOf 9 = .ok (.if_icmp .ge 37, 3) := by decide +kernel
theorem dX1_personsOf_12 : decode cX1_personsOf 12 = .ok (.iload_n 1, 1) := by decide +kernel
theorem dX1_personsOf_13 : decode cX1_personsOf 13 = .ok (.iload_n 3, 1) := by decide +kernel
theorem dX1_personsOf_14 : decode cX1_personsOf 14 = .ok (.invokestatic 57, 3) := by decide +kernel
theorem dX1_personsOf_17 : decode cX1_personsOf 17 = .ok (.ifCond .eq 23, 3) := by decide +kernel
theorem dX1_personsOf_20 : decode cX1_personsOf 20 = .ok (.iload_n 2, 1) := by decide +kernel
theorem dX1_personsOf_21 : decode cX1_personsOf 21 = .ok (.iconst 1, 1) := by decide +kernel
theorem dX1_personsOf_22 : decode cX1_personsOf 22 = .ok (.aload_n 0, 1) := by decide +kernel
theorem dX1_personsOf_23 : decode cX1_personsOf 23 = .ok (.getfield 18, 3) := by decide +kernel
theorem dX1_personsOf_26 : decode cX1_personsOf 26 = .ok (.iload_n 3, 1) := by decide +kernel
theorem dX1_personsOf_27 : decode cX1_personsOf 27 = .ok (.iaload, 1) := by decide +kernel
theorem dX1_personsOf_28 : decode cX1_personsOf 28 = .ok (.ishl, 1) := by decide +kernel
theorem dX1_personsOf_29 : decode cX1_personsOf 29 = .ok (.iconst 1, 1) := by decide +kernel
theorem dX1_personsOf_30 : decode cX1_personsOf 30 = .ok (.aload_n 0, 1) := by decide +kernel
theorem dX1_personsOf_31 : decode cX1_personsOf 31 = .ok (.getfield 22, 3) := by decide +kernel
theorem dX1_personsOf_34 : decode cX1_personsOf 34 = .ok (.iload_n 3, 1) := by decide +kernel
theorem dX1_personsOf_35 : decode cX1_personsOf 35 = .ok (.iaload, 1) := by decide +kernel
theorem dX1_personsOf_36 : decode cX1_personsOf 36 = .ok (.ishl, 1) := by decide +kernel
theorem dX1_personsOf_37 : decode cX1_personsOf 37 = .ok (.ior, 1) := by decide +kernel
theorem dX1_personsOf_38 : decode cX1_personsOf 38 = .ok (.ior, 1) := by decide +kernel
theorem dX1_personsOf_39 : decode cX1_personsOf 39 = .ok (.istore_n 2, 1) := by decide +kernel
theorem dX1_personsOf_40 : decode cX1_personsOf 40 = .ok (.iinc 3 1, 3) := by decide +kernel
theorem dX1_personsOf_43 : decode cX1_personsOf 43 = .ok (.goto (-39), 3) := by decide +kernel
theorem dX1_personsOf_46 : decode cX1_personsOf 46 = .ok (.iload_n 2, 1) := by decide +kernel
theorem dX1_personsOf_47 : decode cX1_personsOf 47 = .ok (.ireturn, 1) := by decide +kernel
theorem dX1_otherPerson_0 : decode cX1_otherPerson 0 = .ok (.iconst 0, 1) := by decide +kernel
theorem dX1_otherPerson_1 : decode cX1_otherPerson 1 = .ok (.istore_n 3, 1) := by decide +kernel
theorem dX1_otherPerson_2 : decode cX1_otherPerson 2 = .ok (.iload_n 3, 1) := by decide +kernel
theorem dX1_otherPerson_3 : decode cX1_otherPerson 3 = .ok (.aload_n 0, 1) := by decide +kernel
theorem dX1_otherPerson_4 : decode cX1_otherPerson 4 = .ok (.getfield 15, 3) := by decide +kernel
theorem dX1_otherPerson_7 : decode cX1_otherPerson 7 = .ok (.if_icmp .ge 59, 3) := by decide +kernel
theorem dX1_otherPerson_10 : decode cX1_otherPerson 10 = .ok (.iload_n 1, 1) := by decide +kernel
theorem dX1_otherPerson_11 : decode cX1_otherPerson 11 = .ok (.iload_n 3, 1) := by decide +kernel
theorem dX1_otherPerson_12 : decode cX1_otherPerson 12 = .ok (.invokestatic 57, 3) := by decide +kernel
theorem dX1_otherPerson_15 : decode cX1_otherPerson 15 = .ok (.ifCond .eq 20, 3) := by decide +kernel
theorem dX1_otherPerson_18 : decode cX1_otherPerson 18 = .ok (.aload_n 0, 1) := by decide +kernel
theorem dX1_otherPerson_19 : decode cX1_otherPerson 19 = .ok (.getfield 18, 3) := by decide +kernel
theorem dX1_otherPerson_22 : decode cX1_otherPerson 22 = .ok (.iload_n 3, 1) := by decide +kernel
theorem dX1_otherPerson_23 : decode cX1_otherPerson 23 = .ok (.iaload, 1) := by decide +kernel
theorem dX1_otherPerson_24 : decode cX1_otherPerson 24 = .ok (.iload_n 2, 1) := by decide +kernel
theorem dX1_otherPerson_25 : decode cX1_otherPerson 25 = .ok (.if_icmp .ne 10, 3) := by decide +kernel
theorem dX1_otherPerson_28 : decode cX1_otherPerson 28 = .ok (.aload_n 0, 1) := by decide +kernel
theorem dX1_otherPerson_29 : decode cX1_otherPerson 29 = .ok (.getfield 22, 3) := by decide +kernel
theorem dX1_otherPerson_32 : decode cX1_otherPerson 32 = .ok (.iload_n 3, 1) := by decide +kernel
theorem dX1_otherPerson_33 : decode cX1_otherPerson 33 = .ok (.iaload, 1) := by decide +kernel
theorem dX1_otherPerson_34 : decode cX1_otherPerson 34 = .ok (.ireturn, 1) := by decide +kernel
theorem dX1_otherPerson_35 : decode cX1_otherPerson 35 = .ok (.iload_n 1, 1) := by decide +kernel
theorem dX1_otherPerson_36 : decode cX1_otherPerson 36 = .ok (.iload_n 3, 1) := by decide +kernel
theorem dX1_otherPerson_37 : decode cX1_otherPerson 37 = .ok (.invokestatic 57, 3) := by decide +kernel
theorem dX1_otherPerson_40 : decode cX1_otherPerson 40 = .ok (.ifCond .eq 20, 3) := by decide +kernel
theorem dX1_otherPerson_43 : decode cX1_otherPerson 43 = .ok (.aload_n 0, 1) := by decide +kernel
theorem dX1_otherPerson_44 : decode cX1_otherPerson 44 = .ok (.getfield 22, 3) := by decide +kernel
theorem dX1_otherPerson_47 : decode cX1_otherPerson 47 = .ok (.iload_n 3, 1) := by decide +kernel
theorem dX1_otherPerson_48 : decode cX1_otherPerson 48 = .ok (.iaload, 1) := by decide +kernel
theorem dX1_otherPerson_49 : decode cX1_otherPerson 49 = .ok (.iload_n 2, 1) := by decide +kernel
theorem dX1_otherPerson_50 : decode cX1_otherPerson 50 = .ok (.if_icmp .ne 10, 3) := by decide +kernel
theorem dX1_otherPerson_53 : decode cX1_otherPerson 53 = .ok (.aload_n 0, 1) := by decide +kernel
theorem dX1_otherPerson_54 : decode cX1_otherPerson 54 = .ok (.getfield 18, 3) := by decide +kernel
theorem dX1_otherPerson_57 : decode cX1_otherPerson 57 = .ok (.iload_n 3, 1) := by decide +kernel
theorem dX1_otherPerson_58 : decode cX1_otherPerson 58 = .ok (.iaload, 1) := by decide +kernel
theorem dX1_otherPerson_59 : decode cX1_otherPerson 59 = .ok (.ireturn, 1) := by decide +kernel
theorem dX1_otherPerson_60 : decode cX1_otherPerson 60 = .ok (.iinc 3 1, 3) := by decide +kernel
theorem dX1_otherPerson_63 : decode cX1_otherPerson 63 = .ok (.goto (-61), 3) := by decide +kernel
theorem dX1_otherPerson_66 : decode cX1_otherPerson 66 = .ok (.iconst (-1), 1) := by decide +kernel
theorem dX1_otherPerson_67 : decode cX1_otherPerson 67 = .ok (.ireturn, 1) := by decide +kernel
theorem dX1_gainOfLine_0 : decode cX1_gainOfLine 0 = .ok (.aload_n 2, 1) := by decide +kernel
theorem dX1_gainOfLine_1 : decode cX1_gainOfLine 1 = .ok (.getfield 61, 3) := by decide +kernel
theorem dX1_gainOfLine_4 : decode cX1_gainOfLine 4 = .ok (.aload_n 0, 1) := by decide +kernel
theorem dX1_gainOfLine_5 : decode cX1_gainOfLine 5 = .ok (.getfield 18, 3) := by decide +kernel
theorem dX1_gainOfLine_8 : decode cX1_gainOfLine 8 = .ok (.iload_n 1, 1) := by decide +kernel
theorem dX1_gainOfLine_9 : decode cX1_gainOfLine 9 = .ok (.iaload, 1) := by decide +kernel
theorem dX1_gainOfLine_10 : decode cX1_gainOfLine 10 = .ok (.iaload, 1) := by decide +kernel
theorem dX1_gainOfLine_11 : decode cX1_gainOfLine 11 = .ok (.istore_n 3, 1) := by decide +kernel
theorem dX1_gainOfLine_12 : decode cX1_gainOfLine 12 = .ok (.aload_n 2, 1) := by decide +kernel
theorem dX1_gainOfLine_13 : decode cX1_gainOfLine 13 = .ok (.getfield 61, 3) := by decide +kernel
theorem dX1_gainOfLine_16 : decode cX1_gainOfLine 16 = .ok (.aload_n 0, 1) := by decide +kernel
theorem dX1_gainOfLine_17 : decode cX1_gainOfLine 17 = .ok (.getfield 22, 3) := by decide +kernel
theorem dX1_gainOfLine_20 : decode cX1_gainOfLine 20 = .ok (.iload_n 1, 1) := by decide +kernel
theorem dX1_gainOfLine_21 : decode cX1_gainOfLine 21 = .ok (.iaload, 1) := by decide +kernel
theorem dX1_gainOfLine_22 : decode cX1_gainOfLine 22 = .ok (.iaload, 1) := by decide +kernel
theorem dX1_gainOfLine_23 : decode cX1_gainOfLine 23 = .ok (.istore 4, 2) := by decide +kernel
theorem dX1_gainOfLine_25 : decode cX1_gainOfLine 25 = .ok (.iload_n 3, 1) := by decide +kernel
theorem dX1_gainOfLine_26 : decode cX1_gainOfLine 26 = .ok (.iload 4, 2) := by decide +kernel
theorem dX1_gainOfLine_28 : decode cX1_gainOfLine 28 = .ok (.iconst (-1), 1) := by decide +kernel
theorem dX1_gainOfLine_29 : decode cX1_gainOfLine 29 = .ok (.ixor, 1) := by decide +kernel
theorem dX1_gainOfLine_30 : decode cX1_gainOfLine 30 = .ok (.iand, 1) := by decide +kernel
theorem dX1_gainOfLine_31 : decode cX1_gainOfLine 31 = .ok (.invokestatic 66, 3) := by decide +kernel
theorem dX1_gainOfLine_34 : decode cX1_gainOfLine 34 = .ok (.istore 5, 2) := by decide +kernel
theorem dX1_gainOfLine_36 : decode cX1_gainOfLine 36 = .ok (.aload_n 0, 1) := by decide +kernel
theorem dX1_gainOfLine_37 : decode cX1_gainOfLine 37 = .ok (.getfield 28, 3) := by decide +kernel
theorem dX1_gainOfLine_40 : decode cX1_gainOfLine 40 = .ok (.iload_n 1, 1) := by decide +kernel
theorem dX1_gainOfLine_41 : decode cX1_gainOfLine 41 = .ok (.baload, 1) := by decide +kernel
theorem dX1_gainOfLine_42 : decode cX1_gainOfLine 42 = .ok (.ifCond .eq 8, 3) := by decide +kernel
theorem dX1_gainOfLine_45 : decode cX1_gainOfLine 45 = .ok (.iload 5, 2) := by decide +kernel
theorem dX1_gainOfLine_47 : decode cX1_gainOfLine 47 = .ok (.goto 15, 3) := by decide +kernel
theorem dX1_gainOfLine_50 : decode cX1_gainOfLine 50 = .ok (.iload 5, 2) := by decide +kernel
theorem dX1_gainOfLine_52 : decode cX1_gainOfLine 52 = .ok (.iload 4, 2) := by decide +kernel
theorem dX1_gainOfLine_54 : decode cX1_gainOfLine 54 = .ok (.iload_n 3, 1) := by decide +kernel
theorem dX1_gainOfLine_55 : decode cX1_gainOfLine 55 = .ok (.iconst (-1), 1) := by decide +kernel
theorem dX1_gainOfLine_56 : decode cX1_gainOfLine 56 = .ok (.ixor, 1) := by decide +kernel
theorem dX1_gainOfLine_57 : decode cX1_gainOfLine 57 = .ok (.iand, 1) := by decide +kernel
theorem dX1_gainOfLine_58 : decode cX1_gainOfLine 58 = .ok (.invokestatic 66, 3) := by decide +kernel
theorem dX1_gainOfLine_61 : decode cX1_gainOfLine 61 = .ok (.iadd, 1) := by decide +kernel
theorem dX1_gainOfLine_62 : decode cX1_gainOfLine 62 = .ok (.ireturn, 1) := by decide +kernel
theorem dX1_gainOf_0 : decode cX1_gainOf 0 = .ok (.iconst 0, 1) := by decide +kernel
theorem dX1_gainOf_1 : decode cX1_gainOf 1 = .ok (.istore_n 3, 1) := by decide +kernel
theorem dX1_gainOf_2 : decode cX1_gainOf 2 = .ok (.iconst 0, 1) := by decide +kernel
theorem dX1_gainOf_3 : decode cX1_gainOf 3 = .ok (.istore 4, 2) := by decide +kernel
theorem dX1_gainOf_5 : decode cX1_gainOf 5 = .ok (.iload 4, 2) := by decide +kernel
theorem dX1_gainOf_7 : decode cX1_gainOf 7 = .ok (.aload_n 0, 1) := by decide +kernel
theorem dX1_gainOf_8 : decode cX1_gainOf 8 = .ok (.getfield 15, 3) := by decide +kernel
theorem dX1_gainOf_11 : decode cX1_gainOf 11 = .ok (.if_icmp .ge 28, 3) := by decide +kernel
theorem dX1_gainOf_14 : decode cX1_gainOf 14 = .ok (.iload_n 1, 1) := by decide +kernel
theorem dX1_gainOf_15 : decode cX1_gainOf 15 = .ok (.iload 4, 2) := by decide +kernel
theorem dX1_gainOf_17 : decode cX1_gainOf 17 = .ok (.invokestatic 57, 3) := by decide +kernel
theorem dX1_gainOf_20 : decode cX1_gainOf 20 = .ok (.ifCond .eq 13, 3) := by decide +kernel
theorem dX1_gainOf_23 : decode cX1_gainOf 23 = .ok (.iload_n 3, 1) := by decide +kernel
theorem dX1_gainOf_24 : decode cX1_gainOf 24 = .ok (.aload_n 0, 1) := by decide +kernel
theorem dX1_gainOf_25 : decode cX1_gainOf 25 = .ok (.iload 4, 2) := by decide +kernel
theorem dX1_gainOf_27 : decode cX1_gainOf 27 = .ok (.aload_n 2, 1) := by decide +kernel
theorem dX1_gainOf_28 : decode cX1_gainOf 28 = .ok (.invokevirtual 71, 3) := by decide +kernel
theorem dX1_gainOf_31 : decode cX1_gainOf 31 = .ok (.iadd, 1) := by decide +kernel
theorem dX1_gainOf_32 : decode cX1_gainOf 32 = .ok (.istore_n 3, 1) := by decide +kernel
theorem dX1_gainOf_33 : decode cX1_gainOf 33 = .ok (.iinc 4 1, 3) := by decide +kernel
theorem dX1_gainOf_36 : decode cX1_gainOf 36 = .ok (.goto (-31), 3) := by decide +kernel
theorem dX1_gainOf_39 : decode cX1_gainOf 39 = .ok (.iload_n 3, 1) := by decide +kernel
theorem dX1_gainOf_40 : decode cX1_gainOf 40 = .ok (.ireturn, 1) := by decide +kernel
theorem dX1_makeCalls_0 : decode cX1_makeCalls 0 = .ok (.iconst 0, 1) := by decide +kernel
theorem dX1_makeCalls_1 : decode cX1_makeCalls 1 = .ok (.istore_n 3, 1) := by decide +kernel
theorem dX1_makeCalls_2 : decode cX1_makeCalls 2 = .ok (.iload_n 3, 1) := by decide +kernel
theorem dX1_makeCalls_3 : decode cX1_makeCalls 3 = .ok (.aload_n 0, 1) := by decide +kernel
theorem dX1_makeCalls_4 : decode cX1_makeCalls 4 = .ok (.getfield 15, 3) := by decide +kernel
theorem dX1_makeCalls_7 : decode cX1_makeCalls 7 = .ok (.if_icmp .ge 77, 3) := by decide +kernel
theorem dX1_makeCalls_10 : decode cX1_makeCalls 10 = .ok (.iload_n 1, 1) := by decide +kernel
theorem dX1_makeCalls_11 : decode cX1_makeCalls 11 = .ok (.iload_n 3, 1) := by decide +kernel
theorem dX1_makeCalls_12 : decode cX1_makeCalls 12 = .ok (.invokestatic 57, 3) := by decide +kernel
theorem dX1_makeCalls_15 : decode cX1_makeCalls 15 = .ok (.ifCond .eq 63, 3) := by decide +kernel
theorem dX1_makeCalls_18 : decode cX1_makeCalls 18 = .ok (.aload_n 2, 1) := by decide +kernel
theorem dX1_makeCalls_19 : decode cX1_makeCalls 19 = .ok (.getfield 61, 3) := by decide +kernel
theorem dX1_makeCalls_22 : decode cX1_makeCalls 22 = .ok (.aload_n 0, 1) := by decide +kernel
theorem dX1_makeCalls_23 : decode cX1_makeCalls 23 = .ok (.getfield 18, 3) := by decide +kernel
theorem dX1_makeCalls_26 : decode cX1_makeCalls 26 = .ok (.iload_n 3, 1) := by decide +kernel
theorem dX1_makeCalls_27 : decode cX1_makeCalls 27 = .ok (.iaload, 1) := by decide +kernel
theorem dX1_makeCalls_28 : decode cX1_makeCalls 28 = .ok (.iaload, 1) := by decide +kernel
theorem dX1_makeCalls_29 : decode cX1_makeCalls 29 = .ok (.aload_n 2, 1) := by decide +kernel
theorem dX1_makeCalls_30 : decode cX1_makeCalls 30 = .ok (.getfield 61, 3) := by decide +kernel
theorem dX1_makeCalls_33 : decode cX1_makeCalls 33 = .ok (.aload_n 0, 1) := by decide +kernel
theorem dX1_makeCalls_34 : decode cX1_makeCalls 34 = .ok (.getfield 22, 3) := by decide +kernel
theorem dX1_makeCalls_37 : decode cX1_makeCalls 37 = .ok (.iload_n 3, 1) := by decide +kernel
theorem dX1_makeCalls_38 : decode cX1_makeCalls 38 = .ok (.iaload, 1) := by decide +kernel
theorem dX1_makeCalls_39 : decode cX1_makeCalls 39 = .ok (.iaload, 1) := by decide +kernel
theorem dX1_makeCalls_40 : decode cX1_makeCalls 40 = .ok (.ior, 1) := by decide +kernel
theorem dX1_makeCalls_41 : decode cX1_makeCalls 41 = .ok (.istore 4, 2) := by decide +kernel
theorem dX1_makeCalls_43 : decode cX1_makeCalls 43 = .ok (.aload_n 2, 1) := by decide +kernel
theorem dX1_makeCalls_44 : decode cX1_makeCalls 44 = .ok (.getfield 61, 3) := by decide +kernel
theorem dX1_makeCalls_47 : decode cX1_makeCalls 47 = .ok (.aload_n 0, 1) := by decide +kernel
theorem dX1_makeCalls_48 : decode cX1_makeCalls 48 = .ok (.getfield 22, 3) := by decide +kernel
theorem dX1_makeCalls_51 : decode cX1_makeCalls 51 = .ok (.iload_n 3, 1) := by decide +kernel
theorem dX1_makeCalls_52 : decode cX1_makeCalls 52 = .ok (.iaload, 1) := by decide +kernel
theorem dX1_makeCalls_53 : decode cX1_makeCalls 53 = .ok (.iload 4, 2) := by decide +kernel
theorem dX1_makeCalls_55 : decode cX1_makeCalls 55 = .ok (.iastore, 1) := by decide +kernel
theorem dX1_makeCalls_56 : decode cX1_makeCalls 56 = .ok (.aload_n 0, 1) := by decide +kernel
theorem dX1_makeCalls_57 : decode cX1_makeCalls 57 = .ok (.getfield 28, 3) := by decide +kernel
theorem dX1_makeCalls_60 : decode cX1_makeCalls 60 = .ok (.iload_n 3, 1) := by decide +kernel
theorem dX1_makeCalls_61 : decode cX1_makeCalls 61 = .ok (.baload, 1) := by decide +kernel
theorem dX1_makeCalls_62 : decode cX1_makeCalls 62 = .ok (.ifCond .ne 16, 3) := by decide +kernel
theorem dX1_makeCalls_65 : decode cX1_makeCalls 65 = .ok (.aload_n 2, 1) := by decide +kernel
theorem dX1_makeCalls_66 : decode cX1_makeCalls 66 = .ok (.getfield 61, 3) := by decide +kernel
theorem dX1_makeCalls_69 : decode cX1_makeCalls 69 = .ok (.aload_n 0, 1) := by decide +kernel
theorem dX1_makeCalls_70 : decode cX1_makeCalls 70 = .ok (.getfield 18, 3) := by decide +kernel
theorem dX1_makeCalls_73 : decode cX1_makeCalls 73 = .ok (.iload_n 3, 1) := by decide +kernel
theorem dX1_makeCalls_74 : decode cX1_makeCalls 74 = .ok (.iaload, 1) := by decide +kernel
theorem dX1_makeCalls_75 : decode cX1_makeCalls 75 = .ok (.iload 4, 2) := by decide +kernel
theorem dX1_makeCalls_77 : decode cX1_makeCalls 77 = .ok (.iastore, 1) := by decide +kernel
theorem dX1_makeCalls_78 : decode cX1_makeCalls 78 = .ok (.iinc 3 1, 3) := by decide +kernel
theorem dX1_makeCalls_81 : decode cX1_makeCalls 81 = .ok (.goto (-79), 3) := by decide +kernel
theorem dX1_makeCalls_84 : decode cX1_makeCalls 84 = .ok (.return_, 1) := by decide +kernel
theorem dX1_spread_0 : decode cX1_spread 0 = .ok (.iload_n 1, 1) := by decide +kernel
theorem dX1_spread_1 : decode cX1_spread 1 = .ok (.istore_n 3, 1) := by decide +kernel
theorem dX1_spread_2 : decode cX1_spread 2 = .ok (.iconst 0, 1) := by decide +kernel
theorem dX1_spread_3 : decode cX1_spread 3 = .ok (.istore 4, 2) := by decide +kernel
theorem dX1_spread_5 : decode cX1_spread 5 = .ok (.iload 4, 2) := by decide +kernel
theorem dX1_spread_7 : decode cX1_spread 7 = .ok (.aload_n 0, 1) := by decide +kernel
theorem dX1_spread_8 : decode cX1_spread 8 = .ok (.getfield 15, 3) := by decide +kernel
theorem dX1_spread_11 : decode cX1_spread 11 = .ok (.if_icmp .ge 89, 3) := by decide +kernel
theorem dX1_spread_14 : decode cX1_spread 14 = .ok (.iload_n 2, 1) := by decide +kernel
theorem dX1_spread_15 : decode cX1_spread 15 = .ok (.iload 4, 2) := by decide +kernel
theorem dX1_spread_17 : decode cX1_spread 17 = .ok (.invokestatic 57, 3) := by decide +kernel
theorem dX1_spread_20 : decode cX1_spread 20 = .ok (.ifCond .eq 29, 3) := by decide +kernel
theorem dX1_spread_23 : decode cX1_spread 23 = .ok (.iload_n 1, 1) := by decide +kernel
theorem dX1_spread_24 : decode cX1_spread 24 = .ok (.aload_n 0, 1) := by decide +kernel
theorem dX1_spread_25 : decode cX1_spread 25 = .ok (.getfield 18, 3) := by decide +kernel
theorem dX1_spread_28 : decode cX1_spread 28 = .ok (.iload 4, 2) := by decide +kernel
theorem dX1_spread_30 : decode cX1_spread 30 = .ok (.iaload, 1) := by decide +kernel
theorem dX1_spread_31 : decode cX1_spread 31 = .ok (.invokestatic 57, 3) := by decide +kernel
theorem dX1_spread_34 : decode cX1_spread 34 = .ok (.ifCond .eq 15, 3) := by decide +kernel
theorem dX1_spread_37 : decode cX1_spread 37 = .ok (.iload_n 3, 1) := by decide +kernel
theorem dX1_spread_38 : decode cX1_spread 38 = .ok (.iconst 1, 1) := by decide +kernel
theorem dX1_spread_39 : decode cX1_spread 39 = .ok (.aload_n 0, 1) := by decide +kernel
theorem dX1_spread_40 : decode cX1_spread 40 = .ok (.getfield 22, 3) := by decide +kernel
theorem dX1_spread_43 : decode cX1_spread 43 = .ok (.iload 4, 2) := by decide +kernel
theorem dX1_spread_45 : decode cX1_spread 45 = .ok (.iaload, 1) := by decide +kernel
theorem dX1_spread_46 : decode cX1_spread 46 = .ok (.ishl, 1) := by decide +kernel
theorem dX1_spread_47 : decode cX1_spread 47 = .ok (.ior, 1) := by decide +kernel
theorem dX1_spread_48 : decode cX1_spread 48 = .ok (.istore_n 3, 1) := by decide +kernel
theorem dX1_spread_49 : decode cX1_spread 49 = .ok (.iload_n 2, 1) := by decide +kernel
theorem dX1_spread_50 : decode cX1_spread 50 = .ok (.iload 4, 2) := by decide +kernel
theorem dX1_spread_52 : decode cX1_spread 52 = .ok (.invokestatic 57, 3) := by decide +kernel
theorem dX1_spread_55 : decode cX1_spread 55 = .ok (.ifCond .eq 39, 3) := by decide +kernel
theorem dX1_spread_58 : decode cX1_spread 58 = .ok (.iload_n 1, 1) := by decide +kernel
theorem dX1_spread_59 : decode cX1_spread 59 = .ok (.aload_n 0, 1) := by decide +kernel
theorem dX1_spread_60 : decode cX1_spread 60 = .ok (.getfield 22, 3) := by decide +kernel
theorem dX1_spread_63 : decode cX1_spread 63 = .ok (.iload 4, 2) := by decide +kernel
theorem dX1_spread_65 : decode cX1_spread 65 = .ok (.iaload, 1) := by decide +kernel
theorem dX1_spread_66 : decode cX1_spread 66 = .ok (.invokestatic 57, 3) := by decide +kernel
theorem dX1_spread_69 : decode cX1_spread 69 = .ok (.ifCond .eq 25, 3) := by decide +kernel
theorem dX1_spread_72 : decode cX1_spread 72 = .ok (.aload_n 0, 1) := by decide +kernel
theorem dX1_spread_73 : decode cX1_spread 73 = .ok (.getfield 28, 3) := by decide +kernel
theorem dX1_spread_76 : decode cX1_spread 76 = .ok (.iload 4, 2) := by decide +kernel
theorem dX1_spread_78 : decode cX1_spread 78 = .ok (.baload, 1) := by decide +kernel
theorem dX1_spread_79 : decode cX1_spread 79 = .ok (.ifCond .ne 15, 3) := by decide +kernel
theorem dX1_spread_82 : decode cX1_spread 82 = .ok (.iload_n 3, 1) := by decide +kernel
theorem dX1_spread_83 : decode cX1_spread 83 = .ok (.iconst 1, 1) := by decide +kernel
theorem dX1_spread_84 : decode cX1_spread 84 = .ok (.aload_n 0, 1) := by decide +kernel
theorem dX1_spread_85 : decode cX1_spread 85 = .ok (.getfield 18, 3) := by decide +kernel
theorem dX1_spread_88 : decode cX1_spread 88 = .ok (.iload 4, 2) := by decide +kernel
theorem dX1_spread_90 : decode cX1_spread 90 = .ok (.iaload, 1) := by decide +kernel
theorem dX1_spread_91 : decode cX1_spread 91 = .ok (.ishl, 1) := by decide +kernel
theorem dX1_spread_92 : decode cX1_spread 92 = .ok (.ior, 1) := by decide +kernel
theorem dX1_spread_93 : decode cX1_spread 93 = .ok (.istore_n 3, 1) := by decide +kernel
theorem dX1_spread_94 : decode cX1_spread 94 = .ok (.iinc 4 1, 3) := by decide +kernel
theorem dX1_spread_97 : decode cX1_spread 97 = .ok (.goto (-92), 3) := by decide +kernel
theorem dX1_spread_100 : decode cX1_spread 100 = .ok (.iload_n 3, 1) := by decide +kernel
theorem dX1_spread_101 : decode cX1_spread 101 = .ok (.ireturn, 1) := by decide +kernel
theorem dX1_reached_0 : decode cX1_reached 0 = .ok (.iload_n 1, 1) := by decide +kernel
theorem dX1_reached_1 : decode cX1_reached 1 = .ok (.istore_n 3, 1) := by decide +kernel
theorem dX1_reached_2 : decode cX1_reached 2 = .ok (.iconst 1, 1) := by decide +kernel
theorem dX1_reached_3 : decode cX1_reached 3 = .ok (.istore 4, 2) := by decide +kernel
theorem dX1_reached_5 : decode cX1_reached 5 = .ok (.iload 4, 2) := by decide +kernel
theorem dX1_reached_7 : decode cX1_reached 7 = .ok (.aload_n 0, 1) := by decide +kernel
theorem dX1_reached_8 : decode cX1_reached 8 = .ok (.getfield 9, 3) := by decide +kernel
theorem dX1_reached_11 : decode cX1_reached 11 = .ok (.if_icmp .ge 28, 3) := by decide +kernel
theorem dX1_reached_14 : decode cX1_reached 14 = .ok (.aload_n 0, 1) := by decide +kernel
theorem dX1_reached_15 : decode cX1_reached 15 = .ok (.iload_n 3, 1) := by decide +kernel
theorem dX1_reached_16 : decode cX1_reached 16 = .ok (.iload_n 2, 1) := by decide +kernel
theorem dX1_reached_17 : decode cX1_reached 17 = .ok (.invokevirtual 75, 3) := by decide +kernel
theorem dX1_reached_20 : decode cX1_reached 20 = .ok (.istore 5, 2) := by decide +kernel
theorem dX1_reached_22 : decode cX1_reached 22 = .ok (.iload 5, 2) := by decide +kernel
theorem dX1_reached_24 : decode cX1_reached 24 = .ok (.iload_n 3, 1) := by decide +kernel
theorem dX1_reached_25 : decode cX1_reached 25 = .ok (.if_icmp .ne 5, 3) := by decide +kernel
theorem dX1_reached_28 : decode cX1_reached 28 = .ok (.iload_n 3, 1) := by decide +kernel
theorem dX1_reached_29 : decode cX1_reached 29 = .ok (.ireturn, 1) := by decide +kernel
theorem dX1_reached_30 : decode cX1_reached 30 = .ok (.iload 5, 2) := by decide +kernel
theorem dX1_reached_32 : decode cX1_reached 32 = .ok (.istore_n 3, 1) := by decide +kernel
theorem dX1_reached_33 : decode cX1_reached 33 = .ok (.iinc 4 1, 3) := by decide +kernel
theorem dX1_reached_36 : decode cX1_reached 36 = .ok (.goto (-31), 3) := by decide +kernel
theorem dX1_reached_39 : decode cX1_reached 39 = .ok (.iload_n 3, 1) := by decide +kernel
theorem dX1_reached_40 : decode cX1_reached 40 = .ok (.ireturn, 1) := by decide +kernel
theorem dX1_neededLines_0 : decode cX1_neededLines 0 = .ok (.aload_n 0, 1) := by decide +kernel
theorem dX1_neededLines_1 : decode cX1_neededLines 1 = .ok (.iload_n 1, 1) := by decide +kernel
theorem dX1_neededLines_2 : decode cX1_neededLines 2 = .ok (.iload_n 2, 1) := by decide +kernel
theorem dX1_neededLines_3 : decode cX1_neededLines 3 = .ok (.invokevirtual 79, 3) := by decide +kernel
theorem dX1_neededLines_6 : decode cX1_neededLines 6 = .ok (.istore_n 3, 1) := by decide +kernel
theorem dX1_neededLines_7 : decode cX1_neededLines 7 = .ok (.iconst 0, 1) := by decide +kernel
theorem dX1_neededLines_8 : decode cX1_neededLines 8 = .ok (.istore 4, 2) := by decide +kernel
theorem dX1_neededLines_10 : decode cX1_neededLines 10 = .ok (.iconst 0, 1) := by decide +kernel
theorem dX1_neededLines_11 : decode cX1_neededLines 11 = .ok (.istore 5, 2) := by decide +kernel
theorem dX1_neededLines_13 : decode cX1_neededLines 13 = .ok (.iload 5, 2) := by decide +kernel
theorem dX1_neededLines_15 : decode cX1_neededLines 15 = .ok (.aload_n 0, 1) := by decide +kernel
theorem dX1_neededLines_16 : decode cX1_neededLines 16 = .ok (.getfield 15, 3) := by decide +kernel
theorem dX1_neededLines_19 : decode cX1_neededLines 19 = .ok (.if_icmp .ge 44, 3) := by decide +kernel
theorem dX1_neededLines_22 : decode cX1_neededLines 22 = .ok (.iload_n 2, 1) := by decide +kernel
theorem dX1_neededLines_23 : decode cX1_neededLines 23 = .ok (.iload 5, 2) := by decide +kernel
theorem dX1_neededLines_25 : decode cX1_neededLines 25 = .ok (.invokestatic 57, 3) := by decide +kernel
theorem dX1_neededLines_28 : decode cX1_neededLines 28 = .ok (.ifCond .eq 29, 3) := by decide +kernel
theorem dX1_neededLines_31 : decode cX1_neededLines 31 = .ok (.aload_n 0, 1) := by decide +kernel
theorem dX1_neededLines_32 : decode cX1_neededLines 32 = .ok (.iload_n 1, 1) := by decide +kernel
theorem dX1_neededLines_33 : decode cX1_neededLines 33 = .ok (.iload_n 2, 1) := by decide +kernel
theorem dX1_neededLines_34 : decode cX1_neededLines 34 = .ok (.iconst 1, 1) := by decide +kernel
theorem dX1_neededLines_35 : decode cX1_neededLines 35 = .ok (.iload 5, 2) := by decide +kernel
theorem dX1_neededLines_37 : decode cX1_neededLines 37 = .ok (.ishl, 1) := by decide +kernel
theorem dX1_neededLines_38 : decode cX1_neededLines 38 = .ok (.iconst (-1), 1) := by decide +kernel
theorem dX1_neededLines_39 : decode cX1_neededLines 39 = .ok (.ixor, 1) := by decide +kernel
theorem dX1_neededLines_40 : decode cX1_neededLines 40 = .ok (.iand, 1) := by decide +kernel
theorem dX1_neededLines_41 : decode cX1_neededLines 41 = .ok (.invokevirtual 79, 3) := by decide +kernel
theorem dX1_neededLines_44 : decode cX1_neededLines 44 = .ok (.iload_n 3, 1) := by decide +kernel
theorem dX1_neededLines_45 : decode cX1_neededLines 45 = .ok (.if_icmp .eq 12, 3) := by decide +kernel
theorem dX1_neededLines_48 : decode cX1_neededLines 48 = .ok (.iload 4, 2) := by decide +kernel
theorem dX1_neededLines_50 : decode cX1_neededLines 50 = .ok (.iconst 1, 1) := by decide +kernel
theorem dX1_neededLines_51 : decode cX1_neededLines 51 = .ok (.iload 5, 2) := by decide +kernel
theorem dX1_neededLines_53 : decode cX1_neededLines 53 = .ok (.ishl, 1) := by decide +kernel
theorem dX1_neededLines_54 : decode cX1_neededLines 54 = .ok (.ior, 1) := by decide +kernel
theorem dX1_neededLines_55 : decode cX1_neededLines 55 = .ok (.istore 4, 2) := by decide +kernel
theorem dX1_neededLines_57 : decode cX1_neededLines 57 = .ok (.iinc 5 1, 3) := by decide +kernel
theorem dX1_neededLines_60 : decode cX1_neededLines 60 = .ok (.goto (-47), 3) := by decide +kernel
theorem dX1_neededLines_63 : decode cX1_neededLines 63 = .ok (.iload 4, 2) := by decide +kernel
theorem dX1_neededLines_65 : decode cX1_neededLines 65 = .ok (.ireturn, 1) := by decide +kernel
theorem dX1_fillLeastCosts_0 : decode cX1_fillLeastCosts 0 = .ok (.iconst 0, 1) := by decide +kernel
theorem dX1_fillLeastCosts_1 : decode cX1_fillLeastCosts 1 = .ok (.istore 4, 2) := by decide +kernel
theorem dX1_fillLeastCosts_3 : decode cX1_fillLeastCosts 3 = .ok (.iload 4, 2) := by decide +kernel
theorem dX1_fillLeastCosts_5 : decode cX1_fillLeastCosts 5 = .ok (.bipush 10, 2) := by decide +kernel
theorem dX1_fillLeastCosts_7 : decode cX1_fillLeastCosts 7 = .ok (.if_icmp .ge 28, 3) := by decide +kernel
theorem dX1_fillLeastCosts_10 : decode cX1_fillLeastCosts 10 = .ok (.aload_n 3, 1) := by decide +kernel
theorem dX1_fillLeastCosts_11 : decode cX1_fillLeastCosts 11 = .ok (.iload 4, 2) := by decide +kernel
theorem dX1_fillLeastCosts_13 : decode cX1_fillLeastCosts 13 = .ok (.iload_n 1, 1) := by decide +kernel
theorem dX1_fillLeastCosts_14 : decode cX1_fillLeastCosts 14 = .ok (.iload 4, 2) := by decide +kernel
theorem dX1_fillLeastCosts_16 : decode cX1_fillLeastCosts 16 = .ok (.invokestatic 57, 3) := by decide +kernel
theorem dX1_fillLeastCosts_19 : decode cX1_fillLeastCosts 19 = .ok (.ifCond .eq 7, 3) := by decide +kernel
theorem dX1_fillLeastCosts_22 : decode cX1_fillLeastCosts 22 = .ok (.iconst 0, 1) := by decide +kernel
theorem dX1_fillLeastCosts_23 : decode cX1_fillLeastCosts 23 = .ok (.goto 5, 3) := by decide +kernel
theorem dX1_fillLeastCosts_26 : decode cX1_fillLeastCosts 26 = .ok (.ldc 82, 2) := by decide +kernel
theorem dX1_fillLeastCosts_28 : decode cX1_fillLeastCosts 28 = .ok (.iastore, 1) := by decide +kernel
theorem dX1_fillLeastCosts_29 : decode cX1_fillLeastCosts 29 = .ok (.iinc 4 1, 3) := by decide +kernel
theorem dX1_fillLeastCosts_32 : decode cX1_fillLeastCosts 32 = .ok (.goto (-29), 3) := by decide +kernel
theorem dX1_fillLeastCosts_35 : decode cX1_fillLeastCosts 35 = .ok (.iconst 1, 1) := by decide +kernel
theorem dX1_fillLeastCosts_36 : decode cX1_fillLeastCosts 36 = .ok (.istore 4, 2) := by decide +kernel
theorem dX1_fillLeastCosts_38 : decode cX1_fillLeastCosts 38 = .ok (.iload 4, 2) := by decide +kernel
theorem dX1_fillLeastCosts_40 : decode cX1_fillLeastCosts 40 = .ok (.aload_n 0, 1) := by decide +kernel
theorem dX1_fillLeastCosts_41 : decode cX1_fillLeastCosts 41 = .ok (.getfield 9, 3) := by decide +kernel
theorem dX1_fillLeastCosts_44 : decode cX1_fillLeastCosts 44 = .ok (.if_icmp .ge 15, 3) := by decide +kernel
theorem dX1_fillLeastCosts_47 : decode cX1_fillLeastCosts 47 = .ok (.aload_n 0, 1) := by decide +kernel
theorem dX1_fillLeastCosts_48 : decode cX1_fillLeastCosts 48 = .ok (.iload_n 2, 1) := by decide +kernel
theorem dX1_fillLeastCosts_49 : decode cX1_fillLeastCosts 49 = .ok (.aload_n 3, 1) := by decide +kernel
theorem dX1_fillLeastCosts_50 : decode cX1_fillLeastCosts 50 = .ok (.invokevirtual 83, 3) := by decide +kernel
theorem dX1_fillLeastCosts_53 : decode cX1_fillLeastCosts 53 = .ok (.iinc 4 1, 3) := by decide +kernel
theorem dX1_fillLeastCosts_56 : decode cX1_fillLeastCosts 56 = .ok (.goto (-18), 3) := by decide +kernel
theorem dX1_fillLeastCosts_59 : decode cX1_fillLeastCosts 59 = .ok (.iconst 0, 1) := by decide +kernel
theorem dX1_fillLeastCosts_60 : decode cX1_fillLeastCosts 60 = .ok (.istore 4, 2) := by decide +kernel
theorem dX1_fillLeastCosts_62 : decode cX1_fillLeastCosts 62 = .ok (.iload 4, 2) := by decide +kernel
theorem dX1_fillLeastCosts_64 : decode cX1_fillLeastCosts 64 = .ok (.bipush 10, 2) := by decide +kernel
theorem dX1_fillLeastCosts_66 : decode cX1_fillLeastCosts 66 = .ok (.if_icmp .ge 23, 3) := by decide +kernel
theorem dX1_fillLeastCosts_69 : decode cX1_fillLeastCosts 69 = .ok (.aload_n 3, 1) := by decide +kernel
theorem dX1_fillLeastCosts_70 : decode cX1_fillLeastCosts 70 = .ok (.iload 4, 2) := by decide +kernel
theorem dX1_fillLeastCosts_72 : decode cX1_fillLeastCosts 72 = .ok (.iaload, 1) := by decide +kernel
theorem dX1_fillLeastCosts_73 : decode cX1_fillLeastCosts 73 = .ok (.ldc 82, 2) := by decide +kernel
theorem dX1_fillLeastCosts_75 : decode cX1_fillLeastCosts 75 = .ok (.if_icmp .ne 8, 3) := by decide +kernel
theorem dX1_fillLeastCosts_78 : decode cX1_fillLeastCosts 78 = .ok (.aload_n 3, 1) := by decide +kernel
theorem dX1_fillLeastCosts_79 : decode cX1_fillLeastCosts 79 = .ok (.iload 4, 2) := by decide +kernel
theorem dX1_fillLeastCosts_81 : decode cX1_fillLeastCosts 81 = .ok (.iconst (-1), 1) := by decide +kernel
theorem dX1_fillLeastCosts_82 : decode cX1_fillLeastCosts 82 = .ok (.iastore, 1) := by decide +kernel
theorem dX1_fillLeastCosts_83 : decode cX1_fillLeastCosts 83 = .ok (.iinc 4 1, 3) := by decide +kernel
theorem dX1_fillLeastCosts_86 : decode cX1_fillLeastCosts 86 = .ok (.goto (-24), 3) := by decide +kernel
theorem dX1_fillLeastCosts_89 : decode cX1_fillLeastCosts 89 = .ok (.return_, 1) := by decide +kernel
theorem dX1_lowerCosts_0 : decode cX1_lowerCosts 0 = .ok (.iconst 0, 1) := by decide +kernel
theorem dX1_lowerCosts_1 : decode cX1_lowerCosts 1 = .ok (.istore_n 3, 1) := by decide +kernel
theorem dX1_lowerCosts_2 : decode cX1_lowerCosts 2 = .ok (.iload_n 3, 1) := by decide +kernel
theorem dX1_lowerCosts_3 : decode cX1_lowerCosts 3 = .ok (.aload_n 0, 1) := by decide +kernel
theorem dX1_lowerCosts_4 : decode cX1_lowerCosts 4 = .ok (.getfield 15, 3) := by decide +kernel
theorem dX1_lowerCosts_7 : decode cX1_lowerCosts 7 = .ok (.if_icmp .ge 94, 3) := by decide +kernel
theorem dX1_lowerCosts_10 : decode cX1_lowerCosts 10 = .ok (.iload_n 1, 1) := by decide +kernel
theorem dX1_lowerCosts_11 : decode cX1_lowerCosts 11 = .ok (.iload_n 3, 1) := by decide +kernel
theorem dX1_lowerCosts_12 : decode cX1_lowerCosts 12 = .ok (.invokestatic 57, 3) := by decide +kernel
theorem dX1_lowerCosts_15 : decode cX1_lowerCosts 15 = .ok (.ifCond .eq 80, 3) := by decide +kernel
theorem dX1_lowerCosts_18 : decode cX1_lowerCosts 18 = .ok (.aload_n 2, 1) := by decide +kernel
theorem dX1_lowerCosts_19 : decode cX1_lowerCosts 19 = .ok (.aload_n 0, 1) := by decide +kernel
theorem dX1_lowerCosts_20 : decode cX1_lowerCosts 20 = .ok (.getfield 18, 3) := by decide +kernel
theorem dX1_lowerCosts_23 : decode cX1_lowerCosts 23 = .ok (.iload_n 3, 1) := by decide +kernel
theorem dX1_lowerCosts_24 : decode cX1_lowerCosts 24 = .ok (.iaload, 1) := by decide +kernel
theorem dX1_lowerCosts_25 : decode cX1_lowerCosts 25 = .ok (.iaload, 1) := by decide +kernel
theorem dX1_lowerCosts_26 : decode cX1_lowerCosts 26 = .ok (.istore 4, 2) := by decide +kernel
theorem dX1_lowerCosts_28 : decode cX1_lowerCosts 28 = .ok (.aload_n 2, 1) := by decide +kernel
theorem dX1_lowerCosts_29 : decode cX1_lowerCosts 29 = .ok (.aload_n 0, 1) := by decide +kernel
theorem dX1_lowerCosts_30 : decode cX1_lowerCosts 30 = .ok (.getfield 22, 3) := by decide +kernel
theorem dX1_lowerCosts_33 : decode cX1_lowerCosts 33 = .ok (.iload_n 3, 1) := by decide +kernel
theorem dX1_lowerCosts_34 : decode cX1_lowerCosts 34 = .ok (.iaload, 1) := by decide +kernel
theorem dX1_lowerCosts_35 : decode cX1_lowerCosts 35 = .ok (.iaload, 1) := by decide +kernel
theorem dX1_lowerCosts_36 : decode cX1_lowerCosts 36 = .ok (.istore 5, 2) := by decide +kernel
theorem dX1_lowerCosts_38 : decode cX1_lowerCosts 38 = .ok (.aload_n 2, 1) := by decide +kernel
theorem dX1_lowerCosts_39 : decode cX1_lowerCosts 39 = .ok (.aload_n 0, 1) := by decide +kernel
theorem dX1_lowerCosts_40 : decode cX1_lowerCosts 40 = .ok (.getfield 22, 3) := by decide +kernel
theorem dX1_lowerCosts_43 : decode cX1_lowerCosts 43 = .ok (.iload_n 3, 1) := by decide +kernel
theorem dX1_lowerCosts_44 : decode cX1_lowerCosts 44 = .ok (.iaload, 1) := by decide +kernel
theorem dX1_lowerCosts_45 : decode cX1_lowerCosts 45 = .ok (.iload 5, 2) := by decide +kernel
theorem dX1_lowerCosts_47 : decode cX1_lowerCosts 47 = .ok (.iload 4, 2) := by decide +kernel
theorem dX1_lowerCosts_49 : decode cX1_lowerCosts 49 = .ok (.aload_n 0, 1) := by decide +kernel
theorem dX1_lowerCosts_50 : decode cX1_lowerCosts 50 = .ok (.getfield 25, 3) := by decide +kernel
theorem dX1_lowerCosts_53 : decode cX1_lowerCosts 53 = .ok (.iload_n 3, 1) := by decide +kernel
theorem dX1_lowerCosts_54 : decode cX1_lowerCosts 54 = .ok (.iaload, 1) := by decide +kernel
theorem dX1_lowerCosts_55 : decode cX1_lowerCosts 55 = .ok (.invokestatic 87, 3) := by decide +kernel
theorem dX1_lowerCosts_58 : decode cX1_lowerCosts 58 = .ok (.invokestatic 90, 3) := by decide +kernel
theorem dX1_lowerCosts_61 : decode cX1_lowerCosts 61 = .ok (.iastore, 1) := by decide +kernel
theorem dX1_lowerCosts_62 : decode cX1_lowerCosts 62 = .ok (.aload_n 0, 1) := by decide +kernel
theorem dX1_lowerCosts_63 : decode cX1_lowerCosts 63 = .ok (.getfield 28, 3) := by decide +kernel
theorem dX1_lowerCosts_66 : decode cX1_lowerCosts 66 = .ok (.iload_n 3, 1) := by decide +kernel
theorem dX1_lowerCosts_67 : decode cX1_lowerCosts 67 = .ok (.baload, 1) := by decide +kernel
theorem dX1_lowerCosts_68 : decode cX1_lowerCosts 68 = .ok (.ifCond .ne 27, 3) := by decide +kernel
theorem dX1_lowerCosts_71 : decode cX1_lowerCosts 71 = .ok (.aload_n 2, 1) := by decide +kernel
theorem dX1_lowerCosts_72 : decode cX1_lowerCosts 72 = .ok (.aload_n 0, 1) := by decide +kernel
theorem dX1_lowerCosts_73 : decode cX1_lowerCosts 73 = .ok (.getfield 18, 3) := by decide +kernel
theorem dX1_lowerCosts_76 : decode cX1_lowerCosts 76 = .ok (.iload_n 3, 1) := by decide +kernel
theorem dX1_lowerCosts_77 : decode cX1_lowerCosts 77 = .ok (.iaload, 1) := by decide +kernel
theorem dX1_lowerCosts_78 : decode cX1_lowerCosts 78 = .ok (.iload 4, 2) := by decide +kernel
theorem dX1_lowerCosts_80 : decode cX1_lowerCosts 80 = .ok (.iload 5, 2) := by decide +kernel
theorem dX1_lowerCosts_82 : decode cX1_lowerCosts 82 = .ok (.aload_n 0, 1) := by decide +kernel
theorem dX1_lowerCosts_83 : decode cX1_lowerCosts 83 = .ok (.getfield 25, 3) := by decide +kernel
theorem dX1_lowerCosts_86 : decode cX1_lowerCosts 86 = .ok (.iload_n 3, 1) := by decide +kernel
theorem dX1_lowerCosts_87 : decode cX1_lowerCosts 87 = .ok (.iaload, 1) := by decide +kernel
theorem dX1_lowerCosts_88 : decode cX1_lowerCosts 88 = .ok (.invokestatic 87, 3) := by decide +kernel
theorem dX1_lowerCosts_91 : decode cX1_lowerCosts 91 = .ok (.invokestatic 90, 3) := by decide +kernel
theorem dX1_lowerCosts_94 : decode cX1_lowerCosts 94 = .ok (.iastore, 1) := by decide +kernel
theorem dX1_lowerCosts_95 : decode cX1_lowerCosts 95 = .ok (.iinc 3 1, 3) := by decide +kernel
theorem dX1_lowerCosts_98 : decode cX1_lowerCosts 98 = .ok (.goto (-96), 3) := by decide +kernel
theorem dX1_lowerCosts_101 : decode cX1_lowerCosts 101 = .ok (.return_, 1) := by decide +kernel
theorem dX1_added_0 : decode cX1_added 0 = .ok (.iload_n 0, 1) := by decide +kernel
theorem dX1_added_1 : decode cX1_added 1 = .ok (.ldc 82, 2) := by decide +kernel
theorem dX1_added_3 : decode cX1_added 3 = .ok (.if_icmp .ne 8, 3) := by decide +kernel
theorem dX1_added_6 : decode cX1_added 6 = .ok (.ldc 82, 2) := by decide +kernel
theorem dX1_added_8 : decode cX1_added 8 = .ok (.goto 6, 3) := by decide +kernel
theorem dX1_added_11 : decode cX1_added 11 = .ok (.iload_n 0, 1) := by decide +kernel
theorem dX1_added_12 : decode cX1_added 12 = .ok (.iload_n 1, 1) := by decide +kernel
theorem dX1_added_13 : decode cX1_added 13 = .ok (.iadd, 1) := by decide +kernel
theorem dX1_added_14 : decode cX1_added 14 = .ok (.ireturn, 1) := by decide +kernel
theorem dX2_init_0 : decode cX2_init 0 = .ok (.aload_n 0, 1) := by decide +kernel
theorem dX2_init_1 : decode cX2_init 1 = .ok (.invokespecial 3, 3) := by decide +kernel
theorem dX2_init_4 : decode cX2_init 4 = .ok (.aload_n 0, 1) := by decide +kernel
theorem dX2_init_5 : decode cX2_init 5 = .ok (.bipush 10, 2) := by decide +kernel
theorem dX2_init_7 : decode cX2_init 7 = .ok (.anewarray 9, 3) := by decide +kernel
theorem dX2_init_10 : decode cX2_init 10 = .ok (.putfield 11, 3) := by decide +kernel
theorem dX2_init_13 : decode cX2_init 13 = .ok (.aload_n 0, 1) := by decide +kernel
theorem dX2_init_14 : decode cX2_init 14 = .ok (.iconst 0, 1) := by decide +kernel
theorem dX2_init_15 : decode cX2_init 15 = .ok (.putfield 17, 3) := by decide +kernel
theorem dX2_init_18 : decode cX2_init 18 = .ok (.aload_n 0, 1) := by decide +kernel
theorem dX2_init_19 : decode cX2_init 19 = .ok (.iconst 0, 1) := by decide +kernel
theorem dX2_init_20 : decode cX2_init 20 = .ok (.putfield 21, 3) := by decide +kernel
theorem dX2_init_23 : decode cX2_init 23 = .ok (.iconst 0, 1) := by decide +kernel
theorem dX2_init_24 : decode cX2_init 24 = .ok (.istore_n 1, 1) := by decide +kernel
theorem dX2_init_25 : decode cX2_init 25 = .ok (.iload_n 1, 1) := by decide +kernel
theorem dX2_init_26 : decode cX2_init 26 = .ok (.bipush 10, 2) := by decide +kernel
theorem dX2_init_28 : decode cX2_init 28 = .ok (.if_icmp .ge 22, 3) := by decide +kernel
theorem dX2_init_31 : decode cX2_init 31 = .ok (.aload_n 0, 1) := by decide +kernel
theorem dX2_init_32 : decode cX2_init 32 = .ok (.getfield 11, 3) := by decide +kernel
theorem dX2_init_35 : decode cX2_init 35 = .ok (.iload_n 1, 1) := by decide +kernel
theorem dX2_init_36 : decode cX2_init 36 = .ok (.new 9, 3) := by decide +kernel
theorem dX2_init_39 : decode cX2_init 39 = .ok (.dup, 1) := by decide +kernel
theorem dX2_init_40 : decode cX2_init 40 = .ok (.invokespecial 24, 3) := by decide +kernel
theorem dX2_init_43 : decode cX2_init 43 = .ok (.aastore, 1) := by decide +kernel
theorem dX2_init_44 : decode cX2_init 44 = .ok (.iinc 1 1, 3) := by decide +kernel
theorem dX2_init_47 : decode cX2_init 47 = .ok (.goto (-22), 3) := by decide +kernel
theorem dX2_init_50 : decode cX2_init 50 = .ok (.return_, 1) := by decide +kernel
theorem dX2_forget_0 : decode cX2_forget 0 = .ok (.aload_n 0, 1) := by decide +kernel
theorem dX2_forget_1 : decode cX2_forget 1 = .ok (.iconst 0, 1) := by decide +kernel
theorem dX2_forget_2 : decode cX2_forget 2 = .ok (.putfield 21, 3) := by decide +kernel
theorem dX2_forget_5 : decode cX2_forget 5 = .ok (.return_, 1) := by decide +kernel
theorem dX2_remember_0 : decode cX2_remember 0 = .ok (.aload_n 0, 1) := by decide +kernel
theorem dX2_remember_1 : decode cX2_remember 1 = .ok (.getfield 11, 3) := by decide +kernel
theorem dX2_remember_4 : decode cX2_remember 4 = .ok (.aload_n 0, 1) := by decide +kernel
theorem dX2_remember_5 : decode cX2_remember 5 = .ok (.getfield 17, 3) := by decide +kernel
theorem dX2_remember_8 : decode cX2_remember 8 = .ok (.aaload, 1) := by decide +kernel
theorem dX2_remember_9 : decode cX2_remember 9 = .ok (.aload_n 1, 1) := by decide +kernel
theorem dX2_remember_10 : decode cX2_remember 10 = .ok (.invokevirtual 25, 3) := by decide +kernel
theorem dX2_remember_13 : decode cX2_remember 13 = .ok (.aload_n 0, 1) := by decide +kernel
theorem dX2_remember_14 : decode cX2_remember 14 = .ok (.aload_n 0, 1) := by decide +kernel
theorem dX2_remember_15 : decode cX2_remember 15 = .ok (.getfield 17, 3) := by decide +kernel
theorem dX2_remember_18 : decode cX2_remember 18 = .ok (.iconst 1, 1) := by decide +kernel
theorem dX2_remember_19 : decode cX2_remember 19 = .ok (.iadd, 1) := by decide +kernel
theorem dX2_remember_20 : decode cX2_remember 20 = .ok (.bipush 10, 2) := by decide +kernel
theorem dX2_remember_22 : decode cX2_remember 22 = .ok (.irem, 1) := by decide +kernel
theorem dX2_remember_23 : decode cX2_remember 23 = .ok (.putfield 17, 3) := by decide +kernel
theorem dX2_remember_26 : decode cX2_remember 26 = .ok (.aload_n 0, 1) := by decide +kernel
theorem dX2_remember_27 : decode cX2_remember 27 = .ok (.aload_n 0, 1) := by decide +kernel
theorem dX2_remember_28 : decode cX2_remember 28 = .ok (.getfield 21, 3) := by decide +kernel
theorem dX2_remember_31 : decode cX2_remember 31 = .ok (.iconst 1, 1) := by decide +kernel
theorem dX2_remember_32 : decode cX2_remember 32 = .ok (.iadd, 1) := by decide +kernel
theorem dX2_remember_33 : decode cX2_remember 33 = .ok (.bipush 10, 2) := by decide +kernel
theorem dX2_remember_35 : decode cX2_remember 35 = .ok (.invokestatic 29, 3) := by decide +kernel
theorem dX2_remember_38 : decode cX2_remember 38 = .ok (.putfield 21, 3) := by decide +kernel
theorem dX2_remember_41 : decode cX2_remember 41 = .ok (.return_, 1) := by decide +kernel
theorem dX3_init_0 : decode cX3_init 0 = .ok (.aload_n 0, 1) := by decide +kernel
theorem dX3_init_1 : decode cX3_init 1 = .ok (.invokespecial 3, 3) := by decide +kernel
theorem dX3_init_4 : decode cX3_init 4 = .ok (.aload_n 0, 1) := by decide +kernel
theorem dX3_init_5 : decode cX3_init 5 = .ok (.bipush 10, 2) := by decide +kernel
theorem dX3_init_7 : decode cX3_init 7 = .ok (.newarray .int, 2) := by decide +kernel
theorem dX3_init_9 : decode cX3_init 9 = .ok (.putfield 9, 3) := by decide +kernel
theorem dX3_init_12 : decode cX3_init 12 = .ok (.aload_n 0, 1) := by decide +kernel
theorem dX3_init_13 : decode cX3_init 13 = .ok (.iconst 0, 1) := by decide +kernel
theorem dX3_init_14 : decode cX3_init 14 = .ok (.putfield 15, 3) := by decide +kernel
theorem dX3_init_17 : decode cX3_init 17 = .ok (.return_, 1) := by decide +kernel
theorem dX3_begin_0 : decode cX3_begin 0 = .ok (.aload_n 0, 1) := by decide +kernel
theorem dX3_begin_1 : decode cX3_begin 1 = .ok (.iload_n 1, 1) := by decide +kernel
theorem dX3_begin_2 : decode cX3_begin 2 = .ok (.putfield 15, 3) := by decide +kernel
theorem dX3_begin_5 : decode cX3_begin 5 = .ok (.iconst 0, 1) := by decide +kernel
theorem dX3_begin_6 : decode cX3_begin 6 = .ok (.istore_n 2, 1) := by decide +kernel
theorem dX3_begin_7 : decode cX3_begin 7 = .ok (.iload_n 2, 1) := by decide +kernel
theorem dX3_begin_8 : decode cX3_begin 8 = .ok (.bipush 10, 2) := by decide +kernel
theorem dX3_begin_10 : decode cX3_begin 10 = .ok (.if_icmp .ge 27, 3) := by decide +kernel
theorem dX3_begin_13 : decode cX3_begin 13 = .ok (.aload_n 0, 1) := by decide +kernel
theorem dX3_begin_14 : decode cX3_begin 14 = .ok (.getfield 9, 3) := by decide +kernel
theorem dX3_begin_17 : decode cX3_begin 17 = .ok (.iload_n 2, 1) := by decide +kernel
theorem dX3_begin_18 : decode cX3_begin 18 = .ok (.iload_n 2, 1) := by decide +kernel
theorem dX3_begin_19 : decode cX3_begin 19 = .ok (.iload_n 1, 1) := by decide +kernel
theorem dX3_begin_20 : decode cX3_begin 20 = .ok (.if_icmp .ge 9, 3) := by decide +kernel
theorem dX3_begin_23 : decode cX3_begin 23 = .ok (.iconst 1, 1) := by decide +kernel
theorem dX3_begin_24 : decode cX3_begin 24 = .ok (.iload_n 2, 1) := by decide +kernel
theorem dX3_begin_25 : decode cX3_begin 25 = .ok (.ishl, 1) := by decide +kernel
theorem dX3_begin_26 : decode cX3_begin 26 = .ok (.goto 4, 3) := by decide +kernel
theorem dX3_begin_29 : decode cX3_begin 29 = .ok (.iconst 0, 1) := by decide +kernel
theorem dX3_begin_30 : decode cX3_begin 30 = .ok (.iastore, 1) := by decide +kernel
theorem dX3_begin_31 : decode cX3_begin 31 = .ok (.iinc 2 1, 3) := by decide +kernel
theorem dX3_begin_34 : decode cX3_begin 34 = .ok (.goto (-27), 3) := by decide +kernel
theorem dX3_begin_37 : decode cX3_begin 37 = .ok (.return_, 1) := by decide +kernel
theorem dX3_copyFrom_0 : decode cX3_copyFrom 0 = .ok (.aload_n 0, 1) := by decide +kernel
theorem dX3_copyFrom_1 : decode cX3_copyFrom 1 = .ok (.aload_n 1, 1) := by decide +kernel
theorem dX3_copyFrom_2 : decode cX3_copyFrom 2 = .ok (.getfield 15, 3) := by decide +kernel
theorem dX3_copyFrom_5 : decode cX3_copyFrom 5 = .ok (.putfield 15, 3) := by decide +kernel
theorem dX3_copyFrom_8 : decode cX3_copyFrom 8 = .ok (.iconst 0, 1) := by decide +kernel
theorem dX3_copyFrom_9 : decode cX3_copyFrom 9 = .ok (.istore_n 2, 1) := by decide +kernel
theorem dX3_copyFrom_10 : decode cX3_copyFrom 10 = .ok (.iload_n 2, 1) := by decide +kernel
theorem dX3_copyFrom_11 : decode cX3_copyFrom 11 = .ok (.bipush 10, 2) := by decide +kernel
theorem dX3_copyFrom_13 : decode cX3_copyFrom 13 = .ok (.if_icmp .ge 21, 3) := by decide +kernel
theorem dX3_copyFrom_16 : decode cX3_copyFrom 16 = .ok (.aload_n 0, 1) := by decide +kernel
theorem dX3_copyFrom_17 : decode cX3_copyFrom 17 = .ok (.getfield 9, 3) := by decide +kernel
theorem dX3_copyFrom_20 : decode cX3_copyFrom 20 = .ok (.iload_n 2, 1) := by decide +kernel
theorem dX3_copyFrom_21 : decode cX3_copyFrom 21 = .ok (.aload_n 1, 1) := by decide +kernel
theorem dX3_copyFrom_22 : decode cX3_copyFrom 22 = .ok (.getfield 9, 3) := by decide +kernel
theorem dX3_copyFrom_25 : decode cX3_copyFrom 25 = .ok (.iload_n 2, 1) := by decide +kernel
theorem dX3_copyFrom_26 : decode cX3_copyFrom 26 = .ok (.iaload, 1) := by decide +kernel
theorem dX3_copyFrom_27 : decode cX3_copyFrom 27 = .ok (.iastore, 1) := by decide +kernel
theorem dX3_copyFrom_28 : decode cX3_copyFrom 28 = .ok (.iinc 2 1, 3) := by decide +kernel
theorem dX3_copyFrom_31 : decode cX3_copyFrom 31 = .ok (.goto (-21), 3) := by decide +kernel
theorem dX3_copyFrom_34 : decode cX3_copyFrom 34 = .ok (.return_, 1) := by decide +kernel
theorem dX3_knowersOf_0 : decode cX3_knowersOf 0 = .ok (.iconst 0, 1) := by decide +kernel
theorem dX3_knowersOf_1 : decode cX3_knowersOf 1 = .ok (.istore_n 2, 1) := by decide +kernel
theorem dX3_knowersOf_2 : decode cX3_knowersOf 2 = .ok (.iconst 0, 1) := by decide +kernel
theorem dX3_knowersOf_3 : decode cX3_knowersOf 3 = .ok (.istore_n 3, 1) := by decide +kernel
theorem dX3_knowersOf_4 : decode cX3_knowersOf 4 = .ok (.iload_n 3, 1) := by decide +kernel
theorem dX3_knowersOf_5 : decode cX3_knowersOf 5 = .ok (.aload_n 0, 1) := by decide +kernel
theorem dX3_knowersOf_6 : decode cX3_knowersOf 6 = .ok (.getfield 15, 3) := by decide +kernel
theorem dX3_knowersOf_9 : decode cX3_knowersOf 9 = .ok (.if_icmp .ge 28, 3) := by decide +kernel
theorem dX3_knowersOf_12 : decode cX3_knowersOf 12 = .ok (.aload_n 0, 1) := by decide +kernel
theorem dX3_knowersOf_13 : decode cX3_knowersOf 13 = .ok (.getfield 9, 3) := by decide +kernel
theorem dX3_knowersOf_16 : decode cX3_knowersOf 16 = .ok (.iload_n 3, 1) := by decide +kernel
theorem dX3_knowersOf_17 : decode cX3_knowersOf 17 = .ok (.iaload, 1) := by decide +kernel
theorem dX3_knowersOf_18 : decode cX3_knowersOf 18 = .ok (.iload_n 1, 1) := by decide +kernel
theorem dX3_knowersOf_19 : decode cX3_knowersOf 19 = .ok (.invokestatic 19, 3) := by decide +kernel
theorem dX3_knowersOf_22 : decode cX3_knowersOf 22 = .ok (.ifCond .eq 9, 3) := by decide +kernel
theorem dX3_knowersOf_25 : decode cX3_knowersOf 25 = .ok (.iload_n 2, 1) := by decide +kernel
theorem dX3_knowersOf_26 : decode cX3_knowersOf 26 = .ok (.iconst 1, 1) := by decide +kernel
theorem dX3_knowersOf_27 : decode cX3_knowersOf 27 = .ok (.iload_n 3, 1) := by decide +kernel
theorem dX3_knowersOf_28 : decode cX3_knowersOf 28 = .ok (.ishl, 1) := by decide +kernel
theorem dX3_knowersOf_29 : decode cX3_knowersOf 29 = .ok (.ior, 1) := by decide +kernel
theorem dX3_knowersOf_30 : decode cX3_knowersOf 30 = .ok (.istore_n 2, 1) := by decide +kernel
theorem dX3_knowersOf_31 : decode cX3_knowersOf 31 = .ok (.iinc 3 1, 3) := by decide +kernel
theorem dX3_knowersOf_34 : decode cX3_knowersOf 34 = .ok (.goto (-30), 3) := by decide +kernel
theorem dX3_knowersOf_37 : decode cX3_knowersOf 37 = .ok (.iload_n 2, 1) := by decide +kernel
theorem dX3_knowersOf_38 : decode cX3_knowersOf 38 = .ok (.ireturn, 1) := by decide +kernel
theorem dX3_missingPieces_0 : decode cX3_missingPieces 0 = .ok (.aload_n 0, 1) := by decide +kernel
theorem dX3_missingPieces_1 : decode cX3_missingPieces 1 = .ok (.getfield 15, 3) := by decide +kernel
theorem dX3_missingPieces_4 : decode cX3_missingPieces 4 = .ok (.aload_n 0, 1) := by decide +kernel
theorem dX3_missingPieces_5 : decode cX3_missingPieces 5 = .ok (.getfield 15, 3) := by decide +kernel
theorem dX3_missingPieces_8 : decode cX3_missingPieces 8 = .ok (.imul, 1) := by decide +kernel
theorem dX3_missingPieces_9 : decode cX3_missingPieces 9 = .ok (.istore_n 1, 1) := by decide +kernel
theorem dX3_missingPieces_10 : decode cX3_missingPieces 10 = .ok (.iconst 0, 1) := by decide +kernel
theorem dX3_missingPieces_11 : decode cX3_missingPieces 11 = .ok (.istore_n 2, 1) := by decide +kernel
theorem dX3_missingPieces_12 : decode cX3_missingPieces 12 = .ok (.iload_n 2, 1) := by decide +kernel
theorem dX3_missingPieces_13 : decode cX3_missingPieces 13 = .ok (.aload_n 0, 1) := by decide +kernel
theorem dX3_missingPieces_14 : decode cX3_missingPieces 14 = .ok (.getfield 15, 3) := by decide +kernel
theorem dX3_missingPieces_17 : decode cX3_missingPieces 17 = .ok (.if_icmp .ge 21, 3) := by decide +kernel
theorem dX3_missingPieces_20 : decode cX3_missingPieces 20 = .ok (.iload_n 1, 1) := by decide +kernel
theorem dX3_missingPieces_21 : decode cX3_missingPieces 21 = .ok (.aload_n 0, 1) := by decide +kernel
theorem dX3_missingPieces_22 : decode cX3_missingPieces 22 = .ok (.getfield 9, 3) := by decide +kernel
theorem dX3_missingPieces_25 : decode cX3_missingPieces 25 = .ok (.iload_n 2, 1) := by decide +kernel
theorem dX3_missingPieces_26 : decode cX3_missingPieces 26 = .ok (.iaload, 1) := by decide +kernel
theorem dX3_missingPieces_27 : decode cX3_missingPieces 27 = .ok (.invokestatic 23, 3) := by decide +kernel
theorem dX3_missingPieces_30 : decode cX3_missingPieces 30 = .ok (.isub, 1) := by decide +kernel
theorem dX3_missingPieces_31 : decode cX3_missingPieces 31 = .ok (.istore_n 1, 1) := by decide +kernel
theorem dX3_missingPieces_32 : decode cX3_missingPieces 32 = .ok (.iinc 2 1, 3) := by decide +kernel
theorem dX3_missingPieces_35 : decode cX3_missingPieces 35 = .ok (.goto (-23), 3) := by decide +kernel
theorem dX3_missingPieces_38 : decode cX3_missingPieces 38 = .ok (.iload_n 1, 1) := by decide +kernel
theorem dX3_missingPieces_39 : decode cX3_missingPieces 39 = .ok (.ireturn, 1) := by decide +kernel
theorem dX4_init_0 : decode cX4_init 0 = .ok (.aload_n 0, 1) := by decide +kernel
theorem dX4_init_1 : decode cX4_init 1 = .ok (.invokespecial 3, 3) := by decide +kernel
theorem dX4_init_4 : decode cX4_init 4 = .ok (.aload_n 0, 1) := by decide +kernel
theorem dX4_init_5 : decode cX4_init 5 = .ok (.new 9, 3) := by decide +kernel
theorem dX4_init_8 : decode cX4_init 8 = .ok (.dup, 1) := by decide +kernel
theorem dX4_init_9 : decode cX4_init 9 = .ok (.invokespecial 11, 3) := by decide +kernel
theorem dX4_init_12 : decode cX4_init 12 = .ok (.putfield 12, 3) := by decide +kernel
theorem dX4_init_15 : decode cX4_init 15 = .ok (.aload_n 0, 1) := by decide +kernel
theorem dX4_init_16 : decode cX4_init 16 = .ok (.iconst 0, 1) := by decide +kernel
theorem dX4_init_17 : decode cX4_init 17 = .ok (.putfield 18, 3) := by decide +kernel
theorem dX4_init_20 : decode cX4_init 20 = .ok (.aload_n 0, 1) := by decide +kernel
theorem dX4_init_21 : decode cX4_init 21 = .ok (.iconst 0, 1) := by decide +kernel
theorem dX4_init_22 : decode cX4_init 22 = .ok (.putfield 22, 3) := by decide +kernel
theorem dX4_init_25 : decode cX4_init 25 = .ok (.aload_n 0, 1) := by decide +kernel
theorem dX4_init_26 : decode cX4_init 26 = .ok (.iconst 0, 1) := by decide +kernel
theorem dX4_init_27 : decode cX4_init 27 = .ok (.putfield 25, 3) := by decide +kernel
theorem dX4_init_30 : decode cX4_init 30 = .ok (.return_, 1) := by decide +kernel
theorem dX4_make_0 : decode cX4_make 0 = .ok (.aload_n 0, 1) := by decide +kernel
theorem dX4_make_1 : decode cX4_make 1 = .ok (.getfield 12, 3) := by decide +kernel
theorem dX4_make_4 : decode cX4_make 4 = .ok (.aload_n 2, 1) := by decide +kernel
theorem dX4_make_5 : decode cX4_make 5 = .ok (.getfield 28, 3) := by decide +kernel
theorem dX4_make_8 : decode cX4_make 8 = .ok (.invokevirtual 31, 3) := by decide +kernel
theorem dX4_make_11 : decode cX4_make 11 = .ok (.aload_n 0, 1) := by decide +kernel
theorem dX4_make_12 : decode cX4_make 12 = .ok (.iconst 0, 1) := by decide +kernel
theorem dX4_make_13 : decode cX4_make 13 = .ok (.putfield 18, 3) := by decide +kernel
theorem dX4_make_16 : decode cX4_make 16 = .ok (.aload_n 0, 1) := by decide +kernel
theorem dX4_make_17 : decode cX4_make 17 = .ok (.iconst 0, 1) := by decide +kernel
theorem dX4_make_18 : decode cX4_make 18 = .ok (.putfield 22, 3) := by decide +kernel
theorem dX4_make_21 : decode cX4_make 21 = .ok (.aload_n 0, 1) := by decide +kernel
theorem dX4_make_22 : decode cX4_make 22 = .ok (.iconst 0, 1) := by decide +kernel
theorem dX4_make_23 : decode cX4_make 23 = .ok (.putfield 25, 3) := by decide +kernel
theorem dX4_make_26 : decode cX4_make 26 = .ok (.aload_n 0, 1) := by decide +kernel
theorem dX4_make_27 : decode cX4_make 27 = .ok (.getfield 18, 3) := by decide +kernel
theorem dX4_make_30 : decode cX4_make 30 = .ok (.bipush 40, 2) := by decide +kernel
theorem dX4_make_32 : decode cX4_make 32 = .ok (.if_icmp .ge 100, 3) := by decide +kernel
theorem dX4_make_35 : decode cX4_make 35 = .ok (.aload_n 0, 1) := by decide +kernel
theorem dX4_make_36 : decode cX4_make 36 = .ok (.getfield 12, 3) := by decide +kernel
theorem dX4_make_39 : decode cX4_make 39 = .ok (.invokevirtual 35, 3) := by decide +kernel
theorem dX4_make_42 : decode cX4_make 42 = .ok (.ifCond .le 90, 3) := by decide +kernel
theorem dX4_make_45 : decode cX4_make 45 = .ok (.aload_n 0, 1) := by decide +kernel
theorem dX4_make_46 : decode cX4_make 46 = .ok (.dup, 1) := by decide +kernel
theorem dX4_make_47 : decode cX4_make 47 = .ok (.getfield 18, 3) := by decide +kernel
theorem dX4_make_50 : decode cX4_make 50 = .ok (.iconst 1, 1) := by decide +kernel
theorem dX4_make_51 : decode cX4_make 51 = .ok (.iadd, 1) := by decide +kernel
theorem dX4_make_52 : decode cX4_make 52 = .ok (.putfield 18, 3) := by decide +kernel
theorem dX4_make_55 : decode cX4_make 55 = .ok (.aload_n 1, 1) := by decide +kernel
theorem dX4_make_56 : decode cX4_make 56 = .ok (.aload_n 2, 1) := by decide +kernel
theorem dX4_make_57 : decode cX4_make 57 = .ok (.getfield 39, 3) := by decide +kernel
theorem dX4_make_60 : decode cX4_make 60 = .ok (.aload_n 0, 1) := by decide +kernel
theorem dX4_make_61 : decode cX4_make 61 = .ok (.getfield 18, 3) := by decide +kernel
theorem dX4_make_64 : decode cX4_make 64 = .ok (.iadd, 1) := by decide +kernel
theorem dX4_make_65 : decode cX4_make 65 = .ok (.invokevirtual 40, 3) := by decide +kernel
theorem dX4_make_68 : decode cX4_make 68 = .ok (.aload_n 2, 1) := by decide +kernel
theorem dX4_make_69 : decode cX4_make 69 = .ok (.getfield 46, 3) := by decide +kernel
theorem dX4_make_72 : decode cX4_make 72 = .ok (.iconst (-1), 1) := by decide +kernel
theorem dX4_make_73 : decode cX4_make 73 = .ok (.ixor, 1) := by decide +kernel
theorem dX4_make_74 : decode cX4_make 74 = .ok (.iand, 1) := by decide +kernel
theorem dX4_make_75 : decode cX4_make 75 = .ok (.istore 4, 2) := by decide +kernel
theorem dX4_make_77 : decode cX4_make 77 = .ok (.aload_n 3, 1) := by decide +kernel
theorem dX4_make_78 : decode cX4_make 78 = .ok (.aload_n 1, 1) := by decide +kernel
theorem dX4_make_79 : decode cX4_make 79 = .ok (.iload 4, 2) := by decide +kernel
theorem dX4_make_81 : decode cX4_make 81 = .ok (.aload_n 0, 1) := by decide +kernel
theorem dX4_make_82 : decode cX4_make 82 = .ok (.getfield 12, 3) := by decide +kernel
theorem dX4_make_85 : decode cX4_make 85 = .ok (.invokevirtual 49, 3) := by decide +kernel
theorem dX4_make_88 : decode cX4_make 88 = .ok (.istore 5, 2) := by decide +kernel
theorem dX4_make_90 : decode cX4_make 90 = .ok (.aload_n 1, 1) := by decide +kernel
theorem dX4_make_91 : decode cX4_make 91 = .ok (.iload 5, 2) := by decide +kernel
theorem dX4_make_93 : decode cX4_make 93 = .ok (.aload_n 0, 1) := by decide +kernel
theorem dX4_make_94 : decode cX4_make 94 = .ok (.getfield 12, 3) := by decide +kernel
theorem dX4_make_97 : decode cX4_make 97 = .ok (.invokevirtual 55, 3) := by decide +kernel
theorem dX4_make_100 : decode cX4_make 100 = .ok (.aload_n 0, 1) := by decide +kernel
theorem dX4_make_101 : decode cX4_make 101 = .ok (.dup, 1) := by decide +kernel
theorem dX4_make_102 : decode cX4_make 102 = .ok (.getfield 22, 3) := by decide +kernel
theorem dX4_make_105 : decode cX4_make 105 = .ok (.iload 5, 2) := by decide +kernel
theorem dX4_make_107 : decode cX4_make 107 = .ok (.invokestatic 59, 3) := by decide +kernel
theorem dX4_make_110 : decode cX4_make 110 = .ok (.iadd, 1) := by decide +kernel
theorem dX4_make_111 : decode cX4_make 111 = .ok (.putfield 22, 3) := by decide +kernel
theorem dX4_make_114 : decode cX4_make 114 = .ok (.aload_n 0, 1) := by decide +kernel
theorem dX4_make_115 : decode cX4_make 115 = .ok (.dup, 1) := by decide +kernel
theorem dX4_make_116 : decode cX4_make 116 = .ok (.getfield 25, 3) := by decide +kernel
theorem dX4_make_119 : decode cX4_make 119 = .ok (.aload_n 1, 1) := by decide +kernel
theorem dX4_make_120 : decode cX4_make 120 = .ok (.iload 5, 2) := by decide +kernel
theorem dX4_make_122 : decode cX4_make 122 = .ok (.invokevirtual 64, 3) := by decide +kernel
theorem dX4_make_125 : decode cX4_make 125 = .ok (.iadd, 1) := by decide +kernel
theorem dX4_make_126 : decode cX4_make 126 = .ok (.putfield 25, 3) := by decide +kernel
theorem dX4_make_129 : decode cX4_make 129 = .ok (.goto (-103), 3) := by decide +kernel
theorem dX4_make_132 : decode cX4_make 132 = .ok (.return_, 1) := by decide +kernel
theorem dX5_init_0 : decode cX5_init 0 = .ok (.aload_n 0, 1) := by decide +kernel
theorem dX5_init_1 : decode cX5_init 1 = .ok (.invokespecial 1, 3) := by decide +kernel
theorem dX5_init_4 : decode cX5_init 4 = .ok (.aload_n 0, 1) := by decide +kernel
theorem dX5_init_5 : decode cX5_init 5 = .ok (.iload_n 1, 1) := by decide +kernel
theorem dX5_init_6 : decode cX5_init 6 = .ok (.putfield 7, 3) := by decide +kernel
theorem dX5_init_9 : decode cX5_init 9 = .ok (.aload_n 0, 1) := by decide +kernel
theorem dX5_init_10 : decode cX5_init 10 = .ok (.iload_n 2, 1) := by decide +kernel
theorem dX5_init_11 : decode cX5_init 11 = .ok (.putfield 13, 3) := by decide +kernel
theorem dX5_init_14 : decode cX5_init 14 = .ok (.aload_n 0, 1) := by decide +kernel
theorem dX5_init_15 : decode cX5_init 15 = .ok (.aload_n 3, 1) := by decide +kernel
theorem dX5_init_16 : decode cX5_init 16 = .ok (.putfield 16, 3) := by decide +kernel
theorem dX5_init_19 : decode cX5_init 19 = .ok (.return_, 1) := by decide +kernel
theorem dX6_init_0 : decode cX6_init 0 = .ok (.aload_n 0, 1) := by decide +kernel
theorem dX6_init_1 : decode cX6_init 1 = .ok (.invokespecial 3, 3) := by decide +kernel
theorem dX6_init_4 : decode cX6_init 4 = .ok (.aload_n 0, 1) := by decide +kernel
theorem dX6_init_5 : decode cX6_init 5 = .ok (.iconst 5, 1) := by decide +kernel
theorem dX6_init_6 : decode cX6_init 6 = .ok (.anewarray 9, 3) := by decide +kernel
theorem dX6_init_9 : decode cX6_init 9 = .ok (.putfield 11, 3) := by decide +kernel
theorem dX6_init_12 : decode cX6_init 12 = .ok (.aload_n 0, 1) := by decide +kernel
theorem dX6_init_13 : decode cX6_init 13 = .ok (.iconst 4, 1) := by decide +kernel
theorem dX6_init_14 : decode cX6_init 14 = .ok (.bipush 10, 2) := by decide +kernel
theorem dX6_init_16 : decode cX6_init 16 = .ok (.multianewarray 17 2, 4) := by decide +kernel
theorem dX6_init_20 : decode cX6_init 20 = .ok (.putfield 19, 3) := by decide +kernel
theorem dX6_init_23 : decode cX6_init 23 = .ok (.aload_n 0, 1) := by decide +kernel
theorem dX6_init_24 : decode cX6_init 24 = .ok (.iconst 4, 1) := by decide +kernel
theorem dX6_init_25 : decode cX6_init 25 = .ok (.bipush 10, 2) := by decide +kernel
theorem dX6_init_27 : decode cX6_init 27 = .ok (.multianewarray 17 2, 4) := by decide +kernel
theorem dX6_init_31 : decode cX6_init 31 = .ok (.putfield 22, 3) := by decide +kernel
theorem dX6_init_34 : decode cX6_init 34 = .ok (.aload_n 0, 1) := by decide +kernel
theorem dX6_init_35 : decode cX6_init 35 = .ok (.iconst 0, 1) := by decide +kernel
theorem dX6_init_36 : decode cX6_init 36 = .ok (.putfield 25, 3) := by decide +kernel
theorem dX6_init_39 : decode cX6_init 39 = .ok (.aload_n 0, 1) := by decide +kernel
theorem dX6_init_40 : decode cX6_init 40 = .ok (.iconst 0, 1) := by decide +kernel
theorem dX6_init_41 : decode cX6_init 41 = .ok (.putfield 29, 3) := by decide +kernel
theorem dX6_init_44 : decode cX6_init 44 = .ok (.iconst 0, 1) := by decide +kernel
theorem dX6_init_45 : decode cX6_init 45 = .ok (.istore_n 1, 1) := by decide +kernel
theorem dX6_init_46 : decode cX6_init 46 = .ok (.iload_n 1, 1) := by decide +kernel
theorem dX6_init_47 : decode cX6_init 47 = .ok (.iconst 4, 1) := by decide +kernel
theorem dX6_init_48 : decode cX6_init 48 = .ok (.if_icmp .gt 22, 3) := by decide +kernel
theorem dX6_init_51 : decode cX6_init 51 = .ok (.aload_n 0, 1) := by decide +kernel
theorem dX6_init_52 : decode cX6_init 52 = .ok (.getfield 11, 3) := by decide +kernel
theorem dX6_init_55 : decode cX6_init 55 = .ok (.iload_n 1, 1) := by decide +kernel
theorem dX6_init_56 : decode cX6_init 56 = .ok (.new 9, 3) := by decide +kernel
theorem dX6_init_59 : decode cX6_init 59 = .ok (.dup, 1) := by decide +kernel
theorem dX6_init_60 : decode cX6_init 60 = .ok (.invokespecial 32, 3) := by decide +kernel
theorem dX6_init_63 : decode cX6_init 63 = .ok (.aastore, 1) := by decide +kernel
theorem dX6_init_64 : decode cX6_init 64 = .ok (.iinc 1 1, 3) := by decide +kernel
theorem dX6_init_67 : decode cX6_init 67 = .ok (.goto (-21), 3) := by decide +kernel
theorem dX6_init_70 : decode cX6_init 70 = .ok (.return_, 1) := by decide +kernel
theorem dX7_init_0 : decode cX7_init 0 = .ok (.aload_n 0, 1) := by decide +kernel
theorem dX7_init_1 : decode cX7_init 1 = .ok (.invokespecial 3, 3) := by decide +kernel
theorem dX7_init_4 : decode cX7_init 4 = .ok (.aload_n 0, 1) := by decide +kernel
theorem dX7_init_5 : decode cX7_init 5 = .ok (.new 9, 3) := by decide +kernel
theorem dX7_init_8 : decode cX7_init 8 = .ok (.dup, 1) := by decide +kernel
theorem dX7_init_9 : decode cX7_init 9 = .ok (.invokespecial 11, 3) := by decide +kernel
theorem dX7_init_12 : decode cX7_init 12 = .ok (.putfield 12, 3) := by decide +kernel
theorem dX7_init_15 : decode cX7_init 15 = .ok (.aload_n 0, 1) := by decide +kernel
theorem dX7_init_16 : decode cX7_init 16 = .ok (.iconst 0, 1) := by decide +kernel
theorem dX7_init_17 : decode cX7_init 17 = .ok (.putfield 18, 3) := by decide +kernel
theorem dX7_init_20 : decode cX7_init 20 = .ok (.aload_n 0, 1) := by decide +kernel
theorem dX7_init_21 : decode cX7_init 21 = .ok (.iconst 0, 1) := by decide +kernel
theorem dX7_init_22 : decode cX7_init 22 = .ok (.putfield 22, 3) := by decide +kernel
theorem dX7_init_25 : decode cX7_init 25 = .ok (.aload_n 0, 1) := by decide +kernel
theorem dX7_init_26 : decode cX7_init 26 = .ok (.iconst 0, 1) := by decide +kernel
theorem dX7_init_27 : decode cX7_init 27 = .ok (.putfield 25, 3) := by decide +kernel
theorem dX7_init_30 : decode cX7_init 30 = .ok (.aload_n 0, 1) := by decide +kernel
theorem dX7_init_31 : decode cX7_init 31 = .ok (.iconst 0, 1) := by decide +kernel
theorem dX7_init_32 : decode cX7_init 32 = .ok (.putfield 28, 3) := by decide +kernel
theorem dX7_init_35 : decode cX7_init 35 = .ok (.aload_n 0, 1) := by decide +kernel
theorem dX7_init_36 : decode cX7_init 36 = .ok (.aconst_null, 1) := by decide +kernel
theorem dX7_init_37 : decode cX7_init 37 = .ok (.putfield 31, 3) := by decide +kernel
theorem dX7_init_40 : decode cX7_init 40 = .ok (.return_, 1) := by decide +kernel
theorem dX7_begin_0 : decode cX7_begin 0 = .ok (.aload_n 0, 1) := by decide +kernel
theorem dX7_begin_1 : decode cX7_begin 1 = .ok (.getfield 12, 3) := by decide +kernel
theorem dX7_begin_4 : decode cX7_begin 4 = .ok (.iload_n 1, 1) := by decide +kernel
theorem dX7_begin_5 : decode cX7_begin 5 = .ok (.invokevirtual 35, 3) := by decide +kernel
theorem dX7_begin_8 : decode cX7_begin 8 = .ok (.aload_n 0, 1) := by decide +kernel
theorem dX7_begin_9 : decode cX7_begin 9 = .ok (.iconst 0, 1) := by decide +kernel
theorem dX7_begin_10 : decode cX7_begin 10 = .ok (.putfield 18, 3) := by decide +kernel
theorem dX7_begin_13 : decode cX7_begin 13 = .ok (.aload_n 0, 1) := by decide +kernel
theorem dX7_begin_14 : decode cX7_begin 14 = .ok (.iconst 0, 1) := by decide +kernel
theorem dX7_begin_15 : decode cX7_begin 15 = .ok (.putfield 22, 3) := by decide +kernel
theorem dX7_begin_18 : decode cX7_begin 18 = .ok (.aload_n 0, 1) := by decide +kernel
theorem dX7_begin_19 : decode cX7_begin 19 = .ok (.iconst 0, 1) := by decide +kernel
theorem dX7_begin_20 : decode cX7_begin 20 = .ok (.putfield 25, 3) := by decide +kernel
theorem dX7_begin_23 : decode cX7_begin 23 = .ok (.aload_n 0, 1) := by decide +kernel
theorem dX7_begin_24 : decode cX7_begin 24 = .ok (.iconst 0, 1) := by decide +kernel
theorem dX7_begin_25 : decode cX7_begin 25 = .ok (.putfield 28, 3) := by decide +kernel
theorem dX7_begin_28 : decode cX7_begin 28 = .ok (.aload_n 0, 1) := by decide +kernel
theorem dX7_begin_29 : decode cX7_begin 29 = .ok (.aconst_null, 1) := by decide +kernel
theorem dX7_begin_30 : decode cX7_begin 30 = .ok (.putfield 31, 3) := by decide +kernel
theorem dX7_begin_33 : decode cX7_begin 33 = .ok (.return_, 1) := by decide +kernel
theorem dX7_copyFrom_0 : decode cX7_copyFrom 0 = .ok (.aload_n 0, 1) := by decide +kernel
theorem dX7_copyFrom_1 : decode cX7_copyFrom 1 = .ok (.getfield 12, 3) := by decide +kernel
theorem dX7_copyFrom_4 : decode cX7_copyFrom 4 = .ok (.aload_n 1, 1) := by decide +kernel
theorem dX7_copyFrom_5 : decode cX7_copyFrom 5 = .ok (.getfield 12, 3) := by decide +kernel
theorem dX7_copyFrom_8 : decode cX7_copyFrom 8 = .ok (.invokevirtual 39, 3) := by decide +kernel
theorem dX7_copyFrom_11 : decode cX7_copyFrom 11 = .ok (.aload_n 0, 1) := by decide +kernel
theorem dX7_copyFrom_12 : decode cX7_copyFrom 12 = .ok (.aload_n 1, 1) := by decide +kernel
theorem dX7_copyFrom_13 : decode cX7_copyFrom 13 = .ok (.getfield 18, 3) := by decide +kernel
theorem dX7_copyFrom_16 : decode cX7_copyFrom 16 = .ok (.putfield 18, 3) := by decide +kernel
theorem dX7_copyFrom_19 : decode cX7_copyFrom 19 = .ok (.aload_n 0, 1) := by decide +kernel
theorem dX7_copyFrom_20 : decode cX7_copyFrom 20 = .ok (.aload_n 1, 1) := by decide +kernel
theorem dX7_copyFrom_21 : decode cX7_copyFrom 21 = .ok (.getfield 22, 3) := by decide +kernel
theorem dX7_copyFrom_24 : decode cX7_copyFrom 24 = .ok (.putfield 22, 3) := by decide +kernel
theorem dX7_copyFrom_27 : decode cX7_copyFrom 27 = .ok (.aload_n 0, 1) := by decide +kernel
theorem dX7_copyFrom_28 : decode cX7_copyFrom 28 = .ok (.aload_n 1, 1) := by decide +kernel
theorem dX7_copyFrom_29 : decode cX7_copyFrom 29 = .ok (.getfield 25, 3) := by decide +kernel
theorem dX7_copyFrom_32 : decode cX7_copyFrom 32 = .ok (.putfield 25, 3) := by decide +kernel
theorem dX7_copyFrom_35 : decode cX7_copyFrom 35 = .ok (.aload_n 0, 1) := by decide +kernel
theorem dX7_copyFrom_36 : decode cX7_copyFrom 36 = .ok (.aload_n 1, 1) := by decide +kernel
theorem dX7_copyFrom_37 : decode cX7_copyFrom 37 = .ok (.getfield 28, 3) := by decide +kernel
theorem dX7_copyFrom_40 : decode cX7_copyFrom 40 = .ok (.putfield 28, 3) := by decide +kernel
theorem dX7_copyFrom_43 : decode cX7_copyFrom 43 = .ok (.aload_n 0, 1) := by decide +kernel
theorem dX7_copyFrom_44 : decode cX7_copyFrom 44 = .ok (.aload_n 1, 1) := by decide +kernel
theorem dX7_copyFrom_45 : decode cX7_copyFrom 45 = .ok (.getfield 31, 3) := by decide +kernel
theorem dX7_copyFrom_48 : decode cX7_copyFrom 48 = .ok (.putfield 31, 3) := by decide +kernel
theorem dX7_copyFrom_51 : decode cX7_copyFrom 51 = .ok (.return_, 1) := by decide +kernel
theorem dX7_endRound_0 : decode cX7_endRound 0 = .ok (.aload_n 0, 1) := by decide +kernel
theorem dX7_endRound_1 : decode cX7_endRound 1 = .ok (.dup, 1) := by decide +kernel
theorem dX7_endRound_2 : decode cX7_endRound 2 = .ok (.getfield 25, 3) := by decide +kernel
theorem dX7_endRound_5 : decode cX7_endRound 5 = .ok (.iconst 1, 1) := by decide +kernel
theorem dX7_endRound_6 : decode cX7_endRound 6 = .ok (.iadd, 1) := by decide +kernel
theorem dX7_endRound_7 : decode cX7_endRound 7 = .ok (.putfield 25, 3) := by decide +kernel
theorem dX7_endRound_10 : decode cX7_endRound 10 = .ok (.aload_n 0, 1) := by decide +kernel
theorem dX7_endRound_11 : decode cX7_endRound 11 = .ok (.dup, 1) := by decide +kernel
theorem dX7_endRound_12 : decode cX7_endRound 12 = .ok (.getfield 28, 3) := by decide +kernel
theorem dX7_endRound_15 : decode cX7_endRound 15 = .ok (.aload_n 0, 1) := by decide +kernel
theorem dX7_endRound_16 : decode cX7_endRound 16 = .ok (.getfield 18, 3) := by decide +kernel
theorem dX7_endRound_19 : decode cX7_endRound 19 = .ok (.invokestatic 43, 3) := by decide +kernel
theorem dX7_endRound_22 : decode cX7_endRound 22 = .ok (.iadd, 1) := by decide +kernel
theorem dX7_endRound_23 : decode cX7_endRound 23 = .ok (.putfield 28, 3) := by decide +kernel
theorem dX7_endRound_26 : decode cX7_endRound 26 = .ok (.aload_n 0, 1) := by decide +kernel
theorem dX7_endRound_27 : decode cX7_endRound 27 = .ok (.new 49, 3) := by decide +kernel
theorem dX7_endRound_30 : decode cX7_endRound 30 = .ok (.dup, 1) := by decide +kernel
theorem dX7_endRound_31 : decode cX7_endRound 31 = .ok (.aload_n 0, 1) := by decide +kernel
theorem dX7_endRound_32 : decode cX7_endRound 32 = .ok (.getfield 25, 3) := by decide +kernel
theorem dX7_endRound_35 : decode cX7_endRound 35 = .ok (.aload_n 0, 1) := by decide +kernel
theorem dX7_endRound_36 : decode cX7_endRound 36 = .ok (.sipush 9999, 3) := by decide +kernel
theorem dX7_endRound_39 : decode cX7_endRound 39 = .ok (.invokevirtual 51, 3) := by decide +kernel
theorem dX7_endRound_42 : decode cX7_endRound 42 = .ok (.iload_n 1, 1) := by decide +kernel
theorem dX7_endRound_43 : decode cX7_endRound 43 = .ok (.iadd, 1) := by decide +kernel
theorem dX7_endRound_44 : decode cX7_endRound 44 = .ok (.aload_n 0, 1) := by decide +kernel
theorem dX7_endRound_45 : decode cX7_endRound 45 = .ok (.getfield 31, 3) := by decide +kernel
theorem dX7_endRound_48 : decode cX7_endRound 48 = .ok (.invokespecial 54, 3) := by decide +kernel
theorem dX7_endRound_51 : decode cX7_endRound 51 = .ok (.putfield 31, 3) := by decide +kernel
theorem dX7_endRound_54 : decode cX7_endRound 54 = .ok (.aload_n 0, 1) := by decide +kernel
theorem dX7_endRound_55 : decode cX7_endRound 55 = .ok (.iconst 0, 1) := by decide +kernel
theorem dX7_endRound_56 : decode cX7_endRound 56 = .ok (.putfield 18, 3) := by decide +kernel
theorem dX7_endRound_59 : decode cX7_endRound 59 = .ok (.return_, 1) := by decide +kernel
theorem dX7_spentUpTo_0 : decode cX7_spentUpTo 0 = .ok (.aload_n 0, 1) := by decide +kernel
theorem dX7_spentUpTo_1 : decode cX7_spentUpTo 1 = .ok (.getfield 31, 3) := by decide +kernel
theorem dX7_spentUpTo_4 : decode cX7_spentUpTo 4 = .ok (.astore_n 2, 1) := by decide +kernel
theorem dX7_spentUpTo_5 : decode cX7_spentUpTo 5 = .ok (.aload_n 2, 1) := by decide +kernel
theorem dX7_spentUpTo_6 : decode cX7_spentUpTo 6 = .ok (.ifnull 24, 3) := by decide +kernel
theorem dX7_spentUpTo_9 : decode cX7_spentUpTo 9 = .ok (.aload_n 2, 1) := by decide +kernel
theorem dX7_spentUpTo_10 : decode cX7_spentUpTo 10 = .ok (.getfield 57, 3) := by decide +kernel
theorem dX7_spentUpTo_13 : decode cX7_spentUpTo 13 = .ok (.iload_n 1, 1) := by decide +kernel
theorem dX7_spentUpTo_14 : decode cX7_spentUpTo 14 = .ok (.if_icmp .gt 8, 3) := by decide +kernel
theorem dX7_spentUpTo_17 : decode cX7_spentUpTo 17 = .ok (.aload_n 2, 1) := by decide +kernel
theorem dX7_spentUpTo_18 : decode cX7_spentUpTo 18 = .ok (.getfield 60, 3) := by decide +kernel
theorem dX7_spentUpTo_21 : decode cX7_spentUpTo 21 = .ok (.ireturn, 1) := by decide +kernel
theorem dX7_spentUpTo_22 : decode cX7_spentUpTo 22 = .ok (.aload_n 2, 1) := by decide +kernel
theorem dX7_spentUpTo_23 : decode cX7_spentUpTo 23 = .ok (.getfield 63, 3) := by decide +kernel
theorem dX7_spentUpTo_26 : decode cX7_spentUpTo 26 = .ok (.astore_n 2, 1) := by decide +kernel
theorem dX7_spentUpTo_27 : decode cX7_spentUpTo 27 = .ok (.goto (-22), 3) := by decide +kernel
theorem dX7_spentUpTo_30 : decode cX7_spentUpTo 30 = .ok (.iconst 0, 1) := by decide +kernel
theorem dX7_spentUpTo_31 : decode cX7_spentUpTo 31 = .ok (.ireturn, 1) := by decide +kernel
theorem dX8_init_0 : decode cX8_init 0 = .ok (.aload_n 0, 1) := by decide +kernel
theorem dX8_init_1 : decode cX8_init 1 = .ok (.invokespecial 3, 3) := by decide +kernel
theorem dX8_init_4 : decode cX8_init 4 = .ok (.aload_n 0, 1) := by decide +kernel
theorem dX8_init_5 : decode cX8_init 5 = .ok (.bipush 12, 2) := by decide +kernel
theorem dX8_init_7 : decode cX8_init 7 = .ok (.newarray .int, 2) := by decide +kernel
theorem dX8_init_9 : decode cX8_init 9 = .ok (.putfield 9, 3) := by decide +kernel
theorem dX8_init_12 : decode cX8_init 12 = .ok (.aload_n 0, 1) := by decide +kernel
theorem dX8_init_13 : decode cX8_init 13 = .ok (.bipush 12, 2) := by decide +kernel
theorem dX8_init_15 : decode cX8_init 15 = .ok (.newarray .int, 2) := by decide +kernel
theorem dX8_init_17 : decode cX8_init 17 = .ok (.putfield 15, 3) := by decide +kernel
theorem dX8_init_20 : decode cX8_init 20 = .ok (.aload_n 0, 1) := by decide +kernel
theorem dX8_init_21 : decode cX8_init 21 = .ok (.bipush 12, 2) := by decide +kernel
theorem dX8_init_23 : decode cX8_init 23 = .ok (.newarray .int, 2) := by decide +kernel
theorem dX8_init_25 : decode cX8_init 25 = .ok (.putfield 18, 3) := by decide +kernel
theorem dX8_init_28 : decode cX8_init 28 = .ok (.aload_n 0, 1) := by decide +kernel
theorem dX8_init_29 : decode cX8_init 29 = .ok (.iconst 0, 1) := by decide +kernel
theorem dX8_init_30 : decode cX8_init 30 = .ok (.putfield 21, 3) := by decide +kernel
theorem dX8_init_33 : decode cX8_init 33 = .ok (.return_, 1) := by decide +kernel
theorem dX8_clear_0 : decode cX8_clear 0 = .ok (.aload_n 0, 1) := by decide +kernel
theorem dX8_clear_1 : decode cX8_clear 1 = .ok (.iconst 0, 1) := by decide +kernel
theorem dX8_clear_2 : decode cX8_clear 2 = .ok (.putfield 21, 3) := by decide +kernel
theorem dX8_clear_5 : decode cX8_clear 5 = .ok (.return_, 1) := by decide +kernel
theorem dX8_isFull_0 : decode cX8_isFull 0 = .ok (.aload_n 0, 1) := by decide +kernel
theorem dX8_isFull_1 : decode cX8_isFull 1 = .ok (.getfield 21, 3) := by decide +kernel
theorem dX8_isFull_4 : decode cX8_isFull 4 = .ok (.bipush 12, 2) := by decide +kernel
theorem dX8_isFull_6 : decode cX8_isFull 6 = .ok (.if_icmp .lt 7, 3) := by decide +kernel
theorem dX8_isFull_9 : decode cX8_isFull 9 = .ok (.iconst 1, 1) := by decide +kernel
theorem dX8_isFull_10 : decode cX8_isFull 10 = .ok (.goto 4, 3) := by decide +kernel
theorem dX8_isFull_13 : decode cX8_isFull 13 = .ok (.iconst 0, 1) := by decide +kernel
theorem dX8_isFull_14 : decode cX8_isFull 14 = .ok (.ireturn, 1) := by decide +kernel
theorem dX8_add_0 : decode cX8_add 0 = .ok (.aload_n 0, 1) := by decide +kernel
theorem dX8_add_1 : decode cX8_add 1 = .ok (.invokevirtual 25, 3) := by decide +kernel
theorem dX8_add_4 : decode cX8_add 4 = .ok (.ifCond .eq 4, 3) := by decide +kernel
theorem dX8_add_7 : decode cX8_add 7 = .ok (.return_, 1) := by decide +kernel
theorem dX8_add_8 : decode cX8_add 8 = .ok (.aload_n 0, 1) := by decide +kernel
theorem dX8_add_9 : decode cX8_add 9 = .ok (.getfield 9, 3) := by decide +kernel
theorem dX8_add_12 : decode cX8_add 12 = .ok (.aload_n 0, 1) := by decide +kernel
theorem dX8_add_13 : decode cX8_add 13 = .ok (.getfield 21, 3) := by decide +kernel
theorem dX8_add_16 : decode cX8_add 16 = .ok (.iload_n 1, 1) := by decide +kernel
theorem dX8_add_17 : decode cX8_add 17 = .ok (.iastore, 1) := by decide +kernel
theorem dX8_add_18 : decode cX8_add 18 = .ok (.aload_n 0, 1) := by decide +kernel
theorem dX8_add_19 : decode cX8_add 19 = .ok (.getfield 15, 3) := by decide +kernel
theorem dX8_add_22 : decode cX8_add 22 = .ok (.aload_n 0, 1) := by decide +kernel
theorem dX8_add_23 : decode cX8_add 23 = .ok (.getfield 21, 3) := by decide +kernel
theorem dX8_add_26 : decode cX8_add 26 = .ok (.iload_n 2, 1) := by decide +kernel
theorem dX8_add_27 : decode cX8_add 27 = .ok (.iastore, 1) := by decide +kernel
theorem dX8_add_28 : decode cX8_add 28 = .ok (.aload_n 0, 1) := by decide +kernel
theorem dX8_add_29 : decode cX8_add 29 = .ok (.getfield 18, 3) := by decide +kernel
theorem dX8_add_32 : decode cX8_add 32 = .ok (.aload_n 0, 1) := by decide +kernel
theorem dX8_add_33 : decode cX8_add 33 = .ok (.getfield 21, 3) := by decide +kernel
theorem dX8_add_36 : decode cX8_add 36 = .ok (.iload_n 3, 1) := by decide +kernel
theorem dX8_add_37 : decode cX8_add 37 = .ok (.iastore, 1) := by decide +kernel
theorem dX8_add_38 : decode cX8_add 38 = .ok (.aload_n 0, 1) := by decide +kernel
theorem dX8_add_39 : decode cX8_add 39 = .ok (.dup, 1) := by decide +kernel
theorem dX8_add_40 : decode cX8_add 40 = .ok (.getfield 21, 3) := by decide +kernel
theorem dX8_add_43 : decode cX8_add 43 = .ok (.iconst 1, 1) := by decide +kernel
theorem dX8_add_44 : decode cX8_add 44 = .ok (.iadd, 1) := by decide +kernel
theorem dX8_add_45 : decode cX8_add 45 = .ok (.putfield 21, 3) := by decide +kernel
theorem dX8_add_48 : decode cX8_add 48 = .ok (.return_, 1) := by decide +kernel
theorem dX8_countOf_0 : decode cX8_countOf 0 = .ok (.iconst 0, 1) := by decide +kernel
theorem dX8_countOf_1 : decode cX8_countOf 1 = .ok (.istore_n 2, 1) := by decide +kernel
theorem dX8_countOf_2 : decode cX8_countOf 2 = .ok (.iconst 0, 1) := by decide +kernel
theorem dX8_countOf_3 : decode cX8_countOf 3 = .ok (.istore_n 3, 1) := by decide +kernel
theorem dX8_countOf_4 : decode cX8_countOf 4 = .ok (.iload_n 3, 1) := by decide +kernel
theorem dX8_countOf_5 : decode cX8_countOf 5 = .ok (.aload_n 0, 1) := by decide +kernel
theorem dX8_countOf_6 : decode cX8_countOf 6 = .ok (.getfield 21, 3) := by decide +kernel
theorem dX8_countOf_9 : decode cX8_countOf 9 = .ok (.if_icmp .ge 22, 3) := by decide +kernel
theorem dX8_countOf_12 : decode cX8_countOf 12 = .ok (.aload_n 0, 1) := by decide +kernel
theorem dX8_countOf_13 : decode cX8_countOf 13 = .ok (.getfield 9, 3) := by decide +kernel
theorem dX8_countOf_16 : decode cX8_countOf 16 = .ok (.iload_n 3, 1) := by decide +kernel
theorem dX8_countOf_17 : decode cX8_countOf 17 = .ok (.iaload, 1) := by decide +kernel
theorem dX8_countOf_18 : decode cX8_countOf 18 = .ok (.iload_n 1, 1) := by decide +kernel
theorem dX8_countOf_19 : decode cX8_countOf 19 = .ok (.if_icmp .ne 6, 3) := by decide +kernel
theorem dX8_countOf_22 : decode cX8_countOf 22 = .ok (.iinc 2 1, 3) := by decide +kernel
theorem dX8_countOf_25 : decode cX8_countOf 25 = .ok (.iinc 3 1, 3) := by decide +kernel
theorem dX8_countOf_28 : decode cX8_countOf 28 = .ok (.goto (-24), 3) := by decide +kernel
theorem dX8_countOf_31 : decode cX8_countOf 31 = .ok (.iload_n 2, 1) := by decide +kernel
theorem dX8_countOf_32 : decode cX8_countOf 32 = .ok (.ireturn, 1) := by decide +kernel
theorem dX8_keptOut_0 : decode cX8_keptOut 0 = .ok (.iconst 0, 1) := by decide +kernel
theorem dX8_keptOut_1 : decode cX8_keptOut 1 = .ok (.istore_n 2, 1) := by decide +kernel
theorem dX8_keptOut_2 : decode cX8_keptOut 2 = .ok (.iconst 0, 1) := by decide +kernel
theorem dX8_keptOut_3 : decode cX8_keptOut 3 = .ok (.istore_n 3, 1) := by decide +kernel
theorem dX8_keptOut_4 : decode cX8_keptOut 4 = .ok (.iload_n 3, 1) := by decide +kernel
theorem dX8_keptOut_5 : decode cX8_keptOut 5 = .ok (.aload_n 0, 1) := by decide +kernel
theorem dX8_keptOut_6 : decode cX8_keptOut 6 = .ok (.getfield 21, 3) := by decide +kernel
theorem dX8_keptOut_9 : decode cX8_keptOut 9 = .ok (.if_icmp .ge 40, 3) := by decide +kernel
theorem dX8_keptOut_12 : decode cX8_keptOut 12 = .ok (.aload_n 0, 1) := by decide +kernel
theorem dX8_keptOut_13 : decode cX8_keptOut 13 = .ok (.getfield 15, 3) := by decide +kernel
theorem dX8_keptOut_16 : decode cX8_keptOut 16 = .ok (.iload_n 3, 1) := by decide +kernel
theorem dX8_keptOut_17 : decode cX8_keptOut 17 = .ok (.iaload, 1) := by decide +kernel
theorem dX8_keptOut_18 : decode cX8_keptOut 18 = .ok (.iload_n 1, 1) := by decide +kernel
theorem dX8_keptOut_19 : decode cX8_keptOut 19 = .ok (.if_icmp .gt 24, 3) := by decide +kernel
theorem dX8_keptOut_22 : decode cX8_keptOut 22 = .ok (.iload_n 1, 1) := by decide +kernel
theorem dX8_keptOut_23 : decode cX8_keptOut 23 = .ok (.aload_n 0, 1) := by decide +kernel
theorem dX8_keptOut_24 : decode cX8_keptOut 24 = .ok (.getfield 18, 3) := by decide +kernel
theorem dX8_keptOut_27 : decode cX8_keptOut 27 = .ok (.iload_n 3, 1) := by decide +kernel
theorem dX8_keptOut_28 : decode cX8_keptOut 28 = .ok (.iaload, 1) := by decide +kernel
theorem dX8_keptOut_29 : decode cX8_keptOut 29 = .ok (.if_icmp .gt 14, 3) := by decide +kernel
theorem dX8_keptOut_32 : decode cX8_keptOut 32 = .ok (.iload_n 2, 1) := by decide +kernel
theorem dX8_keptOut_33 : decode cX8_keptOut 33 = .ok (.iconst 1, 1) := by decide +kernel
theorem dX8_keptOut_34 : decode cX8_keptOut 34 = .ok (.aload_n 0, 1) := by decide +kernel
theorem dX8_keptOut_35 : decode cX8_keptOut 35 = .ok (.getfield 9, 3) := by decide +kernel
theorem dX8_keptOut_38 : decode cX8_keptOut 38 = .ok (.iload_n 3, 1) := by decide +kernel
theorem dX8_keptOut_39 : decode cX8_keptOut 39 = .ok (.iaload, 1) := by decide +kernel
theorem dX8_keptOut_40 : decode cX8_keptOut 40 = .ok (.ishl, 1) := by decide +kernel
theorem dX8_keptOut_41 : decode cX8_keptOut 41 = .ok (.ior, 1) := by decide +kernel
theorem dX8_keptOut_42 : decode cX8_keptOut 42 = .ok (.istore_n 2, 1) := by decide +kernel
theorem dX8_keptOut_43 : decode cX8_keptOut 43 = .ok (.iinc 3 1, 3) := by decide +kernel
theorem dX8_keptOut_46 : decode cX8_keptOut 46 = .ok (.goto (-42), 3) := by decide +kernel
theorem dX8_keptOut_49 : decode cX8_keptOut 49 = .ok (.iload_n 2, 1) := by decide +kernel
theorem dX8_keptOut_50 : decode cX8_keptOut 50 = .ok (.ireturn, 1) := by decide +kernel
theorem dX9_init_0 : decode cX9_init 0 = .ok (.aload_n 0, 1) := by decide +kernel
theorem dX9_init_1 : decode cX9_init 1 = .ok (.invokespecial 3, 3) := by decide +kernel
theorem dX9_init_4 : decode cX9_init 4 = .ok (.aload_n 0, 1) := by decide +kernel
theorem dX9_init_5 : decode cX9_init 5 = .ok (.sipush 500, 3) := by decide +kernel
theorem dX9_init_8 : decode cX9_init 8 = .ok (.newarray .byte, 2) := by decide +kernel
theorem dX9_init_10 : decode cX9_init 10 = .ok (.putfield 9, 3) := by decide +kernel
theorem dX9_init_13 : decode cX9_init 13 = .ok (.aload_n 0, 1) := by decide +kernel
theorem dX9_init_14 : decode cX9_init 14 = .ok (.iconst 0, 1) := by decide +kernel
theorem dX9_init_15 : decode cX9_init 15 = .ok (.putfield 15, 3) := by decide +kernel
theorem dX9_init_18 : decode cX9_init 18 = .ok (.aload_n 0, 1) := by decide +kernel
theorem dX9_init_19 : decode cX9_init 19 = .ok (.new 19, 3) := by decide +kernel
theorem dX9_init_22 : decode cX9_init 22 = .ok (.dup, 1) := by decide +kernel
theorem dX9_init_23 : decode cX9_init 23 = .ok (.invokespecial 21, 3) := by decide +kernel
theorem dX9_init_26 : decode cX9_init 26 = .ok (.putfield 22, 3) := by decide +kernel
theorem dX9_init_29 : decode cX9_init 29 = .ok (.aload_n 0, 1) := by decide +kernel
theorem dX9_init_30 : decode cX9_init 30 = .ok (.iconst 0, 1) := by decide +kernel
theorem dX9_init_31 : decode cX9_init 31 = .ok (.putfield 26, 3) := by decide +kernel
theorem dX9_init_34 : decode cX9_init 34 = .ok (.aload_n 0, 1) := by decide +kernel
theorem dX9_init_35 : decode cX9_init 35 = .ok (.iconst (-1), 1) := by decide +kernel
theorem dX9_init_36 : decode cX9_init 36 = .ok (.putfield 29, 3) := by decide +kernel
theorem dX9_init_39 : decode cX9_init 39 = .ok (.aload_n 0, 1) := by decide +kernel
theorem dX9_init_40 : decode cX9_init 40 = .ok (.iconst 0, 1) := by decide +kernel
theorem dX9_init_41 : decode cX9_init 41 = .ok (.putfield 32, 3) := by decide +kernel
theorem dX9_init_44 : decode cX9_init 44 = .ok (.aload_n 0, 1) := by decide +kernel
theorem dX9_init_45 : decode cX9_init 45 = .ok (.iconst 0, 1) := by decide +kernel
theorem dX9_init_46 : decode cX9_init 46 = .ok (.putfield 35, 3) := by decide +kernel
theorem dX9_init_49 : decode cX9_init 49 = .ok (.aload_n 0, 1) := by decide +kernel
theorem dX9_init_50 : decode cX9_init 50 = .ok (.iconst 0, 1) := by decide +kernel
theorem dX9_init_51 : decode cX9_init 51 = .ok (.putfield 38, 3) := by decide +kernel
theorem dX9_init_54 : decode cX9_init 54 = .ok (.aload_n 0, 1) := by decide +kernel
theorem dX9_init_55 : decode cX9_init 55 = .ok (.iconst 0, 1) := by decide +kernel
theorem dX9_init_56 : decode cX9_init 56 = .ok (.putfield 41, 3) := by decide +kernel
theorem dX9_init_59 : decode cX9_init 59 = .ok (.aload_n 0, 1) := by decide +kernel
theorem dX9_init_60 : decode cX9_init 60 = .ok (.iconst 0, 1) := by decide +kernel
theorem dX9_init_61 : decode cX9_init 61 = .ok (.putfield 44, 3) := by decide +kernel
theorem dX9_init_64 : decode cX9_init 64 = .ok (.return_, 1) := by decide +kernel
theorem dX9_putFourBytes_0 : decode cX9_putFourBytes 0 = .ok (.bipush 24, 2) := by decide +kernel
theorem dX9_putFourBytes_2 : decode cX9_putFourBytes 2 = .ok (.istore_n 2, 1) := by decide +kernel
theorem dX9_putFourBytes_3 : decode cX9_putFourBytes 3 = .ok (.iload_n 2, 1) := by decide +kernel
theorem dX9_putFourBytes_4 : decode cX9_putFourBytes 4 = .ok (.ifCond .lt 42, 3) := by decide +kernel
theorem dX9_putFourBytes_7 : decode cX9_putFourBytes 7 = .ok (.aload_n 0, 1) := by decide +kernel
theorem dX9_putFourBytes_8 : decode cX9_putFourBytes 8 = .ok (.getfield 15, 3) := by decide +kernel
theorem dX9_putFourBytes_11 : decode cX9_putFourBytes 11 = .ok (.sipush 500, 3) := by decide +kernel
theorem dX9_putFourBytes_14 : decode cX9_putFourBytes 14 = .ok (.if_icmp .ge 32, 3) := by decide +kernel
theorem dX9_putFourBytes_17 : decode cX9_putFourBytes 17 = .ok (.aload_n 0, 1) := by decide +kernel
theorem dX9_putFourBytes_18 : decode cX9_putFourBytes 18 = .ok (.getfield 9, 3) := by decide +kernel
theorem dX9_putFourBytes_21 : decode cX9_putFourBytes 21 = .ok (.aload_n 0, 1) := by decide +kernel
theorem dX9_putFourBytes_22 : decode cX9_putFourBytes 22 = .ok (.getfield 15, 3) := by decide +kernel
theorem dX9_putFourBytes_25 : decode cX9_putFourBytes 25 = .ok (.iload_n 1, 1) := by decide +kernel
theorem dX9_putFourBytes_26 : decode cX9_putFourBytes 26 = .ok (.iload_n 2, 1) := by decide +kernel
theorem dX9_putFourBytes_27 : decode cX9_putFourBytes 27 = .ok (.ishr, 1) := by decide +kernel
theorem dX9_putFourBytes_28 : decode cX9_putFourBytes 28 = .ok (.i2b, 1) := by decide +kernel
theorem dX9_putFourBytes_29 : decode cX9_putFourBytes 29 = .ok (.bastore, 1) := by decide +kernel
theorem dX9_putFourBytes_30 : decode cX9_putFourBytes 30 = .ok (.aload_n 0, 1) := by decide +kernel
theorem dX9_putFourBytes_31 : decode cX9_putFourBytes 31 = .ok (.dup, 1) := by decide +kernel
theorem dX9_putFourBytes_32 : decode cX9_putFourBytes 32 = .ok (.getfield 15, 3) := by decide +kernel
theorem dX9_putFourBytes_35 : decode cX9_putFourBytes 35 = .ok (.iconst 1, 1) := by decide +kernel
theorem dX9_putFourBytes_36 : decode cX9_putFourBytes 36 = .ok (.iadd, 1) := by decide +kernel
theorem dX9_putFourBytes_37 : decode cX9_putFourBytes 37 = .ok (.putfield 15, 3) := by decide +kernel
theorem dX9_putFourBytes_40 : decode cX9_putFourBytes 40 = .ok (.iinc 2 (-8), 3) := by decide +kernel
theorem dX9_putFourBytes_43 : decode cX9_putFourBytes 43 = .ok (.goto (-40), 3) := by decide +kernel
theorem dX9_putFourBytes_46 : decode cX9_putFourBytes 46 = .ok (.return_, 1) := by decide +kernel
theorem dX9_readExchange_0 : decode cX9_readExchange 0 = .ok (.aload_n 0, 1) := by decide +kernel
theorem dX9_readExchange_1 : decode cX9_readExchange 1 = .ok (.iload_n 1, 1) := by decide +kernel
theorem dX9_readExchange_2 : decode cX9_readExchange 2 = .ok (.aload_n 0, 1) := by decide +kernel
theorem dX9_readExchange_3 : decode cX9_readExchange 3 = .ok (.getfield 15, 3) := by decide +kernel
theorem dX9_readExchange_6 : decode cX9_readExchange 6 = .ok (.invokestatic 47, 3) := by decide +kernel
theorem dX9_readExchange_9 : decode cX9_readExchange 9 = .ok (.putfield 32, 3) := by decide +kernel
theorem dX9_readExchange_12 : decode cX9_readExchange 12 = .ok (.aload_n 0, 1) := by decide +kernel
theorem dX9_readExchange_13 : decode cX9_readExchange 13 = .ok (.iconst 0, 1) := by decide +kernel
theorem dX9_readExchange_14 : decode cX9_readExchange 14 = .ok (.putfield 15, 3) := by decide +kernel
theorem dX9_readExchange_17 : decode cX9_readExchange 17 = .ok (.aload_n 0, 1) := by decide +kernel
theorem dX9_readExchange_18 : decode cX9_readExchange 18 = .ok (.iconst 0, 1) := by decide +kernel
theorem dX9_readExchange_19 : decode cX9_readExchange 19 = .ok (.putfield 26, 3) := by decide +kernel
theorem dX9_readExchange_22 : decode cX9_readExchange 22 = .ok (.aload_n 0, 1) := by decide +kernel
theorem dX9_readExchange_23 : decode cX9_readExchange 23 = .ok (.iconst (-1), 1) := by decide +kernel
theorem dX9_readExchange_24 : decode cX9_readExchange 24 = .ok (.putfield 29, 3) := by decide +kernel
theorem dX9_readExchange_27 : decode cX9_readExchange 27 = .ok (.aload_n 0, 1) := by decide +kernel
theorem dX9_readExchange_28 : decode cX9_readExchange 28 = .ok (.iconst 0, 1) := by decide +kernel
theorem dX9_readExchange_29 : decode cX9_readExchange 29 = .ok (.putfield 41, 3) := by decide +kernel
theorem dX9_readExchange_32 : decode cX9_readExchange 32 = .ok (.aload_n 0, 1) := by decide +kernel
theorem dX9_readExchange_33 : decode cX9_readExchange 33 = .ok (.getfield 22, 3) := by decide +kernel
theorem dX9_readExchange_36 : decode cX9_readExchange 36 = .ok (.invokevirtual 53, 3) := by decide +kernel
theorem dX9_readExchange_39 : decode cX9_readExchange 39 = .ok (.iconst 0, 1) := by decide +kernel
theorem dX9_readExchange_40 : decode cX9_readExchange 40 = .ok (.istore_n 2, 1) := by decide +kernel
theorem dX9_readExchange_41 : decode cX9_readExchange 41 = .ok (.iload_n 2, 1) := by decide +kernel
theorem dX9_readExchange_42 : decode cX9_readExchange 42 = .ok (.sipush 500, 3) := by decide +kernel
theorem dX9_readExchange_45 : decode cX9_readExchange 45 = .ok (.if_icmp .ge 41, 3) := by decide +kernel
theorem dX9_readExchange_48 : decode cX9_readExchange 48 = .ok (.aload_n 0, 1) := by decide +kernel
theorem dX9_readExchange_49 : decode cX9_readExchange 49 = .ok (.invokevirtual 56, 3) := by decide +kernel
theorem dX9_readExchange_52 : decode cX9_readExchange 52 = .ok (.aload_n 0, 1) := by decide +kernel
theorem dX9_readExchange_53 : decode cX9_readExchange 53 = .ok (.getfield 35, 3) := by decide +kernel
theorem dX9_readExchange_56 : decode cX9_readExchange 56 = .ok (.ifCond .eq 19, 3) := by decide +kernel
theorem dX9_readExchange_59 : decode cX9_readExchange 59 = .ok (.aload_n 0, 1) := by decide +kernel
theorem dX9_readExchange_60 : decode cX9_readExchange 60 = .ok (.iload_n 2, 1) := by decide +kernel
theorem dX9_readExchange_61 : decode cX9_readExchange 61 = .ok (.ifCond .ne 7, 3) := by decide +kernel
theorem dX9_readExchange_64 : decode cX9_readExchange 64 = .ok (.iconst 1, 1) := by decide +kernel
theorem dX9_readExchange_65 : decode cX9_readExchange 65 = .ok (.goto 4, 3) := by decide +kernel
theorem dX9_readExchange_68 : decode cX9_readExchange 68 = .ok (.iconst 0, 1) := by decide +kernel
theorem dX9_readExchange_69 : decode cX9_readExchange 69 = .ok (.invokevirtual 59, 3) := by decide +kernel
theorem dX9_readExchange_72 : decode cX9_readExchange 72 = .ok (.ifCond .ne 8, 3) := by decide +kernel
theorem dX9_readExchange_75 : decode cX9_readExchange 75 = .ok (.aload_n 0, 1) := by decide +kernel
theorem dX9_readExchange_76 : decode cX9_readExchange 76 = .ok (.getfield 26, 3) := by decide +kernel
theorem dX9_readExchange_79 : decode cX9_readExchange 79 = .ok (.ireturn, 1) := by decide +kernel
theorem dX9_readExchange_80 : decode cX9_readExchange 80 = .ok (.iinc 2 1, 3) := by decide +kernel
theorem dX9_readExchange_83 : decode cX9_readExchange 83 = .ok (.goto (-42), 3) := by decide +kernel
theorem dX9_readExchange_86 : decode cX9_readExchange 86 = .ok (.aload_n 0, 1) := by decide +kernel
theorem dX9_readExchange_87 : decode cX9_readExchange 87 = .ok (.getfield 26, 3) := by decide +kernel
theorem dX9_readExchange_90 : decode cX9_readExchange 90 = .ok (.ireturn, 1) := by decide +kernel
theorem dX9_handOver_0 : decode cX9_handOver 0 = .ok (.aload_n 0, 1) := by decide +kernel
theorem dX9_handOver_1 : decode cX9_handOver 1 = .ok (.getfield 22, 3) := by decide +kernel
theorem dX9_handOver_4 : decode cX9_handOver 4 = .ok (.astore_n 2, 1) := by decide +kernel
theorem dX9_handOver_5 : decode cX9_handOver 5 = .ok (.aload_n 0, 1) := by decide +kernel
theorem dX9_handOver_6 : decode cX9_handOver 6 = .ok (.aload_n 1, 1) := by decide +kernel
theorem dX9_handOver_7 : decode cX9_handOver 7 = .ok (.putfield 22, 3) := by decide +kernel
theorem dX9_handOver_10 : decode cX9_handOver 10 = .ok (.aload_n 2, 1) := by decide +kernel
theorem dX9_handOver_11 : decode cX9_handOver 11 = .ok (.areturn, 1) := by decide +kernel
theorem dX9_fail_0 : decode cX9_fail 0 = .ok (.aload_n 0, 1) := by decide +kernel
theorem dX9_fail_1 : decode cX9_fail 1 = .ok (.iload_n 1, 1) := by decide +kernel
theorem dX9_fail_2 : decode cX9_fail 2 = .ok (.putfield 26, 3) := by decide +kernel
theorem dX9_fail_5 : decode cX9_fail 5 = .ok (.aload_n 0, 1) := by decide +kernel
theorem dX9_fail_6 : decode cX9_fail 6 = .ok (.aload_n 0, 1) := by decide +kernel
theorem dX9_fail_7 : decode cX9_fail 7 = .ok (.getfield 38, 3) := by decide +kernel
theorem dX9_fail_10 : decode cX9_fail 10 = .ok (.putfield 29, 3) := by decide +kernel
theorem dX9_fail_13 : decode cX9_fail 13 = .ok (.iconst 0, 1) := by decide +kernel
theorem dX9_fail_14 : decode cX9_fail 14 = .ok (.ireturn, 1) := by decide +kernel
theorem dX9_readStatement_0 : decode cX9_readStatement 0 = .ok (.aload_n 0, 1) := by decide +kernel
theorem dX9_readStatement_1 : decode cX9_readStatement 1 = .ok (.ldc 63, 2) := by decide +kernel
theorem dX9_readStatement_3 : decode cX9_readStatement 3 = .ok (.invokevirtual 65, 3) := by decide +kernel
theorem dX9_readStatement_6 : decode cX9_readStatement 6 = .ok (.ifCond .eq 9, 3) := by decide +kernel
theorem dX9_readStatement_9 : decode cX9_readStatement 9 = .ok (.aload_n 0, 1) := by decide +kernel
theorem dX9_readStatement_10 : decode cX9_readStatement 10 = .ok (.iload_n 1, 1) := by decide +kernel
theorem dX9_readStatement_11 : decode cX9_readStatement 11 = .ok (.invokevirtual 69, 3) := by decide +kernel
theorem dX9_readStatement_14 : decode cX9_readStatement 14 = .ok (.ireturn, 1) := by decide +kernel
theorem dX9_readStatement_15 : decode cX9_readStatement 15 = .ok (.aload_n 0, 1) := by decide +kernel
theorem dX9_readStatement_16 : decode cX9_readStatement 16 = .ok (.ldc 72, 2) := by decide +kernel
theorem dX9_readStatement_18 : decode cX9_readStatement 18 = .ok (.invokevirtual 65, 3) := by decide +kernel
theorem dX9_readStatement_21 : decode cX9_readStatement 21 = .ok (.ifCond .eq 8, 3) := by decide +kernel
theorem dX9_readStatement_24 : decode cX9_readStatement 24 = .ok (.aload_n 0, 1) := by decide +kernel
theorem dX9_readStatement_25 : decode cX9_readStatement 25 = .ok (.invokevirtual 74, 3) := by decide +kernel
theorem dX9_readStatement_28 : decode cX9_readStatement 28 = .ok (.ireturn, 1) := by decide +kernel
theorem dX9_readStatement_29 : decode cX9_readStatement 29 = .ok (.aload_n 0, 1) := by decide +kernel
theorem dX9_readStatement_30 : decode cX9_readStatement 30 = .ok (.ldc 78, 2) := by decide +kernel
theorem dX9_readStatement_32 : decode cX9_readStatement 32 = .ok (.invokevirtual 65, 3) := by decide +kernel
theorem dX9_readStatement_35 : decode cX9_readStatement 35 = .ok (.ifCond .eq 22, 3) := by decide +kernel
theorem dX9_readStatement_38 : decode cX9_readStatement 38 = .ok (.aload_n 0, 1) := by decide +kernel
theorem dX9_readStatement_39 : decode cX9_readStatement 39 = .ok (.aload_n 0, 1) := by decide +kernel
theorem dX9_readStatement_40 : decode cX9_readStatement 40 = .ok (.getfield 22, 3) := by decide +kernel
theorem dX9_readStatement_43 : decode cX9_readStatement 43 = .ok (.getfield 80, 3) := by decide +kernel
theorem dX9_readStatement_46 : decode cX9_readStatement 46 = .ok (.aload_n 0, 1) := by decide +kernel
theorem dX9_readStatement_47 : decode cX9_readStatement 47 = .ok (.getfield 22, 3) := by decide +kernel
theorem dX9_readStatement_50 : decode cX9_readStatement 50 = .ok (.getfield 84, 3) := by decide +kernel
theorem dX9_readStatement_53 : decode cX9_readStatement 53 = .ok (.invokevirtual 87, 3) := by decide +kernel
theorem dX9_readStatement_56 : decode cX9_readStatement 56 = .ok (.ireturn, 1) := by decide +kernel
theorem dX9_readStatement_57 : decode cX9_readStatement 57 = .ok (.aload_n 0, 1) := by decide +kernel
theorem dX9_readStatement_58 : decode cX9_readStatement 58 = .ok (.ldc 91, 2) := by decide +kernel
theorem dX9_readStatement_60 : decode cX9_readStatement 60 = .ok (.invokevirtual 65, 3) := by decide +kernel
theorem dX9_readStatement_63 : decode cX9_readStatement 63 = .ok (.ifCond .eq 22, 3) := by decide +kernel
theorem dX9_readStatement_66 : decode cX9_readStatement 66 = .ok (.aload_n 0, 1) := by decide +kernel
theorem dX9_readStatement_67 : decode cX9_readStatement 67 = .ok (.aload_n 0, 1) := by decide +kernel
theorem dX9_readStatement_68 : decode cX9_readStatement 68 = .ok (.getfield 22, 3) := by decide +kernel
theorem dX9_readStatement_71 : decode cX9_readStatement 71 = .ok (.getfield 93, 3) := by decide +kernel
theorem dX9_readStatement_74 : decode cX9_readStatement 74 = .ok (.aload_n 0, 1) := by decide +kernel
theorem dX9_readStatement_75 : decode cX9_readStatement 75 = .ok (.getfield 22, 3) := by decide +kernel
theorem dX9_readStatement_78 : decode cX9_readStatement 78 = .ok (.getfield 96, 3) := by decide +kernel
theorem dX9_readStatement_81 : decode cX9_readStatement 81 = .ok (.invokevirtual 87, 3) := by decide +kernel
theorem dX9_readStatement_84 : decode cX9_readStatement 84 = .ok (.ireturn, 1) := by decide +kernel
theorem dX9_readStatement_85 : decode cX9_readStatement 85 = .ok (.aload_n 0, 1) := by decide +kernel
theorem dX9_readStatement_86 : decode cX9_readStatement 86 = .ok (.iconst 1, 1) := by decide +kernel
theorem dX9_readStatement_87 : decode cX9_readStatement 87 = .ok (.invokevirtual 98, 3) := by decide +kernel
theorem dX9_readStatement_90 : decode cX9_readStatement 90 = .ok (.ireturn, 1) := by decide +kernel
theorem dX9_readPeople_0 : decode cX9_readPeople 0 = .ok (.iload_n 1, 1) := by decide +kernel
theorem dX9_readPeople_1 : decode cX9_readPeople 1 = .ok (.ifCond .ne 9, 3) := by decide +kernel
theorem dX9_readPeople_4 : decode cX9_readPeople 4 = .ok (.aload_n 0, 1) := by decide +kernel
theorem dX9_readPeople_5 : decode cX9_readPeople 5 = .ok (.iconst 2, 1) := by decide +kernel
theorem dX9_readPeople_6 : decode cX9_readPeople 6 = .ok (.invokevirtual 98, 3) := by decide +kernel
theorem dX9_readPeople_9 : decode cX9_readPeople 9 = .ok (.ireturn, 1) := by decide +kernel
theorem dX9_readPeople_10 : decode cX9_readPeople 10 = .ok (.aload_n 0, 1) := by decide +kernel
theorem dX9_readPeople_11 : decode cX9_readPeople 11 = .ok (.iconst 2, 1) := by decide +kernel
theorem dX9_readPeople_12 : decode cX9_readPeople 12 = .ok (.bipush 10, 2) := by decide +kernel
theorem dX9_readPeople_14 : decode cX9_readPeople 14 = .ok (.invokevirtual 102, 3) := by decide +kernel
theorem dX9_readPeople_17 : decode cX9_readPeople 17 = .ok (.ifCond .ne 5, 3) := by decide +kernel
theorem dX9_readPeople_20 : decode cX9_readPeople 20 = .ok (.iconst 0, 1) := by decide +kernel
theorem dX9_readPeople_21 : decode cX9_readPeople 21 = .ok (.ireturn, 1) := by decide +kernel
theorem dX9_readPeople_22 : decode cX9_readPeople 22 = .ok (.aload_n 0, 1) := by decide +kernel
theorem dX9_readPeople_23 : decode cX9_readPeople 23 = .ok (.getfield 22, 3) := by decide +kernel
theorem dX9_readPeople_26 : decode cX9_readPeople 26 = .ok (.aload_n 0, 1) := by decide +kernel
theorem dX9_readPeople_27 : decode cX9_readPeople 27 = .ok (.getfield 44, 3) := by decide +kernel
theorem dX9_readPeople_30 : decode cX9_readPeople 30 = .ok (.putfield 96, 3) := by decide +kernel
theorem dX9_readPeople_33 : decode cX9_readPeople 33 = .ok (.aload_n 0, 1) := by decide +kernel
theorem dX9_readPeople_34 : decode cX9_readPeople 34 = .ok (.invokevirtual 106, 3) := by decide +kernel
theorem dX9_readPeople_37 : decode cX9_readPeople 37 = .ok (.ireturn, 1) := by decide +kernel
theorem dX9_readLine_0 : decode cX9_readLine 0 = .ok (.aload_n 0, 1) := by decide +kernel
theorem dX9_readLine_1 : decode cX9_readLine 1 = .ok (.getfield 22, 3) := by decide +kernel
theorem dX9_readLine_4 : decode cX9_readLine 4 = .ok (.invokevirtual 109, 3) := by decide +kernel
theorem dX9_readLine_7 : decode cX9_readLine 7 = .ok (.ifCond .eq 9, 3) := by decide +kernel
theorem dX9_readLine_10 : decode cX9_readLine 10 = .ok (.aload_n 0, 1) := by decide +kernel
theorem dX9_readLine_11 : decode cX9_readLine 11 = .ok (.iconst 4, 1) := by decide +kernel
theorem dX9_readLine_12 : decode cX9_readLine 12 = .ok (.invokevirtual 98, 3) := by decide +kernel
theorem dX9_readLine_15 : decode cX9_readLine 15 = .ok (.ireturn, 1) := by decide +kernel
theorem dX9_readLine_16 : decode cX9_readLine 16 = .ok (.aload_n 0, 1) := by decide +kernel
theorem dX9_readLine_17 : decode cX9_readLine 17 = .ok (.iconst 0, 1) := by decide +kernel
theorem dX9_readLine_18 : decode cX9_readLine 18 = .ok (.aload_n 0, 1) := by decide +kernel
theorem dX9_readLine_19 : decode cX9_readLine 19 = .ok (.getfield 22, 3) := by decide +kernel
theorem dX9_readLine_22 : decode cX9_readLine 22 = .ok (.getfield 96, 3) := by decide +kernel
theorem dX9_readLine_25 : decode cX9_readLine 25 = .ok (.iconst 1, 1) := by decide +kernel
theorem dX9_readLine_26 : decode cX9_readLine 26 = .ok (.isub, 1) := by decide +kernel
theorem dX9_readLine_27 : decode cX9_readLine 27 = .ok (.invokevirtual 102, 3) := by decide +kernel
theorem dX9_readLine_30 : decode cX9_readLine 30 = .ok (.ifCond .ne 5, 3) := by decide +kernel
theorem dX9_readLine_33 : decode cX9_readLine 33 = .ok (.iconst 0, 1) := by decide +kernel
theorem dX9_readLine_34 : decode cX9_readLine 34 = .ok (.ireturn, 1) := by decide +kernel
theorem dX9_readLine_35 : decode cX9_readLine 35 = .ok (.aload_n 0, 1) := by decide +kernel
theorem dX9_readLine_36 : decode cX9_readLine 36 = .ok (.getfield 44, 3) := by decide +kernel
theorem dX9_readLine_39 : decode cX9_readLine 39 = .ok (.istore_n 1, 1) := by decide +kernel
theorem dX9_readLine_40 : decode cX9_readLine 40 = .ok (.aload_n 0, 1) := by decide +kernel
theorem dX9_readLine_41 : decode cX9_readLine 41 = .ok (.iconst 0, 1) := by decide +kernel
theorem dX9_readLine_42 : decode cX9_readLine 42 = .ok (.aload_n 0, 1) := by decide +kernel
theorem dX9_readLine_43 : decode cX9_readLine 43 = .ok (.getfield 22, 3) := by decide +kernel
theorem dX9_readLine_46 : decode cX9_readLine 46 = .ok (.getfield 96, 3) := by decide +kernel
theorem dX9_readLine_49 : decode cX9_readLine 49 = .ok (.iconst 1, 1) := by decide +kernel
theorem dX9_readLine_50 : decode cX9_readLine 50 = .ok (.isub, 1) := by decide +kernel
theorem dX9_readLine_51 : decode cX9_readLine 51 = .ok (.invokevirtual 102, 3) := by decide +kernel
theorem dX9_readLine_54 : decode cX9_readLine 54 = .ok (.ifCond .ne 5, 3) := by decide +kernel
theorem dX9_readLine_57 : decode cX9_readLine 57 = .ok (.iconst 0, 1) := by decide +kernel
theorem dX9_readLine_58 : decode cX9_readLine 58 = .ok (.ireturn, 1) := by decide +kernel
theorem dX9_readLine_59 : decode cX9_readLine 59 = .ok (.aload_n 0, 1) := by decide +kernel
theorem dX9_readLine_60 : decode cX9_readLine 60 = .ok (.getfield 44, 3) := by decide +kernel
theorem dX9_readLine_63 : decode cX9_readLine 63 = .ok (.istore_n 2, 1) := by decide +kernel
theorem dX9_readLine_64 : decode cX9_readLine 64 = .ok (.iload_n 2, 1) := by decide +kernel
theorem dX9_readLine_65 : decode cX9_readLine 65 = .ok (.iload_n 1, 1) := by decide +kernel
theorem dX9_readLine_66 : decode cX9_readLine 66 = .ok (.if_icmp .ne 9, 3) := by decide +kernel
theorem dX9_readLine_69 : decode cX9_readLine 69 = .ok (.aload_n 0, 1) := by decide +kernel
theorem dX9_readLine_70 : decode cX9_readLine 70 = .ok (.iconst 3, 1) := by decide +kernel
theorem dX9_readLine_71 : decode cX9_readLine 71 = .ok (.invokevirtual 98, 3) := by decide +kernel
theorem dX9_readLine_74 : decode cX9_readLine 74 = .ok (.ireturn, 1) := by decide +kernel
theorem dX9_readLine_75 : decode cX9_readLine 75 = .ok (.aload_n 0, 1) := by decide +kernel
theorem dX9_readLine_76 : decode cX9_readLine 76 = .ok (.invokevirtual 56, 3) := by decide +kernel
theorem dX9_readLine_79 : decode cX9_readLine 79 = .ok (.aload_n 0, 1) := by decide +kernel
theorem dX9_readLine_80 : decode cX9_readLine 80 = .ok (.ldc 112, 2) := by decide +kernel
theorem dX9_readLine_82 : decode cX9_readLine 82 = .ok (.invokevirtual 65, 3) := by decide +kernel
theorem dX9_readLine_85 : decode cX9_readLine 85 = .ok (.istore_n 3, 1) := by decide +kernel
theorem dX9_readLine_86 : decode cX9_readLine 86 = .ok (.iload_n 3, 1) := by decide +kernel
theorem dX9_readLine_87 : decode cX9_readLine 87 = .ok (.ifCond .ne 18, 3) := by decide +kernel
theorem dX9_readLine_90 : decode cX9_readLine 90 = .ok (.aload_n 0, 1) := by decide +kernel
theorem dX9_readLine_91 : decode cX9_readLine 91 = .ok (.ldc 114, 2) := by decide +kernel
theorem dX9_readLine_93 : decode cX9_readLine 93 = .ok (.invokevirtual 65, 3) := by decide +kernel
theorem dX9_readLine_96 : decode cX9_readLine 96 = .ok (.ifCond .ne 9, 3) := by decide +kernel
theorem dX9_readLine_99 : decode cX9_readLine 99 = .ok (.aload_n 0, 1) := by decide +kernel
theorem dX9_readLine_100 : decode cX9_readLine 100 = .ok (.iconst 1, 1) := by decide +kernel
theorem dX9_readLine_101 : decode cX9_readLine 101 = .ok (.invokevirtual 98, 3) := by decide +kernel
theorem dX9_readLine_104 : decode cX9_readLine 104 = .ok (.ireturn, 1) := by decide +kernel
theorem dX9_readLine_105 : decode cX9_readLine 105 = .ok (.aload_n 0, 1) := by decide +kernel
theorem dX9_readLine_106 : decode cX9_readLine 106 = .ok (.iconst 0, 1) := by decide +kernel
theorem dX9_readLine_107 : decode cX9_readLine 107 = .ok (.sipush 999, 3) := by decide +kernel
theorem dX9_readLine_110 : decode cX9_readLine 110 = .ok (.invokevirtual 102, 3) := by decide +kernel
theorem dX9_readLine_113 : decode cX9_readLine 113 = .ok (.ifCond .ne 5, 3) := by decide +kernel
theorem dX9_readLine_116 : decode cX9_readLine 116 = .ok (.iconst 0, 1) := by decide +kernel
theorem dX9_readLine_117 : decode cX9_readLine 117 = .ok (.ireturn, 1) := by decide +kernel
theorem dX9_readLine_118 : decode cX9_readLine 118 = .ok (.aload_n 0, 1) := by decide +kernel
theorem dX9_readLine_119 : decode cX9_readLine 119 = .ok (.getfield 22, 3) := by decide +kernel
theorem dX9_readLine_122 : decode cX9_readLine 122 = .ok (.iload_n 1, 1) := by decide +kernel
theorem dX9_readLine_123 : decode cX9_readLine 123 = .ok (.iload_n 2, 1) := by decide +kernel
theorem dX9_readLine_124 : decode cX9_readLine 124 = .ok (.iload_n 3, 1) := by decide +kernel
theorem dX9_readLine_125 : decode cX9_readLine 125 = .ok (.aload_n 0, 1) := by decide +kernel
theorem dX9_readLine_126 : decode cX9_readLine 126 = .ok (.getfield 44, 3) := by decide +kernel
theorem dX9_readLine_129 : decode cX9_readLine 129 = .ok (.invokevirtual 116, 3) := by decide +kernel
theorem dX9_readLine_132 : decode cX9_readLine 132 = .ok (.aload_n 0, 1) := by decide +kernel
theorem dX9_readLine_133 : decode cX9_readLine 133 = .ok (.invokevirtual 106, 3) := by decide +kernel
theorem dX9_readLine_136 : decode cX9_readLine 136 = .ok (.ireturn, 1) := by decide +kernel
theorem dX9_readSpan_0 : decode cX9_readSpan 0 = .ok (.aload_n 1, 1) := by decide +kernel
theorem dX9_readSpan_1 : decode cX9_readSpan 1 = .ok (.invokevirtual 120, 3) := by decide +kernel
theorem dX9_readSpan_4 : decode cX9_readSpan 4 = .ok (.ifCond .eq 9, 3) := by decide +kernel
theorem dX9_readSpan_7 : decode cX9_readSpan 7 = .ok (.aload_n 0, 1) := by decide +kernel
theorem dX9_readSpan_8 : decode cX9_readSpan 8 = .ok (.iconst 4, 1) := by decide +kernel
theorem dX9_readSpan_9 : decode cX9_readSpan 9 = .ok (.invokevirtual 98, 3) := by decide +kernel
theorem dX9_readSpan_12 : decode cX9_readSpan 12 = .ok (.ireturn, 1) := by decide +kernel
theorem dX9_readSpan_13 : decode cX9_readSpan 13 = .ok (.aload_n 0, 1) := by decide +kernel
theorem dX9_readSpan_14 : decode cX9_readSpan 14 = .ok (.iconst 0, 1) := by decide +kernel
theorem dX9_readSpan_15 : decode cX9_readSpan 15 = .ok (.iload_n 2, 1) := by decide +kernel
theorem dX9_readSpan_16 : decode cX9_readSpan 16 = .ok (.iconst 1, 1) := by decide +kernel
theorem dX9_readSpan_17 : decode cX9_readSpan 17 = .ok (.isub, 1) := by decide +kernel
theorem dX9_readSpan_18 : decode cX9_readSpan 18 = .ok (.invokevirtual 102, 3) := by decide +kernel
theorem dX9_readSpan_21 : decode cX9_readSpan 21 = .ok (.ifCond .ne 5, 3) := by decide +kernel
theorem dX9_readSpan_24 : decode cX9_readSpan 24 = .ok (.iconst 0, 1) := by decide +kernel
theorem dX9_readSpan_25 : decode cX9_readSpan 25 = .ok (.ireturn, 1) := by decide +kernel
theorem dX9_readSpan_26 : decode cX9_readSpan 26 = .ok (.aload_n 0, 1) := by decide +kernel
theorem dX9_readSpan_27 : decode cX9_readSpan 27 = .ok (.getfield 44, 3) := by decide +kernel
theorem dX9_readSpan_30 : decode cX9_readSpan 30 = .ok (.istore_n 3, 1) := by decide +kernel
theorem dX9_readSpan_31 : decode cX9_readSpan 31 = .ok (.aload_n 0, 1) := by decide +kernel
theorem dX9_readSpan_32 : decode cX9_readSpan 32 = .ok (.iconst 1, 1) := by decide +kernel
theorem dX9_readSpan_33 : decode cX9_readSpan 33 = .ok (.sipush 999, 3) := by decide +kernel
theorem dX9_readSpan_36 : decode cX9_readSpan 36 = .ok (.invokevirtual 102, 3) := by decide +kernel
theorem dX9_readSpan_39 : decode cX9_readSpan 39 = .ok (.ifCond .ne 5, 3) := by decide +kernel
theorem dX9_readSpan_42 : decode cX9_readSpan 42 = .ok (.iconst 0, 1) := by decide +kernel
theorem dX9_readSpan_43 : decode cX9_readSpan 43 = .ok (.ireturn, 1) := by decide +kernel
theorem dX9_readSpan_44 : decode cX9_readSpan 44 = .ok (.aload_n 0, 1) := by decide +kernel
theorem dX9_readSpan_45 : decode cX9_readSpan 45 = .ok (.getfield 44, 3) := by decide +kernel
theorem dX9_readSpan_48 : decode cX9_readSpan 48 = .ok (.istore 4, 2) := by decide +kernel
theorem dX9_readSpan_50 : decode cX9_readSpan 50 = .ok (.aload_n 0, 1) := by decide +kernel
theorem dX9_readSpan_51 : decode cX9_readSpan 51 = .ok (.iload 4, 2) := by decide +kernel
theorem dX9_readSpan_53 : decode cX9_readSpan 53 = .ok (.sipush 999, 3) := by decide +kernel
theorem dX9_readSpan_56 : decode cX9_readSpan 56 = .ok (.invokevirtual 102, 3) := by decide +kernel
theorem dX9_readSpan_59 : decode cX9_readSpan 59 = .ok (.ifCond .ne 5, 3) := by decide +kernel
theorem dX9_readSpan_62 : decode cX9_readSpan 62 = .ok (.iconst 0, 1) := by decide +kernel
theorem dX9_readSpan_63 : decode cX9_readSpan 63 = .ok (.ireturn, 1) := by decide +kernel
theorem dX9_readSpan_64 : decode cX9_readSpan 64 = .ok (.aload_n 1, 1) := by decide +kernel
theorem dX9_readSpan_65 : decode cX9_readSpan 65 = .ok (.iload_n 3, 1) := by decide +kernel
theorem dX9_readSpan_66 : decode cX9_readSpan 66 = .ok (.iload 4, 2) := by decide +kernel
theorem dX9_readSpan_68 : decode cX9_readSpan 68 = .ok (.aload_n 0, 1) := by decide +kernel
theorem dX9_readSpan_69 : decode cX9_readSpan 69 = .ok (.getfield 44, 3) := by decide +kernel
theorem dX9_readSpan_72 : decode cX9_readSpan 72 = .ok (.invokevirtual 123, 3) := by decide +kernel
theorem dX9_readSpan_75 : decode cX9_readSpan 75 = .ok (.aload_n 0, 1) := by decide +kernel
theorem dX9_readSpan_76 : decode cX9_readSpan 76 = .ok (.invokevirtual 106, 3) := by decide +kernel
theorem dX9_readSpan_79 : decode cX9_readSpan 79 = .ok (.ireturn, 1) := by decide +kernel
theorem dX9_readNumber_0 : decode cX9_readNumber 0 = .ok (.aload_n 0, 1) := by decide +kernel
theorem dX9_readNumber_1 : decode cX9_readNumber 1 = .ok (.invokevirtual 56, 3) := by decide +kernel
theorem dX9_readNumber_4 : decode cX9_readNumber 4 = .ok (.aload_n 0, 1) := by decide +kernel
theorem dX9_readNumber_5 : decode cX9_readNumber 5 = .ok (.getfield 35, 3) := by decide +kernel
theorem dX9_readNumber_8 : decode cX9_readNumber 8 = .ok (.iconst 2, 1) := by decide +kernel
theorem dX9_readNumber_9 : decode cX9_readNumber 9 = .ok (.if_icmp .eq 9, 3) := by decide +kernel
theorem dX9_readNumber_12 : decode cX9_readNumber 12 = .ok (.aload_n 0, 1) := by decide +kernel
theorem dX9_readNumber_13 : decode cX9_readNumber 13 = .ok (.iconst 1, 1) := by decide +kernel
theorem dX9_readNumber_14 : decode cX9_readNumber 14 = .ok (.invokevirtual 98, 3) := by decide +kernel
theorem dX9_readNumber_17 : decode cX9_readNumber 17 = .ok (.ireturn, 1) := by decide +kernel
theorem dX9_readNumber_18 : decode cX9_readNumber 18 = .ok (.aload_n 0, 1) := by decide +kernel
theorem dX9_readNumber_19 : decode cX9_readNumber 19 = .ok (.iconst 0, 1) := by decide +kernel
theorem dX9_readNumber_20 : decode cX9_readNumber 20 = .ok (.putfield 44, 3) := by decide +kernel
theorem dX9_readNumber_23 : decode cX9_readNumber 23 = .ok (.aload_n 0, 1) := by decide +kernel
theorem dX9_readNumber_24 : decode cX9_readNumber 24 = .ok (.getfield 38, 3) := by decide +kernel
theorem dX9_readNumber_27 : decode cX9_readNumber 27 = .ok (.istore_n 3, 1) := by decide +kernel
theorem dX9_readNumber_28 : decode cX9_readNumber 28 = .ok (.iload_n 3, 1) := by decide +kernel
theorem dX9_readNumber_29 : decode cX9_readNumber 29 = .ok (.aload_n 0, 1) := by decide +kernel
theorem dX9_readNumber_30 : decode cX9_readNumber 30 = .ok (.getfield 41, 3) := by decide +kernel
theorem dX9_readNumber_33 : decode cX9_readNumber 33 = .ok (.if_icmp .ge 30, 3) := by decide +kernel
theorem dX9_readNumber_36 : decode cX9_readNumber 36 = .ok (.aload_n 0, 1) := by decide +kernel
theorem dX9_readNumber_37 : decode cX9_readNumber 37 = .ok (.aload_n 0, 1) := by decide +kernel
theorem dX9_readNumber_38 : decode cX9_readNumber 38 = .ok (.getfield 44, 3) := by decide +kernel
theorem dX9_readNumber_41 : decode cX9_readNumber 41 = .ok (.bipush 10, 2) := by decide +kernel
theorem dX9_readNumber_43 : decode cX9_readNumber 43 = .ok (.imul, 1) := by decide +kernel
theorem dX9_readNumber_44 : decode cX9_readNumber 44 = .ok (.aload_n 0, 1) := by decide +kernel
theorem dX9_readNumber_45 : decode cX9_readNumber 45 = .ok (.getfield 9, 3) := by decide +kernel
theorem dX9_readNumber_48 : decode cX9_readNumber 48 = .ok (.iload_n 3, 1) := by decide +kernel
theorem dX9_readNumber_49 : decode cX9_readNumber 49 = .ok (.baload, 1) := by decide +kernel
theorem dX9_readNumber_50 : decode cX9_readNumber 50 = .ok (.iadd, 1) := by decide +kernel
theorem dX9_readNumber_51 : decode cX9_readNumber 51 = .ok (.bipush 48, 2) := by decide +kernel
theorem dX9_readNumber_53 : decode cX9_readNumber 53 = .ok (.isub, 1) := by decide +kernel
theorem dX9_readNumber_54 : decode cX9_readNumber 54 = .ok (.putfield 44, 3) := by decide +kernel
theorem dX9_readNumber_57 : decode cX9_readNumber 57 = .ok (.iinc 3 1, 3) := by decide +kernel
theorem dX9_readNumber_60 : decode cX9_readNumber 60 = .ok (.goto (-32), 3) := by decide +kernel
theorem dX9_readNumber_63 : decode cX9_readNumber 63 = .ok (.aload_n 0, 1) := by decide +kernel
theorem dX9_readNumber_64 : decode cX9_readNumber 64 = .ok (.getfield 44, 3) := by decide +kernel
theorem dX9_readNumber_67 : decode cX9_readNumber 67 = .ok (.iload_n 1, 1) := by decide +kernel
theorem dX9_readNumber_68 : decode cX9_readNumber 68 = .ok (.if_icmp .lt 11, 3) := by decide +kernel
theorem dX9_readNumber_71 : decode cX9_readNumber 71 = .ok (.aload_n 0, 1) := by decide +kernel
theorem dX9_readNumber_72 : decode cX9_readNumber 72 = .ok (.getfield 44, 3) := by decide +kernel
theorem dX9_readNumber_75 : decode cX9_readNumber 75 = .ok (.iload_n 2, 1) := by decide +kernel
theorem dX9_readNumber_76 : decode cX9_readNumber 76 = .ok (.if_icmp .le 11, 3) := by decide +kernel
theorem dX9_readNumber_79 : decode cX9_readNumber 79 = .ok (.aload_n 0, 1) := by decide +kernel
theorem dX9_readNumber_80 : decode cX9_readNumber 80 = .ok (.iconst 3, 1) := by decide +kernel
theorem dX9_readNumber_81 : decode cX9_readNumber 81 = .ok (.invokevirtual 98, 3) := by decide +kernel
theorem dX9_readNumber_84 : decode cX9_readNumber 84 = .ok (.ifCond .eq 7, 3) := by decide +kernel
theorem dX9_readNumber_87 : decode cX9_readNumber 87 = .ok (.iconst 1, 1) := by decide +kernel
theorem dX9_readNumber_88 : decode cX9_readNumber 88 = .ok (.goto 4, 3) := by decide +kernel
theorem dX9_readNumber_91 : decode cX9_readNumber 91 = .ok (.iconst 0, 1) := by decide +kernel
theorem dX9_readNumber_92 : decode cX9_readNumber 92 = .ok (.ireturn, 1) := by decide +kernel
theorem dX9_readSemicolon_0 : decode cX9_readSemicolon 0 = .ok (.aload_n 0, 1) := by decide +kernel
theorem dX9_readSemicolon_1 : decode cX9_readSemicolon 1 = .ok (.invokevirtual 56, 3) := by decide +kernel
theorem dX9_readSemicolon_4 : decode cX9_readSemicolon 4 = .ok (.aload_n 0, 1) := by decide +kernel
theorem dX9_readSemicolon_5 : decode cX9_readSemicolon 5 = .ok (.getfield 35, 3) := by decide +kernel
theorem dX9_readSemicolon_8 : decode cX9_readSemicolon 8 = .ok (.iconst 3, 1) := by decide +kernel
theorem dX9_readSemicolon_9 : decode cX9_readSemicolon 9 = .ok (.if_icmp .eq 11, 3) := by decide +kernel
theorem dX9_readSemicolon_12 : decode cX9_readSemicolon 12 = .ok (.aload_n 0, 1) := by decide +kernel
theorem dX9_readSemicolon_13 : decode cX9_readSemicolon 13 = .ok (.iconst 1, 1) := by decide +kernel
theorem dX9_readSemicolon_14 : decode cX9_readSemicolon 14 = .ok (.invokevirtual 98, 3) := by decide +kernel
theorem dX9_readSemicolon_17 : decode cX9_readSemicolon 17 = .ok (.ifCond .eq 7, 3) := by decide +kernel
theorem dX9_readSemicolon_20 : decode cX9_readSemicolon 20 = .ok (.iconst 1, 1) := by decide +kernel
theorem dX9_readSemicolon_21 : decode cX9_readSemicolon 21 = .ok (.goto 4, 3) := by decide +kernel
theorem dX9_readSemicolon_24 : decode cX9_readSemicolon 24 = .ok (.iconst 0, 1) := by decide +kernel
theorem dX9_readSemicolon_25 : decode cX9_readSemicolon 25 = .ok (.ireturn, 1) := by decide +kernel
theorem dX9_isWord_0 : decode cX9_isWord 0 = .ok (.aload_n 0, 1) := by decide +kernel
theorem dX9_isWord_1 : decode cX9_isWord 1 = .ok (.getfield 35, 3) := by decide +kernel
theorem dX9_isWord_4 : decode cX9_isWord 4 = .ok (.iconst 1, 1) := by decide +kernel
theorem dX9_isWord_5 : decode cX9_isWord 5 = .ok (.if_icmp .ne 19, 3) := by decide +kernel
theorem dX9_isWord_8 : decode cX9_isWord 8 = .ok (.aload_n 0, 1) := by decide +kernel
theorem dX9_isWord_9 : decode cX9_isWord 9 = .ok (.getfield 41, 3) := by decide +kernel
theorem dX9_isWord_12 : decode cX9_isWord 12 = .ok (.aload_n 0, 1) := by decide +kernel
theorem dX9_isWord_13 : decode cX9_isWord 13 = .ok (.getfield 38, 3) := by decide +kernel
theorem dX9_isWord_16 : decode cX9_isWord 16 = .ok (.isub, 1) := by decide +kernel
theorem dX9_isWord_17 : decode cX9_isWord 17 = .ok (.aload_n 1, 1) := by decide +kernel
theorem dX9_isWord_18 : decode cX9_isWord 18 = .ok (.invokevirtual 127, 3) := by decide +kernel
theorem dX9_isWord_21 : decode cX9_isWord 21 = .ok (.if_icmp .eq 5, 3) := by decide +kernel
theorem dX9_isWord_24 : decode cX9_isWord 24 = .ok (.iconst 0, 1) := by decide +kernel
theorem dX9_isWord_25 : decode cX9_isWord 25 = .ok (.ireturn, 1) := by decide +kernel
theorem dX9_isWord_26 : decode cX9_isWord 26 = .ok (.iconst 0, 1) := by decide +kernel
theorem dX9_isWord_27 : decode cX9_isWord 27 = .ok (.istore_n 2, 1) := by decide +kernel
theorem dX9_isWord_28 : decode cX9_isWord 28 = .ok (.iload_n 2, 1) := by decide +kernel
theorem dX9_isWord_29 : decode cX9_isWord 29 = .ok (.aload_n 1, 1) := by decide +kernel
theorem dX9_isWord_30 : decode cX9_isWord 30 = .ok (.invokevirtual 127, 3) := by decide +kernel
theorem dX9_isWord_33 : decode cX9_isWord 33 = .ok (.if_icmp .ge 30, 3) := by decide +kernel
theorem dX9_isWord_36 : decode cX9_isWord 36 = .ok (.aload_n 0, 1) := by decide +kernel
theorem dX9_isWord_37 : decode cX9_isWord 37 = .ok (.getfield 9, 3) := by decide +kernel
theorem dX9_isWord_40 : decode cX9_isWord 40 = .ok (.aload_n 0, 1) := by decide +kernel
theorem dX9_isWord_41 : decode cX9_isWord 41 = .ok (.getfield 38, 3) := by decide +kernel
theorem dX9_isWord_44 : decode cX9_isWord 44 = .ok (.iload_n 2, 1) := by decide +kernel
theorem dX9_isWord_45 : decode cX9_isWord 45 = .ok (.iadd, 1) := by decide +kernel
theorem dX9_isWord_46 : decode cX9_isWord 46 = .ok (.baload, 1) := by decide +kernel
theorem dX9_isWord_47 : decode cX9_isWord 47 = .ok (.aload_n 1, 1) := by decide +kernel
theorem dX9_isWord_48 : decode cX9_isWord 48 = .ok (.iload_n 2, 1) := by decide +kernel
theorem dX9_isWord_49 : decode cX9_isWord 49 = .ok (.invokevirtual 132, 3) := by decide +kernel
theorem dX9_isWord_52 : decode cX9_isWord 52 = .ok (.if_icmp .eq 5, 3) := by decide +kernel
theorem dX9_isWord_55 : decode cX9_isWord 55 = .ok (.iconst 0, 1) := by decide +kernel
theorem dX9_isWord_56 : decode cX9_isWord 56 = .ok (.ireturn, 1) := by decide +kernel
theorem dX9_isWord_57 : decode cX9_isWord 57 = .ok (.iinc 2 1, 3) := by decide +kernel
theorem dX9_isWord_60 : decode cX9_isWord 60 = .ok (.goto (-32), 3) := by decide +kernel
theorem dX9_isWord_63 : decode cX9_isWord 63 = .ok (.iconst 1, 1) := by decide +kernel
theorem dX9_isWord_64 : decode cX9_isWord 64 = .ok (.ireturn, 1) := by decide +kernel
theorem dX9_nextToken_0 : decode cX9_nextToken 0 = .ok (.aload_n 0, 1) := by decide +kernel
theorem dX9_nextToken_1 : decode cX9_nextToken 1 = .ok (.invokevirtual 136, 3) := by decide +kernel
theorem dX9_nextToken_4 : decode cX9_nextToken 4 = .ok (.aload_n 0, 1) := by decide +kernel
theorem dX9_nextToken_5 : decode cX9_nextToken 5 = .ok (.getfield 38, 3) := by decide +kernel
theorem dX9_nextToken_8 : decode cX9_nextToken 8 = .ok (.aload_n 0, 1) := by decide +kernel
theorem dX9_nextToken_9 : decode cX9_nextToken 9 = .ok (.getfield 32, 3) := by decide +kernel
theorem dX9_nextToken_12 : decode cX9_nextToken 12 = .ok (.if_icmp .lt 11, 3) := by decide +kernel
theorem dX9_nextToken_15 : decode cX9_nextToken 15 = .ok (.aload_n 0, 1) := by decide +kernel
theorem dX9_nextToken_16 : decode cX9_nextToken 16 = .ok (.iconst 0, 1) := by decide +kernel
theorem dX9_nextToken_17 : decode cX9_nextToken 17 = .ok (.putfield 35, 3) := by decide +kernel
theorem dX9_nextToken_20 : decode cX9_nextToken 20 = .ok (.goto 109, 3) := by decide +kernel
theorem dX9_nextToken_23 : decode cX9_nextToken 23 = .ok (.aload_n 0, 1) := by decide +kernel
theorem dX9_nextToken_24 : decode cX9_nextToken 24 = .ok (.bipush 97, 2) := by decide +kernel
theorem dX9_nextToken_26 : decode cX9_nextToken 26 = .ok (.bipush 122, 2) := by decide +kernel
theorem dX9_nextToken_28 : decode cX9_nextToken 28 = .ok (.invokevirtual 139, 3) := by decide +kernel
theorem dX9_nextToken_31 : decode cX9_nextToken 31 = .ok (.ifCond .eq 29, 3) := by decide +kernel
theorem dX9_nextToken_34 : decode cX9_nextToken 34 = .ok (.aload_n 0, 1) := by decide +kernel
theorem dX9_nextToken_35 : decode cX9_nextToken 35 = .ok (.aload_n 0, 1) := by decide +kernel
theorem dX9_nextToken_36 : decode cX9_nextToken 36 = .ok (.getfield 41, 3) := by decide +kernel
theorem dX9_nextToken_39 : decode cX9_nextToken 39 = .ok (.aload_n 0, 1) := by decide +kernel
theorem dX9_nextToken_40 : decode cX9_nextToken 40 = .ok (.getfield 38, 3) := by decide +kernel
theorem dX9_nextToken_43 : decode cX9_nextToken 43 = .ok (.isub, 1) := by decide +kernel
theorem dX9_nextToken_44 : decode cX9_nextToken 44 = .ok (.bipush 8, 2) := by decide +kernel
theorem dX9_nextToken_46 : decode cX9_nextToken 46 = .ok (.if_icmp .gt 7, 3) := by decide +kernel
theorem dX9_nextToken_49 : decode cX9_nextToken 49 = .ok (.iconst 1, 1) := by decide +kernel
theorem dX9_nextToken_50 : decode cX9_nextToken 50 = .ok (.goto 4, 3) := by decide +kernel
theorem dX9_nextToken_53 : decode cX9_nextToken 53 = .ok (.iconst 4, 1) := by decide +kernel
theorem dX9_nextToken_54 : decode cX9_nextToken 54 = .ok (.putfield 35, 3) := by decide +kernel
theorem dX9_nextToken_57 : decode cX9_nextToken 57 = .ok (.goto 72, 3) := by decide +kernel
theorem dX9_nextToken_60 : decode cX9_nextToken 60 = .ok (.aload_n 0, 1) := by decide +kernel
theorem dX9_nextToken_61 : decode cX9_nextToken 61 = .ok (.bipush 48, 2) := by decide +kernel
theorem dX9_nextToken_63 : decode cX9_nextToken 63 = .ok (.bipush 57, 2) := by decide +kernel
theorem dX9_nextToken_65 : decode cX9_nextToken 65 = .ok (.invokevirtual 139, 3) := by decide +kernel
theorem dX9_nextToken_68 : decode cX9_nextToken 68 = .ok (.ifCond .eq 28, 3) := by decide +kernel
theorem dX9_nextToken_71 : decode cX9_nextToken 71 = .ok (.aload_n 0, 1) := by decide +kernel
theorem dX9_nextToken_72 : decode cX9_nextToken 72 = .ok (.aload_n 0, 1) := by decide +kernel
theorem dX9_nextToken_73 : decode cX9_nextToken 73 = .ok (.getfield 41, 3) := by decide +kernel
theorem dX9_nextToken_76 : decode cX9_nextToken 76 = .ok (.aload_n 0, 1) := by decide +kernel
theorem dX9_nextToken_77 : decode cX9_nextToken 77 = .ok (.getfield 38, 3) := by decide +kernel
theorem dX9_nextToken_80 : decode cX9_nextToken 80 = .ok (.isub, 1) := by decide +kernel
theorem dX9_nextToken_81 : decode cX9_nextToken 81 = .ok (.iconst 4, 1) := by decide +kernel
theorem dX9_nextToken_82 : decode cX9_nextToken 82 = .ok (.if_icmp .gt 7, 3) := by decide +kernel
theorem dX9_nextToken_85 : decode cX9_nextToken 85 = .ok (.iconst 2, 1) := by decide +kernel
theorem dX9_nextToken_86 : decode cX9_nextToken 86 = .ok (.goto 4, 3) := by decide +kernel
theorem dX9_nextToken_89 : decode cX9_nextToken 89 = .ok (.iconst 4, 1) := by decide +kernel
theorem dX9_nextToken_90 : decode cX9_nextToken 90 = .ok (.putfield 35, 3) := by decide +kernel
theorem dX9_nextToken_93 : decode cX9_nextToken 93 = .ok (.goto 36, 3) := by decide +kernel
theorem dX9_nextToken_96 : decode cX9_nextToken 96 = .ok (.aload_n 0, 1) := by decide +kernel
theorem dX9_nextToken_97 : decode cX9_nextToken 97 = .ok (.aload_n 0, 1) := by decide +kernel
theorem dX9_nextToken_98 : decode cX9_nextToken 98 = .ok (.getfield 9, 3) := by decide +kernel
theorem dX9_nextToken_101 : decode cX9_nextToken 101 = .ok (.aload_n 0, 1) := by decide +kernel
theorem dX9_nextToken_102 : decode cX9_nextToken 102 = .ok (.getfield 38, 3) := by decide +kernel
theorem dX9_nextToken_105 : decode cX9_nextToken 105 = .ok (.baload, 1) := by decide +kernel
theorem dX9_nextToken_106 : decode cX9_nextToken 106 = .ok (.bipush 59, 2) := by decide +kernel
theorem dX9_nextToken_108 : decode cX9_nextToken 108 = .ok (.if_icmp .ne 7, 3) := by decide +kernel
theorem dX9_nextToken_111 : decode cX9_nextToken 111 = .ok (.iconst 3, 1) := by decide +kernel
theorem dX9_nextToken_112 : decode cX9_nextToken 112 = .ok (.goto 4, 3) := by decide +kernel
theorem dX9_nextToken_115 : decode cX9_nextToken 115 = .ok (.iconst 4, 1) := by decide +kernel
theorem dX9_nextToken_116 : decode cX9_nextToken 116 = .ok (.putfield 35, 3) := by decide +kernel
theorem dX9_nextToken_119 : decode cX9_nextToken 119 = .ok (.aload_n 0, 1) := by decide +kernel
theorem dX9_nextToken_120 : decode cX9_nextToken 120 = .ok (.aload_n 0, 1) := by decide +kernel
theorem dX9_nextToken_121 : decode cX9_nextToken 121 = .ok (.getfield 38, 3) := by decide +kernel
theorem dX9_nextToken_124 : decode cX9_nextToken 124 = .ok (.iconst 1, 1) := by decide +kernel
theorem dX9_nextToken_125 : decode cX9_nextToken 125 = .ok (.iadd, 1) := by decide +kernel
theorem dX9_nextToken_126 : decode cX9_nextToken 126 = .ok (.putfield 41, 3) := by decide +kernel
theorem dX9_nextToken_129 : decode cX9_nextToken 129 = .ok (.return_, 1) := by decide +kernel
theorem dX9_skipSeparators_0 : decode cX9_skipSeparators 0 = .ok (.aload_n 0, 1) := by decide +kernel
theorem dX9_skipSeparators_1 : decode cX9_skipSeparators 1 = .ok (.aload_n 0, 1) := by decide +kernel
theorem dX9_skipSeparators_2 : decode cX9_skipSeparators 2 = .ok (.getfield 41, 3) := by decide +kernel
theorem dX9_skipSeparators_5 : decode cX9_skipSeparators 5 = .ok (.putfield 38, 3) := by decide +kernel
theorem dX9_skipSeparators_8 : decode cX9_skipSeparators 8 = .ok (.aload_n 0, 1) := by decide +kernel
theorem dX9_skipSeparators_9 : decode cX9_skipSeparators 9 = .ok (.getfield 38, 3) := by decide +kernel
theorem dX9_skipSeparators_12 : decode cX9_skipSeparators 12 = .ok (.aload_n 0, 1) := by decide +kernel
theorem dX9_skipSeparators_13 : decode cX9_skipSeparators 13 = .ok (.getfield 32, 3) := by decide +kernel
theorem dX9_skipSeparators_16 : decode cX9_skipSeparators 16 = .ok (.if_icmp .ge 44, 3) := by decide +kernel
theorem dX9_skipSeparators_19 : decode cX9_skipSeparators 19 = .ok (.aload_n 0, 1) := by decide +kernel
theorem dX9_skipSeparators_20 : decode cX9_skipSeparators 20 = .ok (.getfield 9, 3) := by decide +kernel
theorem dX9_skipSeparators_23 : decode cX9_skipSeparators 23 = .ok (.aload_n 0, 1) := by decide +kernel
theorem dX9_skipSeparators_24 : decode cX9_skipSeparators 24 = .ok (.getfield 38, 3) := by decide +kernel
theorem dX9_skipSeparators_27 : decode cX9_skipSeparators 27 = .ok (.baload, 1) := by decide +kernel
theorem dX9_skipSeparators_28 : decode cX9_skipSeparators 28 = .ok (.bipush 32, 2) := by decide +kernel
theorem dX9_skipSeparators_30 : decode cX9_skipSeparators 30 = .ok (.if_icmp .eq 17, 3) := by decide +kernel
theorem dX9_skipSeparators_33 : decode cX9_skipSeparators 33 = .ok (.aload_n 0, 1) := by decide +kernel
theorem dX9_skipSeparators_34 : decode cX9_skipSeparators 34 = .ok (.getfield 9, 3) := by decide +kernel
theorem dX9_skipSeparators_37 : decode cX9_skipSeparators 37 = .ok (.aload_n 0, 1) := by decide +kernel
theorem dX9_skipSeparators_38 : decode cX9_skipSeparators 38 = .ok (.getfield 38, 3) := by decide +kernel
theorem dX9_skipSeparators_41 : decode cX9_skipSeparators 41 = .ok (.baload, 1) := by decide +kernel
theorem dX9_skipSeparators_42 : decode cX9_skipSeparators 42 = .ok (.bipush 10, 2) := by decide +kernel
theorem dX9_skipSeparators_44 : decode cX9_skipSeparators 44 = .ok (.if_icmp .ne 16, 3) := by decide +kernel
theorem dX9_skipSeparators_47 : decode cX9_skipSeparators 47 = .ok (.aload_n 0, 1) := by decide +kernel
theorem dX9_skipSeparators_48 : decode cX9_skipSeparators 48 = .ok (.dup, 1) := by decide +kernel
theorem dX9_skipSeparators_49 : decode cX9_skipSeparators 49 = .ok (.getfield 38, 3) := by decide +kernel
theorem dX9_skipSeparators_52 : decode cX9_skipSeparators 52 = .ok (.iconst 1, 1) := by decide +kernel
theorem dX9_skipSeparators_53 : decode cX9_skipSeparators 53 = .ok (.iadd, 1) := by decide +kernel
theorem dX9_skipSeparators_54 : decode cX9_skipSeparators 54 = .ok (.putfield 38, 3) := by decide +kernel
theorem dX9_skipSeparators_57 : decode cX9_skipSeparators 57 = .ok (.goto (-49), 3) := by decide +kernel
theorem dX9_skipSeparators_60 : decode cX9_skipSeparators 60 = .ok (.aload_n 0, 1) := by decide +kernel
theorem dX9_skipSeparators_61 : decode cX9_skipSeparators 61 = .ok (.aload_n 0, 1) := by decide +kernel
theorem dX9_skipSeparators_62 : decode cX9_skipSeparators 62 = .ok (.getfield 38, 3) := by decide +kernel
theorem dX9_skipSeparators_65 : decode cX9_skipSeparators 65 = .ok (.putfield 41, 3) := by decide +kernel
theorem dX9_skipSeparators_68 : decode cX9_skipSeparators 68 = .ok (.return_, 1) := by decide +kernel
theorem dX9_takeRun_0 : decode cX9_takeRun 0 = .ok (.aload_n 0, 1) := by decide +kernel
theorem dX9_takeRun_1 : decode cX9_takeRun 1 = .ok (.getfield 41, 3) := by decide +kernel
theorem dX9_takeRun_4 : decode cX9_takeRun 4 = .ok (.aload_n 0, 1) := by decide +kernel
theorem dX9_takeRun_5 : decode cX9_takeRun 5 = .ok (.getfield 32, 3) := by decide +kernel
theorem dX9_takeRun_8 : decode cX9_takeRun 8 = .ok (.if_icmp .ge 42, 3) := by decide +kernel
theorem dX9_takeRun_11 : decode cX9_takeRun 11 = .ok (.aload_n 0, 1) := by decide +kernel
theorem dX9_takeRun_12 : decode cX9_takeRun 12 = .ok (.getfield 9, 3) := by decide +kernel
theorem dX9_takeRun_15 : decode cX9_takeRun 15 = .ok (.aload_n 0, 1) := by decide +kernel
theorem dX9_takeRun_16 : decode cX9_takeRun 16 = .ok (.getfield 41, 3) := by decide +kernel
theorem dX9_takeRun_19 : decode cX9_takeRun 19 = .ok (.baload, 1) := by decide +kernel
theorem dX9_takeRun_20 : decode cX9_takeRun 20 = .ok (.iload_n 1, 1) := by decide +kernel
theorem dX9_takeRun_21 : decode cX9_takeRun 21 = .ok (.if_icmp .lt 29, 3) := by decide +kernel
theorem dX9_takeRun_24 : decode cX9_takeRun 24 = .ok (.aload_n 0, 1) := by decide +kernel
theorem dX9_takeRun_25 : decode cX9_takeRun 25 = .ok (.getfield 9, 3) := by decide +kernel
theorem dX9_takeRun_28 : decode cX9_takeRun 28 = .ok (.aload_n 0, 1) := by decide +kernel
theorem dX9_takeRun_29 : decode cX9_takeRun 29 = .ok (.getfield 41, 3) := by decide +kernel
theorem dX9_takeRun_32 : decode cX9_takeRun 32 = .ok (.baload, 1) := by decide +kernel
theorem dX9_takeRun_33 : decode cX9_takeRun 33 = .ok (.iload_n 2, 1) := by decide +kernel
theorem dX9_takeRun_34 : decode cX9_takeRun 34 = .ok (.if_icmp .gt 16, 3) := by decide +kernel
theorem dX9_takeRun_37 : decode cX9_takeRun 37 = .ok (.aload_n 0, 1) := by decide +kernel
theorem dX9_takeRun_38 : decode cX9_takeRun 38 = .ok (.dup, 1) := by decide +kernel
theorem dX9_takeRun_39 : decode cX9_takeRun 39 = .ok (.getfield 41, 3) := by decide +kernel
theorem dX9_takeRun_42 : decode cX9_takeRun 42 = .ok (.iconst 1, 1) := by decide +kernel
theorem dX9_takeRun_43 : decode cX9_takeRun 43 = .ok (.iadd, 1) := by decide +kernel
theorem dX9_takeRun_44 : decode cX9_takeRun 44 = .ok (.putfield 41, 3) := by decide +kernel
theorem dX9_takeRun_47 : decode cX9_takeRun 47 = .ok (.goto (-47), 3) := by decide +kernel
theorem dX9_takeRun_50 : decode cX9_takeRun 50 = .ok (.aload_n 0, 1) := by decide +kernel
theorem dX9_takeRun_51 : decode cX9_takeRun 51 = .ok (.getfield 41, 3) := by decide +kernel
theorem dX9_takeRun_54 : decode cX9_takeRun 54 = .ok (.aload_n 0, 1) := by decide +kernel
theorem dX9_takeRun_55 : decode cX9_takeRun 55 = .ok (.getfield 38, 3) := by decide +kernel
theorem dX9_takeRun_58 : decode cX9_takeRun 58 = .ok (.if_icmp .le 7, 3) := by decide +kernel
theorem dX9_takeRun_61 : decode cX9_takeRun 61 = .ok (.iconst 1, 1) := by decide +kernel
theorem dX9_takeRun_62 : decode cX9_takeRun 62 = .ok (.goto 4, 3) := by decide +kernel
theorem dX9_takeRun_65 : decode cX9_takeRun 65 = .ok (.iconst 0, 1) := by decide +kernel
theorem dX9_takeRun_66 : decode cX9_takeRun 66 = .ok (.ireturn, 1) := by decide +kernel
theorem dX10_init_0 : decode cX10_init 0 = .ok (.aload_n 0, 1) := by decide +kernel
theorem dX10_init_1 : decode cX10_init 1 = .ok (.invokespecial 1, 3) := by decide +kernel
theorem dX10_init_4 : decode cX10_init 4 = .ok (.aload_n 0, 1) := by decide +kernel
theorem dX10_init_5 : decode cX10_init 5 = .ok (.new 7, 3) := by decide +kernel
theorem dX10_init_8 : decode cX10_init 8 = .ok (.dup, 1) := by decide +kernel
theorem dX10_init_9 : decode cX10_init 9 = .ok (.invokespecial 9, 3) := by decide +kernel
theorem dX10_init_12 : decode cX10_init 12 = .ok (.putfield 10, 3) := by decide +kernel
theorem dX10_init_15 : decode cX10_init 15 = .ok (.aload_n 0, 1) := by decide +kernel
theorem dX10_init_16 : decode cX10_init 16 = .ok (.new 16, 3) := by decide +kernel
theorem dX10_init_19 : decode cX10_init 19 = .ok (.dup, 1) := by decide +kernel
theorem dX10_init_20 : decode cX10_init 20 = .ok (.invokespecial 18, 3) := by decide +kernel
theorem dX10_init_23 : decode cX10_init 23 = .ok (.putfield 19, 3) := by decide +kernel
theorem dX10_init_26 : decode cX10_init 26 = .ok (.aload_n 0, 1) := by decide +kernel
theorem dX10_init_27 : decode cX10_init 27 = .ok (.new 23, 3) := by decide +kernel
theorem dX10_init_30 : decode cX10_init 30 = .ok (.dup, 1) := by decide +kernel
theorem dX10_init_31 : decode cX10_init 31 = .ok (.invokespecial 25, 3) := by decide +kernel
theorem dX10_init_34 : decode cX10_init 34 = .ok (.putfield 26, 3) := by decide +kernel
theorem dX10_init_37 : decode cX10_init 37 = .ok (.aload_n 0, 1) := by decide +kernel
theorem dX10_init_38 : decode cX10_init 38 = .ok (.new 30, 3) := by decide +kernel
theorem dX10_init_41 : decode cX10_init 41 = .ok (.dup, 1) := by decide +kernel
theorem dX10_init_42 : decode cX10_init 42 = .ok (.invokespecial 32, 3) := by decide +kernel
theorem dX10_init_45 : decode cX10_init 45 = .ok (.putfield 33, 3) := by decide +kernel
theorem dX10_init_48 : decode cX10_init 48 = .ok (.aload_n 0, 1) := by decide +kernel
theorem dX10_init_49 : decode cX10_init 49 = .ok (.iconst 2, 1) := by decide +kernel
theorem dX10_init_50 : decode cX10_init 50 = .ok (.anewarray 23, 3) := by decide +kernel
theorem dX10_init_53 : decode cX10_init 53 = .ok (.putfield 37, 3) := by decide +kernel
theorem dX10_init_56 : decode cX10_init 56 = .ok (.aload_n 0, 1) := by decide +kernel
theorem dX10_init_57 : decode cX10_init 57 = .ok (.iconst 2, 1) := by decide +kernel
theorem dX10_init_58 : decode cX10_init 58 = .ok (.newarray .boolean, 2) := by decide +kernel
theorem dX10_init_60 : decode cX10_init 60 = .ok (.putfield 41, 3) := by decide +kernel
theorem dX10_init_63 : decode cX10_init 63 = .ok (.aload_n 0, 1) := by decide +kernel
theorem dX10_init_64 : decode cX10_init 64 = .ok (.new 45, 3) := by decide +kernel
theorem dX10_init_67 : decode cX10_init 67 = .ok (.dup, 1) := by decide +kernel
theorem dX10_init_68 : decode cX10_init 68 = .ok (.invokespecial 47, 3) := by decide +kernel
theorem dX10_init_71 : decode cX10_init 71 = .ok (.putfield 48, 3) := by decide +kernel
theorem dX10_init_74 : decode cX10_init 74 = .ok (.aload_n 0, 1) := by decide +kernel
theorem dX10_init_75 : decode cX10_init 75 = .ok (.new 52, 3) := by decide +kernel
theorem dX10_init_78 : decode cX10_init 78 = .ok (.dup, 1) := by decide +kernel
theorem dX10_init_79 : decode cX10_init 79 = .ok (.invokespecial 54, 3) := by decide +kernel
theorem dX10_init_82 : decode cX10_init 82 = .ok (.putfield 55, 3) := by decide +kernel
theorem dX10_init_85 : decode cX10_init 85 = .ok (.aload_n 0, 1) := by decide +kernel
theorem dX10_init_86 : decode cX10_init 86 = .ok (.new 59, 3) := by decide +kernel
theorem dX10_init_89 : decode cX10_init 89 = .ok (.dup, 1) := by decide +kernel
theorem dX10_init_90 : decode cX10_init 90 = .ok (.invokespecial 61, 3) := by decide +kernel
theorem dX10_init_93 : decode cX10_init 93 = .ok (.putfield 62, 3) := by decide +kernel
theorem dX10_init_96 : decode cX10_init 96 = .ok (.aload_n 0, 1) := by decide +kernel
theorem dX10_init_97 : decode cX10_init 97 = .ok (.bipush 10, 2) := by decide +kernel
theorem dX10_init_99 : decode cX10_init 99 = .ok (.newarray .int, 2) := by decide +kernel
theorem dX10_init_101 : decode cX10_init 101 = .ok (.putfield 66, 3) := by decide +kernel
theorem dX10_init_104 : decode cX10_init 104 = .ok (.iconst 0, 1) := by decide +kernel
theorem dX10_init_105 : decode cX10_init 105 = .ok (.istore_n 1, 1) := by decide +kernel
theorem dX10_init_106 : decode cX10_init 106 = .ok (.iload_n 1, 1) := by decide +kernel
theorem dX10_init_107 : decode cX10_init 107 = .ok (.iconst 2, 1) := by decide +kernel
theorem dX10_init_108 : decode cX10_init 108 = .ok (.if_icmp .ge 22, 3) := by decide +kernel
theorem dX10_init_111 : decode cX10_init 111 = .ok (.aload_n 0, 1) := by decide +kernel
theorem dX10_init_112 : decode cX10_init 112 = .ok (.getfield 37, 3) := by decide +kernel
theorem dX10_init_115 : decode cX10_init 115 = .ok (.iload_n 1, 1) := by decide +kernel
theorem dX10_init_116 : decode cX10_init 116 = .ok (.new 23, 3) := by decide +kernel
theorem dX10_init_119 : decode cX10_init 119 = .ok (.dup, 1) := by decide +kernel
theorem dX10_init_120 : decode cX10_init 120 = .ok (.invokespecial 25, 3) := by decide +kernel
theorem dX10_init_123 : decode cX10_init 123 = .ok (.aastore, 1) := by decide +kernel
theorem dX10_init_124 : decode cX10_init 124 = .ok (.iinc 1 1, 3) := by decide +kernel
theorem dX10_init_127 : decode cX10_init 127 = .ok (.goto (-21), 3) := by decide +kernel
theorem dX10_init_130 : decode cX10_init 130 = .ok (.aload_n 0, 1) := by decide +kernel
theorem dX10_init_131 : decode cX10_init 131 = .ok (.getfield 26, 3) := by decide +kernel
theorem dX10_init_134 : decode cX10_init 134 = .ok (.aload_n 0, 1) := by decide +kernel
theorem dX10_init_135 : decode cX10_init 135 = .ok (.getfield 19, 3) := by decide +kernel
theorem dX10_init_138 : decode cX10_init 138 = .ok (.getfield 70, 3) := by decide +kernel
theorem dX10_init_141 : decode cX10_init 141 = .ok (.invokevirtual 74, 3) := by decide +kernel
theorem dX10_init_144 : decode cX10_init 144 = .ok (.return_, 1) := by decide +kernel
theorem dX10_append_0 : decode cX10_append 0 = .ok (.aload_n 0, 1) := by decide +kernel
theorem dX10_append_1 : decode cX10_append 1 = .ok (.getfield 10, 3) := by decide +kernel
theorem dX10_append_4 : decode cX10_append 4 = .ok (.getfield 78, 3) := by decide +kernel
theorem dX10_append_7 : decode cX10_append 7 = .ok (.sipush 480, 3) := by decide +kernel
theorem dX10_append_10 : decode cX10_append 10 = .ok (.if_icmp .le 5, 3) := by decide +kernel
theorem dX10_append_13 : decode cX10_append 13 = .ok (.iconst (-1), 1) := by decide +kernel
theorem dX10_append_14 : decode cX10_append 14 = .ok (.ireturn, 1) := by decide +kernel
theorem dX10_append_15 : decode cX10_append 15 = .ok (.aload_n 0, 1) := by decide +kernel
theorem dX10_append_16 : decode cX10_append 16 = .ok (.getfield 10, 3) := by decide +kernel
theorem dX10_append_19 : decode cX10_append 19 = .ok (.iload_n 1, 1) := by decide +kernel
theorem dX10_append_20 : decode cX10_append 20 = .ok (.invokevirtual 81, 3) := by decide +kernel
theorem dX10_append_23 : decode cX10_append 23 = .ok (.aload_n 0, 1) := by decide +kernel
theorem dX10_append_24 : decode cX10_append 24 = .ok (.getfield 10, 3) := by decide +kernel
theorem dX10_append_27 : decode cX10_append 27 = .ok (.iload_n 2, 1) := by decide +kernel
theorem dX10_append_28 : decode cX10_append 28 = .ok (.invokevirtual 81, 3) := by decide +kernel
theorem dX10_append_31 : decode cX10_append 31 = .ok (.aload_n 0, 1) := by decide +kernel
theorem dX10_append_32 : decode cX10_append 32 = .ok (.getfield 10, 3) := by decide +kernel
theorem dX10_append_35 : decode cX10_append 35 = .ok (.iload_n 3, 1) := by decide +kernel
theorem dX10_append_36 : decode cX10_append 36 = .ok (.invokevirtual 81, 3) := by decide +kernel
theorem dX10_append_39 : decode cX10_append 39 = .ok (.aload_n 0, 1) := by decide +kernel
theorem dX10_append_40 : decode cX10_append 40 = .ok (.getfield 10, 3) := by decide +kernel
theorem dX10_append_43 : decode cX10_append 43 = .ok (.iload 4, 2) := by decide +kernel
theorem dX10_append_45 : decode cX10_append 45 = .ok (.invokevirtual 81, 3) := by decide +kernel
theorem dX10_append_48 : decode cX10_append 48 = .ok (.aload_n 0, 1) := by decide +kernel
theorem dX10_append_49 : decode cX10_append 49 = .ok (.getfield 10, 3) := by decide +kernel
theorem dX10_append_52 : decode cX10_append 52 = .ok (.iload 5, 2) := by decide +kernel
theorem dX10_append_54 : decode cX10_append 54 = .ok (.invokevirtual 81, 3) := by decide +kernel
theorem dX10_append_57 : decode cX10_append 57 = .ok (.aload_n 0, 1) := by decide +kernel
theorem dX10_append_58 : decode cX10_append 58 = .ok (.getfield 10, 3) := by decide +kernel
theorem dX10_append_61 : decode cX10_append 61 = .ok (.getfield 78, 3) := by decide +kernel
theorem dX10_append_64 : decode cX10_append 64 = .ok (.ireturn, 1) := by decide +kernel
theorem dX10_parse_0 : decode cX10_parse 0 = .ok (.iload_n 1, 1) := by decide +kernel
theorem dX10_parse_1 : decode cX10_parse 1 = .ok (.ifCond .lt 14, 3) := by decide +kernel
theorem dX10_parse_4 : decode cX10_parse 4 = .ok (.iload_n 1, 1) := by decide +kernel
theorem dX10_parse_5 : decode cX10_parse 5 = .ok (.aload_n 0, 1) := by decide +kernel
theorem dX10_parse_6 : decode cX10_parse 6 = .ok (.getfield 10, 3) := by decide +kernel
theorem dX10_parse_9 : decode cX10_parse 9 = .ok (.getfield 78, 3) := by decide +kernel
theorem dX10_parse_12 : decode cX10_parse 12 = .ok (.if_icmp .le 13, 3) := by decide +kernel
theorem dX10_parse_15 : decode cX10_parse 15 = .ok (.new 84, 3) := by decide +kernel
theorem dX10_parse_18 : decode cX10_parse 18 = .ok (.dup, 1) := by decide +kernel
theorem dX10_parse_19 : decode cX10_parse 19 = .ok (.ldc 86, 2) := by decide +kernel
theorem dX10_parse_21 : decode cX10_parse 21 = .ok (.invokespecial 88, 3) := by decide +kernel
theorem dX10_parse_24 : decode cX10_parse 24 = .ok (.athrow, 1) := by decide +kernel
theorem dX10_parse_25 : decode cX10_parse 25 = .ok (.aload_n 0, 1) := by decide +kernel
theorem dX10_parse_26 : decode cX10_parse 26 = .ok (.getfield 10, 3) := by decide +kernel
theorem dX10_parse_29 : decode cX10_parse 29 = .ok (.iload_n 1, 1) := by decide +kernel
theorem dX10_parse_30 : decode cX10_parse 30 = .ok (.invokevirtual 91, 3) := by decide +kernel
theorem dX10_parse_33 : decode cX10_parse 33 = .ok (.istore_n 2, 1) := by decide +kernel
theorem dX10_parse_34 : decode cX10_parse 34 = .ok (.iload_n 2, 1) := by decide +kernel
theorem dX10_parse_35 : decode cX10_parse 35 = .ok (.ifCond .ne 22, 3) := by decide +kernel
theorem dX10_parse_38 : decode cX10_parse 38 = .ok (.aload_n 0, 1) := by decide +kernel
theorem dX10_parse_39 : decode cX10_parse 39 = .ok (.aload_n 0, 1) := by decide +kernel
theorem dX10_parse_40 : decode cX10_parse 40 = .ok (.getfield 10, 3) := by decide +kernel
theorem dX10_parse_43 : decode cX10_parse 43 = .ok (.aload_n 0, 1) := by decide +kernel
theorem dX10_parse_44 : decode cX10_parse 44 = .ok (.getfield 19, 3) := by decide +kernel
theorem dX10_parse_47 : decode cX10_parse 47 = .ok (.invokevirtual 95, 3) := by decide +kernel
theorem dX10_parse_50 : decode cX10_parse 50 = .ok (.putfield 19, 3) := by decide +kernel
theorem dX10_parse_53 : decode cX10_parse 53 = .ok (.aload_n 0, 1) := by decide +kernel
theorem dX10_parse_54 : decode cX10_parse 54 = .ok (.invokevirtual 99, 3) := by decide +kernel
theorem dX10_parse_57 : decode cX10_parse 57 = .ok (.iload_n 2, 1) := by decide +kernel
theorem dX10_parse_58 : decode cX10_parse 58 = .ok (.ireturn, 1) := by decide +kernel
theorem dX10_startAnew_0 : decode cX10_startAnew 0 = .ok (.aload_n 0, 1) := by decide +kernel
theorem dX10_startAnew_1 : decode cX10_startAnew 1 = .ok (.getfield 26, 3) := by decide +kernel
theorem dX10_startAnew_4 : decode cX10_startAnew 4 = .ok (.aload_n 0, 1) := by decide +kernel
theorem dX10_startAnew_5 : decode cX10_startAnew 5 = .ok (.getfield 19, 3) := by decide +kernel
theorem dX10_startAnew_8 : decode cX10_startAnew 8 = .ok (.getfield 70, 3) := by decide +kernel
theorem dX10_startAnew_11 : decode cX10_startAnew 11 = .ok (.invokevirtual 74, 3) := by decide +kernel
theorem dX10_startAnew_14 : decode cX10_startAnew 14 = .ok (.aload_n 0, 1) := by decide +kernel
theorem dX10_startAnew_15 : decode cX10_startAnew 15 = .ok (.getfield 33, 3) := by decide +kernel
theorem dX10_startAnew_18 : decode cX10_startAnew 18 = .ok (.invokevirtual 102, 3) := by decide +kernel
theorem dX10_startAnew_21 : decode cX10_startAnew 21 = .ok (.iconst 0, 1) := by decide +kernel
theorem dX10_startAnew_22 : decode cX10_startAnew 22 = .ok (.istore_n 1, 1) := by decide +kernel
theorem dX10_startAnew_23 : decode cX10_startAnew 23 = .ok (.iload_n 1, 1) := by decide +kernel
theorem dX10_startAnew_24 : decode cX10_startAnew 24 = .ok (.iconst 2, 1) := by decide +kernel
theorem dX10_startAnew_25 : decode cX10_startAnew 25 = .ok (.if_icmp .ge 16, 3) := by decide +kernel
theorem dX10_startAnew_28 : decode cX10_startAnew 28 = .ok (.aload_n 0, 1) := by decide +kernel
theorem dX10_startAnew_29 : decode cX10_startAnew 29 = .ok (.getfield 41, 3) := by decide +kernel
theorem dX10_startAnew_32 : decode cX10_startAnew 32 = .ok (.iload_n 1, 1) := by decide +kernel
theorem dX10_startAnew_33 : decode cX10_startAnew 33 = .ok (.iconst 0, 1) := by decide +kernel
theorem dX10_startAnew_34 : decode cX10_startAnew 34 = .ok (.bastore, 1) := by decide +kernel
theorem dX10_startAnew_35 : decode cX10_startAnew 35 = .ok (.iinc 1 1, 3) := by decide +kernel
theorem dX10_startAnew_38 : decode cX10_startAnew 38 = .ok (.goto (-15), 3) := by decide +kernel
theorem dX10_startAnew_41 : decode cX10_startAnew 41 = .ok (.return_, 1) := by decide +kernel
theorem dX10_size_0 : decode cX10_size 0 = .ok (.iload_n 1, 1) := by decide +kernel
theorem dX10_size_1 : decode cX10_size 1 = .ok (.tableswitch 93 0 5 #[39, 47, 55, 63, 71, 82], 39) := by decide +kernel
theorem dX10_size_40 : decode cX10_size 40 = .ok (.aload_n 0, 1) := by decide +kernel
theorem dX10_size_41 : decode cX10_size 41 = .ok (.getfield 19, 3) := by decide +kernel
theorem dX10_size_44 : decode cX10_size 44 = .ok (.getfield 70, 3) := by decide +kernel
theorem dX10_size_47 : decode cX10_size 47 = .ok (.ireturn, 1) := by decide +kernel
theorem dX10_size_48 : decode cX10_size 48 = .ok (.aload_n 0, 1) := by decide +kernel
theorem dX10_size_49 : decode cX10_size 49 = .ok (.getfield 19, 3) := by decide +kernel
theorem dX10_size_52 : decode cX10_size 52 = .ok (.getfield 108, 3) := by decide +kernel
theorem dX10_size_55 : decode cX10_size 55 = .ok (.ireturn, 1) := by decide +kernel
theorem dX10_size_56 : decode cX10_size 56 = .ok (.aload_n 0, 1) := by decide +kernel
theorem dX10_size_57 : decode cX10_size 57 = .ok (.getfield 26, 3) := by decide +kernel
theorem dX10_size_60 : decode cX10_size 60 = .ok (.getfield 111, 3) := by decide +kernel
theorem dX10_size_63 : decode cX10_size 63 = .ok (.ireturn, 1) := by decide +kernel
theorem dX10_size_64 : decode cX10_size 64 = .ok (.aload_n 0, 1) := by decide +kernel
theorem dX10_size_65 : decode cX10_size 65 = .ok (.getfield 26, 3) := by decide +kernel
theorem dX10_size_68 : decode cX10_size 68 = .ok (.getfield 114, 3) := by decide +kernel
theorem dX10_size_71 : decode cX10_size 71 = .ok (.ireturn, 1) := by decide +kernel
theorem dX10_size_72 : decode cX10_size 72 = .ok (.aload_n 0, 1) := by decide +kernel
theorem dX10_size_73 : decode cX10_size 73 = .ok (.getfield 26, 3) := by decide +kernel
theorem dX10_size_76 : decode cX10_size 76 = .ok (.getfield 117, 3) := by decide +kernel
theorem dX10_size_79 : decode cX10_size 79 = .ok (.invokestatic 120, 3) := by decide +kernel
theorem dX10_size_82 : decode cX10_size 82 = .ok (.ireturn, 1) := by decide +kernel
theorem dX10_size_83 : decode cX10_size 83 = .ok (.aload_n 0, 1) := by decide +kernel
theorem dX10_size_84 : decode cX10_size 84 = .ok (.getfield 26, 3) := by decide +kernel
theorem dX10_size_87 : decode cX10_size 87 = .ok (.getfield 125, 3) := by decide +kernel
theorem dX10_size_90 : decode cX10_size 90 = .ok (.invokestatic 120, 3) := by decide +kernel
theorem dX10_size_93 : decode cX10_size 93 = .ok (.ireturn, 1) := by decide +kernel
theorem dX10_size_94 : decode cX10_size 94 = .ok (.new 84, 3) := by decide +kernel
theorem dX10_size_97 : decode cX10_size 97 = .ok (.dup, 1) := by decide +kernel
theorem dX10_size_98 : decode cX10_size 98 = .ok (.ldc 128, 2) := by decide +kernel
theorem dX10_size_100 : decode cX10_size 100 = .ok (.invokespecial 88, 3) := by decide +kernel
theorem dX10_size_103 : decode cX10_size 103 = .ok (.athrow, 1) := by decide +kernel
theorem dX10_line_0 : decode cX10_line 0 = .ok (.aload_n 0, 1) := by decide +kernel
theorem dX10_line_1 : decode cX10_line 1 = .ok (.iload_n 1, 1) := by decide +kernel
theorem dX10_line_2 : decode cX10_line 2 = .ok (.invokevirtual 130, 3) := by decide +kernel
theorem dX10_line_5 : decode cX10_line 5 = .ok (.iload_n 2, 1) := by decide +kernel
theorem dX10_line_6 : decode cX10_line 6 = .ok (.tableswitch 126 0 6 #[42, 52, 62, 80, 90, 102, 114], 42) := by decide +kernel
theorem dX10_line_48 : decode cX10_line 48 = .ok (.aload_n 0, 1) := by decide +kernel
theorem dX10_line_49 : decode cX10_line 49 = .ok (.getfield 19, 3) := by decide +kernel
theorem dX10_line_52 : decode cX10_line 52 = .ok (.getfield 133, 3) := by decide +kernel
theorem dX10_line_55 : decode cX10_line 55 = .ok (.iload_n 1, 1) := by decide +kernel
theorem dX10_line_56 : decode cX10_line 56 = .ok (.iaload, 1) := by decide +kernel
theorem dX10_line_57 : decode cX10_line 57 = .ok (.ireturn, 1) := by decide +kernel
theorem dX10_line_58 : decode cX10_line 58 = .ok (.aload_n 0, 1) := by decide +kernel
theorem dX10_line_59 : decode cX10_line 59 = .ok (.getfield 19, 3) := by decide +kernel
theorem dX10_line_62 : decode cX10_line 62 = .ok (.getfield 136, 3) := by decide +kernel
theorem dX10_line_65 : decode cX10_line 65 = .ok (.iload_n 1, 1) := by decide +kernel
theorem dX10_line_66 : decode cX10_line 66 = .ok (.iaload, 1) := by decide +kernel
theorem dX10_line_67 : decode cX10_line 67 = .ok (.ireturn, 1) := by decide +kernel
theorem dX10_line_68 : decode cX10_line 68 = .ok (.aload_n 0, 1) := by decide +kernel
theorem dX10_line_69 : decode cX10_line 69 = .ok (.getfield 19, 3) := by decide +kernel
theorem dX10_line_72 : decode cX10_line 72 = .ok (.getfield 139, 3) := by decide +kernel
theorem dX10_line_75 : decode cX10_line 75 = .ok (.iload_n 1, 1) := by decide +kernel
theorem dX10_line_76 : decode cX10_line 76 = .ok (.baload, 1) := by decide +kernel
theorem dX10_line_77 : decode cX10_line 77 = .ok (.ifCond .eq 7, 3) := by decide +kernel
theorem dX10_line_80 : decode cX10_line 80 = .ok (.iconst 1, 1) := by decide +kernel
theorem dX10_line_81 : decode cX10_line 81 = .ok (.goto 4, 3) := by decide +kernel
theorem dX10_line_84 : decode cX10_line 84 = .ok (.iconst 0, 1) := by decide +kernel
theorem dX10_line_85 : decode cX10_line 85 = .ok (.ireturn, 1) := by decide +kernel
theorem dX10_line_86 : decode cX10_line 86 = .ok (.aload_n 0, 1) := by decide +kernel
theorem dX10_line_87 : decode cX10_line 87 = .ok (.getfield 19, 3) := by decide +kernel
theorem dX10_line_90 : decode cX10_line 90 = .ok (.getfield 142, 3) := by decide +kernel
theorem dX10_line_93 : decode cX10_line 93 = .ok (.iload_n 1, 1) := by decide +kernel
theorem dX10_line_94 : decode cX10_line 94 = .ok (.iaload, 1) := by decide +kernel
theorem dX10_line_95 : decode cX10_line 95 = .ok (.ireturn, 1) := by decide +kernel
theorem dX10_line_96 : decode cX10_line 96 = .ok (.aload_n 0, 1) := by decide +kernel
theorem dX10_line_97 : decode cX10_line 97 = .ok (.getfield 26, 3) := by decide +kernel
theorem dX10_line_100 : decode cX10_line 100 = .ok (.getfield 125, 3) := by decide +kernel
theorem dX10_line_103 : decode cX10_line 103 = .ok (.iload_n 1, 1) := by decide +kernel
theorem dX10_line_104 : decode cX10_line 104 = .ok (.ishr, 1) := by decide +kernel
theorem dX10_line_105 : decode cX10_line 105 = .ok (.iconst 1, 1) := by decide +kernel
theorem dX10_line_106 : decode cX10_line 106 = .ok (.iand, 1) := by decide +kernel
theorem dX10_line_107 : decode cX10_line 107 = .ok (.ireturn, 1) := by decide +kernel
theorem dX10_line_108 : decode cX10_line 108 = .ok (.aload_n 0, 1) := by decide +kernel
theorem dX10_line_109 : decode cX10_line 109 = .ok (.getfield 26, 3) := by decide +kernel
theorem dX10_line_112 : decode cX10_line 112 = .ok (.getfield 117, 3) := by decide +kernel
theorem dX10_line_115 : decode cX10_line 115 = .ok (.iload_n 1, 1) := by decide +kernel
theorem dX10_line_116 : decode cX10_line 116 = .ok (.ishr, 1) := by decide +kernel
theorem dX10_line_117 : decode cX10_line 117 = .ok (.iconst 1, 1) := by decide +kernel
theorem dX10_line_118 : decode cX10_line 118 = .ok (.iand, 1) := by decide +kernel
theorem dX10_line_119 : decode cX10_line 119 = .ok (.ireturn, 1) := by decide +kernel
theorem dX10_line_120 : decode cX10_line 120 = .ok (.aload_n 0, 1) := by decide +kernel
theorem dX10_line_121 : decode cX10_line 121 = .ok (.getfield 19, 3) := by decide +kernel
theorem dX10_line_124 : decode cX10_line 124 = .ok (.getfield 145, 3) := by decide +kernel
theorem dX10_line_127 : decode cX10_line 127 = .ok (.iload_n 1, 1) := by decide +kernel
theorem dX10_line_128 : decode cX10_line 128 = .ok (.invokevirtual 149, 3) := by decide +kernel
theorem dX10_line_131 : decode cX10_line 131 = .ok (.ireturn, 1) := by decide +kernel
theorem dX10_line_132 : decode cX10_line 132 = .ok (.new 84, 3) := by decide +kernel
theorem dX10_line_135 : decode cX10_line 135 = .ok (.dup, 1) := by decide +kernel
theorem dX10_line_136 : decode cX10_line 136 = .ok (.ldc 154, 2) := by decide +kernel
theorem dX10_line_138 : decode cX10_line 138 = .ok (.invokespecial 88, 3) := by decide +kernel
theorem dX10_line_141 : decode cX10_line 141 = .ok (.athrow, 1) := by decide +kernel
theorem dX10_isUsable_0 : decode cX10_isUsable 0 = .ok (.aload_n 0, 1) := by decide +kernel
theorem dX10_isUsable_1 : decode cX10_isUsable 1 = .ok (.iload_n 1, 1) := by decide +kernel
theorem dX10_isUsable_2 : decode cX10_isUsable 2 = .ok (.invokevirtual 130, 3) := by decide +kernel
theorem dX10_isUsable_5 : decode cX10_isUsable 5 = .ok (.iload_n 2, 1) := by decide +kernel
theorem dX10_isUsable_6 : decode cX10_isUsable 6 = .ok (.iconst 1, 1) := by decide +kernel
theorem dX10_isUsable_7 : decode cX10_isUsable 7 = .ok (.if_icmp .lt 10, 3) := by decide +kernel
theorem dX10_isUsable_10 : decode cX10_isUsable 10 = .ok (.iload_n 2, 1) := by decide +kernel
theorem dX10_isUsable_11 : decode cX10_isUsable 11 = .ok (.sipush 9999, 3) := by decide +kernel
theorem dX10_isUsable_14 : decode cX10_isUsable 14 = .ok (.if_icmp .le 13, 3) := by decide +kernel
theorem dX10_isUsable_17 : decode cX10_isUsable 17 = .ok (.new 84, 3) := by decide +kernel
theorem dX10_isUsable_20 : decode cX10_isUsable 20 = .ok (.dup, 1) := by decide +kernel
theorem dX10_isUsable_21 : decode cX10_isUsable 21 = .ok (.ldc 156, 2) := by decide +kernel
theorem dX10_isUsable_23 : decode cX10_isUsable 23 = .ok (.invokespecial 88, 3) := by decide +kernel
theorem dX10_isUsable_26 : decode cX10_isUsable 26 = .ok (.athrow, 1) := by decide +kernel
theorem dX10_isUsable_27 : decode cX10_isUsable 27 = .ok (.aload_n 0, 1) := by decide +kernel
theorem dX10_isUsable_28 : decode cX10_isUsable 28 = .ok (.iload_n 2, 1) := by decide +kernel
theorem dX10_isUsable_29 : decode cX10_isUsable 29 = .ok (.invokevirtual 158, 3) := by decide +kernel
theorem dX10_isUsable_32 : decode cX10_isUsable 32 = .ok (.iload_n 1, 1) := by decide +kernel
theorem dX10_isUsable_33 : decode cX10_isUsable 33 = .ok (.invokestatic 161, 3) := by decide +kernel
theorem dX10_isUsable_36 : decode cX10_isUsable 36 = .ok (.ireturn, 1) := by decide +kernel
theorem dX10_known_0 : decode cX10_known 0 = .ok (.aload_n 0, 1) := by decide +kernel
theorem dX10_known_1 : decode cX10_known 1 = .ok (.iload_n 1, 1) := by decide +kernel
theorem dX10_known_2 : decode cX10_known 2 = .ok (.invokevirtual 168, 3) := by decide +kernel
theorem dX10_known_5 : decode cX10_known 5 = .ok (.aload_n 0, 1) := by decide +kernel
theorem dX10_known_6 : decode cX10_known 6 = .ok (.getfield 26, 3) := by decide +kernel
theorem dX10_known_9 : decode cX10_known 9 = .ok (.getfield 171, 3) := by decide +kernel
theorem dX10_known_12 : decode cX10_known 12 = .ok (.getfield 175, 3) := by decide +kernel
theorem dX10_known_15 : decode cX10_known 15 = .ok (.iload_n 1, 1) := by decide +kernel
theorem dX10_known_16 : decode cX10_known 16 = .ok (.iaload, 1) := by decide +kernel
theorem dX10_known_17 : decode cX10_known 17 = .ok (.ireturn, 1) := by decide +kernel
theorem dX10_knowers_0 : decode cX10_knowers 0 = .ok (.aload_n 0, 1) := by decide +kernel
theorem dX10_knowers_1 : decode cX10_knowers 1 = .ok (.iload_n 1, 1) := by decide +kernel
theorem dX10_knowers_2 : decode cX10_knowers 2 = .ok (.invokevirtual 168, 3) := by decide +kernel
theorem dX10_knowers_5 : decode cX10_knowers 5 = .ok (.aload_n 0, 1) := by decide +kernel
theorem dX10_knowers_6 : decode cX10_knowers 6 = .ok (.getfield 26, 3) := by decide +kernel
theorem dX10_knowers_9 : decode cX10_knowers 9 = .ok (.getfield 171, 3) := by decide +kernel
theorem dX10_knowers_12 : decode cX10_knowers 12 = .ok (.iload_n 1, 1) := by decide +kernel
theorem dX10_knowers_13 : decode cX10_knowers 13 = .ok (.invokevirtual 180, 3) := by decide +kernel
theorem dX10_knowers_16 : decode cX10_knowers 16 = .ok (.ireturn, 1) := by decide +kernel
theorem dX10_missing_0 : decode cX10_missing 0 = .ok (.aload_n 0, 1) := by decide +kernel
theorem dX10_missing_1 : decode cX10_missing 1 = .ok (.getfield 26, 3) := by decide +kernel
theorem dX10_missing_4 : decode cX10_missing 4 = .ok (.getfield 171, 3) := by decide +kernel
theorem dX10_missing_7 : decode cX10_missing 7 = .ok (.invokevirtual 183, 3) := by decide +kernel
theorem dX10_missing_10 : decode cX10_missing 10 = .ok (.ireturn, 1) := by decide +kernel
theorem dX10_partner_0 : decode cX10_partner 0 = .ok (.aload_n 0, 1) := by decide +kernel
theorem dX10_partner_1 : decode cX10_partner 1 = .ok (.iload_n 1, 1) := by decide +kernel
theorem dX10_partner_2 : decode cX10_partner 2 = .ok (.invokevirtual 168, 3) := by decide +kernel
theorem dX10_partner_5 : decode cX10_partner 5 = .ok (.aload_n 0, 1) := by decide +kernel
theorem dX10_partner_6 : decode cX10_partner 6 = .ok (.getfield 19, 3) := by decide +kernel
theorem dX10_partner_9 : decode cX10_partner 9 = .ok (.aload_n 0, 1) := by decide +kernel
theorem dX10_partner_10 : decode cX10_partner 10 = .ok (.getfield 26, 3) := by decide +kernel
theorem dX10_partner_13 : decode cX10_partner 13 = .ok (.getfield 117, 3) := by decide +kernel
theorem dX10_partner_16 : decode cX10_partner 16 = .ok (.iload_n 1, 1) := by decide +kernel
theorem dX10_partner_17 : decode cX10_partner 17 = .ok (.invokevirtual 187, 3) := by decide +kernel
theorem dX10_partner_20 : decode cX10_partner 20 = .ok (.ireturn, 1) := by decide +kernel
theorem dX10_arranged_0 : decode cX10_arranged 0 = .ok (.aload_n 0, 1) := by decide +kernel
theorem dX10_arranged_1 : decode cX10_arranged 1 = .ok (.getfield 26, 3) := by decide +kernel
theorem dX10_arranged_4 : decode cX10_arranged 4 = .ok (.getfield 117, 3) := by decide +kernel
theorem dX10_arranged_7 : decode cX10_arranged 7 = .ok (.ireturn, 1) := by decide +kernel
theorem dX10_gain_0 : decode cX10_gain 0 = .ok (.aload_n 0, 1) := by decide +kernel
theorem dX10_gain_1 : decode cX10_gain 1 = .ok (.getfield 19, 3) := by decide +kernel
theorem dX10_gain_4 : decode cX10_gain 4 = .ok (.aload_n 0, 1) := by decide +kernel
theorem dX10_gain_5 : decode cX10_gain 5 = .ok (.getfield 26, 3) := by decide +kernel
theorem dX10_gain_8 : decode cX10_gain 8 = .ok (.getfield 117, 3) := by decide +kernel
theorem dX10_gain_11 : decode cX10_gain 11 = .ok (.aload_n 0, 1) := by decide +kernel
theorem dX10_gain_12 : decode cX10_gain 12 = .ok (.getfield 26, 3) := by decide +kernel
theorem dX10_gain_15 : decode cX10_gain 15 = .ok (.getfield 171, 3) := by decide +kernel
theorem dX10_gain_18 : decode cX10_gain 18 = .ok (.invokevirtual 191, 3) := by decide +kernel
theorem dX10_gain_21 : decode cX10_gain 21 = .ok (.ireturn, 1) := by decide +kernel
theorem dX10_spent_0 : decode cX10_spent 0 = .ok (.iload_n 1, 1) := by decide +kernel
theorem dX10_spent_1 : decode cX10_spent 1 = .ok (.ifCond .lt 10, 3) := by decide +kernel
theorem dX10_spent_4 : decode cX10_spent 4 = .ok (.iload_n 1, 1) := by decide +kernel
theorem dX10_spent_5 : decode cX10_spent 5 = .ok (.sipush 9999, 3) := by decide +kernel
theorem dX10_spent_8 : decode cX10_spent 8 = .ok (.if_icmp .le 13, 3) := by decide +kernel
theorem dX10_spent_11 : decode cX10_spent 11 = .ok (.new 84, 3) := by decide +kernel
theorem dX10_spent_14 : decode cX10_spent 14 = .ok (.dup, 1) := by decide +kernel
theorem dX10_spent_15 : decode cX10_spent 15 = .ok (.ldc 195, 2) := by decide +kernel
theorem dX10_spent_17 : decode cX10_spent 17 = .ok (.invokespecial 88, 3) := by decide +kernel
theorem dX10_spent_20 : decode cX10_spent 20 = .ok (.athrow, 1) := by decide +kernel
theorem dX10_spent_21 : decode cX10_spent 21 = .ok (.aload_n 0, 1) := by decide +kernel
theorem dX10_spent_22 : decode cX10_spent 22 = .ok (.getfield 26, 3) := by decide +kernel
theorem dX10_spent_25 : decode cX10_spent 25 = .ok (.iload_n 1, 1) := by decide +kernel
theorem dX10_spent_26 : decode cX10_spent 26 = .ok (.invokevirtual 197, 3) := by decide +kernel
theorem dX10_spent_29 : decode cX10_spent 29 = .ok (.ireturn, 1) := by decide +kernel
theorem dX10_best_0 : decode cX10_best 0 = .ok (.iload_n 1, 1) := by decide +kernel
theorem dX10_best_1 : decode cX10_best 1 = .ok (.ifCond .lt 8, 3) := by decide +kernel
theorem dX10_best_4 : decode cX10_best 4 = .ok (.iload_n 1, 1) := by decide +kernel
theorem dX10_best_5 : decode cX10_best 5 = .ok (.iconst 2, 1) := by decide +kernel
theorem dX10_best_6 : decode cX10_best 6 = .ok (.if_icmp .le 13, 3) := by decide +kernel
theorem dX10_best_9 : decode cX10_best 9 = .ok (.new 84, 3) := by decide +kernel
theorem dX10_best_12 : decode cX10_best 12 = .ok (.dup, 1) := by decide +kernel
theorem dX10_best_13 : decode cX10_best 13 = .ok (.ldc 200, 2) := by decide +kernel
theorem dX10_best_15 : decode cX10_best 15 = .ok (.invokespecial 88, 3) := by decide +kernel
theorem dX10_best_18 : decode cX10_best 18 = .ok (.athrow, 1) := by decide +kernel
theorem dX10_best_19 : decode cX10_best 19 = .ok (.aload_n 0, 1) := by decide +kernel
theorem dX10_best_20 : decode cX10_best 20 = .ok (.invokevirtual 202, 3) := by decide +kernel
theorem dX10_best_23 : decode cX10_best 23 = .ok (.istore_n 2, 1) := by decide +kernel
theorem dX10_best_24 : decode cX10_best 24 = .ok (.iload_n 1, 1) := by decide +kernel
theorem dX10_best_25 : decode cX10_best 25 = .ok (.lookupswitch 45 #[(0, 27), (1, 29)], 27) := by decide +kernel
theorem dX10_best_52 : decode cX10_best 52 = .ok (.iload_n 2, 1) := by decide +kernel
theorem dX10_best_53 : decode cX10_best 53 = .ok (.ireturn, 1) := by decide +kernel
theorem dX10_best_54 : decode cX10_best 54 = .ok (.aload_n 0, 1) := by decide +kernel
theorem dX10_best_55 : decode cX10_best 55 = .ok (.getfield 19, 3) := by decide +kernel
theorem dX10_best_58 : decode cX10_best 58 = .ok (.iload_n 2, 1) := by decide +kernel
theorem dX10_best_59 : decode cX10_best 59 = .ok (.aload_n 0, 1) := by decide +kernel
theorem dX10_best_60 : decode cX10_best 60 = .ok (.getfield 26, 3) := by decide +kernel
theorem dX10_best_63 : decode cX10_best 63 = .ok (.getfield 171, 3) := by decide +kernel
theorem dX10_best_66 : decode cX10_best 66 = .ok (.invokevirtual 191, 3) := by decide +kernel
theorem dX10_best_69 : decode cX10_best 69 = .ok (.ireturn, 1) := by decide +kernel
theorem dX10_best_70 : decode cX10_best 70 = .ok (.aload_n 0, 1) := by decide +kernel
theorem dX10_best_71 : decode cX10_best 71 = .ok (.getfield 19, 3) := by decide +kernel
theorem dX10_best_74 : decode cX10_best 74 = .ok (.iload_n 2, 1) := by decide +kernel
theorem dX10_best_75 : decode cX10_best 75 = .ok (.invokevirtual 205, 3) := by decide +kernel
theorem dX10_best_78 : decode cX10_best 78 = .ok (.ireturn, 1) := by decide +kernel
theorem dX10_bestOfNextRound_0 : decode cX10_bestOfNextRound 0 = .ok (.aload_n 0, 1) := by decide +kernel
theorem dX10_bestOfNextRound_1 : decode cX10_bestOfNextRound 1 = .ok (.getfield 48, 3) := by decide +kernel
theorem dX10_bestOfNextRound_4 : decode cX10_bestOfNextRound 4 = .ok (.aload_n 0, 1) := by decide +kernel
theorem dX10_bestOfNextRound_5 : decode cX10_bestOfNextRound 5 = .ok (.getfield 19, 3) := by decide +kernel
theorem dX10_bestOfNextRound_8 : decode cX10_bestOfNextRound 8 = .ok (.aload_n 0, 1) := by decide +kernel
theorem dX10_bestOfNextRound_9 : decode cX10_bestOfNextRound 9 = .ok (.aload_n 0, 1) := by decide +kernel
theorem dX10_bestOfNextRound_10 : decode cX10_bestOfNextRound 10 = .ok (.getfield 26, 3) := by decide +kernel
theorem dX10_bestOfNextRound_13 : decode cX10_bestOfNextRound 13 = .ok (.getfield 111, 3) := by decide +kernel
theorem dX10_bestOfNextRound_16 : decode cX10_bestOfNextRound 16 = .ok (.iconst 1, 1) := by decide +kernel
theorem dX10_bestOfNextRound_17 : decode cX10_bestOfNextRound 17 = .ok (.iadd, 1) := by decide +kernel
theorem dX10_bestOfNextRound_18 : decode cX10_bestOfNextRound 18 = .ok (.invokevirtual 158, 3) := by decide +kernel
theorem dX10_bestOfNextRound_21 : decode cX10_bestOfNextRound 21 = .ok (.aload_n 0, 1) := by decide +kernel
theorem dX10_bestOfNextRound_22 : decode cX10_bestOfNextRound 22 = .ok (.getfield 26, 3) := by decide +kernel
theorem dX10_bestOfNextRound_25 : decode cX10_bestOfNextRound 25 = .ok (.getfield 171, 3) := by decide +kernel
theorem dX10_bestOfNextRound_28 : decode cX10_bestOfNextRound 28 = .ok (.invokevirtual 208, 3) := by decide +kernel
theorem dX10_bestOfNextRound_31 : decode cX10_bestOfNextRound 31 = .ok (.ireturn, 1) := by decide +kernel
theorem dX10_plan_0 : decode cX10_plan 0 = .ok (.iload_n 1, 1) := by decide +kernel
theorem dX10_plan_1 : decode cX10_plan 1 = .ok (.ifCond .lt 8, 3) := by decide +kernel
theorem dX10_plan_4 : decode cX10_plan 4 = .ok (.iload_n 1, 1) := by decide +kernel
theorem dX10_plan_5 : decode cX10_plan 5 = .ok (.iconst 3, 1) := by decide +kernel
theorem dX10_plan_6 : decode cX10_plan 6 = .ok (.if_icmp .le 13, 3) := by decide +kernel
theorem dX10_plan_9 : decode cX10_plan 9 = .ok (.new 84, 3) := by decide +kernel
theorem dX10_plan_12 : decode cX10_plan 12 = .ok (.dup, 1) := by decide +kernel
theorem dX10_plan_13 : decode cX10_plan 13 = .ok (.ldc 212, 2) := by decide +kernel
theorem dX10_plan_15 : decode cX10_plan 15 = .ok (.invokespecial 88, 3) := by decide +kernel
theorem dX10_plan_18 : decode cX10_plan 18 = .ok (.athrow, 1) := by decide +kernel
theorem dX10_plan_19 : decode cX10_plan 19 = .ok (.aload_n 0, 1) := by decide +kernel
theorem dX10_plan_20 : decode cX10_plan 20 = .ok (.getfield 55, 3) := by decide +kernel
theorem dX10_plan_23 : decode cX10_plan 23 = .ok (.aload_n 0, 1) := by decide +kernel
theorem dX10_plan_24 : decode cX10_plan 24 = .ok (.getfield 19, 3) := by decide +kernel
theorem dX10_plan_27 : decode cX10_plan 27 = .ok (.aload_n 0, 1) := by decide +kernel
theorem dX10_plan_28 : decode cX10_plan 28 = .ok (.getfield 26, 3) := by decide +kernel
theorem dX10_plan_31 : decode cX10_plan 31 = .ok (.aload_n 0, 1) := by decide +kernel
theorem dX10_plan_32 : decode cX10_plan 32 = .ok (.getfield 48, 3) := by decide +kernel
theorem dX10_plan_35 : decode cX10_plan 35 = .ok (.invokevirtual 214, 3) := by decide +kernel
theorem dX10_plan_38 : decode cX10_plan 38 = .ok (.iload_n 1, 1) := by decide +kernel
theorem dX10_plan_39 : decode cX10_plan 39 = .ok (.tableswitch 66 0 2 #[25, 50, 58], 25) := by decide +kernel
theorem dX10_plan_64 : decode cX10_plan 64 = .ok (.aload_n 0, 1) := by decide +kernel
theorem dX10_plan_65 : decode cX10_plan 65 = .ok (.getfield 55, 3) := by decide +kernel
theorem dX10_plan_68 : decode cX10_plan 68 = .ok (.getfield 218, 3) := by decide +kernel
theorem dX10_plan_71 : decode cX10_plan 71 = .ok (.invokevirtual 183, 3) := by decide +kernel
theorem dX10_plan_74 : decode cX10_plan 74 = .ok (.ifCond .ne 13, 3) := by decide +kernel
theorem dX10_plan_77 : decode cX10_plan 77 = .ok (.aload_n 0, 1) := by decide +kernel
theorem dX10_plan_78 : decode cX10_plan 78 = .ok (.getfield 55, 3) := by decide +kernel
theorem dX10_plan_81 : decode cX10_plan 81 = .ok (.getfield 219, 3) := by decide +kernel
theorem dX10_plan_84 : decode cX10_plan 84 = .ok (.goto 4, 3) := by decide +kernel
theorem dX10_plan_87 : decode cX10_plan 87 = .ok (.iconst (-1), 1) := by decide +kernel
theorem dX10_plan_88 : decode cX10_plan 88 = .ok (.ireturn, 1) := by decide +kernel
theorem dX10_plan_89 : decode cX10_plan 89 = .ok (.aload_n 0, 1) := by decide +kernel
theorem dX10_plan_90 : decode cX10_plan 90 = .ok (.getfield 55, 3) := by decide +kernel
theorem dX10_plan_93 : decode cX10_plan 93 = .ok (.getfield 220, 3) := by decide +kernel
theorem dX10_plan_96 : decode cX10_plan 96 = .ok (.ireturn, 1) := by decide +kernel
theorem dX10_plan_97 : decode cX10_plan 97 = .ok (.aload_n 0, 1) := by decide +kernel
theorem dX10_plan_98 : decode cX10_plan 98 = .ok (.getfield 55, 3) := by decide +kernel
theorem dX10_plan_101 : decode cX10_plan 101 = .ok (.getfield 221, 3) := by decide +kernel
theorem dX10_plan_104 : decode cX10_plan 104 = .ok (.ireturn, 1) := by decide +kernel
theorem dX10_plan_105 : decode cX10_plan 105 = .ok (.aload_n 0, 1) := by decide +kernel
theorem dX10_plan_106 : decode cX10_plan 106 = .ok (.getfield 55, 3) := by decide +kernel
theorem dX10_plan_109 : decode cX10_plan 109 = .ok (.getfield 218, 3) := by decide +kernel
theorem dX10_plan_112 : decode cX10_plan 112 = .ok (.invokevirtual 183, 3) := by decide +kernel
theorem dX10_plan_115 : decode cX10_plan 115 = .ok (.ireturn, 1) := by decide +kernel
theorem dX10_soonest_0 : decode cX10_soonest 0 = .ok (.aload_n 0, 1) := by decide +kernel
theorem dX10_soonest_1 : decode cX10_soonest 1 = .ok (.iload_n 1, 1) := by decide +kernel
theorem dX10_soonest_2 : decode cX10_soonest 2 = .ok (.invokevirtual 168, 3) := by decide +kernel
theorem dX10_soonest_5 : decode cX10_soonest 5 = .ok (.aload_n 0, 1) := by decide +kernel
theorem dX10_soonest_6 : decode cX10_soonest 6 = .ok (.iload_n 2, 1) := by decide +kernel
theorem dX10_soonest_7 : decode cX10_soonest 7 = .ok (.invokevirtual 168, 3) := by decide +kernel
theorem dX10_soonest_10 : decode cX10_soonest 10 = .ok (.aload_n 0, 1) := by decide +kernel
theorem dX10_soonest_11 : decode cX10_soonest 11 = .ok (.getfield 26, 3) := by decide +kernel
theorem dX10_soonest_14 : decode cX10_soonest 14 = .ok (.getfield 171, 3) := by decide +kernel
theorem dX10_soonest_17 : decode cX10_soonest 17 = .ok (.iload_n 2, 1) := by decide +kernel
theorem dX10_soonest_18 : decode cX10_soonest 18 = .ok (.invokevirtual 180, 3) := by decide +kernel
theorem dX10_soonest_21 : decode cX10_soonest 21 = .ok (.istore_n 3, 1) := by decide +kernel
theorem dX10_soonest_22 : decode cX10_soonest 22 = .ok (.iconst 0, 1) := by decide +kernel
theorem dX10_soonest_23 : decode cX10_soonest 23 = .ok (.istore 4, 2) := by decide +kernel
theorem dX10_soonest_25 : decode cX10_soonest 25 = .ok (.iload 4, 2) := by decide +kernel
theorem dX10_soonest_27 : decode cX10_soonest 27 = .ok (.bipush 60, 2) := by decide +kernel
theorem dX10_soonest_29 : decode cX10_soonest 29 = .ok (.if_icmp .gt 45, 3) := by decide +kernel
theorem dX10_soonest_32 : decode cX10_soonest 32 = .ok (.iload_n 3, 1) := by decide +kernel
theorem dX10_soonest_33 : decode cX10_soonest 33 = .ok (.iload_n 1, 1) := by decide +kernel
theorem dX10_soonest_34 : decode cX10_soonest 34 = .ok (.invokestatic 161, 3) := by decide +kernel
theorem dX10_soonest_37 : decode cX10_soonest 37 = .ok (.ifCond .eq 6, 3) := by decide +kernel
theorem dX10_soonest_40 : decode cX10_soonest 40 = .ok (.iload 4, 2) := by decide +kernel
theorem dX10_soonest_42 : decode cX10_soonest 42 = .ok (.ireturn, 1) := by decide +kernel
theorem dX10_soonest_43 : decode cX10_soonest 43 = .ok (.aload_n 0, 1) := by decide +kernel
theorem dX10_soonest_44 : decode cX10_soonest 44 = .ok (.getfield 19, 3) := by decide +kernel
theorem dX10_soonest_47 : decode cX10_soonest 47 = .ok (.iload_n 3, 1) := by decide +kernel
theorem dX10_soonest_48 : decode cX10_soonest 48 = .ok (.aload_n 0, 1) := by decide +kernel
theorem dX10_soonest_49 : decode cX10_soonest 49 = .ok (.aload_n 0, 1) := by decide +kernel
theorem dX10_soonest_50 : decode cX10_soonest 50 = .ok (.getfield 26, 3) := by decide +kernel
theorem dX10_soonest_53 : decode cX10_soonest 53 = .ok (.getfield 111, 3) := by decide +kernel
theorem dX10_soonest_56 : decode cX10_soonest 56 = .ok (.iconst 1, 1) := by decide +kernel
theorem dX10_soonest_57 : decode cX10_soonest 57 = .ok (.iadd, 1) := by decide +kernel
theorem dX10_soonest_58 : decode cX10_soonest 58 = .ok (.iload 4, 2) := by decide +kernel
theorem dX10_soonest_60 : decode cX10_soonest 60 = .ok (.iadd, 1) := by decide +kernel
theorem dX10_soonest_61 : decode cX10_soonest 61 = .ok (.invokevirtual 158, 3) := by decide +kernel
theorem dX10_soonest_64 : decode cX10_soonest 64 = .ok (.invokevirtual 236, 3) := by decide +kernel
theorem dX10_soonest_67 : decode cX10_soonest 67 = .ok (.istore_n 3, 1) := by decide +kernel
theorem dX10_soonest_68 : decode cX10_soonest 68 = .ok (.iinc 4 1, 3) := by decide +kernel
theorem dX10_soonest_71 : decode cX10_soonest 71 = .ok (.goto (-46), 3) := by decide +kernel
theorem dX10_soonest_74 : decode cX10_soonest 74 = .ok (.iconst (-1), 1) := by decide +kernel
theorem dX10_soonest_75 : decode cX10_soonest 75 = .ok (.ireturn, 1) := by decide +kernel
theorem dX10_cheapest_0 : decode cX10_cheapest 0 = .ok (.aload_n 0, 1) := by decide +kernel
theorem dX10_cheapest_1 : decode cX10_cheapest 1 = .ok (.iload_n 1, 1) := by decide +kernel
theorem dX10_cheapest_2 : decode cX10_cheapest 2 = .ok (.invokevirtual 168, 3) := by decide +kernel
theorem dX10_cheapest_5 : decode cX10_cheapest 5 = .ok (.aload_n 0, 1) := by decide +kernel
theorem dX10_cheapest_6 : decode cX10_cheapest 6 = .ok (.iload_n 2, 1) := by decide +kernel
theorem dX10_cheapest_7 : decode cX10_cheapest 7 = .ok (.invokevirtual 168, 3) := by decide +kernel
theorem dX10_cheapest_10 : decode cX10_cheapest 10 = .ok (.aload_n 0, 1) := by decide +kernel
theorem dX10_cheapest_11 : decode cX10_cheapest 11 = .ok (.getfield 19, 3) := by decide +kernel
theorem dX10_cheapest_14 : decode cX10_cheapest 14 = .ok (.aload_n 0, 1) := by decide +kernel
theorem dX10_cheapest_15 : decode cX10_cheapest 15 = .ok (.getfield 26, 3) := by decide +kernel
theorem dX10_cheapest_18 : decode cX10_cheapest 18 = .ok (.getfield 171, 3) := by decide +kernel
theorem dX10_cheapest_21 : decode cX10_cheapest 21 = .ok (.iload_n 2, 1) := by decide +kernel
theorem dX10_cheapest_22 : decode cX10_cheapest 22 = .ok (.invokevirtual 180, 3) := by decide +kernel
theorem dX10_cheapest_25 : decode cX10_cheapest 25 = .ok (.aload_n 0, 1) := by decide +kernel
theorem dX10_cheapest_26 : decode cX10_cheapest 26 = .ok (.invokevirtual 239, 3) := by decide +kernel
theorem dX10_cheapest_29 : decode cX10_cheapest 29 = .ok (.aload_n 0, 1) := by decide +kernel
theorem dX10_cheapest_30 : decode cX10_cheapest 30 = .ok (.getfield 66, 3) := by decide +kernel
theorem dX10_cheapest_33 : decode cX10_cheapest 33 = .ok (.invokevirtual 242, 3) := by decide +kernel
theorem dX10_cheapest_36 : decode cX10_cheapest 36 = .ok (.aload_n 0, 1) := by decide +kernel
theorem dX10_cheapest_37 : decode cX10_cheapest 37 = .ok (.getfield 66, 3) := by decide +kernel
theorem dX10_cheapest_40 : decode cX10_cheapest 40 = .ok (.iload_n 1, 1) := by decide +kernel
theorem dX10_cheapest_41 : decode cX10_cheapest 41 = .ok (.iaload, 1) := by decide +kernel
theorem dX10_cheapest_42 : decode cX10_cheapest 42 = .ok (.ireturn, 1) := by decide +kernel
theorem dX10_vital_0 : decode cX10_vital 0 = .ok (.aload_n 0, 1) := by decide +kernel
theorem dX10_vital_1 : decode cX10_vital 1 = .ok (.invokevirtual 239, 3) := by decide +kernel
theorem dX10_vital_4 : decode cX10_vital 4 = .ok (.istore_n 1, 1) := by decide +kernel
theorem dX10_vital_5 : decode cX10_vital 5 = .ok (.iconst 0, 1) := by decide +kernel
theorem dX10_vital_6 : decode cX10_vital 6 = .ok (.istore_n 2, 1) := by decide +kernel
theorem dX10_vital_7 : decode cX10_vital 7 = .ok (.iconst 0, 1) := by decide +kernel
theorem dX10_vital_8 : decode cX10_vital 8 = .ok (.istore_n 3, 1) := by decide +kernel
theorem dX10_vital_9 : decode cX10_vital 9 = .ok (.iload_n 3, 1) := by decide +kernel
theorem dX10_vital_10 : decode cX10_vital 10 = .ok (.aload_n 0, 1) := by decide +kernel
theorem dX10_vital_11 : decode cX10_vital 11 = .ok (.getfield 19, 3) := by decide +kernel
theorem dX10_vital_14 : decode cX10_vital 14 = .ok (.getfield 70, 3) := by decide +kernel
theorem dX10_vital_17 : decode cX10_vital 17 = .ok (.if_icmp .ge 31, 3) := by decide +kernel
theorem dX10_vital_20 : decode cX10_vital 20 = .ok (.iload_n 2, 1) := by decide +kernel
theorem dX10_vital_21 : decode cX10_vital 21 = .ok (.aload_n 0, 1) := by decide +kernel
theorem dX10_vital_22 : decode cX10_vital 22 = .ok (.getfield 19, 3) := by decide +kernel
theorem dX10_vital_25 : decode cX10_vital 25 = .ok (.aload_n 0, 1) := by decide +kernel
theorem dX10_vital_26 : decode cX10_vital 26 = .ok (.getfield 26, 3) := by decide +kernel
theorem dX10_vital_29 : decode cX10_vital 29 = .ok (.getfield 171, 3) := by decide +kernel
theorem dX10_vital_32 : decode cX10_vital 32 = .ok (.iload_n 3, 1) := by decide +kernel
theorem dX10_vital_33 : decode cX10_vital 33 = .ok (.invokevirtual 180, 3) := by decide +kernel
theorem dX10_vital_36 : decode cX10_vital 36 = .ok (.iload_n 1, 1) := by decide +kernel
theorem dX10_vital_37 : decode cX10_vital 37 = .ok (.invokevirtual 246, 3) := by decide +kernel
theorem dX10_vital_40 : decode cX10_vital 40 = .ok (.ior, 1) := by decide +kernel
theorem dX10_vital_41 : decode cX10_vital 41 = .ok (.istore_n 2, 1) := by decide +kernel
theorem dX10_vital_42 : decode cX10_vital 42 = .ok (.iinc 3 1, 3) := by decide +kernel
theorem dX10_vital_45 : decode cX10_vital 45 = .ok (.goto (-36), 3) := by decide +kernel
theorem dX10_vital_48 : decode cX10_vital 48 = .ok (.iload_n 2, 1) := by decide +kernel
theorem dX10_vital_49 : decode cX10_vital 49 = .ok (.ireturn, 1) := by decide +kernel
theorem dX10_arrange_0 : decode cX10_arrange 0 = .ok (.aload_n 0, 1) := by decide +kernel
theorem dX10_arrange_1 : decode cX10_arrange 1 = .ok (.iload_n 1, 1) := by decide +kernel
theorem dX10_arrange_2 : decode cX10_arrange 2 = .ok (.invokevirtual 130, 3) := by decide +kernel
theorem dX10_arrange_5 : decode cX10_arrange 5 = .ok (.aload_n 0, 1) := by decide +kernel
theorem dX10_arrange_6 : decode cX10_arrange 6 = .ok (.getfield 26, 3) := by decide +kernel
theorem dX10_arrange_9 : decode cX10_arrange 9 = .ok (.getfield 117, 3) := by decide +kernel
theorem dX10_arrange_12 : decode cX10_arrange 12 = .ok (.iload_n 1, 1) := by decide +kernel
theorem dX10_arrange_13 : decode cX10_arrange 13 = .ok (.invokestatic 161, 3) := by decide +kernel
theorem dX10_arrange_16 : decode cX10_arrange 16 = .ok (.ifCond .eq 13, 3) := by decide +kernel
theorem dX10_arrange_19 : decode cX10_arrange 19 = .ok (.new 225, 3) := by decide +kernel
theorem dX10_arrange_22 : decode cX10_arrange 22 = .ok (.dup, 1) := by decide +kernel
theorem dX10_arrange_23 : decode cX10_arrange 23 = .ok (.ldc 249, 2) := by decide +kernel
theorem dX10_arrange_25 : decode cX10_arrange 25 = .ok (.invokespecial 229, 3) := by decide +kernel
theorem dX10_arrange_28 : decode cX10_arrange 28 = .ok (.athrow, 1) := by decide +kernel
theorem dX10_arrange_29 : decode cX10_arrange 29 = .ok (.aload_n 0, 1) := by decide +kernel
theorem dX10_arrange_30 : decode cX10_arrange 30 = .ok (.iload_n 1, 1) := by decide +kernel
theorem dX10_arrange_31 : decode cX10_arrange 31 = .ok (.invokevirtual 251, 3) := by decide +kernel
theorem dX10_arrange_34 : decode cX10_arrange 34 = .ok (.ifCond .ne 13, 3) := by decide +kernel
theorem dX10_arrange_37 : decode cX10_arrange 37 = .ok (.new 225, 3) := by decide +kernel
theorem dX10_arrange_40 : decode cX10_arrange 40 = .ok (.dup, 1) := by decide +kernel
theorem dX10_arrange_41 : decode cX10_arrange 41 = .ok (.ldc 255, 2) := by decide +kernel
theorem dX10_arrange_43 : decode cX10_arrange 43 = .ok (.invokespecial 229, 3) := by decide +kernel
theorem dX10_arrange_46 : decode cX10_arrange 46 = .ok (.athrow, 1) := by decide +kernel
theorem dX10_arrange_47 : decode cX10_arrange 47 = .ok (.aload_n 0, 1) := by decide +kernel
theorem dX10_arrange_48 : decode cX10_arrange 48 = .ok (.getfield 33, 3) := by decide +kernel
theorem dX10_arrange_51 : decode cX10_arrange 51 = .ok (.aload_n 0, 1) := by decide +kernel
theorem dX10_arrange_52 : decode cX10_arrange 52 = .ok (.getfield 26, 3) := by decide +kernel
theorem dX10_arrange_55 : decode cX10_arrange 55 = .ok (.invokevirtual 257, 3) := by decide +kernel
theorem dX10_arrange_58 : decode cX10_arrange 58 = .ok (.aload_n 0, 1) := by decide +kernel
theorem dX10_arrange_59 : decode cX10_arrange 59 = .ok (.getfield 26, 3) := by decide +kernel
theorem dX10_arrange_62 : decode cX10_arrange 62 = .ok (.dup, 1) := by decide +kernel
theorem dX10_arrange_63 : decode cX10_arrange 63 = .ok (.getfield 117, 3) := by decide +kernel
theorem dX10_arrange_66 : decode cX10_arrange 66 = .ok (.iconst 1, 1) := by decide +kernel
theorem dX10_arrange_67 : decode cX10_arrange 67 = .ok (.iload_n 1, 1) := by decide +kernel
theorem dX10_arrange_68 : decode cX10_arrange 68 = .ok (.ishl, 1) := by decide +kernel
theorem dX10_arrange_69 : decode cX10_arrange 69 = .ok (.ior, 1) := by decide +kernel
theorem dX10_arrange_70 : decode cX10_arrange 70 = .ok (.putfield 117, 3) := by decide +kernel
theorem dX10_arrange_73 : decode cX10_arrange 73 = .ok (.aload_n 0, 1) := by decide +kernel
theorem dX10_arrange_74 : decode cX10_arrange 74 = .ok (.invokevirtual 261, 3) := by decide +kernel
theorem dX10_arrange_77 : decode cX10_arrange 77 = .ok (.ireturn, 1) := by decide +kernel
theorem dX10_canArrange_0 : decode cX10_canArrange 0 = .ok (.aload_n 0, 1) := by decide +kernel
theorem dX10_canArrange_1 : decode cX10_canArrange 1 = .ok (.getfield 19, 3) := by decide +kernel
theorem dX10_canArrange_4 : decode cX10_canArrange 4 = .ok (.aload_n 0, 1) := by decide +kernel
theorem dX10_canArrange_5 : decode cX10_canArrange 5 = .ok (.getfield 26, 3) := by decide +kernel
theorem dX10_canArrange_8 : decode cX10_canArrange 8 = .ok (.getfield 117, 3) := by decide +kernel
theorem dX10_canArrange_11 : decode cX10_canArrange 11 = .ok (.invokevirtual 264, 3) := by decide +kernel
theorem dX10_canArrange_14 : decode cX10_canArrange 14 = .ok (.istore_n 2, 1) := by decide +kernel
theorem dX10_canArrange_15 : decode cX10_canArrange 15 = .ok (.aload_n 0, 1) := by decide +kernel
theorem dX10_canArrange_16 : decode cX10_canArrange 16 = .ok (.aload_n 0, 1) := by decide +kernel
theorem dX10_canArrange_17 : decode cX10_canArrange 17 = .ok (.getfield 26, 3) := by decide +kernel
theorem dX10_canArrange_20 : decode cX10_canArrange 20 = .ok (.getfield 111, 3) := by decide +kernel
theorem dX10_canArrange_23 : decode cX10_canArrange 23 = .ok (.iconst 1, 1) := by decide +kernel
theorem dX10_canArrange_24 : decode cX10_canArrange 24 = .ok (.iadd, 1) := by decide +kernel
theorem dX10_canArrange_25 : decode cX10_canArrange 25 = .ok (.invokevirtual 158, 3) := by decide +kernel
theorem dX10_canArrange_28 : decode cX10_canArrange 28 = .ok (.iload_n 1, 1) := by decide +kernel
theorem dX10_canArrange_29 : decode cX10_canArrange 29 = .ok (.invokestatic 161, 3) := by decide +kernel
theorem dX10_canArrange_32 : decode cX10_canArrange 32 = .ok (.ifCond .eq 22, 3) := by decide +kernel
theorem dX10_canArrange_35 : decode cX10_canArrange 35 = .ok (.iload_n 2, 1) := by decide +kernel
theorem dX10_canArrange_36 : decode cX10_canArrange 36 = .ok (.aload_n 0, 1) := by decide +kernel
theorem dX10_canArrange_37 : decode cX10_canArrange 37 = .ok (.getfield 19, 3) := by decide +kernel
theorem dX10_canArrange_40 : decode cX10_canArrange 40 = .ok (.iconst 1, 1) := by decide +kernel
theorem dX10_canArrange_41 : decode cX10_canArrange 41 = .ok (.iload_n 1, 1) := by decide +kernel
theorem dX10_canArrange_42 : decode cX10_canArrange 42 = .ok (.ishl, 1) := by decide +kernel
theorem dX10_canArrange_43 : decode cX10_canArrange 43 = .ok (.invokevirtual 264, 3) := by decide +kernel
theorem dX10_canArrange_46 : decode cX10_canArrange 46 = .ok (.iand, 1) := by decide +kernel
theorem dX10_canArrange_47 : decode cX10_canArrange 47 = .ok (.ifCond .ne 7, 3) := by decide +kernel
theorem dX10_canArrange_50 : decode cX10_canArrange 50 = .ok (.iconst 1, 1) := by decide +kernel
theorem dX10_canArrange_51 : decode cX10_canArrange 51 = .ok (.goto 4, 3) := by decide +kernel
theorem dX10_canArrange_54 : decode cX10_canArrange 54 = .ok (.iconst 0, 1) := by decide +kernel
theorem dX10_canArrange_55 : decode cX10_canArrange 55 = .ok (.ireturn, 1) := by decide +kernel
theorem dX10_takeBack_0 : decode cX10_takeBack 0 = .ok (.aload_n 0, 1) := by decide +kernel
theorem dX10_takeBack_1 : decode cX10_takeBack 1 = .ok (.iload_n 1, 1) := by decide +kernel
theorem dX10_takeBack_2 : decode cX10_takeBack 2 = .ok (.invokevirtual 130, 3) := by decide +kernel
theorem dX10_takeBack_5 : decode cX10_takeBack 5 = .ok (.aload_n 0, 1) := by decide +kernel
theorem dX10_takeBack_6 : decode cX10_takeBack 6 = .ok (.getfield 26, 3) := by decide +kernel
theorem dX10_takeBack_9 : decode cX10_takeBack 9 = .ok (.getfield 117, 3) := by decide +kernel
theorem dX10_takeBack_12 : decode cX10_takeBack 12 = .ok (.iload_n 1, 1) := by decide +kernel
theorem dX10_takeBack_13 : decode cX10_takeBack 13 = .ok (.invokestatic 161, 3) := by decide +kernel
theorem dX10_takeBack_16 : decode cX10_takeBack 16 = .ok (.ifCond .ne 14, 3) := by decide +kernel
theorem dX10_takeBack_19 : decode cX10_takeBack 19 = .ok (.new 225, 3) := by decide +kernel
theorem dX10_takeBack_22 : decode cX10_takeBack 22 = .ok (.dup, 1) := by decide +kernel
theorem dX10_takeBack_23 : decode cX10_takeBack 23 = .ok (.ldc_w 267, 3) := by decide +kernel
theorem dX10_takeBack_26 : decode cX10_takeBack 26 = .ok (.invokespecial 229, 3) := by decide +kernel
theorem dX10_takeBack_29 : decode cX10_takeBack 29 = .ok (.athrow, 1) := by decide +kernel
theorem dX10_takeBack_30 : decode cX10_takeBack 30 = .ok (.aload_n 0, 1) := by decide +kernel
theorem dX10_takeBack_31 : decode cX10_takeBack 31 = .ok (.getfield 33, 3) := by decide +kernel
theorem dX10_takeBack_34 : decode cX10_takeBack 34 = .ok (.aload_n 0, 1) := by decide +kernel
theorem dX10_takeBack_35 : decode cX10_takeBack 35 = .ok (.getfield 26, 3) := by decide +kernel
theorem dX10_takeBack_38 : decode cX10_takeBack 38 = .ok (.invokevirtual 257, 3) := by decide +kernel
theorem dX10_takeBack_41 : decode cX10_takeBack 41 = .ok (.aload_n 0, 1) := by decide +kernel
theorem dX10_takeBack_42 : decode cX10_takeBack 42 = .ok (.getfield 26, 3) := by decide +kernel
theorem dX10_takeBack_45 : decode cX10_takeBack 45 = .ok (.dup, 1) := by decide +kernel
theorem dX10_takeBack_46 : decode cX10_takeBack 46 = .ok (.getfield 117, 3) := by decide +kernel
theorem dX10_takeBack_49 : decode cX10_takeBack 49 = .ok (.iconst 1, 1) := by decide +kernel
theorem dX10_takeBack_50 : decode cX10_takeBack 50 = .ok (.iload_n 1, 1) := by decide +kernel
theorem dX10_takeBack_51 : decode cX10_takeBack 51 = .ok (.ishl, 1) := by decide +kernel
theorem dX10_takeBack_52 : decode cX10_takeBack 52 = .ok (.iconst (-1), 1) := by decide +kernel
theorem dX10_takeBack_53 : decode cX10_takeBack 53 = .ok (.ixor, 1) := by decide +kernel
theorem dX10_takeBack_54 : decode cX10_takeBack 54 = .ok (.iand, 1) := by decide +kernel
theorem dX10_takeBack_55 : decode cX10_takeBack 55 = .ok (.putfield 117, 3) := by decide +kernel
theorem dX10_takeBack_58 : decode cX10_takeBack 58 = .ok (.aload_n 0, 1) := by decide +kernel
theorem dX10_takeBack_59 : decode cX10_takeBack 59 = .ok (.invokevirtual 261, 3) := by decide +kernel
theorem dX10_takeBack_62 : decode cX10_takeBack 62 = .ok (.ireturn, 1) := by decide +kernel
theorem dX10_arrangeBest_0 : decode cX10_arrangeBest 0 = .ok (.aload_n 0, 1) := by decide +kernel
theorem dX10_arrangeBest_1 : decode cX10_arrangeBest 1 = .ok (.getfield 33, 3) := by decide +kernel
theorem dX10_arrangeBest_4 : decode cX10_arrangeBest 4 = .ok (.aload_n 0, 1) := by decide +kernel
theorem dX10_arrangeBest_5 : decode cX10_arrangeBest 5 = .ok (.getfield 26, 3) := by decide +kernel
theorem dX10_arrangeBest_8 : decode cX10_arrangeBest 8 = .ok (.invokevirtual 257, 3) := by decide +kernel
theorem dX10_arrangeBest_11 : decode cX10_arrangeBest 11 = .ok (.aload_n 0, 1) := by decide +kernel
theorem dX10_arrangeBest_12 : decode cX10_arrangeBest 12 = .ok (.getfield 26, 3) := by decide +kernel
theorem dX10_arrangeBest_15 : decode cX10_arrangeBest 15 = .ok (.aload_n 0, 1) := by decide +kernel
theorem dX10_arrangeBest_16 : decode cX10_arrangeBest 16 = .ok (.invokevirtual 202, 3) := by decide +kernel
theorem dX10_arrangeBest_19 : decode cX10_arrangeBest 19 = .ok (.putfield 117, 3) := by decide +kernel
theorem dX10_arrangeBest_22 : decode cX10_arrangeBest 22 = .ok (.aload_n 0, 1) := by decide +kernel
theorem dX10_arrangeBest_23 : decode cX10_arrangeBest 23 = .ok (.invokevirtual 261, 3) := by decide +kernel
theorem dX10_arrangeBest_26 : decode cX10_arrangeBest 26 = .ok (.ireturn, 1) := by decide +kernel
theorem dX10_ring_0 : decode cX10_ring 0 = .ok (.aload_n 0, 1) := by decide +kernel
theorem dX10_ring_1 : decode cX10_ring 1 = .ok (.getfield 26, 3) := by decide +kernel
theorem dX10_ring_4 : decode cX10_ring 4 = .ok (.getfield 111, 3) := by decide +kernel
theorem dX10_ring_7 : decode cX10_ring 7 = .ok (.sipush 9999, 3) := by decide +kernel
theorem dX10_ring_10 : decode cX10_ring 10 = .ok (.if_icmp .lt 14, 3) := by decide +kernel
theorem dX10_ring_13 : decode cX10_ring 13 = .ok (.new 225, 3) := by decide +kernel
theorem dX10_ring_16 : decode cX10_ring 16 = .ok (.dup, 1) := by decide +kernel
theorem dX10_ring_17 : decode cX10_ring 17 = .ok (.ldc_w 269, 3) := by decide +kernel
theorem dX10_ring_20 : decode cX10_ring 20 = .ok (.invokespecial 229, 3) := by decide +kernel
theorem dX10_ring_23 : decode cX10_ring 23 = .ok (.athrow, 1) := by decide +kernel
theorem dX10_ring_24 : decode cX10_ring 24 = .ok (.aload_n 0, 1) := by decide +kernel
theorem dX10_ring_25 : decode cX10_ring 25 = .ok (.getfield 33, 3) := by decide +kernel
theorem dX10_ring_28 : decode cX10_ring 28 = .ok (.aload_n 0, 1) := by decide +kernel
theorem dX10_ring_29 : decode cX10_ring 29 = .ok (.getfield 26, 3) := by decide +kernel
theorem dX10_ring_32 : decode cX10_ring 32 = .ok (.invokevirtual 257, 3) := by decide +kernel
theorem dX10_ring_35 : decode cX10_ring 35 = .ok (.aload_n 0, 1) := by decide +kernel
theorem dX10_ring_36 : decode cX10_ring 36 = .ok (.invokevirtual 261, 3) := by decide +kernel
theorem dX10_ring_39 : decode cX10_ring 39 = .ok (.istore_n 1, 1) := by decide +kernel
theorem dX10_ring_40 : decode cX10_ring 40 = .ok (.aload_n 0, 1) := by decide +kernel
theorem dX10_ring_41 : decode cX10_ring 41 = .ok (.getfield 19, 3) := by decide +kernel
theorem dX10_ring_44 : decode cX10_ring 44 = .ok (.aload_n 0, 1) := by decide +kernel
theorem dX10_ring_45 : decode cX10_ring 45 = .ok (.getfield 26, 3) := by decide +kernel
theorem dX10_ring_48 : decode cX10_ring 48 = .ok (.getfield 117, 3) := by decide +kernel
theorem dX10_ring_51 : decode cX10_ring 51 = .ok (.aload_n 0, 1) := by decide +kernel
theorem dX10_ring_52 : decode cX10_ring 52 = .ok (.getfield 26, 3) := by decide +kernel
theorem dX10_ring_55 : decode cX10_ring 55 = .ok (.getfield 171, 3) := by decide +kernel
theorem dX10_ring_58 : decode cX10_ring 58 = .ok (.invokevirtual 271, 3) := by decide +kernel
theorem dX10_ring_61 : decode cX10_ring 61 = .ok (.aload_n 0, 1) := by decide +kernel
theorem dX10_ring_62 : decode cX10_ring 62 = .ok (.getfield 26, 3) := by decide +kernel
theorem dX10_ring_65 : decode cX10_ring 65 = .ok (.aload_n 0, 1) := by decide +kernel
theorem dX10_ring_66 : decode cX10_ring 66 = .ok (.getfield 19, 3) := by decide +kernel
theorem dX10_ring_69 : decode cX10_ring 69 = .ok (.aload_n 0, 1) := by decide +kernel
theorem dX10_ring_70 : decode cX10_ring 70 = .ok (.getfield 26, 3) := by decide +kernel
theorem dX10_ring_73 : decode cX10_ring 73 = .ok (.getfield 117, 3) := by decide +kernel
theorem dX10_ring_76 : decode cX10_ring 76 = .ok (.invokevirtual 205, 3) := by decide +kernel
theorem dX10_ring_79 : decode cX10_ring 79 = .ok (.invokevirtual 275, 3) := by decide +kernel
theorem dX10_ring_82 : decode cX10_ring 82 = .ok (.iload_n 1, 1) := by decide +kernel
theorem dX10_ring_83 : decode cX10_ring 83 = .ok (.ireturn, 1) := by decide +kernel
theorem dX10_cut_0 : decode cX10_cut 0 = .ok (.aload_n 0, 1) := by decide +kernel
theorem dX10_cut_1 : decode cX10_cut 1 = .ok (.iload_n 1, 1) := by decide +kernel
theorem dX10_cut_2 : decode cX10_cut 2 = .ok (.invokevirtual 130, 3) := by decide +kernel
theorem dX10_cut_5 : decode cX10_cut 5 = .ok (.aload_n 0, 1) := by decide +kernel
theorem dX10_cut_6 : decode cX10_cut 6 = .ok (.getfield 26, 3) := by decide +kernel
theorem dX10_cut_9 : decode cX10_cut 9 = .ok (.getfield 125, 3) := by decide +kernel
theorem dX10_cut_12 : decode cX10_cut 12 = .ok (.iload_n 1, 1) := by decide +kernel
theorem dX10_cut_13 : decode cX10_cut 13 = .ok (.invokestatic 161, 3) := by decide +kernel
theorem dX10_cut_16 : decode cX10_cut 16 = .ok (.ifCond .eq 14, 3) := by decide +kernel
theorem dX10_cut_19 : decode cX10_cut 19 = .ok (.new 225, 3) := by decide +kernel
theorem dX10_cut_22 : decode cX10_cut 22 = .ok (.dup, 1) := by decide +kernel
theorem dX10_cut_23 : decode cX10_cut 23 = .ok (.ldc_w 278, 3) := by decide +kernel
theorem dX10_cut_26 : decode cX10_cut 26 = .ok (.invokespecial 229, 3) := by decide +kernel
theorem dX10_cut_29 : decode cX10_cut 29 = .ok (.athrow, 1) := by decide +kernel
theorem dX10_cut_30 : decode cX10_cut 30 = .ok (.aload_n 0, 1) := by decide +kernel
theorem dX10_cut_31 : decode cX10_cut 31 = .ok (.getfield 33, 3) := by decide +kernel
theorem dX10_cut_34 : decode cX10_cut 34 = .ok (.aload_n 0, 1) := by decide +kernel
theorem dX10_cut_35 : decode cX10_cut 35 = .ok (.getfield 26, 3) := by decide +kernel
theorem dX10_cut_38 : decode cX10_cut 38 = .ok (.invokevirtual 257, 3) := by decide +kernel
theorem dX10_cut_41 : decode cX10_cut 41 = .ok (.aload_n 0, 1) := by decide +kernel
theorem dX10_cut_42 : decode cX10_cut 42 = .ok (.getfield 26, 3) := by decide +kernel
theorem dX10_cut_45 : decode cX10_cut 45 = .ok (.getfield 117, 3) := by decide +kernel
theorem dX10_cut_48 : decode cX10_cut 48 = .ok (.iload_n 1, 1) := by decide +kernel
theorem dX10_cut_49 : decode cX10_cut 49 = .ok (.invokestatic 161, 3) := by decide +kernel
theorem dX10_cut_52 : decode cX10_cut 52 = .ok (.istore_n 2, 1) := by decide +kernel
theorem dX10_cut_53 : decode cX10_cut 53 = .ok (.aload_n 0, 1) := by decide +kernel
theorem dX10_cut_54 : decode cX10_cut 54 = .ok (.getfield 26, 3) := by decide +kernel
theorem dX10_cut_57 : decode cX10_cut 57 = .ok (.dup, 1) := by decide +kernel
theorem dX10_cut_58 : decode cX10_cut 58 = .ok (.getfield 125, 3) := by decide +kernel
theorem dX10_cut_61 : decode cX10_cut 61 = .ok (.iconst 1, 1) := by decide +kernel
theorem dX10_cut_62 : decode cX10_cut 62 = .ok (.iload_n 1, 1) := by decide +kernel
theorem dX10_cut_63 : decode cX10_cut 63 = .ok (.ishl, 1) := by decide +kernel
theorem dX10_cut_64 : decode cX10_cut 64 = .ok (.ior, 1) := by decide +kernel
theorem dX10_cut_65 : decode cX10_cut 65 = .ok (.putfield 125, 3) := by decide +kernel
theorem dX10_cut_68 : decode cX10_cut 68 = .ok (.aload_n 0, 1) := by decide +kernel
theorem dX10_cut_69 : decode cX10_cut 69 = .ok (.getfield 26, 3) := by decide +kernel
theorem dX10_cut_72 : decode cX10_cut 72 = .ok (.dup, 1) := by decide +kernel
theorem dX10_cut_73 : decode cX10_cut 73 = .ok (.getfield 117, 3) := by decide +kernel
theorem dX10_cut_76 : decode cX10_cut 76 = .ok (.iconst 1, 1) := by decide +kernel
theorem dX10_cut_77 : decode cX10_cut 77 = .ok (.iload_n 1, 1) := by decide +kernel
theorem dX10_cut_78 : decode cX10_cut 78 = .ok (.ishl, 1) := by decide +kernel
theorem dX10_cut_79 : decode cX10_cut 79 = .ok (.iconst (-1), 1) := by decide +kernel
theorem dX10_cut_80 : decode cX10_cut 80 = .ok (.ixor, 1) := by decide +kernel
theorem dX10_cut_81 : decode cX10_cut 81 = .ok (.iand, 1) := by decide +kernel
theorem dX10_cut_82 : decode cX10_cut 82 = .ok (.putfield 117, 3) := by decide +kernel
theorem dX10_cut_85 : decode cX10_cut 85 = .ok (.iload_n 2, 1) := by decide +kernel
theorem dX10_cut_86 : decode cX10_cut 86 = .ok (.ireturn, 1) := by decide +kernel
theorem dX10_mend_0 : decode cX10_mend 0 = .ok (.aload_n 0, 1) := by decide +kernel
theorem dX10_mend_1 : decode cX10_mend 1 = .ok (.iload_n 1, 1) := by decide +kernel
theorem dX10_mend_2 : decode cX10_mend 2 = .ok (.invokevirtual 130, 3) := by decide +kernel
theorem dX10_mend_5 : decode cX10_mend 5 = .ok (.aload_n 0, 1) := by decide +kernel
theorem dX10_mend_6 : decode cX10_mend 6 = .ok (.getfield 26, 3) := by decide +kernel
theorem dX10_mend_9 : decode cX10_mend 9 = .ok (.getfield 125, 3) := by decide +kernel
theorem dX10_mend_12 : decode cX10_mend 12 = .ok (.iload_n 1, 1) := by decide +kernel
theorem dX10_mend_13 : decode cX10_mend 13 = .ok (.invokestatic 161, 3) := by decide +kernel
theorem dX10_mend_16 : decode cX10_mend 16 = .ok (.ifCond .ne 14, 3) := by decide +kernel
theorem dX10_mend_19 : decode cX10_mend 19 = .ok (.new 225, 3) := by decide +kernel
theorem dX10_mend_22 : decode cX10_mend 22 = .ok (.dup, 1) := by decide +kernel
theorem dX10_mend_23 : decode cX10_mend 23 = .ok (.ldc_w 280, 3) := by decide +kernel
theorem dX10_mend_26 : decode cX10_mend 26 = .ok (.invokespecial 229, 3) := by decide +kernel
theorem dX10_mend_29 : decode cX10_mend 29 = .ok (.athrow, 1) := by decide +kernel
theorem dX10_mend_30 : decode cX10_mend 30 = .ok (.aload_n 0, 1) := by decide +kernel
theorem dX10_mend_31 : decode cX10_mend 31 = .ok (.getfield 33, 3) := by decide +kernel
theorem dX10_mend_34 : decode cX10_mend 34 = .ok (.aload_n 0, 1) := by decide +kernel
theorem dX10_mend_35 : decode cX10_mend 35 = .ok (.getfield 26, 3) := by decide +kernel
theorem dX10_mend_38 : decode cX10_mend 38 = .ok (.invokevirtual 257, 3) := by decide +kernel
theorem dX10_mend_41 : decode cX10_mend 41 = .ok (.aload_n 0, 1) := by decide +kernel
theorem dX10_mend_42 : decode cX10_mend 42 = .ok (.getfield 26, 3) := by decide +kernel
theorem dX10_mend_45 : decode cX10_mend 45 = .ok (.dup, 1) := by decide +kernel
theorem dX10_mend_46 : decode cX10_mend 46 = .ok (.getfield 125, 3) := by decide +kernel
theorem dX10_mend_49 : decode cX10_mend 49 = .ok (.iconst 1, 1) := by decide +kernel
theorem dX10_mend_50 : decode cX10_mend 50 = .ok (.iload_n 1, 1) := by decide +kernel
theorem dX10_mend_51 : decode cX10_mend 51 = .ok (.ishl, 1) := by decide +kernel
theorem dX10_mend_52 : decode cX10_mend 52 = .ok (.iconst (-1), 1) := by decide +kernel
theorem dX10_mend_53 : decode cX10_mend 53 = .ok (.ixor, 1) := by decide +kernel
theorem dX10_mend_54 : decode cX10_mend 54 = .ok (.iand, 1) := by decide +kernel
theorem dX10_mend_55 : decode cX10_mend 55 = .ok (.putfield 125, 3) := by decide +kernel
theorem dX10_mend_58 : decode cX10_mend 58 = .ok (.aload_n 0, 1) := by decide +kernel
theorem dX10_mend_59 : decode cX10_mend 59 = .ok (.getfield 26, 3) := by decide +kernel
theorem dX10_mend_62 : decode cX10_mend 62 = .ok (.getfield 125, 3) := by decide +kernel
theorem dX10_mend_65 : decode cX10_mend 65 = .ok (.invokestatic 120, 3) := by decide +kernel
theorem dX10_mend_68 : decode cX10_mend 68 = .ok (.ireturn, 1) := by decide +kernel
theorem dX10_tell_0 : decode cX10_tell 0 = .ok (.aload_n 0, 1) := by decide +kernel
theorem dX10_tell_1 : decode cX10_tell 1 = .ok (.iload_n 1, 1) := by decide +kernel
theorem dX10_tell_2 : decode cX10_tell 2 = .ok (.invokevirtual 168, 3) := by decide +kernel
theorem dX10_tell_5 : decode cX10_tell 5 = .ok (.aload_n 0, 1) := by decide +kernel
theorem dX10_tell_6 : decode cX10_tell 6 = .ok (.iload_n 2, 1) := by decide +kernel
theorem dX10_tell_7 : decode cX10_tell 7 = .ok (.invokevirtual 168, 3) := by decide +kernel
theorem dX10_tell_10 : decode cX10_tell 10 = .ok (.aload_n 0, 1) := by decide +kernel
theorem dX10_tell_11 : decode cX10_tell 11 = .ok (.getfield 26, 3) := by decide +kernel
theorem dX10_tell_14 : decode cX10_tell 14 = .ok (.getfield 171, 3) := by decide +kernel
theorem dX10_tell_17 : decode cX10_tell 17 = .ok (.getfield 175, 3) := by decide +kernel
theorem dX10_tell_20 : decode cX10_tell 20 = .ok (.iload_n 1, 1) := by decide +kernel
theorem dX10_tell_21 : decode cX10_tell 21 = .ok (.iaload, 1) := by decide +kernel
theorem dX10_tell_22 : decode cX10_tell 22 = .ok (.iload_n 2, 1) := by decide +kernel
theorem dX10_tell_23 : decode cX10_tell 23 = .ok (.invokestatic 161, 3) := by decide +kernel
theorem dX10_tell_26 : decode cX10_tell 26 = .ok (.ifCond .eq 14, 3) := by decide +kernel
theorem dX10_tell_29 : decode cX10_tell 29 = .ok (.new 225, 3) := by decide +kernel
theorem dX10_tell_32 : decode cX10_tell 32 = .ok (.dup, 1) := by decide +kernel
theorem dX10_tell_33 : decode cX10_tell 33 = .ok (.ldc_w 282, 3) := by decide +kernel
theorem dX10_tell_36 : decode cX10_tell 36 = .ok (.invokespecial 229, 3) := by decide +kernel
theorem dX10_tell_39 : decode cX10_tell 39 = .ok (.athrow, 1) := by decide +kernel
theorem dX10_tell_40 : decode cX10_tell 40 = .ok (.aload_n 0, 1) := by decide +kernel
theorem dX10_tell_41 : decode cX10_tell 41 = .ok (.getfield 33, 3) := by decide +kernel
theorem dX10_tell_44 : decode cX10_tell 44 = .ok (.aload_n 0, 1) := by decide +kernel
theorem dX10_tell_45 : decode cX10_tell 45 = .ok (.getfield 26, 3) := by decide +kernel
theorem dX10_tell_48 : decode cX10_tell 48 = .ok (.invokevirtual 257, 3) := by decide +kernel
theorem dX10_tell_51 : decode cX10_tell 51 = .ok (.aload_n 0, 1) := by decide +kernel
theorem dX10_tell_52 : decode cX10_tell 52 = .ok (.getfield 26, 3) := by decide +kernel
theorem dX10_tell_55 : decode cX10_tell 55 = .ok (.getfield 171, 3) := by decide +kernel
theorem dX10_tell_58 : decode cX10_tell 58 = .ok (.getfield 175, 3) := by decide +kernel
theorem dX10_tell_61 : decode cX10_tell 61 = .ok (.iload_n 1, 1) := by decide +kernel
theorem dX10_tell_62 : decode cX10_tell 62 = .ok (.dup2, 1) := by decide +kernel
theorem dX10_tell_63 : decode cX10_tell 63 = .ok (.iaload, 1) := by decide +kernel
theorem dX10_tell_64 : decode cX10_tell 64 = .ok (.iconst 1, 1) := by decide +kernel
theorem dX10_tell_65 : decode cX10_tell 65 = .ok (.iload_n 2, 1) := by decide +kernel
theorem dX10_tell_66 : decode cX10_tell 66 = .ok (.ishl, 1) := by decide +kernel
theorem dX10_tell_67 : decode cX10_tell 67 = .ok (.ior, 1) := by decide +kernel
theorem dX10_tell_68 : decode cX10_tell 68 = .ok (.iastore, 1) := by decide +kernel
theorem dX10_tell_69 : decode cX10_tell 69 = .ok (.aload_n 0, 1) := by decide +kernel
theorem dX10_tell_70 : decode cX10_tell 70 = .ok (.getfield 26, 3) := by decide +kernel
theorem dX10_tell_73 : decode cX10_tell 73 = .ok (.getfield 171, 3) := by decide +kernel
theorem dX10_tell_76 : decode cX10_tell 76 = .ok (.getfield 175, 3) := by decide +kernel
theorem dX10_tell_79 : decode cX10_tell 79 = .ok (.iload_n 1, 1) := by decide +kernel
theorem dX10_tell_80 : decode cX10_tell 80 = .ok (.iaload, 1) := by decide +kernel
theorem dX10_tell_81 : decode cX10_tell 81 = .ok (.invokestatic 120, 3) := by decide +kernel
theorem dX10_tell_84 : decode cX10_tell 84 = .ok (.ireturn, 1) := by decide +kernel
theorem dX10_requireLine_0 : decode cX10_requireLine 0 = .ok (.iload_n 1, 1) := by decide +kernel
theorem dX10_requireLine_1 : decode cX10_requireLine 1 = .ok (.ifCond .lt 14, 3) := by decide +kernel
theorem dX10_requireLine_4 : decode cX10_requireLine 4 = .ok (.iload_n 1, 1) := by decide +kernel
theorem dX10_requireLine_5 : decode cX10_requireLine 5 = .ok (.aload_n 0, 1) := by decide +kernel
theorem dX10_requireLine_6 : decode cX10_requireLine 6 = .ok (.getfield 19, 3) := by decide +kernel
theorem dX10_requireLine_9 : decode cX10_requireLine 9 = .ok (.getfield 108, 3) := by decide +kernel
theorem dX10_requireLine_12 : decode cX10_requireLine 12 = .ok (.if_icmp .lt 14, 3) := by decide +kernel
theorem dX10_requireLine_15 : decode cX10_requireLine 15 = .ok (.new 296, 3) := by decide +kernel
theorem dX10_requireLine_18 : decode cX10_requireLine 18 = .ok (.dup, 1) := by decide +kernel
theorem dX10_requireLine_19 : decode cX10_requireLine 19 = .ok (.ldc_w 298, 3) := by decide +kernel
theorem dX10_requireLine_22 : decode cX10_requireLine 22 = .ok (.invokespecial 300, 3) := by decide +kernel
theorem dX10_requireLine_25 : decode cX10_requireLine 25 = .ok (.athrow, 1) := by decide +kernel
theorem dX10_requireLine_26 : decode cX10_requireLine 26 = .ok (.return_, 1) := by decide +kernel
theorem dX10_requirePerson_0 : decode cX10_requirePerson 0 = .ok (.iload_n 1, 1) := by decide +kernel
theorem dX10_requirePerson_1 : decode cX10_requirePerson 1 = .ok (.ifCond .lt 14, 3) := by decide +kernel
theorem dX10_requirePerson_4 : decode cX10_requirePerson 4 = .ok (.iload_n 1, 1) := by decide +kernel
theorem dX10_requirePerson_5 : decode cX10_requirePerson 5 = .ok (.aload_n 0, 1) := by decide +kernel
theorem dX10_requirePerson_6 : decode cX10_requirePerson 6 = .ok (.getfield 19, 3) := by decide +kernel
theorem dX10_requirePerson_9 : decode cX10_requirePerson 9 = .ok (.getfield 70, 3) := by decide +kernel
theorem dX10_requirePerson_12 : decode cX10_requirePerson 12 = .ok (.if_icmp .lt 14, 3) := by decide +kernel
theorem dX10_requirePerson_15 : decode cX10_requirePerson 15 = .ok (.new 296, 3) := by decide +kernel
theorem dX10_requirePerson_18 : decode cX10_requirePerson 18 = .ok (.dup, 1) := by decide +kernel
theorem dX10_requirePerson_19 : decode cX10_requirePerson 19 = .ok (.ldc_w 301, 3) := by decide +kernel
theorem dX10_requirePerson_22 : decode cX10_requirePerson 22 = .ok (.invokespecial 300, 3) := by decide +kernel
theorem dX10_requirePerson_25 : decode cX10_requirePerson 25 = .ok (.athrow, 1) := by decide +kernel
theorem dX10_requirePerson_26 : decode cX10_requirePerson 26 = .ok (.return_, 1) := by decide +kernel
theorem dX10_uncutLines_0 : decode cX10_uncutLines 0 = .ok (.aload_n 0, 1) := by decide +kernel
theorem dX10_uncutLines_1 : decode cX10_uncutLines 1 = .ok (.getfield 19, 3) := by decide +kernel
theorem dX10_uncutLines_4 : decode cX10_uncutLines 4 = .ok (.invokevirtual 305, 3) := by decide +kernel
theorem dX10_uncutLines_7 : decode cX10_uncutLines 7 = .ok (.aload_n 0, 1) := by decide +kernel
theorem dX10_uncutLines_8 : decode cX10_uncutLines 8 = .ok (.getfield 26, 3) := by decide +kernel
theorem dX10_uncutLines_11 : decode cX10_uncutLines 11 = .ok (.getfield 125, 3) := by decide +kernel
theorem dX10_uncutLines_14 : decode cX10_uncutLines 14 = .ok (.iconst (-1), 1) := by decide +kernel
theorem dX10_uncutLines_15 : decode cX10_uncutLines 15 = .ok (.ixor, 1) := by decide +kernel
theorem dX10_uncutLines_16 : decode cX10_uncutLines 16 = .ok (.iand, 1) := by decide +kernel
theorem dX10_uncutLines_17 : decode cX10_uncutLines 17 = .ok (.ireturn, 1) := by decide +kernel
theorem dX10_usableLines_0 : decode cX10_usableLines 0 = .ok (.aload_n 0, 1) := by decide +kernel
theorem dX10_usableLines_1 : decode cX10_usableLines 1 = .ok (.getfield 19, 3) := by decide +kernel
theorem dX10_usableLines_4 : decode cX10_usableLines 4 = .ok (.iload_n 1, 1) := by decide +kernel
theorem dX10_usableLines_5 : decode cX10_usableLines 5 = .ok (.invokevirtual 308, 3) := by decide +kernel
theorem dX10_usableLines_8 : decode cX10_usableLines 8 = .ok (.aload_n 0, 1) := by decide +kernel
theorem dX10_usableLines_9 : decode cX10_usableLines 9 = .ok (.getfield 26, 3) := by decide +kernel
theorem dX10_usableLines_12 : decode cX10_usableLines 12 = .ok (.getfield 125, 3) := by decide +kernel
theorem dX10_usableLines_15 : decode cX10_usableLines 15 = .ok (.iconst (-1), 1) := by decide +kernel
theorem dX10_usableLines_16 : decode cX10_usableLines 16 = .ok (.ixor, 1) := by decide +kernel
theorem dX10_usableLines_17 : decode cX10_usableLines 17 = .ok (.iand, 1) := by decide +kernel
theorem dX10_usableLines_18 : decode cX10_usableLines 18 = .ok (.ireturn, 1) := by decide +kernel
theorem dX10_isIn_0 : decode cX10_isIn 0 = .ok (.iload_n 0, 1) := by decide +kernel
theorem dX10_isIn_1 : decode cX10_isIn 1 = .ok (.iload_n 1, 1) := by decide +kernel
theorem dX10_isIn_2 : decode cX10_isIn 2 = .ok (.ishr, 1) := by decide +kernel
theorem dX10_isIn_3 : decode cX10_isIn 3 = .ok (.iconst 1, 1) := by decide +kernel
theorem dX10_isIn_4 : decode cX10_isIn 4 = .ok (.iand, 1) := by decide +kernel
theorem dX10_isIn_5 : decode cX10_isIn 5 = .ok (.iconst 1, 1) := by decide +kernel
theorem dX10_isIn_6 : decode cX10_isIn 6 = .ok (.if_icmp .ne 7, 3) := by decide +kernel
theorem dX10_isIn_9 : decode cX10_isIn 9 = .ok (.iconst 1, 1) := by decide +kernel
theorem dX10_isIn_10 : decode cX10_isIn 10 = .ok (.goto 4, 3) := by decide +kernel
theorem dX10_isIn_13 : decode cX10_isIn 13 = .ok (.iconst 0, 1) := by decide +kernel
theorem dX10_isIn_14 : decode cX10_isIn 14 = .ok (.ireturn, 1) := by decide +kernel
theorem dX12_init_0 : decode cX12_init 0 = .ok (.aload_n 0, 1) := by decide +kernel
theorem dX12_init_1 : decode cX12_init 1 = .ok (.invokespecial 1, 3) := by decide +kernel
theorem dX12_init_4 : decode cX12_init 4 = .ok (.aload_n 0, 1) := by decide +kernel
theorem dX12_init_5 : decode cX12_init 5 = .ok (.bipush 24, 2) := by decide +kernel
theorem dX12_init_7 : decode cX12_init 7 = .ok (.anewarray 7, 3) := by decide +kernel
theorem dX12_init_10 : decode cX12_init 10 = .ok (.putfield 9, 3) := by decide +kernel
theorem dX12_init_13 : decode cX12_init 13 = .ok (.aload_n 0, 1) := by decide +kernel
theorem dX12_init_14 : decode cX12_init 14 = .ok (.bipush 100, 2) := by decide +kernel
theorem dX12_init_16 : decode cX12_init 16 = .ok (.newarray .int, 2) := by decide +kernel
theorem dX12_init_18 : decode cX12_init 18 = .ok (.putfield 15, 3) := by decide +kernel
theorem dX12_init_21 : decode cX12_init 21 = .ok (.return_, 1) := by decide +kernel
theorem dX12_usable_0 : decode cX12_usable 0 = .ok (.aload_n 0, 1) := by decide +kernel
theorem dX12_usable_1 : decode cX12_usable 1 = .ok (.getfield 9, 3) := by decide +kernel
theorem dX12_usable_4 : decode cX12_usable 4 = .ok (.iload_n 1, 1) := by decide +kernel
theorem dX12_usable_5 : decode cX12_usable 5 = .ok (.aaload, 1) := by decide +kernel
theorem dX12_usable_6 : decode cX12_usable 6 = .ok (.getfield 19, 3) := by decide +kernel
theorem dX12_usable_9 : decode cX12_usable 9 = .ok (.ifCond .eq 5, 3) := by decide +kernel
theorem dX12_usable_12 : decode cX12_usable 12 = .ok (.iconst 0, 1) := by decide +kernel
theorem dX12_usable_13 : decode cX12_usable 13 = .ok (.ireturn, 1) := by decide +kernel
theorem dX12_usable_14 : decode cX12_usable 14 = .ok (.aload_n 0, 1) := by decide +kernel
theorem dX12_usable_15 : decode cX12_usable 15 = .ok (.getfield 23, 3) := by decide +kernel
theorem dX12_usable_18 : decode cX12_usable 18 = .ok (.astore_n 3, 1) := by decide +kernel
theorem dX12_usable_19 : decode cX12_usable 19 = .ok (.aload_n 3, 1) := by decide +kernel
theorem dX12_usable_20 : decode cX12_usable 20 = .ok (.arraylength, 1) := by decide +kernel
theorem dX12_usable_21 : decode cX12_usable 21 = .ok (.istore 4, 2) := by decide +kernel
theorem dX12_usable_23 : decode cX12_usable 23 = .ok (.iconst 0, 1) := by decide +kernel
theorem dX12_usable_24 : decode cX12_usable 24 = .ok (.istore 5, 2) := by decide +kernel
theorem dX12_usable_26 : decode cX12_usable 26 = .ok (.iload 5, 2) := by decide +kernel
theorem dX12_usable_28 : decode cX12_usable 28 = .ok (.iload 4, 2) := by decide +kernel
theorem dX12_usable_30 : decode cX12_usable 30 = .ok (.if_icmp .ge 41, 3) := by decide +kernel
theorem dX12_usable_33 : decode cX12_usable 33 = .ok (.aload_n 3, 1) := by decide +kernel
theorem dX12_usable_34 : decode cX12_usable 34 = .ok (.iload 5, 2) := by decide +kernel
theorem dX12_usable_36 : decode cX12_usable 36 = .ok (.aaload, 1) := by decide +kernel
theorem dX12_usable_37 : decode cX12_usable 37 = .ok (.astore 6, 2) := by decide +kernel
theorem dX12_usable_39 : decode cX12_usable 39 = .ok (.aload 6, 2) := by decide +kernel
theorem dX12_usable_41 : decode cX12_usable 41 = .ok (.iconst 0, 1) := by decide +kernel
theorem dX12_usable_42 : decode cX12_usable 42 = .ok (.iaload, 1) := by decide +kernel
theorem dX12_usable_43 : decode cX12_usable 43 = .ok (.iload_n 1, 1) := by decide +kernel
theorem dX12_usable_44 : decode cX12_usable 44 = .ok (.if_icmp .ne 21, 3) := by decide +kernel
theorem dX12_usable_47 : decode cX12_usable 47 = .ok (.iload_n 2, 1) := by decide +kernel
theorem dX12_usable_48 : decode cX12_usable 48 = .ok (.aload 6, 2) := by decide +kernel
theorem dX12_usable_50 : decode cX12_usable 50 = .ok (.iconst 1, 1) := by decide +kernel
theorem dX12_usable_51 : decode cX12_usable 51 = .ok (.iaload, 1) := by decide +kernel
theorem dX12_usable_52 : decode cX12_usable 52 = .ok (.if_icmp .lt 13, 3) := by decide +kernel
theorem dX12_usable_55 : decode cX12_usable 55 = .ok (.iload_n 2, 1) := by decide +kernel
theorem dX12_usable_56 : decode cX12_usable 56 = .ok (.aload 6, 2) := by decide +kernel
theorem dX12_usable_58 : decode cX12_usable 58 = .ok (.iconst 2, 1) := by decide +kernel
theorem dX12_usable_59 : decode cX12_usable 59 = .ok (.iaload, 1) := by decide +kernel
theorem dX12_usable_60 : decode cX12_usable 60 = .ok (.if_icmp .gt 5, 3) := by decide +kernel
theorem dX12_usable_63 : decode cX12_usable 63 = .ok (.iconst 0, 1) := by decide +kernel
theorem dX12_usable_64 : decode cX12_usable 64 = .ok (.ireturn, 1) := by decide +kernel
theorem dX12_usable_65 : decode cX12_usable 65 = .ok (.iinc 5 1, 3) := by decide +kernel
theorem dX12_usable_68 : decode cX12_usable 68 = .ok (.goto (-42), 3) := by decide +kernel
theorem dX12_usable_71 : decode cX12_usable 71 = .ok (.aload_n 0, 1) := by decide +kernel
theorem dX12_usable_72 : decode cX12_usable 72 = .ok (.getfield 27, 3) := by decide +kernel
theorem dX12_usable_75 : decode cX12_usable 75 = .ok (.astore_n 3, 1) := by decide +kernel
theorem dX12_usable_76 : decode cX12_usable 76 = .ok (.aload_n 3, 1) := by decide +kernel
theorem dX12_usable_77 : decode cX12_usable 77 = .ok (.arraylength, 1) := by decide +kernel
theorem dX12_usable_78 : decode cX12_usable 78 = .ok (.istore 4, 2) := by decide +kernel
theorem dX12_usable_80 : decode cX12_usable 80 = .ok (.iconst 0, 1) := by decide +kernel
theorem dX12_usable_81 : decode cX12_usable 81 = .ok (.istore 5, 2) := by decide +kernel
theorem dX12_usable_83 : decode cX12_usable 83 = .ok (.iload 5, 2) := by decide +kernel
theorem dX12_usable_85 : decode cX12_usable 85 = .ok (.iload 4, 2) := by decide +kernel
theorem dX12_usable_87 : decode cX12_usable 87 = .ok (.if_icmp .ge 65, 3) := by decide +kernel
theorem dX12_usable_90 : decode cX12_usable 90 = .ok (.aload_n 3, 1) := by decide +kernel
theorem dX12_usable_91 : decode cX12_usable 91 = .ok (.iload 5, 2) := by decide +kernel
theorem dX12_usable_93 : decode cX12_usable 93 = .ok (.aaload, 1) := by decide +kernel
theorem dX12_usable_94 : decode cX12_usable 94 = .ok (.astore 6, 2) := by decide +kernel
theorem dX12_usable_96 : decode cX12_usable 96 = .ok (.aload 6, 2) := by decide +kernel
theorem dX12_usable_98 : decode cX12_usable 98 = .ok (.iconst 0, 1) := by decide +kernel
theorem dX12_usable_99 : decode cX12_usable 99 = .ok (.iaload, 1) := by decide +kernel
theorem dX12_usable_100 : decode cX12_usable 100 = .ok (.aload_n 0, 1) := by decide +kernel
theorem dX12_usable_101 : decode cX12_usable 101 = .ok (.getfield 9, 3) := by decide +kernel
theorem dX12_usable_104 : decode cX12_usable 104 = .ok (.iload_n 1, 1) := by decide +kernel
theorem dX12_usable_105 : decode cX12_usable 105 = .ok (.aaload, 1) := by decide +kernel
theorem dX12_usable_106 : decode cX12_usable 106 = .ok (.getfield 30, 3) := by decide +kernel
theorem dX12_usable_109 : decode cX12_usable 109 = .ok (.if_icmp .eq 19, 3) := by decide +kernel
theorem dX12_usable_112 : decode cX12_usable 112 = .ok (.aload 6, 2) := by decide +kernel
theorem dX12_usable_114 : decode cX12_usable 114 = .ok (.iconst 0, 1) := by decide +kernel
theorem dX12_usable_115 : decode cX12_usable 115 = .ok (.iaload, 1) := by decide +kernel
theorem dX12_usable_116 : decode cX12_usable 116 = .ok (.aload_n 0, 1) := by decide +kernel
theorem dX12_usable_117 : decode cX12_usable 117 = .ok (.getfield 9, 3) := by decide +kernel
theorem dX12_usable_120 : decode cX12_usable 120 = .ok (.iload_n 1, 1) := by decide +kernel
theorem dX12_usable_121 : decode cX12_usable 121 = .ok (.aaload, 1) := by decide +kernel
theorem dX12_usable_122 : decode cX12_usable 122 = .ok (.getfield 34, 3) := by decide +kernel
theorem dX12_usable_125 : decode cX12_usable 125 = .ok (.if_icmp .ne 21, 3) := by decide +kernel
theorem dX12_usable_128 : decode cX12_usable 128 = .ok (.iload_n 2, 1) := by decide +kernel
theorem dX12_usable_129 : decode cX12_usable 129 = .ok (.aload 6, 2) := by decide +kernel
theorem dX12_usable_131 : decode cX12_usable 131 = .ok (.iconst 1, 1) := by decide +kernel
theorem dX12_usable_132 : decode cX12_usable 132 = .ok (.iaload, 1) := by decide +kernel
theorem dX12_usable_133 : decode cX12_usable 133 = .ok (.if_icmp .lt 13, 3) := by decide +kernel
theorem dX12_usable_136 : decode cX12_usable 136 = .ok (.iload_n 2, 1) := by decide +kernel
theorem dX12_usable_137 : decode cX12_usable 137 = .ok (.aload 6, 2) := by decide +kernel
theorem dX12_usable_139 : decode cX12_usable 139 = .ok (.iconst 2, 1) := by decide +kernel
theorem dX12_usable_140 : decode cX12_usable 140 = .ok (.iaload, 1) := by decide +kernel
theorem dX12_usable_141 : decode cX12_usable 141 = .ok (.if_icmp .gt 5, 3) := by decide +kernel
theorem dX12_usable_144 : decode cX12_usable 144 = .ok (.iconst 0, 1) := by decide +kernel
theorem dX12_usable_145 : decode cX12_usable 145 = .ok (.ireturn, 1) := by decide +kernel
theorem dX12_usable_146 : decode cX12_usable 146 = .ok (.iinc 5 1, 3) := by decide +kernel
theorem dX12_usable_149 : decode cX12_usable 149 = .ok (.goto (-66), 3) := by decide +kernel
theorem dX12_usable_152 : decode cX12_usable 152 = .ok (.iconst 1, 1) := by decide +kernel
theorem dX12_usable_153 : decode cX12_usable 153 = .ok (.ireturn, 1) := by decide +kernel
theorem dX12_gain_0 : decode cX12_gain 0 = .ok (.aload_n 0, 1) := by decide +kernel
theorem dX12_gain_1 : decode cX12_gain 1 = .ok (.getfield 9, 3) := by decide +kernel
theorem dX12_gain_4 : decode cX12_gain 4 = .ok (.iload_n 1, 1) := by decide +kernel
theorem dX12_gain_5 : decode cX12_gain 5 = .ok (.aaload, 1) := by decide +kernel
theorem dX12_gain_6 : decode cX12_gain 6 = .ok (.astore_n 3, 1) := by decide +kernel
theorem dX12_gain_7 : decode cX12_gain 7 = .ok (.aload_n 2, 1) := by decide +kernel
theorem dX12_gain_8 : decode cX12_gain 8 = .ok (.aload_n 3, 1) := by decide +kernel
theorem dX12_gain_9 : decode cX12_gain 9 = .ok (.getfield 30, 3) := by decide +kernel
theorem dX12_gain_12 : decode cX12_gain 12 = .ok (.iaload, 1) := by decide +kernel
theorem dX12_gain_13 : decode cX12_gain 13 = .ok (.aload_n 2, 1) := by decide +kernel
theorem dX12_gain_14 : decode cX12_gain 14 = .ok (.aload_n 3, 1) := by decide +kernel
theorem dX12_gain_15 : decode cX12_gain 15 = .ok (.getfield 34, 3) := by decide +kernel
theorem dX12_gain_18 : decode cX12_gain 18 = .ok (.iaload, 1) := by decide +kernel
theorem dX12_gain_19 : decode cX12_gain 19 = .ok (.iconst (-1), 1) := by decide +kernel
theorem dX12_gain_20 : decode cX12_gain 20 = .ok (.ixor, 1) := by decide +kernel
theorem dX12_gain_21 : decode cX12_gain 21 = .ok (.iand, 1) := by decide +kernel
theorem dX12_gain_22 : decode cX12_gain 22 = .ok (.invokestatic 37, 3) := by decide +kernel
theorem dX12_gain_25 : decode cX12_gain 25 = .ok (.istore 4, 2) := by decide +kernel
theorem dX12_gain_27 : decode cX12_gain 27 = .ok (.aload_n 3, 1) := by decide +kernel
theorem dX12_gain_28 : decode cX12_gain 28 = .ok (.getfield 43, 3) := by decide +kernel
theorem dX12_gain_31 : decode cX12_gain 31 = .ok (.ifCond .eq 8, 3) := by decide +kernel
theorem dX12_gain_34 : decode cX12_gain 34 = .ok (.iload 4, 2) := by decide +kernel
theorem dX12_gain_36 : decode cX12_gain 36 = .ok (.goto 24, 3) := by decide +kernel
theorem dX12_gain_39 : decode cX12_gain 39 = .ok (.iload 4, 2) := by decide +kernel
theorem dX12_gain_41 : decode cX12_gain 41 = .ok (.aload_n 2, 1) := by decide +kernel
theorem dX12_gain_42 : decode cX12_gain 42 = .ok (.aload_n 3, 1) := by decide +kernel
theorem dX12_gain_43 : decode cX12_gain 43 = .ok (.getfield 34, 3) := by decide +kernel
theorem dX12_gain_46 : decode cX12_gain 46 = .ok (.iaload, 1) := by decide +kernel
theorem dX12_gain_47 : decode cX12_gain 47 = .ok (.aload_n 2, 1) := by decide +kernel
theorem dX12_gain_48 : decode cX12_gain 48 = .ok (.aload_n 3, 1) := by decide +kernel
theorem dX12_gain_49 : decode cX12_gain 49 = .ok (.getfield 30, 3) := by decide +kernel
theorem dX12_gain_52 : decode cX12_gain 52 = .ok (.iaload, 1) := by decide +kernel
theorem dX12_gain_53 : decode cX12_gain 53 = .ok (.iconst (-1), 1) := by decide +kernel
theorem dX12_gain_54 : decode cX12_gain 54 = .ok (.ixor, 1) := by decide +kernel
theorem dX12_gain_55 : decode cX12_gain 55 = .ok (.iand, 1) := by decide +kernel
theorem dX12_gain_56 : decode cX12_gain 56 = .ok (.invokestatic 37, 3) := by decide +kernel
theorem dX12_gain_59 : decode cX12_gain 59 = .ok (.iadd, 1) := by decide +kernel
theorem dX12_gain_60 : decode cX12_gain 60 = .ok (.ireturn, 1) := by decide +kernel
theorem dX12_gainOf_0 : decode cX12_gainOf 0 = .ok (.iconst 0, 1) := by decide +kernel
theorem dX12_gainOf_1 : decode cX12_gainOf 1 = .ok (.istore_n 3, 1) := by decide +kernel
theorem dX12_gainOf_2 : decode cX12_gainOf 2 = .ok (.iconst 0, 1) := by decide +kernel
theorem dX12_gainOf_3 : decode cX12_gainOf 3 = .ok (.istore 4, 2) := by decide +kernel
theorem dX12_gainOf_5 : decode cX12_gainOf 5 = .ok (.iload 4, 2) := by decide +kernel
theorem dX12_gainOf_7 : decode cX12_gainOf 7 = .ok (.aload_n 0, 1) := by decide +kernel
theorem dX12_gainOf_8 : decode cX12_gainOf 8 = .ok (.getfield 46, 3) := by decide +kernel
theorem dX12_gainOf_11 : decode cX12_gainOf 11 = .ok (.if_icmp .ge 29, 3) := by decide +kernel
theorem dX12_gainOf_14 : decode cX12_gainOf 14 = .ok (.iload_n 1, 1) := by decide +kernel
theorem dX12_gainOf_15 : decode cX12_gainOf 15 = .ok (.iload 4, 2) := by decide +kernel
theorem dX12_gainOf_17 : decode cX12_gainOf 17 = .ok (.ishr, 1) := by decide +kernel
theorem dX12_gainOf_18 : decode cX12_gainOf 18 = .ok (.iconst 1, 1) := by decide +kernel
theorem dX12_gainOf_19 : decode cX12_gainOf 19 = .ok (.iand, 1) := by decide +kernel
theorem dX12_gainOf_20 : decode cX12_gainOf 20 = .ok (.iconst 1, 1) := by decide +kernel
theorem dX12_gainOf_21 : decode cX12_gainOf 21 = .ok (.if_icmp .ne 13, 3) := by decide +kernel
theorem dX12_gainOf_24 : decode cX12_gainOf 24 = .ok (.iload_n 3, 1) := by decide +kernel
theorem dX12_gainOf_25 : decode cX12_gainOf 25 = .ok (.aload_n 0, 1) := by decide +kernel
theorem dX12_gainOf_26 : decode cX12_gainOf 26 = .ok (.iload 4, 2) := by decide +kernel
theorem dX12_gainOf_28 : decode cX12_gainOf 28 = .ok (.aload_n 2, 1) := by decide +kernel
theorem dX12_gainOf_29 : decode cX12_gainOf 29 = .ok (.invokevirtual 49, 3) := by decide +kernel
theorem dX12_gainOf_32 : decode cX12_gainOf 32 = .ok (.iadd, 1) := by decide +kernel
theorem dX12_gainOf_33 : decode cX12_gainOf 33 = .ok (.istore_n 3, 1) := by decide +kernel
theorem dX12_gainOf_34 : decode cX12_gainOf 34 = .ok (.iinc 4 1, 3) := by decide +kernel
theorem dX12_gainOf_37 : decode cX12_gainOf 37 = .ok (.goto (-32), 3) := by decide +kernel
theorem dX12_gainOf_40 : decode cX12_gainOf 40 = .ok (.iload_n 3, 1) := by decide +kernel
theorem dX12_gainOf_41 : decode cX12_gainOf 41 = .ok (.ireturn, 1) := by decide +kernel
theorem dX12_cost_0 : decode cX12_cost 0 = .ok (.iconst 0, 1) := by decide +kernel
theorem dX12_cost_1 : decode cX12_cost 1 = .ok (.istore_n 2, 1) := by decide +kernel
theorem dX12_cost_2 : decode cX12_cost 2 = .ok (.iconst 0, 1) := by decide +kernel
theorem dX12_cost_3 : decode cX12_cost 3 = .ok (.istore_n 3, 1) := by decide +kernel
theorem dX12_cost_4 : decode cX12_cost 4 = .ok (.iload_n 3, 1) := by decide +kernel
theorem dX12_cost_5 : decode cX12_cost 5 = .ok (.aload_n 0, 1) := by decide +kernel
theorem dX12_cost_6 : decode cX12_cost 6 = .ok (.getfield 46, 3) := by decide +kernel
theorem dX12_cost_9 : decode cX12_cost 9 = .ok (.if_icmp .ge 30, 3) := by decide +kernel
theorem dX12_cost_12 : decode cX12_cost 12 = .ok (.iload_n 1, 1) := by decide +kernel
theorem dX12_cost_13 : decode cX12_cost 13 = .ok (.iload_n 3, 1) := by decide +kernel
theorem dX12_cost_14 : decode cX12_cost 14 = .ok (.ishr, 1) := by decide +kernel
theorem dX12_cost_15 : decode cX12_cost 15 = .ok (.iconst 1, 1) := by decide +kernel
theorem dX12_cost_16 : decode cX12_cost 16 = .ok (.iand, 1) := by decide +kernel
theorem dX12_cost_17 : decode cX12_cost 17 = .ok (.iconst 1, 1) := by decide +kernel
theorem dX12_cost_18 : decode cX12_cost 18 = .ok (.if_icmp .ne 15, 3) := by decide +kernel
theorem dX12_cost_21 : decode cX12_cost 21 = .ok (.iload_n 2, 1) := by decide +kernel
theorem dX12_cost_22 : decode cX12_cost 22 = .ok (.aload_n 0, 1) := by decide +kernel
theorem dX12_cost_23 : decode cX12_cost 23 = .ok (.getfield 9, 3) := by decide +kernel
theorem dX12_cost_26 : decode cX12_cost 26 = .ok (.iload_n 3, 1) := by decide +kernel
theorem dX12_cost_27 : decode cX12_cost 27 = .ok (.aaload, 1) := by decide +kernel
theorem dX12_cost_28 : decode cX12_cost 28 = .ok (.getfield 53, 3) := by decide +kernel
theorem dX12_cost_31 : decode cX12_cost 31 = .ok (.iadd, 1) := by decide +kernel
theorem dX12_cost_32 : decode cX12_cost 32 = .ok (.istore_n 2, 1) := by decide +kernel
theorem dX12_cost_33 : decode cX12_cost 33 = .ok (.iinc 3 1, 3) := by decide +kernel
theorem dX12_cost_36 : decode cX12_cost 36 = .ok (.goto (-32), 3) := by decide +kernel
theorem dX12_cost_39 : decode cX12_cost 39 = .ok (.iload_n 2, 1) := by decide +kernel
theorem dX12_cost_40 : decode cX12_cost 40 = .ok (.ireturn, 1) := by decide +kernel
theorem dX12_arranged_0 : decode cX12_arranged 0 = .ok (.iconst 0, 1) := by decide +kernel
theorem dX12_arranged_1 : decode cX12_arranged 1 = .ok (.istore_n 1, 1) := by decide +kernel
theorem dX12_arranged_2 : decode cX12_arranged 2 = .ok (.iconst 0, 1) := by decide +kernel
theorem dX12_arranged_3 : decode cX12_arranged 3 = .ok (.istore_n 2, 1) := by decide +kernel
theorem dX12_arranged_4 : decode cX12_arranged 4 = .ok (.iload_n 2, 1) := by decide +kernel
theorem dX12_arranged_5 : decode cX12_arranged 5 = .ok (.aload_n 0, 1) := by decide +kernel
theorem dX12_arranged_6 : decode cX12_arranged 6 = .ok (.getfield 46, 3) := by decide +kernel
theorem dX12_arranged_9 : decode cX12_arranged 9 = .ok (.if_icmp .ge 27, 3) := by decide +kernel
theorem dX12_arranged_12 : decode cX12_arranged 12 = .ok (.aload_n 0, 1) := by decide +kernel
theorem dX12_arranged_13 : decode cX12_arranged 13 = .ok (.getfield 9, 3) := by decide +kernel
theorem dX12_arranged_16 : decode cX12_arranged 16 = .ok (.iload_n 2, 1) := by decide +kernel
theorem dX12_arranged_17 : decode cX12_arranged 17 = .ok (.aaload, 1) := by decide +kernel
theorem dX12_arranged_18 : decode cX12_arranged 18 = .ok (.getfield 56, 3) := by decide +kernel
theorem dX12_arranged_21 : decode cX12_arranged 21 = .ok (.ifCond .eq 9, 3) := by decide +kernel
theorem dX12_arranged_24 : decode cX12_arranged 24 = .ok (.iload_n 1, 1) := by decide +kernel
theorem dX12_arranged_25 : decode cX12_arranged 25 = .ok (.iconst 1, 1) := by decide +kernel
theorem dX12_arranged_26 : decode cX12_arranged 26 = .ok (.iload_n 2, 1) := by decide +kernel
theorem dX12_arranged_27 : decode cX12_arranged 27 = .ok (.ishl, 1) := by decide +kernel
theorem dX12_arranged_28 : decode cX12_arranged 28 = .ok (.ior, 1) := by decide +kernel
theorem dX12_arranged_29 : decode cX12_arranged 29 = .ok (.istore_n 1, 1) := by decide +kernel
theorem dX12_arranged_30 : decode cX12_arranged 30 = .ok (.iinc 2 1, 3) := by decide +kernel
theorem dX12_arranged_33 : decode cX12_arranged 33 = .ok (.goto (-29), 3) := by decide +kernel
theorem dX12_arranged_36 : decode cX12_arranged 36 = .ok (.iload_n 1, 1) := by decide +kernel
theorem dX12_arranged_37 : decode cX12_arranged 37 = .ok (.ireturn, 1) := by decide +kernel
theorem dX12_best_0 : decode cX12_best 0 = .ok (.aload_n 0, 1) := by decide +kernel
theorem dX12_best_1 : decode cX12_best 1 = .ok (.iconst (-1), 1) := by decide +kernel
theorem dX12_best_2 : decode cX12_best 2 = .ok (.putfield 59, 3) := by decide +kernel
theorem dX12_best_5 : decode cX12_best 5 = .ok (.aload_n 0, 1) := by decide +kernel
theorem dX12_best_6 : decode cX12_best 6 = .ok (.iconst 0, 1) := by decide +kernel
theorem dX12_best_7 : decode cX12_best 7 = .ok (.iconst 0, 1) := by decide +kernel
theorem dX12_best_8 : decode cX12_best 8 = .ok (.iconst 0, 1) := by decide +kernel
theorem dX12_best_9 : decode cX12_best 9 = .ok (.iload_n 1, 1) := by decide +kernel
theorem dX12_best_10 : decode cX12_best 10 = .ok (.aload_n 2, 1) := by decide +kernel
theorem dX12_best_11 : decode cX12_best 11 = .ok (.invokevirtual 62, 3) := by decide +kernel
theorem dX12_best_14 : decode cX12_best 14 = .ok (.aload_n 0, 1) := by decide +kernel
theorem dX12_best_15 : decode cX12_best 15 = .ok (.getfield 66, 3) := by decide +kernel
theorem dX12_best_18 : decode cX12_best 18 = .ok (.ireturn, 1) := by decide +kernel
theorem dX12_tries_0 : decode cX12_tries 0 = .ok (.iload_n 1, 1) := by decide +kernel
theorem dX12_tries_1 : decode cX12_tries 1 = .ok (.aload_n 0, 1) := by decide +kernel
theorem dX12_tries_2 : decode cX12_tries 2 = .ok (.getfield 46, 3) := by decide +kernel
theorem dX12_tries_5 : decode cX12_tries 5 = .ok (.if_icmp .ne 82, 3) := by decide +kernel
theorem dX12_tries_8 : decode cX12_tries 8 = .ok (.aload_n 0, 1) := by decide +kernel
theorem dX12_tries_9 : decode cX12_tries 9 = .ok (.iload_n 2, 1) := by decide +kernel
theorem dX12_tries_10 : decode cX12_tries 10 = .ok (.aload 5, 2) := by decide +kernel
theorem dX12_tries_12 : decode cX12_tries 12 = .ok (.invokevirtual 69, 3) := by decide +kernel
theorem dX12_tries_15 : decode cX12_tries 15 = .ok (.istore 6, 2) := by decide +kernel
theorem dX12_tries_17 : decode cX12_tries 17 = .ok (.aload_n 0, 1) := by decide +kernel
theorem dX12_tries_18 : decode cX12_tries 18 = .ok (.iload_n 2, 1) := by decide +kernel
theorem dX12_tries_19 : decode cX12_tries 19 = .ok (.invokevirtual 72, 3) := by decide +kernel
theorem dX12_tries_22 : decode cX12_tries 22 = .ok (.istore 7, 2) := by decide +kernel
theorem dX12_tries_24 : decode cX12_tries 24 = .ok (.iload 6, 2) := by decide +kernel
theorem dX12_tries_26 : decode cX12_tries 26 = .ok (.aload_n 0, 1) := by decide +kernel
theorem dX12_tries_27 : decode cX12_tries 27 = .ok (.getfield 59, 3) := by decide +kernel
theorem dX12_tries_30 : decode cX12_tries 30 = .ok (.if_icmp .lt 38, 3) := by decide +kernel
theorem dX12_tries_33 : decode cX12_tries 33 = .ok (.iload 6, 2) := by decide +kernel
theorem dX12_tries_35 : decode cX12_tries 35 = .ok (.aload_n 0, 1) := by decide +kernel
theorem dX12_tries_36 : decode cX12_tries 36 = .ok (.getfield 59, 3) := by decide +kernel
theorem dX12_tries_39 : decode cX12_tries 39 = .ok (.if_icmp .ne 30, 3) := by decide +kernel
theorem dX12_tries_42 : decode cX12_tries 42 = .ok (.iload 7, 2) := by decide +kernel
theorem dX12_tries_44 : decode cX12_tries 44 = .ok (.aload_n 0, 1) := by decide +kernel
theorem dX12_tries_45 : decode cX12_tries 45 = .ok (.getfield 74, 3) := by decide +kernel
theorem dX12_tries_48 : decode cX12_tries 48 = .ok (.if_icmp .gt 20, 3) := by decide +kernel
theorem dX12_tries_51 : decode cX12_tries 51 = .ok (.iload 7, 2) := by decide +kernel
theorem dX12_tries_53 : decode cX12_tries 53 = .ok (.aload_n 0, 1) := by decide +kernel
theorem dX12_tries_54 : decode cX12_tries 54 = .ok (.getfield 74, 3) := by decide +kernel
theorem dX12_tries_57 : decode cX12_tries 57 = .ok (.if_icmp .ne 12, 3) := by decide +kernel
theorem dX12_tries_60 : decode cX12_tries 60 = .ok (.iload_n 2, 1) := by decide +kernel
theorem dX12_tries_61 : decode cX12_tries 61 = .ok (.aload_n 0, 1) := by decide +kernel
theorem dX12_tries_62 : decode cX12_tries 62 = .ok (.getfield 66, 3) := by decide +kernel
theorem dX12_tries_65 : decode cX12_tries 65 = .ok (.if_icmp .lt 4, 3) := by decide +kernel
theorem dX12_tries_68 : decode cX12_tries 68 = .ok (.return_, 1) := by decide +kernel
theorem dX12_tries_69 : decode cX12_tries 69 = .ok (.aload_n 0, 1) := by decide +kernel
theorem dX12_tries_70 : decode cX12_tries 70 = .ok (.iload_n 2, 1) := by decide +kernel
theorem dX12_tries_71 : decode cX12_tries 71 = .ok (.putfield 66, 3) := by decide +kernel
theorem dX12_tries_74 : decode cX12_tries 74 = .ok (.aload_n 0, 1) := by decide +kernel
theorem dX12_tries_75 : decode cX12_tries 75 = .ok (.iload 6, 2) := by decide +kernel
theorem dX12_tries_77 : decode cX12_tries 77 = .ok (.putfield 59, 3) := by decide +kernel
theorem dX12_tries_80 : decode cX12_tries 80 = .ok (.aload_n 0, 1) := by decide +kernel
theorem dX12_tries_81 : decode cX12_tries 81 = .ok (.iload 7, 2) := by decide +kernel
theorem dX12_tries_83 : decode cX12_tries 83 = .ok (.putfield 74, 3) := by decide +kernel
theorem dX12_tries_86 : decode cX12_tries 86 = .ok (.return_, 1) := by decide +kernel
theorem dX12_tries_87 : decode cX12_tries 87 = .ok (.aload_n 0, 1) := by decide +kernel
theorem dX12_tries_88 : decode cX12_tries 88 = .ok (.iload_n 1, 1) := by decide +kernel
theorem dX12_tries_89 : decode cX12_tries 89 = .ok (.iconst 1, 1) := by decide +kernel
theorem dX12_tries_90 : decode cX12_tries 90 = .ok (.iadd, 1) := by decide +kernel
theorem dX12_tries_91 : decode cX12_tries 91 = .ok (.iload_n 2, 1) := by decide +kernel
theorem dX12_tries_92 : decode cX12_tries 92 = .ok (.iload_n 3, 1) := by decide +kernel
theorem dX12_tries_93 : decode cX12_tries 93 = .ok (.iload 4, 2) := by decide +kernel
theorem dX12_tries_95 : decode cX12_tries 95 = .ok (.aload 5, 2) := by decide +kernel
theorem dX12_tries_97 : decode cX12_tries 97 = .ok (.invokevirtual 62, 3) := by decide +kernel
theorem dX12_tries_100 : decode cX12_tries 100 = .ok (.iconst 1, 1) := by decide +kernel
theorem dX12_tries_101 : decode cX12_tries 101 = .ok (.aload_n 0, 1) := by decide +kernel
theorem dX12_tries_102 : decode cX12_tries 102 = .ok (.getfield 9, 3) := by decide +kernel
theorem dX12_tries_105 : decode cX12_tries 105 = .ok (.iload_n 1, 1) := by decide +kernel
theorem dX12_tries_106 : decode cX12_tries 106 = .ok (.aaload, 1) := by decide +kernel
theorem dX12_tries_107 : decode cX12_tries 107 = .ok (.getfield 30, 3) := by decide +kernel
theorem dX12_tries_110 : decode cX12_tries 110 = .ok (.ishl, 1) := by decide +kernel
theorem dX12_tries_111 : decode cX12_tries 111 = .ok (.iconst 1, 1) := by decide +kernel
theorem dX12_tries_112 : decode cX12_tries 112 = .ok (.aload_n 0, 1) := by decide +kernel
theorem dX12_tries_113 : decode cX12_tries 113 = .ok (.getfield 9, 3) := by decide +kernel
theorem dX12_tries_116 : decode cX12_tries 116 = .ok (.iload_n 1, 1) := by decide +kernel
theorem dX12_tries_117 : decode cX12_tries 117 = .ok (.aaload, 1) := by decide +kernel
theorem dX12_tries_118 : decode cX12_tries 118 = .ok (.getfield 34, 3) := by decide +kernel
theorem dX12_tries_121 : decode cX12_tries 121 = .ok (.ishl, 1) := by decide +kernel
theorem dX12_tries_122 : decode cX12_tries 122 = .ok (.ior, 1) := by decide +kernel
theorem dX12_tries_123 : decode cX12_tries 123 = .ok (.istore 6, 2) := by decide +kernel
theorem dX12_tries_125 : decode cX12_tries 125 = .ok (.iload_n 3, 1) := by decide +kernel
theorem dX12_tries_126 : decode cX12_tries 126 = .ok (.iload 6, 2) := by decide +kernel
theorem dX12_tries_128 : decode cX12_tries 128 = .ok (.iand, 1) := by decide +kernel
theorem dX12_tries_129 : decode cX12_tries 129 = .ok (.ifCond .ne 33, 3) := by decide +kernel
theorem dX12_tries_132 : decode cX12_tries 132 = .ok (.aload_n 0, 1) := by decide +kernel
theorem dX12_tries_133 : decode cX12_tries 133 = .ok (.iload_n 1, 1) := by decide +kernel
theorem dX12_tries_134 : decode cX12_tries 134 = .ok (.iload 4, 2) := by decide +kernel
theorem dX12_tries_136 : decode cX12_tries 136 = .ok (.invokevirtual 77, 3) := by decide +kernel
theorem dX12_tries_139 : decode cX12_tries 139 = .ok (.ifCond .eq 23, 3) := by decide +kernel
theorem dX12_tries_142 : decode cX12_tries 142 = .ok (.aload_n 0, 1) := by decide +kernel
theorem dX12_tries_143 : decode cX12_tries 143 = .ok (.iload_n 1, 1) := by decide +kernel
theorem dX12_tries_144 : decode cX12_tries 144 = .ok (.iconst 1, 1) := by decide +kernel
theorem dX12_tries_145 : decode cX12_tries 145 = .ok (.iadd, 1) := by decide +kernel
theorem dX12_tries_146 : decode cX12_tries 146 = .ok (.iload_n 2, 1) := by decide +kernel
theorem dX12_tries_147 : decode cX12_tries 147 = .ok (.iconst 1, 1) := by decide +kernel
theorem dX12_tries_148 : decode cX12_tries 148 = .ok (.iload_n 1, 1) := by decide +kernel
theorem dX12_tries_149 : decode cX12_tries 149 = .ok (.ishl, 1) := by decide +kernel
theorem dX12_tries_150 : decode cX12_tries 150 = .ok (.ior, 1) := by decide +kernel
theorem dX12_tries_151 : decode cX12_tries 151 = .ok (.iload_n 3, 1) := by decide +kernel
theorem dX12_tries_152 : decode cX12_tries 152 = .ok (.iload 6, 2) := by decide +kernel
theorem dX12_tries_154 : decode cX12_tries 154 = .ok (.ior, 1) := by decide +kernel
theorem dX12_tries_155 : decode cX12_tries 155 = .ok (.iload 4, 2) := by decide +kernel
theorem dX12_tries_157 : decode cX12_tries 157 = .ok (.aload 5, 2) := by decide +kernel
theorem dX12_tries_159 : decode cX12_tries 159 = .ok (.invokevirtual 62, 3) := by decide +kernel
theorem dX12_tries_162 : decode cX12_tries 162 = .ok (.return_, 1) := by decide +kernel
theorem dX12_after_0 : decode cX12_after 0 = .ok (.aload_n 2, 1) := by decide +kernel
theorem dX12_after_1 : decode cX12_after 1 = .ok (.invokevirtual 81, 3) := by decide +kernel
theorem dX12_after_4 : decode cX12_after 4 = .ok (.checkcast 82, 3) := by decide +kernel
theorem dX12_after_7 : decode cX12_after 7 = .ok (.astore_n 3, 1) := by decide +kernel
theorem dX12_after_8 : decode cX12_after 8 = .ok (.iconst 0, 1) := by decide +kernel
theorem dX12_after_9 : decode cX12_after 9 = .ok (.istore 4, 2) := by decide +kernel
theorem dX12_after_11 : decode cX12_after 11 = .ok (.iload 4, 2) := by decide +kernel
theorem dX12_after_13 : decode cX12_after 13 = .ok (.aload_n 0, 1) := by decide +kernel
theorem dX12_after_14 : decode cX12_after 14 = .ok (.getfield 46, 3) := by decide +kernel
theorem dX12_after_17 : decode cX12_after 17 = .ok (.if_icmp .ge 88, 3) := by decide +kernel
theorem dX12_after_20 : decode cX12_after 20 = .ok (.iload_n 1, 1) := by decide +kernel
theorem dX12_after_21 : decode cX12_after 21 = .ok (.iload 4, 2) := by decide +kernel
theorem dX12_after_23 : decode cX12_after 23 = .ok (.ishr, 1) := by decide +kernel
theorem dX12_after_24 : decode cX12_after 24 = .ok (.iconst 1, 1) := by decide +kernel
theorem dX12_after_25 : decode cX12_after 25 = .ok (.iand, 1) := by decide +kernel
theorem dX12_after_26 : decode cX12_after 26 = .ok (.ifCond .ne 6, 3) := by decide +kernel
theorem dX12_after_29 : decode cX12_after 29 = .ok (.goto 70, 3) := by decide +kernel
theorem dX12_after_32 : decode cX12_after 32 = .ok (.aload_n 3, 1) := by decide +kernel
theorem dX12_after_33 : decode cX12_after 33 = .ok (.aload_n 0, 1) := by decide +kernel
theorem dX12_after_34 : decode cX12_after 34 = .ok (.getfield 9, 3) := by decide +kernel
theorem dX12_after_37 : decode cX12_after 37 = .ok (.iload 4, 2) := by decide +kernel
theorem dX12_after_39 : decode cX12_after 39 = .ok (.aaload, 1) := by decide +kernel
theorem dX12_after_40 : decode cX12_after 40 = .ok (.getfield 34, 3) := by decide +kernel
theorem dX12_after_43 : decode cX12_after 43 = .ok (.dup2, 1) := by decide +kernel
theorem dX12_after_44 : decode cX12_after 44 = .ok (.iaload, 1) := by decide +kernel
theorem dX12_after_45 : decode cX12_after 45 = .ok (.aload_n 2, 1) := by decide +kernel
theorem dX12_after_46 : decode cX12_after 46 = .ok (.aload_n 0, 1) := by decide +kernel
theorem dX12_after_47 : decode cX12_after 47 = .ok (.getfield 9, 3) := by decide +kernel
theorem dX12_after_50 : decode cX12_after 50 = .ok (.iload 4, 2) := by decide +kernel
theorem dX12_after_52 : decode cX12_after 52 = .ok (.aaload, 1) := by decide +kernel
theorem dX12_after_53 : decode cX12_after 53 = .ok (.getfield 30, 3) := by decide +kernel
theorem dX12_after_56 : decode cX12_after 56 = .ok (.iaload, 1) := by decide +kernel
theorem dX12_after_57 : decode cX12_after 57 = .ok (.ior, 1) := by decide +kernel
theorem dX12_after_58 : decode cX12_after 58 = .ok (.iastore, 1) := by decide +kernel
theorem dX12_after_59 : decode cX12_after 59 = .ok (.aload_n 0, 1) := by decide +kernel
theorem dX12_after_60 : decode cX12_after 60 = .ok (.getfield 9, 3) := by decide +kernel
theorem dX12_after_63 : decode cX12_after 63 = .ok (.iload 4, 2) := by decide +kernel
theorem dX12_after_65 : decode cX12_after 65 = .ok (.aaload, 1) := by decide +kernel
theorem dX12_after_66 : decode cX12_after 66 = .ok (.getfield 43, 3) := by decide +kernel
theorem dX12_after_69 : decode cX12_after 69 = .ok (.ifCond .ne 30, 3) := by decide +kernel
theorem dX12_after_72 : decode cX12_after 72 = .ok (.aload_n 3, 1) := by decide +kernel
theorem dX12_after_73 : decode cX12_after 73 = .ok (.aload_n 0, 1) := by decide +kernel
theorem dX12_after_74 : decode cX12_after 74 = .ok (.getfield 9, 3) := by decide +kernel
theorem dX12_after_77 : decode cX12_after 77 = .ok (.iload 4, 2) := by decide +kernel
theorem dX12_after_79 : decode cX12_after 79 = .ok (.aaload, 1) := by decide +kernel
theorem dX12_after_80 : decode cX12_after 80 = .ok (.getfield 30, 3) := by decide +kernel
theorem dX12_after_83 : decode cX12_after 83 = .ok (.dup2, 1) := by decide +kernel
theorem dX12_after_84 : decode cX12_after 84 = .ok (.iaload, 1) := by decide +kernel
theorem dX12_after_85 : decode cX12_after 85 = .ok (.aload_n 2, 1) := by decide +kernel
theorem dX12_after_86 : decode cX12_after 86 = .ok (.aload_n 0, 1) := by decide +kernel
theorem dX12_after_87 : decode cX12_after 87 = .ok (.getfield 9, 3) := by decide +kernel
theorem dX12_after_90 : decode cX12_after 90 = .ok (.iload 4, 2) := by decide +kernel
theorem dX12_after_92 : decode cX12_after 92 = .ok (.aaload, 1) := by decide +kernel
theorem dX12_after_93 : decode cX12_after 93 = .ok (.getfield 34, 3) := by decide +kernel
theorem dX12_after_96 : decode cX12_after 96 = .ok (.iaload, 1) := by decide +kernel
theorem dX12_after_97 : decode cX12_after 97 = .ok (.ior, 1) := by decide +kernel
theorem dX12_after_98 : decode cX12_after 98 = .ok (.iastore, 1) := by decide +kernel
theorem dX12_after_99 : decode cX12_after 99 = .ok (.iinc 4 1, 3) := by decide +kernel
theorem dX12_after_102 : decode cX12_after 102 = .ok (.goto (-91), 3) := by decide +kernel
theorem dX12_after_105 : decode cX12_after 105 = .ok (.aload_n 3, 1) := by decide +kernel
theorem dX12_after_106 : decode cX12_after 106 = .ok (.areturn, 1) := by decide +kernel
theorem dX12_missing_0 : decode cX12_missing 0 = .ok (.iconst 0, 1) := by decide +kernel
theorem dX12_missing_1 : decode cX12_missing 1 = .ok (.istore_n 2, 1) := by decide +kernel
theorem dX12_missing_2 : decode cX12_missing 2 = .ok (.iconst 0, 1) := by decide +kernel
theorem dX12_missing_3 : decode cX12_missing 3 = .ok (.istore_n 3, 1) := by decide +kernel
theorem dX12_missing_4 : decode cX12_missing 4 = .ok (.iload_n 3, 1) := by decide +kernel
theorem dX12_missing_5 : decode cX12_missing 5 = .ok (.aload_n 0, 1) := by decide +kernel
theorem dX12_missing_6 : decode cX12_missing 6 = .ok (.getfield 86, 3) := by decide +kernel
theorem dX12_missing_9 : decode cX12_missing 9 = .ok (.if_icmp .ge 23, 3) := by decide +kernel
theorem dX12_missing_12 : decode cX12_missing 12 = .ok (.iload_n 2, 1) := by decide +kernel
theorem dX12_missing_13 : decode cX12_missing 13 = .ok (.aload_n 0, 1) := by decide +kernel
theorem dX12_missing_14 : decode cX12_missing 14 = .ok (.getfield 86, 3) := by decide +kernel
theorem dX12_missing_17 : decode cX12_missing 17 = .ok (.aload_n 1, 1) := by decide +kernel
theorem dX12_missing_18 : decode cX12_missing 18 = .ok (.iload_n 3, 1) := by decide +kernel
theorem dX12_missing_19 : decode cX12_missing 19 = .ok (.iaload, 1) := by decide +kernel
theorem dX12_missing_20 : decode cX12_missing 20 = .ok (.invokestatic 37, 3) := by decide +kernel
theorem dX12_missing_23 : decode cX12_missing 23 = .ok (.isub, 1) := by decide +kernel
theorem dX12_missing_24 : decode cX12_missing 24 = .ok (.iadd, 1) := by decide +kernel
theorem dX12_missing_25 : decode cX12_missing 25 = .ok (.istore_n 2, 1) := by decide +kernel
theorem dX12_missing_26 : decode cX12_missing 26 = .ok (.iinc 3 1, 3) := by decide +kernel
theorem dX12_missing_29 : decode cX12_missing 29 = .ok (.goto (-25), 3) := by decide +kernel
theorem dX12_missing_32 : decode cX12_missing 32 = .ok (.iload_n 2, 1) := by decide +kernel
theorem dX12_missing_33 : decode cX12_missing 33 = .ok (.ireturn, 1) := by decide +kernel
theorem dX12_plan_0 : decode cX12_plan 0 = .ok (.aload_n 0, 1) := by decide +kernel
theorem dX12_plan_1 : decode cX12_plan 1 = .ok (.getfield 89, 3) := by decide +kernel
theorem dX12_plan_4 : decode cX12_plan 4 = .ok (.astore_n 1, 1) := by decide +kernel
theorem dX12_plan_5 : decode cX12_plan 5 = .ok (.iconst 0, 1) := by decide +kernel
theorem dX12_plan_6 : decode cX12_plan 6 = .ok (.istore_n 2, 1) := by decide +kernel
theorem dX12_plan_7 : decode cX12_plan 7 = .ok (.iconst 0, 1) := by decide +kernel
theorem dX12_plan_8 : decode cX12_plan 8 = .ok (.istore_n 3, 1) := by decide +kernel
theorem dX12_plan_9 : decode cX12_plan 9 = .ok (.iconst 0, 1) := by decide +kernel
theorem dX12_plan_10 : decode cX12_plan 10 = .ok (.istore 4, 2) := by decide +kernel
theorem dX12_plan_12 : decode cX12_plan 12 = .ok (.iload_n 2, 1) := by decide +kernel
theorem dX12_plan_13 : decode cX12_plan 13 = .ok (.bipush 40, 2) := by decide +kernel
theorem dX12_plan_15 : decode cX12_plan 15 = .ok (.if_icmp .ge 59, 3) := by decide +kernel
theorem dX12_plan_18 : decode cX12_plan 18 = .ok (.aload_n 0, 1) := by decide +kernel
theorem dX12_plan_19 : decode cX12_plan 19 = .ok (.aload_n 1, 1) := by decide +kernel
theorem dX12_plan_20 : decode cX12_plan 20 = .ok (.invokevirtual 92, 3) := by decide +kernel
theorem dX12_plan_23 : decode cX12_plan 23 = .ok (.ifCond .le 51, 3) := by decide +kernel
theorem dX12_plan_26 : decode cX12_plan 26 = .ok (.aload_n 0, 1) := by decide +kernel
theorem dX12_plan_27 : decode cX12_plan 27 = .ok (.aload_n 0, 1) := by decide +kernel
theorem dX12_plan_28 : decode cX12_plan 28 = .ok (.getfield 96, 3) := by decide +kernel
theorem dX12_plan_31 : decode cX12_plan 31 = .ok (.iload_n 2, 1) := by decide +kernel
theorem dX12_plan_32 : decode cX12_plan 32 = .ok (.iadd, 1) := by decide +kernel
theorem dX12_plan_33 : decode cX12_plan 33 = .ok (.iconst 1, 1) := by decide +kernel
theorem dX12_plan_34 : decode cX12_plan 34 = .ok (.iadd, 1) := by decide +kernel
theorem dX12_plan_35 : decode cX12_plan 35 = .ok (.aload_n 1, 1) := by decide +kernel
theorem dX12_plan_36 : decode cX12_plan 36 = .ok (.invokevirtual 99, 3) := by decide +kernel
theorem dX12_plan_39 : decode cX12_plan 39 = .ok (.istore 5, 2) := by decide +kernel
theorem dX12_plan_41 : decode cX12_plan 41 = .ok (.iinc 2 1, 3) := by decide +kernel
theorem dX12_plan_44 : decode cX12_plan 44 = .ok (.iload_n 3, 1) := by decide +kernel
theorem dX12_plan_45 : decode cX12_plan 45 = .ok (.iload 5, 2) := by decide +kernel
theorem dX12_plan_47 : decode cX12_plan 47 = .ok (.invokestatic 37, 3) := by decide +kernel
theorem dX12_plan_50 : decode cX12_plan 50 = .ok (.iadd, 1) := by decide +kernel
theorem dX12_plan_51 : decode cX12_plan 51 = .ok (.istore_n 3, 1) := by decide +kernel
theorem dX12_plan_52 : decode cX12_plan 52 = .ok (.iload 4, 2) := by decide +kernel
theorem dX12_plan_54 : decode cX12_plan 54 = .ok (.aload_n 0, 1) := by decide +kernel
theorem dX12_plan_55 : decode cX12_plan 55 = .ok (.iload 5, 2) := by decide +kernel
theorem dX12_plan_57 : decode cX12_plan 57 = .ok (.invokevirtual 72, 3) := by decide +kernel
theorem dX12_plan_60 : decode cX12_plan 60 = .ok (.iadd, 1) := by decide +kernel
theorem dX12_plan_61 : decode cX12_plan 61 = .ok (.istore 4, 2) := by decide +kernel
theorem dX12_plan_63 : decode cX12_plan 63 = .ok (.aload_n 0, 1) := by decide +kernel
theorem dX12_plan_64 : decode cX12_plan 64 = .ok (.iload 5, 2) := by decide +kernel
theorem dX12_plan_66 : decode cX12_plan 66 = .ok (.aload_n 1, 1) := by decide +kernel
theorem dX12_plan_67 : decode cX12_plan 67 = .ok (.invokevirtual 102, 3) := by decide +kernel
theorem dX12_plan_70 : decode cX12_plan 70 = .ok (.astore_n 1, 1) := by decide +kernel
theorem dX12_plan_71 : decode cX12_plan 71 = .ok (.goto (-59), 3) := by decide +kernel
theorem dX12_plan_74 : decode cX12_plan 74 = .ok (.iconst 4, 1) := by decide +kernel
theorem dX12_plan_75 : decode cX12_plan 75 = .ok (.newarray .int, 2) := by decide +kernel
theorem dX12_plan_77 : decode cX12_plan 77 = .ok (.dup, 1) := by decide +kernel
theorem dX12_plan_78 : decode cX12_plan 78 = .ok (.iconst 0, 1) := by decide +kernel
theorem dX12_plan_79 : decode cX12_plan 79 = .ok (.aload_n 0, 1) := by decide +kernel
theorem dX12_plan_80 : decode cX12_plan 80 = .ok (.aload_n 1, 1) := by decide +kernel
theorem dX12_plan_81 : decode cX12_plan 81 = .ok (.invokevirtual 92, 3) := by decide +kernel
theorem dX12_plan_84 : decode cX12_plan 84 = .ok (.ifCond .le 7, 3) := by decide +kernel
theorem dX12_plan_87 : decode cX12_plan 87 = .ok (.iconst (-1), 1) := by decide +kernel
theorem dX12_plan_88 : decode cX12_plan 88 = .ok (.goto 4, 3) := by decide +kernel
theorem dX12_plan_91 : decode cX12_plan 91 = .ok (.iload_n 2, 1) := by decide +kernel
theorem dX12_plan_92 : decode cX12_plan 92 = .ok (.iastore, 1) := by decide +kernel
theorem dX12_plan_93 : decode cX12_plan 93 = .ok (.dup, 1) := by decide +kernel
theorem dX12_plan_94 : decode cX12_plan 94 = .ok (.iconst 1, 1) := by decide +kernel
theorem dX12_plan_95 : decode cX12_plan 95 = .ok (.iload_n 3, 1) := by decide +kernel
theorem dX12_plan_96 : decode cX12_plan 96 = .ok (.iastore, 1) := by decide +kernel
theorem dX12_plan_97 : decode cX12_plan 97 = .ok (.dup, 1) := by decide +kernel
theorem dX12_plan_98 : decode cX12_plan 98 = .ok (.iconst 2, 1) := by decide +kernel
theorem dX12_plan_99 : decode cX12_plan 99 = .ok (.iload 4, 2) := by decide +kernel
theorem dX12_plan_101 : decode cX12_plan 101 = .ok (.iastore, 1) := by decide +kernel
theorem dX12_plan_102 : decode cX12_plan 102 = .ok (.dup, 1) := by decide +kernel
theorem dX12_plan_103 : decode cX12_plan 103 = .ok (.iconst 3, 1) := by decide +kernel
theorem dX12_plan_104 : decode cX12_plan 104 = .ok (.aload_n 0, 1) := by decide +kernel
theorem dX12_plan_105 : decode cX12_plan 105 = .ok (.aload_n 1, 1) := by decide +kernel
theorem dX12_plan_106 : decode cX12_plan 106 = .ok (.invokevirtual 92, 3) := by decide +kernel
theorem dX12_plan_109 : decode cX12_plan 109 = .ok (.iastore, 1) := by decide +kernel
theorem dX12_plan_110 : decode cX12_plan 110 = .ok (.areturn, 1) := by decide +kernel
theorem dX12_soonest_0 : decode cX12_soonest 0 = .ok (.aload_n 0, 1) := by decide +kernel
theorem dX12_soonest_1 : decode cX12_soonest 1 = .ok (.getfield 89, 3) := by decide +kernel
theorem dX12_soonest_4 : decode cX12_soonest 4 = .ok (.astore_n 3, 1) := by decide +kernel
theorem dX12_soonest_5 : decode cX12_soonest 5 = .ok (.iconst 0, 1) := by decide +kernel
theorem dX12_soonest_6 : decode cX12_soonest 6 = .ok (.istore 4, 2) := by decide +kernel
theorem dX12_soonest_8 : decode cX12_soonest 8 = .ok (.iload 4, 2) := by decide +kernel
theorem dX12_soonest_10 : decode cX12_soonest 10 = .ok (.bipush 60, 2) := by decide +kernel
theorem dX12_soonest_12 : decode cX12_soonest 12 = .ok (.if_icmp .gt 79, 3) := by decide +kernel
theorem dX12_soonest_15 : decode cX12_soonest 15 = .ok (.aload_n 3, 1) := by decide +kernel
theorem dX12_soonest_16 : decode cX12_soonest 16 = .ok (.iload_n 1, 1) := by decide +kernel
theorem dX12_soonest_17 : decode cX12_soonest 17 = .ok (.iaload, 1) := by decide +kernel
theorem dX12_soonest_18 : decode cX12_soonest 18 = .ok (.iload_n 2, 1) := by decide +kernel
theorem dX12_soonest_19 : decode cX12_soonest 19 = .ok (.ishr, 1) := by decide +kernel
theorem dX12_soonest_20 : decode cX12_soonest 20 = .ok (.iconst 1, 1) := by decide +kernel
theorem dX12_soonest_21 : decode cX12_soonest 21 = .ok (.iand, 1) := by decide +kernel
theorem dX12_soonest_22 : decode cX12_soonest 22 = .ok (.iconst 1, 1) := by decide +kernel
theorem dX12_soonest_23 : decode cX12_soonest 23 = .ok (.if_icmp .ne 6, 3) := by decide +kernel
theorem dX12_soonest_26 : decode cX12_soonest 26 = .ok (.iload 4, 2) := by decide +kernel
theorem dX12_soonest_28 : decode cX12_soonest 28 = .ok (.ireturn, 1) := by decide +kernel
theorem dX12_soonest_29 : decode cX12_soonest 29 = .ok (.iconst 0, 1) := by decide +kernel
theorem dX12_soonest_30 : decode cX12_soonest 30 = .ok (.istore 5, 2) := by decide +kernel
theorem dX12_soonest_32 : decode cX12_soonest 32 = .ok (.iconst 0, 1) := by decide +kernel
theorem dX12_soonest_33 : decode cX12_soonest 33 = .ok (.istore 6, 2) := by decide +kernel
theorem dX12_soonest_35 : decode cX12_soonest 35 = .ok (.iload 6, 2) := by decide +kernel
theorem dX12_soonest_37 : decode cX12_soonest 37 = .ok (.aload_n 0, 1) := by decide +kernel
theorem dX12_soonest_38 : decode cX12_soonest 38 = .ok (.getfield 46, 3) := by decide +kernel
theorem dX12_soonest_41 : decode cX12_soonest 41 = .ok (.if_icmp .ge 36, 3) := by decide +kernel
theorem dX12_soonest_44 : decode cX12_soonest 44 = .ok (.aload_n 0, 1) := by decide +kernel
theorem dX12_soonest_45 : decode cX12_soonest 45 = .ok (.iload 6, 2) := by decide +kernel
theorem dX12_soonest_47 : decode cX12_soonest 47 = .ok (.aload_n 0, 1) := by decide +kernel
theorem dX12_soonest_48 : decode cX12_soonest 48 = .ok (.getfield 96, 3) := by decide +kernel
theorem dX12_soonest_51 : decode cX12_soonest 51 = .ok (.iload 4, 2) := by decide +kernel
theorem dX12_soonest_53 : decode cX12_soonest 53 = .ok (.iadd, 1) := by decide +kernel
theorem dX12_soonest_54 : decode cX12_soonest 54 = .ok (.iconst 1, 1) := by decide +kernel
theorem dX12_soonest_55 : decode cX12_soonest 55 = .ok (.iadd, 1) := by decide +kernel
theorem dX12_soonest_56 : decode cX12_soonest 56 = .ok (.invokevirtual 77, 3) := by decide +kernel
theorem dX12_soonest_59 : decode cX12_soonest 59 = .ok (.ifCond .eq 12, 3) := by decide +kernel
theorem dX12_soonest_62 : decode cX12_soonest 62 = .ok (.iload 5, 2) := by decide +kernel
theorem dX12_soonest_64 : decode cX12_soonest 64 = .ok (.iconst 1, 1) := by decide +kernel
theorem dX12_soonest_65 : decode cX12_soonest 65 = .ok (.iload 6, 2) := by decide +kernel
theorem dX12_soonest_67 : decode cX12_soonest 67 = .ok (.ishl, 1) := by decide +kernel
theorem dX12_soonest_68 : decode cX12_soonest 68 = .ok (.ior, 1) := by decide +kernel
theorem dX12_soonest_69 : decode cX12_soonest 69 = .ok (.istore 5, 2) := by decide +kernel
theorem dX12_soonest_71 : decode cX12_soonest 71 = .ok (.iinc 6 1, 3) := by decide +kernel
theorem dX12_soonest_74 : decode cX12_soonest 74 = .ok (.goto (-39), 3) := by decide +kernel
theorem dX12_soonest_77 : decode cX12_soonest 77 = .ok (.aload_n 0, 1) := by decide +kernel
theorem dX12_soonest_78 : decode cX12_soonest 78 = .ok (.iload 5, 2) := by decide +kernel
theorem dX12_soonest_80 : decode cX12_soonest 80 = .ok (.aload_n 3, 1) := by decide +kernel
theorem dX12_soonest_81 : decode cX12_soonest 81 = .ok (.invokevirtual 102, 3) := by decide +kernel
theorem dX12_soonest_84 : decode cX12_soonest 84 = .ok (.astore_n 3, 1) := by decide +kernel
theorem dX12_soonest_85 : decode cX12_soonest 85 = .ok (.iinc 4 1, 3) := by decide +kernel
theorem dX12_soonest_88 : decode cX12_soonest 88 = .ok (.goto (-80), 3) := by decide +kernel
theorem dX12_soonest_91 : decode cX12_soonest 91 = .ok (.iconst (-1), 1) := by decide +kernel
theorem dX12_soonest_92 : decode cX12_soonest 92 = .ok (.ireturn, 1) := by decide +kernel
theorem dX12_prices_0 : decode cX12_prices 0 = .ok (.aload_n 0, 1) := by decide +kernel
theorem dX12_prices_1 : decode cX12_prices 1 = .ok (.getfield 86, 3) := by decide +kernel
theorem dX12_prices_4 : decode cX12_prices 4 = .ok (.newarray .int, 2) := by decide +kernel
theorem dX12_prices_6 : decode cX12_prices 6 = .ok (.astore_n 3, 1) := by decide +kernel
theorem dX12_prices_7 : decode cX12_prices 7 = .ok (.iconst 0, 1) := by decide +kernel
theorem dX12_prices_8 : decode cX12_prices 8 = .ok (.istore 4, 2) := by decide +kernel
theorem dX12_prices_10 : decode cX12_prices 10 = .ok (.iload 4, 2) := by decide +kernel
theorem dX12_prices_12 : decode cX12_prices 12 = .ok (.aload_n 0, 1) := by decide +kernel
theorem dX12_prices_13 : decode cX12_prices 13 = .ok (.getfield 86, 3) := by decide +kernel
theorem dX12_prices_16 : decode cX12_prices 16 = .ok (.if_icmp .ge 34, 3) := by decide +kernel
theorem dX12_prices_19 : decode cX12_prices 19 = .ok (.aload_n 3, 1) := by decide +kernel
theorem dX12_prices_20 : decode cX12_prices 20 = .ok (.iload 4, 2) := by decide +kernel
theorem dX12_prices_22 : decode cX12_prices 22 = .ok (.aload_n 0, 1) := by decide +kernel
theorem dX12_prices_23 : decode cX12_prices 23 = .ok (.getfield 89, 3) := by decide +kernel
theorem dX12_prices_26 : decode cX12_prices 26 = .ok (.iload 4, 2) := by decide +kernel
theorem dX12_prices_28 : decode cX12_prices 28 = .ok (.iaload, 1) := by decide +kernel
theorem dX12_prices_29 : decode cX12_prices 29 = .ok (.iload_n 1, 1) := by decide +kernel
theorem dX12_prices_30 : decode cX12_prices 30 = .ok (.ishr, 1) := by decide +kernel
theorem dX12_prices_31 : decode cX12_prices 31 = .ok (.iconst 1, 1) := by decide +kernel
theorem dX12_prices_32 : decode cX12_prices 32 = .ok (.iand, 1) := by decide +kernel
theorem dX12_prices_33 : decode cX12_prices 33 = .ok (.iconst 1, 1) := by decide +kernel
theorem dX12_prices_34 : decode cX12_prices 34 = .ok (.if_icmp .ne 7, 3) := by decide +kernel
theorem dX12_prices_37 : decode cX12_prices 37 = .ok (.iconst 0, 1) := by decide +kernel
theorem dX12_prices_38 : decode cX12_prices 38 = .ok (.goto 5, 3) := by decide +kernel
theorem dX12_prices_41 : decode cX12_prices 41 = .ok (.ldc 106, 2) := by decide +kernel
theorem dX12_prices_43 : decode cX12_prices 43 = .ok (.iastore, 1) := by decide +kernel
theorem dX12_prices_44 : decode cX12_prices 44 = .ok (.iinc 4 1, 3) := by decide +kernel
theorem dX12_prices_47 : decode cX12_prices 47 = .ok (.goto (-37), 3) := by decide +kernel
theorem dX12_prices_50 : decode cX12_prices 50 = .ok (.iconst 0, 1) := by decide +kernel
theorem dX12_prices_51 : decode cX12_prices 51 = .ok (.istore 4, 2) := by decide +kernel
theorem dX12_prices_53 : decode cX12_prices 53 = .ok (.iload 4, 2) := by decide +kernel
theorem dX12_prices_55 : decode cX12_prices 55 = .ok (.aload_n 0, 1) := by decide +kernel
theorem dX12_prices_56 : decode cX12_prices 56 = .ok (.getfield 86, 3) := by decide +kernel
theorem dX12_prices_59 : decode cX12_prices 59 = .ok (.if_icmp .ge 121, 3) := by decide +kernel
theorem dX12_prices_62 : decode cX12_prices 62 = .ok (.iconst 0, 1) := by decide +kernel
theorem dX12_prices_63 : decode cX12_prices 63 = .ok (.istore 5, 2) := by decide +kernel
theorem dX12_prices_65 : decode cX12_prices 65 = .ok (.iload 5, 2) := by decide +kernel
theorem dX12_prices_67 : decode cX12_prices 67 = .ok (.aload_n 0, 1) := by decide +kernel
theorem dX12_prices_68 : decode cX12_prices 68 = .ok (.getfield 46, 3) := by decide +kernel
theorem dX12_prices_71 : decode cX12_prices 71 = .ok (.if_icmp .ge 103, 3) := by decide +kernel
theorem dX12_prices_74 : decode cX12_prices 74 = .ok (.aload_n 0, 1) := by decide +kernel
theorem dX12_prices_75 : decode cX12_prices 75 = .ok (.getfield 9, 3) := by decide +kernel
theorem dX12_prices_78 : decode cX12_prices 78 = .ok (.iload 5, 2) := by decide +kernel
theorem dX12_prices_80 : decode cX12_prices 80 = .ok (.aaload, 1) := by decide +kernel
theorem dX12_prices_81 : decode cX12_prices 81 = .ok (.astore 6, 2) := by decide +kernel
theorem dX12_prices_83 : decode cX12_prices 83 = .ok (.aload 6, 2) := by decide +kernel
theorem dX12_prices_85 : decode cX12_prices 85 = .ok (.getfield 19, 3) := by decide +kernel
theorem dX12_prices_88 : decode cX12_prices 88 = .ok (.ifCond .ne 80, 3) := by decide +kernel
theorem dX12_prices_91 : decode cX12_prices 91 = .ok (.iload 5, 2) := by decide +kernel
theorem dX12_prices_93 : decode cX12_prices 93 = .ok (.iload_n 2, 1) := by decide +kernel
theorem dX12_prices_94 : decode cX12_prices 94 = .ok (.if_icmp .ne 6, 3) := by decide +kernel
theorem dX12_prices_97 : decode cX12_prices 97 = .ok (.goto 71, 3) := by decide +kernel
theorem dX12_prices_100 : decode cX12_prices 100 = .ok (.aload_n 3, 1) := by decide +kernel
theorem dX12_prices_101 : decode cX12_prices 101 = .ok (.aload 6, 2) := by decide +kernel
theorem dX12_prices_103 : decode cX12_prices 103 = .ok (.getfield 34, 3) := by decide +kernel
theorem dX12_prices_106 : decode cX12_prices 106 = .ok (.aload_n 3, 1) := by decide +kernel
theorem dX12_prices_107 : decode cX12_prices 107 = .ok (.aload 6, 2) := by decide +kernel
theorem dX12_prices_109 : decode cX12_prices 109 = .ok (.getfield 34, 3) := by decide +kernel
theorem dX12_prices_112 : decode cX12_prices 112 = .ok (.iaload, 1) := by decide +kernel
theorem dX12_prices_113 : decode cX12_prices 113 = .ok (.aload_n 3, 1) := by decide +kernel
theorem dX12_prices_114 : decode cX12_prices 114 = .ok (.aload 6, 2) := by decide +kernel
theorem dX12_prices_116 : decode cX12_prices 116 = .ok (.getfield 30, 3) := by decide +kernel
theorem dX12_prices_119 : decode cX12_prices 119 = .ok (.iaload, 1) := by decide +kernel
theorem dX12_prices_120 : decode cX12_prices 120 = .ok (.aload 6, 2) := by decide +kernel
theorem dX12_prices_122 : decode cX12_prices 122 = .ok (.getfield 53, 3) := by decide +kernel
theorem dX12_prices_125 : decode cX12_prices 125 = .ok (.iadd, 1) := by decide +kernel
theorem dX12_prices_126 : decode cX12_prices 126 = .ok (.invokestatic 107, 3) := by decide +kernel
theorem dX12_prices_129 : decode cX12_prices 129 = .ok (.iastore, 1) := by decide +kernel
theorem dX12_prices_130 : decode cX12_prices 130 = .ok (.aload 6, 2) := by decide +kernel
theorem dX12_prices_132 : decode cX12_prices 132 = .ok (.getfield 43, 3) := by decide +kernel
theorem dX12_prices_135 : decode cX12_prices 135 = .ok (.ifCond .ne 33, 3) := by decide +kernel
theorem dX12_prices_138 : decode cX12_prices 138 = .ok (.aload_n 3, 1) := by decide +kernel
theorem dX12_prices_139 : decode cX12_prices 139 = .ok (.aload 6, 2) := by decide +kernel
theorem dX12_prices_141 : decode cX12_prices 141 = .ok (.getfield 30, 3) := by decide +kernel
theorem dX12_prices_144 : decode cX12_prices 144 = .ok (.aload_n 3, 1) := by decide +kernel
theorem dX12_prices_145 : decode cX12_prices 145 = .ok (.aload 6, 2) := by decide +kernel
theorem dX12_prices_147 : decode cX12_prices 147 = .ok (.getfield 30, 3) := by decide +kernel
theorem dX12_prices_150 : decode cX12_prices 150 = .ok (.iaload, 1) := by decide +kernel
theorem dX12_prices_151 : decode cX12_prices 151 = .ok (.aload_n 3, 1) := by decide +kernel
theorem dX12_prices_152 : decode cX12_prices 152 = .ok (.aload 6, 2) := by decide +kernel
theorem dX12_prices_154 : decode cX12_prices 154 = .ok (.getfield 34, 3) := by decide +kernel
theorem dX12_prices_157 : decode cX12_prices 157 = .ok (.iaload, 1) := by decide +kernel
theorem dX12_prices_158 : decode cX12_prices 158 = .ok (.aload 6, 2) := by decide +kernel
theorem dX12_prices_160 : decode cX12_prices 160 = .ok (.getfield 53, 3) := by decide +kernel
theorem dX12_prices_163 : decode cX12_prices 163 = .ok (.iadd, 1) := by decide +kernel
theorem dX12_prices_164 : decode cX12_prices 164 = .ok (.invokestatic 107, 3) := by decide +kernel
theorem dX12_prices_167 : decode cX12_prices 167 = .ok (.iastore, 1) := by decide +kernel
theorem dX12_prices_168 : decode cX12_prices 168 = .ok (.iinc 5 1, 3) := by decide +kernel
theorem dX12_prices_171 : decode cX12_prices 171 = .ok (.goto (-106), 3) := by decide +kernel
theorem dX12_prices_174 : decode cX12_prices 174 = .ok (.iinc 4 1, 3) := by decide +kernel
theorem dX12_prices_177 : decode cX12_prices 177 = .ok (.goto (-124), 3) := by decide +kernel
theorem dX12_prices_180 : decode cX12_prices 180 = .ok (.aload_n 3, 1) := by decide +kernel
theorem dX12_prices_181 : decode cX12_prices 181 = .ok (.areturn, 1) := by decide +kernel
theorem dX12_vital_0 : decode cX12_vital 0 = .ok (.iconst 0, 1) := by decide +kernel
theorem dX12_vital_1 : decode cX12_vital 1 = .ok (.istore_n 1, 1) := by decide +kernel
theorem dX12_vital_2 : decode cX12_vital 2 = .ok (.iconst 0, 1) := by decide +kernel
theorem dX12_vital_3 : decode cX12_vital 3 = .ok (.istore_n 2, 1) := by decide +kernel
theorem dX12_vital_4 : decode cX12_vital 4 = .ok (.iload_n 2, 1) := by decide +kernel
theorem dX12_vital_5 : decode cX12_vital 5 = .ok (.aload_n 0, 1) := by decide +kernel
theorem dX12_vital_6 : decode cX12_vital 6 = .ok (.getfield 46, 3) := by decide +kernel
theorem dX12_vital_9 : decode cX12_vital 9 = .ok (.if_icmp .ge 100, 3) := by decide +kernel
theorem dX12_vital_12 : decode cX12_vital 12 = .ok (.aload_n 0, 1) := by decide +kernel
theorem dX12_vital_13 : decode cX12_vital 13 = .ok (.getfield 9, 3) := by decide +kernel
theorem dX12_vital_16 : decode cX12_vital 16 = .ok (.iload_n 2, 1) := by decide +kernel
theorem dX12_vital_17 : decode cX12_vital 17 = .ok (.aaload, 1) := by decide +kernel
theorem dX12_vital_18 : decode cX12_vital 18 = .ok (.getfield 19, 3) := by decide +kernel
theorem dX12_vital_21 : decode cX12_vital 21 = .ok (.ifCond .eq 6, 3) := by decide +kernel
theorem dX12_vital_24 : decode cX12_vital 24 = .ok (.goto 79, 3) := by decide +kernel
theorem dX12_vital_27 : decode cX12_vital 27 = .ok (.iconst 0, 1) := by decide +kernel
theorem dX12_vital_28 : decode cX12_vital 28 = .ok (.istore_n 3, 1) := by decide +kernel
theorem dX12_vital_29 : decode cX12_vital 29 = .ok (.iload_n 3, 1) := by decide +kernel
theorem dX12_vital_30 : decode cX12_vital 30 = .ok (.aload_n 0, 1) := by decide +kernel
theorem dX12_vital_31 : decode cX12_vital 31 = .ok (.getfield 86, 3) := by decide +kernel
theorem dX12_vital_34 : decode cX12_vital 34 = .ok (.if_icmp .ge 69, 3) := by decide +kernel
theorem dX12_vital_37 : decode cX12_vital 37 = .ok (.aload_n 0, 1) := by decide +kernel
theorem dX12_vital_38 : decode cX12_vital 38 = .ok (.iload_n 3, 1) := by decide +kernel
theorem dX12_vital_39 : decode cX12_vital 39 = .ok (.iconst (-1), 1) := by decide +kernel
theorem dX12_vital_40 : decode cX12_vital 40 = .ok (.invokevirtual 113, 3) := by decide +kernel
theorem dX12_vital_43 : decode cX12_vital 43 = .ok (.astore 4, 2) := by decide +kernel
theorem dX12_vital_45 : decode cX12_vital 45 = .ok (.aload_n 0, 1) := by decide +kernel
theorem dX12_vital_46 : decode cX12_vital 46 = .ok (.iload_n 3, 1) := by decide +kernel
theorem dX12_vital_47 : decode cX12_vital 47 = .ok (.iload_n 2, 1) := by decide +kernel
theorem dX12_vital_48 : decode cX12_vital 48 = .ok (.invokevirtual 113, 3) := by decide +kernel
theorem dX12_vital_51 : decode cX12_vital 51 = .ok (.astore 5, 2) := by decide +kernel
theorem dX12_vital_53 : decode cX12_vital 53 = .ok (.iconst 0, 1) := by decide +kernel
theorem dX12_vital_54 : decode cX12_vital 54 = .ok (.istore 6, 2) := by decide +kernel
theorem dX12_vital_56 : decode cX12_vital 56 = .ok (.iload 6, 2) := by decide +kernel
theorem dX12_vital_58 : decode cX12_vital 58 = .ok (.aload_n 0, 1) := by decide +kernel
theorem dX12_vital_59 : decode cX12_vital 59 = .ok (.getfield 86, 3) := by decide +kernel
theorem dX12_vital_62 : decode cX12_vital 62 = .ok (.if_icmp .ge 35, 3) := by decide +kernel
theorem dX12_vital_65 : decode cX12_vital 65 = .ok (.aload 4, 2) := by decide +kernel
theorem dX12_vital_67 : decode cX12_vital 67 = .ok (.iload 6, 2) := by decide +kernel
theorem dX12_vital_69 : decode cX12_vital 69 = .ok (.iaload, 1) := by decide +kernel
theorem dX12_vital_70 : decode cX12_vital 70 = .ok (.ldc 106, 2) := by decide +kernel
theorem dX12_vital_72 : decode cX12_vital 72 = .ok (.if_icmp .ge 19, 3) := by decide +kernel
theorem dX12_vital_75 : decode cX12_vital 75 = .ok (.aload 5, 2) := by decide +kernel
theorem dX12_vital_77 : decode cX12_vital 77 = .ok (.iload 6, 2) := by decide +kernel
theorem dX12_vital_79 : decode cX12_vital 79 = .ok (.iaload, 1) := by decide +kernel
theorem dX12_vital_80 : decode cX12_vital 80 = .ok (.ldc 106, 2) := by decide +kernel
theorem dX12_vital_82 : decode cX12_vital 82 = .ok (.if_icmp .lt 9, 3) := by decide +kernel
theorem dX12_vital_85 : decode cX12_vital 85 = .ok (.iload_n 1, 1) := by decide +kernel
theorem dX12_vital_86 : decode cX12_vital 86 = .ok (.iconst 1, 1) := by decide +kernel
theorem dX12_vital_87 : decode cX12_vital 87 = .ok (.iload_n 2, 1) := by decide +kernel
theorem dX12_vital_88 : decode cX12_vital 88 = .ok (.ishl, 1) := by decide +kernel
theorem dX12_vital_89 : decode cX12_vital 89 = .ok (.ior, 1) := by decide +kernel
theorem dX12_vital_90 : decode cX12_vital 90 = .ok (.istore_n 1, 1) := by decide +kernel
theorem dX12_vital_91 : decode cX12_vital 91 = .ok (.iinc 6 1, 3) := by decide +kernel
theorem dX12_vital_94 : decode cX12_vital 94 = .ok (.goto (-38), 3) := by decide +kernel
theorem dX12_vital_97 : decode cX12_vital 97 = .ok (.iinc 3 1, 3) := by decide +kernel
theorem dX12_vital_100 : decode cX12_vital 100 = .ok (.goto (-71), 3) := by decide +kernel
theorem dX12_vital_103 : decode cX12_vital 103 = .ok (.iinc 2 1, 3) := by decide +kernel
theorem dX12_vital_106 : decode cX12_vital 106 = .ok (.goto (-102), 3) := by decide +kernel
theorem dX12_vital_109 : decode cX12_vital 109 = .ok (.iload_n 1, 1) := by decide +kernel
theorem dX12_vital_110 : decode cX12_vital 110 = .ok (.ireturn, 1) := by decide +kernel
theorem dJ5_init_d00df_0 : decode cJ5_init_d00df 0 = .ok (.aload_n 0, 1) := by decide +kernel
theorem dJ5_init_d00df_1 : decode cJ5_init_d00df 1 = .ok (.invokespecial 3, 3) := by decide +kernel
theorem dJ5_init_d00df_4 : decode cJ5_init_d00df 4 = .ok (.getstatic 18, 3) := by decide +kernel
theorem dJ5_init_d00df_7 : decode cJ5_init_d00df 7 = .ok (.ifCond .eq 18, 3) := by decide +kernel
theorem dJ5_init_d00df_10 : decode cJ5_init_d00df 10 = .ok (.aload_n 0, 1) := by decide +kernel
theorem dJ5_init_d00df_11 : decode cJ5_init_d00df 11 = .ok (.iload_n 1, 1) := by decide +kernel
theorem dJ5_init_d00df_12 : decode cJ5_init_d00df 12 = .ok (.newarray .byte, 2) := by decide +kernel
theorem dJ5_init_d00df_14 : decode cJ5_init_d00df 14 = .ok (.putfield 15, 3) := by decide +kernel
theorem dJ5_init_d00df_17 : decode cJ5_init_d00df 17 = .ok (.aload_n 0, 1) := by decide +kernel
theorem dJ5_init_d00df_18 : decode cJ5_init_d00df 18 = .ok (.iconst 0, 1) := by decide +kernel
theorem dJ5_init_d00df_19 : decode cJ5_init_d00df 19 = .ok (.putfield 22, 3) := by decide +kernel
theorem dJ5_init_d00df_22 : decode cJ5_init_d00df 22 = .ok (.goto 16, 3) := by decide +kernel
theorem dJ5_init_d00df_25 : decode cJ5_init_d00df 25 = .ok (.aload_n 0, 1) := by decide +kernel
theorem dJ5_init_d00df_26 : decode cJ5_init_d00df 26 = .ok (.iload_n 1, 1) := by decide +kernel
theorem dJ5_init_d00df_27 : decode cJ5_init_d00df 27 = .ok (.invokestatic 26, 3) := by decide +kernel
theorem dJ5_init_d00df_30 : decode cJ5_init_d00df 30 = .ok (.putfield 15, 3) := by decide +kernel
theorem dJ5_init_d00df_33 : decode cJ5_init_d00df 33 = .ok (.aload_n 0, 1) := by decide +kernel
theorem dJ5_init_d00df_34 : decode cJ5_init_d00df 34 = .ok (.iconst 1, 1) := by decide +kernel
theorem dJ5_init_d00df_35 : decode cJ5_init_d00df 35 = .ok (.putfield 22, 3) := by decide +kernel
theorem dJ5_init_d00df_38 : decode cJ5_init_d00df 38 = .ok (.return_, 1) := by decide +kernel
theorem dJ5_length_8abf5_0 : decode cJ5_length_8abf5 0 = .ok (.aload_n 0, 1) := by decide +kernel
theorem dJ5_length_8abf5_1 : decode cJ5_length_8abf5 1 = .ok (.getfield 79, 3) := by decide +kernel
theorem dJ5_length_8abf5_4 : decode cJ5_length_8abf5 4 = .ok (.ireturn, 1) := by decide +kernel
theorem dJ5_ensureCapacityInternal_d00df_0 : decode cJ5_ensureCapacityInternal_d00df 0 = .ok (.aload_n 0, 1) := by decide +kernel
theorem dJ5_ensureCapacityInternal_d00df_1 : decode cJ5_ensureCapacityInternal_d00df 1 = .ok (.getfield 15, 3) := by decide +kernel
theorem dJ5_ensureCapacityInternal_d00df_4 : decode cJ5_ensureCapacityInternal_d00df 4 = .ok (.arraylength, 1) := by decide +kernel
theorem dJ5_ensureCapacityInternal_d00df_5 : decode cJ5_ensureCapacityInternal_d00df 5 = .ok (.aload_n 0, 1) := by decide +kernel
theorem dJ5_ensureCapacityInternal_d00df_6 : decode cJ5_ensureCapacityInternal_d00df 6 = .ok (.getfield 22, 3) := by decide +kernel
theorem dJ5_ensureCapacityInternal_d00df_9 : decode cJ5_ensureCapacityInternal_d00df 9 = .ok (.ishr, 1) := by decide +kernel
theorem dJ5_ensureCapacityInternal_d00df_10 : decode cJ5_ensureCapacityInternal_d00df 10 = .ok (.istore_n 2, 1) := by decide +kernel
theorem dJ5_ensureCapacityInternal_d00df_11 : decode cJ5_ensureCapacityInternal_d00df 11 = .ok (.iload_n 1, 1) := by decide +kernel
theorem dJ5_ensureCapacityInternal_d00df_12 : decode cJ5_ensureCapacityInternal_d00df 12 = .ok (.iload_n 2, 1) := by decide +kernel
theorem dJ5_ensureCapacityInternal_d00df_13 : decode cJ5_ensureCapacityInternal_d00df 13 = .ok (.isub, 1) := by decide +kernel
theorem dJ5_ensureCapacityInternal_d00df_14 : decode cJ5_ensureCapacityInternal_d00df 14 = .ok (.ifCond .le 24, 3) := by decide +kernel
theorem dJ5_ensureCapacityInternal_d00df_17 : decode cJ5_ensureCapacityInternal_d00df 17 = .ok (.aload_n 0, 1) := by decide +kernel
theorem dJ5_ensureCapacityInternal_d00df_18 : decode cJ5_ensureCapacityInternal_d00df 18 = .ok (.aload_n 0, 1) := by decide +kernel
theorem dJ5_ensureCapacityInternal_d00df_19 : decode cJ5_ensureCapacityInternal_d00df 19 = .ok (.getfield 15, 3) := by decide +kernel
theorem dJ5_ensureCapacityInternal_d00df_22 : decode cJ5_ensureCapacityInternal_d00df 22 = .ok (.aload_n 0, 1) := by decide +kernel
theorem dJ5_ensureCapacityInternal_d00df_23 : decode cJ5_ensureCapacityInternal_d00df 23 = .ok (.iload_n 1, 1) := by decide +kernel
theorem dJ5_ensureCapacityInternal_d00df_24 : decode cJ5_ensureCapacityInternal_d00df 24 = .ok (.invokevirtual 104, 3) := by decide +kernel
theorem dJ5_ensureCapacityInternal_d00df_27 : decode cJ5_ensureCapacityInternal_d00df 27 = .ok (.aload_n 0, 1) := by decide +kernel
theorem dJ5_ensureCapacityInternal_d00df_28 : decode cJ5_ensureCapacityInternal_d00df 28 = .ok (.getfield 22, 3) := by decide +kernel
theorem dJ5_ensureCapacityInternal_d00df_31 : decode cJ5_ensureCapacityInternal_d00df 31 = .ok (.ishl, 1) := by decide +kernel
theorem dJ5_ensureCapacityInternal_d00df_32 : decode cJ5_ensureCapacityInternal_d00df 32 = .ok (.invokestatic 108, 3) := by decide +kernel
theorem dJ5_ensureCapacityInternal_d00df_35 : decode cJ5_ensureCapacityInternal_d00df 35 = .ok (.putfield 15, 3) := by decide +kernel
theorem dJ5_ensureCapacityInternal_d00df_38 : decode cJ5_ensureCapacityInternal_d00df 38 = .ok (.return_, 1) := by decide +kernel
theorem dJ5_newCapacity_0f7a4_0 : decode cJ5_newCapacity_0f7a4 0 = .ok (.aload_n 0, 1) := by decide +kernel
theorem dJ5_newCapacity_0f7a4_1 : decode cJ5_newCapacity_0f7a4 1 = .ok (.getfield 15, 3) := by decide +kernel
theorem dJ5_newCapacity_0f7a4_4 : decode cJ5_newCapacity_0f7a4 4 = .ok (.arraylength, 1) := by decide +kernel
theorem dJ5_newCapacity_0f7a4_5 : decode cJ5_newCapacity_0f7a4 5 = .ok (.istore_n 2, 1) := by decide +kernel
theorem dJ5_newCapacity_0f7a4_6 : decode cJ5_newCapacity_0f7a4 6 = .ok (.iload_n 1, 1) := by decide +kernel
theorem dJ5_newCapacity_0f7a4_7 : decode cJ5_newCapacity_0f7a4 7 = .ok (.aload_n 0, 1) := by decide +kernel
theorem dJ5_newCapacity_0f7a4_8 : decode cJ5_newCapacity_0f7a4 8 = .ok (.getfield 22, 3) := by decide +kernel
theorem dJ5_newCapacity_0f7a4_11 : decode cJ5_newCapacity_0f7a4 11 = .ok (.ishl, 1) := by decide +kernel
theorem dJ5_newCapacity_0f7a4_12 : decode cJ5_newCapacity_0f7a4 12 = .ok (.istore_n 3, 1) := by decide +kernel
theorem dJ5_newCapacity_0f7a4_13 : decode cJ5_newCapacity_0f7a4 13 = .ok (.iload_n 3, 1) := by decide +kernel
theorem dJ5_newCapacity_0f7a4_14 : decode cJ5_newCapacity_0f7a4 14 = .ok (.iload_n 2, 1) := by decide +kernel
theorem dJ5_newCapacity_0f7a4_15 : decode cJ5_newCapacity_0f7a4 15 = .ok (.isub, 1) := by decide +kernel
theorem dJ5_newCapacity_0f7a4_16 : decode cJ5_newCapacity_0f7a4 16 = .ok (.istore 4, 2) := by decide +kernel
theorem dJ5_newCapacity_0f7a4_18 : decode cJ5_newCapacity_0f7a4 18 = .ok (.iload_n 2, 1) := by decide +kernel
theorem dJ5_newCapacity_0f7a4_19 : decode cJ5_newCapacity_0f7a4 19 = .ok (.iload 4, 2) := by decide +kernel
theorem dJ5_newCapacity_0f7a4_21 : decode cJ5_newCapacity_0f7a4 21 = .ok (.iload_n 2, 1) := by decide +kernel
theorem dJ5_newCapacity_0f7a4_22 : decode cJ5_newCapacity_0f7a4 22 = .ok (.iconst 2, 1) := by decide +kernel
theorem dJ5_newCapacity_0f7a4_23 : decode cJ5_newCapacity_0f7a4 23 = .ok (.aload_n 0, 1) := by decide +kernel
theorem dJ5_newCapacity_0f7a4_24 : decode cJ5_newCapacity_0f7a4 24 = .ok (.getfield 22, 3) := by decide +kernel
theorem dJ5_newCapacity_0f7a4_27 : decode cJ5_newCapacity_0f7a4 27 = .ok (.ishl, 1) := by decide +kernel
theorem dJ5_newCapacity_0f7a4_28 : decode cJ5_newCapacity_0f7a4 28 = .ok (.iadd, 1) := by decide +kernel
theorem dJ5_newCapacity_0f7a4_29 : decode cJ5_newCapacity_0f7a4 29 = .ok (.invokestatic 114, 3) := by decide +kernel
theorem dJ5_newCapacity_0f7a4_32 : decode cJ5_newCapacity_0f7a4 32 = .ok (.istore 5, 2) := by decide +kernel
theorem dJ5_newCapacity_0f7a4_34 : decode cJ5_newCapacity_0f7a4 34 = .ok (.iload 5, 2) := by decide +kernel
theorem dJ5_newCapacity_0f7a4_36 : decode cJ5_newCapacity_0f7a4 36 = .ok (.ldc 39, 2) := by decide +kernel
theorem dJ5_newCapacity_0f7a4_38 : decode cJ5_newCapacity_0f7a4 38 = .ok (.if_icmp .ne 13, 3) := by decide +kernel
theorem dJ5_newCapacity_0f7a4_41 : decode cJ5_newCapacity_0f7a4 41 = .ok (.new 120, 3) := by decide +kernel
theorem dJ5_newCapacity_0f7a4_44 : decode cJ5_newCapacity_0f7a4 44 = .ok (.dup, 1) := by decide +kernel
theorem dJ5_newCapacity_0f7a4_45 : decode cJ5_newCapacity_0f7a4 45 = .ok (.ldc 122, 2) := by decide +kernel
theorem dJ5_newCapacity_0f7a4_47 : decode cJ5_newCapacity_0f7a4 47 = .ok (.invokespecial 124, 3) := by decide +kernel
theorem dJ5_newCapacity_0f7a4_50 : decode cJ5_newCapacity_0f7a4 50 = .ok (.athrow, 1) := by decide +kernel
theorem dJ5_newCapacity_0f7a4_51 : decode cJ5_newCapacity_0f7a4 51 = .ok (.iload 5, 2) := by decide +kernel
theorem dJ5_newCapacity_0f7a4_53 : decode cJ5_newCapacity_0f7a4 53 = .ok (.aload_n 0, 1) := by decide +kernel
theorem dJ5_newCapacity_0f7a4_54 : decode cJ5_newCapacity_0f7a4 54 = .ok (.getfield 22, 3) := by decide +kernel
theorem dJ5_newCapacity_0f7a4_57 : decode cJ5_newCapacity_0f7a4 57 = .ok (.ishr, 1) := by decide +kernel
theorem dJ5_newCapacity_0f7a4_58 : decode cJ5_newCapacity_0f7a4 58 = .ok (.ireturn, 1) := by decide +kernel
theorem dJ5_inflate_da8c8_0 : decode cJ5_inflate_da8c8 0 = .ok (.aload_n 0, 1) := by decide +kernel
theorem dJ5_inflate_da8c8_1 : decode cJ5_inflate_da8c8 1 = .ok (.invokevirtual 83, 3) := by decide +kernel
theorem dJ5_inflate_da8c8_4 : decode cJ5_inflate_da8c8 4 = .ok (.ifCond .ne 4, 3) := by decide +kernel
theorem dJ5_inflate_da8c8_7 : decode cJ5_inflate_da8c8 7 = .ok (.return_, 1) := by decide +kernel
theorem dJ5_inflate_da8c8_8 : decode cJ5_inflate_da8c8 8 = .ok (.aload_n 0, 1) := by decide +kernel
theorem dJ5_inflate_da8c8_9 : decode cJ5_inflate_da8c8 9 = .ok (.getfield 15, 3) := by decide +kernel
theorem dJ5_inflate_da8c8_12 : decode cJ5_inflate_da8c8 12 = .ok (.arraylength, 1) := by decide +kernel
theorem dJ5_inflate_da8c8_13 : decode cJ5_inflate_da8c8 13 = .ok (.invokestatic 26, 3) := by decide +kernel
theorem dJ5_inflate_da8c8_16 : decode cJ5_inflate_da8c8 16 = .ok (.astore_n 1, 1) := by decide +kernel
theorem dJ5_inflate_da8c8_17 : decode cJ5_inflate_da8c8 17 = .ok (.aload_n 0, 1) := by decide +kernel
theorem dJ5_inflate_da8c8_18 : decode cJ5_inflate_da8c8 18 = .ok (.getfield 15, 3) := by decide +kernel
theorem dJ5_inflate_da8c8_21 : decode cJ5_inflate_da8c8 21 = .ok (.iconst 0, 1) := by decide +kernel
theorem dJ5_inflate_da8c8_22 : decode cJ5_inflate_da8c8 22 = .ok (.aload_n 1, 1) := by decide +kernel
theorem dJ5_inflate_da8c8_23 : decode cJ5_inflate_da8c8 23 = .ok (.iconst 0, 1) := by decide +kernel
theorem dJ5_inflate_da8c8_24 : decode cJ5_inflate_da8c8 24 = .ok (.aload_n 0, 1) := by decide +kernel
theorem dJ5_inflate_da8c8_25 : decode cJ5_inflate_da8c8 25 = .ok (.getfield 79, 3) := by decide +kernel
theorem dJ5_inflate_da8c8_28 : decode cJ5_inflate_da8c8 28 = .ok (.invokestatic 125, 3) := by decide +kernel
theorem dJ5_inflate_da8c8_31 : decode cJ5_inflate_da8c8 31 = .ok (.aload_n 0, 1) := by decide +kernel
theorem dJ5_inflate_da8c8_32 : decode cJ5_inflate_da8c8 32 = .ok (.aload_n 1, 1) := by decide +kernel
theorem dJ5_inflate_da8c8_33 : decode cJ5_inflate_da8c8 33 = .ok (.putfield 15, 3) := by decide +kernel
theorem dJ5_inflate_da8c8_36 : decode cJ5_inflate_da8c8 36 = .ok (.aload_n 0, 1) := by decide +kernel
theorem dJ5_inflate_da8c8_37 : decode cJ5_inflate_da8c8 37 = .ok (.iconst 1, 1) := by decide +kernel
theorem dJ5_inflate_da8c8_38 : decode cJ5_inflate_da8c8 38 = .ok (.putfield 22, 3) := by decide +kernel
theorem dJ5_inflate_da8c8_41 : decode cJ5_inflate_da8c8 41 = .ok (.return_, 1) := by decide +kernel
theorem dJ5_append_cf1ce_0 : decode cJ5_append_cf1ce 0 = .ok (.aload_n 1, 1) := by decide +kernel
theorem dJ5_append_cf1ce_1 : decode cJ5_append_cf1ce 1 = .ok (.ifnonnull 8, 3) := by decide +kernel
theorem dJ5_append_cf1ce_4 : decode cJ5_append_cf1ce 4 = .ok (.aload_n 0, 1) := by decide +kernel
theorem dJ5_append_cf1ce_5 : decode cJ5_append_cf1ce 5 = .ok (.invokevirtual 204, 3) := by decide +kernel
theorem dJ5_append_cf1ce_8 : decode cJ5_append_cf1ce 8 = .ok (.areturn, 1) := by decide +kernel
theorem dJ5_append_cf1ce_9 : decode cJ5_append_cf1ce 9 = .ok (.aload_n 1, 1) := by decide +kernel
theorem dJ5_append_cf1ce_10 : decode cJ5_append_cf1ce 10 = .ok (.invokevirtual 32, 3) := by decide +kernel
theorem dJ5_append_cf1ce_13 : decode cJ5_append_cf1ce 13 = .ok (.istore_n 2, 1) := by decide +kernel
theorem dJ5_append_cf1ce_14 : decode cJ5_append_cf1ce 14 = .ok (.aload_n 0, 1) := by decide +kernel
theorem dJ5_append_cf1ce_15 : decode cJ5_append_cf1ce 15 = .ok (.aload_n 0, 1) := by decide +kernel
theorem dJ5_append_cf1ce_16 : decode cJ5_append_cf1ce 16 = .ok (.getfield 79, 3) := by decide +kernel
theorem dJ5_append_cf1ce_19 : decode cJ5_append_cf1ce 19 = .ok (.iload_n 2, 1) := by decide +kernel
theorem dJ5_append_cf1ce_20 : decode cJ5_append_cf1ce 20 = .ok (.iadd, 1) := by decide +kernel
theorem dJ5_append_cf1ce_21 : decode cJ5_append_cf1ce 21 = .ok (.invokevirtual 100, 3) := by decide +kernel
theorem dJ5_append_cf1ce_24 : decode cJ5_append_cf1ce 24 = .ok (.aload_n 0, 1) := by decide +kernel
theorem dJ5_append_cf1ce_25 : decode cJ5_append_cf1ce 25 = .ok (.aload_n 0, 1) := by decide +kernel
theorem dJ5_append_cf1ce_26 : decode cJ5_append_cf1ce 26 = .ok (.getfield 79, 3) := by decide +kernel
theorem dJ5_append_cf1ce_29 : decode cJ5_append_cf1ce 29 = .ok (.aload_n 1, 1) := by decide +kernel
theorem dJ5_append_cf1ce_30 : decode cJ5_append_cf1ce 30 = .ok (.invokevirtual 208, 3) := by decide +kernel
theorem dJ5_append_cf1ce_33 : decode cJ5_append_cf1ce 33 = .ok (.aload_n 0, 1) := by decide +kernel
theorem dJ5_append_cf1ce_34 : decode cJ5_append_cf1ce 34 = .ok (.dup, 1) := by decide +kernel
theorem dJ5_append_cf1ce_35 : decode cJ5_append_cf1ce 35 = .ok (.getfield 79, 3) := by decide +kernel
theorem dJ5_append_cf1ce_38 : decode cJ5_append_cf1ce 38 = .ok (.iload_n 2, 1) := by decide +kernel
theorem dJ5_append_cf1ce_39 : decode cJ5_append_cf1ce 39 = .ok (.iadd, 1) := by decide +kernel
theorem dJ5_append_cf1ce_40 : decode cJ5_append_cf1ce 40 = .ok (.putfield 79, 3) := by decide +kernel
theorem dJ5_append_cf1ce_43 : decode cJ5_append_cf1ce 43 = .ok (.aload_n 0, 1) := by decide +kernel
theorem dJ5_append_cf1ce_44 : decode cJ5_append_cf1ce 44 = .ok (.areturn, 1) := by decide +kernel
theorem dJ5_appendNull_278bc_0 : decode cJ5_appendNull_278bc 0 = .ok (.aload_n 0, 1) := by decide +kernel
theorem dJ5_appendNull_278bc_1 : decode cJ5_appendNull_278bc 1 = .ok (.aload_n 0, 1) := by decide +kernel
theorem dJ5_appendNull_278bc_2 : decode cJ5_appendNull_278bc 2 = .ok (.getfield 79, 3) := by decide +kernel
theorem dJ5_appendNull_278bc_5 : decode cJ5_appendNull_278bc 5 = .ok (.iconst 4, 1) := by decide +kernel
theorem dJ5_appendNull_278bc_6 : decode cJ5_appendNull_278bc 6 = .ok (.iadd, 1) := by decide +kernel
theorem dJ5_appendNull_278bc_7 : decode cJ5_appendNull_278bc 7 = .ok (.invokevirtual 100, 3) := by decide +kernel
theorem dJ5_appendNull_278bc_10 : decode cJ5_appendNull_278bc 10 = .ok (.aload_n 0, 1) := by decide +kernel
theorem dJ5_appendNull_278bc_11 : decode cJ5_appendNull_278bc 11 = .ok (.getfield 79, 3) := by decide +kernel
theorem dJ5_appendNull_278bc_14 : decode cJ5_appendNull_278bc 14 = .ok (.istore_n 1, 1) := by decide +kernel
theorem dJ5_appendNull_278bc_15 : decode cJ5_appendNull_278bc 15 = .ok (.aload_n 0, 1) := by decide +kernel
theorem dJ5_appendNull_278bc_16 : decode cJ5_appendNull_278bc 16 = .ok (.getfield 15, 3) := by decide +kernel
theorem dJ5_appendNull_278bc_19 : decode cJ5_appendNull_278bc 19 = .ok (.astore_n 2, 1) := by decide +kernel
theorem dJ5_appendNull_278bc_20 : decode cJ5_appendNull_278bc 20 = .ok (.aload_n 0, 1) := by decide +kernel
theorem dJ5_appendNull_278bc_21 : decode cJ5_appendNull_278bc 21 = .ok (.invokevirtual 83, 3) := by decide +kernel
theorem dJ5_appendNull_278bc_24 : decode cJ5_appendNull_278bc 24 = .ok (.ifCond .eq 38, 3) := by decide +kernel
theorem dJ5_appendNull_278bc_27 : decode cJ5_appendNull_278bc 27 = .ok (.aload_n 2, 1) := by decide +kernel
theorem dJ5_appendNull_278bc_28 : decode cJ5_appendNull_278bc 28 = .ok (.iload_n 1, 1) := by decide +kernel
theorem dJ5_appendNull_278bc_29 : decode cJ5_appendNull_278bc 29 = .ok (.iinc 1 1, 3) := by decide +kernel
theorem dJ5_appendNull_278bc_32 : decode cJ5_appendNull_278bc 32 = .ok (.bipush 110, 2) := by decide +kernel
theorem dJ5_appendNull_278bc_34 : decode cJ5_appendNull_278bc 34 = .ok (.bastore, 1) := by decide +kernel
theorem dJ5_appendNull_278bc_35 : decode cJ5_appendNull_278bc 35 = .ok (.aload_n 2, 1) := by decide +kernel
theorem dJ5_appendNull_278bc_36 : decode cJ5_appendNull_278bc 36 = .ok (.iload_n 1, 1) := by decide +kernel
theorem dJ5_appendNull_278bc_37 : decode cJ5_appendNull_278bc 37 = .ok (.iinc 1 1, 3) := by decide +kernel
theorem dJ5_appendNull_278bc_40 : decode cJ5_appendNull_278bc 40 = .ok (.bipush 117, 2) := by decide +kernel
theorem dJ5_appendNull_278bc_42 : decode cJ5_appendNull_278bc 42 = .ok (.bastore, 1) := by decide +kernel
theorem dJ5_appendNull_278bc_43 : decode cJ5_appendNull_278bc 43 = .ok (.aload_n 2, 1) := by decide +kernel
theorem dJ5_appendNull_278bc_44 : decode cJ5_appendNull_278bc 44 = .ok (.iload_n 1, 1) := by decide +kernel
theorem dJ5_appendNull_278bc_45 : decode cJ5_appendNull_278bc 45 = .ok (.iinc 1 1, 3) := by decide +kernel
theorem dJ5_appendNull_278bc_48 : decode cJ5_appendNull_278bc 48 = .ok (.bipush 108, 2) := by decide +kernel
theorem dJ5_appendNull_278bc_50 : decode cJ5_appendNull_278bc 50 = .ok (.bastore, 1) := by decide +kernel
theorem dJ5_appendNull_278bc_51 : decode cJ5_appendNull_278bc 51 = .ok (.aload_n 2, 1) := by decide +kernel
theorem dJ5_appendNull_278bc_52 : decode cJ5_appendNull_278bc 52 = .ok (.iload_n 1, 1) := by decide +kernel
theorem dJ5_appendNull_278bc_53 : decode cJ5_appendNull_278bc 53 = .ok (.iinc 1 1, 3) := by decide +kernel
theorem dJ5_appendNull_278bc_56 : decode cJ5_appendNull_278bc 56 = .ok (.bipush 108, 2) := by decide +kernel
theorem dJ5_appendNull_278bc_58 : decode cJ5_appendNull_278bc 58 = .ok (.bastore, 1) := by decide +kernel
theorem dJ5_appendNull_278bc_59 : decode cJ5_appendNull_278bc 59 = .ok (.goto 17, 3) := by decide +kernel
theorem dJ5_appendNull_278bc_62 : decode cJ5_appendNull_278bc 62 = .ok (.aload_n 2, 1) := by decide +kernel
theorem dJ5_appendNull_278bc_63 : decode cJ5_appendNull_278bc 63 = .ok (.iload_n 1, 1) := by decide +kernel
theorem dJ5_appendNull_278bc_64 : decode cJ5_appendNull_278bc 64 = .ok (.bipush 110, 2) := by decide +kernel
theorem dJ5_appendNull_278bc_66 : decode cJ5_appendNull_278bc 66 = .ok (.bipush 117, 2) := by decide +kernel
theorem dJ5_appendNull_278bc_68 : decode cJ5_appendNull_278bc 68 = .ok (.bipush 108, 2) := by decide +kernel
theorem dJ5_appendNull_278bc_70 : decode cJ5_appendNull_278bc 70 = .ok (.bipush 108, 2) := by decide +kernel
theorem dJ5_appendNull_278bc_72 : decode cJ5_appendNull_278bc 72 = .ok (.invokestatic 226, 3) := by decide +kernel
theorem dJ5_appendNull_278bc_75 : decode cJ5_appendNull_278bc 75 = .ok (.istore_n 1, 1) := by decide +kernel
theorem dJ5_appendNull_278bc_76 : decode cJ5_appendNull_278bc 76 = .ok (.aload_n 0, 1) := by decide +kernel
theorem dJ5_appendNull_278bc_77 : decode cJ5_appendNull_278bc 77 = .ok (.iload_n 1, 1) := by decide +kernel
theorem dJ5_appendNull_278bc_78 : decode cJ5_appendNull_278bc 78 = .ok (.putfield 79, 3) := by decide +kernel
theorem dJ5_appendNull_278bc_81 : decode cJ5_appendNull_278bc 81 = .ok (.aload_n 0, 1) := by decide +kernel
theorem dJ5_appendNull_278bc_82 : decode cJ5_appendNull_278bc 82 = .ok (.areturn, 1) := by decide +kernel
theorem dJ5_append_3fe6f_0 : decode cJ5_append_3fe6f 0 = .ok (.aload_n 0, 1) := by decide +kernel
theorem dJ5_append_3fe6f_1 : decode cJ5_append_3fe6f 1 = .ok (.aload_n 0, 1) := by decide +kernel
theorem dJ5_append_3fe6f_2 : decode cJ5_append_3fe6f 2 = .ok (.getfield 79, 3) := by decide +kernel
theorem dJ5_append_3fe6f_5 : decode cJ5_append_3fe6f 5 = .ok (.iconst 1, 1) := by decide +kernel
theorem dJ5_append_3fe6f_6 : decode cJ5_append_3fe6f 6 = .ok (.iadd, 1) := by decide +kernel
theorem dJ5_append_3fe6f_7 : decode cJ5_append_3fe6f 7 = .ok (.invokevirtual 100, 3) := by decide +kernel
theorem dJ5_append_3fe6f_10 : decode cJ5_append_3fe6f 10 = .ok (.aload_n 0, 1) := by decide +kernel
theorem dJ5_append_3fe6f_11 : decode cJ5_append_3fe6f 11 = .ok (.invokevirtual 83, 3) := by decide +kernel
theorem dJ5_append_3fe6f_14 : decode cJ5_append_3fe6f 14 = .ok (.ifCond .eq 31, 3) := by decide +kernel
theorem dJ5_append_3fe6f_17 : decode cJ5_append_3fe6f 17 = .ok (.iload_n 1, 1) := by decide +kernel
theorem dJ5_append_3fe6f_18 : decode cJ5_append_3fe6f 18 = .ok (.invokestatic 191, 3) := by decide +kernel
theorem dJ5_append_3fe6f_21 : decode cJ5_append_3fe6f 21 = .ok (.ifCond .eq 24, 3) := by decide +kernel
theorem dJ5_append_3fe6f_24 : decode cJ5_append_3fe6f 24 = .ok (.aload_n 0, 1) := by decide +kernel
theorem dJ5_append_3fe6f_25 : decode cJ5_append_3fe6f 25 = .ok (.getfield 15, 3) := by decide +kernel
theorem dJ5_append_3fe6f_28 : decode cJ5_append_3fe6f 28 = .ok (.aload_n 0, 1) := by decide +kernel
theorem dJ5_append_3fe6f_29 : decode cJ5_append_3fe6f 29 = .ok (.dup, 1) := by decide +kernel
theorem dJ5_append_3fe6f_30 : decode cJ5_append_3fe6f 30 = .ok (.getfield 79, 3) := by decide +kernel
theorem dJ5_append_3fe6f_33 : decode cJ5_append_3fe6f 33 = .ok (.dup_x1, 1) := by decide +kernel
theorem dJ5_append_3fe6f_34 : decode cJ5_append_3fe6f 34 = .ok (.iconst 1, 1) := by decide +kernel
theorem dJ5_append_3fe6f_35 : decode cJ5_append_3fe6f 35 = .ok (.iadd, 1) := by decide +kernel
theorem dJ5_append_3fe6f_36 : decode cJ5_append_3fe6f 36 = .ok (.putfield 79, 3) := by decide +kernel
theorem dJ5_append_3fe6f_39 : decode cJ5_append_3fe6f 39 = .ok (.iload_n 1, 1) := by decide +kernel
theorem dJ5_append_3fe6f_40 : decode cJ5_append_3fe6f 40 = .ok (.i2b, 1) := by decide +kernel
theorem dJ5_append_3fe6f_41 : decode cJ5_append_3fe6f 41 = .ok (.bastore, 1) := by decide +kernel
theorem dJ5_append_3fe6f_42 : decode cJ5_append_3fe6f 42 = .ok (.goto 33, 3) := by decide +kernel
theorem dJ5_append_3fe6f_45 : decode cJ5_append_3fe6f 45 = .ok (.aload_n 0, 1) := by decide +kernel
theorem dJ5_append_3fe6f_46 : decode cJ5_append_3fe6f 46 = .ok (.invokevirtual 83, 3) := by decide +kernel
theorem dJ5_append_3fe6f_49 : decode cJ5_append_3fe6f 49 = .ok (.ifCond .eq 7, 3) := by decide +kernel
theorem dJ5_append_3fe6f_52 : decode cJ5_append_3fe6f 52 = .ok (.aload_n 0, 1) := by decide +kernel
theorem dJ5_append_3fe6f_53 : decode cJ5_append_3fe6f 53 = .ok (.invokevirtual 195, 3) := by decide +kernel
theorem dJ5_append_3fe6f_56 : decode cJ5_append_3fe6f 56 = .ok (.aload_n 0, 1) := by decide +kernel
theorem dJ5_append_3fe6f_57 : decode cJ5_append_3fe6f 57 = .ok (.getfield 15, 3) := by decide +kernel
theorem dJ5_append_3fe6f_60 : decode cJ5_append_3fe6f 60 = .ok (.aload_n 0, 1) := by decide +kernel
theorem dJ5_append_3fe6f_61 : decode cJ5_append_3fe6f 61 = .ok (.dup, 1) := by decide +kernel
theorem dJ5_append_3fe6f_62 : decode cJ5_append_3fe6f 62 = .ok (.getfield 79, 3) := by decide +kernel
theorem dJ5_append_3fe6f_65 : decode cJ5_append_3fe6f 65 = .ok (.dup_x1, 1) := by decide +kernel
theorem dJ5_append_3fe6f_66 : decode cJ5_append_3fe6f 66 = .ok (.iconst 1, 1) := by decide +kernel
theorem dJ5_append_3fe6f_67 : decode cJ5_append_3fe6f 67 = .ok (.iadd, 1) := by decide +kernel
theorem dJ5_append_3fe6f_68 : decode cJ5_append_3fe6f 68 = .ok (.putfield 79, 3) := by decide +kernel
theorem dJ5_append_3fe6f_71 : decode cJ5_append_3fe6f 71 = .ok (.iload_n 1, 1) := by decide +kernel
theorem dJ5_append_3fe6f_72 : decode cJ5_append_3fe6f 72 = .ok (.invokestatic 197, 3) := by decide +kernel
theorem dJ5_append_3fe6f_75 : decode cJ5_append_3fe6f 75 = .ok (.aload_n 0, 1) := by decide +kernel
theorem dJ5_append_3fe6f_76 : decode cJ5_append_3fe6f 76 = .ok (.areturn, 1) := by decide +kernel
theorem dJ5_append_c97b9_0 : decode cJ5_append_c97b9 0 = .ok (.aload_n 0, 1) := by decide +kernel
theorem dJ5_append_c97b9_1 : decode cJ5_append_c97b9 1 = .ok (.getfield 79, 3) := by decide +kernel
theorem dJ5_append_c97b9_4 : decode cJ5_append_c97b9 4 = .ok (.istore_n 2, 1) := by decide +kernel
theorem dJ5_append_c97b9_5 : decode cJ5_append_c97b9 5 = .ok (.iload_n 2, 1) := by decide +kernel
theorem dJ5_append_c97b9_6 : decode cJ5_append_c97b9 6 = .ok (.iload_n 1, 1) := by decide +kernel
theorem dJ5_append_c97b9_7 : decode cJ5_append_c97b9 7 = .ok (.invokestatic 245, 3) := by decide +kernel
theorem dJ5_append_c97b9_10 : decode cJ5_append_c97b9 10 = .ok (.iadd, 1) := by decide +kernel
theorem dJ5_append_c97b9_11 : decode cJ5_append_c97b9 11 = .ok (.istore_n 3, 1) := by decide +kernel
theorem dJ5_append_c97b9_12 : decode cJ5_append_c97b9 12 = .ok (.aload_n 0, 1) := by decide +kernel
theorem dJ5_append_c97b9_13 : decode cJ5_append_c97b9 13 = .ok (.iload_n 3, 1) := by decide +kernel
theorem dJ5_append_c97b9_14 : decode cJ5_append_c97b9 14 = .ok (.invokevirtual 100, 3) := by decide +kernel
theorem dJ5_append_c97b9_17 : decode cJ5_append_c97b9 17 = .ok (.aload_n 0, 1) := by decide +kernel
theorem dJ5_append_c97b9_18 : decode cJ5_append_c97b9 18 = .ok (.invokevirtual 83, 3) := by decide +kernel
theorem dJ5_append_c97b9_21 : decode cJ5_append_c97b9 21 = .ok (.ifCond .eq 16, 3) := by decide +kernel
theorem dJ5_append_c97b9_24 : decode cJ5_append_c97b9 24 = .ok (.iload_n 1, 1) := by decide +kernel
theorem dJ5_append_c97b9_25 : decode cJ5_append_c97b9 25 = .ok (.iload_n 3, 1) := by decide +kernel
theorem dJ5_append_c97b9_26 : decode cJ5_append_c97b9 26 = .ok (.aload_n 0, 1) := by decide +kernel
theorem dJ5_append_c97b9_27 : decode cJ5_append_c97b9 27 = .ok (.getfield 15, 3) := by decide +kernel
theorem dJ5_append_c97b9_30 : decode cJ5_append_c97b9 30 = .ok (.invokestatic 248, 3) := by decide +kernel
theorem dJ5_append_c97b9_33 : decode cJ5_append_c97b9 33 = .ok (.pop, 1) := by decide +kernel
theorem dJ5_append_c97b9_34 : decode cJ5_append_c97b9 34 = .ok (.goto 14, 3) := by decide +kernel
theorem dJ5_append_c97b9_37 : decode cJ5_append_c97b9 37 = .ok (.iload_n 1, 1) := by decide +kernel
theorem dJ5_append_c97b9_38 : decode cJ5_append_c97b9 38 = .ok (.iload_n 2, 1) := by decide +kernel
theorem dJ5_append_c97b9_39 : decode cJ5_append_c97b9 39 = .ok (.iload_n 3, 1) := by decide +kernel
theorem dJ5_append_c97b9_40 : decode cJ5_append_c97b9 40 = .ok (.aload_n 0, 1) := by decide +kernel
theorem dJ5_append_c97b9_41 : decode cJ5_append_c97b9 41 = .ok (.getfield 15, 3) := by decide +kernel
theorem dJ5_append_c97b9_44 : decode cJ5_append_c97b9 44 = .ok (.invokestatic 251, 3) := by decide +kernel
theorem dJ5_append_c97b9_47 : decode cJ5_append_c97b9 47 = .ok (.pop, 1) := by decide +kernel
theorem dJ5_append_c97b9_48 : decode cJ5_append_c97b9 48 = .ok (.aload_n 0, 1) := by decide +kernel
theorem dJ5_append_c97b9_49 : decode cJ5_append_c97b9 49 = .ok (.iload_n 3, 1) := by decide +kernel
theorem dJ5_append_c97b9_50 : decode cJ5_append_c97b9 50 = .ok (.putfield 79, 3) := by decide +kernel
theorem dJ5_append_c97b9_53 : decode cJ5_append_c97b9 53 = .ok (.aload_n 0, 1) := by decide +kernel
theorem dJ5_append_c97b9_54 : decode cJ5_append_c97b9 54 = .ok (.areturn, 1) := by decide +kernel
theorem dJ5_getValue_6d5f1_0 : decode cJ5_getValue_6d5f1 0 = .ok (.aload_n 0, 1) := by decide +kernel
theorem dJ5_getValue_6d5f1_1 : decode cJ5_getValue_6d5f1 1 = .ok (.getfield 15, 3) := by decide +kernel
theorem dJ5_getValue_6d5f1_4 : decode cJ5_getValue_6d5f1 4 = .ok (.areturn, 1) := by decide +kernel
theorem dJ5_isLatin1_aae02_0 : decode cJ5_isLatin1_aae02 0 = .ok (.getstatic 18, 3) := by decide +kernel
theorem dJ5_isLatin1_aae02_3 : decode cJ5_isLatin1_aae02 3 = .ok (.ifCond .eq 14, 3) := by decide +kernel
theorem dJ5_isLatin1_aae02_6 : decode cJ5_isLatin1_aae02 6 = .ok (.aload_n 0, 1) := by decide +kernel
theorem dJ5_isLatin1_aae02_7 : decode cJ5_isLatin1_aae02 7 = .ok (.getfield 22, 3) := by decide +kernel
theorem dJ5_isLatin1_aae02_10 : decode cJ5_isLatin1_aae02 10 = .ok (.ifCond .ne 7, 3) := by decide +kernel
theorem dJ5_isLatin1_aae02_13 : decode cJ5_isLatin1_aae02 13 = .ok (.iconst 1, 1) := by decide +kernel
theorem dJ5_isLatin1_aae02_14 : decode cJ5_isLatin1_aae02 14 = .ok (.goto 4, 3) := by decide +kernel
theorem dJ5_isLatin1_aae02_17 : decode cJ5_isLatin1_aae02 17 = .ok (.iconst 0, 1) := by decide +kernel
theorem dJ5_isLatin1_aae02_18 : decode cJ5_isLatin1_aae02 18 = .ok (.ireturn, 1) := by decide +kernel
theorem dJ5_inflateIfNeededFor_a7421_0 : decode cJ5_inflateIfNeededFor_a7421 0 = .ok (.getstatic 18, 3) := by decide +kernel
theorem dJ5_inflateIfNeededFor_a7421_3 : decode cJ5_inflateIfNeededFor_a7421 3 = .ok (.ifCond .eq 18, 3) := by decide +kernel
theorem dJ5_inflateIfNeededFor_a7421_6 : decode cJ5_inflateIfNeededFor_a7421 6 = .ok (.aload_n 0, 1) := by decide +kernel
theorem dJ5_inflateIfNeededFor_a7421_7 : decode cJ5_inflateIfNeededFor_a7421 7 = .ok (.getfield 22, 3) := by decide +kernel
theorem dJ5_inflateIfNeededFor_a7421_10 : decode cJ5_inflateIfNeededFor_a7421 10 = .ok (.aload_n 1, 1) := by decide +kernel
theorem dJ5_inflateIfNeededFor_a7421_11 : decode cJ5_inflateIfNeededFor_a7421 11 = .ok (.invokevirtual 40, 3) := by decide +kernel
theorem dJ5_inflateIfNeededFor_a7421_14 : decode cJ5_inflateIfNeededFor_a7421 14 = .ok (.if_icmp .eq 7, 3) := by decide +kernel
theorem dJ5_inflateIfNeededFor_a7421_17 : decode cJ5_inflateIfNeededFor_a7421 17 = .ok (.aload_n 0, 1) := by decide +kernel
theorem dJ5_inflateIfNeededFor_a7421_18 : decode cJ5_inflateIfNeededFor_a7421 18 = .ok (.invokevirtual 195, 3) := by decide +kernel
theorem dJ5_inflateIfNeededFor_a7421_21 : decode cJ5_inflateIfNeededFor_a7421 21 = .ok (.return_, 1) := by decide +kernel
theorem dJ5_putStringAt_47b60_0 : decode cJ5_putStringAt_47b60 0 = .ok (.aload_n 0, 1) := by decide +kernel
theorem dJ5_putStringAt_47b60_1 : decode cJ5_putStringAt_47b60 1 = .ok (.aload_n 2, 1) := by decide +kernel
theorem dJ5_putStringAt_47b60_2 : decode cJ5_putStringAt_47b60 2 = .ok (.invokevirtual 397, 3) := by decide +kernel
theorem dJ5_putStringAt_47b60_5 : decode cJ5_putStringAt_47b60 5 = .ok (.aload_n 2, 1) := by decide +kernel
theorem dJ5_putStringAt_47b60_6 : decode cJ5_putStringAt_47b60 6 = .ok (.aload_n 0, 1) := by decide +kernel
theorem dJ5_putStringAt_47b60_7 : decode cJ5_putStringAt_47b60 7 = .ok (.getfield 15, 3) := by decide +kernel
theorem dJ5_putStringAt_47b60_10 : decode cJ5_putStringAt_47b60 10 = .ok (.iload_n 1, 1) := by decide +kernel
theorem dJ5_putStringAt_47b60_11 : decode cJ5_putStringAt_47b60 11 = .ok (.aload_n 0, 1) := by decide +kernel
theorem dJ5_putStringAt_47b60_12 : decode cJ5_putStringAt_47b60 12 = .ok (.getfield 22, 3) := by decide +kernel
theorem dJ5_putStringAt_47b60_15 : decode cJ5_putStringAt_47b60 15 = .ok (.invokevirtual 399, 3) := by decide +kernel
theorem dJ5_putStringAt_47b60_18 : decode cJ5_putStringAt_47b60 18 = .ok (.return_, 1) := by decide +kernel
theorem dJ6_getChars_ba4f3_0 : decode cJ6_getChars_ba4f3 0 = .ok (.iload_n 1, 1) := by decide +kernel
theorem dJ6_getChars_ba4f3_1 : decode cJ6_getChars_ba4f3 1 = .ok (.istore 5, 2) := by decide +kernel
theorem dJ6_getChars_ba4f3_3 : decode cJ6_getChars_ba4f3 3 = .ok (.iload_n 0, 1) := by decide +kernel
theorem dJ6_getChars_ba4f3_4 : decode cJ6_getChars_ba4f3 4 = .ok (.ifCond .ge 7, 3) := by decide +kernel
theorem dJ6_getChars_ba4f3_7 : decode cJ6_getChars_ba4f3 7 = .ok (.iconst 1, 1) := by decide +kernel
theorem dJ6_getChars_ba4f3_8 : decode cJ6_getChars_ba4f3 8 = .ok (.goto 4, 3) := by decide +kernel
theorem dJ6_getChars_ba4f3_11 : decode cJ6_getChars_ba4f3 11 = .ok (.iconst 0, 1) := by decide +kernel
theorem dJ6_getChars_ba4f3_12 : decode cJ6_getChars_ba4f3 12 = .ok (.istore 6, 2) := by decide +kernel
theorem dJ6_getChars_ba4f3_14 : decode cJ6_getChars_ba4f3 14 = .ok (.iload 6, 2) := by decide +kernel
theorem dJ6_getChars_ba4f3_16 : decode cJ6_getChars_ba4f3 16 = .ok (.ifCond .ne 6, 3) := by decide +kernel
theorem dJ6_getChars_ba4f3_19 : decode cJ6_getChars_ba4f3 19 = .ok (.iload_n 0, 1) := by decide +kernel
theorem dJ6_getChars_ba4f3_20 : decode cJ6_getChars_ba4f3 20 = .ok (.ineg, 1) := by decide +kernel
theorem dJ6_getChars_ba4f3_21 : decode cJ6_getChars_ba4f3 21 = .ok (.istore_n 0, 1) := by decide +kernel
theorem dJ6_getChars_ba4f3_22 : decode cJ6_getChars_ba4f3 22 = .ok (.iload_n 0, 1) := by decide +kernel
theorem dJ6_getChars_ba4f3_23 : decode cJ6_getChars_ba4f3 23 = .ok (.bipush (-100), 2) := by decide +kernel
theorem dJ6_getChars_ba4f3_25 : decode cJ6_getChars_ba4f3 25 = .ok (.if_icmp .gt 47, 3) := by decide +kernel
theorem dJ6_getChars_ba4f3_28 : decode cJ6_getChars_ba4f3 28 = .ok (.iload_n 0, 1) := by decide +kernel
theorem dJ6_getChars_ba4f3_29 : decode cJ6_getChars_ba4f3 29 = .ok (.bipush 100, 2) := by decide +kernel
theorem dJ6_getChars_ba4f3_31 : decode cJ6_getChars_ba4f3 31 = .ok (.idiv, 1) := by decide +kernel
theorem dJ6_getChars_ba4f3_32 : decode cJ6_getChars_ba4f3 32 = .ok (.istore_n 3, 1) := by decide +kernel
theorem dJ6_getChars_ba4f3_33 : decode cJ6_getChars_ba4f3 33 = .ok (.iload_n 3, 1) := by decide +kernel
theorem dJ6_getChars_ba4f3_34 : decode cJ6_getChars_ba4f3 34 = .ok (.bipush 100, 2) := by decide +kernel
theorem dJ6_getChars_ba4f3_36 : decode cJ6_getChars_ba4f3 36 = .ok (.imul, 1) := by decide +kernel
theorem dJ6_getChars_ba4f3_37 : decode cJ6_getChars_ba4f3 37 = .ok (.iload_n 0, 1) := by decide +kernel
theorem dJ6_getChars_ba4f3_38 : decode cJ6_getChars_ba4f3 38 = .ok (.isub, 1) := by decide +kernel
theorem dJ6_getChars_ba4f3_39 : decode cJ6_getChars_ba4f3 39 = .ok (.istore 4, 2) := by decide +kernel
theorem dJ6_getChars_ba4f3_41 : decode cJ6_getChars_ba4f3 41 = .ok (.iload_n 3, 1) := by decide +kernel
theorem dJ6_getChars_ba4f3_42 : decode cJ6_getChars_ba4f3 42 = .ok (.istore_n 0, 1) := by decide +kernel
theorem dJ6_getChars_ba4f3_43 : decode cJ6_getChars_ba4f3 43 = .ok (.aload_n 2, 1) := by decide +kernel
theorem dJ6_getChars_ba4f3_44 : decode cJ6_getChars_ba4f3 44 = .ok (.iinc 5 (-1), 3) := by decide +kernel
theorem dJ6_getChars_ba4f3_47 : decode cJ6_getChars_ba4f3 47 = .ok (.iload 5, 2) := by decide +kernel
theorem dJ6_getChars_ba4f3_49 : decode cJ6_getChars_ba4f3 49 = .ok (.getstatic 83, 3) := by decide +kernel
theorem dJ6_getChars_ba4f3_52 : decode cJ6_getChars_ba4f3 52 = .ok (.iload 4, 2) := by decide +kernel
theorem dJ6_getChars_ba4f3_54 : decode cJ6_getChars_ba4f3 54 = .ok (.baload, 1) := by decide +kernel
theorem dJ6_getChars_ba4f3_55 : decode cJ6_getChars_ba4f3 55 = .ok (.bastore, 1) := by decide +kernel
theorem dJ6_getChars_ba4f3_56 : decode cJ6_getChars_ba4f3 56 = .ok (.aload_n 2, 1) := by decide +kernel
theorem dJ6_getChars_ba4f3_57 : decode cJ6_getChars_ba4f3 57 = .ok (.iinc 5 (-1), 3) := by decide +kernel
theorem dJ6_getChars_ba4f3_60 : decode cJ6_getChars_ba4f3 60 = .ok (.iload 5, 2) := by decide +kernel
theorem dJ6_getChars_ba4f3_62 : decode cJ6_getChars_ba4f3 62 = .ok (.getstatic 87, 3) := by decide +kernel
theorem dJ6_getChars_ba4f3_65 : decode cJ6_getChars_ba4f3 65 = .ok (.iload 4, 2) := by decide +kernel
theorem dJ6_getChars_ba4f3_67 : decode cJ6_getChars_ba4f3 67 = .ok (.baload, 1) := by decide +kernel
theorem dJ6_getChars_ba4f3_68 : decode cJ6_getChars_ba4f3 68 = .ok (.bastore, 1) := by decide +kernel
theorem dJ6_getChars_ba4f3_69 : decode cJ6_getChars_ba4f3 69 = .ok (.goto (-47), 3) := by decide +kernel
theorem dJ6_getChars_ba4f3_72 : decode cJ6_getChars_ba4f3 72 = .ok (.aload_n 2, 1) := by decide +kernel
theorem dJ6_getChars_ba4f3_73 : decode cJ6_getChars_ba4f3 73 = .ok (.iinc 5 (-1), 3) := by decide +kernel
theorem dJ6_getChars_ba4f3_76 : decode cJ6_getChars_ba4f3 76 = .ok (.iload 5, 2) := by decide +kernel
theorem dJ6_getChars_ba4f3_78 : decode cJ6_getChars_ba4f3 78 = .ok (.getstatic 83, 3) := by decide +kernel
theorem dJ6_getChars_ba4f3_81 : decode cJ6_getChars_ba4f3 81 = .ok (.iload_n 0, 1) := by decide +kernel
theorem dJ6_getChars_ba4f3_82 : decode cJ6_getChars_ba4f3 82 = .ok (.ineg, 1) := by decide +kernel
theorem dJ6_getChars_ba4f3_83 : decode cJ6_getChars_ba4f3 83 = .ok (.baload, 1) := by decide +kernel
theorem dJ6_getChars_ba4f3_84 : decode cJ6_getChars_ba4f3 84 = .ok (.bastore, 1) := by decide +kernel
theorem dJ6_getChars_ba4f3_85 : decode cJ6_getChars_ba4f3 85 = .ok (.iload_n 0, 1) := by decide +kernel
theorem dJ6_getChars_ba4f3_86 : decode cJ6_getChars_ba4f3 86 = .ok (.bipush (-9), 2) := by decide +kernel
theorem dJ6_getChars_ba4f3_88 : decode cJ6_getChars_ba4f3 88 = .ok (.if_icmp .ge 16, 3) := by decide +kernel
theorem dJ6_getChars_ba4f3_91 : decode cJ6_getChars_ba4f3 91 = .ok (.aload_n 2, 1) := by decide +kernel
theorem dJ6_getChars_ba4f3_92 : decode cJ6_getChars_ba4f3 92 = .ok (.iinc 5 (-1), 3) := by decide +kernel
theorem dJ6_getChars_ba4f3_95 : decode cJ6_getChars_ba4f3 95 = .ok (.iload 5, 2) := by decide +kernel
theorem dJ6_getChars_ba4f3_97 : decode cJ6_getChars_ba4f3 97 = .ok (.getstatic 87, 3) := by decide +kernel
theorem dJ6_getChars_ba4f3_100 : decode cJ6_getChars_ba4f3 100 = .ok (.iload_n 0, 1) := by decide +kernel
theorem dJ6_getChars_ba4f3_101 : decode cJ6_getChars_ba4f3 101 = .ok (.ineg, 1) := by decide +kernel
theorem dJ6_getChars_ba4f3_102 : decode cJ6_getChars_ba4f3 102 = .ok (.baload, 1) := by decide +kernel
theorem dJ6_getChars_ba4f3_103 : decode cJ6_getChars_ba4f3 103 = .ok (.bastore, 1) := by decide +kernel
theorem dJ6_getChars_ba4f3_104 : decode cJ6_getChars_ba4f3 104 = .ok (.iload 6, 2) := by decide +kernel
theorem dJ6_getChars_ba4f3_106 : decode cJ6_getChars_ba4f3 106 = .ok (.ifCond .eq 12, 3) := by decide +kernel
theorem dJ6_getChars_ba4f3_109 : decode cJ6_getChars_ba4f3 109 = .ok (.aload_n 2, 1) := by decide +kernel
theorem dJ6_getChars_ba4f3_110 : decode cJ6_getChars_ba4f3 110 = .ok (.iinc 5 (-1), 3) := by decide +kernel
theorem dJ6_getChars_ba4f3_113 : decode cJ6_getChars_ba4f3 113 = .ok (.iload 5, 2) := by decide +kernel
theorem dJ6_getChars_ba4f3_115 : decode cJ6_getChars_ba4f3 115 = .ok (.bipush 45, 2) := by decide +kernel
theorem dJ6_getChars_ba4f3_117 : decode cJ6_getChars_ba4f3 117 = .ok (.bastore, 1) := by decide +kernel
theorem dJ6_getChars_ba4f3_118 : decode cJ6_getChars_ba4f3 118 = .ok (.iload 5, 2) := by decide +kernel
theorem dJ6_getChars_ba4f3_120 : decode cJ6_getChars_ba4f3 120 = .ok (.ireturn, 1) := by decide +kernel
theorem dJ6_stringSize_0f7a4_0 : decode cJ6_stringSize_0f7a4 0 = .ok (.iconst 1, 1) := by decide +kernel
theorem dJ6_stringSize_0f7a4_1 : decode cJ6_stringSize_0f7a4 1 = .ok (.istore_n 1, 1) := by decide +kernel
theorem dJ6_stringSize_0f7a4_2 : decode cJ6_stringSize_0f7a4 2 = .ok (.iload_n 0, 1) := by decide +kernel
theorem dJ6_stringSize_0f7a4_3 : decode cJ6_stringSize_0f7a4 3 = .ok (.ifCond .lt 8, 3) := by decide +kernel
theorem dJ6_stringSize_0f7a4_6 : decode cJ6_stringSize_0f7a4 6 = .ok (.iconst 0, 1) := by decide +kernel
theorem dJ6_stringSize_0f7a4_7 : decode cJ6_stringSize_0f7a4 7 = .ok (.istore_n 1, 1) := by decide +kernel
theorem dJ6_stringSize_0f7a4_8 : decode cJ6_stringSize_0f7a4 8 = .ok (.iload_n 0, 1) := by decide +kernel
theorem dJ6_stringSize_0f7a4_9 : decode cJ6_stringSize_0f7a4 9 = .ok (.ineg, 1) := by decide +kernel
theorem dJ6_stringSize_0f7a4_10 : decode cJ6_stringSize_0f7a4 10 = .ok (.istore_n 0, 1) := by decide +kernel
theorem dJ6_stringSize_0f7a4_11 : decode cJ6_stringSize_0f7a4 11 = .ok (.bipush (-10), 2) := by decide +kernel
theorem dJ6_stringSize_0f7a4_13 : decode cJ6_stringSize_0f7a4 13 = .ok (.istore_n 2, 1) := by decide +kernel
theorem dJ6_stringSize_0f7a4_14 : decode cJ6_stringSize_0f7a4 14 = .ok (.iconst 1, 1) := by decide +kernel
theorem dJ6_stringSize_0f7a4_15 : decode cJ6_stringSize_0f7a4 15 = .ok (.istore_n 3, 1) := by decide +kernel
theorem dJ6_stringSize_0f7a4_16 : decode cJ6_stringSize_0f7a4 16 = .ok (.iload_n 3, 1) := by decide +kernel
theorem dJ6_stringSize_0f7a4_17 : decode cJ6_stringSize_0f7a4 17 = .ok (.bipush 10, 2) := by decide +kernel
theorem dJ6_stringSize_0f7a4_19 : decode cJ6_stringSize_0f7a4 19 = .ok (.if_icmp .ge 23, 3) := by decide +kernel
theorem dJ6_stringSize_0f7a4_22 : decode cJ6_stringSize_0f7a4 22 = .ok (.iload_n 0, 1) := by decide +kernel
theorem dJ6_stringSize_0f7a4_23 : decode cJ6_stringSize_0f7a4 23 = .ok (.iload_n 2, 1) := by decide +kernel
theorem dJ6_stringSize_0f7a4_24 : decode cJ6_stringSize_0f7a4 24 = .ok (.if_icmp .le 7, 3) := by decide +kernel
theorem dJ6_stringSize_0f7a4_27 : decode cJ6_stringSize_0f7a4 27 = .ok (.iload_n 3, 1) := by decide +kernel
theorem dJ6_stringSize_0f7a4_28 : decode cJ6_stringSize_0f7a4 28 = .ok (.iload_n 1, 1) := by decide +kernel
theorem dJ6_stringSize_0f7a4_29 : decode cJ6_stringSize_0f7a4 29 = .ok (.iadd, 1) := by decide +kernel
theorem dJ6_stringSize_0f7a4_30 : decode cJ6_stringSize_0f7a4 30 = .ok (.ireturn, 1) := by decide +kernel
theorem dJ6_stringSize_0f7a4_31 : decode cJ6_stringSize_0f7a4 31 = .ok (.bipush 10, 2) := by decide +kernel
theorem dJ6_stringSize_0f7a4_33 : decode cJ6_stringSize_0f7a4 33 = .ok (.iload_n 2, 1) := by decide +kernel
theorem dJ6_stringSize_0f7a4_34 : decode cJ6_stringSize_0f7a4 34 = .ok (.imul, 1) := by decide +kernel
theorem dJ6_stringSize_0f7a4_35 : decode cJ6_stringSize_0f7a4 35 = .ok (.istore_n 2, 1) := by decide +kernel
theorem dJ6_stringSize_0f7a4_36 : decode cJ6_stringSize_0f7a4 36 = .ok (.iinc 3 1, 3) := by decide +kernel
theorem dJ6_stringSize_0f7a4_39 : decode cJ6_stringSize_0f7a4 39 = .ok (.goto (-23), 3) := by decide +kernel
theorem dJ6_stringSize_0f7a4_42 : decode cJ6_stringSize_0f7a4 42 = .ok (.bipush 10, 2) := by decide +kernel
theorem dJ6_stringSize_0f7a4_44 : decode cJ6_stringSize_0f7a4 44 = .ok (.iload_n 1, 1) := by decide +kernel
theorem dJ6_stringSize_0f7a4_45 : decode cJ6_stringSize_0f7a4 45 = .ok (.iadd, 1) := by decide +kernel
theorem dJ6_stringSize_0f7a4_46 : decode cJ6_stringSize_0f7a4 46 = .ok (.ireturn, 1) := by decide +kernel
theorem dJ6_bitCount_0f7a4_0 : decode cJ6_bitCount_0f7a4 0 = .ok (.iload_n 0, 1) := by decide +kernel
theorem dJ6_bitCount_0f7a4_1 : decode cJ6_bitCount_0f7a4 1 = .ok (.iload_n 0, 1) := by decide +kernel
theorem dJ6_bitCount_0f7a4_2 : decode cJ6_bitCount_0f7a4 2 = .ok (.iconst 1, 1) := by decide +kernel
theorem dJ6_bitCount_0f7a4_3 : decode cJ6_bitCount_0f7a4 3 = .ok (.iushr, 1) := by decide +kernel
theorem dJ6_bitCount_0f7a4_4 : decode cJ6_bitCount_0f7a4 4 = .ok (.ldc_w 265, 3) := by decide +kernel
theorem dJ6_bitCount_0f7a4_7 : decode cJ6_bitCount_0f7a4 7 = .ok (.iand, 1) := by decide +kernel
theorem dJ6_bitCount_0f7a4_8 : decode cJ6_bitCount_0f7a4 8 = .ok (.isub, 1) := by decide +kernel
theorem dJ6_bitCount_0f7a4_9 : decode cJ6_bitCount_0f7a4 9 = .ok (.istore_n 0, 1) := by decide +kernel
theorem dJ6_bitCount_0f7a4_10 : decode cJ6_bitCount_0f7a4 10 = .ok (.iload_n 0, 1) := by decide +kernel
theorem dJ6_bitCount_0f7a4_11 : decode cJ6_bitCount_0f7a4 11 = .ok (.ldc_w 266, 3) := by decide +kernel
theorem dJ6_bitCount_0f7a4_14 : decode cJ6_bitCount_0f7a4 14 = .ok (.iand, 1) := by decide +kernel
theorem dJ6_bitCount_0f7a4_15 : decode cJ6_bitCount_0f7a4 15 = .ok (.iload_n 0, 1) := by decide +kernel
theorem dJ6_bitCount_0f7a4_16 : decode cJ6_bitCount_0f7a4 16 = .ok (.iconst 2, 1) := by decide +kernel
theorem dJ6_bitCount_0f7a4_17 : decode cJ6_bitCount_0f7a4 17 = .ok (.iushr, 1) := by decide +kernel
theorem dJ6_bitCount_0f7a4_18 : decode cJ6_bitCount_0f7a4 18 = .ok (.ldc_w 266, 3) := by decide +kernel
theorem dJ6_bitCount_0f7a4_21 : decode cJ6_bitCount_0f7a4 21 = .ok (.iand, 1) := by decide +kernel
theorem dJ6_bitCount_0f7a4_22 : decode cJ6_bitCount_0f7a4 22 = .ok (.iadd, 1) := by decide +kernel
theorem dJ6_bitCount_0f7a4_23 : decode cJ6_bitCount_0f7a4 23 = .ok (.istore_n 0, 1) := by decide +kernel
theorem dJ6_bitCount_0f7a4_24 : decode cJ6_bitCount_0f7a4 24 = .ok (.iload_n 0, 1) := by decide +kernel
theorem dJ6_bitCount_0f7a4_25 : decode cJ6_bitCount_0f7a4 25 = .ok (.iload_n 0, 1) := by decide +kernel
theorem dJ6_bitCount_0f7a4_26 : decode cJ6_bitCount_0f7a4 26 = .ok (.iconst 4, 1) := by decide +kernel
theorem dJ6_bitCount_0f7a4_27 : decode cJ6_bitCount_0f7a4 27 = .ok (.iushr, 1) := by decide +kernel
theorem dJ6_bitCount_0f7a4_28 : decode cJ6_bitCount_0f7a4 28 = .ok (.iadd, 1) := by decide +kernel
theorem dJ6_bitCount_0f7a4_29 : decode cJ6_bitCount_0f7a4 29 = .ok (.ldc_w 267, 3) := by decide +kernel
theorem dJ6_bitCount_0f7a4_32 : decode cJ6_bitCount_0f7a4 32 = .ok (.iand, 1) := by decide +kernel
theorem dJ6_bitCount_0f7a4_33 : decode cJ6_bitCount_0f7a4 33 = .ok (.istore_n 0, 1) := by decide +kernel
theorem dJ6_bitCount_0f7a4_34 : decode cJ6_bitCount_0f7a4 34 = .ok (.iload_n 0, 1) := by decide +kernel
theorem dJ6_bitCount_0f7a4_35 : decode cJ6_bitCount_0f7a4 35 = .ok (.iload_n 0, 1) := by decide +kernel
theorem dJ6_bitCount_0f7a4_36 : decode cJ6_bitCount_0f7a4 36 = .ok (.bipush 8, 2) := by decide +kernel
theorem dJ6_bitCount_0f7a4_38 : decode cJ6_bitCount_0f7a4 38 = .ok (.iushr, 1) := by decide +kernel
theorem dJ6_bitCount_0f7a4_39 : decode cJ6_bitCount_0f7a4 39 = .ok (.iadd, 1) := by decide +kernel
theorem dJ6_bitCount_0f7a4_40 : decode cJ6_bitCount_0f7a4 40 = .ok (.istore_n 0, 1) := by decide +kernel
theorem dJ6_bitCount_0f7a4_41 : decode cJ6_bitCount_0f7a4 41 = .ok (.iload_n 0, 1) := by decide +kernel
theorem dJ6_bitCount_0f7a4_42 : decode cJ6_bitCount_0f7a4 42 = .ok (.iload_n 0, 1) := by decide +kernel
theorem dJ6_bitCount_0f7a4_43 : decode cJ6_bitCount_0f7a4 43 = .ok (.bipush 16, 2) := by decide +kernel
theorem dJ6_bitCount_0f7a4_45 : decode cJ6_bitCount_0f7a4 45 = .ok (.iushr, 1) := by decide +kernel
theorem dJ6_bitCount_0f7a4_46 : decode cJ6_bitCount_0f7a4 46 = .ok (.iadd, 1) := by decide +kernel
theorem dJ6_bitCount_0f7a4_47 : decode cJ6_bitCount_0f7a4 47 = .ok (.istore_n 0, 1) := by decide +kernel
theorem dJ6_bitCount_0f7a4_48 : decode cJ6_bitCount_0f7a4 48 = .ok (.iload_n 0, 1) := by decide +kernel
theorem dJ6_bitCount_0f7a4_49 : decode cJ6_bitCount_0f7a4 49 = .ok (.bipush 63, 2) := by decide +kernel
theorem dJ6_bitCount_0f7a4_51 : decode cJ6_bitCount_0f7a4 51 = .ok (.iand, 1) := by decide +kernel
theorem dJ6_bitCount_0f7a4_52 : decode cJ6_bitCount_0f7a4 52 = .ok (.ireturn, 1) := by decide +kernel
theorem dJ9_max_7cf53_0 : decode cJ9_max_7cf53 0 = .ok (.iload_n 0, 1) := by decide +kernel
theorem dJ9_max_7cf53_1 : decode cJ9_max_7cf53 1 = .ok (.iload_n 1, 1) := by decide +kernel
theorem dJ9_max_7cf53_2 : decode cJ9_max_7cf53 2 = .ok (.if_icmp .lt 7, 3) := by decide +kernel
theorem dJ9_max_7cf53_5 : decode cJ9_max_7cf53 5 = .ok (.iload_n 0, 1) := by decide +kernel
theorem dJ9_max_7cf53_6 : decode cJ9_max_7cf53 6 = .ok (.goto 4, 3) := by decide +kernel
theorem dJ9_max_7cf53_9 : decode cJ9_max_7cf53 9 = .ok (.iload_n 1, 1) := by decide +kernel
theorem dJ9_max_7cf53_10 : decode cJ9_max_7cf53 10 = .ok (.ireturn, 1) := by decide +kernel
theorem dJ9_max_f86c9_0 : decode cJ9_max_f86c9 0 = .ok (.lload_n 0, 1) := by decide +kernel
theorem dJ9_max_f86c9_1 : decode cJ9_max_f86c9 1 = .ok (.lload_n 2, 1) := by decide +kernel
theorem dJ9_max_f86c9_2 : decode cJ9_max_f86c9 2 = .ok (.lcmp, 1) := by decide +kernel
theorem dJ9_max_f86c9_3 : decode cJ9_max_f86c9 3 = .ok (.ifCond .lt 7, 3) := by decide +kernel
theorem dJ9_max_f86c9_6 : decode cJ9_max_f86c9 6 = .ok (.lload_n 0, 1) := by decide +kernel
theorem dJ9_max_f86c9_7 : decode cJ9_max_f86c9 7 = .ok (.goto 4, 3) := by decide +kernel
theorem dJ9_max_f86c9_10 : decode cJ9_max_f86c9 10 = .ok (.lload_n 2, 1) := by decide +kernel
theorem dJ9_max_f86c9_11 : decode cJ9_max_f86c9 11 = .ok (.lreturn, 1) := by decide +kernel
theorem dJ9_min_7cf53_0 : decode cJ9_min_7cf53 0 = .ok (.iload_n 0, 1) := by decide +kernel
theorem dJ9_min_7cf53_1 : decode cJ9_min_7cf53 1 = .ok (.iload_n 1, 1) := by decide +kernel
theorem dJ9_min_7cf53_2 : decode cJ9_min_7cf53 2 = .ok (.if_icmp .gt 7, 3) := by decide +kernel
theorem dJ9_min_7cf53_5 : decode cJ9_min_7cf53 5 = .ok (.iload_n 0, 1) := by decide +kernel
theorem dJ9_min_7cf53_6 : decode cJ9_min_7cf53 6 = .ok (.goto 4, 3) := by decide +kernel
theorem dJ9_min_7cf53_9 : decode cJ9_min_7cf53 9 = .ok (.iload_n 1, 1) := by decide +kernel
theorem dJ9_min_7cf53_10 : decode cJ9_min_7cf53 10 = .ok (.ireturn, 1) := by decide +kernel
theorem dJ0_init_81219_0 : decode cJ0_init_81219 0 = .ok (.aload_n 0, 1) := by decide +kernel
theorem dJ0_init_81219_1 : decode cJ0_init_81219 1 = .ok (.aload_n 1, 1) := by decide +kernel
theorem dJ0_init_81219_2 : decode cJ0_init_81219 2 = .ok (.aconst_null, 1) := by decide +kernel
theorem dJ0_init_81219_3 : decode cJ0_init_81219 3 = .ok (.invokespecial 489, 3) := by decide +kernel
theorem dJ0_init_81219_6 : decode cJ0_init_81219 6 = .ok (.return_, 1) := by decide +kernel
theorem dJ0_length_8abf5_0 : decode cJ0_length_8abf5 0 = .ok (.aload_n 0, 1) := by decide +kernel
theorem dJ0_length_8abf5_1 : decode cJ0_length_8abf5 1 = .ok (.getfield 9, 3) := by decide +kernel
theorem dJ0_length_8abf5_4 : decode cJ0_length_8abf5 4 = .ok (.arraylength, 1) := by decide +kernel
theorem dJ0_length_8abf5_5 : decode cJ0_length_8abf5 5 = .ok (.aload_n 0, 1) := by decide +kernel
theorem dJ0_length_8abf5_6 : decode cJ0_length_8abf5 6 = .ok (.invokevirtual 335, 3) := by decide +kernel
theorem dJ0_length_8abf5_9 : decode cJ0_length_8abf5 9 = .ok (.ishr, 1) := by decide +kernel
theorem dJ0_length_8abf5_10 : decode cJ0_length_8abf5 10 = .ok (.ireturn, 1) := by decide +kernel
theorem dJ0_charAt_5068e_0 : decode cJ0_charAt_5068e 0 = .ok (.aload_n 0, 1) := by decide +kernel
theorem dJ0_charAt_5068e_1 : decode cJ0_charAt_5068e 1 = .ok (.invokevirtual 492, 3) := by decide +kernel
theorem dJ0_charAt_5068e_4 : decode cJ0_charAt_5068e 4 = .ok (.ifCond .eq 12, 3) := by decide +kernel
theorem dJ0_charAt_5068e_7 : decode cJ0_charAt_5068e 7 = .ok (.aload_n 0, 1) := by decide +kernel
theorem dJ0_charAt_5068e_8 : decode cJ0_charAt_5068e 8 = .ok (.getfield 9, 3) := by decide +kernel
theorem dJ0_charAt_5068e_11 : decode cJ0_charAt_5068e 11 = .ok (.iload_n 1, 1) := by decide +kernel
theorem dJ0_charAt_5068e_12 : decode cJ0_charAt_5068e 12 = .ok (.invokestatic 495, 3) := by decide +kernel
theorem dJ0_charAt_5068e_15 : decode cJ0_charAt_5068e 15 = .ok (.ireturn, 1) := by decide +kernel
theorem dJ0_charAt_5068e_16 : decode cJ0_charAt_5068e 16 = .ok (.aload_n 0, 1) := by decide +kernel
theorem dJ0_charAt_5068e_17 : decode cJ0_charAt_5068e 17 = .ok (.getfield 9, 3) := by decide +kernel
theorem dJ0_charAt_5068e_20 : decode cJ0_charAt_5068e 20 = .ok (.iload_n 1, 1) := by decide +kernel
theorem dJ0_charAt_5068e_21 : decode cJ0_charAt_5068e 21 = .ok (.invokestatic 498, 3) := by decide +kernel
theorem dJ0_charAt_5068e_24 : decode cJ0_charAt_5068e 24 = .ok (.ireturn, 1) := by decide +kernel
theorem dJ0_getBytes_840e7_0 : decode cJ0_getBytes_840e7 0 = .ok (.aload_n 0, 1) := by decide +kernel
theorem dJ0_getBytes_840e7_1 : decode cJ0_getBytes_840e7 1 = .ok (.invokevirtual 335, 3) := by decide +kernel
theorem dJ0_getBytes_840e7_4 : decode cJ0_getBytes_840e7 4 = .ok (.iload_n 3, 1) := by decide +kernel
theorem dJ0_getBytes_840e7_5 : decode cJ0_getBytes_840e7 5 = .ok (.if_icmp .ne 23, 3) := by decide +kernel
theorem dJ0_getBytes_840e7_8 : decode cJ0_getBytes_840e7 8 = .ok (.aload_n 0, 1) := by decide +kernel
theorem dJ0_getBytes_840e7_9 : decode cJ0_getBytes_840e7 9 = .ok (.getfield 9, 3) := by decide +kernel
theorem dJ0_getBytes_840e7_12 : decode cJ0_getBytes_840e7 12 = .ok (.iconst 0, 1) := by decide +kernel
theorem dJ0_getBytes_840e7_13 : decode cJ0_getBytes_840e7 13 = .ok (.aload_n 1, 1) := by decide +kernel
theorem dJ0_getBytes_840e7_14 : decode cJ0_getBytes_840e7 14 = .ok (.iload_n 2, 1) := by decide +kernel
theorem dJ0_getBytes_840e7_15 : decode cJ0_getBytes_840e7 15 = .ok (.iload_n 3, 1) := by decide +kernel
theorem dJ0_getBytes_840e7_16 : decode cJ0_getBytes_840e7 16 = .ok (.ishl, 1) := by decide +kernel
theorem dJ0_getBytes_840e7_17 : decode cJ0_getBytes_840e7 17 = .ok (.aload_n 0, 1) := by decide +kernel
theorem dJ0_getBytes_840e7_18 : decode cJ0_getBytes_840e7 18 = .ok (.getfield 9, 3) := by decide +kernel
theorem dJ0_getBytes_840e7_21 : decode cJ0_getBytes_840e7 21 = .ok (.arraylength, 1) := by decide +kernel
theorem dJ0_getBytes_840e7_22 : decode cJ0_getBytes_840e7 22 = .ok (.invokestatic 212, 3) := by decide +kernel
theorem dJ0_getBytes_840e7_25 : decode cJ0_getBytes_840e7 25 = .ok (.goto 18, 3) := by decide +kernel
theorem dJ0_getBytes_840e7_28 : decode cJ0_getBytes_840e7 28 = .ok (.aload_n 0, 1) := by decide +kernel
theorem dJ0_getBytes_840e7_29 : decode cJ0_getBytes_840e7 29 = .ok (.getfield 9, 3) := by decide +kernel
theorem dJ0_getBytes_840e7_32 : decode cJ0_getBytes_840e7 32 = .ok (.iconst 0, 1) := by decide +kernel
theorem dJ0_getBytes_840e7_33 : decode cJ0_getBytes_840e7 33 = .ok (.aload_n 1, 1) := by decide +kernel
theorem dJ0_getBytes_840e7_34 : decode cJ0_getBytes_840e7 34 = .ok (.iload_n 2, 1) := by decide +kernel
theorem dJ0_getBytes_840e7_35 : decode cJ0_getBytes_840e7 35 = .ok (.aload_n 0, 1) := by decide +kernel
theorem dJ0_getBytes_840e7_36 : decode cJ0_getBytes_840e7 36 = .ok (.getfield 9, 3) := by decide +kernel
theorem dJ0_getBytes_840e7_39 : decode cJ0_getBytes_840e7 39 = .ok (.arraylength, 1) := by decide +kernel
theorem dJ0_getBytes_840e7_40 : decode cJ0_getBytes_840e7 40 = .ok (.invokestatic 106, 3) := by decide +kernel
theorem dJ0_getBytes_840e7_43 : decode cJ0_getBytes_840e7 43 = .ok (.return_, 1) := by decide +kernel
theorem dJ0_init_db425_0 : decode cJ0_init_db425 0 = .ok (.aload_n 0, 1) := by decide +kernel
theorem dJ0_init_db425_1 : decode cJ0_init_db425 1 = .ok (.invokespecial 1, 3) := by decide +kernel
theorem dJ0_init_db425_4 : decode cJ0_init_db425 4 = .ok (.aload_n 1, 1) := by decide +kernel
theorem dJ0_init_db425_5 : decode cJ0_init_db425 5 = .ok (.invokevirtual 552, 3) := by decide +kernel
theorem dJ0_init_db425_8 : decode cJ0_init_db425 8 = .ok (.astore_n 3, 1) := by decide +kernel
theorem dJ0_init_db425_9 : decode cJ0_init_db425 9 = .ok (.aload_n 1, 1) := by decide +kernel
theorem dJ0_init_db425_10 : decode cJ0_init_db425 10 = .ok (.invokevirtual 549, 3) := by decide +kernel
theorem dJ0_init_db425_13 : decode cJ0_init_db425 13 = .ok (.istore 4, 2) := by decide +kernel
theorem dJ0_init_db425_15 : decode cJ0_init_db425 15 = .ok (.aload_n 1, 1) := by decide +kernel
theorem dJ0_init_db425_16 : decode cJ0_init_db425 16 = .ok (.invokevirtual 1047, 3) := by decide +kernel
theorem dJ0_init_db425_19 : decode cJ0_init_db425 19 = .ok (.ifCond .eq 22, 3) := by decide +kernel
theorem dJ0_init_db425_22 : decode cJ0_init_db425 22 = .ok (.aload_n 0, 1) := by decide +kernel
theorem dJ0_init_db425_23 : decode cJ0_init_db425 23 = .ok (.iconst 0, 1) := by decide +kernel
theorem dJ0_init_db425_24 : decode cJ0_init_db425 24 = .ok (.putfield 15, 3) := by decide +kernel
theorem dJ0_init_db425_27 : decode cJ0_init_db425 27 = .ok (.aload_n 0, 1) := by decide +kernel
theorem dJ0_init_db425_28 : decode cJ0_init_db425 28 = .ok (.aload_n 3, 1) := by decide +kernel
theorem dJ0_init_db425_29 : decode cJ0_init_db425 29 = .ok (.iconst 0, 1) := by decide +kernel
theorem dJ0_init_db425_30 : decode cJ0_init_db425 30 = .ok (.iload 4, 2) := by decide +kernel
theorem dJ0_init_db425_32 : decode cJ0_init_db425 32 = .ok (.invokestatic 54, 3) := by decide +kernel
theorem dJ0_init_db425_35 : decode cJ0_init_db425 35 = .ok (.putfield 9, 3) := by decide +kernel
theorem dJ0_init_db425_38 : decode cJ0_init_db425 38 = .ok (.goto 59, 3) := by decide +kernel
theorem dJ0_init_db425_41 : decode cJ0_init_db425 41 = .ok (.getstatic 38, 3) := by decide +kernel
theorem dJ0_init_db425_44 : decode cJ0_init_db425 44 = .ok (.ifCond .eq 35, 3) := by decide +kernel
theorem dJ0_init_db425_47 : decode cJ0_init_db425 47 = .ok (.aload_n 1, 1) := by decide +kernel
theorem dJ0_init_db425_48 : decode cJ0_init_db425 48 = .ok (.getfield 1048, 3) := by decide +kernel
theorem dJ0_init_db425_51 : decode cJ0_init_db425 51 = .ok (.ifCond .eq 28, 3) := by decide +kernel
theorem dJ0_init_db425_54 : decode cJ0_init_db425 54 = .ok (.aload_n 0, 1) := by decide +kernel
theorem dJ0_init_db425_55 : decode cJ0_init_db425 55 = .ok (.aload_n 3, 1) := by decide +kernel
theorem dJ0_init_db425_56 : decode cJ0_init_db425 56 = .ok (.iconst 0, 1) := by decide +kernel
theorem dJ0_init_db425_57 : decode cJ0_init_db425 57 = .ok (.iload 4, 2) := by decide +kernel
theorem dJ0_init_db425_59 : decode cJ0_init_db425 59 = .ok (.invokestatic 1051, 3) := by decide +kernel
theorem dJ0_init_db425_62 : decode cJ0_init_db425 62 = .ok (.putfield 9, 3) := by decide +kernel
theorem dJ0_init_db425_65 : decode cJ0_init_db425 65 = .ok (.aload_n 0, 1) := by decide +kernel
theorem dJ0_init_db425_66 : decode cJ0_init_db425 66 = .ok (.aload_n 0, 1) := by decide +kernel
theorem dJ0_init_db425_67 : decode cJ0_init_db425 67 = .ok (.getfield 9, 3) := by decide +kernel
theorem dJ0_init_db425_70 : decode cJ0_init_db425 70 = .ok (.iload 4, 2) := by decide +kernel
theorem dJ0_init_db425_72 : decode cJ0_init_db425 72 = .ok (.invokestatic 47, 3) := by decide +kernel
theorem dJ0_init_db425_75 : decode cJ0_init_db425 75 = .ok (.putfield 15, 3) := by decide +kernel
theorem dJ0_init_db425_78 : decode cJ0_init_db425 78 = .ok (.return_, 1) := by decide +kernel
theorem dJ0_init_db425_79 : decode cJ0_init_db425 79 = .ok (.aload_n 0, 1) := by decide +kernel
theorem dJ0_init_db425_80 : decode cJ0_init_db425 80 = .ok (.iconst 1, 1) := by decide +kernel
theorem dJ0_init_db425_81 : decode cJ0_init_db425 81 = .ok (.putfield 15, 3) := by decide +kernel
theorem dJ0_init_db425_84 : decode cJ0_init_db425 84 = .ok (.aload_n 0, 1) := by decide +kernel
theorem dJ0_init_db425_85 : decode cJ0_init_db425 85 = .ok (.aload_n 3, 1) := by decide +kernel
theorem dJ0_init_db425_86 : decode cJ0_init_db425 86 = .ok (.iconst 0, 1) := by decide +kernel
theorem dJ0_init_db425_87 : decode cJ0_init_db425 87 = .ok (.iload 4, 2) := by decide +kernel
theorem dJ0_init_db425_89 : decode cJ0_init_db425 89 = .ok (.iconst 1, 1) := by decide +kernel
theorem dJ0_init_db425_90 : decode cJ0_init_db425 90 = .ok (.ishl, 1) := by decide +kernel
theorem dJ0_init_db425_91 : decode cJ0_init_db425 91 = .ok (.invokestatic 54, 3) := by decide +kernel
theorem dJ0_init_db425_94 : decode cJ0_init_db425 94 = .ok (.putfield 9, 3) := by decide +kernel
theorem dJ0_init_db425_97 : decode cJ0_init_db425 97 = .ok (.return_, 1) := by decide +kernel
theorem dJ0_coder_7d493_0 : decode cJ0_coder_7d493 0 = .ok (.getstatic 38, 3) := by decide +kernel
theorem dJ0_coder_7d493_3 : decode cJ0_coder_7d493 3 = .ok (.ifCond .eq 10, 3) := by decide +kernel
theorem dJ0_coder_7d493_6 : decode cJ0_coder_7d493 6 = .ok (.aload_n 0, 1) := by decide +kernel
theorem dJ0_coder_7d493_7 : decode cJ0_coder_7d493 7 = .ok (.getfield 15, 3) := by decide +kernel
theorem dJ0_coder_7d493_10 : decode cJ0_coder_7d493 10 = .ok (.goto 4, 3) := by decide +kernel
theorem dJ0_coder_7d493_13 : decode cJ0_coder_7d493 13 = .ok (.iconst 1, 1) := by decide +kernel
theorem dJ0_coder_7d493_14 : decode cJ0_coder_7d493 14 = .ok (.ireturn, 1) := by decide +kernel
theorem dJ0_isLatin1_aae02_0 : decode cJ0_isLatin1_aae02 0 = .ok (.getstatic 38, 3) := by decide +kernel
theorem dJ0_isLatin1_aae02_3 : decode cJ0_isLatin1_aae02 3 = .ok (.ifCond .eq 14, 3) := by decide +kernel
theorem dJ0_isLatin1_aae02_6 : decode cJ0_isLatin1_aae02 6 = .ok (.aload_n 0, 1) := by decide +kernel
theorem dJ0_isLatin1_aae02_7 : decode cJ0_isLatin1_aae02 7 = .ok (.getfield 15, 3) := by decide +kernel
theorem dJ0_isLatin1_aae02_10 : decode cJ0_isLatin1_aae02 10 = .ok (.ifCond .ne 7, 3) := by decide +kernel
theorem dJ0_isLatin1_aae02_13 : decode cJ0_isLatin1_aae02 13 = .ok (.iconst 1, 1) := by decide +kernel
theorem dJ0_isLatin1_aae02_14 : decode cJ0_isLatin1_aae02 14 = .ok (.goto 4, 3) := by decide +kernel
theorem dJ0_isLatin1_aae02_17 : decode cJ0_isLatin1_aae02 17 = .ok (.iconst 0, 1) := by decide +kernel
theorem dJ0_isLatin1_aae02_18 : decode cJ0_isLatin1_aae02 18 = .ok (.ireturn, 1) := by decide +kernel
theorem dJ0_checkIndex_df160_0 : decode cJ0_checkIndex_df160 0 = .ok (.iload_n 0, 1) := by decide +kernel
theorem dJ0_checkIndex_df160_1 : decode cJ0_checkIndex_df160 1 = .ok (.iload_n 1, 1) := by decide +kernel
theorem dJ0_checkIndex_df160_2 : decode cJ0_checkIndex_df160 2 = .ok (.getstatic 1053, 3) := by decide +kernel
theorem dJ0_checkIndex_df160_5 : decode cJ0_checkIndex_df160 5 = .ok (.invokestatic 1059, 3) := by decide +kernel
theorem dJ0_checkIndex_df160_8 : decode cJ0_checkIndex_df160 8 = .ok (.pop, 1) := by decide +kernel
theorem dJ0_checkIndex_df160_9 : decode cJ0_checkIndex_df160 9 = .ok (.return_, 1) := by decide +kernel
theorem dJ0_checkBoundsOffCount_cabcc_0 : decode cJ0_checkBoundsOffCount_cabcc 0 = .ok (.iload_n 0, 1) := by decide +kernel
theorem dJ0_checkBoundsOffCount_cabcc_1 : decode cJ0_checkBoundsOffCount_cabcc 1 = .ok (.iload_n 1, 1) := by decide +kernel
theorem dJ0_checkBoundsOffCount_cabcc_2 : decode cJ0_checkBoundsOffCount_cabcc 2 = .ok (.iload_n 2, 1) := by decide +kernel
theorem dJ0_checkBoundsOffCount_cabcc_3 : decode cJ0_checkBoundsOffCount_cabcc 3 = .ok (.getstatic 1053, 3) := by decide +kernel
theorem dJ0_checkBoundsOffCount_cabcc_6 : decode cJ0_checkBoundsOffCount_cabcc 6 = .ok (.invokestatic 1065, 3) := by decide +kernel
theorem dJ0_checkBoundsOffCount_cabcc_9 : decode cJ0_checkBoundsOffCount_cabcc 9 = .ok (.ireturn, 1) := by decide +kernel
theorem dJ0_checkBoundsBeginEnd_23922_0 : decode cJ0_checkBoundsBeginEnd_23922 0 = .ok (.iload_n 0, 1) := by decide +kernel
theorem dJ0_checkBoundsBeginEnd_23922_1 : decode cJ0_checkBoundsBeginEnd_23922 1 = .ok (.iload_n 1, 1) := by decide +kernel
theorem dJ0_checkBoundsBeginEnd_23922_2 : decode cJ0_checkBoundsBeginEnd_23922 2 = .ok (.iload_n 2, 1) := by decide +kernel
theorem dJ0_checkBoundsBeginEnd_23922_3 : decode cJ0_checkBoundsBeginEnd_23922 3 = .ok (.getstatic 1053, 3) := by decide +kernel
theorem dJ0_checkBoundsBeginEnd_23922_6 : decode cJ0_checkBoundsBeginEnd_23922 6 = .ok (.invokestatic 1062, 3) := by decide +kernel
theorem dJ0_checkBoundsBeginEnd_23922_9 : decode cJ0_checkBoundsBeginEnd_23922 9 = .ok (.pop, 1) := by decide +kernel
theorem dJ0_checkBoundsBeginEnd_23922_10 : decode cJ0_checkBoundsBeginEnd_23922 10 = .ok (.return_, 1) := by decide +kernel
theorem dJ4_init_da8c8_0 : decode cJ4_init_da8c8 0 = .ok (.aload_n 0, 1) := by decide +kernel
theorem dJ4_init_da8c8_1 : decode cJ4_init_da8c8 1 = .ok (.bipush 16, 2) := by decide +kernel
theorem dJ4_init_da8c8_3 : decode cJ4_init_da8c8 3 = .ok (.invokespecial 1, 3) := by decide +kernel
theorem dJ4_init_da8c8_6 : decode cJ4_init_da8c8 6 = .ok (.return_, 1) := by decide +kernel
theorem dJ4_append_15ec4_0 : decode cJ4_append_15ec4 0 = .ok (.aload_n 0, 1) := by decide +kernel
theorem dJ4_append_15ec4_1 : decode cJ4_append_15ec4 1 = .ok (.aload_n 1, 1) := by decide +kernel
theorem dJ4_append_15ec4_2 : decode cJ4_append_15ec4 2 = .ok (.invokespecial 29, 3) := by decide +kernel
theorem dJ4_append_15ec4_5 : decode cJ4_append_15ec4 5 = .ok (.pop, 1) := by decide +kernel
theorem dJ4_append_15ec4_6 : decode cJ4_append_15ec4 6 = .ok (.aload_n 0, 1) := by decide +kernel
theorem dJ4_append_15ec4_7 : decode cJ4_append_15ec4 7 = .ok (.areturn, 1) := by decide +kernel
theorem dJ4_append_cf468_0 : decode cJ4_append_cf468 0 = .ok (.aload_n 0, 1) := by decide +kernel
theorem dJ4_append_cf468_1 : decode cJ4_append_cf468 1 = .ok (.iload_n 1, 1) := by decide +kernel
theorem dJ4_append_cf468_2 : decode cJ4_append_cf468 2 = .ok (.invokespecial 50, 3) := by decide +kernel
theorem dJ4_append_cf468_5 : decode cJ4_append_cf468 5 = .ok (.pop, 1) := by decide +kernel
theorem dJ4_append_cf468_6 : decode cJ4_append_cf468 6 = .ok (.aload_n 0, 1) := by decide +kernel
theorem dJ4_append_cf468_7 : decode cJ4_append_cf468 7 = .ok (.areturn, 1) := by decide +kernel
theorem dJ4_append_bf812_0 : decode cJ4_append_bf812 0 = .ok (.aload_n 0, 1) := by decide +kernel
theorem dJ4_append_bf812_1 : decode cJ4_append_bf812 1 = .ok (.iload_n 1, 1) := by decide +kernel
theorem dJ4_append_bf812_2 : decode cJ4_append_bf812 2 = .ok (.invokespecial 53, 3) := by decide +kernel
theorem dJ4_append_bf812_5 : decode cJ4_append_bf812 5 = .ok (.pop, 1) := by decide +kernel
theorem dJ4_append_bf812_6 : decode cJ4_append_bf812 6 = .ok (.aload_n 0, 1) := by decide +kernel
theorem dJ4_append_bf812_7 : decode cJ4_append_bf812 7 = .ok (.areturn, 1) := by decide +kernel
theorem dJ4_toString_0e30d_0 : decode cJ4_toString_0e30d 0 = .ok (.new 18, 3) := by decide +kernel
theorem dJ4_toString_0e30d_3 : decode cJ4_toString_0e30d 3 = .ok (.dup, 1) := by decide +kernel
theorem dJ4_toString_0e30d_4 : decode cJ4_toString_0e30d 4 = .ok (.aload_n 0, 1) := by decide +kernel
theorem dJ4_toString_0e30d_5 : decode cJ4_toString_0e30d 5 = .ok (.invokespecial 137, 3) := by decide +kernel
theorem dJ4_toString_0e30d_8 : decode cJ4_toString_0e30d 8 = .ok (.areturn, 1) := by decide +kernel
theorem dJ4_length_8abf5_0 : decode cJ4_length_8abf5 0 = .ok (.aload_n 0, 1) := by decide +kernel
theorem dJ4_length_8abf5_1 : decode cJ4_length_8abf5 1 = .ok (.invokespecial 343, 3) := by decide +kernel
theorem dJ4_length_8abf5_4 : decode cJ4_length_8abf5 4 = .ok (.ireturn, 1) := by decide +kernel
theorem dJ1_charAt_3b067_0 : decode cJ1_charAt_3b067 0 = .ok (.iload_n 1, 1) := by decide +kernel
theorem dJ1_charAt_3b067_1 : decode cJ1_charAt_3b067 1 = .ok (.aload_n 0, 1) := by decide +kernel
theorem dJ1_charAt_3b067_2 : decode cJ1_charAt_3b067 2 = .ok (.arraylength, 1) := by decide +kernel
theorem dJ1_charAt_3b067_3 : decode cJ1_charAt_3b067 3 = .ok (.invokestatic 9, 3) := by decide +kernel
theorem dJ1_charAt_3b067_6 : decode cJ1_charAt_3b067 6 = .ok (.aload_n 0, 1) := by decide +kernel
theorem dJ1_charAt_3b067_7 : decode cJ1_charAt_3b067 7 = .ok (.iload_n 1, 1) := by decide +kernel
theorem dJ1_charAt_3b067_8 : decode cJ1_charAt_3b067 8 = .ok (.baload, 1) := by decide +kernel
theorem dJ1_charAt_3b067_9 : decode cJ1_charAt_3b067 9 = .ok (.sipush 255, 3) := by decide +kernel
theorem dJ1_charAt_3b067_12 : decode cJ1_charAt_3b067 12 = .ok (.iand, 1) := by decide +kernel
theorem dJ1_charAt_3b067_13 : decode cJ1_charAt_3b067 13 = .ok (.i2c, 1) := by decide +kernel
theorem dJ1_charAt_3b067_14 : decode cJ1_charAt_3b067 14 = .ok (.ireturn, 1) := by decide +kernel
theorem dJ1_canEncode_fc78d_0 : decode cJ1_canEncode_fc78d 0 = .ok (.iload_n 0, 1) := by decide +kernel
theorem dJ1_canEncode_fc78d_1 : decode cJ1_canEncode_fc78d 1 = .ok (.sipush 255, 3) := by decide +kernel
theorem dJ1_canEncode_fc78d_4 : decode cJ1_canEncode_fc78d 4 = .ok (.if_icmp .gt 7, 3) := by decide +kernel
theorem dJ1_canEncode_fc78d_7 : decode cJ1_canEncode_fc78d 7 = .ok (.iconst 1, 1) := by decide +kernel
theorem dJ1_canEncode_fc78d_8 : decode cJ1_canEncode_fc78d 8 = .ok (.goto 4, 3) := by decide +kernel
theorem dJ1_canEncode_fc78d_11 : decode cJ1_canEncode_fc78d 11 = .ok (.iconst 0, 1) := by decide +kernel
theorem dJ1_canEncode_fc78d_12 : decode cJ1_canEncode_fc78d 12 = .ok (.ireturn, 1) := by decide +kernel
theorem dJ1_inflate_0e8fd_0 : decode cJ1_inflate_0e8fd 0 = .ok (.aload_n 0, 1) := by decide +kernel
theorem dJ1_inflate_0e8fd_1 : decode cJ1_inflate_0e8fd 1 = .ok (.iload_n 1, 1) := by decide +kernel
theorem dJ1_inflate_0e8fd_2 : decode cJ1_inflate_0e8fd 2 = .ok (.aload_n 2, 1) := by decide +kernel
theorem dJ1_inflate_0e8fd_3 : decode cJ1_inflate_0e8fd 3 = .ok (.iload_n 3, 1) := by decide +kernel
theorem dJ1_inflate_0e8fd_4 : decode cJ1_inflate_0e8fd 4 = .ok (.iload 4, 2) := by decide +kernel
theorem dJ1_inflate_0e8fd_6 : decode cJ1_inflate_0e8fd 6 = .ok (.invokestatic 240, 3) := by decide +kernel
theorem dJ1_inflate_0e8fd_9 : decode cJ1_inflate_0e8fd 9 = .ok (.return_, 1) := by decide +kernel
theorem dJ2_newBytesFor_77867_0 : decode cJ2_newBytesFor_77867 0 = .ok (.iload_n 0, 1) := by decide +kernel
theorem dJ2_newBytesFor_77867_1 : decode cJ2_newBytesFor_77867 1 = .ok (.invokestatic 11, 3) := by decide +kernel
theorem dJ2_newBytesFor_77867_4 : decode cJ2_newBytesFor_77867 4 = .ok (.newarray .byte, 2) := by decide +kernel
theorem dJ2_newBytesFor_77867_6 : decode cJ2_newBytesFor_77867 6 = .ok (.areturn, 1) := by decide +kernel
theorem dJ2_newBytesLength_0f7a4_0 : decode cJ2_newBytesLength_0f7a4 0 = .ok (.iload_n 0, 1) := by decide +kernel
theorem dJ2_newBytesLength_0f7a4_1 : decode cJ2_newBytesLength_0f7a4 1 = .ok (.ifCond .ge 11, 3) := by decide +kernel
theorem dJ2_newBytesLength_0f7a4_4 : decode cJ2_newBytesLength_0f7a4 4 = .ok (.new 17, 3) := by decide +kernel
theorem dJ2_newBytesLength_0f7a4_7 : decode cJ2_newBytesLength_0f7a4 7 = .ok (.dup, 1) := by decide +kernel
theorem dJ2_newBytesLength_0f7a4_8 : decode cJ2_newBytesLength_0f7a4 8 = .ok (.invokespecial 19, 3) := by decide +kernel
theorem dJ2_newBytesLength_0f7a4_11 : decode cJ2_newBytesLength_0f7a4 11 = .ok (.athrow, 1) := by decide +kernel
theorem dJ2_newBytesLength_0f7a4_12 : decode cJ2_newBytesLength_0f7a4 12 = .ok (.iload_n 0, 1) := by decide +kernel
theorem dJ2_newBytesLength_0f7a4_13 : decode cJ2_newBytesLength_0f7a4 13 = .ok (.ldc 20, 2) := by decide +kernel
theorem dJ2_newBytesLength_0f7a4_15 : decode cJ2_newBytesLength_0f7a4 15 = .ok (.if_icmp .lt 40, 3) := by decide +kernel
theorem dJ2_newBytesLength_0f7a4_18 : decode cJ2_newBytesLength_0f7a4 18 = .ok (.new 21, 3) := by decide +kernel
theorem dJ2_newBytesLength_0f7a4_21 : decode cJ2_newBytesLength_0f7a4 21 = .ok (.dup, 1) := by decide +kernel
theorem dJ2_newBytesLength_0f7a4_22 : decode cJ2_newBytesLength_0f7a4 22 = .ok (.new 23, 3) := by decide +kernel
theorem dJ2_newBytesLength_0f7a4_25 : decode cJ2_newBytesLength_0f7a4 25 = .ok (.dup, 1) := by decide +kernel
theorem dJ2_newBytesLength_0f7a4_26 : decode cJ2_newBytesLength_0f7a4 26 = .ok (.invokespecial 25, 3) := by decide +kernel
theorem dJ2_newBytesLength_0f7a4_29 : decode cJ2_newBytesLength_0f7a4 29 = .ok (.ldc 26, 2) := by decide +kernel
theorem dJ2_newBytesLength_0f7a4_31 : decode cJ2_newBytesLength_0f7a4 31 = .ok (.invokevirtual 28, 3) := by decide +kernel
theorem dJ2_newBytesLength_0f7a4_34 : decode cJ2_newBytesLength_0f7a4 34 = .ok (.iload_n 0, 1) := by decide +kernel
theorem dJ2_newBytesLength_0f7a4_35 : decode cJ2_newBytesLength_0f7a4 35 = .ok (.invokevirtual 32, 3) := by decide +kernel
theorem dJ2_newBytesLength_0f7a4_38 : decode cJ2_newBytesLength_0f7a4 38 = .ok (.ldc 35, 2) := by decide +kernel
theorem dJ2_newBytesLength_0f7a4_40 : decode cJ2_newBytesLength_0f7a4 40 = .ok (.invokevirtual 28, 3) := by decide +kernel
theorem dJ2_newBytesLength_0f7a4_43 : decode cJ2_newBytesLength_0f7a4 43 = .ok (.ldc 20, 2) := by decide +kernel
theorem dJ2_newBytesLength_0f7a4_45 : decode cJ2_newBytesLength_0f7a4 45 = .ok (.invokevirtual 32, 3) := by decide +kernel
theorem dJ2_newBytesLength_0f7a4_48 : decode cJ2_newBytesLength_0f7a4 48 = .ok (.invokevirtual 37, 3) := by decide +kernel
theorem dJ2_newBytesLength_0f7a4_51 : decode cJ2_newBytesLength_0f7a4 51 = .ok (.invokespecial 41, 3) := by decide +kernel
theorem dJ2_newBytesLength_0f7a4_54 : decode cJ2_newBytesLength_0f7a4 54 = .ok (.athrow, 1) := by decide +kernel
theorem dJ2_newBytesLength_0f7a4_55 : decode cJ2_newBytesLength_0f7a4 55 = .ok (.iload_n 0, 1) := by decide +kernel
theorem dJ2_newBytesLength_0f7a4_56 : decode cJ2_newBytesLength_0f7a4 56 = .ok (.iconst 1, 1) := by decide +kernel
theorem dJ2_newBytesLength_0f7a4_57 : decode cJ2_newBytesLength_0f7a4 57 = .ok (.ishl, 1) := by decide +kernel
theorem dJ2_newBytesLength_0f7a4_58 : decode cJ2_newBytesLength_0f7a4 58 = .ok (.ireturn, 1) := by decide +kernel
theorem dJ2_putChar_b72d1_0 : decode cJ2_putChar_b72d1 0 = .ok (.getstatic 44, 3) := by decide +kernel
theorem dJ2_putChar_b72d1_3 : decode cJ2_putChar_b72d1 3 = .ok (.ifCond .ne 25, 3) := by decide +kernel
theorem dJ2_putChar_b72d1_6 : decode cJ2_putChar_b72d1 6 = .ok (.iload_n 1, 1) := by decide +kernel
theorem dJ2_putChar_b72d1_7 : decode cJ2_putChar_b72d1 7 = .ok (.ifCond .lt 11, 3) := by decide +kernel
theorem dJ2_putChar_b72d1_10 : decode cJ2_putChar_b72d1 10 = .ok (.iload_n 1, 1) := by decide +kernel
theorem dJ2_putChar_b72d1_11 : decode cJ2_putChar_b72d1 11 = .ok (.aload_n 0, 1) := by decide +kernel
theorem dJ2_putChar_b72d1_12 : decode cJ2_putChar_b72d1 12 = .ok (.invokestatic 48, 3) := by decide +kernel
theorem dJ2_putChar_b72d1_15 : decode cJ2_putChar_b72d1 15 = .ok (.if_icmp .lt 13, 3) := by decide +kernel
theorem dJ2_putChar_b72d1_18 : decode cJ2_putChar_b72d1 18 = .ok (.new 52, 3) := by decide +kernel
theorem dJ2_putChar_b72d1_21 : decode cJ2_putChar_b72d1 21 = .ok (.dup, 1) := by decide +kernel
theorem dJ2_putChar_b72d1_22 : decode cJ2_putChar_b72d1 22 = .ok (.ldc 54, 2) := by decide +kernel
theorem dJ2_putChar_b72d1_24 : decode cJ2_putChar_b72d1 24 = .ok (.invokespecial 56, 3) := by decide +kernel
theorem dJ2_putChar_b72d1_27 : decode cJ2_putChar_b72d1 27 = .ok (.athrow, 1) := by decide +kernel
theorem dJ2_putChar_b72d1_28 : decode cJ2_putChar_b72d1 28 = .ok (.iload_n 1, 1) := by decide +kernel
theorem dJ2_putChar_b72d1_29 : decode cJ2_putChar_b72d1 29 = .ok (.iconst 1, 1) := by decide +kernel
theorem dJ2_putChar_b72d1_30 : decode cJ2_putChar_b72d1 30 = .ok (.ishl, 1) := by decide +kernel
theorem dJ2_putChar_b72d1_31 : decode cJ2_putChar_b72d1 31 = .ok (.istore_n 1, 1) := by decide +kernel
theorem dJ2_putChar_b72d1_32 : decode cJ2_putChar_b72d1 32 = .ok (.aload_n 0, 1) := by decide +kernel
theorem dJ2_putChar_b72d1_33 : decode cJ2_putChar_b72d1 33 = .ok (.iload_n 1, 1) := by decide +kernel
theorem dJ2_putChar_b72d1_34 : decode cJ2_putChar_b72d1 34 = .ok (.iinc 1 1, 3) := by decide +kernel
theorem dJ2_putChar_b72d1_37 : decode cJ2_putChar_b72d1 37 = .ok (.iload_n 2, 1) := by decide +kernel
theorem dJ2_putChar_b72d1_38 : decode cJ2_putChar_b72d1 38 = .ok (.getstatic 59, 3) := by decide +kernel
theorem dJ2_putChar_b72d1_41 : decode cJ2_putChar_b72d1 41 = .ok (.ishr, 1) := by decide +kernel
theorem dJ2_putChar_b72d1_42 : decode cJ2_putChar_b72d1 42 = .ok (.i2b, 1) := by decide +kernel
theorem dJ2_putChar_b72d1_43 : decode cJ2_putChar_b72d1 43 = .ok (.bastore, 1) := by decide +kernel
theorem dJ2_putChar_b72d1_44 : decode cJ2_putChar_b72d1 44 = .ok (.aload_n 0, 1) := by decide +kernel
theorem dJ2_putChar_b72d1_45 : decode cJ2_putChar_b72d1 45 = .ok (.iload_n 1, 1) := by decide +kernel
theorem dJ2_putChar_b72d1_46 : decode cJ2_putChar_b72d1 46 = .ok (.iload_n 2, 1) := by decide +kernel
theorem dJ2_putChar_b72d1_47 : decode cJ2_putChar_b72d1 47 = .ok (.getstatic 63, 3) := by decide +kernel
theorem dJ2_putChar_b72d1_50 : decode cJ2_putChar_b72d1 50 = .ok (.ishr, 1) := by decide +kernel
theorem dJ2_putChar_b72d1_51 : decode cJ2_putChar_b72d1 51 = .ok (.i2b, 1) := by decide +kernel
theorem dJ2_putChar_b72d1_52 : decode cJ2_putChar_b72d1 52 = .ok (.bastore, 1) := by decide +kernel
theorem dJ2_putChar_b72d1_53 : decode cJ2_putChar_b72d1 53 = .ok (.return_, 1) := by decide +kernel
theorem dJ2_getChar_3b067_0 : decode cJ2_getChar_3b067 0 = .ok (.getstatic 44, 3) := by decide +kernel
theorem dJ2_getChar_3b067_3 : decode cJ2_getChar_3b067 3 = .ok (.ifCond .ne 25, 3) := by decide +kernel
theorem dJ2_getChar_3b067_6 : decode cJ2_getChar_3b067 6 = .ok (.iload_n 1, 1) := by decide +kernel
theorem dJ2_getChar_3b067_7 : decode cJ2_getChar_3b067 7 = .ok (.ifCond .lt 11, 3) := by decide +kernel
theorem dJ2_getChar_3b067_10 : decode cJ2_getChar_3b067 10 = .ok (.iload_n 1, 1) := by decide +kernel
theorem dJ2_getChar_3b067_11 : decode cJ2_getChar_3b067 11 = .ok (.aload_n 0, 1) := by decide +kernel
theorem dJ2_getChar_3b067_12 : decode cJ2_getChar_3b067 12 = .ok (.invokestatic 48, 3) := by decide +kernel
theorem dJ2_getChar_3b067_15 : decode cJ2_getChar_3b067 15 = .ok (.if_icmp .lt 13, 3) := by decide +kernel
theorem dJ2_getChar_3b067_18 : decode cJ2_getChar_3b067 18 = .ok (.new 52, 3) := by decide +kernel
theorem dJ2_getChar_3b067_21 : decode cJ2_getChar_3b067 21 = .ok (.dup, 1) := by decide +kernel
theorem dJ2_getChar_3b067_22 : decode cJ2_getChar_3b067 22 = .ok (.ldc 54, 2) := by decide +kernel
theorem dJ2_getChar_3b067_24 : decode cJ2_getChar_3b067 24 = .ok (.invokespecial 56, 3) := by decide +kernel
theorem dJ2_getChar_3b067_27 : decode cJ2_getChar_3b067 27 = .ok (.athrow, 1) := by decide +kernel
theorem dJ2_getChar_3b067_28 : decode cJ2_getChar_3b067 28 = .ok (.iload_n 1, 1) := by decide +kernel
theorem dJ2_getChar_3b067_29 : decode cJ2_getChar_3b067 29 = .ok (.iconst 1, 1) := by decide +kernel
theorem dJ2_getChar_3b067_30 : decode cJ2_getChar_3b067 30 = .ok (.ishl, 1) := by decide +kernel
theorem dJ2_getChar_3b067_31 : decode cJ2_getChar_3b067 31 = .ok (.istore_n 1, 1) := by decide +kernel
theorem dJ2_getChar_3b067_32 : decode cJ2_getChar_3b067 32 = .ok (.aload_n 0, 1) := by decide +kernel
theorem dJ2_getChar_3b067_33 : decode cJ2_getChar_3b067 33 = .ok (.iload_n 1, 1) := by decide +kernel
theorem dJ2_getChar_3b067_34 : decode cJ2_getChar_3b067 34 = .ok (.iinc 1 1, 3) := by decide +kernel
theorem dJ2_getChar_3b067_37 : decode cJ2_getChar_3b067 37 = .ok (.baload, 1) := by decide +kernel
theorem dJ2_getChar_3b067_38 : decode cJ2_getChar_3b067 38 = .ok (.sipush 255, 3) := by decide +kernel
theorem dJ2_getChar_3b067_41 : decode cJ2_getChar_3b067 41 = .ok (.iand, 1) := by decide +kernel
theorem dJ2_getChar_3b067_42 : decode cJ2_getChar_3b067 42 = .ok (.getstatic 59, 3) := by decide +kernel
theorem dJ2_getChar_3b067_45 : decode cJ2_getChar_3b067 45 = .ok (.ishl, 1) := by decide +kernel
theorem dJ2_getChar_3b067_46 : decode cJ2_getChar_3b067 46 = .ok (.aload_n 0, 1) := by decide +kernel
theorem dJ2_getChar_3b067_47 : decode cJ2_getChar_3b067 47 = .ok (.iload_n 1, 1) := by decide +kernel
theorem dJ2_getChar_3b067_48 : decode cJ2_getChar_3b067 48 = .ok (.baload, 1) := by decide +kernel
theorem dJ2_getChar_3b067_49 : decode cJ2_getChar_3b067 49 = .ok (.sipush 255, 3) := by decide +kernel
theorem dJ2_getChar_3b067_52 : decode cJ2_getChar_3b067 52 = .ok (.iand, 1) := by decide +kernel
theorem dJ2_getChar_3b067_53 : decode cJ2_getChar_3b067 53 = .ok (.getstatic 63, 3) := by decide +kernel
theorem dJ2_getChar_3b067_56 : decode cJ2_getChar_3b067 56 = .ok (.ishl, 1) := by decide +kernel
theorem dJ2_getChar_3b067_57 : decode cJ2_getChar_3b067 57 = .ok (.ior, 1) := by decide +kernel
theorem dJ2_getChar_3b067_58 : decode cJ2_getChar_3b067 58 = .ok (.i2c, 1) := by decide +kernel
theorem dJ2_getChar_3b067_59 : decode cJ2_getChar_3b067 59 = .ok (.ireturn, 1) := by decide +kernel
theorem dJ2_length_9d52b_0 : decode cJ2_length_9d52b 0 = .ok (.aload_n 0, 1) := by decide +kernel
theorem dJ2_length_9d52b_1 : decode cJ2_length_9d52b 1 = .ok (.arraylength, 1) := by decide +kernel
theorem dJ2_length_9d52b_2 : decode cJ2_length_9d52b 2 = .ok (.iconst 1, 1) := by decide +kernel
theorem dJ2_length_9d52b_3 : decode cJ2_length_9d52b 3 = .ok (.ishr, 1) := by decide +kernel
theorem dJ2_length_9d52b_4 : decode cJ2_length_9d52b 4 = .ok (.ireturn, 1) := by decide +kernel
theorem dJ2_coderFromArrayLen_85cad_0 : decode cJ2_coderFromArrayLen_85cad 0 = .ok (.iload_n 1, 1) := by decide +kernel
theorem dJ2_coderFromArrayLen_85cad_1 : decode cJ2_coderFromArrayLen_85cad 1 = .ok (.aload_n 0, 1) := by decide +kernel
theorem dJ2_coderFromArrayLen_85cad_2 : decode cJ2_coderFromArrayLen_85cad 2 = .ok (.arraylength, 1) := by decide +kernel
theorem dJ2_coderFromArrayLen_85cad_3 : decode cJ2_coderFromArrayLen_85cad 3 = .ok (.isub, 1) := by decide +kernel
theorem dJ2_coderFromArrayLen_85cad_4 : decode cJ2_coderFromArrayLen_85cad 4 = .ok (.bipush 31, 2) := by decide +kernel
theorem dJ2_coderFromArrayLen_85cad_6 : decode cJ2_coderFromArrayLen_85cad 6 = .ok (.iushr, 1) := by decide +kernel
theorem dJ2_coderFromArrayLen_85cad_7 : decode cJ2_coderFromArrayLen_85cad 7 = .ok (.i2b, 1) := by decide +kernel
theorem dJ2_coderFromArrayLen_85cad_8 : decode cJ2_coderFromArrayLen_85cad 8 = .ok (.ireturn, 1) := by decide +kernel
theorem dJ2_compress_39247_0 : decode cJ2_compress_39247 0 = .ok (.iload_n 2, 1) := by decide +kernel
theorem dJ2_compress_39247_1 : decode cJ2_compress_39247 1 = .ok (.newarray .byte, 2) := by decide +kernel
theorem dJ2_compress_39247_3 : decode cJ2_compress_39247 3 = .ok (.astore_n 3, 1) := by decide +kernel
theorem dJ2_compress_39247_4 : decode cJ2_compress_39247 4 = .ok (.aload_n 0, 1) := by decide +kernel
theorem dJ2_compress_39247_5 : decode cJ2_compress_39247 5 = .ok (.iload_n 1, 1) := by decide +kernel
theorem dJ2_compress_39247_6 : decode cJ2_compress_39247 6 = .ok (.aload_n 3, 1) := by decide +kernel
theorem dJ2_compress_39247_7 : decode cJ2_compress_39247 7 = .ok (.iconst 0, 1) := by decide +kernel
theorem dJ2_compress_39247_8 : decode cJ2_compress_39247 8 = .ok (.iload_n 2, 1) := by decide +kernel
theorem dJ2_compress_39247_9 : decode cJ2_compress_39247 9 = .ok (.invokestatic 123, 3) := by decide +kernel
theorem dJ2_compress_39247_12 : decode cJ2_compress_39247 12 = .ok (.istore 4, 2) := by decide +kernel
theorem dJ2_compress_39247_14 : decode cJ2_compress_39247 14 = .ok (.iload 4, 2) := by decide +kernel
theorem dJ2_compress_39247_16 : decode cJ2_compress_39247 16 = .ok (.iload_n 2, 1) := by decide +kernel
theorem dJ2_compress_39247_17 : decode cJ2_compress_39247 17 = .ok (.if_icmp .eq 47, 3) := by decide +kernel
theorem dJ2_compress_39247_20 : decode cJ2_compress_39247 20 = .ok (.aload_n 0, 1) := by decide +kernel
theorem dJ2_compress_39247_21 : decode cJ2_compress_39247 21 = .ok (.iload_n 1, 1) := by decide +kernel
theorem dJ2_compress_39247_22 : decode cJ2_compress_39247 22 = .ok (.iconst 1, 1) := by decide +kernel
theorem dJ2_compress_39247_23 : decode cJ2_compress_39247 23 = .ok (.ishl, 1) := by decide +kernel
theorem dJ2_compress_39247_24 : decode cJ2_compress_39247 24 = .ok (.iload_n 1, 1) := by decide +kernel
theorem dJ2_compress_39247_25 : decode cJ2_compress_39247 25 = .ok (.iload_n 2, 1) := by decide +kernel
theorem dJ2_compress_39247_26 : decode cJ2_compress_39247 26 = .ok (.iadd, 1) := by decide +kernel
theorem dJ2_compress_39247_27 : decode cJ2_compress_39247 27 = .ok (.invokestatic 11, 3) := by decide +kernel
theorem dJ2_compress_39247_30 : decode cJ2_compress_39247 30 = .ok (.invokestatic 126, 3) := by decide +kernel
theorem dJ2_compress_39247_33 : decode cJ2_compress_39247 33 = .ok (.astore 5, 2) := by decide +kernel
theorem dJ2_compress_39247_35 : decode cJ2_compress_39247 35 = .ok (.aload 5, 2) := by decide +kernel
theorem dJ2_compress_39247_37 : decode cJ2_compress_39247 37 = .ok (.iload 4, 2) := by decide +kernel
theorem dJ2_compress_39247_39 : decode cJ2_compress_39247 39 = .ok (.invokestatic 71, 3) := by decide +kernel
theorem dJ2_compress_39247_42 : decode cJ2_compress_39247 42 = .ok (.sipush 255, 3) := by decide +kernel
theorem dJ2_compress_39247_45 : decode cJ2_compress_39247 45 = .ok (.if_icmp .gt 16, 3) := by decide +kernel
theorem dJ2_compress_39247_48 : decode cJ2_compress_39247 48 = .ok (.aload 5, 2) := by decide +kernel
theorem dJ2_compress_39247_50 : decode cJ2_compress_39247 50 = .ok (.iconst 0, 1) := by decide +kernel
theorem dJ2_compress_39247_51 : decode cJ2_compress_39247 51 = .ok (.aload_n 3, 1) := by decide +kernel
theorem dJ2_compress_39247_52 : decode cJ2_compress_39247 52 = .ok (.iconst 0, 1) := by decide +kernel
theorem dJ2_compress_39247_53 : decode cJ2_compress_39247 53 = .ok (.iload_n 2, 1) := by decide +kernel
theorem dJ2_compress_39247_54 : decode cJ2_compress_39247 54 = .ok (.invokestatic 123, 3) := by decide +kernel
theorem dJ2_compress_39247_57 : decode cJ2_compress_39247 57 = .ok (.iload_n 2, 1) := by decide +kernel
theorem dJ2_compress_39247_58 : decode cJ2_compress_39247 58 = .ok (.if_icmp .eq 6, 3) := by decide +kernel
theorem dJ2_compress_39247_61 : decode cJ2_compress_39247 61 = .ok (.aload 5, 2) := by decide +kernel
theorem dJ2_compress_39247_63 : decode cJ2_compress_39247 63 = .ok (.areturn, 1) := by decide +kernel
theorem dJ2_compress_39247_64 : decode cJ2_compress_39247 64 = .ok (.aload_n 3, 1) := by decide +kernel
theorem dJ2_compress_39247_65 : decode cJ2_compress_39247 65 = .ok (.areturn, 1) := by decide +kernel
theorem dJ2_compress_5af95_0 : decode cJ2_compress_5af95 0 = .ok (.iload_n 1, 1) := by decide +kernel
theorem dJ2_compress_5af95_1 : decode cJ2_compress_5af95 1 = .ok (.iload 4, 2) := by decide +kernel
theorem dJ2_compress_5af95_3 : decode cJ2_compress_5af95 3 = .ok (.aload_n 0, 1) := by decide +kernel
theorem dJ2_compress_5af95_4 : decode cJ2_compress_5af95 4 = .ok (.invokestatic 173, 3) := by decide +kernel
theorem dJ2_compress_5af95_7 : decode cJ2_compress_5af95 7 = .ok (.iconst 0, 1) := by decide +kernel
theorem dJ2_compress_5af95_8 : decode cJ2_compress_5af95 8 = .ok (.istore 5, 2) := by decide +kernel
theorem dJ2_compress_5af95_10 : decode cJ2_compress_5af95 10 = .ok (.iload 5, 2) := by decide +kernel
theorem dJ2_compress_5af95_12 : decode cJ2_compress_5af95 12 = .ok (.iload 4, 2) := by decide +kernel
theorem dJ2_compress_5af95_14 : decode cJ2_compress_5af95 14 = .ok (.if_icmp .ge 39, 3) := by decide +kernel
theorem dJ2_compress_5af95_17 : decode cJ2_compress_5af95 17 = .ok (.aload_n 0, 1) := by decide +kernel
theorem dJ2_compress_5af95_18 : decode cJ2_compress_5af95 18 = .ok (.iload_n 1, 1) := by decide +kernel
theorem dJ2_compress_5af95_19 : decode cJ2_compress_5af95 19 = .ok (.invokestatic 71, 3) := by decide +kernel
theorem dJ2_compress_5af95_22 : decode cJ2_compress_5af95 22 = .ok (.istore 6, 2) := by decide +kernel
theorem dJ2_compress_5af95_24 : decode cJ2_compress_5af95 24 = .ok (.iload 6, 2) := by decide +kernel
theorem dJ2_compress_5af95_26 : decode cJ2_compress_5af95 26 = .ok (.sipush 255, 3) := by decide +kernel
theorem dJ2_compress_5af95_29 : decode cJ2_compress_5af95 29 = .ok (.if_icmp .le 6, 3) := by decide +kernel
theorem dJ2_compress_5af95_32 : decode cJ2_compress_5af95 32 = .ok (.iload 5, 2) := by decide +kernel
theorem dJ2_compress_5af95_34 : decode cJ2_compress_5af95 34 = .ok (.ireturn, 1) := by decide +kernel
theorem dJ2_compress_5af95_35 : decode cJ2_compress_5af95 35 = .ok (.aload_n 2, 1) := by decide +kernel
theorem dJ2_compress_5af95_36 : decode cJ2_compress_5af95 36 = .ok (.iload_n 3, 1) := by decide +kernel
theorem dJ2_compress_5af95_37 : decode cJ2_compress_5af95 37 = .ok (.iload 6, 2) := by decide +kernel
theorem dJ2_compress_5af95_39 : decode cJ2_compress_5af95 39 = .ok (.i2b, 1) := by decide +kernel
theorem dJ2_compress_5af95_40 : decode cJ2_compress_5af95 40 = .ok (.bastore, 1) := by decide +kernel
theorem dJ2_compress_5af95_41 : decode cJ2_compress_5af95 41 = .ok (.iinc 1 1, 3) := by decide +kernel
theorem dJ2_compress_5af95_44 : decode cJ2_compress_5af95 44 = .ok (.iinc 3 1, 3) := by decide +kernel
theorem dJ2_compress_5af95_47 : decode cJ2_compress_5af95 47 = .ok (.iinc 5 1, 3) := by decide +kernel
theorem dJ2_compress_5af95_50 : decode cJ2_compress_5af95 50 = .ok (.goto (-40), 3) := by decide +kernel
theorem dJ2_compress_5af95_53 : decode cJ2_compress_5af95 53 = .ok (.iload 4, 2) := by decide +kernel
theorem dJ2_compress_5af95_55 : decode cJ2_compress_5af95 55 = .ok (.ireturn, 1) := by decide +kernel
theorem dJ2_putCharSB_b72d1_0 : decode cJ2_putCharSB_b72d1 0 = .ok (.iload_n 1, 1) := by decide +kernel
theorem dJ2_putCharSB_b72d1_1 : decode cJ2_putCharSB_b72d1 1 = .ok (.aload_n 0, 1) := by decide +kernel
theorem dJ2_putCharSB_b72d1_2 : decode cJ2_putCharSB_b72d1 2 = .ok (.invokestatic 67, 3) := by decide +kernel
theorem dJ2_putCharSB_b72d1_5 : decode cJ2_putCharSB_b72d1 5 = .ok (.aload_n 0, 1) := by decide +kernel
theorem dJ2_putCharSB_b72d1_6 : decode cJ2_putCharSB_b72d1 6 = .ok (.iload_n 1, 1) := by decide +kernel
theorem dJ2_putCharSB_b72d1_7 : decode cJ2_putCharSB_b72d1 7 = .ok (.iload_n 2, 1) := by decide +kernel
theorem dJ2_putCharSB_b72d1_8 : decode cJ2_putCharSB_b72d1 8 = .ok (.invokestatic 111, 3) := by decide +kernel
theorem dJ2_putCharSB_b72d1_11 : decode cJ2_putCharSB_b72d1 11 = .ok (.return_, 1) := by decide +kernel
theorem dJ2_getChars_46870_0 : decode cJ2_getChars_46870 0 = .ok (.iload_n 1, 1) := by decide +kernel
theorem dJ2_getChars_46870_1 : decode cJ2_getChars_46870 1 = .ok (.iload_n 2, 1) := by decide +kernel
theorem dJ2_getChars_46870_2 : decode cJ2_getChars_46870 2 = .ok (.aload_n 3, 1) := by decide +kernel
theorem dJ2_getChars_46870_3 : decode cJ2_getChars_46870 3 = .ok (.invokestatic 96, 3) := by decide +kernel
theorem dJ2_getChars_46870_6 : decode cJ2_getChars_46870 6 = .ok (.iload_n 0, 1) := by decide +kernel
theorem dJ2_getChars_46870_7 : decode cJ2_getChars_46870 7 = .ok (.iload_n 2, 1) := by decide +kernel
theorem dJ2_getChars_46870_8 : decode cJ2_getChars_46870 8 = .ok (.aload_n 3, 1) := by decide +kernel
theorem dJ2_getChars_46870_9 : decode cJ2_getChars_46870 9 = .ok (.invokestatic 393, 3) := by decide +kernel
theorem dJ2_getChars_46870_12 : decode cJ2_getChars_46870 12 = .ok (.istore 4, 2) := by decide +kernel
theorem dJ2_getChars_46870_14 : decode cJ2_getChars_46870 14 = .ok (.getstatic 44, 3) := by decide +kernel
theorem dJ2_getChars_46870_17 : decode cJ2_getChars_46870 17 = .ok (.ifCond .ne 17, 3) := by decide +kernel
theorem dJ2_getChars_46870_20 : decode cJ2_getChars_46870 20 = .ok (.iload_n 1, 1) := by decide +kernel
theorem dJ2_getChars_46870_21 : decode cJ2_getChars_46870 21 = .ok (.iload 4, 2) := by decide +kernel
theorem dJ2_getChars_46870_23 : decode cJ2_getChars_46870 23 = .ok (.if_icmp .eq 11, 3) := by decide +kernel
theorem dJ2_getChars_46870_26 : decode cJ2_getChars_46870 26 = .ok (.new 52, 3) := by decide +kernel
theorem dJ2_getChars_46870_29 : decode cJ2_getChars_46870 29 = .ok (.dup, 1) := by decide +kernel
theorem dJ2_getChars_46870_30 : decode cJ2_getChars_46870 30 = .ok (.invokespecial 66, 3) := by decide +kernel
theorem dJ2_getChars_46870_33 : decode cJ2_getChars_46870 33 = .ok (.athrow, 1) := by decide +kernel
theorem dJ2_getChars_46870_34 : decode cJ2_getChars_46870 34 = .ok (.iload 4, 2) := by decide +kernel
theorem dJ2_getChars_46870_36 : decode cJ2_getChars_46870 36 = .ok (.ireturn, 1) := by decide +kernel
theorem dJ2_putCharsAt_cd4e5_0 : decode cJ2_putCharsAt_cd4e5 0 = .ok (.iload_n 1, 1) := by decide +kernel
theorem dJ2_putCharsAt_cd4e5_1 : decode cJ2_putCharsAt_cd4e5 1 = .ok (.iconst 4, 1) := by decide +kernel
theorem dJ2_putCharsAt_cd4e5_2 : decode cJ2_putCharsAt_cd4e5 2 = .ok (.iadd, 1) := by decide +kernel
theorem dJ2_putCharsAt_cd4e5_3 : decode cJ2_putCharsAt_cd4e5 3 = .ok (.istore 6, 2) := by decide +kernel
theorem dJ2_putCharsAt_cd4e5_5 : decode cJ2_putCharsAt_cd4e5 5 = .ok (.iload_n 1, 1) := by decide +kernel
theorem dJ2_putCharsAt_cd4e5_6 : decode cJ2_putCharsAt_cd4e5 6 = .ok (.iload 6, 2) := by decide +kernel
theorem dJ2_putCharsAt_cd4e5_8 : decode cJ2_putCharsAt_cd4e5 8 = .ok (.aload_n 0, 1) := by decide +kernel
theorem dJ2_putCharsAt_cd4e5_9 : decode cJ2_putCharsAt_cd4e5 9 = .ok (.invokestatic 96, 3) := by decide +kernel
theorem dJ2_putCharsAt_cd4e5_12 : decode cJ2_putCharsAt_cd4e5 12 = .ok (.aload_n 0, 1) := by decide +kernel
theorem dJ2_putCharsAt_cd4e5_13 : decode cJ2_putCharsAt_cd4e5 13 = .ok (.iload_n 1, 1) := by decide +kernel
theorem dJ2_putCharsAt_cd4e5_14 : decode cJ2_putCharsAt_cd4e5 14 = .ok (.iinc 1 1, 3) := by decide +kernel
theorem dJ2_putCharsAt_cd4e5_17 : decode cJ2_putCharsAt_cd4e5 17 = .ok (.iload_n 2, 1) := by decide +kernel
theorem dJ2_putCharsAt_cd4e5_18 : decode cJ2_putCharsAt_cd4e5 18 = .ok (.invokestatic 111, 3) := by decide +kernel
theorem dJ2_putCharsAt_cd4e5_21 : decode cJ2_putCharsAt_cd4e5 21 = .ok (.aload_n 0, 1) := by decide +kernel
theorem dJ2_putCharsAt_cd4e5_22 : decode cJ2_putCharsAt_cd4e5 22 = .ok (.iload_n 1, 1) := by decide +kernel
theorem dJ2_putCharsAt_cd4e5_23 : decode cJ2_putCharsAt_cd4e5 23 = .ok (.iinc 1 1, 3) := by decide +kernel
theorem dJ2_putCharsAt_cd4e5_26 : decode cJ2_putCharsAt_cd4e5 26 = .ok (.iload_n 3, 1) := by decide +kernel
theorem dJ2_putCharsAt_cd4e5_27 : decode cJ2_putCharsAt_cd4e5 27 = .ok (.invokestatic 111, 3) := by decide +kernel
theorem dJ2_putCharsAt_cd4e5_30 : decode cJ2_putCharsAt_cd4e5 30 = .ok (.aload_n 0, 1) := by decide +kernel
theorem dJ2_putCharsAt_cd4e5_31 : decode cJ2_putCharsAt_cd4e5 31 = .ok (.iload_n 1, 1) := by decide +kernel
theorem dJ2_putCharsAt_cd4e5_32 : decode cJ2_putCharsAt_cd4e5 32 = .ok (.iinc 1 1, 3) := by decide +kernel
theorem dJ2_putCharsAt_cd4e5_35 : decode cJ2_putCharsAt_cd4e5 35 = .ok (.iload 4, 2) := by decide +kernel
theorem dJ2_putCharsAt_cd4e5_37 : decode cJ2_putCharsAt_cd4e5 37 = .ok (.invokestatic 111, 3) := by decide +kernel
theorem dJ2_putCharsAt_cd4e5_40 : decode cJ2_putCharsAt_cd4e5 40 = .ok (.aload_n 0, 1) := by decide +kernel
theorem dJ2_putCharsAt_cd4e5_41 : decode cJ2_putCharsAt_cd4e5 41 = .ok (.iload_n 1, 1) := by decide +kernel
theorem dJ2_putCharsAt_cd4e5_42 : decode cJ2_putCharsAt_cd4e5 42 = .ok (.iinc 1 1, 3) := by decide +kernel
theorem dJ2_putCharsAt_cd4e5_45 : decode cJ2_putCharsAt_cd4e5 45 = .ok (.iload 5, 2) := by decide +kernel
theorem dJ2_putCharsAt_cd4e5_47 : decode cJ2_putCharsAt_cd4e5 47 = .ok (.invokestatic 111, 3) := by decide +kernel
theorem dJ2_putCharsAt_cd4e5_50 : decode cJ2_putCharsAt_cd4e5 50 = .ok (.getstatic 44, 3) := by decide +kernel
theorem dJ2_putCharsAt_cd4e5_53 : decode cJ2_putCharsAt_cd4e5 53 = .ok (.ifCond .ne 17, 3) := by decide +kernel
theorem dJ2_putCharsAt_cd4e5_56 : decode cJ2_putCharsAt_cd4e5 56 = .ok (.iload_n 1, 1) := by decide +kernel
theorem dJ2_putCharsAt_cd4e5_57 : decode cJ2_putCharsAt_cd4e5 57 = .ok (.iload 6, 2) := by decide +kernel
theorem dJ2_putCharsAt_cd4e5_59 : decode cJ2_putCharsAt_cd4e5 59 = .ok (.if_icmp .eq 11, 3) := by decide +kernel
theorem dJ2_putCharsAt_cd4e5_62 : decode cJ2_putCharsAt_cd4e5 62 = .ok (.new 52, 3) := by decide +kernel
theorem dJ2_putCharsAt_cd4e5_65 : decode cJ2_putCharsAt_cd4e5 65 = .ok (.dup, 1) := by decide +kernel
theorem dJ2_putCharsAt_cd4e5_66 : decode cJ2_putCharsAt_cd4e5 66 = .ok (.invokespecial 66, 3) := by decide +kernel
theorem dJ2_putCharsAt_cd4e5_69 : decode cJ2_putCharsAt_cd4e5 69 = .ok (.athrow, 1) := by decide +kernel
theorem dJ2_putCharsAt_cd4e5_70 : decode cJ2_putCharsAt_cd4e5 70 = .ok (.iload 6, 2) := by decide +kernel
theorem dJ2_putCharsAt_cd4e5_72 : decode cJ2_putCharsAt_cd4e5 72 = .ok (.ireturn, 1) := by decide +kernel
theorem dJ2_charAt_3b067_0 : decode cJ2_charAt_3b067 0 = .ok (.iload_n 1, 1) := by decide +kernel
theorem dJ2_charAt_3b067_1 : decode cJ2_charAt_3b067 1 = .ok (.aload_n 0, 1) := by decide +kernel
theorem dJ2_charAt_3b067_2 : decode cJ2_charAt_3b067 2 = .ok (.invokestatic 67, 3) := by decide +kernel
theorem dJ2_charAt_3b067_5 : decode cJ2_charAt_3b067 5 = .ok (.aload_n 0, 1) := by decide +kernel
theorem dJ2_charAt_3b067_6 : decode cJ2_charAt_3b067 6 = .ok (.iload_n 1, 1) := by decide +kernel
theorem dJ2_charAt_3b067_7 : decode cJ2_charAt_3b067 7 = .ok (.invokestatic 71, 3) := by decide +kernel
theorem dJ2_charAt_3b067_10 : decode cJ2_charAt_3b067 10 = .ok (.ireturn, 1) := by decide +kernel
theorem dJ2_inflate_0e8fd_0 : decode cJ2_inflate_0e8fd 0 = .ok (.iload_n 3, 1) := by decide +kernel
theorem dJ2_inflate_0e8fd_1 : decode cJ2_inflate_0e8fd 1 = .ok (.iload 4, 2) := by decide +kernel
theorem dJ2_inflate_0e8fd_3 : decode cJ2_inflate_0e8fd 3 = .ok (.aload_n 2, 1) := by decide +kernel
theorem dJ2_inflate_0e8fd_4 : decode cJ2_inflate_0e8fd 4 = .ok (.invokestatic 173, 3) := by decide +kernel
theorem dJ2_inflate_0e8fd_7 : decode cJ2_inflate_0e8fd 7 = .ok (.iconst 0, 1) := by decide +kernel
theorem dJ2_inflate_0e8fd_8 : decode cJ2_inflate_0e8fd 8 = .ok (.istore 5, 2) := by decide +kernel
theorem dJ2_inflate_0e8fd_10 : decode cJ2_inflate_0e8fd 10 = .ok (.iload 5, 2) := by decide +kernel
theorem dJ2_inflate_0e8fd_12 : decode cJ2_inflate_0e8fd 12 = .ok (.iload 4, 2) := by decide +kernel
theorem dJ2_inflate_0e8fd_14 : decode cJ2_inflate_0e8fd 14 = .ok (.if_icmp .ge 27, 3) := by decide +kernel
theorem dJ2_inflate_0e8fd_17 : decode cJ2_inflate_0e8fd 17 = .ok (.aload_n 2, 1) := by decide +kernel
theorem dJ2_inflate_0e8fd_18 : decode cJ2_inflate_0e8fd 18 = .ok (.iload_n 3, 1) := by decide +kernel
theorem dJ2_inflate_0e8fd_19 : decode cJ2_inflate_0e8fd 19 = .ok (.iinc 3 1, 3) := by decide +kernel
theorem dJ2_inflate_0e8fd_22 : decode cJ2_inflate_0e8fd 22 = .ok (.aload_n 0, 1) := by decide +kernel
theorem dJ2_inflate_0e8fd_23 : decode cJ2_inflate_0e8fd 23 = .ok (.iload_n 1, 1) := by decide +kernel
theorem dJ2_inflate_0e8fd_24 : decode cJ2_inflate_0e8fd 24 = .ok (.iinc 1 1, 3) := by decide +kernel
theorem dJ2_inflate_0e8fd_27 : decode cJ2_inflate_0e8fd 27 = .ok (.baload, 1) := by decide +kernel
theorem dJ2_inflate_0e8fd_28 : decode cJ2_inflate_0e8fd 28 = .ok (.sipush 255, 3) := by decide +kernel
theorem dJ2_inflate_0e8fd_31 : decode cJ2_inflate_0e8fd 31 = .ok (.iand, 1) := by decide +kernel
theorem dJ2_inflate_0e8fd_32 : decode cJ2_inflate_0e8fd 32 = .ok (.invokestatic 111, 3) := by decide +kernel
theorem dJ2_inflate_0e8fd_35 : decode cJ2_inflate_0e8fd 35 = .ok (.iinc 5 1, 3) := by decide +kernel
theorem dJ2_inflate_0e8fd_38 : decode cJ2_inflate_0e8fd 38 = .ok (.goto (-28), 3) := by decide +kernel
theorem dJ2_inflate_0e8fd_41 : decode cJ2_inflate_0e8fd 41 = .ok (.return_, 1) := by decide +kernel
theorem dJ2_getChars_ba4f3_0 : decode cJ2_getChars_ba4f3 0 = .ok (.iload_n 1, 1) := by decide +kernel
theorem dJ2_getChars_ba4f3_1 : decode cJ2_getChars_ba4f3 1 = .ok (.istore 5, 2) := by decide +kernel
theorem dJ2_getChars_ba4f3_3 : decode cJ2_getChars_ba4f3 3 = .ok (.iload_n 0, 1) := by decide +kernel
theorem dJ2_getChars_ba4f3_4 : decode cJ2_getChars_ba4f3 4 = .ok (.ifCond .ge 7, 3) := by decide +kernel
theorem dJ2_getChars_ba4f3_7 : decode cJ2_getChars_ba4f3 7 = .ok (.iconst 1, 1) := by decide +kernel
theorem dJ2_getChars_ba4f3_8 : decode cJ2_getChars_ba4f3 8 = .ok (.goto 4, 3) := by decide +kernel
theorem dJ2_getChars_ba4f3_11 : decode cJ2_getChars_ba4f3 11 = .ok (.iconst 0, 1) := by decide +kernel
theorem dJ2_getChars_ba4f3_12 : decode cJ2_getChars_ba4f3 12 = .ok (.istore 6, 2) := by decide +kernel
theorem dJ2_getChars_ba4f3_14 : decode cJ2_getChars_ba4f3 14 = .ok (.iload 6, 2) := by decide +kernel
theorem dJ2_getChars_ba4f3_16 : decode cJ2_getChars_ba4f3 16 = .ok (.ifCond .ne 6, 3) := by decide +kernel
theorem dJ2_getChars_ba4f3_19 : decode cJ2_getChars_ba4f3 19 = .ok (.iload_n 0, 1) := by decide +kernel
theorem dJ2_getChars_ba4f3_20 : decode cJ2_getChars_ba4f3 20 = .ok (.ineg, 1) := by decide +kernel
theorem dJ2_getChars_ba4f3_21 : decode cJ2_getChars_ba4f3 21 = .ok (.istore_n 0, 1) := by decide +kernel
theorem dJ2_getChars_ba4f3_22 : decode cJ2_getChars_ba4f3 22 = .ok (.iload_n 0, 1) := by decide +kernel
theorem dJ2_getChars_ba4f3_23 : decode cJ2_getChars_ba4f3 23 = .ok (.bipush (-100), 2) := by decide +kernel
theorem dJ2_getChars_ba4f3_25 : decode cJ2_getChars_ba4f3 25 = .ok (.if_icmp .gt 51, 3) := by decide +kernel
theorem dJ2_getChars_ba4f3_28 : decode cJ2_getChars_ba4f3 28 = .ok (.iload_n 0, 1) := by decide +kernel
theorem dJ2_getChars_ba4f3_29 : decode cJ2_getChars_ba4f3 29 = .ok (.bipush 100, 2) := by decide +kernel
theorem dJ2_getChars_ba4f3_31 : decode cJ2_getChars_ba4f3 31 = .ok (.idiv, 1) := by decide +kernel
theorem dJ2_getChars_ba4f3_32 : decode cJ2_getChars_ba4f3 32 = .ok (.istore_n 3, 1) := by decide +kernel
theorem dJ2_getChars_ba4f3_33 : decode cJ2_getChars_ba4f3 33 = .ok (.iload_n 3, 1) := by decide +kernel
theorem dJ2_getChars_ba4f3_34 : decode cJ2_getChars_ba4f3 34 = .ok (.bipush 100, 2) := by decide +kernel
theorem dJ2_getChars_ba4f3_36 : decode cJ2_getChars_ba4f3 36 = .ok (.imul, 1) := by decide +kernel
theorem dJ2_getChars_ba4f3_37 : decode cJ2_getChars_ba4f3 37 = .ok (.iload_n 0, 1) := by decide +kernel
theorem dJ2_getChars_ba4f3_38 : decode cJ2_getChars_ba4f3 38 = .ok (.isub, 1) := by decide +kernel
theorem dJ2_getChars_ba4f3_39 : decode cJ2_getChars_ba4f3 39 = .ok (.istore 4, 2) := by decide +kernel
theorem dJ2_getChars_ba4f3_41 : decode cJ2_getChars_ba4f3 41 = .ok (.iload_n 3, 1) := by decide +kernel
theorem dJ2_getChars_ba4f3_42 : decode cJ2_getChars_ba4f3 42 = .ok (.istore_n 0, 1) := by decide +kernel
theorem dJ2_getChars_ba4f3_43 : decode cJ2_getChars_ba4f3 43 = .ok (.aload_n 2, 1) := by decide +kernel
theorem dJ2_getChars_ba4f3_44 : decode cJ2_getChars_ba4f3 44 = .ok (.iinc 5 (-1), 3) := by decide +kernel
theorem dJ2_getChars_ba4f3_47 : decode cJ2_getChars_ba4f3 47 = .ok (.iload 5, 2) := by decide +kernel
theorem dJ2_getChars_ba4f3_49 : decode cJ2_getChars_ba4f3 49 = .ok (.getstatic 403, 3) := by decide +kernel
theorem dJ2_getChars_ba4f3_52 : decode cJ2_getChars_ba4f3 52 = .ok (.iload 4, 2) := by decide +kernel
theorem dJ2_getChars_ba4f3_54 : decode cJ2_getChars_ba4f3 54 = .ok (.baload, 1) := by decide +kernel
theorem dJ2_getChars_ba4f3_55 : decode cJ2_getChars_ba4f3 55 = .ok (.invokestatic 111, 3) := by decide +kernel
theorem dJ2_getChars_ba4f3_58 : decode cJ2_getChars_ba4f3 58 = .ok (.aload_n 2, 1) := by decide +kernel
theorem dJ2_getChars_ba4f3_59 : decode cJ2_getChars_ba4f3 59 = .ok (.iinc 5 (-1), 3) := by decide +kernel
theorem dJ2_getChars_ba4f3_62 : decode cJ2_getChars_ba4f3 62 = .ok (.iload 5, 2) := by decide +kernel
theorem dJ2_getChars_ba4f3_64 : decode cJ2_getChars_ba4f3 64 = .ok (.getstatic 407, 3) := by decide +kernel
theorem dJ2_getChars_ba4f3_67 : decode cJ2_getChars_ba4f3 67 = .ok (.iload 4, 2) := by decide +kernel
theorem dJ2_getChars_ba4f3_69 : decode cJ2_getChars_ba4f3 69 = .ok (.baload, 1) := by decide +kernel
theorem dJ2_getChars_ba4f3_70 : decode cJ2_getChars_ba4f3 70 = .ok (.invokestatic 111, 3) := by decide +kernel
theorem dJ2_getChars_ba4f3_73 : decode cJ2_getChars_ba4f3 73 = .ok (.goto (-51), 3) := by decide +kernel
theorem dJ2_getChars_ba4f3_76 : decode cJ2_getChars_ba4f3 76 = .ok (.aload_n 2, 1) := by decide +kernel
theorem dJ2_getChars_ba4f3_77 : decode cJ2_getChars_ba4f3 77 = .ok (.iinc 5 (-1), 3) := by decide +kernel
theorem dJ2_getChars_ba4f3_80 : decode cJ2_getChars_ba4f3 80 = .ok (.iload 5, 2) := by decide +kernel
theorem dJ2_getChars_ba4f3_82 : decode cJ2_getChars_ba4f3 82 = .ok (.getstatic 403, 3) := by decide +kernel
theorem dJ2_getChars_ba4f3_85 : decode cJ2_getChars_ba4f3 85 = .ok (.iload_n 0, 1) := by decide +kernel
theorem dJ2_getChars_ba4f3_86 : decode cJ2_getChars_ba4f3 86 = .ok (.ineg, 1) := by decide +kernel
theorem dJ2_getChars_ba4f3_87 : decode cJ2_getChars_ba4f3 87 = .ok (.baload, 1) := by decide +kernel
theorem dJ2_getChars_ba4f3_88 : decode cJ2_getChars_ba4f3 88 = .ok (.invokestatic 111, 3) := by decide +kernel
theorem dJ2_getChars_ba4f3_91 : decode cJ2_getChars_ba4f3 91 = .ok (.iload_n 0, 1) := by decide +kernel
theorem dJ2_getChars_ba4f3_92 : decode cJ2_getChars_ba4f3 92 = .ok (.bipush (-9), 2) := by decide +kernel
theorem dJ2_getChars_ba4f3_94 : decode cJ2_getChars_ba4f3 94 = .ok (.if_icmp .ge 18, 3) := by decide +kernel
theorem dJ2_getChars_ba4f3_97 : decode cJ2_getChars_ba4f3 97 = .ok (.aload_n 2, 1) := by decide +kernel
theorem dJ2_getChars_ba4f3_98 : decode cJ2_getChars_ba4f3 98 = .ok (.iinc 5 (-1), 3) := by decide +kernel
theorem dJ2_getChars_ba4f3_101 : decode cJ2_getChars_ba4f3 101 = .ok (.iload 5, 2) := by decide +kernel
theorem dJ2_getChars_ba4f3_103 : decode cJ2_getChars_ba4f3 103 = .ok (.getstatic 407, 3) := by decide +kernel
theorem dJ2_getChars_ba4f3_106 : decode cJ2_getChars_ba4f3 106 = .ok (.iload_n 0, 1) := by decide +kernel
theorem dJ2_getChars_ba4f3_107 : decode cJ2_getChars_ba4f3 107 = .ok (.ineg, 1) := by decide +kernel
theorem dJ2_getChars_ba4f3_108 : decode cJ2_getChars_ba4f3 108 = .ok (.baload, 1) := by decide +kernel
theorem dJ2_getChars_ba4f3_109 : decode cJ2_getChars_ba4f3 109 = .ok (.invokestatic 111, 3) := by decide +kernel
theorem dJ2_getChars_ba4f3_112 : decode cJ2_getChars_ba4f3 112 = .ok (.iload 6, 2) := by decide +kernel
theorem dJ2_getChars_ba4f3_114 : decode cJ2_getChars_ba4f3 114 = .ok (.ifCond .eq 14, 3) := by decide +kernel
theorem dJ2_getChars_ba4f3_117 : decode cJ2_getChars_ba4f3 117 = .ok (.aload_n 2, 1) := by decide +kernel
theorem dJ2_getChars_ba4f3_118 : decode cJ2_getChars_ba4f3 118 = .ok (.iinc 5 (-1), 3) := by decide +kernel
theorem dJ2_getChars_ba4f3_121 : decode cJ2_getChars_ba4f3 121 = .ok (.iload 5, 2) := by decide +kernel
theorem dJ2_getChars_ba4f3_123 : decode cJ2_getChars_ba4f3 123 = .ok (.bipush 45, 2) := by decide +kernel
theorem dJ2_getChars_ba4f3_125 : decode cJ2_getChars_ba4f3 125 = .ok (.invokestatic 111, 3) := by decide +kernel
theorem dJ2_getChars_ba4f3_128 : decode cJ2_getChars_ba4f3 128 = .ok (.iload 5, 2) := by decide +kernel
theorem dJ2_getChars_ba4f3_130 : decode cJ2_getChars_ba4f3 130 = .ok (.ireturn, 1) := by decide +kernel
theorem dJ2_checkIndex_2214a_0 : decode cJ2_checkIndex_2214a 0 = .ok (.iload_n 0, 1) := by decide +kernel
theorem dJ2_checkIndex_2214a_1 : decode cJ2_checkIndex_2214a 1 = .ok (.aload_n 1, 1) := by decide +kernel
theorem dJ2_checkIndex_2214a_2 : decode cJ2_checkIndex_2214a 2 = .ok (.invokestatic 48, 3) := by decide +kernel
theorem dJ2_checkIndex_2214a_5 : decode cJ2_checkIndex_2214a 5 = .ok (.invokestatic 414, 3) := by decide +kernel
theorem dJ2_checkIndex_2214a_8 : decode cJ2_checkIndex_2214a 8 = .ok (.return_, 1) := by decide +kernel
theorem dJ2_checkBoundsBeginEnd_d044e_0 : decode cJ2_checkBoundsBeginEnd_d044e 0 = .ok (.iload_n 0, 1) := by decide +kernel
theorem dJ2_checkBoundsBeginEnd_d044e_1 : decode cJ2_checkBoundsBeginEnd_d044e 1 = .ok (.iload_n 1, 1) := by decide +kernel
theorem dJ2_checkBoundsBeginEnd_d044e_2 : decode cJ2_checkBoundsBeginEnd_d044e 2 = .ok (.aload_n 2, 1) := by decide +kernel
theorem dJ2_checkBoundsBeginEnd_d044e_3 : decode cJ2_checkBoundsBeginEnd_d044e 3 = .ok (.invokestatic 48, 3) := by decide +kernel
theorem dJ2_checkBoundsBeginEnd_d044e_6 : decode cJ2_checkBoundsBeginEnd_d044e 6 = .ok (.invokestatic 241, 3) := by decide +kernel
theorem dJ2_checkBoundsBeginEnd_d044e_9 : decode cJ2_checkBoundsBeginEnd_d044e 9 = .ok (.return_, 1) := by decide +kernel
theorem dJ2_checkBoundsOffCount_d044e_0 : decode cJ2_checkBoundsOffCount_d044e 0 = .ok (.iload_n 0, 1) := by decide +kernel
theorem dJ2_checkBoundsOffCount_d044e_1 : decode cJ2_checkBoundsOffCount_d044e 1 = .ok (.iload_n 1, 1) := by decide +kernel
theorem dJ2_checkBoundsOffCount_d044e_2 : decode cJ2_checkBoundsOffCount_d044e 2 = .ok (.aload_n 2, 1) := by decide +kernel
theorem dJ2_checkBoundsOffCount_d044e_3 : decode cJ2_checkBoundsOffCount_d044e 3 = .ok (.invokestatic 48, 3) := by decide +kernel
theorem dJ2_checkBoundsOffCount_d044e_6 : decode cJ2_checkBoundsOffCount_d044e 6 = .ok (.invokestatic 419, 3) := by decide +kernel
theorem dJ2_checkBoundsOffCount_d044e_9 : decode cJ2_checkBoundsOffCount_d044e 9 = .ok (.pop, 1) := by decide +kernel
theorem dJ2_checkBoundsOffCount_d044e_10 : decode cJ2_checkBoundsOffCount_d044e 10 = .ok (.return_, 1) := by decide +kernel
theorem dJ7_copyOf_9075b_0 : decode cJ7_copyOf_9075b 0 = .ok (.iload_n 1, 1) := by decide +kernel
theorem dJ7_copyOf_9075b_1 : decode cJ7_copyOf_9075b 1 = .ok (.aload_n 0, 1) := by decide +kernel
theorem dJ7_copyOf_9075b_2 : decode cJ7_copyOf_9075b 2 = .ok (.arraylength, 1) := by decide +kernel
theorem dJ7_copyOf_9075b_3 : decode cJ7_copyOf_9075b 3 = .ok (.if_icmp .ne 11, 3) := by decide +kernel
theorem dJ7_copyOf_9075b_6 : decode cJ7_copyOf_9075b 6 = .ok (.aload_n 0, 1) := by decide +kernel
theorem dJ7_copyOf_9075b_7 : decode cJ7_copyOf_9075b 7 = .ok (.invokevirtual 310, 3) := by decide +kernel
theorem dJ7_copyOf_9075b_10 : decode cJ7_copyOf_9075b 10 = .ok (.checkcast 311, 3) := by decide +kernel
theorem dJ7_copyOf_9075b_13 : decode cJ7_copyOf_9075b 13 = .ok (.areturn, 1) := by decide +kernel
theorem dJ7_copyOf_9075b_14 : decode cJ7_copyOf_9075b 14 = .ok (.iload_n 1, 1) := by decide +kernel
theorem dJ7_copyOf_9075b_15 : decode cJ7_copyOf_9075b 15 = .ok (.newarray .byte, 2) := by decide +kernel
theorem dJ7_copyOf_9075b_17 : decode cJ7_copyOf_9075b 17 = .ok (.astore_n 2, 1) := by decide +kernel
theorem dJ7_copyOf_9075b_18 : decode cJ7_copyOf_9075b 18 = .ok (.aload_n 0, 1) := by decide +kernel
theorem dJ7_copyOf_9075b_19 : decode cJ7_copyOf_9075b 19 = .ok (.iconst 0, 1) := by decide +kernel
theorem dJ7_copyOf_9075b_20 : decode cJ7_copyOf_9075b 20 = .ok (.aload_n 2, 1) := by decide +kernel
theorem dJ7_copyOf_9075b_21 : decode cJ7_copyOf_9075b 21 = .ok (.iconst 0, 1) := by decide +kernel
theorem dJ7_copyOf_9075b_22 : decode cJ7_copyOf_9075b 22 = .ok (.aload_n 0, 1) := by decide +kernel
theorem dJ7_copyOf_9075b_23 : decode cJ7_copyOf_9075b 23 = .ok (.arraylength, 1) := by decide +kernel
theorem dJ7_copyOf_9075b_24 : decode cJ7_copyOf_9075b 24 = .ok (.iload_n 1, 1) := by decide +kernel
theorem dJ7_copyOf_9075b_25 : decode cJ7_copyOf_9075b 25 = .ok (.invokestatic 304, 3) := by decide +kernel
theorem dJ7_copyOf_9075b_28 : decode cJ7_copyOf_9075b 28 = .ok (.invokestatic 150, 3) := by decide +kernel
theorem dJ7_copyOf_9075b_31 : decode cJ7_copyOf_9075b 31 = .ok (.aload_n 2, 1) := by decide +kernel
theorem dJ7_copyOf_9075b_32 : decode cJ7_copyOf_9075b 32 = .ok (.areturn, 1) := by decide +kernel
theorem dJ7_checkLength_df160_0 : decode cJ7_checkLength_df160 0 = .ok (.iload_n 1, 1) := by decide +kernel
theorem dJ7_checkLength_df160_1 : decode cJ7_checkLength_df160 1 = .ok (.iload_n 0, 1) := by decide +kernel
theorem dJ7_checkLength_df160_2 : decode cJ7_checkLength_df160 2 = .ok (.if_icmp .ge 35, 3) := by decide +kernel
theorem dJ7_checkLength_df160_5 : decode cJ7_checkLength_df160 5 = .ok (.new 43, 3) := by decide +kernel
theorem dJ7_checkLength_df160_8 : decode cJ7_checkLength_df160 8 = .ok (.dup, 1) := by decide +kernel
theorem dJ7_checkLength_df160_9 : decode cJ7_checkLength_df160 9 = .ok (.new 45, 3) := by decide +kernel
theorem dJ7_checkLength_df160_12 : decode cJ7_checkLength_df160 12 = .ok (.dup, 1) := by decide +kernel
theorem dJ7_checkLength_df160_13 : decode cJ7_checkLength_df160 13 = .ok (.invokespecial 47, 3) := by decide +kernel
theorem dJ7_checkLength_df160_16 : decode cJ7_checkLength_df160 16 = .ok (.iload_n 0, 1) := by decide +kernel
theorem dJ7_checkLength_df160_17 : decode cJ7_checkLength_df160 17 = .ok (.invokevirtual 54, 3) := by decide +kernel
theorem dJ7_checkLength_df160_20 : decode cJ7_checkLength_df160 20 = .ok (.ldc_w 337, 3) := by decide +kernel
theorem dJ7_checkLength_df160_23 : decode cJ7_checkLength_df160 23 = .ok (.invokevirtual 50, 3) := by decide +kernel
theorem dJ7_checkLength_df160_26 : decode cJ7_checkLength_df160 26 = .ok (.iload_n 1, 1) := by decide +kernel
theorem dJ7_checkLength_df160_27 : decode cJ7_checkLength_df160 27 = .ok (.invokevirtual 54, 3) := by decide +kernel
theorem dJ7_checkLength_df160_30 : decode cJ7_checkLength_df160 30 = .ok (.invokevirtual 61, 3) := by decide +kernel
theorem dJ7_checkLength_df160_33 : decode cJ7_checkLength_df160 33 = .ok (.invokespecial 65, 3) := by decide +kernel
theorem dJ7_checkLength_df160_36 : decode cJ7_checkLength_df160 36 = .ok (.athrow, 1) := by decide +kernel
theorem dJ7_checkLength_df160_37 : decode cJ7_checkLength_df160 37 = .ok (.return_, 1) := by decide +kernel
theorem dJ7_copyOfRange_39247_0 : decode cJ7_copyOfRange_39247 0 = .ok (.iload_n 1, 1) := by decide +kernel
theorem dJ7_copyOfRange_39247_1 : decode cJ7_copyOfRange_39247 1 = .ok (.ifCond .ne 9, 3) := by decide +kernel
theorem dJ7_copyOfRange_39247_4 : decode cJ7_copyOfRange_39247 4 = .ok (.iload_n 2, 1) := by decide +kernel
theorem dJ7_copyOfRange_39247_5 : decode cJ7_copyOfRange_39247 5 = .ok (.aload_n 0, 1) := by decide +kernel
theorem dJ7_copyOfRange_39247_6 : decode cJ7_copyOfRange_39247 6 = .ok (.arraylength, 1) := by decide +kernel
theorem dJ7_copyOfRange_39247_7 : decode cJ7_copyOfRange_39247 7 = .ok (.if_icmp .eq 10, 3) := by decide +kernel
theorem dJ7_copyOfRange_39247_10 : decode cJ7_copyOfRange_39247 10 = .ok (.aload_n 0, 1) := by decide +kernel
theorem dJ7_copyOfRange_39247_11 : decode cJ7_copyOfRange_39247 11 = .ok (.iload_n 1, 1) := by decide +kernel
theorem dJ7_copyOfRange_39247_12 : decode cJ7_copyOfRange_39247 12 = .ok (.iload_n 2, 1) := by decide +kernel
theorem dJ7_copyOfRange_39247_13 : decode cJ7_copyOfRange_39247 13 = .ok (.invokestatic 339, 3) := by decide +kernel
theorem dJ7_copyOfRange_39247_16 : decode cJ7_copyOfRange_39247 16 = .ok (.areturn, 1) := by decide +kernel
theorem dJ7_copyOfRange_39247_17 : decode cJ7_copyOfRange_39247 17 = .ok (.aload_n 0, 1) := by decide +kernel
theorem dJ7_copyOfRange_39247_18 : decode cJ7_copyOfRange_39247 18 = .ok (.invokevirtual 310, 3) := by decide +kernel
theorem dJ7_copyOfRange_39247_21 : decode cJ7_copyOfRange_39247 21 = .ok (.checkcast 311, 3) := by decide +kernel
theorem dJ7_copyOfRange_39247_24 : decode cJ7_copyOfRange_39247 24 = .ok (.areturn, 1) := by decide +kernel
theorem dJ7_copyOfRangeByte_39247_0 : decode cJ7_copyOfRangeByte_39247 0 = .ok (.iload_n 1, 1) := by decide +kernel
theorem dJ7_copyOfRangeByte_39247_1 : decode cJ7_copyOfRangeByte_39247 1 = .ok (.iload_n 2, 1) := by decide +kernel
theorem dJ7_copyOfRangeByte_39247_2 : decode cJ7_copyOfRangeByte_39247 2 = .ok (.invokestatic 343, 3) := by decide +kernel
theorem dJ7_copyOfRangeByte_39247_5 : decode cJ7_copyOfRangeByte_39247 5 = .ok (.iload_n 2, 1) := by decide +kernel
theorem dJ7_copyOfRangeByte_39247_6 : decode cJ7_copyOfRangeByte_39247 6 = .ok (.iload_n 1, 1) := by decide +kernel
theorem dJ7_copyOfRangeByte_39247_7 : decode cJ7_copyOfRangeByte_39247 7 = .ok (.isub, 1) := by decide +kernel
theorem dJ7_copyOfRangeByte_39247_8 : decode cJ7_copyOfRangeByte_39247 8 = .ok (.istore_n 3, 1) := by decide +kernel
theorem dJ7_copyOfRangeByte_39247_9 : decode cJ7_copyOfRangeByte_39247 9 = .ok (.iload_n 3, 1) := by decide +kernel
theorem dJ7_copyOfRangeByte_39247_10 : decode cJ7_copyOfRangeByte_39247 10 = .ok (.newarray .byte, 2) := by decide +kernel
theorem dJ7_copyOfRangeByte_39247_12 : decode cJ7_copyOfRangeByte_39247 12 = .ok (.astore 4, 2) := by decide +kernel
theorem dJ7_copyOfRangeByte_39247_14 : decode cJ7_copyOfRangeByte_39247 14 = .ok (.aload_n 0, 1) := by decide +kernel
theorem dJ7_copyOfRangeByte_39247_15 : decode cJ7_copyOfRangeByte_39247 15 = .ok (.iload_n 1, 1) := by decide +kernel
theorem dJ7_copyOfRangeByte_39247_16 : decode cJ7_copyOfRangeByte_39247 16 = .ok (.aload 4, 2) := by decide +kernel
theorem dJ7_copyOfRangeByte_39247_18 : decode cJ7_copyOfRangeByte_39247 18 = .ok (.iconst 0, 1) := by decide +kernel
theorem dJ7_copyOfRangeByte_39247_19 : decode cJ7_copyOfRangeByte_39247 19 = .ok (.aload_n 0, 1) := by decide +kernel
theorem dJ7_copyOfRangeByte_39247_20 : decode cJ7_copyOfRangeByte_39247 20 = .ok (.arraylength, 1) := by decide +kernel
theorem dJ7_copyOfRangeByte_39247_21 : decode cJ7_copyOfRangeByte_39247 21 = .ok (.iload_n 1, 1) := by decide +kernel
theorem dJ7_copyOfRangeByte_39247_22 : decode cJ7_copyOfRangeByte_39247 22 = .ok (.isub, 1) := by decide +kernel
theorem dJ7_copyOfRangeByte_39247_23 : decode cJ7_copyOfRangeByte_39247 23 = .ok (.iload_n 3, 1) := by decide +kernel
theorem dJ7_copyOfRangeByte_39247_24 : decode cJ7_copyOfRangeByte_39247 24 = .ok (.invokestatic 304, 3) := by decide +kernel
theorem dJ7_copyOfRangeByte_39247_27 : decode cJ7_copyOfRangeByte_39247 27 = .ok (.invokestatic 150, 3) := by decide +kernel
theorem dJ7_copyOfRangeByte_39247_30 : decode cJ7_copyOfRangeByte_39247 30 = .ok (.aload 4, 2) := by decide +kernel
theorem dJ7_copyOfRangeByte_39247_32 : decode cJ7_copyOfRangeByte_39247 32 = .ok (.areturn, 1) := by decide +kernel
theorem dJ8_newLength_cabcc_0 : decode cJ8_newLength_cabcc 0 = .ok (.iload_n 0, 1) := by decide +kernel
theorem dJ8_newLength_cabcc_1 : decode cJ8_newLength_cabcc 1 = .ok (.iload_n 1, 1) := by decide +kernel
theorem dJ8_newLength_cabcc_2 : decode cJ8_newLength_cabcc 2 = .ok (.iload_n 2, 1) := by decide +kernel
theorem dJ8_newLength_cabcc_3 : decode cJ8_newLength_cabcc 3 = .ok (.invokestatic 194, 3) := by decide +kernel
theorem dJ8_newLength_cabcc_6 : decode cJ8_newLength_cabcc 6 = .ok (.iadd, 1) := by decide +kernel
theorem dJ8_newLength_cabcc_7 : decode cJ8_newLength_cabcc 7 = .ok (.istore_n 3, 1) := by decide +kernel
theorem dJ8_newLength_cabcc_8 : decode cJ8_newLength_cabcc 8 = .ok (.iconst 0, 1) := by decide +kernel
theorem dJ8_newLength_cabcc_9 : decode cJ8_newLength_cabcc 9 = .ok (.iload_n 3, 1) := by decide +kernel
theorem dJ8_newLength_cabcc_10 : decode cJ8_newLength_cabcc 10 = .ok (.if_icmp .ge 11, 3) := by decide +kernel
theorem dJ8_newLength_cabcc_13 : decode cJ8_newLength_cabcc 13 = .ok (.iload_n 3, 1) := by decide +kernel
theorem dJ8_newLength_cabcc_14 : decode cJ8_newLength_cabcc 14 = .ok (.ldc 200, 2) := by decide +kernel
theorem dJ8_newLength_cabcc_16 : decode cJ8_newLength_cabcc 16 = .ok (.if_icmp .gt 5, 3) := by decide +kernel
theorem dJ8_newLength_cabcc_19 : decode cJ8_newLength_cabcc 19 = .ok (.iload_n 3, 1) := by decide +kernel
theorem dJ8_newLength_cabcc_20 : decode cJ8_newLength_cabcc 20 = .ok (.ireturn, 1) := by decide +kernel
theorem dJ8_newLength_cabcc_21 : decode cJ8_newLength_cabcc 21 = .ok (.iload_n 0, 1) := by decide +kernel
theorem dJ8_newLength_cabcc_22 : decode cJ8_newLength_cabcc 22 = .ok (.iload_n 1, 1) := by decide +kernel
theorem dJ8_newLength_cabcc_23 : decode cJ8_newLength_cabcc 23 = .ok (.invokestatic 201, 3) := by decide +kernel
theorem dJ8_newLength_cabcc_26 : decode cJ8_newLength_cabcc 26 = .ok (.ireturn, 1) := by decide +kernel
theorem dJ8_hugeLength_7cf53_0 : decode cJ8_hugeLength_7cf53 0 = .ok (.iload_n 0, 1) := by decide +kernel
theorem dJ8_hugeLength_7cf53_1 : decode cJ8_hugeLength_7cf53 1 = .ok (.iload_n 1, 1) := by decide +kernel
theorem dJ8_hugeLength_7cf53_2 : decode cJ8_hugeLength_7cf53 2 = .ok (.iadd, 1) := by decide +kernel
theorem dJ8_hugeLength_7cf53_3 : decode cJ8_hugeLength_7cf53 3 = .ok (.istore_n 2, 1) := by decide +kernel
theorem dJ8_hugeLength_7cf53_4 : decode cJ8_hugeLength_7cf53 4 = .ok (.iload_n 2, 1) := by decide +kernel
theorem dJ8_hugeLength_7cf53_5 : decode cJ8_hugeLength_7cf53 5 = .ok (.ifCond .ge 44, 3) := by decide +kernel
theorem dJ8_hugeLength_7cf53_8 : decode cJ8_hugeLength_7cf53 8 = .ok (.new 204, 3) := by decide +kernel
theorem dJ8_hugeLength_7cf53_11 : decode cJ8_hugeLength_7cf53 11 = .ok (.dup, 1) := by decide +kernel
theorem dJ8_hugeLength_7cf53_12 : decode cJ8_hugeLength_7cf53 12 = .ok (.new 89, 3) := by decide +kernel
theorem dJ8_hugeLength_7cf53_15 : decode cJ8_hugeLength_7cf53 15 = .ok (.dup, 1) := by decide +kernel
theorem dJ8_hugeLength_7cf53_16 : decode cJ8_hugeLength_7cf53 16 = .ok (.invokespecial 91, 3) := by decide +kernel
theorem dJ8_hugeLength_7cf53_19 : decode cJ8_hugeLength_7cf53 19 = .ok (.ldc 206, 2) := by decide +kernel
theorem dJ8_hugeLength_7cf53_21 : decode cJ8_hugeLength_7cf53 21 = .ok (.invokevirtual 94, 3) := by decide +kernel
theorem dJ8_hugeLength_7cf53_24 : decode cJ8_hugeLength_7cf53 24 = .ok (.iload_n 0, 1) := by decide +kernel
theorem dJ8_hugeLength_7cf53_25 : decode cJ8_hugeLength_7cf53 25 = .ok (.invokevirtual 98, 3) := by decide +kernel
theorem dJ8_hugeLength_7cf53_28 : decode cJ8_hugeLength_7cf53 28 = .ok (.ldc 208, 2) := by decide +kernel
theorem dJ8_hugeLength_7cf53_30 : decode cJ8_hugeLength_7cf53 30 = .ok (.invokevirtual 94, 3) := by decide +kernel
theorem dJ8_hugeLength_7cf53_33 : decode cJ8_hugeLength_7cf53 33 = .ok (.iload_n 1, 1) := by decide +kernel
theorem dJ8_hugeLength_7cf53_34 : decode cJ8_hugeLength_7cf53 34 = .ok (.invokevirtual 98, 3) := by decide +kernel
theorem dJ8_hugeLength_7cf53_37 : decode cJ8_hugeLength_7cf53 37 = .ok (.ldc 210, 2) := by decide +kernel
theorem dJ8_hugeLength_7cf53_39 : decode cJ8_hugeLength_7cf53 39 = .ok (.invokevirtual 94, 3) := by decide +kernel
theorem dJ8_hugeLength_7cf53_42 : decode cJ8_hugeLength_7cf53 42 = .ok (.invokevirtual 101, 3) := by decide +kernel
theorem dJ8_hugeLength_7cf53_45 : decode cJ8_hugeLength_7cf53 45 = .ok (.invokespecial 212, 3) := by decide +kernel
theorem dJ8_hugeLength_7cf53_48 : decode cJ8_hugeLength_7cf53 48 = .ok (.athrow, 1) := by decide +kernel
theorem dJ8_hugeLength_7cf53_49 : decode cJ8_hugeLength_7cf53 49 = .ok (.iload_n 2, 1) := by decide +kernel
theorem dJ8_hugeLength_7cf53_50 : decode cJ8_hugeLength_7cf53 50 = .ok (.ldc 200, 2) := by decide +kernel
theorem dJ8_hugeLength_7cf53_52 : decode cJ8_hugeLength_7cf53 52 = .ok (.if_icmp .gt 6, 3) := by decide +kernel
theorem dJ8_hugeLength_7cf53_55 : decode cJ8_hugeLength_7cf53 55 = .ok (.ldc 200, 2) := by decide +kernel
theorem dJ8_hugeLength_7cf53_57 : decode cJ8_hugeLength_7cf53 57 = .ok (.ireturn, 1) := by decide +kernel
theorem dJ8_hugeLength_7cf53_58 : decode cJ8_hugeLength_7cf53 58 = .ok (.iload_n 2, 1) := by decide +kernel
theorem dJ8_hugeLength_7cf53_59 : decode cJ8_hugeLength_7cf53 59 = .ok (.ireturn, 1) := by decide +kernel
theorem dJ3_checkIndex_8e157_0 : decode cJ3_checkIndex_8e157 0 = .ok (.iload_n 0, 1) := by decide +kernel
theorem dJ3_checkIndex_8e157_1 : decode cJ3_checkIndex_8e157 1 = .ok (.ifCond .lt 8, 3) := by decide +kernel
theorem dJ3_checkIndex_8e157_4 : decode cJ3_checkIndex_8e157 4 = .ok (.iload_n 0, 1) := by decide +kernel
theorem dJ3_checkIndex_8e157_5 : decode cJ3_checkIndex_8e157 5 = .ok (.iload_n 1, 1) := by decide +kernel
theorem dJ3_checkIndex_8e157_6 : decode cJ3_checkIndex_8e157 6 = .ok (.if_icmp .lt 10, 3) := by decide +kernel
theorem dJ3_checkIndex_8e157_9 : decode cJ3_checkIndex_8e157 9 = .ok (.aload_n 2, 1) := by decide +kernel
theorem dJ3_checkIndex_8e157_10 : decode cJ3_checkIndex_8e157 10 = .ok (.iload_n 0, 1) := by decide +kernel
theorem dJ3_checkIndex_8e157_11 : decode cJ3_checkIndex_8e157 11 = .ok (.iload_n 1, 1) := by decide +kernel
theorem dJ3_checkIndex_8e157_12 : decode cJ3_checkIndex_8e157 12 = .ok (.invokestatic 95, 3) := by decide +kernel
theorem dJ3_checkIndex_8e157_15 : decode cJ3_checkIndex_8e157 15 = .ok (.athrow, 1) := by decide +kernel
theorem dJ3_checkIndex_8e157_16 : decode cJ3_checkIndex_8e157 16 = .ok (.iload_n 0, 1) := by decide +kernel
theorem dJ3_checkIndex_8e157_17 : decode cJ3_checkIndex_8e157 17 = .ok (.ireturn, 1) := by decide +kernel
theorem dJ3_checkFromToIndex_8c36e_0 : decode cJ3_checkFromToIndex_8c36e 0 = .ok (.iload_n 0, 1) := by decide +kernel
theorem dJ3_checkFromToIndex_8c36e_1 : decode cJ3_checkFromToIndex_8c36e 1 = .ok (.ifCond .lt 13, 3) := by decide +kernel
theorem dJ3_checkFromToIndex_8c36e_4 : decode cJ3_checkFromToIndex_8c36e 4 = .ok (.iload_n 0, 1) := by decide +kernel
theorem dJ3_checkFromToIndex_8c36e_5 : decode cJ3_checkFromToIndex_8c36e 5 = .ok (.iload_n 1, 1) := by decide +kernel
theorem dJ3_checkFromToIndex_8c36e_6 : decode cJ3_checkFromToIndex_8c36e 6 = .ok (.if_icmp .gt 8, 3) := by decide +kernel
theorem dJ3_checkFromToIndex_8c36e_9 : decode cJ3_checkFromToIndex_8c36e 9 = .ok (.iload_n 1, 1) := by decide +kernel
theorem dJ3_checkFromToIndex_8c36e_10 : decode cJ3_checkFromToIndex_8c36e 10 = .ok (.iload_n 2, 1) := by decide +kernel
theorem dJ3_checkFromToIndex_8c36e_11 : decode cJ3_checkFromToIndex_8c36e 11 = .ok (.if_icmp .le 11, 3) := by decide +kernel
theorem dJ3_checkFromToIndex_8c36e_14 : decode cJ3_checkFromToIndex_8c36e 14 = .ok (.aload_n 3, 1) := by decide +kernel
theorem dJ3_checkFromToIndex_8c36e_15 : decode cJ3_checkFromToIndex_8c36e 15 = .ok (.iload_n 0, 1) := by decide +kernel
theorem dJ3_checkFromToIndex_8c36e_16 : decode cJ3_checkFromToIndex_8c36e 16 = .ok (.iload_n 1, 1) := by decide +kernel
theorem dJ3_checkFromToIndex_8c36e_17 : decode cJ3_checkFromToIndex_8c36e 17 = .ok (.iload_n 2, 1) := by decide +kernel
theorem dJ3_checkFromToIndex_8c36e_18 : decode cJ3_checkFromToIndex_8c36e 18 = .ok (.invokestatic 99, 3) := by decide +kernel
theorem dJ3_checkFromToIndex_8c36e_21 : decode cJ3_checkFromToIndex_8c36e 21 = .ok (.athrow, 1) := by decide +kernel
theorem dJ3_checkFromToIndex_8c36e_22 : decode cJ3_checkFromToIndex_8c36e 22 = .ok (.iload_n 0, 1) := by decide +kernel
theorem dJ3_checkFromToIndex_8c36e_23 : decode cJ3_checkFromToIndex_8c36e 23 = .ok (.ireturn, 1) := by decide +kernel
theorem dJ3_checkFromIndexSize_8c36e_0 : decode cJ3_checkFromIndexSize_8c36e 0 = .ok (.iload_n 2, 1) := by decide +kernel
theorem dJ3_checkFromIndexSize_8c36e_1 : decode cJ3_checkFromIndexSize_8c36e 1 = .ok (.iload_n 0, 1) := by decide +kernel
theorem dJ3_checkFromIndexSize_8c36e_2 : decode cJ3_checkFromIndexSize_8c36e 2 = .ok (.ior, 1) := by decide +kernel
theorem dJ3_checkFromIndexSize_8c36e_3 : decode cJ3_checkFromIndexSize_8c36e 3 = .ok (.iload_n 1, 1) := by decide +kernel
theorem dJ3_checkFromIndexSize_8c36e_4 : decode cJ3_checkFromIndexSize_8c36e 4 = .ok (.ior, 1) := by decide +kernel
theorem dJ3_checkFromIndexSize_8c36e_5 : decode cJ3_checkFromIndexSize_8c36e 5 = .ok (.ifCond .lt 10, 3) := by decide +kernel
theorem dJ3_checkFromIndexSize_8c36e_8 : decode cJ3_checkFromIndexSize_8c36e 8 = .ok (.iload_n 1, 1) := by decide +kernel
theorem dJ3_checkFromIndexSize_8c36e_9 : decode cJ3_checkFromIndexSize_8c36e 9 = .ok (.iload_n 2, 1) := by decide +kernel
theorem dJ3_checkFromIndexSize_8c36e_10 : decode cJ3_checkFromIndexSize_8c36e 10 = .ok (.iload_n 0, 1) := by decide +kernel
theorem dJ3_checkFromIndexSize_8c36e_11 : decode cJ3_checkFromIndexSize_8c36e 11 = .ok (.isub, 1) := by decide +kernel
theorem dJ3_checkFromIndexSize_8c36e_12 : decode cJ3_checkFromIndexSize_8c36e 12 = .ok (.if_icmp .le 11, 3) := by decide +kernel
theorem dJ3_checkFromIndexSize_8c36e_15 : decode cJ3_checkFromIndexSize_8c36e 15 = .ok (.aload_n 3, 1) := by decide +kernel
theorem dJ3_checkFromIndexSize_8c36e_16 : decode cJ3_checkFromIndexSize_8c36e 16 = .ok (.iload_n 0, 1) := by decide +kernel
theorem dJ3_checkFromIndexSize_8c36e_17 : decode cJ3_checkFromIndexSize_8c36e 17 = .ok (.iload_n 1, 1) := by decide +kernel
theorem dJ3_checkFromIndexSize_8c36e_18 : decode cJ3_checkFromIndexSize_8c36e 18 = .ok (.iload_n 2, 1) := by decide +kernel
theorem dJ3_checkFromIndexSize_8c36e_19 : decode cJ3_checkFromIndexSize_8c36e 19 = .ok (.invokestatic 103, 3) := by decide +kernel
theorem dJ3_checkFromIndexSize_8c36e_22 : decode cJ3_checkFromIndexSize_8c36e 22 = .ok (.athrow, 1) := by decide +kernel
theorem dJ3_checkFromIndexSize_8c36e_23 : decode cJ3_checkFromIndexSize_8c36e 23 = .ok (.iload_n 0, 1) := by decide +kernel
theorem dJ3_checkFromIndexSize_8c36e_24 : decode cJ3_checkFromIndexSize_8c36e 24 = .ok (.ireturn, 1) := by decide +kernel
