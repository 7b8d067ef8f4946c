theorem dX0_init_0 : decode cX0_init 0 = .ok (.aload_n 0, 1) := by decide +kernel
theorem dX0_init_1 : decode cX0_init 1 = .ok (.invokespecial 3, 3) := by decide +kernel
theorem dX0_init_4 : decode cX0_init 4 = .ok (.aload_n 0, 1) := by decide +kernel
theorem dX0_init_5 : decode cX0_init 5 = .ok (.bipush 100, 2) := by decide +kernel
theorem dX0_init_7 : decode cX0_init 7 = .ok (.newarray .long, 2) := by decide +kernel
theorem dX0_init_9 : decode cX0_init 9 = .ok (.putfield 9, 3) := by decide +kernel
theorem dX0_init_12 : decode cX0_init 12 = .ok (.aload_n 0, 1) := by decide +kernel
theorem dX0_init_13 : decode cX0_init 13 = .ok (.sipush 1024, 3) := by decide +kernel
theorem dX0_init_16 : decode cX0_init 16 = .ok (.newarray .long, 2) := by decide +kernel
theorem dX0_init_18 : decode cX0_init 18 = .ok (.putfield 15, 3) := by decide +kernel
theorem dX0_init_21 : decode cX0_init 21 = .ok (.return_, 1) := by decide +kernel
theorem dX0_find_0 : decode cX0_find 0 = .ok (.aload_n 0, 1) := by decide +kernel
theorem dX0_find_1 : decode cX0_find 1 = .ok (.aload_n 1, 1) := by decide +kernel
theorem dX0_find_2 : decode cX0_find 2 = .ok (.iload_n 2, 1) := by decide +kernel
theorem dX0_find_3 : decode cX0_find 3 = .ok (.aload_n 3, 1) := by decide +kernel
theorem dX0_find_4 : decode cX0_find 4 = .ok (.invokevirtual 18, 3) := by decide +kernel
theorem dX0_find_7 : decode cX0_find 7 = .ok (.ifCond .ne 5, 3) := by decide +kernel
theorem dX0_find_10 : decode cX0_find 10 = .ok (.iconst 0, 1) := by decide +kernel
theorem dX0_find_11 : decode cX0_find 11 = .ok (.ireturn, 1) := by decide +kernel
theorem dX0_find_12 : decode cX0_find 12 = .ok (.iconst 0, 1) := by decide +kernel
theorem dX0_find_13 : decode cX0_find 13 = .ok (.istore 4, 2) := by decide +kernel
theorem dX0_find_15 : decode cX0_find 15 = .ok (.iload 4, 2) := by decide +kernel
theorem dX0_find_17 : decode cX0_find 17 = .ok (.aload_n 1, 1) := by decide +kernel
theorem dX0_find_18 : decode cX0_find 18 = .ok (.getfield 22, 3) := by decide +kernel
theorem dX0_find_21 : decode cX0_find 21 = .ok (.if_icmp .ge 15, 3) := by decide +kernel
theorem dX0_find_24 : decode cX0_find 24 = .ok (.aload_n 0, 1) := by decide +kernel
theorem dX0_find_25 : decode cX0_find 25 = .ok (.iload 4, 2) := by decide +kernel
theorem dX0_find_27 : decode cX0_find 27 = .ok (.invokevirtual 28, 3) := by decide +kernel
theorem dX0_find_30 : decode cX0_find 30 = .ok (.iinc 4 1, 3) := by decide +kernel
theorem dX0_find_33 : decode cX0_find 33 = .ok (.goto (-18), 3) := by decide +kernel
theorem dX0_find_36 : decode cX0_find 36 = .ok (.aload_n 0, 1) := by decide +kernel
theorem dX0_find_37 : decode cX0_find 37 = .ok (.getfield 15, 3) := by decide +kernel
theorem dX0_find_40 : decode cX0_find 40 = .ok (.iconst 1, 1) := by decide +kernel
theorem dX0_find_41 : decode cX0_find 41 = .ok (.aload_n 1, 1) := by decide +kernel
theorem dX0_find_42 : decode cX0_find 42 = .ok (.getfield 22, 3) := by decide +kernel
theorem dX0_find_45 : decode cX0_find 45 = .ok (.ishl, 1) := by decide +kernel
theorem dX0_find_46 : decode cX0_find 46 = .ok (.iconst 1, 1) := by decide +kernel
theorem dX0_find_47 : decode cX0_find 47 = .ok (.isub, 1) := by decide +kernel
theorem dX0_find_48 : decode cX0_find 48 = .ok (.laload, 1) := by decide +kernel
theorem dX0_find_49 : decode cX0_find 49 = .ok (.lstore 4, 2) := by decide +kernel
theorem dX0_find_51 : decode cX0_find 51 = .ok (.lload 4, 2) := by decide +kernel
theorem dX0_find_53 : decode cX0_find 53 = .ok (.lneg, 1) := by decide +kernel
theorem dX0_find_54 : decode cX0_find 54 = .ok (.ldc2_w 32, 3) := by decide +kernel
theorem dX0_find_57 : decode cX0_find 57 = .ok (.land, 1) := by decide +kernel
theorem dX0_find_58 : decode cX0_find 58 = .ok (.l2i, 1) := by decide +kernel
theorem dX0_find_59 : decode cX0_find 59 = .ok (.ireturn, 1) := by decide +kernel
theorem dX0_rankPairs_0 : decode cX0_rankPairs 0 = .ok (.iconst 0, 1) := by decide +kernel
theorem dX0_rankPairs_1 : decode cX0_rankPairs 1 = .ok (.istore 4, 2) := by decide +kernel
theorem dX0_rankPairs_3 : decode cX0_rankPairs 3 = .ok (.iconst 0, 1) := by decide +kernel
theorem dX0_rankPairs_4 : decode cX0_rankPairs 4 = .ok (.istore 5, 2) := by decide +kernel
theorem dX0_rankPairs_6 : decode cX0_rankPairs 6 = .ok (.iload 5, 2) := by decide +kernel
theorem dX0_rankPairs_8 : decode cX0_rankPairs 8 = .ok (.aload_n 0, 1) := by decide +kernel
theorem dX0_rankPairs_9 : decode cX0_rankPairs 9 = .ok (.getfield 9, 3) := by decide +kernel
theorem dX0_rankPairs_12 : decode cX0_rankPairs 12 = .ok (.arraylength, 1) := by decide +kernel
theorem dX0_rankPairs_13 : decode cX0_rankPairs 13 = .ok (.if_icmp .ge 17, 3) := by decide +kernel
theorem dX0_rankPairs_16 : decode cX0_rankPairs 16 = .ok (.aload_n 0, 1) := by decide +kernel
theorem dX0_rankPairs_17 : decode cX0_rankPairs 17 = .ok (.getfield 9, 3) := by decide +kernel
theorem dX0_rankPairs_20 : decode cX0_rankPairs 20 = .ok (.iload 5, 2) := by decide +kernel
theorem dX0_rankPairs_22 : decode cX0_rankPairs 22 = .ok (.lconst 0, 1) := by decide +kernel
theorem dX0_rankPairs_23 : decode cX0_rankPairs 23 = .ok (.lastore, 1) := by decide +kernel
theorem dX0_rankPairs_24 : decode cX0_rankPairs 24 = .ok (.iinc 5 1, 3) := by decide +kernel
theorem dX0_rankPairs_27 : decode cX0_rankPairs 27 = .ok (.goto (-21), 3) := by decide +kernel
theorem dX0_rankPairs_30 : decode cX0_rankPairs 30 = .ok (.iconst 0, 1) := by decide +kernel
theorem dX0_rankPairs_31 : decode cX0_rankPairs 31 = .ok (.istore 5, 2) := by decide +kernel
theorem dX0_rankPairs_33 : decode cX0_rankPairs 33 = .ok (.iload 5, 2) := by decide +kernel
theorem dX0_rankPairs_35 : decode cX0_rankPairs 35 = .ok (.aload_n 1, 1) := by decide +kernel
theorem dX0_rankPairs_36 : decode cX0_rankPairs 36 = .ok (.getfield 34, 3) := by decide +kernel
theorem dX0_rankPairs_39 : decode cX0_rankPairs 39 = .ok (.if_icmp .ge 89, 3) := by decide +kernel
theorem dX0_rankPairs_42 : decode cX0_rankPairs 42 = .ok (.iload_n 2, 1) := by decide +kernel
theorem dX0_rankPairs_43 : decode cX0_rankPairs 43 = .ok (.iload 5, 2) := by decide +kernel
theorem dX0_rankPairs_45 : decode cX0_rankPairs 45 = .ok (.invokestatic 37, 3) := by decide +kernel
theorem dX0_rankPairs_48 : decode cX0_rankPairs 48 = .ok (.ifCond .eq 13, 3) := by decide +kernel
theorem dX0_rankPairs_51 : decode cX0_rankPairs 51 = .ok (.aload_n 1, 1) := by decide +kernel
theorem dX0_rankPairs_52 : decode cX0_rankPairs 52 = .ok (.iload 5, 2) := by decide +kernel
theorem dX0_rankPairs_54 : decode cX0_rankPairs 54 = .ok (.aload_n 3, 1) := by decide +kernel
theorem dX0_rankPairs_55 : decode cX0_rankPairs 55 = .ok (.invokevirtual 41, 3) := by decide +kernel
theorem dX0_rankPairs_58 : decode cX0_rankPairs 58 = .ok (.goto 4, 3) := by decide +kernel
theorem dX0_rankPairs_61 : decode cX0_rankPairs 61 = .ok (.iconst 0, 1) := by decide +kernel
theorem dX0_rankPairs_62 : decode cX0_rankPairs 62 = .ok (.istore 6, 2) := by decide +kernel
theorem dX0_rankPairs_64 : decode cX0_rankPairs 64 = .ok (.iload 6, 2) := by decide +kernel
theorem dX0_rankPairs_66 : decode cX0_rankPairs 66 = .ok (.ifCond .le 56, 3) := by decide +kernel
theorem dX0_rankPairs_69 : decode cX0_rankPairs 69 = .ok (.aload_n 1, 1) := by decide +kernel
theorem dX0_rankPairs_70 : decode cX0_rankPairs 70 = .ok (.getfield 45, 3) := by decide +kernel
theorem dX0_rankPairs_73 : decode cX0_rankPairs 73 = .ok (.iload 5, 2) := by decide +kernel
theorem dX0_rankPairs_75 : decode cX0_rankPairs 75 = .ok (.iaload, 1) := by decide +kernel
theorem dX0_rankPairs_76 : decode cX0_rankPairs 76 = .ok (.aload_n 1, 1) := by decide +kernel
theorem dX0_rankPairs_77 : decode cX0_rankPairs 77 = .ok (.getfield 49, 3) := by decide +kernel
theorem dX0_rankPairs_80 : decode cX0_rankPairs 80 = .ok (.iload 5, 2) := by decide +kernel
theorem dX0_rankPairs_82 : decode cX0_rankPairs 82 = .ok (.iaload, 1) := by decide +kernel
theorem dX0_rankPairs_83 : decode cX0_rankPairs 83 = .ok (.invokestatic 52, 3) := by decide +kernel
theorem dX0_rankPairs_86 : decode cX0_rankPairs 86 = .ok (.istore 7, 2) := by decide +kernel
theorem dX0_rankPairs_88 : decode cX0_rankPairs 88 = .ok (.aload_n 0, 1) := by decide +kernel
theorem dX0_rankPairs_89 : decode cX0_rankPairs 89 = .ok (.getfield 9, 3) := by decide +kernel
theorem dX0_rankPairs_92 : decode cX0_rankPairs 92 = .ok (.iload 7, 2) := by decide +kernel
theorem dX0_rankPairs_94 : decode cX0_rankPairs 94 = .ok (.aload_n 0, 1) := by decide +kernel
theorem dX0_rankPairs_95 : decode cX0_rankPairs 95 = .ok (.getfield 9, 3) := by decide +kernel
theorem dX0_rankPairs_98 : decode cX0_rankPairs 98 = .ok (.iload 7, 2) := by decide +kernel
theorem dX0_rankPairs_100 : decode cX0_rankPairs 100 = .ok (.laload, 1) := by decide +kernel
theorem dX0_rankPairs_101 : decode cX0_rankPairs 101 = .ok (.iload 6, 2) := by decide +kernel
theorem dX0_rankPairs_103 : decode cX0_rankPairs 103 = .ok (.aload_n 1, 1) := by decide +kernel
theorem dX0_rankPairs_104 : decode cX0_rankPairs 104 = .ok (.getfield 56, 3) := by decide +kernel
theorem dX0_rankPairs_107 : decode cX0_rankPairs 107 = .ok (.iload 5, 2) := by decide +kernel
theorem dX0_rankPairs_109 : decode cX0_rankPairs 109 = .ok (.iaload, 1) := by decide +kernel
theorem dX0_rankPairs_110 : decode cX0_rankPairs 110 = .ok (.iload 5, 2) := by decide +kernel
theorem dX0_rankPairs_112 : decode cX0_rankPairs 112 = .ok (.invokestatic 59, 3) := by decide +kernel
theorem dX0_rankPairs_115 : decode cX0_rankPairs 115 = .ok (.invokestatic 63, 3) := by decide +kernel
theorem dX0_rankPairs_118 : decode cX0_rankPairs 118 = .ok (.lastore, 1) := by decide +kernel
theorem dX0_rankPairs_119 : decode cX0_rankPairs 119 = .ok (.iconst 1, 1) := by decide +kernel
theorem dX0_rankPairs_120 : decode cX0_rankPairs 120 = .ok (.istore 4, 2) := by decide +kernel
theorem dX0_rankPairs_122 : decode cX0_rankPairs 122 = .ok (.iinc 5 1, 3) := by decide +kernel
theorem dX0_rankPairs_125 : decode cX0_rankPairs 125 = .ok (.goto (-92), 3) := by decide +kernel
theorem dX0_rankPairs_128 : decode cX0_rankPairs 128 = .ok (.iload 4, 2) := by decide +kernel
theorem dX0_rankPairs_130 : decode cX0_rankPairs 130 = .ok (.ireturn, 1) := by decide +kernel
theorem dX0_pairOf_0 : decode cX0_pairOf 0 = .ok (.iload_n 0, 1) := by decide +kernel
theorem dX0_pairOf_1 : decode cX0_pairOf 1 = .ok (.iload_n 1, 1) := by decide +kernel
theorem dX0_pairOf_2 : decode cX0_pairOf 2 = .ok (.invokestatic 69, 3) := by decide +kernel
theorem dX0_pairOf_5 : decode cX0_pairOf 5 = .ok (.bipush 10, 2) := by decide +kernel
theorem dX0_pairOf_7 : decode cX0_pairOf 7 = .ok (.imul, 1) := by decide +kernel
theorem dX0_pairOf_8 : decode cX0_pairOf 8 = .ok (.iload_n 0, 1) := by decide +kernel
theorem dX0_pairOf_9 : decode cX0_pairOf 9 = .ok (.iload_n 1, 1) := by decide +kernel
theorem dX0_pairOf_10 : decode cX0_pairOf 10 = .ok (.invokestatic 71, 3) := by decide +kernel
theorem dX0_pairOf_13 : decode cX0_pairOf 13 = .ok (.iadd, 1) := by decide +kernel
theorem dX0_pairOf_14 : decode cX0_pairOf 14 = .ok (.ireturn, 1) := by decide +kernel
theorem dX0_worth_0 : decode cX0_worth 0 = .ok (.iload_n 0, 1) := by decide +kernel
theorem dX0_worth_1 : decode cX0_worth 1 = .ok (.i2l, 1) := by decide +kernel
theorem dX0_worth_2 : decode cX0_worth 2 = .ok (.bipush 40, 2) := by decide +kernel
theorem dX0_worth_4 : decode cX0_worth 4 = .ok (.lshl, 1) := by decide +kernel
theorem dX0_worth_5 : decode cX0_worth 5 = .ok (.iload_n 1, 1) := by decide +kernel
theorem dX0_worth_6 : decode cX0_worth 6 = .ok (.i2l, 1) := by decide +kernel
theorem dX0_worth_7 : decode cX0_worth 7 = .ok (.bipush 24, 2) := by decide +kernel
theorem dX0_worth_9 : decode cX0_worth 9 = .ok (.lshl, 1) := by decide +kernel
theorem dX0_worth_10 : decode cX0_worth 10 = .ok (.lsub, 1) := by decide +kernel
theorem dX0_worth_11 : decode cX0_worth 11 = .ok (.lconst 1, 1) := by decide +kernel
theorem dX0_worth_12 : decode cX0_worth 12 = .ok (.iload_n 2, 1) := by decide +kernel
theorem dX0_worth_13 : decode cX0_worth 13 = .ok (.lshl, 1) := by decide +kernel
theorem dX0_worth_14 : decode cX0_worth 14 = .ok (.lsub, 1) := by decide +kernel
theorem dX0_worth_15 : decode cX0_worth 15 = .ok (.lreturn, 1) := by decide +kernel
theorem dX0_admit_0 : decode cX0_admit 0 = .ok (.iconst 1, 1) := by decide +kernel
theorem dX0_admit_1 : decode cX0_admit 1 = .ok (.iload_n 1, 1) := by decide +kernel
theorem dX0_admit_2 : decode cX0_admit 2 = .ok (.ishl, 1) := by decide +kernel
theorem dX0_admit_3 : decode cX0_admit 3 = .ok (.istore_n 2, 1) := by decide +kernel
theorem dX0_admit_4 : decode cX0_admit 4 = .ok (.iconst 0, 1) := by decide +kernel
theorem dX0_admit_5 : decode cX0_admit 5 = .ok (.istore_n 3, 1) := by decide +kernel
theorem dX0_admit_6 : decode cX0_admit 6 = .ok (.iload_n 3, 1) := by decide +kernel
theorem dX0_admit_7 : decode cX0_admit 7 = .ok (.iload_n 2, 1) := by decide +kernel
theorem dX0_admit_8 : decode cX0_admit 8 = .ok (.if_icmp .ge 23, 3) := by decide +kernel
theorem dX0_admit_11 : decode cX0_admit 11 = .ok (.aload_n 0, 1) := by decide +kernel
theorem dX0_admit_12 : decode cX0_admit 12 = .ok (.getfield 15, 3) := by decide +kernel
theorem dX0_admit_15 : decode cX0_admit 15 = .ok (.iload_n 2, 1) := by decide +kernel
theorem dX0_admit_16 : decode cX0_admit 16 = .ok (.iload_n 3, 1) := by decide +kernel
theorem dX0_admit_17 : decode cX0_admit 17 = .ok (.iadd, 1) := by decide +kernel
theorem dX0_admit_18 : decode cX0_admit 18 = .ok (.aload_n 0, 1) := by decide +kernel
theorem dX0_admit_19 : decode cX0_admit 19 = .ok (.getfield 15, 3) := by decide +kernel
theorem dX0_admit_22 : decode cX0_admit 22 = .ok (.iload_n 3, 1) := by decide +kernel
theorem dX0_admit_23 : decode cX0_admit 23 = .ok (.laload, 1) := by decide +kernel
theorem dX0_admit_24 : decode cX0_admit 24 = .ok (.lastore, 1) := by decide +kernel
theorem dX0_admit_25 : decode cX0_admit 25 = .ok (.iinc 3 1, 3) := by decide +kernel
theorem dX0_admit_28 : decode cX0_admit 28 = .ok (.goto (-22), 3) := by decide +kernel
theorem dX0_admit_31 : decode cX0_admit 31 = .ok (.iconst 0, 1) := by decide +kernel
theorem dX0_admit_32 : decode cX0_admit 32 = .ok (.istore_n 3, 1) := by decide +kernel
theorem dX0_admit_33 : decode cX0_admit 33 = .ok (.iload_n 3, 1) := by decide +kernel
theorem dX0_admit_34 : decode cX0_admit 34 = .ok (.iload_n 1, 1) := by decide +kernel
theorem dX0_admit_35 : decode cX0_admit 35 = .ok (.if_icmp .ge 36, 3) := by decide +kernel
theorem dX0_admit_38 : decode cX0_admit 38 = .ok (.aload_n 0, 1) := by decide +kernel
theorem dX0_admit_39 : decode cX0_admit 39 = .ok (.getfield 9, 3) := by decide +kernel
theorem dX0_admit_42 : decode cX0_admit 42 = .ok (.iload_n 1, 1) := by decide +kernel
theorem dX0_admit_43 : decode cX0_admit 43 = .ok (.iload_n 3, 1) := by decide +kernel
theorem dX0_admit_44 : decode cX0_admit 44 = .ok (.invokestatic 52, 3) := by decide +kernel
theorem dX0_admit_47 : decode cX0_admit 47 = .ok (.laload, 1) := by decide +kernel
theorem dX0_admit_48 : decode cX0_admit 48 = .ok (.lstore 4, 2) := by decide +kernel
theorem dX0_admit_50 : decode cX0_admit 50 = .ok (.lload 4, 2) := by decide +kernel
theorem dX0_admit_52 : decode cX0_admit 52 = .ok (.lconst 0, 1) := by decide +kernel
theorem dX0_admit_53 : decode cX0_admit 53 = .ok (.lcmp, 1) := by decide +kernel
theorem dX0_admit_54 : decode cX0_admit 54 = .ok (.ifCond .le 11, 3) := by decide +kernel
theorem dX0_admit_57 : decode cX0_admit 57 = .ok (.aload_n 0, 1) := by decide +kernel
theorem dX0_admit_58 : decode cX0_admit 58 = .ok (.iload_n 2, 1) := by decide +kernel
theorem dX0_admit_59 : decode cX0_admit 59 = .ok (.iload_n 3, 1) := by decide +kernel
theorem dX0_admit_60 : decode cX0_admit 60 = .ok (.lload 4, 2) := by decide +kernel
theorem dX0_admit_62 : decode cX0_admit 62 = .ok (.invokevirtual 74, 3) := by decide +kernel
theorem dX0_admit_65 : decode cX0_admit 65 = .ok (.iinc 3 1, 3) := by decide +kernel
theorem dX0_admit_68 : decode cX0_admit 68 = .ok (.goto (-35), 3) := by decide +kernel
theorem dX0_admit_71 : decode cX0_admit 71 = .ok (.return_, 1) := by decide +kernel
theorem dX0_admitWith_0 : decode cX0_admitWith 0 = .ok (.iconst 0, 1) := by decide +kernel
theorem dX0_admitWith_1 : decode cX0_admitWith 1 = .ok (.istore 5, 2) := by decide +kernel
theorem dX0_admitWith_3 : decode cX0_admitWith 3 = .ok (.iload 5, 2) := by decide +kernel
theorem dX0_admitWith_5 : decode cX0_admitWith 5 = .ok (.iload_n 1, 1) := by decide +kernel
theorem dX0_admitWith_6 : decode cX0_admitWith 6 = .ok (.if_icmp .ge 58, 3) := by decide +kernel
theorem dX0_admitWith_9 : decode cX0_admitWith 9 = .ok (.iload 5, 2) := by decide +kernel
theorem dX0_admitWith_11 : decode cX0_admitWith 11 = .ok (.iload_n 2, 1) := by decide +kernel
theorem dX0_admitWith_12 : decode cX0_admitWith 12 = .ok (.invokestatic 37, 3) := by decide +kernel
theorem dX0_admitWith_15 : decode cX0_admitWith 15 = .ok (.ifCond .eq 43, 3) := by decide +kernel
theorem dX0_admitWith_18 : decode cX0_admitWith 18 = .ok (.lload_n 3, 1) := by decide +kernel
theorem dX0_admitWith_19 : decode cX0_admitWith 19 = .ok (.aload_n 0, 1) := by decide +kernel
theorem dX0_admitWith_20 : decode cX0_admitWith 20 = .ok (.getfield 15, 3) := by decide +kernel
theorem dX0_admitWith_23 : decode cX0_admitWith 23 = .ok (.iload 5, 2) := by decide +kernel
theorem dX0_admitWith_25 : decode cX0_admitWith 25 = .ok (.iconst 1, 1) := by decide +kernel
theorem dX0_admitWith_26 : decode cX0_admitWith 26 = .ok (.iload_n 2, 1) := by decide +kernel
theorem dX0_admitWith_27 : decode cX0_admitWith 27 = .ok (.ishl, 1) := by decide +kernel
theorem dX0_admitWith_28 : decode cX0_admitWith 28 = .ok (.iconst (-1), 1) := by decide +kernel
theorem dX0_admitWith_29 : decode cX0_admitWith 29 = .ok (.ixor, 1) := by decide +kernel
theorem dX0_admitWith_30 : decode cX0_admitWith 30 = .ok (.iand, 1) := by decide +kernel
theorem dX0_admitWith_31 : decode cX0_admitWith 31 = .ok (.laload, 1) := by decide +kernel
theorem dX0_admitWith_32 : decode cX0_admitWith 32 = .ok (.ladd, 1) := by decide +kernel
theorem dX0_admitWith_33 : decode cX0_admitWith 33 = .ok (.lstore 6, 2) := by decide +kernel
theorem dX0_admitWith_35 : decode cX0_admitWith 35 = .ok (.aload_n 0, 1) := by decide +kernel
theorem dX0_admitWith_36 : decode cX0_admitWith 36 = .ok (.getfield 15, 3) := by decide +kernel
theorem dX0_admitWith_39 : decode cX0_admitWith 39 = .ok (.iload_n 1, 1) := by decide +kernel
theorem dX0_admitWith_40 : decode cX0_admitWith 40 = .ok (.iload 5, 2) := by decide +kernel
theorem dX0_admitWith_42 : decode cX0_admitWith 42 = .ok (.iadd, 1) := by decide +kernel
theorem dX0_admitWith_43 : decode cX0_admitWith 43 = .ok (.aload_n 0, 1) := by decide +kernel
theorem dX0_admitWith_44 : decode cX0_admitWith 44 = .ok (.getfield 15, 3) := by decide +kernel
theorem dX0_admitWith_47 : decode cX0_admitWith 47 = .ok (.iload_n 1, 1) := by decide +kernel
theorem dX0_admitWith_48 : decode cX0_admitWith 48 = .ok (.iload 5, 2) := by decide +kernel
theorem dX0_admitWith_50 : decode cX0_admitWith 50 = .ok (.iadd, 1) := by decide +kernel
theorem dX0_admitWith_51 : decode cX0_admitWith 51 = .ok (.laload, 1) := by decide +kernel
theorem dX0_admitWith_52 : decode cX0_admitWith 52 = .ok (.lload 6, 2) := by decide +kernel
theorem dX0_admitWith_54 : decode cX0_admitWith 54 = .ok (.invokestatic 63, 3) := by decide +kernel
theorem dX0_admitWith_57 : decode cX0_admitWith 57 = .ok (.lastore, 1) := by decide +kernel
theorem dX0_admitWith_58 : decode cX0_admitWith 58 = .ok (.iinc 5 1, 3) := by decide +kernel
theorem dX0_admitWith_61 : decode cX0_admitWith 61 = .ok (.goto (-58), 3) := by decide +kernel
theorem dX0_admitWith_64 : decode cX0_admitWith 64 = .ok (.return_, 1) := by decide +kernel
theorem dX1_init_0 : decode cX1_init 0 = .ok (.aload_n 0, 1) := by decide +kernel
theorem dX1_init_1 : decode cX1_init 1 = .ok (.invokespecial 3, 3) := by decide +kernel
theorem dX1_init_4 : decode cX1_init 4 = .ok (.aload_n 0, 1) := by decide +kernel
theorem dX1_init_5 : decode cX1_init 5 = .ok (.iconst 4, 1) := by decide +kernel
theorem dX1_init_6 : decode cX1_init 6 = .ok (.putfield 9, 3) := by decide +kernel
theorem dX1_init_9 : decode cX1_init 9 = .ok (.aload_n 0, 1) := by decide +kernel
theorem dX1_init_10 : decode cX1_init 10 = .ok (.iconst 0, 1) := by decide +kernel
theorem dX1_init_11 : decode cX1_init 11 = .ok (.putfield 15, 3) := by decide +kernel
theorem dX1_init_14 : decode cX1_init 14 = .ok (.aload_n 0, 1) := by decide +kernel
theorem dX1_init_15 : decode cX1_init 15 = .ok (.bipush 24, 2) := by decide +kernel
theorem dX1_init_17 : decode cX1_init 17 = .ok (.newarray .int, 2) := by decide +kernel
theorem dX1_init_19 : decode cX1_init 19 = .ok (.putfield 18, 3) := by decide +kernel
theorem dX1_init_22 : decode cX1_init 22 = .ok (.aload_n 0, 1) := by decide +kernel
theorem dX1_init_23 : decode cX1_init 23 = .ok (.bipush 24, 2) := by decide +kernel
theorem dX1_init_25 : decode cX1_init 25 = .ok (.newarray .int, 2) := by decide +kernel
theorem dX1_init_27 : decode cX1_init 27 = .ok (.putfield 22, 3) := by decide +kernel
theorem dX1_init_30 : decode cX1_init 30 = .ok (.aload_n 0, 1) := by decide +kernel
theorem dX1_init_31 : decode cX1_init 31 = .ok (.bipush 24, 2) := by decide +kernel
theorem dX1_init_33 : decode cX1_init 33 = .ok (.newarray .int, 2) := by decide +kernel
theorem dX1_init_35 : decode cX1_init 35 = .ok (.putfield 25, 3) := by decide +kernel
theorem dX1_init_38 : decode cX1_init 38 = .ok (.aload_n 0, 1) := by decide +kernel
theorem dX1_init_39 : decode cX1_init 39 = .ok (.bipush 24, 2) := by decide +kernel
theorem dX1_init_41 : decode cX1_init 41 = .ok (.newarray .boolean, 2) := by decide +kernel
theorem dX1_init_43 : decode cX1_init 43 = .ok (.putfield 28, 3) := by decide +kernel
theorem dX1_init_46 : decode cX1_init 46 = .ok (.aload_n 0, 1) := by decide +kernel
theorem dX1_init_47 : decode cX1_init 47 = .ok (.new 32, 3) := by decide +kernel
theorem dX1_init_50 : decode cX1_init 50 = .ok (.dup, 1) := by decide +kernel
theorem dX1_init_51 : decode cX1_init 51 = .ok (.invokespecial 34, 3) := by decide +kernel
theorem dX1_init_54 : decode cX1_init 54 = .ok (.putfield 35, 3) := by decide +kernel
theorem dX1_init_57 : decode cX1_init 57 = .ok (.aload_n 0, 1) := by decide +kernel
theorem dX1_init_58 : decode cX1_init 58 = .ok (.new 32, 3) := by decide +kernel
theorem dX1_init_61 : decode cX1_init 61 = .ok (.dup, 1) := by decide +kernel
theorem dX1_init_62 : decode cX1_init 62 = .ok (.invokespecial 34, 3) := by decide +kernel
theorem dX1_init_65 : decode cX1_init 65 = .ok (.putfield 39, 3) := by decide +kernel
theorem dX1_init_68 : decode cX1_init 68 = .ok (.return_, 1) := by decide +kernel
theorem dX1_clear_0 : decode cX1_clear 0 = .ok (.aload_n 0, 1) := by decide +kernel
theorem dX1_clear_1 : decode cX1_clear 1 = .ok (.iconst 4, 1) := by decide +kernel
theorem dX1_clear_2 : decode cX1_clear 2 = .ok (.putfield 9, 3) := by decide +kernel
theorem dX1_clear_5 : decode cX1_clear 5 = .ok (.aload_n 0, 1) := by decide +kernel
theorem dX1_clear_6 : decode cX1_clear 6 = .ok (.iconst 0, 1) := by decide +kernel
theorem dX1_clear_7 : decode cX1_clear 7 = .ok (.putfield 15, 3) := by decide +kernel
theorem dX1_clear_10 : decode cX1_clear 10 = .ok (.aload_n 0, 1) := by decide +kernel
theorem dX1_clear_11 : decode cX1_clear 11 = .ok (.getfield 35, 3) := by decide +kernel
theorem dX1_clear_14 : decode cX1_clear 14 = .ok (.invokevirtual 42, 3) := by decide +kernel
theorem dX1_clear_17 : decode cX1_clear 17 = .ok (.aload_n 0, 1) := by decide +kernel
theorem dX1_clear_18 : decode cX1_clear 18 = .ok (.getfield 39, 3) := by decide +kernel
theorem dX1_clear_21 : decode cX1_clear 21 = .ok (.invokevirtual 42, 3) := by decide +kernel
theorem dX1_clear_24 : decode cX1_clear 24 = .ok (.return_, 1) := by decide +kernel
theorem dX1_isFull_0 : decode cX1_isFull 0 = .ok (.aload_n 0, 1) := by decide +kernel
theorem dX1_isFull_1 : decode cX1_isFull 1 = .ok (.getfield 15, 3) := by decide +kernel
theorem dX1_isFull_4 : decode cX1_isFull 4 = .ok (.bipush 24, 2) := by decide +kernel
theorem dX1_isFull_6 : decode cX1_isFull 6 = .ok (.if_icmp .lt 7, 3) := by decide +kernel
theorem dX1_isFull_9 : decode cX1_isFull 9 = .ok (.iconst 1, 1) := by decide +kernel
theorem dX1_isFull_10 : decode cX1_isFull 10 = .ok (.goto 4, 3) := by decide +kernel
theorem dX1_isFull_13 : decode cX1_isFull 13 = .ok (.iconst 0, 1) := by decide +kernel
theorem dX1_isFull_14 : decode cX1_isFull 14 = .ok (.ireturn, 1) := by decide +kernel
theorem dX1_addLine_0 : decode cX1_addLine 0 = .ok (.aload_n 0, 1) := by decide +kernel
theorem dX1_addLine_1 : decode cX1_addLine 1 = .ok (.invokevirtual 45, 3) := by decide +kernel
theorem dX1_addLine_4 : decode cX1_addLine 4 = .ok (.ifCond .eq 4, 3) := by decide +kernel
theorem dX1_addLine_7 : decode cX1_addLine 7 = .ok (.return_, 1) := by decide +kernel
theorem dX1_addLine_8 : decode cX1_addLine 8 = .ok (.aload_n 0, 1) := by decide +kernel
theorem dX1_addLine_9 : decode cX1_addLine 9 = .ok (.getfield 18, 3) := by decide +kernel
theorem dX1_addLine_12 : decode cX1_addLine 12 = .ok (.aload_n 0, 1) := by decide +kernel
theorem dX1_addLine_13 : decode cX1_addLine 13 = .ok (.getfield 15, 3) := by decide +kernel
theorem dX1_addLine_16 : decode cX1_addLine 16 = .ok (.iload_n 1, 1) := by decide +kernel
theorem dX1_addLine_17 : decode cX1_addLine 17 = .ok (.iastore, 1) := by decide +kernel
theorem dX1_addLine_18 : decode cX1_addLine 18 = .ok (.aload_n 0, 1) := by decide +kernel
theorem dX1_addLine_19 : decode cX1_addLine 19 = .ok (.getfield 22, 3) := by decide +kernel
theorem dX1_addLine_22 : decode cX1_addLine 22 = .ok (.aload_n 0, 1) := by decide +kernel
theorem dX1_addLine_23 : decode cX1_addLine 23 = .ok (.getfield 15, 3) := by decide +kernel
theorem dX1_addLine_26 : decode cX1_addLine 26 = .ok (.iload_n 2, 1) := by decide +kernel
theorem dX1_addLine_27 : decode cX1_addLine 27 = .ok (.iastore, 1) := by decide +kernel
theorem dX1_addLine_28 : decode cX1_addLine 28 = .ok (.aload_n 0, 1) := by decide +kernel
theorem dX1_addLine_29 : decode cX1_addLine 29 = .ok (.getfield 28, 3) := by decide +kernel
theorem dX1_addLine_32 : decode cX1_addLine 32 = .ok (.aload_n 0, 1) := by decide +kernel
theorem dX1_addLine_33 : decode cX1_addLine 33 = .ok (.getfield 15, 3) := by decide +kernel
theorem dX1_addLine_36 : decode cX1_addLine 36 = .ok (.iload_n 3, 1) := by decide +kernel
theorem dX1_addLine_37 : decode cX1_addLine 37 = .ok (.bastore, 1) := by decide +kernel
theorem dX1_addLine_38 : decode cX1_addLine 38 = .ok (.aload_n 0, 1) := by decide +kernel
theorem dX1_addLine_39 : decode cX1_addLine 39 = .ok (.getfield 25, 3) := by decide +kernel
theorem dX1_addLine_42 : decode cX1_addLine 42 = .ok (.aload_n 0, 1) := by decide +kernel
theorem dX1_addLine_43 : decode cX1_addLine 43 = .ok (.getfield 15, 3) := by decide +kernel
theorem dX1_addLine_46 : decode cX1_addLine 46 = .ok (.iload 4, 2) := by decide +kernel
theorem dX1_addLine_48 : decode cX1_addLine 48 = .ok (.iastore, 1) := by decide +kernel
theorem dX1_addLine_49 : decode cX1_addLine 49 = .ok (.aload_n 0, 1) := by decide +kernel
theorem dX1_addLine_50 : decode cX1_addLine 50 = .ok (.dup, 1) := by decide +kernel
theorem dX1_addLine_51 : decode cX1_addLine 51 = .ok (.getfield 15, 3) := by decide +kernel
theorem dX1_addLine_54 : decode cX1_addLine 54 = .ok (.iconst 1, 1) := by decide +kernel
theorem dX1_addLine_55 : decode cX1_addLine 55 = .ok (.iadd, 1) := by decide +kernel
theorem dX1_addLine_56 : decode cX1_addLine 56 = .ok (.putfield 15, 3) := by decide +kernel
theorem dX1_addLine_59 : decode cX1_addLine 59 = .ok (.return_, 1) := by decide +kernel
theorem dX1_allLines_0 : decode cX1_allLines 0 = .ok (.iconst 1, 1) := by decide +kernel
theorem dX1_allLines_1 : decode cX1_allLines 1 = .ok (.aload_n 0, 1) := by decide +kernel
theorem dX1_allLines_2 : decode cX1_allLines 2 = .ok (.getfield 15, 3) := by decide +kernel
theorem dX1_allLines_5 : decode cX1_allLines 5 = .ok (.ishl, 1) := by decide +kernel
theorem dX1_allLines_6 : decode cX1_allLines 6 = .ok (.iconst 1, 1) := by decide +kernel
theorem dX1_allLines_7 : decode cX1_allLines 7 = .ok (.isub, 1) := by decide +kernel
theorem dX1_allLines_8 : decode cX1_allLines 8 = .ok (.ireturn, 1) := by decide +kernel
theorem dX1_openLines_0 : decode cX1_openLines 0 = .ok (.aload_n 0, 1) := by decide +kernel
theorem dX1_openLines_1 : decode cX1_openLines 1 = .ok (.getfield 39, 3) := by decide +kernel
theorem dX1_openLines_4 : decode cX1_openLines 4 = .ok (.iload_n 1, 1) := by decide +kernel
theorem dX1_openLines_5 : decode cX1_openLines 5 = .ok (.invokevirtual 49, 3) := by decide +kernel
theorem dX1_openLines_8 : decode cX1_openLines 8 = .ok (.istore_n 2, 1) := by decide +kernel
theorem dX1_openLines_9 : decode cX1_openLines 9 = .ok (.aload_n 0, 1) := by decide +kernel
theorem dX1_openLines_10 : decode cX1_openLines 10 = .ok (.invokevirtual 53, 3) := by decide +kernel
theorem dX1_openLines_13 : decode cX1_openLines 13 = .ok (.aload_n 0, 1) := by decide +kernel
theorem dX1_openLines_14 : decode cX1_openLines 14 = .ok (.getfield 35, 3) := by decide +kernel
theorem dX1_openLines_17 : decode cX1_openLines 17 = .ok (.iload_n 1, 1) := by decide +kernel
theorem dX1_openLines_18 : decode cX1_openLines 18 = .ok (.invokevirtual 49, 3) := by decide +kernel
theorem dX1_openLines_21 : decode cX1_openLines 21 = .ok (.iconst (-1), 1) := by decide +kernel
theorem dX1_openLines_22 : decode cX1_openLines 22 = .ok (.ixor, 1) := by decide +kernel
theorem dX1_openLines_23 : decode cX1_openLines 23 = .ok (.iand, 1) := by decide +kernel
theorem dX1_openLines_24 : decode cX1_openLines 24 = .ok (.istore_n 3, 1) := by decide +kernel
theorem dX1_openLines_25 : decode cX1_openLines 25 = .ok (.iconst 0, 1) := by decide +kernel
theorem dX1_openLines_26 : decode cX1_openLines 26 = .ok (.istore 4, 2) := by decide +kernel
theorem dX1_openLines_28 : decode cX1_openLines 28 = .ok (.iload 4, 2) := by decide +kernel
theorem dX1_openLines_30 : decode cX1_openLines 30 = .ok (.aload_n 0, 1) := by decide +kernel
theorem dX1_openLines_31 : decode cX1_openLines 31 = .ok (.getfield 15, 3) := by decide +kernel
theorem dX1_openLines_34 : decode cX1_openLines 34 = .ok (.if_icmp .ge 46, 3) := by decide +kernel
theorem dX1_openLines_37 : decode cX1_openLines 37 = .ok (.iload_n 2, 1) := by decide +kernel
theorem dX1_openLines_38 : decode cX1_openLines 38 = .ok (.aload_n 0, 1) := by decide +kernel
theorem dX1_openLines_39 : decode cX1_openLines 39 = .ok (.getfield 18, 3) := by decide +kernel
theorem dX1_openLines_42 : decode cX1_openLines 42 = .ok (.iload 4, 2) := by decide +kernel
theorem dX1_openLines_44 : decode cX1_openLines 44 = .ok (.iaload, 1) := by decide +kernel
theorem dX1_openLines_45 : decode cX1_openLines 45 = .ok (.invokestatic 57, 3) := by decide +kernel
theorem dX1_openLines_48 : decode cX1_openLines 48 = .ok (.ifCond .ne 17, 3) := by decide +kernel
theorem dX1_openLines_51 : decode cX1_openLines 51 = .ok (.iload_n 2, 1) := by decide +kernel
theorem dX1_openLines_52 : decode cX1_openLines 52 = .ok (.aload_n 0, 1) := by decide +kernel
theorem dX1_openLines_53 : decode cX1_openLines 53 = .ok (.getfield 22, 3) := by decide +kernel
theorem dX1_openLines_56 : decode cX1_openLines 56 = .ok (.iload 4, 2) := by decide +kernel
theorem dX1_openLines_58 : decode cX1_openLines 58 = .ok (.iaload, 1) := by decide +kernel
theorem dX1_openLines_59 : decode cX1_openLines 59 = .ok (.invokestatic 57, 3) := by decide +kernel
theorem dX1_openLines_62 : decode cX1_openLines 62 = .ok (.ifCond .eq 12, 3) := by decide +kernel
theorem dX1_openLines_65 : decode cX1_openLines 65 = .ok (.iload_n 3, 1) := by decide +kernel
theorem dX1_openLines_66 : decode cX1_openLines 66 = .ok (.iconst 1, 1) := by decide +kernel
theorem dX1_openLines_67 : decode cX1_openLines 67 = .ok (.iload 4, 2) := by decide +kernel
theorem dX1_openLines_69 : decode cX1_openLines 69 = .ok (.ishl, 1) := by decide +kernel
theorem dX1_openLines_70 : decode cX1_openLines 70 = .ok (.iconst (-1), 1) := by decide +kernel
theorem dX1_openLines_71 : decode cX1_openLines 71 = .ok (.ixor, 1) := by decide +kernel
theorem dX1_openLines_72 : decode cX1_openLines 72 = .ok (.iand, 1) := by decide +kernel
theorem dX1_openLines_73 : decode cX1_openLines 73 = .ok (.istore_n 3, 1) := by decide +kernel
theorem dX1_openLines_74 : decode cX1_openLines 74 = .ok (.iinc 4 1, 3) := by decide +kernel
theorem dX1_openLines_77 : decode cX1_openLines 77 = .ok (.goto (-49), 3) := by decide +kernel
theorem dX1_openLines_80 : decode cX1_openLines 80 = .ok (.iload_n 3, 1) := by decide +kernel
theorem dX1_openLines_81 : decode cX1_openLines 81 = .ok (.ireturn, 1) := by decide +kernel
theorem dX1_placeByCost_0 : decode cX1_placeByCost 0 = .ok (.iconst 0, 1) := by decide +kernel
theorem dX1_placeByCost_1 : decode cX1_placeByCost 1 = .ok (.istore_n 2, 1) := by decide +kernel
theorem dX1_placeByCost_2 : decode cX1_placeByCost 2 = .ok (.iconst 0, 1) := by decide +kernel
theorem dX1_placeByCost_3 : decode cX1_placeByCost 3 = .ok (.istore_n 3, 1) := by decide +kernel
theorem dX1_placeByCost_4 : decode cX1_placeByCost 4 = .ok (.iload_n 3, 1) := by decide +kernel
theorem dX1_placeByCost_5 : decode cX1_placeByCost 5 = .ok (.aload_n 0, 1) := by decide +kernel
theorem dX1_placeByCost_6 : decode cX1_placeByCost 6 = .ok (.getfield 15, 3) := by decide +kernel
theorem dX1_placeByCost_9 : decode cX1_placeByCost 9 = .ok (.if_icmp .ge 47, 3) := by decide +kernel
theorem dX1_placeByCost_12 : decode cX1_placeByCost 12 = .ok (.aload_n 0, 1) := by decide +kernel
theorem dX1_placeByCost_13 : decode cX1_placeByCost 13 = .ok (.getfield 25, 3) := by decide +kernel
theorem dX1_placeByCost_16 : decode cX1_placeByCost 16 = .ok (.iload_n 3, 1) := by decide +kernel
theorem dX1_placeByCost_17 : decode cX1_placeByCost 17 = .ok (.iaload, 1) := by decide +kernel
theorem dX1_placeByCost_18 : decode cX1_placeByCost 18 = .ok (.aload_n 0, 1) := by decide +kernel
theorem dX1_placeByCost_19 : decode cX1_placeByCost 19 = .ok (.getfield 25, 3) := by decide +kernel
theorem dX1_placeByCost_22 : decode cX1_placeByCost 22 = .ok (.iload_n 1, 1) := by decide +kernel
theorem dX1_placeByCost_23 : decode cX1_placeByCost 23 = .ok (.iaload, 1) := by decide +kernel
theorem dX1_placeByCost_24 : decode cX1_placeByCost 24 = .ok (.if_icmp .lt 23, 3) := by decide +kernel
theorem dX1_placeByCost_27 : decode cX1_placeByCost 27 = .ok (.aload_n 0, 1) := by decide +kernel
theorem dX1_placeByCost_28 : decode cX1_placeByCost 28 = .ok (.getfield 25, 3) := by decide +kernel
theorem dX1_placeByCost_31 : decode cX1_placeByCost 31 = .ok (.iload_n 3, 1) := by decide +kernel
theorem dX1_placeByCost_32 : decode cX1_placeByCost 32 = .ok (.iaload, 1) := by decide +kernel
theorem dX1_placeByCost_33 : decode cX1_placeByCost 33 = .ok (.aload_n 0, 1) := by decide +kernel
theorem dX1_placeByCost_34 : decode cX1_placeByCost 34 = .ok (.getfield 25, 3) := by decide +kernel
theorem dX1_placeByCost_37 : decode cX1_placeByCost 37 = .ok (.iload_n 1, 1) := by decide +kernel
theorem dX1_placeByCost_38 : decode cX1_placeByCost 38 = .ok (.iaload, 1) := by decide +kernel
theorem dX1_placeByCost_39 : decode cX1_placeByCost 39 = .ok (.if_icmp .ne 11, 3) := by decide +kernel
theorem dX1_placeByCost_42 : decode cX1_placeByCost 42 = .ok (.iload_n 3, 1) := by decide +kernel
theorem dX1_placeByCost_43 : decode cX1_placeByCost 43 = .ok (.iload_n 1, 1) := by decide +kernel
theorem dX1_placeByCost_44 : decode cX1_placeByCost 44 = .ok (.if_icmp .ge 6, 3) := by decide +kernel
theorem dX1_placeByCost_47 : decode cX1_placeByCost 47 = .ok (.iinc 2 1, 3) := by decide +kernel
theorem dX1_placeByCost_50 : decode cX1_placeByCost 50 = .ok (.iinc 3 1, 3) := by decide +kernel
theorem dX1_placeByCost_53 : decode cX1_placeByCost 53 = .ok (.goto (-49), 3) := by decide +kernel
theorem dX1_placeByCost_56 : decode cX1_placeByCost 56 = .ok (.iload_n 2, 1) := by decide +kernel
theorem dX1_placeByCost_57 : decode cX1_placeByCost 57 = .ok (.ireturn, 1) := by decide +kernel
theorem dX1_costOf_0 : decode cX1_costOf 0 = .ok (.iconst 0, 1) := by decide +kernel
theorem dX1_costOf_1 : decode cX1_costOf 1 = .ok (.istore_n 2, 1) := by decide +kernel
theorem dX1_costOf_2 : decode cX1_costOf 2 = .ok (.iconst 0, 1) := by decide +kernel
theorem dX1_costOf_3 : decode cX1_costOf 3 = .ok (.istore_n 3, 1) := by decide +kernel
theorem dX1_costOf_4 : decode cX1_costOf 4 = .ok (.iload_n 3, 1) := by decide +kernel
theorem dX1_costOf_5 : decode cX1_costOf 5 = .ok (.aload_n 0, 1) := by decide +kernel
theorem dX1_costOf_6 : decode cX1_costOf 6 = .ok (.getfield 15, 3) := by decide +kernel
theorem dX1_costOf_9 : decode cX1_costOf 9 = .ok (.if_icmp .ge 26, 3) := by decide +kernel
theorem dX1_costOf_12 : decode cX1_costOf 12 = .ok (.iload_n 1, 1) := by decide +kernel
theorem dX1_costOf_13 : decode cX1_costOf 13 = .ok (.iload_n 3, 1) := by decide +kernel
theorem dX1_costOf_14 : decode cX1_costOf 14 = .ok (.invokestatic 57, 3) := by decide +kernel
theorem dX1_costOf_17 : decode cX1_costOf 17 = .ok (.ifCond .eq 12, 3) := by decide +kernel
theorem dX1_costOf_20 : decode cX1_costOf 20 = .ok (.iload_n 2, 1) := by decide +kernel
theorem dX1_costOf_21 : decode cX1_costOf 21 = .ok (.aload_n 0, 1) := by decide +kernel
theorem dX1_costOf_22 : decode cX1_costOf 22 = .ok (.getfield 25, 3) := by decide +kernel
theorem dX1_costOf_25 : decode cX1_costOf 25 = .ok (.iload_n 3, 1) := by decide +kernel
theorem dX1_costOf_26 : decode cX1_costOf 26 = .ok (.iaload, 1) := by decide +kernel
theorem dX1_costOf_27 : decode cX1_costOf 27 = .ok (.iadd, 1) := by decide +kernel
theorem dX1_costOf_28 : decode cX1_costOf 28 = .ok (.istore_n 2, 1) := by decide +kernel
theorem dX1_costOf_29 : decode cX1_costOf 29 = .ok (.iinc 3 1, 3) := by decide +kernel
theorem dX1_costOf_32 : decode cX1_costOf 32 = .ok (.goto (-28), 3) := by decide +kernel
theorem dX1_costOf_35 : decode cX1_costOf 35 = .ok (.iload_n 2, 1) := by decide +kernel
theorem dX1_costOf_36 : decode cX1_costOf 36 = .ok (.ireturn, 1) := by decide +kernel
theorem dX1_personsOf_0 : decode cX1_personsOf 0 = .ok (.iconst 0, 1) := by decide +kernel
theorem dX1_personsOf_1 : decode cX1_personsOf 1 = .ok (.istore_n 2, 1) := by decide +kernel
theorem dX1_personsOf_2 : decode cX1_personsOf 2 = .ok (.iconst 0, 1) := by decide +kernel
theorem dX1_personsOf_3 : decode cX1_personsOf 3 = .ok (.istore_n 3, 1) := by decide +kernel
theorem dX1_personsOf_4 : decode cX1_personsOf 4 = .ok (.iload_n 3, 1) := by decide +kernel
theorem dX1_personsOf_5 : decode cX1_personsOf 5 = .ok (.aload_n 0, 1) := by decide +kernel
theorem dX1_personsOf_6 : decode cX1_personsOf 6 = .ok (.getfield 15, 3) := by decide +kernel
theorem dX1_personsOf_9 : decode cX1_personsOf 9 = .ok (.if_icmp .ge 37, 3) := by decide +kernel
theorem dX1_personsOf_12 : decode cX1_personsOf 12 = .ok (.iload_n 1, 1) := by decide +kernel
theorem dX1_personsOf_13 : decode cX1_personsOf 13 = .ok (.iload_n 3, 1) := by decide +kernel
theorem dX1_personsOf_14 : decode cX1_personsOf 14 = .ok (.invokestatic 57, 3) := by decide +kernel
theorem dX1_personsOf_17 : decode cX1_personsOf 17 = .ok (.ifCond .eq 23, 3) := by decide +kernel
theorem dX1_personsOf_20 : decode cX1_personsOf 20 = .ok (.iload_n 2, 1) := by decide +kernel
theorem dX1_personsOf_21 : decode cX1_personsOf 21 = .ok (.iconst 1, 1) := by decide +kernel
theorem dX1_personsOf_22 : decode cX1_personsOf 22 = .ok (.aload_n 0, 1) := by decide +kernel
theorem dX1_personsOf_23 : decode cX1_personsOf 23 = .ok (.getfield 18, 3) := by decide +kernel
theorem dX1_personsOf_26 : decode cX1_personsOf 26 = .ok (.iload_n 3, 1) := by decide +kernel
theorem dX1_personsOf_27 : decode cX1_personsOf 27 = .ok (.iaload, 1) := by decide +kernel
theorem dX1_personsOf_28 : decode cX1_personsOf 28 = .ok (.ishl, 1) := by decide +kernel
theorem dX1_personsOf_29 : decode cX1_personsOf 29 = .ok (.iconst 1, 1) := by decide +kernel
theorem dX1_personsOf_30 : decode cX1_personsOf 30 = .ok (.aload_n 0, 1) := by decide +kernel
theorem dX1_personsOf_31 : decode cX1_personsOf 31 = .ok (.getfield 22, 3) := by decide +kernel
theorem dX1_personsOf_34 : decode cX1_personsOf 34 = .ok (.iload_n 3, 1) := by decide +kernel
theorem dX1_personsOf_35 : decode cX1_personsOf 35 = .ok (.iaload, 1) := by decide +kernel
theorem dX1_personsOf_36 : decode cX1_personsOf 36 = .ok (.ishl, 1) := by decide +kernel
theorem dX1_personsOf_37 : decode cX1_personsOf 37 = .ok (.ior, 1) := by decide +kernel
theorem dX1_personsOf_38 : decode cX1_personsOf 38 = .ok (.ior, 1) := by decide +kernel
theorem dX1_personsOf_39 : decode cX1_personsOf 39 = .ok (.istore_n 2, 1) := by decide +kernel
theorem dX1_personsOf_40 : decode cX1_personsOf 40 = .ok (.iinc 3 1, 3) := by decide +kernel
theorem dX1_personsOf_43 : decode cX1_personsOf 43 = .ok (.goto (-39), 3) := by decide +kernel
theorem dX1_personsOf_46 : decode cX1_personsOf 46 = .ok (.iload_n 2, 1) := by decide +kernel
theorem dX1_personsOf_47 : decode cX1_personsOf 47 = .ok (.ireturn, 1) := by decide +kernel
theorem dX1_otherPerson_0 : decode cX1_otherPerson 0 = .ok (.iconst 0, 1) := by decide +kernel
theorem dX1_otherPerson_1 : decode cX1_otherPerson 1 = .ok (.istore_n 3, 1) := by decide +kernel
theorem dX1_otherPerson_2 : decode cX1_otherPerson 2 = .ok (.iload_n 3, 1) := by decide +kernel
theorem dX1_otherPerson_3 : decode cX1_otherPerson 3 = .ok (.aload_n 0, 1) := by decide +kernel
theorem dX1_otherPerson_4 : decode cX1_otherPerson 4 = .ok (.getfield 15, 3) := by decide +kernel
theorem dX1_otherPerson_7 : decode cX1_otherPerson 7 = .ok (.if_icmp .ge 59, 3) := by decide +kernel
theorem dX1_otherPerson_10 : decode cX1_otherPerson 10 = .ok (.iload_n 1, 1) := by decide +kernel
theorem dX1_otherPerson_11 : decode cX1_otherPerson 11 = .ok (.iload_n 3, 1) := by decide +kernel
theorem dX1_otherPerson_12 : decode cX1_otherPerson 12 = .ok (.invokestatic 57, 3) := by decide +kernel
theorem dX1_otherPerson_15 : decode cX1_otherPerson 15 = .ok (.ifCond .eq 20, 3) := by decide +kernel
theorem dX1_otherPerson_18 : decode cX1_otherPerson 18 = .ok (.aload_n 0, 1) := by decide +kernel
theorem dX1_otherPerson_19 : decode cX1_otherPerson 19 = .ok (.getfield 18, 3) := by decide +kernel
theorem dX1_otherPerson_22 : decode cX1_otherPerson 22 = .ok (.iload_n 3, 1) := by decide +kernel
theorem dX1_otherPerson_23 : decode cX1_otherPerson 23 = .ok (.iaload, 1) := by decide +kernel
theorem dX1_otherPerson_24 : decode cX1_otherPerson 24 = .ok (.iload_n 2, 1) := by decide +kernel
theorem dX1_otherPerson_25 : decode cX1_otherPerson 25 = .ok (.if_icmp .ne 10, 3) := by decide +kernel
theorem dX1_otherPerson_28 : decode cX1_otherPerson 28 = .ok (.aload_n 0, 1) := by decide +kernel
theorem dX1_otherPerson_29 : decode cX1_otherPerson 29 = .ok (.getfield 22, 3) := by decide +kernel
theorem dX1_otherPerson_32 : decode cX1_otherPerson 32 = .ok (.iload_n 3, 1) := by decide +kernel
theorem dX1_otherPerson_33 : decode cX1_otherPerson 33 = .ok (.iaload, 1) := by decide +kernel
theorem dX1_otherPerson_34 : decode cX1_otherPerson 34 = .ok (.ireturn, 1) := by decide +kernel
theorem dX1_otherPerson_35 : decode cX1_otherPerson 35 = .ok (.iload_n 1, 1) := by decide +kernel
theorem dX1_otherPerson_36 : decode cX1_otherPerson 36 = .ok (.iload_n 3, 1) := by decide +kernel
theorem dX1_otherPerson_37 : decode cX1_otherPerson 37 = .ok (.invokestatic 57, 3) := by decide +kernel
theorem dX1_otherPerson_40 : decode cX1_otherPerson 40 = .ok (.ifCond .eq 20, 3) := by decide +kernel
theorem dX1_otherPerson_43 : decode cX1_otherPerson 43 = .ok (.aload_n 0, 1) := by decide +kernel
theorem dX1_otherPerson_44 : decode cX1_otherPerson 44 = .ok (.getfield 22, 3) := by decide +kernel
theorem dX1_otherPerson_47 : decode cX1_otherPerson 47 = .ok (.iload_n 3, 1) := by decide +kernel
theorem dX1_otherPerson_48 : decode cX1_otherPerson 48 = .ok (.iaload, 1) := by decide +kernel
theorem dX1_otherPerson_49 : decode cX1_otherPerson 49 = .ok (.iload_n 2, 1) := by decide +kernel
theorem dX1_otherPerson_50 : decode cX1_otherPerson 50 = .ok (.if_icmp .ne 10, 3) := by decide +kernel
theorem dX1_otherPerson_53 : decode cX1_otherPerson 53 = .ok (.aload_n 0, 1) := by decide +kernel
theorem dX1_otherPerson_54 : decode cX1_otherPerson 54 = .ok (.getfield 18, 3) := by decide +kernel
theorem dX1_otherPerson_57 : decode cX1_otherPerson 57 = .ok (.iload_n 3, 1) := by decide +kernel
theorem dX1_otherPerson_58 : decode cX1_otherPerson 58 = .ok (.iaload, 1) := by decide +kernel
theorem dX1_otherPerson_59 : decode cX1_otherPerson 59 = .ok (.ireturn, 1) := by decide +kernel
theorem dX1_otherPerson_60 : decode cX1_otherPerson 60 = .ok (.iinc 3 1, 3) := by decide +kernel
theorem dX1_otherPerson_63 : decode cX1_otherPerson 63 = .ok (.goto (-61), 3) := by decide +kernel
theorem dX1_otherPerson_66 : decode cX1_otherPerson 66 = .ok (.iconst (-1), 1) := by decide +kernel
theorem dX1_otherPerson_67 : decode cX1_otherPerson 67 = .ok (.ireturn, 1) := by decide +kernel
theorem dX1_gainOfLine_0 : decode cX1_gainOfLine 0 = .ok (.aload_n 2, 1) := by decide +kernel
theorem dX1_gainOfLine_1 : decode cX1_gainOfLine 1 = .ok (.getfield 61, 3) := by decide +kernel
theorem dX1_gainOfLine_4 : decode cX1_gainOfLine 4 = .ok (.aload_n 0, 1) := by decide +kernel
theorem dX1_gainOfLine_5 : decode cX1_gainOfLine 5 = .ok (.getfield 18, 3) := by decide +kernel
theorem dX1_gainOfLine_8 : decode cX1_gainOfLine 8 = .ok (.iload_n 1, 1) := by decide +kernel
theorem dX1_gainOfLine_9 : decode cX1_gainOfLine 9 = .ok (.iaload, 1) := by decide +kernel
theorem dX1_gainOfLine_10 : decode cX1_gainOfLine 10 = .ok (.iaload, 1) := by decide +kernel
theorem dX1_gainOfLine_11 : decode cX1_gainOfLine 11 = .ok (.istore_n 3, 1) := by decide +kernel
theorem dX1_gainOfLine_12 : decode cX1_gainOfLine 12 = .ok (.aload_n 2, 1) := by decide +kernel
theorem dX1_gainOfLine_13 : decode cX1_gainOfLine 13 = .ok (.getfield 61, 3) := by decide +kernel
theorem dX1_gainOfLine_16 : decode cX1_gainOfLine 16 = .ok (.aload_n 0, 1) := by decide +kernel
theorem dX1_gainOfLine_17 : decode cX1_gainOfLine 17 = .ok (.getfield 22, 3) := by decide +kernel
theorem dX1_gainOfLine_20 : decode cX1_gainOfLine 20 = .ok (.iload_n 1, 1) := by decide +kernel
theorem dX1_gainOfLine_21 : decode cX1_gainOfLine 21 = .ok (.iaload, 1) := by decide +kernel
theorem dX1_gainOfLine_22 : decode cX1_gainOfLine 22 = .ok (.iaload, 1) := by decide +kernel
theorem dX1_gainOfLine_23 : decode cX1_gainOfLine 23 = .ok (.istore 4, 2) := by decide +kernel
theorem dX1_gainOfLine_25 : decode cX1_gainOfLine 25 = .ok (.iload_n 3, 1) := by decide +kernel
theorem dX1_gainOfLine_26 : decode cX1_gainOfLine 26 = .ok (.iload 4, 2) := by decide +kernel
theorem dX1_gainOfLine_28 : decode cX1_gainOfLine 28 = .ok (.iconst (-1), 1) := by decide +kernel
theorem dX1_gainOfLine_29 : decode cX1_gainOfLine 29 = .ok (.ixor, 1) := by decide +kernel
theorem dX1_gainOfLine_30 : decode cX1_gainOfLine 30 = .ok (.iand, 1) := by decide +kernel
theorem dX1_gainOfLine_31 : decode cX1_gainOfLine 31 = .ok (.invokestatic 66, 3) := by decide +kernel
theorem dX1_gainOfLine_34 : decode cX1_gainOfLine 34 = .ok (.istore 5, 2) := by decide +kernel
theorem dX1_gainOfLine_36 : decode cX1_gainOfLine 36 = .ok (.aload_n 0, 1) := by decide +kernel
theorem dX1_gainOfLine_37 : decode cX1_gainOfLine 37 = .ok (.getfield 28, 3) := by decide +kernel
theorem dX1_gainOfLine_40 : decode cX1_gainOfLine 40 = .ok (.iload_n 1, 1) := by decide +kernel
theorem dX1_gainOfLine_41 : decode cX1_gainOfLine 41 = .ok (.baload, 1) := by decide +kernel
theorem dX1_gainOfLine_42 : decode cX1_gainOfLine 42 = .ok (.ifCond .eq 8, 3) := by decide +kernel
theorem dX1_gainOfLine_45 : decode cX1_gainOfLine 45 = .ok (.iload 5, 2) := by decide +kernel
theorem dX1_gainOfLine_47 : decode cX1_gainOfLine 47 = .ok (.goto 15, 3) := by decide +kernel
theorem dX1_gainOfLine_50 : decode cX1_gainOfLine 50 = .ok (.iload 5, 2) := by decide +kernel
theorem dX1_gainOfLine_52 : decode cX1_gainOfLine 52 = .ok (.iload 4, 2) := by decide +kernel
theorem dX1_gainOfLine_54 : decode cX1_gainOfLine 54 = .ok (.iload_n 3, 1) := by decide +kernel
theorem dX1_gainOfLine_55 : decode cX1_gainOfLine 55 = .ok (.iconst (-1), 1) := by decide +kernel
theorem dX1_gainOfLine_56 : decode cX1_gainOfLine 56 = .ok (.ixor, 1) := by decide +kernel
theorem dX1_gainOfLine_57 : decode cX1_gainOfLine 57 = .ok (.iand, 1) := by decide +kernel
theorem dX1_gainOfLine_58 : decode cX1_gainOfLine 58 = .ok (.invokestatic 66, 3) := by decide +kernel
theorem dX1_gainOfLine_61 : decode cX1_gainOfLine 61 = .ok (.iadd, 1) := by decide +kernel
theorem dX1_gainOfLine_62 : decode cX1_gainOfLine 62 = .ok (.ireturn, 1) := by decide +kernel
theorem dX1_gainOf_0 : decode cX1_gainOf 0 = .ok (.iconst 0, 1) := by decide +kernel
theorem dX1_gainOf_1 : decode cX1_gainOf 1 = .ok (.istore_n 3, 1) := by decide +kernel
theorem dX1_gainOf_2 : decode cX1_gainOf 2 = .ok (.iconst 0, 1) := by decide +kernel
theorem dX1_gainOf_3 : decode cX1_gainOf 3 = .ok (.istore 4, 2) := by decide +kernel
theorem dX1_gainOf_5 : decode cX1_gainOf 5 = .ok (.iload 4, 2) := by decide +kernel
theorem dX1_gainOf_7 : decode cX1_gainOf 7 = .ok (.aload_n 0, 1) := by decide +kernel
theorem dX1_gainOf_8 : decode cX1_gainOf 8 = .ok (.getfield 15, 3) := by decide +kernel
theorem dX1_gainOf_11 : decode cX1_gainOf 11 = .ok (.if_icmp .ge 28, 3) := by decide +kernel
theorem dX1_gainOf_14 : decode cX1_gainOf 14 = .ok (.iload_n 1, 1) := by decide +kernel
theorem dX1_gainOf_15 : decode cX1_gainOf 15 = .ok (.iload 4, 2) := by decide +kernel
theorem dX1_gainOf_17 : decode cX1_gainOf 17 = .ok (.invokestatic 57, 3) := by decide +kernel
theorem dX1_gainOf_20 : decode cX1_gainOf 20 = .ok (.ifCond .eq 13, 3) := by decide +kernel
theorem dX1_gainOf_23 : decode cX1_gainOf 23 = .ok (.iload_n 3, 1) := by decide +kernel
theorem dX1_gainOf_24 : decode cX1_gainOf 24 = .ok (.aload_n 0, 1) := by decide +kernel
theorem dX1_gainOf_25 : decode cX1_gainOf 25 = .ok (.iload 4, 2) := by decide +kernel
theorem dX1_gainOf_27 : decode cX1_gainOf 27 = .ok (.aload_n 2, 1) := by decide +kernel
theorem dX1_gainOf_28 : decode cX1_gainOf 28 = .ok (.invokevirtual 71, 3) := by decide +kernel
theorem dX1_gainOf_31 : decode cX1_gainOf 31 = .ok (.iadd, 1) := by decide +kernel
theorem dX1_gainOf_32 : decode cX1_gainOf 32 = .ok (.istore_n 3, 1) := by decide +kernel
theorem dX1_gainOf_33 : decode cX1_gainOf 33 = .ok (.iinc 4 1, 3) := by decide +kernel
theorem dX1_gainOf_36 : decode cX1_gainOf 36 = .ok (.goto (-31), 3) := by decide +kernel
theorem dX1_gainOf_39 : decode cX1_gainOf 39 = .ok (.iload_n 3, 1) := by decide +kernel
theorem dX1_gainOf_40 : decode cX1_gainOf 40 = .ok (.ireturn, 1) := by decide +kernel
theorem dX1_makeCalls_0 : decode cX1_makeCalls 0 = .ok (.iconst 0, 1) := by decide +kernel
theorem dX1_makeCalls_1 : decode cX1_makeCalls 1 = .ok (.istore_n 3, 1) := by decide +kernel
theorem dX1_makeCalls_2 : decode cX1_makeCalls 2 = .ok (.iload_n 3, 1) := by decide +kernel
theorem dX1_makeCalls_3 : decode cX1_makeCalls 3 = .ok (.aload_n 0, 1) := by decide +kernel
theorem dX1_makeCalls_4 : decode cX1_makeCalls 4 = .ok (.getfield 15, 3) := by decide +kernel
theorem dX1_makeCalls_7 : decode cX1_makeCalls 7 = .ok (.if_icmp .ge 77, 3) := by decide +kernel
theorem dX1_makeCalls_10 : decode cX1_makeCalls 10 = .ok (.iload_n 1, 1) := by decide +kernel
theorem dX1_makeCalls_11 : decode cX1_makeCalls 11 = .ok (.iload_n 3, 1) := by decide +kernel
theorem dX1_makeCalls_12 : decode cX1_makeCalls 12 = .ok (.invokestatic 57, 3) := by decide +kernel
theorem dX1_makeCalls_15 : decode cX1_makeCalls 15 = .ok (.ifCond .eq 63, 3) := by decide +kernel
theorem dX1_makeCalls_18 : decode cX1_makeCalls 18 = .ok (.aload_n 2, 1) := by decide +kernel
theorem dX1_makeCalls_19 : decode cX1_makeCalls 19 = .ok (.getfield 61, 3) := by decide +kernel
theorem dX1_makeCalls_22 : decode cX1_makeCalls 22 = .ok (.aload_n 0, 1) := by decide +kernel
theorem dX1_makeCalls_23 : decode cX1_makeCalls 23 = .ok (.getfield 18, 3) := by decide +kernel
theorem dX1_makeCalls_26 : decode cX1_makeCalls 26 = .ok (.iload_n 3, 1) := by decide +kernel
theorem dX1_makeCalls_27 : decode cX1_makeCalls 27 = .ok (.iaload, 1) := by decide +kernel
theorem dX1_makeCalls_28 : decode cX1_makeCalls 28 = .ok (.iaload, 1) := by decide +kernel
theorem dX1_makeCalls_29 : decode cX1_makeCalls 29 = .ok (.aload_n 2, 1) := by decide +kernel
theorem dX1_makeCalls_30 : decode cX1_makeCalls 30 = .ok (.getfield 61, 3) := by decide +kernel
theorem dX1_makeCalls_33 : decode cX1_makeCalls 33 = .ok (.aload_n 0, 1) := by decide +kernel
theorem dX1_makeCalls_34 : decode cX1_makeCalls 34 = .ok (.getfield 22, 3) := by decide +kernel
theorem dX1_makeCalls_37 : decode cX1_makeCalls 37 = .ok (.iload_n 3, 1) := by decide +kernel
theorem dX1_makeCalls_38 : decode cX1_makeCalls 38 = .ok (.iaload, 1) := by decide +kernel
theorem dX1_makeCalls_39 : decode cX1_makeCalls 39 = .ok (.iaload, 1) := by decide +kernel
theorem dX1_makeCalls_40 : decode cX1_makeCalls 40 = .ok (.ior, 1) := by decide +kernel
theorem dX1_makeCalls_41 : decode cX1_makeCalls 41 = .ok (.istore 4, 2) := by decide +kernel
theorem dX1_makeCalls_43 : decode cX1_makeCalls 43 = .ok (.aload_n 2, 1) := by decide +kernel
theorem dX1_makeCalls_44 : decode cX1_makeCalls 44 = .ok (.getfield 61, 3) := by decide +kernel
theorem dX1_makeCalls_47 : decode cX1_makeCalls 47 = .ok (.aload_n 0, 1) := by decide +kernel
theorem dX1_makeCalls_48 : decode cX1_makeCalls 48 = .ok (.getfield 22, 3) := by decide +kernel
theorem dX1_makeCalls_51 : decode cX1_makeCalls 51 = .ok (.iload_n 3, 1) := by decide +kernel
theorem dX1_makeCalls_52 : decode cX1_makeCalls 52 = .ok (.iaload, 1) := by decide +kernel
theorem dX1_makeCalls_53 : decode cX1_makeCalls 53 = .ok (.iload 4, 2) := by decide +kernel
theorem dX1_makeCalls_55 : decode cX1_makeCalls 55 = .ok (.iastore, 1) := by decide +kernel
theorem dX1_makeCalls_56 : decode cX1_makeCalls 56 = .ok (.aload_n 0, 1) := by decide +kernel
theorem dX1_makeCalls_57 : decode cX1_makeCalls 57 = .ok (.getfield 28, 3) := by decide +kernel
theorem dX1_makeCalls_60 : decode cX1_makeCalls 60 = .ok (.iload_n 3, 1) := by decide +kernel
theorem dX1_makeCalls_61 : decode cX1_makeCalls 61 = .ok (.baload, 1) := by decide +kernel
theorem dX1_makeCalls_62 : decode cX1_makeCalls 62 = .ok (.ifCond .ne 16, 3) := by decide +kernel
theorem dX1_makeCalls_65 : decode cX1_makeCalls 65 = .ok (.aload_n 2, 1) := by decide +kernel
theorem dX1_makeCalls_66 : decode cX1_makeCalls 66 = .ok (.getfield 61, 3) := by decide +kernel
theorem dX1_makeCalls_69 : decode cX1_makeCalls 69 = .ok (.aload_n 0, 1) := by decide +kernel
theorem dX1_makeCalls_70 : decode cX1_makeCalls 70 = .ok (.getfield 18, 3) := by decide +kernel
theorem dX1_makeCalls_73 : decode cX1_makeCalls 73 = .ok (.iload_n 3, 1) := by decide +kernel
theorem dX1_makeCalls_74 : decode cX1_makeCalls 74 = .ok (.iaload, 1) := by decide +kernel
theorem dX1_makeCalls_75 : decode cX1_makeCalls 75 = .ok (.iload 4, 2) := by decide +kernel
theorem dX1_makeCalls_77 : decode cX1_makeCalls 77 = .ok (.iastore, 1) := by decide +kernel
theorem dX1_makeCalls_78 : decode cX1_makeCalls 78 = .ok (.iinc 3 1, 3) := by decide +kernel
theorem dX1_makeCalls_81 : decode cX1_makeCalls 81 = .ok (.goto (-79), 3) := by decide +kernel
theorem dX1_makeCalls_84 : decode cX1_makeCalls 84 = .ok (.return_, 1) := by decide +kernel
theorem dX1_spread_0 : decode cX1_spread 0 = .ok (.iload_n 1, 1) := by decide +kernel
theorem dX1_spread_1 : decode cX1_spread 1 = .ok (.istore_n 3, 1) := by decide +kernel
theorem dX1_spread_2 : decode cX1_spread 2 = .ok (.iconst 0, 1) := by decide +kernel
theorem dX1_spread_3 : decode cX1_spread 3 = .ok (.istore 4, 2) := by decide +kernel
theorem dX1_spread_5 : decode cX1_spread 5 = .ok (.iload 4, 2) := by decide +kernel
theorem dX1_spread_7 : decode cX1_spread 7 = .ok (.aload_n 0, 1) := by decide +kernel
theorem dX1_spread_8 : decode cX1_spread 8 = .ok (.getfield 15, 3) := by decide +kernel
theorem dX1_spread_11 : decode cX1_spread 11 = .ok (.if_icmp .ge 89, 3) := by decide +kernel
theorem dX1_spread_14 : decode cX1_spread 14 = .ok (.iload_n 2, 1) := by decide +kernel
theorem dX1_spread_15 : decode cX1_spread 15 = .ok (.iload 4, 2) := by decide +kernel
theorem dX1_spread_17 : decode cX1_spread 17 = .ok (.invokestatic 57, 3) := by decide +kernel
theorem dX1_spread_20 : decode cX1_spread 20 = .ok (.ifCond .eq 29, 3) := by decide +kernel
theorem dX1_spread_23 : decode cX1_spread 23 = .ok (.iload_n 1, 1) := by decide +kernel
theorem dX1_spread_24 : decode cX1_spread 24 = .ok (.aload_n 0, 1) := by decide +kernel
theorem dX1_spread_25 : decode cX1_spread 25 = .ok (.getfield 18, 3) := by decide +kernel
theorem dX1_spread_28 : decode cX1_spread 28 = .ok (.iload 4, 2) := by decide +kernel
theorem dX1_spread_30 : decode cX1_spread 30 = .ok (.iaload, 1) := by decide +kernel
theorem dX1_spread_31 : decode cX1_spread 31 = .ok (.invokestatic 57, 3) := by decide +kernel
theorem dX1_spread_34 : decode cX1_spread 34 = .ok (.ifCond .eq 15, 3) := by decide +kernel
theorem dX1_spread_37 : decode cX1_spread 37 = .ok (.iload_n 3, 1) := by decide +kernel
theorem dX1_spread_38 : decode cX1_spread 38 = .ok (.iconst 1, 1) := by decide +kernel
theorem dX1_spread_39 : decode cX1_spread 39 = .ok (.aload_n 0, 1) := by decide +kernel
theorem dX1_spread_40 : decode cX1_spread 40 = .ok (.getfield 22, 3) := by decide +kernel
theorem dX1_spread_43 : decode cX1_spread 43 = .ok (.iload 4, 2) := by decide +kernel
theorem dX1_spread_45 : decode cX1_spread 45 = .ok (.iaload, 1) := by decide +kernel
theorem dX1_spread_46 : decode cX1_spread 46 = .ok (.ishl, 1) := by decide +kernel
theorem dX1_spread_47 : decode cX1_spread 47 = .ok (.ior, 1) := by decide +kernel
theorem dX1_spread_48 : decode cX1_spread 48 = .ok (.istore_n 3, 1) := by decide +kernel
theorem dX1_spread_49 : decode cX1_spread 49 = .ok (.iload_n 2, 1) := by decide +kernel
theorem dX1_spread_50 : decode cX1_spread 50 = .ok (.iload 4, 2) := by decide +kernel
theorem dX1_spread_52 : decode cX1_spread 52 = .ok (.invokestatic 57, 3) := by decide +kernel
theorem dX1_spread_55 : decode cX1_spread 55 = .ok (.ifCond .eq 39, 3) := by decide +kernel
theorem dX1_spread_58 : decode cX1_spread 58 = .ok (.iload_n 1, 1) := by decide +kernel
theorem dX1_spread_59 : decode cX1_spread 59 = .ok (.aload_n 0, 1) := by decide +kernel
theorem dX1_spread_60 : decode cX1_spread 60 = .ok (.getfield 22, 3) := by decide +kernel
theorem dX1_spread_63 : decode cX1_spread 63 = .ok (.iload 4, 2) := by decide +kernel
theorem dX1_spread_65 : decode cX1_spread 65 = .ok (.iaload, 1) := by decide +kernel
theorem dX1_spread_66 : decode cX1_spread 66 = .ok (.invokestatic 57, 3) := by decide +kernel
theorem dX1_spread_69 : decode cX1_spread 69 = .ok (.ifCond .eq 25, 3) := by decide +kernel
theorem dX1_spread_72 : decode cX1_spread 72 = .ok (.aload_n 0, 1) := by decide +kernel
theorem dX1_spread_73 : decode cX1_spread 73 = .ok (.getfield 28, 3) := by decide +kernel
theorem dX1_spread_76 : decode cX1_spread 76 = .ok (.iload 4, 2) := by decide +kernel
theorem dX1_spread_78 : decode cX1_spread 78 = .ok (.baload, 1) := by decide +kernel
theorem dX1_spread_79 : decode cX1_spread 79 = .ok (.ifCond .ne 15, 3) := by decide +kernel
theorem dX1_spread_82 : decode cX1_spread 82 = .ok (.iload_n 3, 1) := by decide +kernel
theorem dX1_spread_83 : decode cX1_spread 83 = .ok (.iconst 1, 1) := by decide +kernel
theorem dX1_spread_84 : decode cX1_spread 84 = .ok (.aload_n 0, 1) := by decide +kernel
theorem dX1_spread_85 : decode cX1_spread 85 = .ok (.getfield 18, 3) := by decide +kernel
theorem dX1_spread_88 : decode cX1_spread 88 = .ok (.iload 4, 2) := by decide +kernel
theorem dX1_spread_90 : decode cX1_spread 90 = .ok (.iaload, 1) := by decide +kernel
theorem dX1_spread_91 : decode cX1_spread 91 = .ok (.ishl, 1) := by decide +kernel
theorem dX1_spread_92 : decode cX1_spread 92 = .ok (.ior, 1) := by decide +kernel
theorem dX1_spread_93 : decode cX1_spread 93 = .ok (.istore_n 3, 1) := by decide +kernel
theorem dX1_spread_94 : decode cX1_spread 94 = .ok (.iinc 4 1, 3) := by decide +kernel
theorem dX1_spread_97 : decode cX1_spread 97 = .ok (.goto (-92), 3) := by decide +kernel
theorem dX1_spread_100 : decode cX1_spread 100 = .ok (.iload_n 3, 1) := by decide +kernel
theorem dX1_spread_101 : decode cX1_spread 101 = .ok (.ireturn, 1) := by decide +kernel
theorem dX1_reached_0 : decode cX1_reached 0 = .ok (.iload_n 1, 1) := by decide +kernel
theorem dX1_reached_1 : decode cX1_reached 1 = .ok (.istore_n 3, 1) := by decide +kernel
theorem dX1_reached_2 : decode cX1_reached 2 = .ok (.iconst 1, 1) := by decide +kernel
theorem dX1_reached_3 : decode cX1_reached 3 = .ok (.istore 4, 2) := by decide +kernel
theorem dX1_reached_5 : decode cX1_reached 5 = .ok (.iload 4, 2) := by decide +kernel
theorem dX1_reached_7 : decode cX1_reached 7 = .ok (.aload_n 0, 1) := by decide +kernel
theorem dX1_reached_8 : decode cX1_reached 8 = .ok (.getfield 9, 3) := by decide +kernel
theorem dX1_reached_11 : decode cX1_reached 11 = .ok (.if_icmp .ge 28, 3) := by decide +kernel
theorem dX1_reached_14 : decode cX1_reached 14 = .ok (.aload_n 0, 1) := by decide +kernel
theorem dX1_reached_15 : decode cX1_reached 15 = .ok (.iload_n 3, 1) := by decide +kernel
theorem dX1_reached_16 : decode cX1_reached 16 = .ok (.iload_n 2, 1) := by decide +kernel
theorem dX1_reached_17 : decode cX1_reached 17 = .ok (.invokevirtual 75, 3) := by decide +kernel
theorem dX1_reached_20 : decode cX1_reached 20 = .ok (.istore 5, 2) := by decide +kernel
theorem dX1_reached_22 : decode cX1_reached 22 = .ok (.iload 5, 2) := by decide +kernel
theorem dX1_reached_24 : decode cX1_reached 24 = .ok (.iload_n 3, 1) := by decide +kernel
theorem dX1_reached_25 : decode cX1_reached 25 = .ok (.if_icmp .ne 5, 3) := by decide +kernel
theorem dX1_reached_28 : decode cX1_reached 28 = .ok (.iload_n 3, 1) := by decide +kernel
theorem dX1_reached_29 : decode cX1_reached 29 = .ok (.ireturn, 1) := by decide +kernel
theorem dX1_reached_30 : decode cX1_reached 30 = .ok (.iload 5, 2) := by decide +kernel
theorem dX1_reached_32 : decode cX1_reached 32 = .ok (.istore_n 3, 1) := by decide +kernel
theorem dX1_reached_33 : decode cX1_reached 33 = .ok (.iinc 4 1, 3) := by decide +kernel
theorem dX1_reached_36 : decode cX1_reached 36 = .ok (.goto (-31), 3) := by decide +kernel
theorem dX1_reached_39 : decode cX1_reached 39 = .ok (.iload_n 3, 1) := by decide +kernel
theorem dX1_reached_40 : decode cX1_reached 40 = .ok (.ireturn, 1) := by decide +kernel
theorem dX1_neededLines_0 : decode cX1_neededLines 0 = .ok (.aload_n 0, 1) := by decide +kernel
theorem dX1_neededLines_1 : decode cX1_neededLines 1 = .ok (.iload_n 1, 1) := by decide +kernel
theorem dX1_neededLines_2 : decode cX1_neededLines 2 = .ok (.iload_n 2, 1) := by decide +kernel
theorem dX1_neededLines_3 : decode cX1_neededLines 3 = .ok (.invokevirtual 79, 3) := by decide +kernel
theorem dX1_neededLines_6 : decode cX1_neededLines 6 = .ok (.istore_n 3, 1) := by decide +kernel
theorem dX1_neededLines_7 : decode cX1_neededLines 7 = .ok (.iconst 0, 1) := by decide +kernel
theorem dX1_neededLines_8 : decode cX1_neededLines 8 = .ok (.istore 4, 2) := by decide +kernel
theorem dX1_neededLines_10 : decode cX1_neededLines 10 = .ok (.iconst 0, 1) := by decide +kernel
theorem dX1_neededLines_11 : decode cX1_neededLines 11 = .ok (.istore 5, 2) := by decide +kernel
theorem dX1_neededLines_13 : decode cX1_neededLines 13 = .ok (.iload 5, 2) := by decide +kernel
theorem dX1_neededLines_15 : decode cX1_neededLines 15 = .ok (.aload_n 0, 1) := by decide +kernel
theorem dX1_neededLines_16 : decode cX1_neededLines 16 = .ok (.getfield 15, 3) := by decide +kernel
theorem dX1_neededLines_19 : decode cX1_neededLines 19 = .ok (.if_icmp .ge 44, 3) := by decide +kernel
theorem dX1_neededLines_22 : decode cX1_neededLines 22 = .ok (.iload_n 2, 1) := by decide +kernel
theorem dX1_neededLines_23 : decode cX1_neededLines 23 = .ok (.iload 5, 2) := by decide +kernel
theorem dX1_neededLines_25 : decode cX1_neededLines 25 = .ok (.invokestatic 57, 3) := by decide +kernel
theorem dX1_neededLines_28 : decode cX1_neededLines 28 = .ok (.ifCond .eq 29, 3) := by decide +kernel
theorem dX1_neededLines_31 : decode cX1_neededLines 31 = .ok (.aload_n 0, 1) := by decide +kernel
theorem dX1_neededLines_32 : decode cX1_neededLines 32 = .ok (.iload_n 1, 1) := by decide +kernel
theorem dX1_neededLines_33 : decode cX1_neededLines 33 = .ok (.iload_n 2, 1) := by decide +kernel
theorem dX1_neededLines_34 : decode cX1_neededLines 34 = .ok (.iconst 1, 1) := by decide +kernel
theorem dX1_neededLines_35 : decode cX1_neededLines 35 = .ok (.iload 5, 2) := by decide +kernel
theorem dX1_neededLines_37 : decode cX1_neededLines 37 = .ok (.ishl, 1) := by decide +kernel
theorem dX1_neededLines_38 : decode cX1_neededLines 38 = .ok (.iconst (-1), 1) := by decide +kernel
theorem dX1_neededLines_39 : decode cX1_neededLines 39 = .ok (.ixor, 1) := by decide +kernel
theorem dX1_neededLines_40 : decode cX1_neededLines 40 = .ok (.iand, 1) := by decide +kernel
theorem dX1_neededLines_41 : decode cX1_neededLines 41 = .ok (.invokevirtual 79, 3) := by decide +kernel
theorem dX1_neededLines_44 : decode cX1_neededLines 44 = .ok (.iload_n 3, 1) := by decide +kernel
theorem dX1_neededLines_45 : decode cX1_neededLines 45 = .ok (.if_icmp .eq 12, 3) := by decide +kernel
theorem dX1_neededLines_48 : decode cX1_neededLines 48 = .ok (.iload 4, 2) := by decide +kernel
theorem dX1_neededLines_50 : decode cX1_neededLines 50 = .ok (.iconst 1, 1) := by decide +kernel
theorem dX1_neededLines_51 : decode cX1_neededLines 51 = .ok (.iload 5, 2) := by decide +kernel
theorem dX1_neededLines_53 : decode cX1_neededLines 53 = .ok (.ishl, 1) := by decide +kernel
theorem dX1_neededLines_54 : decode cX1_neededLines 54 = .ok (.ior, 1) := by decide +kernel
theorem dX1_neededLines_55 : decode cX1_neededLines 55 = .ok (.istore 4, 2) := by decide +kernel
theorem dX1_neededLines_57 : decode cX1_neededLines 57 = .ok (.iinc 5 1, 3) := by decide +kernel
theorem dX1_neededLines_60 : decode cX1_neededLines 60 = .ok (.goto (-47), 3) := by decide +kernel
theorem dX1_neededLines_63 : decode cX1_neededLines 63 = .ok (.iload 4, 2) := by decide +kernel
theorem dX1_neededLines_65 : decode cX1_neededLines 65 = .ok (.ireturn, 1) := by decide +kernel
theorem dX1_fillLeastCosts_0 : decode cX1_fillLeastCosts 0 = .ok (.iconst 0, 1) := by decide +kernel
theorem dX1_fillLeastCosts_1 : decode cX1_fillLeastCosts 1 = .ok (.istore 4, 2) := by decide +kernel
theorem dX1_fillLeastCosts_3 : decode cX1_fillLeastCosts 3 = .ok (.iload 4, 2) := by decide +kernel
theorem dX1_fillLeastCosts_5 : decode cX1_fillLeastCosts 5 = .ok (.bipush 10, 2) := by decide +kernel
theorem dX1_fillLeastCosts_7 : decode cX1_fillLeastCosts 7 = .ok (.if_icmp .ge 28, 3) := by decide +kernel
theorem dX1_fillLeastCosts_10 : decode cX1_fillLeastCosts 10 = .ok (.aload_n 3, 1) := by decide +kernel
theorem dX1_fillLeastCosts_11 : decode cX1_fillLeastCosts 11 = .ok (.iload 4, 2) := by decide +kernel
theorem dX1_fillLeastCosts_13 : decode cX1_fillLeastCosts 13 = .ok (.iload_n 1, 1) := by decide +kernel
theorem dX1_fillLeastCosts_14 : decode cX1_fillLeastCosts 14 = .ok (.iload 4, 2) := by decide +kernel
theorem dX1_fillLeastCosts_16 : decode cX1_fillLeastCosts 16 = .ok (.invokestatic 57, 3) := by decide +kernel
theorem dX1_fillLeastCosts_19 : decode cX1_fillLeastCosts 19 = .ok (.ifCond .eq 7, 3) := by decide +kernel
theorem dX1_fillLeastCosts_22 : decode cX1_fillLeastCosts 22 = .ok (.iconst 0, 1) := by decide +kernel
theorem dX1_fillLeastCosts_23 : decode cX1_fillLeastCosts 23 = .ok (.goto 5, 3) := by decide +kernel
theorem dX1_fillLeastCosts_26 : decode cX1_fillLeastCosts 26 = .ok (.ldc 82, 2) := by decide +kernel
theorem dX1_fillLeastCosts_28 : decode cX1_fillLeastCosts 28 = .ok (.iastore, 1) := by decide +kernel
theorem dX1_fillLeastCosts_29 : decode cX1_fillLeastCosts 29 = .ok (.iinc 4 1, 3) := by decide +kernel
theorem dX1_fillLeastCosts_32 : decode cX1_fillLeastCosts 32 = .ok (.goto (-29), 3) := by decide +kernel
theorem dX1_fillLeastCosts_35 : decode cX1_fillLeastCosts 35 = .ok (.iconst 1, 1) := by decide +kernel
theorem dX1_fillLeastCosts_36 : decode cX1_fillLeastCosts 36 = .ok (.istore 4, 2) := by decide +kernel
theorem dX1_fillLeastCosts_38 : decode cX1_fillLeastCosts 38 = .ok (.iload 4, 2) := by decide +kernel
theorem dX1_fillLeastCosts_40 : decode cX1_fillLeastCosts 40 = .ok (.aload_n 0, 1) := by decide +kernel
theorem dX1_fillLeastCosts_41 : decode cX1_fillLeastCosts 41 = .ok (.getfield 9, 3) := by decide +kernel
theorem dX1_fillLeastCosts_44 : decode cX1_fillLeastCosts 44 = .ok (.if_icmp .ge 15, 3) := by decide +kernel
theorem dX1_fillLeastCosts_47 : decode cX1_fillLeastCosts 47 = .ok (.aload_n 0, 1) := by decide +kernel
theorem dX1_fillLeastCosts_48 : decode cX1_fillLeastCosts 48 = .ok (.iload_n 2, 1) := by decide +kernel
theorem dX1_fillLeastCosts_49 : decode cX1_fillLeastCosts 49 = .ok (.aload_n 3, 1) := by decide +kernel
theorem dX1_fillLeastCosts_50 : decode cX1_fillLeastCosts 50 = .ok (.invokevirtual 83, 3) := by decide +kernel
theorem dX1_fillLeastCosts_53 : decode cX1_fillLeastCosts 53 = .ok (.iinc 4 1, 3) := by decide +kernel
theorem dX1_fillLeastCosts_56 : decode cX1_fillLeastCosts 56 = .ok (.goto (-18), 3) := by decide +kernel
theorem dX1_fillLeastCosts_59 : decode cX1_fillLeastCosts 59 = .ok (.iconst 0, 1) := by decide +kernel
theorem dX1_fillLeastCosts_60 : decode cX1_fillLeastCosts 60 = .ok (.istore 4, 2) := by decide +kernel
theorem dX1_fillLeastCosts_62 : decode cX1_fillLeastCosts 62 = .ok (.iload 4, 2) := by decide +kernel
theorem dX1_fillLeastCosts_64 : decode cX1_fillLeastCosts 64 = .ok (.bipush 10, 2) := by decide +kernel
theorem dX1_fillLeastCosts_66 : decode cX1_fillLeastCosts 66 = .ok (.if_icmp .ge 23, 3) := by decide +kernel
theorem dX1_fillLeastCosts_69 : decode cX1_fillLeastCosts 69 = .ok (.aload_n 3, 1) := by decide +kernel
theorem dX1_fillLeastCosts_70 : decode cX1_fillLeastCosts 70 = .ok (.iload 4, 2) := by decide +kernel
theorem dX1_fillLeastCosts_72 : decode cX1_fillLeastCosts 72 = .ok (.iaload, 1) := by decide +kernel
theorem dX1_fillLeastCosts_73 : decode cX1_fillLeastCosts 73 = .ok (.ldc 82, 2) := by decide +kernel
theorem dX1_fillLeastCosts_75 : decode cX1_fillLeastCosts 75 = .ok (.if_icmp .ne 8, 3) := by decide +kernel
theorem dX1_fillLeastCosts_78 : decode cX1_fillLeastCosts 78 = .ok (.aload_n 3, 1) := by decide +kernel
theorem dX1_fillLeastCosts_79 : decode cX1_fillLeastCosts 79 = .ok (.iload 4, 2) := by decide +kernel
theorem dX1_fillLeastCosts_81 : decode cX1_fillLeastCosts 81 = .ok (.iconst (-1), 1) := by decide +kernel
theorem dX1_fillLeastCosts_82 : decode cX1_fillLeastCosts 82 = .ok (.iastore, 1) := by decide +kernel
theorem dX1_fillLeastCosts_83 : decode cX1_fillLeastCosts 83 = .ok (.iinc 4 1, 3) := by decide +kernel
theorem dX1_fillLeastCosts_86 : decode cX1_fillLeastCosts 86 = .ok (.goto (-24), 3) := by decide +kernel
theorem dX1_fillLeastCosts_89 : decode cX1_fillLeastCosts 89 = .ok (.return_, 1) := by decide +kernel
theorem dX1_lowerCosts_0 : decode cX1_lowerCosts 0 = .ok (.iconst 0, 1) := by decide +kernel
theorem dX1_lowerCosts_1 : decode cX1_lowerCosts 1 = .ok (.istore_n 3, 1) := by decide +kernel
theorem dX1_lowerCosts_2 : decode cX1_lowerCosts 2 = .ok (.iload_n 3, 1) := by decide +kernel
theorem dX1_lowerCosts_3 : decode cX1_lowerCosts 3 = .ok (.aload_n 0, 1) := by decide +kernel
theorem dX1_lowerCosts_4 : decode cX1_lowerCosts 4 = .ok (.getfield 15, 3) := by decide +kernel
theorem dX1_lowerCosts_7 : decode cX1_lowerCosts 7 = .ok (.if_icmp .ge 94, 3) := by decide +kernel
theorem dX1_lowerCosts_10 : decode cX1_lowerCosts 10 = .ok (.iload_n 1, 1) := by decide +kernel
theorem dX1_lowerCosts_11 : decode cX1_lowerCosts 11 = .ok (.iload_n 3, 1) := by decide +kernel
theorem dX1_lowerCosts_12 : decode cX1_lowerCosts 12 = .ok (.invokestatic 57, 3) := by decide +kernel
theorem dX1_lowerCosts_15 : decode cX1_lowerCosts 15 = .ok (.ifCond .eq 80, 3) := by decide +kernel
theorem dX1_lowerCosts_18 : decode cX1_lowerCosts 18 = .ok (.aload_n 2, 1) := by decide +kernel
theorem dX1_lowerCosts_19 : decode cX1_lowerCosts 19 = .ok (.aload_n 0, 1) := by decide +kernel
theorem dX1_lowerCosts_20 : decode cX1_lowerCosts 20 = .ok (.getfield 18, 3) := by decide +kernel
theorem dX1_lowerCosts_23 : decode cX1_lowerCosts 23 = .ok (.iload_n 3, 1) := by decide +kernel
theorem dX1_lowerCosts_24 : decode cX1_lowerCosts 24 = .ok (.iaload, 1) := by decide +kernel
theorem dX1_lowerCosts_25 : decode cX1_lowerCosts 25 = .ok (.iaload, 1) := by decide +kernel
theorem dX1_lowerCosts_26 : decode cX1_lowerCosts 26 = .ok (.istore 4, 2) := by decide +kernel
theorem dX1_lowerCosts_28 : decode cX1_lowerCosts 28 = .ok (.aload_n 2, 1) := by decide +kernel
theorem dX1_lowerCosts_29 : decode cX1_lowerCosts 29 = .ok (.aload_n 0, 1) := by decide +kernel
theorem dX1_lowerCosts_30 : decode cX1_lowerCosts 30 = .ok (.getfield 22, 3) := by decide +kernel
theorem dX1_lowerCosts_33 : decode cX1_lowerCosts 33 = .ok (.iload_n 3, 1) := by decide +kernel
theorem dX1_lowerCosts_34 : decode cX1_lowerCosts 34 = .ok (.iaload, 1) := by decide +kernel
theorem dX1_lowerCosts_35 : decode cX1_lowerCosts 35 = .ok (.iaload, 1) := by decide +kernel
theorem dX1_lowerCosts_36 : decode cX1_lowerCosts 36 = .ok (.istore 5, 2) := by decide +kernel
theorem dX1_lowerCosts_38 : decode cX1_lowerCosts 38 = .ok (.aload_n 2, 1) := by decide +kernel
theorem dX1_lowerCosts_39 : decode cX1_lowerCosts 39 = .ok (.aload_n 0, 1) := by decide +kernel
theorem dX1_lowerCosts_40 : decode cX1_lowerCosts 40 = .ok (.getfield 22, 3) := by decide +kernel
theorem dX1_lowerCosts_43 : decode cX1_lowerCosts 43 = .ok (.iload_n 3, 1) := by decide +kernel
theorem dX1_lowerCosts_44 : decode cX1_lowerCosts 44 = .ok (.iaload, 1) := by decide +kernel
theorem dX1_lowerCosts_45 : decode cX1_lowerCosts 45 = .ok (.iload 5, 2) := by decide +kernel
theorem dX1_lowerCosts_47 : decode cX1_lowerCosts 47 = .ok (.iload 4, 2) := by decide +kernel
theorem dX1_lowerCosts_49 : decode cX1_lowerCosts 49 = .ok (.aload_n 0, 1) := by decide +kernel
theorem dX1_lowerCosts_50 : decode cX1_lowerCosts 50 = .ok (.getfield 25, 3) := by decide +kernel
theorem dX1_lowerCosts_53 : decode cX1_lowerCosts 53 = .ok (.iload_n 3, 1) := by decide +kernel
theorem dX1_lowerCosts_54 : decode cX1_lowerCosts 54 = .ok (.iaload, 1) := by decide +kernel
theorem dX1_lowerCosts_55 : decode cX1_lowerCosts 55 = .ok (.invokestatic 87, 3) := by decide +kernel
theorem dX1_lowerCosts_58 : decode cX1_lowerCosts 58 = .ok (.invokestatic 90, 3) := by decide +kernel
theorem dX1_lowerCosts_61 : decode cX1_lowerCosts 61 = .ok (.iastore, 1) := by decide +kernel
theorem dX1_lowerCosts_62 : decode cX1_lowerCosts 62 = .ok (.aload_n 0, 1) := by decide +kernel
theorem dX1_lowerCosts_63 : decode cX1_lowerCosts 63 = .ok (.getfield 28, 3) := by decide +kernel
theorem dX1_lowerCosts_66 : decode cX1_lowerCosts 66 = .ok (.iload_n 3, 1) := by decide +kernel
theorem dX1_lowerCosts_67 : decode cX1_lowerCosts 67 = .ok (.baload, 1) := by decide +kernel
theorem dX1_lowerCosts_68 : decode cX1_lowerCosts 68 = .ok (.ifCond .ne 27, 3) := by decide +kernel
theorem dX1_lowerCosts_71 : decode cX1_lowerCosts 71 = .ok (.aload_n 2, 1) := by decide +kernel
theorem dX1_lowerCosts_72 : decode cX1_lowerCosts 72 = .ok (.aload_n 0, 1) := by decide +kernel
theorem dX1_lowerCosts_73 : decode cX1_lowerCosts 73 = .ok (.getfield 18, 3) := by decide +kernel
theorem dX1_lowerCosts_76 : decode cX1_lowerCosts 76 = .ok (.iload_n 3, 1) := by decide +kernel
theorem dX1_lowerCosts_77 : decode cX1_lowerCosts 77 = .ok (.iaload, 1) := by decide +kernel
theorem dX1_lowerCosts_78 : decode cX1_lowerCosts 78 = .ok (.iload 4, 2) := by decide +kernel
theorem dX1_lowerCosts_80 : decode cX1_lowerCosts 80 = .ok (.iload 5, 2) := by decide +kernel
theorem dX1_lowerCosts_82 : decode cX1_lowerCosts 82 = .ok (.aload_n 0, 1) := by decide +kernel
theorem dX1_lowerCosts_83 : decode cX1_lowerCosts 83 = .ok (.getfield 25, 3) := by decide +kernel
theorem dX1_lowerCosts_86 : decode cX1_lowerCosts 86 = .ok (.iload_n 3, 1) := by decide +kernel
theorem dX1_lowerCosts_87 : decode cX1_lowerCosts 87 = .ok (.iaload, 1) := by decide +kernel
theorem dX1_lowerCosts_88 : decode cX1_lowerCosts 88 = .ok (.invokestatic 87, 3) := by decide +kernel
theorem dX1_lowerCosts_91 : decode cX1_lowerCosts 91 = .ok (.invokestatic 90, 3) := by decide +kernel
theorem dX1_lowerCosts_94 : decode cX1_lowerCosts 94 = .ok (.iastore, 1) := by decide +kernel
theorem dX1_lowerCosts_95 : decode cX1_lowerCosts 95 = .ok (.iinc 3 1, 3) := by decide +kernel
theorem dX1_lowerCosts_98 : decode cX1_lowerCosts 98 = .ok (.goto (-96), 3) := by decide +kernel
theorem dX1_lowerCosts_101 : decode cX1_lowerCosts 101 = .ok (.return_, 1) := by decide +kernel
theorem dX1_added_0 : decode cX1_added 0 = .ok (.iload_n 0, 1) := by decide +kernel
theorem dX1_added_1 : decode cX1_added 1 = .ok (.ldc 82, 2) := by decide +kernel
theorem dX1_added_3 : decode cX1_added 3 = .ok (.if_icmp .ne 8, 3) := by decide +kernel
theorem dX1_added_6 : decode cX1_added 6 = .ok (.ldc 82, 2) := by decide +kernel
theorem dX1_added_8 : decode cX1_added 8 = .ok (.goto 6, 3) := by decide +kernel
theorem dX1_added_11 : decode cX1_added 11 = .ok (.iload_n 0, 1) := by decide +kernel
theorem dX1_added_12 : decode cX1_added 12 = .ok (.iload_n 1, 1) := by decide +kernel
theorem dX1_added_13 : decode cX1_added 13 = .ok (.iadd, 1) := by decide +kernel
theorem dX1_added_14 : decode cX1_added 14 = .ok (.ireturn, 1) := by decide +kernel
theorem dX2_init_0 : decode cX2_init 0 = .ok (.aload_n 0, 1) := by decide +kernel
theorem dX2_init_1 : decode cX2_init 1 = .ok (.invokespecial 3, 3) := by decide +kernel
theorem dX2_init_4 : decode cX2_init 4 = .ok (.aload_n 0, 1) := by decide +kernel
theorem dX2_init_5 : decode cX2_init 5 = .ok (.bipush 10, 2) := by decide +kernel
theorem dX2_init_7 : decode cX2_init 7 = .ok (.anewarray 9, 3) := by decide +kernel
theorem dX2_init_10 : decode cX2_init 10 = .ok (.putfield 11, 3) := by decide +kernel
theorem dX2_init_13 : decode cX2_init 13 = .ok (.aload_n 0, 1) := by decide +kernel
theorem dX2_init_14 : decode cX2_init 14 = .ok (.iconst 0, 1) := by decide +kernel
theorem dX2_init_15 : decode cX2_init 15 = .ok (.putfield 17, 3) := by decide +kernel
theorem dX2_init_18 : decode cX2_init 18 = .ok (.aload_n 0, 1) := by decide +kernel
theorem dX2_init_19 : decode cX2_init 19 = .ok (.iconst 0, 1) := by decide +kernel
theorem dX2_init_20 : decode cX2_init 20 = .ok (.putfield 21, 3) := by decide +kernel
theorem dX2_init_23 : decode cX2_init 23 = .ok (.iconst 0, 1) := by decide +kernel
theorem dX2_init_24 : decode cX2_init 24 = .ok (.istore_n 1, 1) := by decide +kernel
theorem dX2_init_25 : decode cX2_init 25 = .ok (.iload_n 1, 1) := by decide +kernel
theorem dX2_init_26 : decode cX2_init 26 = .ok (.bipush 10, 2) := by decide +kernel
theorem dX2_init_28 : decode cX2_init 28 = .ok (.if_icmp .ge 22, 3) := by decide +kernel
theorem dX2_init_31 : decode cX2_init 31 = .ok (.aload_n 0, 1) := by decide +kernel
theorem dX2_init_32 : decode cX2_init 32 = .ok (.getfield 11, 3) := by decide +kernel
theorem dX2_init_35 : decode cX2_init 35 = .ok (.iload_n 1, 1) := by decide +kernel
theorem dX2_init_36 : decode cX2_init 36 = .ok (.new 9, 3) := by decide +kernel
theorem dX2_init_39 : decode cX2_init 39 = .ok (.dup, 1) := by decide +kernel
theorem dX2_init_40 : decode cX2_init 40 = .ok (.invokespecial 24, 3) := by decide +kernel
theorem dX2_init_43 : decode cX2_init 43 = .ok (.aastore, 1) := by decide +kernel
theorem dX2_init_44 : decode cX2_init 44 = .ok (.iinc 1 1, 3) := by decide +kernel
theorem dX2_init_47 : decode cX2_init 47 = .ok (.goto (-22), 3) := by decide +kernel
theorem dX2_init_50 : decode cX2_init 50 = .ok (.return_, 1) := by decide +kernel
theorem dX2_forget_0 : decode cX2_forget 0 = .ok (.aload_n 0, 1) := by decide +kernel
theorem dX2_forget_1 : decode cX2_forget 1 = .ok (.iconst 0, 1) := by decide +kernel
theorem dX2_forget_2 : decode cX2_forget 2 = .ok (.putfield 21, 3) := by decide +kernel
theorem dX2_forget_5 : decode cX2_forget 5 = .ok (.return_, 1) := by decide +kernel
theorem dX2_remember_0 : decode cX2_remember 0 = .ok (.aload_n 0, 1) := by decide +kernel
theorem dX2_remember_1 : decode cX2_remember 1 = .ok (.getfield 11, 3) := by decide +kernel
theorem dX2_remember_4 : decode cX2_remember 4 = .ok (.aload_n 0, 1) := by decide +kernel
theorem dX2_remember_5 : decode cX2_remember 5 = .ok (.getfield 17, 3) := by decide +kernel
theorem dX2_remember_8 : decode cX2_remember 8 = .ok (.aaload, 1) := by decide +kernel
theorem dX2_remember_9 : decode cX2_remember 9 = .ok (.aload_n 1, 1) := by decide +kernel
theorem dX2_remember_10 : decode cX2_remember 10 = .ok (.invokevirtual 25, 3) := by decide +kernel
theorem dX2_remember_13 : decode cX2_remember 13 = .ok (.aload_n 0, 1) := by decide +kernel
theorem dX2_remember_14 : decode cX2_remember 14 = .ok (.aload_n 0, 1) := by decide +kernel
theorem dX2_remember_15 : decode cX2_remember 15 = .ok (.getfield 17, 3) := by decide +kernel
theorem dX2_remember_18 : decode cX2_remember 18 = .ok (.iconst 1, 1) := by decide +kernel
theorem dX2_remember_19 : decode cX2_remember 19 = .ok (.iadd, 1) := by decide +kernel
theorem dX2_remember_20 : decode cX2_remember 20 = .ok (.bipush 10, 2) := by decide +kernel
theorem dX2_remember_22 : decode cX2_remember 22 = .ok (.irem, 1) := by decide +kernel
theorem dX2_remember_23 : decode cX2_remember 23 = .ok (.putfield 17, 3) := by decide +kernel
theorem dX2_remember_26 : decode cX2_remember 26 = .ok (.aload_n 0, 1) := by decide +kernel
theorem dX2_remember_27 : decode cX2_remember 27 = .ok (.aload_n 0, 1) := by decide +kernel
theorem dX2_remember_28 : decode cX2_remember 28 = .ok (.getfield 21, 3) := by decide +kernel
theorem dX2_remember_31 : decode cX2_remember 31 = .ok (.iconst 1, 1) := by decide +kernel
theorem dX2_remember_32 : decode cX2_remember 32 = .ok (.iadd, 1) := by decide +kernel
theorem dX2_remember_33 : decode cX2_remember 33 = .ok (.bipush 10, 2) := by decide +kernel
theorem dX2_remember_35 : decode cX2_remember 35 = .ok (.invokestatic 29, 3) := by decide +kernel
theorem dX2_remember_38 : decode cX2_remember 38 = .ok (.putfield 21, 3) := by decide +kernel
theorem dX2_remember_41 : decode cX2_remember 41 = .ok (.return_, 1) := by decide +kernel
theorem dX2_stepBack_0 : decode cX2_stepBack 0 = .ok (.aload_n 0, 1) := by decide +kernel
theorem dX2_stepBack_1 : decode cX2_stepBack 1 = .ok (.getfield 21, 3) := by decide +kernel
theorem dX2_stepBack_4 : decode cX2_stepBack 4 = .ok (.ifCond .ne 5, 3) := by decide +kernel
theorem dX2_stepBack_7 : decode cX2_stepBack 7 = .ok (.iconst (-1), 1) := by decide +kernel
theorem dX2_stepBack_8 : decode cX2_stepBack 8 = .ok (.ireturn, 1) := by decide +kernel
theorem dX2_stepBack_9 : decode cX2_stepBack 9 = .ok (.aload_n 0, 1) := by decide +kernel
theorem dX2_stepBack_10 : decode cX2_stepBack 10 = .ok (.aload_n 0, 1) := by decide +kernel
theorem dX2_stepBack_11 : decode cX2_stepBack 11 = .ok (.getfield 17, 3) := by decide +kernel
theorem dX2_stepBack_14 : decode cX2_stepBack 14 = .ok (.bipush 10, 2) := by decide +kernel
theorem dX2_stepBack_16 : decode cX2_stepBack 16 = .ok (.iadd, 1) := by decide +kernel
theorem dX2_stepBack_17 : decode cX2_stepBack 17 = .ok (.iconst 1, 1) := by decide +kernel
theorem dX2_stepBack_18 : decode cX2_stepBack 18 = .ok (.isub, 1) := by decide +kernel
theorem dX2_stepBack_19 : decode cX2_stepBack 19 = .ok (.bipush 10, 2) := by decide +kernel
theorem dX2_stepBack_21 : decode cX2_stepBack 21 = .ok (.irem, 1) := by decide +kernel
theorem dX2_stepBack_22 : decode cX2_stepBack 22 = .ok (.putfield 17, 3) := by decide +kernel
theorem dX2_stepBack_25 : decode cX2_stepBack 25 = .ok (.aload_n 0, 1) := by decide +kernel
theorem dX2_stepBack_26 : decode cX2_stepBack 26 = .ok (.dup, 1) := by decide +kernel
theorem dX2_stepBack_27 : decode cX2_stepBack 27 = .ok (.getfield 21, 3) := by decide +kernel
theorem dX2_stepBack_30 : decode cX2_stepBack 30 = .ok (.iconst 1, 1) := by decide +kernel
theorem dX2_stepBack_31 : decode cX2_stepBack 31 = .ok (.isub, 1) := by decide +kernel
theorem dX2_stepBack_32 : decode cX2_stepBack 32 = .ok (.putfield 21, 3) := by decide +kernel
theorem dX2_stepBack_35 : decode cX2_stepBack 35 = .ok (.aload_n 1, 1) := by decide +kernel
theorem dX2_stepBack_36 : decode cX2_stepBack 36 = .ok (.aload_n 0, 1) := by decide +kernel
theorem dX2_stepBack_37 : decode cX2_stepBack 37 = .ok (.getfield 11, 3) := by decide +kernel
theorem dX2_stepBack_40 : decode cX2_stepBack 40 = .ok (.aload_n 0, 1) := by decide +kernel
theorem dX2_stepBack_41 : decode cX2_stepBack 41 = .ok (.getfield 17, 3) := by decide +kernel
theorem dX2_stepBack_44 : decode cX2_stepBack 44 = .ok (.aaload, 1) := by decide +kernel
theorem dX2_stepBack_45 : decode cX2_stepBack 45 = .ok (.invokevirtual 25, 3) := by decide +kernel
theorem dX2_stepBack_48 : decode cX2_stepBack 48 = .ok (.aload_n 0, 1) := by decide +kernel
theorem dX2_stepBack_49 : decode cX2_stepBack 49 = .ok (.getfield 21, 3) := by decide +kernel
theorem dX2_stepBack_52 : decode cX2_stepBack 52 = .ok (.ireturn, 1) := by decide +kernel
theorem dX3_init_0 : decode cX3_init 0 = .ok (.aload_n 0, 1) := by decide +kernel
theorem dX3_init_1 : decode cX3_init 1 = .ok (.invokespecial 3, 3) := by decide +kernel
theorem dX3_init_4 : decode cX3_init 4 = .ok (.aload_n 0, 1) := by decide +kernel
theorem dX3_init_5 : decode cX3_init 5 = .ok (.bipush 10, 2) := by decide +kernel
theorem dX3_init_7 : decode cX3_init 7 = .ok (.newarray .int, 2) := by decide +kernel
theorem dX3_init_9 : decode cX3_init 9 = .ok (.putfield 9, 3) := by decide +kernel
theorem dX3_init_12 : decode cX3_init 12 = .ok (.aload_n 0, 1) := by decide +kernel
theorem dX3_init_13 : decode cX3_init 13 = .ok (.iconst 0, 1) := by decide +kernel
theorem dX3_init_14 : decode cX3_init 14 = .ok (.putfield 15, 3) := by decide +kernel
theorem dX3_init_17 : decode cX3_init 17 = .ok (.return_, 1) := by decide +kernel
theorem dX3_begin_0 : decode cX3_begin 0 = .ok (.aload_n 0, 1) := by decide +kernel
theorem dX3_begin_1 : decode cX3_begin 1 = .ok (.iload_n 1, 1) := by decide +kernel
theorem dX3_begin_2 : decode cX3_begin 2 = .ok (.putfield 15, 3) := by decide +kernel
theorem dX3_begin_5 : decode cX3_begin 5 = .ok (.iconst 0, 1) := by decide +kernel
theorem dX3_begin_6 : decode cX3_begin 6 = .ok (.istore_n 2, 1) := by decide +kernel
theorem dX3_begin_7 : decode cX3_begin 7 = .ok (.iload_n 2, 1) := by decide +kernel
theorem dX3_begin_8 : decode cX3_begin 8 = .ok (.bipush 10, 2) := by decide +kernel
theorem dX3_begin_10 : decode cX3_begin 10 = .ok (.if_icmp .ge 27, 3) := by decide +kernel
theorem dX3_begin_13 : decode cX3_begin 13 = .ok (.aload_n 0, 1) := by decide +kernel
theorem dX3_begin_14 : decode cX3_begin 14 = .ok (.getfield 9, 3) := by decide +kernel
theorem dX3_begin_17 : decode cX3_begin 17 = .ok (.iload_n 2, 1) := by decide +kernel
theorem dX3_begin_18 : decode cX3_begin 18 = .ok (.iload_n 2, 1) := by decide +kernel
theorem dX3_begin_19 : decode cX3_begin 19 = .ok (.iload_n 1, 1) := by decide +kernel
theorem dX3_begin_20 : decode cX3_begin 20 = .ok (.if_icmp .ge 9, 3) := by decide +kernel
theorem dX3_begin_23 : decode cX3_begin 23 = .ok (.iconst 1, 1) := by decide +kernel
theorem dX3_begin_24 : decode cX3_begin 24 = .ok (.iload_n 2, 1) := by decide +kernel
theorem dX3_begin_25 : decode cX3_begin 25 = .ok (.ishl, 1) := by decide +kernel
theorem dX3_begin_26 : decode cX3_begin 26 = .ok (.goto 4, 3) := by decide +kernel
theorem dX3_begin_29 : decode cX3_begin 29 = .ok (.iconst 0, 1) := by decide +kernel
theorem dX3_begin_30 : decode cX3_begin 30 = .ok (.iastore, 1) := by decide +kernel
theorem dX3_begin_31 : decode cX3_begin 31 = .ok (.iinc 2 1, 3) := by decide +kernel
theorem dX3_begin_34 : decode cX3_begin 34 = .ok (.goto (-27), 3) := by decide +kernel
theorem dX3_begin_37 : decode cX3_begin 37 = .ok (.return_, 1) := by decide +kernel
theorem dX3_copyFrom_0 : decode cX3_copyFrom 0 = .ok (.aload_n 0, 1) := by decide +kernel
theorem dX3_copyFrom_1 : decode cX3_copyFrom 1 = .ok (.aload_n 1, 1) := by decide +kernel
theorem dX3_copyFrom_2 : decode cX3_copyFrom 2 = .ok (.getfield 15, 3) := by decide +kernel
theorem dX3_copyFrom_5 : decode cX3_copyFrom 5 = .ok (.putfield 15, 3) := by decide +kernel
theorem dX3_copyFrom_8 : decode cX3_copyFrom 8 = .ok (.iconst 0, 1) := by decide +kernel
theorem dX3_copyFrom_9 : decode cX3_copyFrom 9 = .ok (.istore_n 2, 1) := by decide +kernel
theorem dX3_copyFrom_10 : decode cX3_copyFrom 10 = .ok (.iload_n 2, 1) := by decide +kernel
theorem dX3_copyFrom_11 : decode cX3_copyFrom 11 = .ok (.bipush 10, 2) := by decide +kernel
theorem dX3_copyFrom_13 : decode cX3_copyFrom 13 = .ok (.if_icmp .ge 21, 3) := by decide +kernel
theorem dX3_copyFrom_16 : decode cX3_copyFrom 16 = .ok (.aload_n 0, 1) := by decide +kernel
theorem dX3_copyFrom_17 : decode cX3_copyFrom 17 = .ok (.getfield 9, 3) := by decide +kernel
theorem dX3_copyFrom_20 : decode cX3_copyFrom 20 = .ok (.iload_n 2, 1) := by decide +kernel
theorem dX3_copyFrom_21 : decode cX3_copyFrom 21 = .ok (.aload_n 1, 1) := by decide +kernel
theorem dX3_copyFrom_22 : decode cX3_copyFrom 22 = .ok (.getfield 9, 3) := by decide +kernel
theorem dX3_copyFrom_25 : decode cX3_copyFrom 25 = .ok (.iload_n 2, 1) := by decide +kernel
theorem dX3_copyFrom_26 : decode cX3_copyFrom 26 = .ok (.iaload, 1) := by decide +kernel
theorem dX3_copyFrom_27 : decode cX3_copyFrom 27 = .ok (.iastore, 1) := by decide +kernel
theorem dX3_copyFrom_28 : decode cX3_copyFrom 28 = .ok (.iinc 2 1, 3) := by decide +kernel
theorem dX3_copyFrom_31 : decode cX3_copyFrom 31 = .ok (.goto (-21), 3) := by decide +kernel
theorem dX3_copyFrom_34 : decode cX3_copyFrom 34 = .ok (.return_, 1) := by decide +kernel
theorem dX3_knowersOf_0 : decode cX3_knowersOf 0 = .ok (.iconst 0, 1) := by decide +kernel
theorem dX3_knowersOf_1 : decode cX3_knowersOf 1 = .ok (.istore_n 2, 1) := by decide +kernel
theorem dX3_knowersOf_2 : decode cX3_knowersOf 2 = .ok (.iconst 0, 1) := by decide +kernel
theorem dX3_knowersOf_3 : decode cX3_knowersOf 3 = .ok (.istore_n 3, 1) := by decide +kernel
theorem dX3_knowersOf_4 : decode cX3_knowersOf 4 = .ok (.iload_n 3, 1) := by decide +kernel
theorem dX3_knowersOf_5 : decode cX3_knowersOf 5 = .ok (.aload_n 0, 1) := by decide +kernel
theorem dX3_knowersOf_6 : decode cX3_knowersOf 6 = .ok (.getfield 15, 3) := by decide +kernel
theorem dX3_knowersOf_9 : decode cX3_knowersOf 9 = .ok (.if_icmp .ge 28, 3) := by decide +kernel
theorem dX3_knowersOf_12 : decode cX3_knowersOf 12 = .ok (.aload_n 0, 1) := by decide +kernel
theorem dX3_knowersOf_13 : decode cX3_knowersOf 13 = .ok (.getfield 9, 3) := by decide +kernel
theorem dX3_knowersOf_16 : decode cX3_knowersOf 16 = .ok (.iload_n 3, 1) := by decide +kernel
theorem dX3_knowersOf_17 : decode cX3_knowersOf 17 = .ok (.iaload, 1) := by decide +kernel
theorem dX3_knowersOf_18 : decode cX3_knowersOf 18 = .ok (.iload_n 1, 1) := by decide +kernel
theorem dX3_knowersOf_19 : decode cX3_knowersOf 19 = .ok (.invokestatic 19, 3) := by decide +kernel
theorem dX3_knowersOf_22 : decode cX3_knowersOf 22 = .ok (.ifCond .eq 9, 3) := by decide +kernel
theorem dX3_knowersOf_25 : decode cX3_knowersOf 25 = .ok (.iload_n 2, 1) := by decide +kernel
theorem dX3_knowersOf_26 : decode cX3_knowersOf 26 = .ok (.iconst 1, 1) := by decide +kernel
theorem dX3_knowersOf_27 : decode cX3_knowersOf 27 = .ok (.iload_n 3, 1) := by decide +kernel
theorem dX3_knowersOf_28 : decode cX3_knowersOf 28 = .ok (.ishl, 1) := by decide +kernel
theorem dX3_knowersOf_29 : decode cX3_knowersOf 29 = .ok (.ior, 1) := by decide +kernel
theorem dX3_knowersOf_30 : decode cX3_knowersOf 30 = .ok (.istore_n 2, 1) := by decide +kernel
theorem dX3_knowersOf_31 : decode cX3_knowersOf 31 = .ok (.iinc 3 1, 3) := by decide +kernel
theorem dX3_knowersOf_34 : decode cX3_knowersOf 34 = .ok (.goto (-30), 3) := by decide +kernel
theorem dX3_knowersOf_37 : decode cX3_knowersOf 37 = .ok (.iload_n 2, 1) := by decide +kernel
theorem dX3_knowersOf_38 : decode cX3_knowersOf 38 = .ok (.ireturn, 1) := by decide +kernel
theorem dX3_missingPieces_0 : decode cX3_missingPieces 0 = .ok (.aload_n 0, 1) := by decide +kernel
theorem dX3_missingPieces_1 : decode cX3_missingPieces 1 = .ok (.getfield 15, 3) := by decide +kernel
theorem dX3_missingPieces_4 : decode cX3_missingPieces 4 = .ok (.aload_n 0, 1) := by decide +kernel
theorem dX3_missingPieces_5 : decode cX3_missingPieces 5 = .ok (.getfield 15, 3) := by decide +kernel
theorem dX3_missingPieces_8 : decode cX3_missingPieces 8 = .ok (.imul, 1) := by decide +kernel
theorem dX3_missingPieces_9 : decode cX3_missingPieces 9 = .ok (.istore_n 1, 1) := by decide +kernel
theorem dX3_missingPieces_10 : decode cX3_missingPieces 10 = .ok (.iconst 0, 1) := by decide +kernel
theorem dX3_missingPieces_11 : decode cX3_missingPieces 11 = .ok (.istore_n 2, 1) := by decide +kernel
theorem dX3_missingPieces_12 : decode cX3_missingPieces 12 = .ok (.iload_n 2, 1) := by decide +kernel
theorem dX3_missingPieces_13 : decode cX3_missingPieces 13 = .ok (.aload_n 0, 1) := by decide +kernel
theorem dX3_missingPieces_14 : decode cX3_missingPieces 14 = .ok (.getfield 15, 3) := by decide +kernel
theorem dX3_missingPieces_17 : decode cX3_missingPieces 17 = .ok (.if_icmp .ge 21, 3) := by decide +kernel
theorem dX3_missingPieces_20 : decode cX3_missingPieces 20 = .ok (.iload_n 1, 1) := by decide +kernel
theorem dX3_missingPieces_21 : decode cX3_missingPieces 21 = .ok (.aload_n 0, 1) := by decide +kernel
theorem dX3_missingPieces_22 : decode cX3_missingPieces 22 = .ok (.getfield 9, 3) := by decide +kernel
theorem dX3_missingPieces_25 : decode cX3_missingPieces 25 = .ok (.iload_n 2, 1) := by decide +kernel
theorem dX3_missingPieces_26 : decode cX3_missingPieces 26 = .ok (.iaload, 1) := by decide +kernel
theorem dX3_missingPieces_27 : decode cX3_missingPieces 27 = .ok (.invokestatic 23, 3) := by decide +kernel
theorem dX3_missingPieces_30 : decode cX3_missingPieces 30 = .ok (.isub, 1) := by decide +kernel
theorem dX3_missingPieces_31 : decode cX3_missingPieces 31 = .ok (.istore_n 1, 1) := by decide +kernel
theorem dX3_missingPieces_32 : decode cX3_missingPieces 32 = .ok (.iinc 2 1, 3) := by decide +kernel
theorem dX3_missingPieces_35 : decode cX3_missingPieces 35 = .ok (.goto (-23), 3) := by decide +kernel
theorem dX3_missingPieces_38 : decode cX3_missingPieces 38 = .ok (.iload_n 1, 1) := by decide +kernel
theorem dX3_missingPieces_39 : decode cX3_missingPieces 39 = .ok (.ireturn, 1) := by decide +kernel
theorem dX3_neededDoublings_0 : decode cX3_neededDoublings 0 = .ok (.iconst 0, 1) := by decide +kernel
theorem dX3_neededDoublings_1 : decode cX3_neededDoublings 1 = .ok (.istore_n 1, 1) := by decide +kernel
theorem dX3_neededDoublings_2 : decode cX3_neededDoublings 2 = .ok (.iconst 0, 1) := by decide +kernel
theorem dX3_neededDoublings_3 : decode cX3_neededDoublings 3 = .ok (.istore_n 2, 1) := by decide +kernel
theorem dX3_neededDoublings_4 : decode cX3_neededDoublings 4 = .ok (.iload_n 2, 1) := by decide +kernel
theorem dX3_neededDoublings_5 : decode cX3_neededDoublings 5 = .ok (.aload_n 0, 1) := by decide +kernel
theorem dX3_neededDoublings_6 : decode cX3_neededDoublings 6 = .ok (.getfield 15, 3) := by decide +kernel
theorem dX3_neededDoublings_9 : decode cX3_neededDoublings 9 = .ok (.if_icmp .ge 26, 3) := by decide +kernel
theorem dX3_neededDoublings_12 : decode cX3_neededDoublings 12 = .ok (.iload_n 1, 1) := by decide +kernel
theorem dX3_neededDoublings_13 : decode cX3_neededDoublings 13 = .ok (.aload_n 0, 1) := by decide +kernel
theorem dX3_neededDoublings_14 : decode cX3_neededDoublings 14 = .ok (.aload_n 0, 1) := by decide +kernel
theorem dX3_neededDoublings_15 : decode cX3_neededDoublings 15 = .ok (.iload_n 2, 1) := by decide +kernel
theorem dX3_neededDoublings_16 : decode cX3_neededDoublings 16 = .ok (.invokevirtual 29, 3) := by decide +kernel
theorem dX3_neededDoublings_19 : decode cX3_neededDoublings 19 = .ok (.invokestatic 23, 3) := by decide +kernel
theorem dX3_neededDoublings_22 : decode cX3_neededDoublings 22 = .ok (.invokevirtual 32, 3) := by decide +kernel
theorem dX3_neededDoublings_25 : decode cX3_neededDoublings 25 = .ok (.invokestatic 35, 3) := by decide +kernel
theorem dX3_neededDoublings_28 : decode cX3_neededDoublings 28 = .ok (.istore_n 1, 1) := by decide +kernel
theorem dX3_neededDoublings_29 : decode cX3_neededDoublings 29 = .ok (.iinc 2 1, 3) := by decide +kernel
theorem dX3_neededDoublings_32 : decode cX3_neededDoublings 32 = .ok (.goto (-28), 3) := by decide +kernel
theorem dX3_neededDoublings_35 : decode cX3_neededDoublings 35 = .ok (.iload_n 1, 1) := by decide +kernel
theorem dX3_neededDoublings_36 : decode cX3_neededDoublings 36 = .ok (.ireturn, 1) := by decide +kernel
theorem dX3_doublingsFrom_0 : decode cX3_doublingsFrom 0 = .ok (.iconst 0, 1) := by decide +kernel
theorem dX3_doublingsFrom_1 : decode cX3_doublingsFrom 1 = .ok (.istore_n 2, 1) := by decide +kernel
theorem dX3_doublingsFrom_2 : decode cX3_doublingsFrom 2 = .ok (.iload_n 1, 1) := by decide +kernel
theorem dX3_doublingsFrom_3 : decode cX3_doublingsFrom 3 = .ok (.istore_n 3, 1) := by decide +kernel
theorem dX3_doublingsFrom_4 : decode cX3_doublingsFrom 4 = .ok (.iload_n 3, 1) := by decide +kernel
theorem dX3_doublingsFrom_5 : decode cX3_doublingsFrom 5 = .ok (.aload_n 0, 1) := by decide +kernel
theorem dX3_doublingsFrom_6 : decode cX3_doublingsFrom 6 = .ok (.getfield 15, 3) := by decide +kernel
theorem dX3_doublingsFrom_9 : decode cX3_doublingsFrom 9 = .ok (.if_icmp .ge 19, 3) := by decide +kernel
theorem dX3_doublingsFrom_12 : decode cX3_doublingsFrom 12 = .ok (.iload_n 2, 1) := by decide +kernel
theorem dX3_doublingsFrom_13 : decode cX3_doublingsFrom 13 = .ok (.bipush 10, 2) := by decide +kernel
theorem dX3_doublingsFrom_15 : decode cX3_doublingsFrom 15 = .ok (.if_icmp .ge 13, 3) := by decide +kernel
theorem dX3_doublingsFrom_18 : decode cX3_doublingsFrom 18 = .ok (.iinc 2 1, 3) := by decide +kernel
theorem dX3_doublingsFrom_21 : decode cX3_doublingsFrom 21 = .ok (.iload_n 3, 1) := by decide +kernel
theorem dX3_doublingsFrom_22 : decode cX3_doublingsFrom 22 = .ok (.iconst 2, 1) := by decide +kernel
theorem dX3_doublingsFrom_23 : decode cX3_doublingsFrom 23 = .ok (.imul, 1) := by decide +kernel
theorem dX3_doublingsFrom_24 : decode cX3_doublingsFrom 24 = .ok (.istore_n 3, 1) := by decide +kernel
theorem dX3_doublingsFrom_25 : decode cX3_doublingsFrom 25 = .ok (.goto (-21), 3) := by decide +kernel
theorem dX3_doublingsFrom_28 : decode cX3_doublingsFrom 28 = .ok (.iload_n 2, 1) := by decide +kernel
theorem dX3_doublingsFrom_29 : decode cX3_doublingsFrom 29 = .ok (.ireturn, 1) := by decide +kernel
theorem dX4_init_0 : decode cX4_init 0 = .ok (.aload_n 0, 1) := by decide +kernel
theorem dX4_init_1 : decode cX4_init 1 = .ok (.invokespecial 3, 3) := by decide +kernel
theorem dX4_init_4 : decode cX4_init 4 = .ok (.aload_n 0, 1) := by decide +kernel
theorem dX4_init_5 : decode cX4_init 5 = .ok (.new 9, 3) := by decide +kernel
theorem dX4_init_8 : decode cX4_init 8 = .ok (.dup, 1) := by decide +kernel
theorem dX4_init_9 : decode cX4_init 9 = .ok (.invokespecial 11, 3) := by decide +kernel
theorem dX4_init_12 : decode cX4_init 12 = .ok (.putfield 12, 3) := by decide +kernel
theorem dX4_init_15 : decode cX4_init 15 = .ok (.aload_n 0, 1) := by decide +kernel
theorem dX4_init_16 : decode cX4_init 16 = .ok (.iconst 0, 1) := by decide +kernel
theorem dX4_init_17 : decode cX4_init 17 = .ok (.putfield 18, 3) := by decide +kernel
theorem dX4_init_20 : decode cX4_init 20 = .ok (.aload_n 0, 1) := by decide +kernel
theorem dX4_init_21 : decode cX4_init 21 = .ok (.iconst 0, 1) := by decide +kernel
theorem dX4_init_22 : decode cX4_init 22 = .ok (.putfield 22, 3) := by decide +kernel
theorem dX4_init_25 : decode cX4_init 25 = .ok (.aload_n 0, 1) := by decide +kernel
theorem dX4_init_26 : decode cX4_init 26 = .ok (.iconst 0, 1) := by decide +kernel
theorem dX4_init_27 : decode cX4_init 27 = .ok (.putfield 25, 3) := by decide +kernel
theorem dX4_init_30 : decode cX4_init 30 = .ok (.return_, 1) := by decide +kernel
theorem dX4_make_0 : decode cX4_make 0 = .ok (.aload_n 0, 1) := by decide +kernel
theorem dX4_make_1 : decode cX4_make 1 = .ok (.getfield 12, 3) := by decide +kernel
theorem dX4_make_4 : decode cX4_make 4 = .ok (.aload_n 2, 1) := by decide +kernel
theorem dX4_make_5 : decode cX4_make 5 = .ok (.getfield 28, 3) := by decide +kernel
theorem dX4_make_8 : decode cX4_make 8 = .ok (.invokevirtual 31, 3) := by decide +kernel
theorem dX4_make_11 : decode cX4_make 11 = .ok (.aload_n 0, 1) := by decide +kernel
theorem dX4_make_12 : decode cX4_make 12 = .ok (.iconst 0, 1) := by decide +kernel
theorem dX4_make_13 : decode cX4_make 13 = .ok (.putfield 18, 3) := by decide +kernel
theorem dX4_make_16 : decode cX4_make 16 = .ok (.aload_n 0, 1) := by decide +kernel
theorem dX4_make_17 : decode cX4_make 17 = .ok (.iconst 0, 1) := by decide +kernel
theorem dX4_make_18 : decode cX4_make 18 = .ok (.putfield 22, 3) := by decide +kernel
theorem dX4_make_21 : decode cX4_make 21 = .ok (.aload_n 0, 1) := by decide +kernel
theorem dX4_make_22 : decode cX4_make 22 = .ok (.iconst 0, 1) := by decide +kernel
theorem dX4_make_23 : decode cX4_make 23 = .ok (.putfield 25, 3) := by decide +kernel
theorem dX4_make_26 : decode cX4_make 26 = .ok (.aload_n 0, 1) := by decide +kernel
theorem dX4_make_27 : decode cX4_make 27 = .ok (.getfield 18, 3) := by decide +kernel
theorem dX4_make_30 : decode cX4_make 30 = .ok (.bipush 40, 2) := by decide +kernel
theorem dX4_make_32 : decode cX4_make 32 = .ok (.if_icmp .ge 100, 3) := by decide +kernel
theorem dX4_make_35 : decode cX4_make 35 = .ok (.aload_n 0, 1) := by decide +kernel
theorem dX4_make_36 : decode cX4_make 36 = .ok (.getfield 12, 3) := by decide +kernel
theorem dX4_make_39 : decode cX4_make 39 = .ok (.invokevirtual 35, 3) := by decide +kernel
theorem dX4_make_42 : decode cX4_make 42 = .ok (.ifCond .le 90, 3) := by decide +kernel
theorem dX4_make_45 : decode cX4_make 45 = .ok (.aload_n 0, 1) := by decide +kernel
theorem dX4_make_46 : decode cX4_make 46 = .ok (.dup, 1) := by decide +kernel
theorem dX4_make_47 : decode cX4_make 47 = .ok (.getfield 18, 3) := by decide +kernel
theorem dX4_make_50 : decode cX4_make 50 = .ok (.iconst 1, 1) := by decide +kernel
theorem dX4_make_51 : decode cX4_make 51 = .ok (.iadd, 1) := by decide +kernel
theorem dX4_make_52 : decode cX4_make 52 = .ok (.putfield 18, 3) := by decide +kernel
theorem dX4_make_55 : decode cX4_make 55 = .ok (.aload_n 1, 1) := by decide +kernel
theorem dX4_make_56 : decode cX4_make 56 = .ok (.aload_n 2, 1) := by decide +kernel
theorem dX4_make_57 : decode cX4_make 57 = .ok (.getfield 39, 3) := by decide +kernel
theorem dX4_make_60 : decode cX4_make 60 = .ok (.aload_n 0, 1) := by decide +kernel
theorem dX4_make_61 : decode cX4_make 61 = .ok (.getfield 18, 3) := by decide +kernel
theorem dX4_make_64 : decode cX4_make 64 = .ok (.iadd, 1) := by decide +kernel
theorem dX4_make_65 : decode cX4_make 65 = .ok (.invokevirtual 40, 3) := by decide +kernel
theorem dX4_make_68 : decode cX4_make 68 = .ok (.aload_n 2, 1) := by decide +kernel
theorem dX4_make_69 : decode cX4_make 69 = .ok (.getfield 46, 3) := by decide +kernel
theorem dX4_make_72 : decode cX4_make 72 = .ok (.iconst (-1), 1) := by decide +kernel
theorem dX4_make_73 : decode cX4_make 73 = .ok (.ixor, 1) := by decide +kernel
theorem dX4_make_74 : decode cX4_make 74 = .ok (.iand, 1) := by decide +kernel
theorem dX4_make_75 : decode cX4_make 75 = .ok (.istore 4, 2) := by decide +kernel
theorem dX4_make_77 : decode cX4_make 77 = .ok (.aload_n 3, 1) := by decide +kernel
theorem dX4_make_78 : decode cX4_make 78 = .ok (.aload_n 1, 1) := by decide +kernel
theorem dX4_make_79 : decode cX4_make 79 = .ok (.iload 4, 2) := by decide +kernel
theorem dX4_make_81 : decode cX4_make 81 = .ok (.aload_n 0, 1) := by decide +kernel
theorem dX4_make_82 : decode cX4_make 82 = .ok (.getfield 12, 3) := by decide +kernel
theorem dX4_make_85 : decode cX4_make 85 = .ok (.invokevirtual 49, 3) := by decide +kernel
theorem dX4_make_88 : decode cX4_make 88 = .ok (.istore 5, 2) := by decide +kernel
theorem dX4_make_90 : decode cX4_make 90 = .ok (.aload_n 1, 1) := by decide +kernel
theorem dX4_make_91 : decode cX4_make 91 = .ok (.iload 5, 2) := by decide +kernel
theorem dX4_make_93 : decode cX4_make 93 = .ok (.aload_n 0, 1) := by decide +kernel
theorem dX4_make_94 : decode cX4_make 94 = .ok (.getfield 12, 3) := by decide +kernel
theorem dX4_make_97 : decode cX4_make 97 = .ok (.invokevirtual 55, 3) := by decide +kernel
theorem dX4_make_100 : decode cX4_make 100 = .ok (.aload_n 0, 1) := by decide +kernel
theorem dX4_make_101 : decode cX4_make 101 = .ok (.dup, 1) := by decide +kernel
theorem dX4_make_102 : decode cX4_make 102 = .ok (.getfield 22, 3) := by decide +kernel
theorem dX4_make_105 : decode cX4_make 105 = .ok (.iload 5, 2) := by decide +kernel
theorem dX4_make_107 : decode cX4_make 107 = .ok (.invokestatic 59, 3) := by decide +kernel
theorem dX4_make_110 : decode cX4_make 110 = .ok (.iadd, 1) := by decide +kernel
theorem dX4_make_111 : decode cX4_make 111 = .ok (.putfield 22, 3) := by decide +kernel
theorem dX4_make_114 : decode cX4_make 114 = .ok (.aload_n 0, 1) := by decide +kernel
theorem dX4_make_115 : decode cX4_make 115 = .ok (.dup, 1) := by decide +kernel
theorem dX4_make_116 : decode cX4_make 116 = .ok (.getfield 25, 3) := by decide +kernel
theorem dX4_make_119 : decode cX4_make 119 = .ok (.aload_n 1, 1) := by decide +kernel
theorem dX4_make_120 : decode cX4_make 120 = .ok (.iload 5, 2) := by decide +kernel
theorem dX4_make_122 : decode cX4_make 122 = .ok (.invokevirtual 64, 3) := by decide +kernel
theorem dX4_make_125 : decode cX4_make 125 = .ok (.iadd, 1) := by decide +kernel
theorem dX4_make_126 : decode cX4_make 126 = .ok (.putfield 25, 3) := by decide +kernel
theorem dX4_make_129 : decode cX4_make 129 = .ok (.goto (-103), 3) := by decide +kernel
theorem dX4_make_132 : decode cX4_make 132 = .ok (.return_, 1) := by decide +kernel
theorem dX5_init_0 : decode cX5_init 0 = .ok (.aload_n 0, 1) := by decide +kernel
theorem dX5_init_1 : decode cX5_init 1 = .ok (.invokespecial 1, 3) := by decide +kernel
theorem dX5_init_4 : decode cX5_init 4 = .ok (.aload_n 0, 1) := by decide +kernel
theorem dX5_init_5 : decode cX5_init 5 = .ok (.iload_n 1, 1) := by decide +kernel
theorem dX5_init_6 : decode cX5_init 6 = .ok (.putfield 7, 3) := by decide +kernel
theorem dX5_init_9 : decode cX5_init 9 = .ok (.aload_n 0, 1) := by decide +kernel
theorem dX5_init_10 : decode cX5_init 10 = .ok (.iload_n 2, 1) := by decide +kernel
theorem dX5_init_11 : decode cX5_init 11 = .ok (.putfield 13, 3) := by decide +kernel
theorem dX5_init_14 : decode cX5_init 14 = .ok (.aload_n 0, 1) := by decide +kernel
theorem dX5_init_15 : decode cX5_init 15 = .ok (.aload_n 3, 1) := by decide +kernel
theorem dX5_init_16 : decode cX5_init 16 = .ok (.putfield 16, 3) := by decide +kernel
theorem dX5_init_19 : decode cX5_init 19 = .ok (.return_, 1) := by decide +kernel
theorem dX6_init_0 : decode cX6_init 0 = .ok (.aload_n 0, 1) := by decide +kernel
theorem dX6_init_1 : decode cX6_init 1 = .ok (.invokespecial 3, 3) := by decide +kernel
theorem dX6_init_4 : decode cX6_init 4 = .ok (.aload_n 0, 1) := by decide +kernel
theorem dX6_init_5 : decode cX6_init 5 = .ok (.iconst 5, 1) := by decide +kernel
theorem dX6_init_6 : decode cX6_init 6 = .ok (.anewarray 9, 3) := by decide +kernel
theorem dX6_init_9 : decode cX6_init 9 = .ok (.putfield 11, 3) := by decide +kernel
theorem dX6_init_12 : decode cX6_init 12 = .ok (.aload_n 0, 1) := by decide +kernel
theorem dX6_init_13 : decode cX6_init 13 = .ok (.iconst 4, 1) := by decide +kernel
theorem dX6_init_14 : decode cX6_init 14 = .ok (.bipush 10, 2) := by decide +kernel
theorem dX6_init_16 : decode cX6_init 16 = .ok (.multianewarray 17 2, 4) := by decide +kernel
theorem dX6_init_20 : decode cX6_init 20 = .ok (.putfield 19, 3) := by decide +kernel
theorem dX6_init_23 : decode cX6_init 23 = .ok (.aload_n 0, 1) := by decide +kernel
theorem dX6_init_24 : decode cX6_init 24 = .ok (.iconst 4, 1) := by decide +kernel
theorem dX6_init_25 : decode cX6_init 25 = .ok (.bipush 10, 2) := by decide +kernel
theorem dX6_init_27 : decode cX6_init 27 = .ok (.multianewarray 17 2, 4) := by decide +kernel
theorem dX6_init_31 : decode cX6_init 31 = .ok (.putfield 22, 3) := by decide +kernel
theorem dX6_init_34 : decode cX6_init 34 = .ok (.aload_n 0, 1) := by decide +kernel
theorem dX6_init_35 : decode cX6_init 35 = .ok (.iconst 0, 1) := by decide +kernel
theorem dX6_init_36 : decode cX6_init 36 = .ok (.putfield 25, 3) := by decide +kernel
theorem dX6_init_39 : decode cX6_init 39 = .ok (.aload_n 0, 1) := by decide +kernel
theorem dX6_init_40 : decode cX6_init 40 = .ok (.iconst 0, 1) := by decide +kernel
theorem dX6_init_41 : decode cX6_init 41 = .ok (.putfield 29, 3) := by decide +kernel
theorem dX6_init_44 : decode cX6_init 44 = .ok (.iconst 0, 1) := by decide +kernel
theorem dX6_init_45 : decode cX6_init 45 = .ok (.istore_n 1, 1) := by decide +kernel
theorem dX6_init_46 : decode cX6_init 46 = .ok (.iload_n 1, 1) := by decide +kernel
theorem dX6_init_47 : decode cX6_init 47 = .ok (.iconst 4, 1) := by decide +kernel
theorem dX6_init_48 : decode cX6_init 48 = .ok (.if_icmp .gt 22, 3) := by decide +kernel
theorem dX6_init_51 : decode cX6_init 51 = .ok (.aload_n 0, 1) := by decide +kernel
theorem dX6_init_52 : decode cX6_init 52 = .ok (.getfield 11, 3) := by decide +kernel
theorem dX6_init_55 : decode cX6_init 55 = .ok (.iload_n 1, 1) := by decide +kernel
theorem dX6_init_56 : decode cX6_init 56 = .ok (.new 9, 3) := by decide +kernel
theorem dX6_init_59 : decode cX6_init 59 = .ok (.dup, 1) := by decide +kernel
theorem dX6_init_60 : decode cX6_init 60 = .ok (.invokespecial 32, 3) := by decide +kernel
theorem dX6_init_63 : decode cX6_init 63 = .ok (.aastore, 1) := by decide +kernel
theorem dX6_init_64 : decode cX6_init 64 = .ok (.iinc 1 1, 3) := by decide +kernel
theorem dX6_init_67 : decode cX6_init 67 = .ok (.goto (-21), 3) := by decide +kernel
theorem dX6_init_70 : decode cX6_init 70 = .ok (.return_, 1) := by decide +kernel
theorem dX6_find_0 : decode cX6_find 0 = .ok (.aload_n 0, 1) := by decide +kernel
theorem dX6_find_1 : decode cX6_find 1 = .ok (.aload_n 1, 1) := by decide +kernel
theorem dX6_find_2 : decode cX6_find 2 = .ok (.getfield 33, 3) := by decide +kernel
theorem dX6_find_5 : decode cX6_find 5 = .ok (.bipush 6, 2) := by decide +kernel
theorem dX6_find_7 : decode cX6_find 7 = .ok (.invokestatic 36, 3) := by decide +kernel
theorem dX6_find_10 : decode cX6_find 10 = .ok (.putfield 25, 3) := by decide +kernel
theorem dX6_find_13 : decode cX6_find 13 = .ok (.iconst 0, 1) := by decide +kernel
theorem dX6_find_14 : decode cX6_find 14 = .ok (.istore 4, 2) := by decide +kernel
theorem dX6_find_16 : decode cX6_find 16 = .ok (.iload 4, 2) := by decide +kernel
theorem dX6_find_18 : decode cX6_find 18 = .ok (.iconst 4, 1) := by decide +kernel
theorem dX6_find_19 : decode cX6_find 19 = .ok (.if_icmp .gt 23, 3) := by decide +kernel
theorem dX6_find_22 : decode cX6_find 22 = .ok (.aload_n 0, 1) := by decide +kernel
theorem dX6_find_23 : decode cX6_find 23 = .ok (.getfield 11, 3) := by decide +kernel
theorem dX6_find_26 : decode cX6_find 26 = .ok (.iload 4, 2) := by decide +kernel
theorem dX6_find_28 : decode cX6_find 28 = .ok (.aaload, 1) := by decide +kernel
theorem dX6_find_29 : decode cX6_find 29 = .ok (.aload_n 2, 1) := by decide +kernel
theorem dX6_find_30 : decode cX6_find 30 = .ok (.getfield 42, 3) := by decide +kernel
theorem dX6_find_33 : decode cX6_find 33 = .ok (.invokevirtual 48, 3) := by decide +kernel
theorem dX6_find_36 : decode cX6_find 36 = .ok (.iinc 4 1, 3) := by decide +kernel
theorem dX6_find_39 : decode cX6_find 39 = .ok (.goto (-23), 3) := by decide +kernel
theorem dX6_find_42 : decode cX6_find 42 = .ok (.iconst 0, 1) := by decide +kernel
theorem dX6_find_43 : decode cX6_find 43 = .ok (.istore 4, 2) := by decide +kernel
theorem dX6_find_45 : decode cX6_find 45 = .ok (.iload 4, 2) := by decide +kernel
theorem dX6_find_47 : decode cX6_find 47 = .ok (.iconst 4, 1) := by decide +kernel
theorem dX6_find_48 : decode cX6_find 48 = .ok (.if_icmp .ge 36, 3) := by decide +kernel
theorem dX6_find_51 : decode cX6_find 51 = .ok (.aload_n 0, 1) := by decide +kernel
theorem dX6_find_52 : decode cX6_find 52 = .ok (.iload 4, 2) := by decide +kernel
theorem dX6_find_54 : decode cX6_find 54 = .ok (.aload_n 1, 1) := by decide +kernel
theorem dX6_find_55 : decode cX6_find 55 = .ok (.aload_n 1, 1) := by decide +kernel
theorem dX6_find_56 : decode cX6_find 56 = .ok (.aload_n 2, 1) := by decide +kernel
theorem dX6_find_57 : decode cX6_find 57 = .ok (.getfield 52, 3) := by decide +kernel
theorem dX6_find_60 : decode cX6_find 60 = .ok (.iconst 1, 1) := by decide +kernel
theorem dX6_find_61 : decode cX6_find 61 = .ok (.iadd, 1) := by decide +kernel
theorem dX6_find_62 : decode cX6_find 62 = .ok (.iload 4, 2) := by decide +kernel
theorem dX6_find_64 : decode cX6_find 64 = .ok (.iadd, 1) := by decide +kernel
theorem dX6_find_65 : decode cX6_find 65 = .ok (.invokevirtual 55, 3) := by decide +kernel
theorem dX6_find_68 : decode cX6_find 68 = .ok (.aload_n 2, 1) := by decide +kernel
theorem dX6_find_69 : decode cX6_find 69 = .ok (.getfield 59, 3) := by decide +kernel
theorem dX6_find_72 : decode cX6_find 72 = .ok (.iconst (-1), 1) := by decide +kernel
theorem dX6_find_73 : decode cX6_find 73 = .ok (.ixor, 1) := by decide +kernel
theorem dX6_find_74 : decode cX6_find 74 = .ok (.iand, 1) := by decide +kernel
theorem dX6_find_75 : decode cX6_find 75 = .ok (.invokevirtual 62, 3) := by decide +kernel
theorem dX6_find_78 : decode cX6_find 78 = .ok (.iinc 4 1, 3) := by decide +kernel
theorem dX6_find_81 : decode cX6_find 81 = .ok (.goto (-36), 3) := by decide +kernel
theorem dX6_find_84 : decode cX6_find 84 = .ok (.iconst 0, 1) := by decide +kernel
theorem dX6_find_85 : decode cX6_find 85 = .ok (.istore 4, 2) := by decide +kernel
theorem dX6_find_87 : decode cX6_find 87 = .ok (.iload 4, 2) := by decide +kernel
theorem dX6_find_89 : decode cX6_find 89 = .ok (.iload_n 3, 1) := by decide +kernel
theorem dX6_find_90 : decode cX6_find 90 = .ok (.if_icmp .gt 32, 3) := by decide +kernel
theorem dX6_find_93 : decode cX6_find 93 = .ok (.iload 4, 2) := by decide +kernel
theorem dX6_find_95 : decode cX6_find 95 = .ok (.iconst 4, 1) := by decide +kernel
theorem dX6_find_96 : decode cX6_find 96 = .ok (.if_icmp .gt 26, 3) := by decide +kernel
theorem dX6_find_99 : decode cX6_find 99 = .ok (.aload_n 0, 1) := by decide +kernel
theorem dX6_find_100 : decode cX6_find 100 = .ok (.iload 4, 2) := by decide +kernel
theorem dX6_find_102 : decode cX6_find 102 = .ok (.putfield 29, 3) := by decide +kernel
theorem dX6_find_105 : decode cX6_find 105 = .ok (.aload_n 0, 1) := by decide +kernel
theorem dX6_find_106 : decode cX6_find 106 = .ok (.iconst 0, 1) := by decide +kernel
theorem dX6_find_107 : decode cX6_find 107 = .ok (.invokevirtual 66, 3) := by decide +kernel
theorem dX6_find_110 : decode cX6_find 110 = .ok (.ifCond .eq 6, 3) := by decide +kernel
theorem dX6_find_113 : decode cX6_find 113 = .ok (.iload 4, 2) := by decide +kernel
theorem dX6_find_115 : decode cX6_find 115 = .ok (.ireturn, 1) := by decide +kernel
theorem dX6_find_116 : decode cX6_find 116 = .ok (.iinc 4 1, 3) := by decide +kernel
theorem dX6_find_119 : decode cX6_find 119 = .ok (.goto (-32), 3) := by decide +kernel
theorem dX6_find_122 : decode cX6_find 122 = .ok (.iconst (-1), 1) := by decide +kernel
theorem dX6_find_123 : decode cX6_find 123 = .ok (.ireturn, 1) := by decide +kernel
theorem dX6_connect_0 : decode cX6_connect 0 = .ok (.iconst 0, 1) := by decide +kernel
theorem dX6_connect_1 : decode cX6_connect 1 = .ok (.istore 4, 2) := by decide +kernel
theorem dX6_connect_3 : decode cX6_connect 3 = .ok (.iload 4, 2) := by decide +kernel
theorem dX6_connect_5 : decode cX6_connect 5 = .ok (.bipush 10, 2) := by decide +kernel
theorem dX6_connect_7 : decode cX6_connect 7 = .ok (.if_icmp .ge 29, 3) := by decide +kernel
theorem dX6_connect_10 : decode cX6_connect 10 = .ok (.aload_n 0, 1) := by decide +kernel
theorem dX6_connect_11 : decode cX6_connect 11 = .ok (.getfield 19, 3) := by decide +kernel
theorem dX6_connect_14 : decode cX6_connect 14 = .ok (.iload_n 1, 1) := by decide +kernel
theorem dX6_connect_15 : decode cX6_connect 15 = .ok (.aaload, 1) := by decide +kernel
theorem dX6_connect_16 : decode cX6_connect 16 = .ok (.iload 4, 2) := by decide +kernel
theorem dX6_connect_18 : decode cX6_connect 18 = .ok (.iconst 0, 1) := by decide +kernel
theorem dX6_connect_19 : decode cX6_connect 19 = .ok (.iastore, 1) := by decide +kernel
theorem dX6_connect_20 : decode cX6_connect 20 = .ok (.aload_n 0, 1) := by decide +kernel
theorem dX6_connect_21 : decode cX6_connect 21 = .ok (.getfield 22, 3) := by decide +kernel
theorem dX6_connect_24 : decode cX6_connect 24 = .ok (.iload_n 1, 1) := by decide +kernel
theorem dX6_connect_25 : decode cX6_connect 25 = .ok (.aaload, 1) := by decide +kernel
theorem dX6_connect_26 : decode cX6_connect 26 = .ok (.iload 4, 2) := by decide +kernel
theorem dX6_connect_28 : decode cX6_connect 28 = .ok (.iconst 0, 1) := by decide +kernel
theorem dX6_connect_29 : decode cX6_connect 29 = .ok (.iastore, 1) := by decide +kernel
theorem dX6_connect_30 : decode cX6_connect 30 = .ok (.iinc 4 1, 3) := by decide +kernel
theorem dX6_connect_33 : decode cX6_connect 33 = .ok (.goto (-30), 3) := by decide +kernel
theorem dX6_connect_36 : decode cX6_connect 36 = .ok (.iconst 0, 1) := by decide +kernel
theorem dX6_connect_37 : decode cX6_connect 37 = .ok (.istore 4, 2) := by decide +kernel
theorem dX6_connect_39 : decode cX6_connect 39 = .ok (.iload 4, 2) := by decide +kernel
theorem dX6_connect_41 : decode cX6_connect 41 = .ok (.aload_n 2, 1) := by decide +kernel
theorem dX6_connect_42 : decode cX6_connect 42 = .ok (.getfield 70, 3) := by decide +kernel
theorem dX6_connect_45 : decode cX6_connect 45 = .ok (.if_icmp .ge 106, 3) := by decide +kernel
theorem dX6_connect_48 : decode cX6_connect 48 = .ok (.aload_n 2, 1) := by decide +kernel
theorem dX6_connect_49 : decode cX6_connect 49 = .ok (.getfield 73, 3) := by decide +kernel
theorem dX6_connect_52 : decode cX6_connect 52 = .ok (.iload 4, 2) := by decide +kernel
theorem dX6_connect_54 : decode cX6_connect 54 = .ok (.iaload, 1) := by decide +kernel
theorem dX6_connect_55 : decode cX6_connect 55 = .ok (.istore 5, 2) := by decide +kernel
theorem dX6_connect_57 : decode cX6_connect 57 = .ok (.aload_n 2, 1) := by decide +kernel
theorem dX6_connect_58 : decode cX6_connect 58 = .ok (.getfield 77, 3) := by decide +kernel
theorem dX6_connect_61 : decode cX6_connect 61 = .ok (.iload 4, 2) := by decide +kernel
theorem dX6_connect_63 : decode cX6_connect 63 = .ok (.iaload, 1) := by decide +kernel
theorem dX6_connect_64 : decode cX6_connect 64 = .ok (.istore 6, 2) := by decide +kernel
theorem dX6_connect_66 : decode cX6_connect 66 = .ok (.iload_n 3, 1) := by decide +kernel
theorem dX6_connect_67 : decode cX6_connect 67 = .ok (.iload 4, 2) := by decide +kernel
theorem dX6_connect_69 : decode cX6_connect 69 = .ok (.invokestatic 80, 3) := by decide +kernel
theorem dX6_connect_72 : decode cX6_connect 72 = .ok (.ifCond .eq 32, 3) := by decide +kernel
theorem dX6_connect_75 : decode cX6_connect 75 = .ok (.aload_n 2, 1) := by decide +kernel
theorem dX6_connect_76 : decode cX6_connect 76 = .ok (.getfield 84, 3) := by decide +kernel
theorem dX6_connect_79 : decode cX6_connect 79 = .ok (.iload 4, 2) := by decide +kernel
theorem dX6_connect_81 : decode cX6_connect 81 = .ok (.baload, 1) := by decide +kernel
theorem dX6_connect_82 : decode cX6_connect 82 = .ok (.ifCond .eq 22, 3) := by decide +kernel
theorem dX6_connect_85 : decode cX6_connect 85 = .ok (.aload_n 0, 1) := by decide +kernel
theorem dX6_connect_86 : decode cX6_connect 86 = .ok (.getfield 19, 3) := by decide +kernel
theorem dX6_connect_89 : decode cX6_connect 89 = .ok (.iload_n 1, 1) := by decide +kernel
theorem dX6_connect_90 : decode cX6_connect 90 = .ok (.aaload, 1) := by decide +kernel
theorem dX6_connect_91 : decode cX6_connect 91 = .ok (.iload 6, 2) := by decide +kernel
theorem dX6_connect_93 : decode cX6_connect 93 = .ok (.dup2, 1) := by decide +kernel
theorem dX6_connect_94 : decode cX6_connect 94 = .ok (.iaload, 1) := by decide +kernel
theorem dX6_connect_95 : decode cX6_connect 95 = .ok (.iconst 1, 1) := by decide +kernel
theorem dX6_connect_96 : decode cX6_connect 96 = .ok (.iload 5, 2) := by decide +kernel
theorem dX6_connect_98 : decode cX6_connect 98 = .ok (.ishl, 1) := by decide +kernel
theorem dX6_connect_99 : decode cX6_connect 99 = .ok (.ior, 1) := by decide +kernel
theorem dX6_connect_100 : decode cX6_connect 100 = .ok (.iastore, 1) := by decide +kernel
theorem dX6_connect_101 : decode cX6_connect 101 = .ok (.goto 44, 3) := by decide +kernel
theorem dX6_connect_104 : decode cX6_connect 104 = .ok (.iload_n 3, 1) := by decide +kernel
theorem dX6_connect_105 : decode cX6_connect 105 = .ok (.iload 4, 2) := by decide +kernel
theorem dX6_connect_107 : decode cX6_connect 107 = .ok (.invokestatic 80, 3) := by decide +kernel
theorem dX6_connect_110 : decode cX6_connect 110 = .ok (.ifCond .eq 35, 3) := by decide +kernel
theorem dX6_connect_113 : decode cX6_connect 113 = .ok (.aload_n 0, 1) := by decide +kernel
theorem dX6_connect_114 : decode cX6_connect 114 = .ok (.getfield 22, 3) := by decide +kernel
theorem dX6_connect_117 : decode cX6_connect 117 = .ok (.iload_n 1, 1) := by decide +kernel
theorem dX6_connect_118 : decode cX6_connect 118 = .ok (.aaload, 1) := by decide +kernel
theorem dX6_connect_119 : decode cX6_connect 119 = .ok (.iload 5, 2) := by decide +kernel
theorem dX6_connect_121 : decode cX6_connect 121 = .ok (.dup2, 1) := by decide +kernel
theorem dX6_connect_122 : decode cX6_connect 122 = .ok (.iaload, 1) := by decide +kernel
theorem dX6_connect_123 : decode cX6_connect 123 = .ok (.iconst 1, 1) := by decide +kernel
theorem dX6_connect_124 : decode cX6_connect 124 = .ok (.iload 6, 2) := by decide +kernel
theorem dX6_connect_126 : decode cX6_connect 126 = .ok (.ishl, 1) := by decide +kernel
theorem dX6_connect_127 : decode cX6_connect 127 = .ok (.ior, 1) := by decide +kernel
theorem dX6_connect_128 : decode cX6_connect 128 = .ok (.iastore, 1) := by decide +kernel
theorem dX6_connect_129 : decode cX6_connect 129 = .ok (.aload_n 0, 1) := by decide +kernel
theorem dX6_connect_130 : decode cX6_connect 130 = .ok (.getfield 22, 3) := by decide +kernel
theorem dX6_connect_133 : decode cX6_connect 133 = .ok (.iload_n 1, 1) := by decide +kernel
theorem dX6_connect_134 : decode cX6_connect 134 = .ok (.aaload, 1) := by decide +kernel
theorem dX6_connect_135 : decode cX6_connect 135 = .ok (.iload 6, 2) := by decide +kernel
theorem dX6_connect_137 : decode cX6_connect 137 = .ok (.dup2, 1) := by decide +kernel
theorem dX6_connect_138 : decode cX6_connect 138 = .ok (.iaload, 1) := by decide +kernel
theorem dX6_connect_139 : decode cX6_connect 139 = .ok (.iconst 1, 1) := by decide +kernel
theorem dX6_connect_140 : decode cX6_connect 140 = .ok (.iload 5, 2) := by decide +kernel
theorem dX6_connect_142 : decode cX6_connect 142 = .ok (.ishl, 1) := by decide +kernel
theorem dX6_connect_143 : decode cX6_connect 143 = .ok (.ior, 1) := by decide +kernel
theorem dX6_connect_144 : decode cX6_connect 144 = .ok (.iastore, 1) := by decide +kernel
theorem dX6_connect_145 : decode cX6_connect 145 = .ok (.iinc 4 1, 3) := by decide +kernel
theorem dX6_connect_148 : decode cX6_connect 148 = .ok (.goto (-109), 3) := by decide +kernel
theorem dX6_connect_151 : decode cX6_connect 151 = .ok (.return_, 1) := by decide +kernel
theorem dX6_canEnd_0 : decode cX6_canEnd 0 = .ok (.aload_n 0, 1) := by decide +kernel
theorem dX6_canEnd_1 : decode cX6_canEnd 1 = .ok (.getfield 11, 3) := by decide +kernel
theorem dX6_canEnd_4 : decode cX6_canEnd 4 = .ok (.iload_n 1, 1) := by decide +kernel
theorem dX6_canEnd_5 : decode cX6_canEnd 5 = .ok (.aaload, 1) := by decide +kernel
theorem dX6_canEnd_6 : decode cX6_canEnd 6 = .ok (.invokevirtual 88, 3) := by decide +kernel
theorem dX6_canEnd_9 : decode cX6_canEnd 9 = .ok (.aload_n 0, 1) := by decide +kernel
theorem dX6_canEnd_10 : decode cX6_canEnd 10 = .ok (.getfield 29, 3) := by decide +kernel
theorem dX6_canEnd_13 : decode cX6_canEnd 13 = .ok (.iload_n 1, 1) := by decide +kernel
theorem dX6_canEnd_14 : decode cX6_canEnd 14 = .ok (.isub, 1) := by decide +kernel
theorem dX6_canEnd_15 : decode cX6_canEnd 15 = .ok (.if_icmp .le 5, 3) := by decide +kernel
theorem dX6_canEnd_18 : decode cX6_canEnd 18 = .ok (.iconst 0, 1) := by decide +kernel
theorem dX6_canEnd_19 : decode cX6_canEnd 19 = .ok (.ireturn, 1) := by decide +kernel
theorem dX6_canEnd_20 : decode cX6_canEnd 20 = .ok (.iload_n 1, 1) := by decide +kernel
theorem dX6_canEnd_21 : decode cX6_canEnd 21 = .ok (.aload_n 0, 1) := by decide +kernel
theorem dX6_canEnd_22 : decode cX6_canEnd 22 = .ok (.getfield 29, 3) := by decide +kernel
theorem dX6_canEnd_25 : decode cX6_canEnd 25 = .ok (.if_icmp .lt 5, 3) := by decide +kernel
theorem dX6_canEnd_28 : decode cX6_canEnd 28 = .ok (.iconst 1, 1) := by decide +kernel
theorem dX6_canEnd_29 : decode cX6_canEnd 29 = .ok (.ireturn, 1) := by decide +kernel
theorem dX6_canEnd_30 : decode cX6_canEnd 30 = .ok (.iload_n 1, 1) := by decide +kernel
theorem dX6_canEnd_31 : decode cX6_canEnd 31 = .ok (.aload_n 0, 1) := by decide +kernel
theorem dX6_canEnd_32 : decode cX6_canEnd 32 = .ok (.getfield 29, 3) := by decide +kernel
theorem dX6_canEnd_35 : decode cX6_canEnd 35 = .ok (.iconst 1, 1) := by decide +kernel
theorem dX6_canEnd_36 : decode cX6_canEnd 36 = .ok (.isub, 1) := by decide +kernel
theorem dX6_canEnd_37 : decode cX6_canEnd 37 = .ok (.if_icmp .lt 11, 3) := by decide +kernel
theorem dX6_canEnd_40 : decode cX6_canEnd 40 = .ok (.aload_n 0, 1) := by decide +kernel
theorem dX6_canEnd_41 : decode cX6_canEnd 41 = .ok (.iload_n 1, 1) := by decide +kernel
theorem dX6_canEnd_42 : decode cX6_canEnd 42 = .ok (.invokevirtual 92, 3) := by decide +kernel
theorem dX6_canEnd_45 : decode cX6_canEnd 45 = .ok (.ifCond .eq 18, 3) := by decide +kernel
theorem dX6_canEnd_48 : decode cX6_canEnd 48 = .ok (.aload_n 0, 1) := by decide +kernel
theorem dX6_canEnd_49 : decode cX6_canEnd 49 = .ok (.iload_n 1, 1) := by decide +kernel
theorem dX6_canEnd_50 : decode cX6_canEnd 50 = .ok (.iconst 0, 1) := by decide +kernel
theorem dX6_canEnd_51 : decode cX6_canEnd 51 = .ok (.iconst 0, 1) := by decide +kernel
theorem dX6_canEnd_52 : decode cX6_canEnd 52 = .ok (.iconst 0, 1) := by decide +kernel
theorem dX6_canEnd_53 : decode cX6_canEnd 53 = .ok (.invokevirtual 95, 3) := by decide +kernel
theorem dX6_canEnd_56 : decode cX6_canEnd 56 = .ok (.ifCond .eq 7, 3) := by decide +kernel
theorem dX6_canEnd_59 : decode cX6_canEnd 59 = .ok (.iconst 1, 1) := by decide +kernel
theorem dX6_canEnd_60 : decode cX6_canEnd 60 = .ok (.goto 4, 3) := by decide +kernel
theorem dX6_canEnd_63 : decode cX6_canEnd 63 = .ok (.iconst 0, 1) := by decide +kernel
theorem dX6_canEnd_64 : decode cX6_canEnd 64 = .ok (.ireturn, 1) := by decide +kernel
theorem dX6_allCanLearnTheRest_0 : decode cX6_allCanLearnTheRest 0 = .ok (.iconst 0, 1) := by decide +kernel
theorem dX6_allCanLearnTheRest_1 : decode cX6_allCanLearnTheRest 1 = .ok (.istore_n 2, 1) := by decide +kernel
theorem dX6_allCanLearnTheRest_2 : decode cX6_allCanLearnTheRest 2 = .ok (.iload_n 2, 1) := by decide +kernel
theorem dX6_allCanLearnTheRest_3 : decode cX6_allCanLearnTheRest 3 = .ok (.aload_n 0, 1) := by decide +kernel
theorem dX6_allCanLearnTheRest_4 : decode cX6_allCanLearnTheRest 4 = .ok (.getfield 25, 3) := by decide +kernel
theorem dX6_allCanLearnTheRest_7 : decode cX6_allCanLearnTheRest 7 = .ok (.if_icmp .ge 20, 3) := by decide +kernel
theorem dX6_allCanLearnTheRest_10 : decode cX6_allCanLearnTheRest 10 = .ok (.aload_n 0, 1) := by decide +kernel
theorem dX6_allCanLearnTheRest_11 : decode cX6_allCanLearnTheRest 11 = .ok (.iload_n 1, 1) := by decide +kernel
theorem dX6_allCanLearnTheRest_12 : decode cX6_allCanLearnTheRest 12 = .ok (.iload_n 2, 1) := by decide +kernel
theorem dX6_allCanLearnTheRest_13 : decode cX6_allCanLearnTheRest 13 = .ok (.invokevirtual 99, 3) := by decide +kernel
theorem dX6_allCanLearnTheRest_16 : decode cX6_allCanLearnTheRest 16 = .ok (.ifCond .ne 5, 3) := by decide +kernel
theorem dX6_allCanLearnTheRest_19 : decode cX6_allCanLearnTheRest 19 = .ok (.iconst 0, 1) := by decide +kernel
theorem dX6_allCanLearnTheRest_20 : decode cX6_allCanLearnTheRest 20 = .ok (.ireturn, 1) := by decide +kernel
theorem dX6_allCanLearnTheRest_21 : decode cX6_allCanLearnTheRest 21 = .ok (.iinc 2 1, 3) := by decide +kernel
theorem dX6_allCanLearnTheRest_24 : decode cX6_allCanLearnTheRest 24 = .ok (.goto (-22), 3) := by decide +kernel
theorem dX6_allCanLearnTheRest_27 : decode cX6_allCanLearnTheRest 27 = .ok (.iconst 1, 1) := by decide +kernel
theorem dX6_allCanLearnTheRest_28 : decode cX6_allCanLearnTheRest 28 = .ok (.ireturn, 1) := by decide +kernel
theorem dX6_canLearnTheRest_0 : decode cX6_canLearnTheRest 0 = .ok (.aload_n 0, 1) := by decide +kernel
theorem dX6_canLearnTheRest_1 : decode cX6_canLearnTheRest 1 = .ok (.getfield 11, 3) := by decide +kernel
theorem dX6_canLearnTheRest_4 : decode cX6_canLearnTheRest 4 = .ok (.iload_n 1, 1) := by decide +kernel
theorem dX6_canLearnTheRest_5 : decode cX6_canLearnTheRest 5 = .ok (.aaload, 1) := by decide +kernel
theorem dX6_canLearnTheRest_6 : decode cX6_canLearnTheRest 6 = .ok (.getfield 102, 3) := by decide +kernel
theorem dX6_canLearnTheRest_9 : decode cX6_canLearnTheRest 9 = .ok (.astore_n 3, 1) := by decide +kernel
theorem dX6_canLearnTheRest_10 : decode cX6_canLearnTheRest 10 = .ok (.iconst 1, 1) := by decide +kernel
theorem dX6_canLearnTheRest_11 : decode cX6_canLearnTheRest 11 = .ok (.aload_n 0, 1) := by decide +kernel
theorem dX6_canLearnTheRest_12 : decode cX6_canLearnTheRest 12 = .ok (.getfield 25, 3) := by decide +kernel
theorem dX6_canLearnTheRest_15 : decode cX6_canLearnTheRest 15 = .ok (.ishl, 1) := by decide +kernel
theorem dX6_canLearnTheRest_16 : decode cX6_canLearnTheRest 16 = .ok (.iconst 1, 1) := by decide +kernel
theorem dX6_canLearnTheRest_17 : decode cX6_canLearnTheRest 17 = .ok (.isub, 1) := by decide +kernel
theorem dX6_canLearnTheRest_18 : decode cX6_canLearnTheRest 18 = .ok (.istore 4, 2) := by decide +kernel
theorem dX6_canLearnTheRest_20 : decode cX6_canLearnTheRest 20 = .ok (.aload_n 0, 1) := by decide +kernel
theorem dX6_canLearnTheRest_21 : decode cX6_canLearnTheRest 21 = .ok (.getfield 22, 3) := by decide +kernel
theorem dX6_canLearnTheRest_24 : decode cX6_canLearnTheRest 24 = .ok (.iload_n 1, 1) := by decide +kernel
theorem dX6_canLearnTheRest_25 : decode cX6_canLearnTheRest 25 = .ok (.aaload, 1) := by decide +kernel
theorem dX6_canLearnTheRest_26 : decode cX6_canLearnTheRest 26 = .ok (.iload_n 2, 1) := by decide +kernel
theorem dX6_canLearnTheRest_27 : decode cX6_canLearnTheRest 27 = .ok (.iaload, 1) := by decide +kernel
theorem dX6_canLearnTheRest_28 : decode cX6_canLearnTheRest 28 = .ok (.aload_n 0, 1) := by decide +kernel
theorem dX6_canLearnTheRest_29 : decode cX6_canLearnTheRest 29 = .ok (.getfield 19, 3) := by decide +kernel
theorem dX6_canLearnTheRest_32 : decode cX6_canLearnTheRest 32 = .ok (.iload_n 1, 1) := by decide +kernel
theorem dX6_canLearnTheRest_33 : decode cX6_canLearnTheRest 33 = .ok (.aaload, 1) := by decide +kernel
theorem dX6_canLearnTheRest_34 : decode cX6_canLearnTheRest 34 = .ok (.iload_n 2, 1) := by decide +kernel
theorem dX6_canLearnTheRest_35 : decode cX6_canLearnTheRest 35 = .ok (.iaload, 1) := by decide +kernel
theorem dX6_canLearnTheRest_36 : decode cX6_canLearnTheRest 36 = .ok (.ior, 1) := by decide +kernel
theorem dX6_canLearnTheRest_37 : decode cX6_canLearnTheRest 37 = .ok (.iconst 1, 1) := by decide +kernel
theorem dX6_canLearnTheRest_38 : decode cX6_canLearnTheRest 38 = .ok (.iload_n 2, 1) := by decide +kernel
theorem dX6_canLearnTheRest_39 : decode cX6_canLearnTheRest 39 = .ok (.ishl, 1) := by decide +kernel
theorem dX6_canLearnTheRest_40 : decode cX6_canLearnTheRest 40 = .ok (.ior, 1) := by decide +kernel
theorem dX6_canLearnTheRest_41 : decode cX6_canLearnTheRest 41 = .ok (.istore 5, 2) := by decide +kernel
theorem dX6_canLearnTheRest_43 : decode cX6_canLearnTheRest 43 = .ok (.iconst 0, 1) := by decide +kernel
theorem dX6_canLearnTheRest_44 : decode cX6_canLearnTheRest 44 = .ok (.istore 6, 2) := by decide +kernel
theorem dX6_canLearnTheRest_46 : decode cX6_canLearnTheRest 46 = .ok (.iload 6, 2) := by decide +kernel
theorem dX6_canLearnTheRest_48 : decode cX6_canLearnTheRest 48 = .ok (.aload_n 0, 1) := by decide +kernel
theorem dX6_canLearnTheRest_49 : decode cX6_canLearnTheRest 49 = .ok (.getfield 25, 3) := by decide +kernel
theorem dX6_canLearnTheRest_52 : decode cX6_canLearnTheRest 52 = .ok (.if_icmp .ge 34, 3) := by decide +kernel
theorem dX6_canLearnTheRest_55 : decode cX6_canLearnTheRest 55 = .ok (.iload 5, 2) := by decide +kernel
theorem dX6_canLearnTheRest_57 : decode cX6_canLearnTheRest 57 = .ok (.iload 6, 2) := by decide +kernel
theorem dX6_canLearnTheRest_59 : decode cX6_canLearnTheRest 59 = .ok (.invokestatic 80, 3) := by decide +kernel
theorem dX6_canLearnTheRest_62 : decode cX6_canLearnTheRest 62 = .ok (.ifCond .eq 18, 3) := by decide +kernel
theorem dX6_canLearnTheRest_65 : decode cX6_canLearnTheRest 65 = .ok (.aload_n 3, 1) := by decide +kernel
theorem dX6_canLearnTheRest_66 : decode cX6_canLearnTheRest 66 = .ok (.iload_n 2, 1) := by decide +kernel
theorem dX6_canLearnTheRest_67 : decode cX6_canLearnTheRest 67 = .ok (.iaload, 1) := by decide +kernel
theorem dX6_canLearnTheRest_68 : decode cX6_canLearnTheRest 68 = .ok (.aload_n 3, 1) := by decide +kernel
theorem dX6_canLearnTheRest_69 : decode cX6_canLearnTheRest 69 = .ok (.iload 6, 2) := by decide +kernel
theorem dX6_canLearnTheRest_71 : decode cX6_canLearnTheRest 71 = .ok (.iaload, 1) := by decide +kernel
theorem dX6_canLearnTheRest_72 : decode cX6_canLearnTheRest 72 = .ok (.ior, 1) := by decide +kernel
theorem dX6_canLearnTheRest_73 : decode cX6_canLearnTheRest 73 = .ok (.iload 4, 2) := by decide +kernel
theorem dX6_canLearnTheRest_75 : decode cX6_canLearnTheRest 75 = .ok (.if_icmp .ne 5, 3) := by decide +kernel
theorem dX6_canLearnTheRest_78 : decode cX6_canLearnTheRest 78 = .ok (.iconst 1, 1) := by decide +kernel
theorem dX6_canLearnTheRest_79 : decode cX6_canLearnTheRest 79 = .ok (.ireturn, 1) := by decide +kernel
theorem dX6_canLearnTheRest_80 : decode cX6_canLearnTheRest 80 = .ok (.iinc 6 1, 3) := by decide +kernel
theorem dX6_canLearnTheRest_83 : decode cX6_canLearnTheRest 83 = .ok (.goto (-37), 3) := by decide +kernel
theorem dX6_canLearnTheRest_86 : decode cX6_canLearnTheRest 86 = .ok (.iconst 0, 1) := by decide +kernel
theorem dX6_canLearnTheRest_87 : decode cX6_canLearnTheRest 87 = .ok (.ireturn, 1) := by decide +kernel
theorem dX6_pairUp_0 : decode cX6_pairUp 0 = .ok (.iload_n 2, 1) := by decide +kernel
theorem dX6_pairUp_1 : decode cX6_pairUp 1 = .ok (.istore 5, 2) := by decide +kernel
theorem dX6_pairUp_3 : decode cX6_pairUp 3 = .ok (.iload 5, 2) := by decide +kernel
theorem dX6_pairUp_5 : decode cX6_pairUp 5 = .ok (.aload_n 0, 1) := by decide +kernel
theorem dX6_pairUp_6 : decode cX6_pairUp 6 = .ok (.getfield 25, 3) := by decide +kernel
theorem dX6_pairUp_9 : decode cX6_pairUp 9 = .ok (.if_icmp .ge 18, 3) := by decide +kernel
theorem dX6_pairUp_12 : decode cX6_pairUp 12 = .ok (.iload_n 3, 1) := by decide +kernel
theorem dX6_pairUp_13 : decode cX6_pairUp 13 = .ok (.iload 5, 2) := by decide +kernel
theorem dX6_pairUp_15 : decode cX6_pairUp 15 = .ok (.invokestatic 80, 3) := by decide +kernel
theorem dX6_pairUp_18 : decode cX6_pairUp 18 = .ok (.ifCond .eq 9, 3) := by decide +kernel
theorem dX6_pairUp_21 : decode cX6_pairUp 21 = .ok (.iinc 5 1, 3) := by decide +kernel
theorem dX6_pairUp_24 : decode cX6_pairUp 24 = .ok (.goto (-21), 3) := by decide +kernel
theorem dX6_pairUp_27 : decode cX6_pairUp 27 = .ok (.iload 5, 2) := by decide +kernel
theorem dX6_pairUp_29 : decode cX6_pairUp 29 = .ok (.aload_n 0, 1) := by decide +kernel
theorem dX6_pairUp_30 : decode cX6_pairUp 30 = .ok (.getfield 25, 3) := by decide +kernel
theorem dX6_pairUp_33 : decode cX6_pairUp 33 = .ok (.if_icmp .lt 11, 3) := by decide +kernel
theorem dX6_pairUp_36 : decode cX6_pairUp 36 = .ok (.aload_n 0, 1) := by decide +kernel
theorem dX6_pairUp_37 : decode cX6_pairUp 37 = .ok (.iload_n 1, 1) := by decide +kernel
theorem dX6_pairUp_38 : decode cX6_pairUp 38 = .ok (.iconst 1, 1) := by decide +kernel
theorem dX6_pairUp_39 : decode cX6_pairUp 39 = .ok (.iadd, 1) := by decide +kernel
theorem dX6_pairUp_40 : decode cX6_pairUp 40 = .ok (.invokevirtual 66, 3) := by decide +kernel
theorem dX6_pairUp_43 : decode cX6_pairUp 43 = .ok (.ireturn, 1) := by decide +kernel
theorem dX6_pairUp_44 : decode cX6_pairUp 44 = .ok (.iload 5, 2) := by decide +kernel
theorem dX6_pairUp_46 : decode cX6_pairUp 46 = .ok (.iconst 1, 1) := by decide +kernel
theorem dX6_pairUp_47 : decode cX6_pairUp 47 = .ok (.iadd, 1) := by decide +kernel
theorem dX6_pairUp_48 : decode cX6_pairUp 48 = .ok (.istore 6, 2) := by decide +kernel
theorem dX6_pairUp_50 : decode cX6_pairUp 50 = .ok (.iload 6, 2) := by decide +kernel
theorem dX6_pairUp_52 : decode cX6_pairUp 52 = .ok (.aload_n 0, 1) := by decide +kernel
theorem dX6_pairUp_53 : decode cX6_pairUp 53 = .ok (.getfield 25, 3) := by decide +kernel
theorem dX6_pairUp_56 : decode cX6_pairUp 56 = .ok (.if_icmp .ge 35, 3) := by decide +kernel
theorem dX6_pairUp_59 : decode cX6_pairUp 59 = .ok (.iload_n 3, 1) := by decide +kernel
theorem dX6_pairUp_60 : decode cX6_pairUp 60 = .ok (.iload 6, 2) := by decide +kernel
theorem dX6_pairUp_62 : decode cX6_pairUp 62 = .ok (.invokestatic 80, 3) := by decide +kernel
theorem dX6_pairUp_65 : decode cX6_pairUp 65 = .ok (.ifCond .ne 20, 3) := by decide +kernel
theorem dX6_pairUp_68 : decode cX6_pairUp 68 = .ok (.aload_n 0, 1) := by decide +kernel
theorem dX6_pairUp_69 : decode cX6_pairUp 69 = .ok (.iload_n 1, 1) := by decide +kernel
theorem dX6_pairUp_70 : decode cX6_pairUp 70 = .ok (.iload 5, 2) := by decide +kernel
theorem dX6_pairUp_72 : decode cX6_pairUp 72 = .ok (.iload 6, 2) := by decide +kernel
theorem dX6_pairUp_74 : decode cX6_pairUp 74 = .ok (.iload_n 3, 1) := by decide +kernel
theorem dX6_pairUp_75 : decode cX6_pairUp 75 = .ok (.iload 4, 2) := by decide +kernel
theorem dX6_pairUp_77 : decode cX6_pairUp 77 = .ok (.invokevirtual 105, 3) := by decide +kernel
theorem dX6_pairUp_80 : decode cX6_pairUp 80 = .ok (.ifCond .eq 5, 3) := by decide +kernel
theorem dX6_pairUp_83 : decode cX6_pairUp 83 = .ok (.iconst 1, 1) := by decide +kernel
theorem dX6_pairUp_84 : decode cX6_pairUp 84 = .ok (.ireturn, 1) := by decide +kernel
theorem dX6_pairUp_85 : decode cX6_pairUp 85 = .ok (.iinc 6 1, 3) := by decide +kernel
theorem dX6_pairUp_88 : decode cX6_pairUp 88 = .ok (.goto (-38), 3) := by decide +kernel
theorem dX6_pairUp_91 : decode cX6_pairUp 91 = .ok (.aload_n 0, 1) := by decide +kernel
theorem dX6_pairUp_92 : decode cX6_pairUp 92 = .ok (.iload_n 1, 1) := by decide +kernel
theorem dX6_pairUp_93 : decode cX6_pairUp 93 = .ok (.iload 5, 2) := by decide +kernel
theorem dX6_pairUp_95 : decode cX6_pairUp 95 = .ok (.iload_n 3, 1) := by decide +kernel
theorem dX6_pairUp_96 : decode cX6_pairUp 96 = .ok (.iload 4, 2) := by decide +kernel
theorem dX6_pairUp_98 : decode cX6_pairUp 98 = .ok (.invokevirtual 109, 3) := by decide +kernel
theorem dX6_pairUp_101 : decode cX6_pairUp 101 = .ok (.ireturn, 1) := by decide +kernel
theorem dX6_tryPair_0 : decode cX6_tryPair 0 = .ok (.aload_n 0, 1) := by decide +kernel
theorem dX6_tryPair_1 : decode cX6_tryPair 1 = .ok (.getfield 11, 3) := by decide +kernel
theorem dX6_tryPair_4 : decode cX6_tryPair 4 = .ok (.iload_n 1, 1) := by decide +kernel
theorem dX6_tryPair_5 : decode cX6_tryPair 5 = .ok (.aaload, 1) := by decide +kernel
theorem dX6_tryPair_6 : decode cX6_tryPair 6 = .ok (.getfield 102, 3) := by decide +kernel
theorem dX6_tryPair_9 : decode cX6_tryPair 9 = .ok (.iload_n 2, 1) := by decide +kernel
theorem dX6_tryPair_10 : decode cX6_tryPair 10 = .ok (.iaload, 1) := by decide +kernel
theorem dX6_tryPair_11 : decode cX6_tryPair 11 = .ok (.istore 6, 2) := by decide +kernel
theorem dX6_tryPair_13 : decode cX6_tryPair 13 = .ok (.aload_n 0, 1) := by decide +kernel
theorem dX6_tryPair_14 : decode cX6_tryPair 14 = .ok (.getfield 11, 3) := by decide +kernel
theorem dX6_tryPair_17 : decode cX6_tryPair 17 = .ok (.iload_n 1, 1) := by decide +kernel
theorem dX6_tryPair_18 : decode cX6_tryPair 18 = .ok (.aaload, 1) := by decide +kernel
theorem dX6_tryPair_19 : decode cX6_tryPair 19 = .ok (.getfield 102, 3) := by decide +kernel
theorem dX6_tryPair_22 : decode cX6_tryPair 22 = .ok (.iload_n 3, 1) := by decide +kernel
theorem dX6_tryPair_23 : decode cX6_tryPair 23 = .ok (.iaload, 1) := by decide +kernel
theorem dX6_tryPair_24 : decode cX6_tryPair 24 = .ok (.istore 7, 2) := by decide +kernel
theorem dX6_tryPair_26 : decode cX6_tryPair 26 = .ok (.aload_n 0, 1) := by decide +kernel
theorem dX6_tryPair_27 : decode cX6_tryPair 27 = .ok (.getfield 11, 3) := by decide +kernel
theorem dX6_tryPair_30 : decode cX6_tryPair 30 = .ok (.iload_n 1, 1) := by decide +kernel
theorem dX6_tryPair_31 : decode cX6_tryPair 31 = .ok (.iconst 1, 1) := by decide +kernel
theorem dX6_tryPair_32 : decode cX6_tryPair 32 = .ok (.iadd, 1) := by decide +kernel
theorem dX6_tryPair_33 : decode cX6_tryPair 33 = .ok (.aaload, 1) := by decide +kernel
theorem dX6_tryPair_34 : decode cX6_tryPair 34 = .ok (.getfield 102, 3) := by decide +kernel
theorem dX6_tryPair_37 : decode cX6_tryPair 37 = .ok (.astore 8, 2) := by decide +kernel
theorem dX6_tryPair_39 : decode cX6_tryPair 39 = .ok (.iload 4, 2) := by decide +kernel
theorem dX6_tryPair_41 : decode cX6_tryPair 41 = .ok (.iconst 1, 1) := by decide +kernel
theorem dX6_tryPair_42 : decode cX6_tryPair 42 = .ok (.iload_n 3, 1) := by decide +kernel
theorem dX6_tryPair_43 : decode cX6_tryPair 43 = .ok (.ishl, 1) := by decide +kernel
theorem dX6_tryPair_44 : decode cX6_tryPair 44 = .ok (.ior, 1) := by decide +kernel
theorem dX6_tryPair_45 : decode cX6_tryPair 45 = .ok (.istore 9, 2) := by decide +kernel
theorem dX6_tryPair_47 : decode cX6_tryPair 47 = .ok (.aload 8, 2) := by decide +kernel
theorem dX6_tryPair_49 : decode cX6_tryPair 49 = .ok (.iload_n 2, 1) := by decide +kernel
theorem dX6_tryPair_50 : decode cX6_tryPair 50 = .ok (.iload 6, 2) := by decide +kernel
theorem dX6_tryPair_52 : decode cX6_tryPair 52 = .ok (.iload 7, 2) := by decide +kernel
theorem dX6_tryPair_54 : decode cX6_tryPair 54 = .ok (.ior, 1) := by decide +kernel
theorem dX6_tryPair_55 : decode cX6_tryPair 55 = .ok (.iastore, 1) := by decide +kernel
theorem dX6_tryPair_56 : decode cX6_tryPair 56 = .ok (.aload 8, 2) := by decide +kernel
theorem dX6_tryPair_58 : decode cX6_tryPair 58 = .ok (.iload_n 3, 1) := by decide +kernel
theorem dX6_tryPair_59 : decode cX6_tryPair 59 = .ok (.iload 6, 2) := by decide +kernel
theorem dX6_tryPair_61 : decode cX6_tryPair 61 = .ok (.iload 7, 2) := by decide +kernel
theorem dX6_tryPair_63 : decode cX6_tryPair 63 = .ok (.ior, 1) := by decide +kernel
theorem dX6_tryPair_64 : decode cX6_tryPair 64 = .ok (.iastore, 1) := by decide +kernel
theorem dX6_tryPair_65 : decode cX6_tryPair 65 = .ok (.aload_n 0, 1) := by decide +kernel
theorem dX6_tryPair_66 : decode cX6_tryPair 66 = .ok (.getfield 22, 3) := by decide +kernel
theorem dX6_tryPair_69 : decode cX6_tryPair 69 = .ok (.iload_n 1, 1) := by decide +kernel
theorem dX6_tryPair_70 : decode cX6_tryPair 70 = .ok (.aaload, 1) := by decide +kernel
theorem dX6_tryPair_71 : decode cX6_tryPair 71 = .ok (.iload_n 2, 1) := by decide +kernel
theorem dX6_tryPair_72 : decode cX6_tryPair 72 = .ok (.iaload, 1) := by decide +kernel
theorem dX6_tryPair_73 : decode cX6_tryPair 73 = .ok (.iload_n 3, 1) := by decide +kernel
theorem dX6_tryPair_74 : decode cX6_tryPair 74 = .ok (.invokestatic 80, 3) := by decide +kernel
theorem dX6_tryPair_77 : decode cX6_tryPair 77 = .ok (.ifCond .eq 15, 3) := by decide +kernel
theorem dX6_tryPair_80 : decode cX6_tryPair 80 = .ok (.aload_n 0, 1) := by decide +kernel
theorem dX6_tryPair_81 : decode cX6_tryPair 81 = .ok (.iload_n 1, 1) := by decide +kernel
theorem dX6_tryPair_82 : decode cX6_tryPair 82 = .ok (.iload_n 2, 1) := by decide +kernel
theorem dX6_tryPair_83 : decode cX6_tryPair 83 = .ok (.iload_n 3, 1) := by decide +kernel
theorem dX6_tryPair_84 : decode cX6_tryPair 84 = .ok (.iload 9, 2) := by decide +kernel
theorem dX6_tryPair_86 : decode cX6_tryPair 86 = .ok (.iload 5, 2) := by decide +kernel
theorem dX6_tryPair_88 : decode cX6_tryPair 88 = .ok (.invokevirtual 112, 3) := by decide +kernel
theorem dX6_tryPair_91 : decode cX6_tryPair 91 = .ok (.ireturn, 1) := by decide +kernel
theorem dX6_tryPair_92 : decode cX6_tryPair 92 = .ok (.aload 8, 2) := by decide +kernel
theorem dX6_tryPair_94 : decode cX6_tryPair 94 = .ok (.iload_n 2, 1) := by decide +kernel
theorem dX6_tryPair_95 : decode cX6_tryPair 95 = .ok (.iload 6, 2) := by decide +kernel
theorem dX6_tryPair_97 : decode cX6_tryPair 97 = .ok (.iastore, 1) := by decide +kernel
theorem dX6_tryPair_98 : decode cX6_tryPair 98 = .ok (.aload_n 0, 1) := by decide +kernel
theorem dX6_tryPair_99 : decode cX6_tryPair 99 = .ok (.getfield 19, 3) := by decide +kernel
theorem dX6_tryPair_102 : decode cX6_tryPair 102 = .ok (.iload_n 1, 1) := by decide +kernel
theorem dX6_tryPair_103 : decode cX6_tryPair 103 = .ok (.aaload, 1) := by decide +kernel
theorem dX6_tryPair_104 : decode cX6_tryPair 104 = .ok (.iload_n 3, 1) := by decide +kernel
theorem dX6_tryPair_105 : decode cX6_tryPair 105 = .ok (.iaload, 1) := by decide +kernel
theorem dX6_tryPair_106 : decode cX6_tryPair 106 = .ok (.iload_n 2, 1) := by decide +kernel
theorem dX6_tryPair_107 : decode cX6_tryPair 107 = .ok (.invokestatic 80, 3) := by decide +kernel
theorem dX6_tryPair_110 : decode cX6_tryPair 110 = .ok (.ifCond .eq 19, 3) := by decide +kernel
theorem dX6_tryPair_113 : decode cX6_tryPair 113 = .ok (.aload_n 0, 1) := by decide +kernel
theorem dX6_tryPair_114 : decode cX6_tryPair 114 = .ok (.iload_n 1, 1) := by decide +kernel
theorem dX6_tryPair_115 : decode cX6_tryPair 115 = .ok (.iload_n 2, 1) := by decide +kernel
theorem dX6_tryPair_116 : decode cX6_tryPair 116 = .ok (.iload_n 3, 1) := by decide +kernel
theorem dX6_tryPair_117 : decode cX6_tryPair 117 = .ok (.iload 9, 2) := by decide +kernel
theorem dX6_tryPair_119 : decode cX6_tryPair 119 = .ok (.iload 5, 2) := by decide +kernel
theorem dX6_tryPair_121 : decode cX6_tryPair 121 = .ok (.invokevirtual 112, 3) := by decide +kernel
theorem dX6_tryPair_124 : decode cX6_tryPair 124 = .ok (.ifCond .eq 5, 3) := by decide +kernel
theorem dX6_tryPair_127 : decode cX6_tryPair 127 = .ok (.iconst 1, 1) := by decide +kernel
theorem dX6_tryPair_128 : decode cX6_tryPair 128 = .ok (.ireturn, 1) := by decide +kernel
theorem dX6_tryPair_129 : decode cX6_tryPair 129 = .ok (.aload 8, 2) := by decide +kernel
theorem dX6_tryPair_131 : decode cX6_tryPair 131 = .ok (.iload_n 2, 1) := by decide +kernel
theorem dX6_tryPair_132 : decode cX6_tryPair 132 = .ok (.iload 6, 2) := by decide +kernel
theorem dX6_tryPair_134 : decode cX6_tryPair 134 = .ok (.iload 7, 2) := by decide +kernel
theorem dX6_tryPair_136 : decode cX6_tryPair 136 = .ok (.ior, 1) := by decide +kernel
theorem dX6_tryPair_137 : decode cX6_tryPair 137 = .ok (.iastore, 1) := by decide +kernel
theorem dX6_tryPair_138 : decode cX6_tryPair 138 = .ok (.aload 8, 2) := by decide +kernel
theorem dX6_tryPair_140 : decode cX6_tryPair 140 = .ok (.iload_n 3, 1) := by decide +kernel
theorem dX6_tryPair_141 : decode cX6_tryPair 141 = .ok (.iload 7, 2) := by decide +kernel
theorem dX6_tryPair_143 : decode cX6_tryPair 143 = .ok (.iastore, 1) := by decide +kernel
theorem dX6_tryPair_144 : decode cX6_tryPair 144 = .ok (.aload_n 0, 1) := by decide +kernel
theorem dX6_tryPair_145 : decode cX6_tryPair 145 = .ok (.getfield 19, 3) := by decide +kernel
theorem dX6_tryPair_148 : decode cX6_tryPair 148 = .ok (.iload_n 1, 1) := by decide +kernel
theorem dX6_tryPair_149 : decode cX6_tryPair 149 = .ok (.aaload, 1) := by decide +kernel
theorem dX6_tryPair_150 : decode cX6_tryPair 150 = .ok (.iload_n 2, 1) := by decide +kernel
theorem dX6_tryPair_151 : decode cX6_tryPair 151 = .ok (.iaload, 1) := by decide +kernel
theorem dX6_tryPair_152 : decode cX6_tryPair 152 = .ok (.iload_n 3, 1) := by decide +kernel
theorem dX6_tryPair_153 : decode cX6_tryPair 153 = .ok (.invokestatic 80, 3) := by decide +kernel
theorem dX6_tryPair_156 : decode cX6_tryPair 156 = .ok (.ifCond .eq 21, 3) := by decide +kernel
theorem dX6_tryPair_159 : decode cX6_tryPair 159 = .ok (.aload_n 0, 1) := by decide +kernel
theorem dX6_tryPair_160 : decode cX6_tryPair 160 = .ok (.iload_n 1, 1) := by decide +kernel
theorem dX6_tryPair_161 : decode cX6_tryPair 161 = .ok (.iload_n 2, 1) := by decide +kernel
theorem dX6_tryPair_162 : decode cX6_tryPair 162 = .ok (.iload_n 3, 1) := by decide +kernel
theorem dX6_tryPair_163 : decode cX6_tryPair 163 = .ok (.iload 9, 2) := by decide +kernel
theorem dX6_tryPair_165 : decode cX6_tryPair 165 = .ok (.iload 5, 2) := by decide +kernel
theorem dX6_tryPair_167 : decode cX6_tryPair 167 = .ok (.invokevirtual 112, 3) := by decide +kernel
theorem dX6_tryPair_170 : decode cX6_tryPair 170 = .ok (.ifCond .eq 7, 3) := by decide +kernel
theorem dX6_tryPair_173 : decode cX6_tryPair 173 = .ok (.iconst 1, 1) := by decide +kernel
theorem dX6_tryPair_174 : decode cX6_tryPair 174 = .ok (.goto 4, 3) := by decide +kernel
theorem dX6_tryPair_177 : decode cX6_tryPair 177 = .ok (.iconst 0, 1) := by decide +kernel
theorem dX6_tryPair_178 : decode cX6_tryPair 178 = .ok (.ireturn, 1) := by decide +kernel
theorem dX6_tryAlone_0 : decode cX6_tryAlone 0 = .ok (.aload_n 0, 1) := by decide +kernel
theorem dX6_tryAlone_1 : decode cX6_tryAlone 1 = .ok (.iload_n 1, 1) := by decide +kernel
theorem dX6_tryAlone_2 : decode cX6_tryAlone 2 = .ok (.iload_n 2, 1) := by decide +kernel
theorem dX6_tryAlone_3 : decode cX6_tryAlone 3 = .ok (.iload 4, 2) := by decide +kernel
theorem dX6_tryAlone_5 : decode cX6_tryAlone 5 = .ok (.invokevirtual 115, 3) := by decide +kernel
theorem dX6_tryAlone_8 : decode cX6_tryAlone 8 = .ok (.ifCond .eq 5, 3) := by decide +kernel
theorem dX6_tryAlone_11 : decode cX6_tryAlone 11 = .ok (.iconst 0, 1) := by decide +kernel
theorem dX6_tryAlone_12 : decode cX6_tryAlone 12 = .ok (.ireturn, 1) := by decide +kernel
theorem dX6_tryAlone_13 : decode cX6_tryAlone 13 = .ok (.aload_n 0, 1) := by decide +kernel
theorem dX6_tryAlone_14 : decode cX6_tryAlone 14 = .ok (.getfield 11, 3) := by decide +kernel
theorem dX6_tryAlone_17 : decode cX6_tryAlone 17 = .ok (.iload_n 1, 1) := by decide +kernel
theorem dX6_tryAlone_18 : decode cX6_tryAlone 18 = .ok (.iconst 1, 1) := by decide +kernel
theorem dX6_tryAlone_19 : decode cX6_tryAlone 19 = .ok (.iadd, 1) := by decide +kernel
theorem dX6_tryAlone_20 : decode cX6_tryAlone 20 = .ok (.aaload, 1) := by decide +kernel
theorem dX6_tryAlone_21 : decode cX6_tryAlone 21 = .ok (.getfield 102, 3) := by decide +kernel
theorem dX6_tryAlone_24 : decode cX6_tryAlone 24 = .ok (.iload_n 2, 1) := by decide +kernel
theorem dX6_tryAlone_25 : decode cX6_tryAlone 25 = .ok (.aload_n 0, 1) := by decide +kernel
theorem dX6_tryAlone_26 : decode cX6_tryAlone 26 = .ok (.getfield 11, 3) := by decide +kernel
theorem dX6_tryAlone_29 : decode cX6_tryAlone 29 = .ok (.iload_n 1, 1) := by decide +kernel
theorem dX6_tryAlone_30 : decode cX6_tryAlone 30 = .ok (.aaload, 1) := by decide +kernel
theorem dX6_tryAlone_31 : decode cX6_tryAlone 31 = .ok (.getfield 102, 3) := by decide +kernel
theorem dX6_tryAlone_34 : decode cX6_tryAlone 34 = .ok (.iload_n 2, 1) := by decide +kernel
theorem dX6_tryAlone_35 : decode cX6_tryAlone 35 = .ok (.iaload, 1) := by decide +kernel
theorem dX6_tryAlone_36 : decode cX6_tryAlone 36 = .ok (.iastore, 1) := by decide +kernel
theorem dX6_tryAlone_37 : decode cX6_tryAlone 37 = .ok (.aload_n 0, 1) := by decide +kernel
theorem dX6_tryAlone_38 : decode cX6_tryAlone 38 = .ok (.iload_n 1, 1) := by decide +kernel
theorem dX6_tryAlone_39 : decode cX6_tryAlone 39 = .ok (.iload_n 2, 1) := by decide +kernel
theorem dX6_tryAlone_40 : decode cX6_tryAlone 40 = .ok (.iload_n 2, 1) := by decide +kernel
theorem dX6_tryAlone_41 : decode cX6_tryAlone 41 = .ok (.iload_n 3, 1) := by decide +kernel
theorem dX6_tryAlone_42 : decode cX6_tryAlone 42 = .ok (.iload 4, 2) := by decide +kernel
theorem dX6_tryAlone_44 : decode cX6_tryAlone 44 = .ok (.iconst 1, 1) := by decide +kernel
theorem dX6_tryAlone_45 : decode cX6_tryAlone 45 = .ok (.iload_n 2, 1) := by decide +kernel
theorem dX6_tryAlone_46 : decode cX6_tryAlone 46 = .ok (.ishl, 1) := by decide +kernel
theorem dX6_tryAlone_47 : decode cX6_tryAlone 47 = .ok (.ior, 1) := by decide +kernel
theorem dX6_tryAlone_48 : decode cX6_tryAlone 48 = .ok (.invokevirtual 112, 3) := by decide +kernel
theorem dX6_tryAlone_51 : decode cX6_tryAlone 51 = .ok (.ireturn, 1) := by decide +kernel
theorem dX6_goOn_0 : decode cX6_goOn 0 = .ok (.aload_n 0, 1) := by decide +kernel
theorem dX6_goOn_1 : decode cX6_goOn 1 = .ok (.getfield 11, 3) := by decide +kernel
theorem dX6_goOn_4 : decode cX6_goOn 4 = .ok (.iload_n 1, 1) := by decide +kernel
theorem dX6_goOn_5 : decode cX6_goOn 5 = .ok (.iconst 1, 1) := by decide +kernel
theorem dX6_goOn_6 : decode cX6_goOn 6 = .ok (.iadd, 1) := by decide +kernel
theorem dX6_goOn_7 : decode cX6_goOn 7 = .ok (.aaload, 1) := by decide +kernel
theorem dX6_goOn_8 : decode cX6_goOn 8 = .ok (.getfield 102, 3) := by decide +kernel
theorem dX6_goOn_11 : decode cX6_goOn 11 = .ok (.iload_n 2, 1) := by decide +kernel
theorem dX6_goOn_12 : decode cX6_goOn 12 = .ok (.iaload, 1) := by decide +kernel
theorem dX6_goOn_13 : decode cX6_goOn 13 = .ok (.aload_n 0, 1) := by decide +kernel
theorem dX6_goOn_14 : decode cX6_goOn 14 = .ok (.getfield 11, 3) := by decide +kernel
theorem dX6_goOn_17 : decode cX6_goOn 17 = .ok (.iload_n 1, 1) := by decide +kernel
theorem dX6_goOn_18 : decode cX6_goOn 18 = .ok (.iconst 1, 1) := by decide +kernel
theorem dX6_goOn_19 : decode cX6_goOn 19 = .ok (.iadd, 1) := by decide +kernel
theorem dX6_goOn_20 : decode cX6_goOn 20 = .ok (.aaload, 1) := by decide +kernel
theorem dX6_goOn_21 : decode cX6_goOn 21 = .ok (.getfield 102, 3) := by decide +kernel
theorem dX6_goOn_24 : decode cX6_goOn 24 = .ok (.iload_n 3, 1) := by decide +kernel
theorem dX6_goOn_25 : decode cX6_goOn 25 = .ok (.iaload, 1) := by decide +kernel
theorem dX6_goOn_26 : decode cX6_goOn 26 = .ok (.iand, 1) := by decide +kernel
theorem dX6_goOn_27 : decode cX6_goOn 27 = .ok (.istore 6, 2) := by decide +kernel
theorem dX6_goOn_29 : decode cX6_goOn 29 = .ok (.iload_n 1, 1) := by decide +kernel
theorem dX6_goOn_30 : decode cX6_goOn 30 = .ok (.iconst 1, 1) := by decide +kernel
theorem dX6_goOn_31 : decode cX6_goOn 31 = .ok (.iadd, 1) := by decide +kernel
theorem dX6_goOn_32 : decode cX6_goOn 32 = .ok (.aload_n 0, 1) := by decide +kernel
theorem dX6_goOn_33 : decode cX6_goOn 33 = .ok (.getfield 29, 3) := by decide +kernel
theorem dX6_goOn_36 : decode cX6_goOn 36 = .ok (.if_icmp .lt 16, 3) := by decide +kernel
theorem dX6_goOn_39 : decode cX6_goOn 39 = .ok (.iload 6, 2) := by decide +kernel
theorem dX6_goOn_41 : decode cX6_goOn 41 = .ok (.iconst 1, 1) := by decide +kernel
theorem dX6_goOn_42 : decode cX6_goOn 42 = .ok (.aload_n 0, 1) := by decide +kernel
theorem dX6_goOn_43 : decode cX6_goOn 43 = .ok (.getfield 25, 3) := by decide +kernel
theorem dX6_goOn_46 : decode cX6_goOn 46 = .ok (.ishl, 1) := by decide +kernel
theorem dX6_goOn_47 : decode cX6_goOn 47 = .ok (.iconst 1, 1) := by decide +kernel
theorem dX6_goOn_48 : decode cX6_goOn 48 = .ok (.isub, 1) := by decide +kernel
theorem dX6_goOn_49 : decode cX6_goOn 49 = .ok (.if_icmp .ne 7, 3) := by decide +kernel
theorem dX6_goOn_52 : decode cX6_goOn 52 = .ok (.iconst 1, 1) := by decide +kernel
theorem dX6_goOn_53 : decode cX6_goOn 53 = .ok (.goto 4, 3) := by decide +kernel
theorem dX6_goOn_56 : decode cX6_goOn 56 = .ok (.iconst 0, 1) := by decide +kernel
theorem dX6_goOn_57 : decode cX6_goOn 57 = .ok (.istore 7, 2) := by decide +kernel
theorem dX6_goOn_59 : decode cX6_goOn 59 = .ok (.iload 7, 2) := by decide +kernel
theorem dX6_goOn_61 : decode cX6_goOn 61 = .ok (.ifCond .eq 22, 3) := by decide +kernel
theorem dX6_goOn_64 : decode cX6_goOn 64 = .ok (.aload_n 0, 1) := by decide +kernel
theorem dX6_goOn_65 : decode cX6_goOn 65 = .ok (.iload_n 1, 1) := by decide +kernel
theorem dX6_goOn_66 : decode cX6_goOn 66 = .ok (.iload_n 2, 1) := by decide +kernel
theorem dX6_goOn_67 : decode cX6_goOn 67 = .ok (.iconst 1, 1) := by decide +kernel
theorem dX6_goOn_68 : decode cX6_goOn 68 = .ok (.iadd, 1) := by decide +kernel
theorem dX6_goOn_69 : decode cX6_goOn 69 = .ok (.iload 4, 2) := by decide +kernel
theorem dX6_goOn_71 : decode cX6_goOn 71 = .ok (.iload 5, 2) := by decide +kernel
theorem dX6_goOn_73 : decode cX6_goOn 73 = .ok (.invokevirtual 95, 3) := by decide +kernel
theorem dX6_goOn_76 : decode cX6_goOn 76 = .ok (.ifCond .eq 7, 3) := by decide +kernel
theorem dX6_goOn_79 : decode cX6_goOn 79 = .ok (.iconst 1, 1) := by decide +kernel
theorem dX6_goOn_80 : decode cX6_goOn 80 = .ok (.goto 4, 3) := by decide +kernel
theorem dX6_goOn_83 : decode cX6_goOn 83 = .ok (.iconst 0, 1) := by decide +kernel
theorem dX6_goOn_84 : decode cX6_goOn 84 = .ok (.ireturn, 1) := by decide +kernel
theorem dX6_couldCall_0 : decode cX6_couldCall 0 = .ok (.iconst 0, 1) := by decide +kernel
theorem dX6_couldCall_1 : decode cX6_couldCall 1 = .ok (.istore 4, 2) := by decide +kernel
theorem dX6_couldCall_3 : decode cX6_couldCall 3 = .ok (.iload 4, 2) := by decide +kernel
theorem dX6_couldCall_5 : decode cX6_couldCall 5 = .ok (.aload_n 0, 1) := by decide +kernel
theorem dX6_couldCall_6 : decode cX6_couldCall 6 = .ok (.getfield 25, 3) := by decide +kernel
theorem dX6_couldCall_9 : decode cX6_couldCall 9 = .ok (.if_icmp .ge 36, 3) := by decide +kernel
theorem dX6_couldCall_12 : decode cX6_couldCall 12 = .ok (.iload_n 3, 1) := by decide +kernel
theorem dX6_couldCall_13 : decode cX6_couldCall 13 = .ok (.iload 4, 2) := by decide +kernel
theorem dX6_couldCall_15 : decode cX6_couldCall 15 = .ok (.invokestatic 80, 3) := by decide +kernel
theorem dX6_couldCall_18 : decode cX6_couldCall 18 = .ok (.ifCond .eq 21, 3) := by decide +kernel
theorem dX6_couldCall_21 : decode cX6_couldCall 21 = .ok (.aload_n 0, 1) := by decide +kernel
theorem dX6_couldCall_22 : decode cX6_couldCall 22 = .ok (.getfield 19, 3) := by decide +kernel
theorem dX6_couldCall_25 : decode cX6_couldCall 25 = .ok (.iload_n 1, 1) := by decide +kernel
theorem dX6_couldCall_26 : decode cX6_couldCall 26 = .ok (.aaload, 1) := by decide +kernel
theorem dX6_couldCall_27 : decode cX6_couldCall 27 = .ok (.iload 4, 2) := by decide +kernel
theorem dX6_couldCall_29 : decode cX6_couldCall 29 = .ok (.iaload, 1) := by decide +kernel
theorem dX6_couldCall_30 : decode cX6_couldCall 30 = .ok (.iload_n 2, 1) := by decide +kernel
theorem dX6_couldCall_31 : decode cX6_couldCall 31 = .ok (.invokestatic 80, 3) := by decide +kernel
theorem dX6_couldCall_34 : decode cX6_couldCall 34 = .ok (.ifCond .eq 5, 3) := by decide +kernel
theorem dX6_couldCall_37 : decode cX6_couldCall 37 = .ok (.iconst 1, 1) := by decide +kernel
theorem dX6_couldCall_38 : decode cX6_couldCall 38 = .ok (.ireturn, 1) := by decide +kernel
theorem dX6_couldCall_39 : decode cX6_couldCall 39 = .ok (.iinc 4 1, 3) := by decide +kernel
theorem dX6_couldCall_42 : decode cX6_couldCall 42 = .ok (.goto (-39), 3) := by decide +kernel
theorem dX6_couldCall_45 : decode cX6_couldCall 45 = .ok (.iload_n 3, 1) := by decide +kernel
theorem dX6_couldCall_46 : decode cX6_couldCall 46 = .ok (.aload_n 0, 1) := by decide +kernel
theorem dX6_couldCall_47 : decode cX6_couldCall 47 = .ok (.getfield 22, 3) := by decide +kernel
theorem dX6_couldCall_50 : decode cX6_couldCall 50 = .ok (.iload_n 1, 1) := by decide +kernel
theorem dX6_couldCall_51 : decode cX6_couldCall 51 = .ok (.aaload, 1) := by decide +kernel
theorem dX6_couldCall_52 : decode cX6_couldCall 52 = .ok (.iload_n 2, 1) := by decide +kernel
theorem dX6_couldCall_53 : decode cX6_couldCall 53 = .ok (.iaload, 1) := by decide +kernel
theorem dX6_couldCall_54 : decode cX6_couldCall 54 = .ok (.aload_n 0, 1) := by decide +kernel
theorem dX6_couldCall_55 : decode cX6_couldCall 55 = .ok (.getfield 19, 3) := by decide +kernel
theorem dX6_couldCall_58 : decode cX6_couldCall 58 = .ok (.iload_n 1, 1) := by decide +kernel
theorem dX6_couldCall_59 : decode cX6_couldCall 59 = .ok (.aaload, 1) := by decide +kernel
theorem dX6_couldCall_60 : decode cX6_couldCall 60 = .ok (.iload_n 2, 1) := by decide +kernel
theorem dX6_couldCall_61 : decode cX6_couldCall 61 = .ok (.iaload, 1) := by decide +kernel
theorem dX6_couldCall_62 : decode cX6_couldCall 62 = .ok (.ior, 1) := by decide +kernel
theorem dX6_couldCall_63 : decode cX6_couldCall 63 = .ok (.iand, 1) := by decide +kernel
theorem dX6_couldCall_64 : decode cX6_couldCall 64 = .ok (.ifCond .eq 7, 3) := by decide +kernel
theorem dX6_couldCall_67 : decode cX6_couldCall 67 = .ok (.iconst 1, 1) := by decide +kernel
theorem dX6_couldCall_68 : decode cX6_couldCall 68 = .ok (.goto 4, 3) := by decide +kernel
theorem dX6_couldCall_71 : decode cX6_couldCall 71 = .ok (.iconst 0, 1) := by decide +kernel
theorem dX6_couldCall_72 : decode cX6_couldCall 72 = .ok (.ireturn, 1) := by decide +kernel
theorem dX7_init_0 : decode cX7_init 0 = .ok (.aload_n 0, 1) := by decide +kernel
theorem dX7_init_1 : decode cX7_init 1 = .ok (.invokespecial 3, 3) := by decide +kernel
theorem dX7_init_4 : decode cX7_init 4 = .ok (.aload_n 0, 1) := by decide +kernel
theorem dX7_init_5 : decode cX7_init 5 = .ok (.new 9, 3) := by decide +kernel
theorem dX7_init_8 : decode cX7_init 8 = .ok (.dup, 1) := by decide +kernel
theorem dX7_init_9 : decode cX7_init 9 = .ok (.invokespecial 11, 3) := by decide +kernel
theorem dX7_init_12 : decode cX7_init 12 = .ok (.putfield 12, 3) := by decide +kernel
theorem dX7_init_15 : decode cX7_init 15 = .ok (.aload_n 0, 1) := by decide +kernel
theorem dX7_init_16 : decode cX7_init 16 = .ok (.iconst 0, 1) := by decide +kernel
theorem dX7_init_17 : decode cX7_init 17 = .ok (.putfield 18, 3) := by decide +kernel
theorem dX7_init_20 : decode cX7_init 20 = .ok (.aload_n 0, 1) := by decide +kernel
theorem dX7_init_21 : decode cX7_init 21 = .ok (.iconst 0, 1) := by decide +kernel
theorem dX7_init_22 : decode cX7_init 22 = .ok (.putfield 22, 3) := by decide +kernel
theorem dX7_init_25 : decode cX7_init 25 = .ok (.aload_n 0, 1) := by decide +kernel
theorem dX7_init_26 : decode cX7_init 26 = .ok (.iconst 0, 1) := by decide +kernel
theorem dX7_init_27 : decode cX7_init 27 = .ok (.putfield 25, 3) := by decide +kernel
theorem dX7_init_30 : decode cX7_init 30 = .ok (.aload_n 0, 1) := by decide +kernel
theorem dX7_init_31 : decode cX7_init 31 = .ok (.iconst 0, 1) := by decide +kernel
theorem dX7_init_32 : decode cX7_init 32 = .ok (.putfield 28, 3) := by decide +kernel
theorem dX7_init_35 : decode cX7_init 35 = .ok (.aload_n 0, 1) := by decide +kernel
theorem dX7_init_36 : decode cX7_init 36 = .ok (.aconst_null, 1) := by decide +kernel
theorem dX7_init_37 : decode cX7_init 37 = .ok (.putfield 31, 3) := by decide +kernel
theorem dX7_init_40 : decode cX7_init 40 = .ok (.return_, 1) := by decide +kernel
theorem dX7_begin_0 : decode cX7_begin 0 = .ok (.aload_n 0, 1) := by decide +kernel
theorem dX7_begin_1 : decode cX7_begin 1 = .ok (.getfield 12, 3) := by decide +kernel
theorem dX7_begin_4 : decode cX7_begin 4 = .ok (.iload_n 1, 1) := by decide +kernel
theorem dX7_begin_5 : decode cX7_begin 5 = .ok (.invokevirtual 35, 3) := by decide +kernel
theorem dX7_begin_8 : decode cX7_begin 8 = .ok (.aload_n 0, 1) := by decide +kernel
theorem dX7_begin_9 : decode cX7_begin 9 = .ok (.iconst 0, 1) := by decide +kernel
theorem dX7_begin_10 : decode cX7_begin 10 = .ok (.putfield 18, 3) := by decide +kernel
theorem dX7_begin_13 : decode cX7_begin 13 = .ok (.aload_n 0, 1) := by decide +kernel
theorem dX7_begin_14 : decode cX7_begin 14 = .ok (.iconst 0, 1) := by decide +kernel
theorem dX7_begin_15 : decode cX7_begin 15 = .ok (.putfield 22, 3) := by decide +kernel
theorem dX7_begin_18 : decode cX7_begin 18 = .ok (.aload_n 0, 1) := by decide +kernel
theorem dX7_begin_19 : decode cX7_begin 19 = .ok (.iconst 0, 1) := by decide +kernel
theorem dX7_begin_20 : decode cX7_begin 20 = .ok (.putfield 25, 3) := by decide +kernel
theorem dX7_begin_23 : decode cX7_begin 23 = .ok (.aload_n 0, 1) := by decide +kernel
theorem dX7_begin_24 : decode cX7_begin 24 = .ok (.iconst 0, 1) := by decide +kernel
theorem dX7_begin_25 : decode cX7_begin 25 = .ok (.putfield 28, 3) := by decide +kernel
theorem dX7_begin_28 : decode cX7_begin 28 = .ok (.aload_n 0, 1) := by decide +kernel
theorem dX7_begin_29 : decode cX7_begin 29 = .ok (.aconst_null, 1) := by decide +kernel
theorem dX7_begin_30 : decode cX7_begin 30 = .ok (.putfield 31, 3) := by decide +kernel
theorem dX7_begin_33 : decode cX7_begin 33 = .ok (.return_, 1) := by decide +kernel
theorem dX7_copyFrom_0 : decode cX7_copyFrom 0 = .ok (.aload_n 0, 1) := by decide +kernel
theorem dX7_copyFrom_1 : decode cX7_copyFrom 1 = .ok (.getfield 12, 3) := by decide +kernel
theorem dX7_copyFrom_4 : decode cX7_copyFrom 4 = .ok (.aload_n 1, 1) := by decide +kernel
theorem dX7_copyFrom_5 : decode cX7_copyFrom 5 = .ok (.getfield 12, 3) := by decide +kernel
theorem dX7_copyFrom_8 : decode cX7_copyFrom 8 = .ok (.invokevirtual 39, 3) := by decide +kernel
theorem dX7_copyFrom_11 : decode cX7_copyFrom 11 = .ok (.aload_n 0, 1) := by decide +kernel
theorem dX7_copyFrom_12 : decode cX7_copyFrom 12 = .ok (.aload_n 1, 1) := by decide +kernel
theorem dX7_copyFrom_13 : decode cX7_copyFrom 13 = .ok (.getfield 18, 3) := by decide +kernel
theorem dX7_copyFrom_16 : decode cX7_copyFrom 16 = .ok (.putfield 18, 3) := by decide +kernel
theorem dX7_copyFrom_19 : decode cX7_copyFrom 19 = .ok (.aload_n 0, 1) := by decide +kernel
theorem dX7_copyFrom_20 : decode cX7_copyFrom 20 = .ok (.aload_n 1, 1) := by decide +kernel
theorem dX7_copyFrom_21 : decode cX7_copyFrom 21 = .ok (.getfield 22, 3) := by decide +kernel
theorem dX7_copyFrom_24 : decode cX7_copyFrom 24 = .ok (.putfield 22, 3) := by decide +kernel
theorem dX7_copyFrom_27 : decode cX7_copyFrom 27 = .ok (.aload_n 0, 1) := by decide +kernel
theorem dX7_copyFrom_28 : decode cX7_copyFrom 28 = .ok (.aload_n 1, 1) := by decide +kernel
theorem dX7_copyFrom_29 : decode cX7_copyFrom 29 = .ok (.getfield 25, 3) := by decide +kernel
theorem dX7_copyFrom_32 : decode cX7_copyFrom 32 = .ok (.putfield 25, 3) := by decide +kernel
theorem dX7_copyFrom_35 : decode cX7_copyFrom 35 = .ok (.aload_n 0, 1) := by decide +kernel
theorem dX7_copyFrom_36 : decode cX7_copyFrom 36 = .ok (.aload_n 1, 1) := by decide +kernel
theorem dX7_copyFrom_37 : decode cX7_copyFrom 37 = .ok (.getfield 28, 3) := by decide +kernel
theorem dX7_copyFrom_40 : decode cX7_copyFrom 40 = .ok (.putfield 28, 3) := by decide +kernel
theorem dX7_copyFrom_43 : decode cX7_copyFrom 43 = .ok (.aload_n 0, 1) := by decide +kernel
theorem dX7_copyFrom_44 : decode cX7_copyFrom 44 = .ok (.aload_n 1, 1) := by decide +kernel
theorem dX7_copyFrom_45 : decode cX7_copyFrom 45 = .ok (.getfield 31, 3) := by decide +kernel
theorem dX7_copyFrom_48 : decode cX7_copyFrom 48 = .ok (.putfield 31, 3) := by decide +kernel
theorem dX7_copyFrom_51 : decode cX7_copyFrom 51 = .ok (.return_, 1) := by decide +kernel
theorem dX7_endRound_0 : decode cX7_endRound 0 = .ok (.aload_n 0, 1) := by decide +kernel
theorem dX7_endRound_1 : decode cX7_endRound 1 = .ok (.dup, 1) := by decide +kernel
theorem dX7_endRound_2 : decode cX7_endRound 2 = .ok (.getfield 25, 3) := by decide +kernel
theorem dX7_endRound_5 : decode cX7_endRound 5 = .ok (.iconst 1, 1) := by decide +kernel
theorem dX7_endRound_6 : decode cX7_endRound 6 = .ok (.iadd, 1) := by decide +kernel
theorem dX7_endRound_7 : decode cX7_endRound 7 = .ok (.putfield 25, 3) := by decide +kernel
theorem dX7_endRound_10 : decode cX7_endRound 10 = .ok (.aload_n 0, 1) := by decide +kernel
theorem dX7_endRound_11 : decode cX7_endRound 11 = .ok (.dup, 1) := by decide +kernel
theorem dX7_endRound_12 : decode cX7_endRound 12 = .ok (.getfield 28, 3) := by decide +kernel
theorem dX7_endRound_15 : decode cX7_endRound 15 = .ok (.aload_n 0, 1) := by decide +kernel
theorem dX7_endRound_16 : decode cX7_endRound 16 = .ok (.getfield 18, 3) := by decide +kernel
theorem dX7_endRound_19 : decode cX7_endRound 19 = .ok (.invokestatic 43, 3) := by decide +kernel
theorem dX7_endRound_22 : decode cX7_endRound 22 = .ok (.iadd, 1) := by decide +kernel
theorem dX7_endRound_23 : decode cX7_endRound 23 = .ok (.putfield 28, 3) := by decide +kernel
theorem dX7_endRound_26 : decode cX7_endRound 26 = .ok (.aload_n 0, 1) := by decide +kernel
theorem dX7_endRound_27 : decode cX7_endRound 27 = .ok (.new 49, 3) := by decide +kernel
theorem dX7_endRound_30 : decode cX7_endRound 30 = .ok (.dup, 1) := by decide +kernel
theorem dX7_endRound_31 : decode cX7_endRound 31 = .ok (.aload_n 0, 1) := by decide +kernel
theorem dX7_endRound_32 : decode cX7_endRound 32 = .ok (.getfield 25, 3) := by decide +kernel
theorem dX7_endRound_35 : decode cX7_endRound 35 = .ok (.aload_n 0, 1) := by decide +kernel
theorem dX7_endRound_36 : decode cX7_endRound 36 = .ok (.sipush 9999, 3) := by decide +kernel
theorem dX7_endRound_39 : decode cX7_endRound 39 = .ok (.invokevirtual 51, 3) := by decide +kernel
theorem dX7_endRound_42 : decode cX7_endRound 42 = .ok (.iload_n 1, 1) := by decide +kernel
theorem dX7_endRound_43 : decode cX7_endRound 43 = .ok (.iadd, 1) := by decide +kernel
theorem dX7_endRound_44 : decode cX7_endRound 44 = .ok (.aload_n 0, 1) := by decide +kernel
theorem dX7_endRound_45 : decode cX7_endRound 45 = .ok (.getfield 31, 3) := by decide +kernel
theorem dX7_endRound_48 : decode cX7_endRound 48 = .ok (.invokespecial 54, 3) := by decide +kernel
theorem dX7_endRound_51 : decode cX7_endRound 51 = .ok (.putfield 31, 3) := by decide +kernel
theorem dX7_endRound_54 : decode cX7_endRound 54 = .ok (.aload_n 0, 1) := by decide +kernel
theorem dX7_endRound_55 : decode cX7_endRound 55 = .ok (.iconst 0, 1) := by decide +kernel
theorem dX7_endRound_56 : decode cX7_endRound 56 = .ok (.putfield 18, 3) := by decide +kernel
theorem dX7_endRound_59 : decode cX7_endRound 59 = .ok (.return_, 1) := by decide +kernel
theorem dX7_spentUpTo_0 : decode cX7_spentUpTo 0 = .ok (.aload_n 0, 1) := by decide +kernel
theorem dX7_spentUpTo_1 : decode cX7_spentUpTo 1 = .ok (.getfield 31, 3) := by decide +kernel
theorem dX7_spentUpTo_4 : decode cX7_spentUpTo 4 = .ok (.astore_n 2, 1) := by decide +kernel
theorem dX7_spentUpTo_5 : decode cX7_spentUpTo 5 = .ok (.aload_n 2, 1) := by decide +kernel
theorem dX7_spentUpTo_6 : decode cX7_spentUpTo 6 = .ok (.ifnull 24, 3) := by decide +kernel
theorem dX7_spentUpTo_9 : decode cX7_spentUpTo 9 = .ok (.aload_n 2, 1) := by decide +kernel
theorem dX7_spentUpTo_10 : decode cX7_spentUpTo 10 = .ok (.getfield 57, 3) := by decide +kernel
theorem dX7_spentUpTo_13 : decode cX7_spentUpTo 13 = .ok (.iload_n 1, 1) := by decide +kernel
theorem dX7_spentUpTo_14 : decode cX7_spentUpTo 14 = .ok (.if_icmp .gt 8, 3) := by decide +kernel
theorem dX7_spentUpTo_17 : decode cX7_spentUpTo 17 = .ok (.aload_n 2, 1) := by decide +kernel
theorem dX7_spentUpTo_18 : decode cX7_spentUpTo 18 = .ok (.getfield 60, 3) := by decide +kernel
theorem dX7_spentUpTo_21 : decode cX7_spentUpTo 21 = .ok (.ireturn, 1) := by decide +kernel
theorem dX7_spentUpTo_22 : decode cX7_spentUpTo 22 = .ok (.aload_n 2, 1) := by decide +kernel
theorem dX7_spentUpTo_23 : decode cX7_spentUpTo 23 = .ok (.getfield 63, 3) := by decide +kernel
theorem dX7_spentUpTo_26 : decode cX7_spentUpTo 26 = .ok (.astore_n 2, 1) := by decide +kernel
theorem dX7_spentUpTo_27 : decode cX7_spentUpTo 27 = .ok (.goto (-22), 3) := by decide +kernel
theorem dX7_spentUpTo_30 : decode cX7_spentUpTo 30 = .ok (.iconst 0, 1) := by decide +kernel
theorem dX7_spentUpTo_31 : decode cX7_spentUpTo 31 = .ok (.ireturn, 1) := by decide +kernel
theorem dX8_init_0 : decode cX8_init 0 = .ok (.aload_n 0, 1) := by decide +kernel
theorem dX8_init_1 : decode cX8_init 1 = .ok (.invokespecial 3, 3) := by decide +kernel
theorem dX8_init_4 : decode cX8_init 4 = .ok (.aload_n 0, 1) := by decide +kernel
theorem dX8_init_5 : decode cX8_init 5 = .ok (.bipush 12, 2) := by decide +kernel
theorem dX8_init_7 : decode cX8_init 7 = .ok (.newarray .int, 2) := by decide +kernel
theorem dX8_init_9 : decode cX8_init 9 = .ok (.putfield 9, 3) := by decide +kernel
theorem dX8_init_12 : decode cX8_init 12 = .ok (.aload_n 0, 1) := by decide +kernel
theorem dX8_init_13 : decode cX8_init 13 = .ok (.bipush 12, 2) := by decide +kernel
theorem dX8_init_15 : decode cX8_init 15 = .ok (.newarray .int, 2) := by decide +kernel
theorem dX8_init_17 : decode cX8_init 17 = .ok (.putfield 15, 3) := by decide +kernel
theorem dX8_init_20 : decode cX8_init 20 = .ok (.aload_n 0, 1) := by decide +kernel
theorem dX8_init_21 : decode cX8_init 21 = .ok (.bipush 12, 2) := by decide +kernel
theorem dX8_init_23 : decode cX8_init 23 = .ok (.newarray .int, 2) := by decide +kernel
theorem dX8_init_25 : decode cX8_init 25 = .ok (.putfield 18, 3) := by decide +kernel
theorem dX8_init_28 : decode cX8_init 28 = .ok (.aload_n 0, 1) := by decide +kernel
theorem dX8_init_29 : decode cX8_init 29 = .ok (.iconst 0, 1) := by decide +kernel
theorem dX8_init_30 : decode cX8_init 30 = .ok (.putfield 21, 3) := by decide +kernel
theorem dX8_init_33 : decode cX8_init 33 = .ok (.return_, 1) := by decide +kernel
theorem dX8_clear_0 : decode cX8_clear 0 = .ok (.aload_n 0, 1) := by decide +kernel
theorem dX8_clear_1 : decode cX8_clear 1 = .ok (.iconst 0, 1) := by decide +kernel
theorem dX8_clear_2 : decode cX8_clear 2 = .ok (.putfield 21, 3) := by decide +kernel
theorem dX8_clear_5 : decode cX8_clear 5 = .ok (.return_, 1) := by decide +kernel
theorem dX8_isFull_0 : decode cX8_isFull 0 = .ok (.aload_n 0, 1) := by decide +kernel
theorem dX8_isFull_1 : decode cX8_isFull 1 = .ok (.getfield 21, 3) := by decide +kernel
theorem dX8_isFull_4 : decode cX8_isFull 4 = .ok (.bipush 12, 2) := by decide +kernel
theorem dX8_isFull_6 : decode cX8_isFull 6 = .ok (.if_icmp .lt 7, 3) := by decide +kernel
theorem dX8_isFull_9 : decode cX8_isFull 9 = .ok (.iconst 1, 1) := by decide +kernel
theorem dX8_isFull_10 : decode cX8_isFull 10 = .ok (.goto 4, 3) := by decide +kernel
theorem dX8_isFull_13 : decode cX8_isFull 13 = .ok (.iconst 0, 1) := by decide +kernel
theorem dX8_isFull_14 : decode cX8_isFull 14 = .ok (.ireturn, 1) := by decide +kernel
theorem dX8_add_0 : decode cX8_add 0 = .ok (.aload_n 0, 1) := by decide +kernel
theorem dX8_add_1 : decode cX8_add 1 = .ok (.invokevirtual 25, 3) := by decide +kernel
theorem dX8_add_4 : decode cX8_add 4 = .ok (.ifCond .eq 4, 3) := by decide +kernel
theorem dX8_add_7 : decode cX8_add 7 = .ok (.return_, 1) := by decide +kernel
theorem dX8_add_8 : decode cX8_add 8 = .ok (.aload_n 0, 1) := by decide +kernel
theorem dX8_add_9 : decode cX8_add 9 = .ok (.getfield 9, 3) := by decide +kernel
theorem dX8_add_12 : decode cX8_add 12 = .ok (.aload_n 0, 1) := by decide +kernel
theorem dX8_add_13 : decode cX8_add 13 = .ok (.getfield 21, 3) := by decide +kernel
theorem dX8_add_16 : decode cX8_add 16 = .ok (.iload_n 1, 1) := by decide +kernel
theorem dX8_add_17 : decode cX8_add 17 = .ok (.iastore, 1) := by decide +kernel
theorem dX8_add_18 : decode cX8_add 18 = .ok (.aload_n 0, 1) := by decide +kernel
theorem dX8_add_19 : decode cX8_add 19 = .ok (.getfield 15, 3) := by decide +kernel
theorem dX8_add_22 : decode cX8_add 22 = .ok (.aload_n 0, 1) := by decide +kernel
theorem dX8_add_23 : decode cX8_add 23 = .ok (.getfield 21, 3) := by decide +kernel
theorem dX8_add_26 : decode cX8_add 26 = .ok (.iload_n 2, 1) := by decide +kernel
theorem dX8_add_27 : decode cX8_add 27 = .ok (.iastore, 1) := by decide +kernel
theorem dX8_add_28 : decode cX8_add 28 = .ok (.aload_n 0, 1) := by decide +kernel
theorem dX8_add_29 : decode cX8_add 29 = .ok (.getfield 18, 3) := by decide +kernel
theorem dX8_add_32 : decode cX8_add 32 = .ok (.aload_n 0, 1) := by decide +kernel
theorem dX8_add_33 : decode cX8_add 33 = .ok (.getfield 21, 3) := by decide +kernel
theorem dX8_add_36 : decode cX8_add 36 = .ok (.iload_n 3, 1) := by decide +kernel
theorem dX8_add_37 : decode cX8_add 37 = .ok (.iastore, 1) := by decide +kernel
theorem dX8_add_38 : decode cX8_add 38 = .ok (.aload_n 0, 1) := by decide +kernel
theorem dX8_add_39 : decode cX8_add 39 = .ok (.dup, 1) := by decide +kernel
theorem dX8_add_40 : decode cX8_add 40 = .ok (.getfield 21, 3) := by decide +kernel
theorem dX8_add_43 : decode cX8_add 43 = .ok (.iconst 1, 1) := by decide +kernel
theorem dX8_add_44 : decode cX8_add 44 = .ok (.iadd, 1) := by decide +kernel
theorem dX8_add_45 : decode cX8_add 45 = .ok (.putfield 21, 3) := by decide +kernel
theorem dX8_add_48 : decode cX8_add 48 = .ok (.return_, 1) := by decide +kernel
theorem dX8_countOf_0 : decode cX8_countOf 0 = .ok (.iconst 0, 1) := by decide +kernel
theorem dX8_countOf_1 : decode cX8_countOf 1 = .ok (.istore_n 2, 1) := by decide +kernel
theorem dX8_countOf_2 : decode cX8_countOf 2 = .ok (.iconst 0, 1) := by decide +kernel
theorem dX8_countOf_3 : decode cX8_countOf 3 = .ok (.istore_n 3, 1) := by decide +kernel
theorem dX8_countOf_4 : decode cX8_countOf 4 = .ok (.iload_n 3, 1) := by decide +kernel
theorem dX8_countOf_5 : decode cX8_countOf 5 = .ok (.aload_n 0, 1) := by decide +kernel
theorem dX8_countOf_6 : decode cX8_countOf 6 = .ok (.getfield 21, 3) := by decide +kernel
theorem dX8_countOf_9 : decode cX8_countOf 9 = .ok (.if_icmp .ge 22, 3) := by decide +kernel
theorem dX8_countOf_12 : decode cX8_countOf 12 = .ok (.aload_n 0, 1) := by decide +kernel
theorem dX8_countOf_13 : decode cX8_countOf 13 = .ok (.getfield 9, 3) := by decide +kernel
theorem dX8_countOf_16 : decode cX8_countOf 16 = .ok (.iload_n 3, 1) := by decide +kernel
theorem dX8_countOf_17 : decode cX8_countOf 17 = .ok (.iaload, 1) := by decide +kernel
theorem dX8_countOf_18 : decode cX8_countOf 18 = .ok (.iload_n 1, 1) := by decide +kernel
theorem dX8_countOf_19 : decode cX8_countOf 19 = .ok (.if_icmp .ne 6, 3) := by decide +kernel
theorem dX8_countOf_22 : decode cX8_countOf 22 = .ok (.iinc 2 1, 3) := by decide +kernel
theorem dX8_countOf_25 : decode cX8_countOf 25 = .ok (.iinc 3 1, 3) := by decide +kernel
theorem dX8_countOf_28 : decode cX8_countOf 28 = .ok (.goto (-24), 3) := by decide +kernel
theorem dX8_countOf_31 : decode cX8_countOf 31 = .ok (.iload_n 2, 1) := by decide +kernel
theorem dX8_countOf_32 : decode cX8_countOf 32 = .ok (.ireturn, 1) := by decide +kernel
theorem dX8_keptOut_0 : decode cX8_keptOut 0 = .ok (.iconst 0, 1) := by decide +kernel
theorem dX8_keptOut_1 : decode cX8_keptOut 1 = .ok (.istore_n 2, 1) := by decide +kernel
theorem dX8_keptOut_2 : decode cX8_keptOut 2 = .ok (.iconst 0, 1) := by decide +kernel
theorem dX8_keptOut_3 : decode cX8_keptOut 3 = .ok (.istore_n 3, 1) := by decide +kernel
theorem dX8_keptOut_4 : decode cX8_keptOut 4 = .ok (.iload_n 3, 1) := by decide +kernel
theorem dX8_keptOut_5 : decode cX8_keptOut 5 = .ok (.aload_n 0, 1) := by decide +kernel
theorem dX8_keptOut_6 : decode cX8_keptOut 6 = .ok (.getfield 21, 3) := by decide +kernel
theorem dX8_keptOut_9 : decode cX8_keptOut 9 = .ok (.if_icmp .ge 40, 3) := by decide +kernel
theorem dX8_keptOut_12 : decode cX8_keptOut 12 = .ok (.aload_n 0, 1) := by decide +kernel
theorem dX8_keptOut_13 : decode cX8_keptOut 13 = .ok (.getfield 15, 3) := by decide +kernel
theorem dX8_keptOut_16 : decode cX8_keptOut 16 = .ok (.iload_n 3, 1) := by decide +kernel
theorem dX8_keptOut_17 : decode cX8_keptOut 17 = .ok (.iaload, 1) := by decide +kernel
theorem dX8_keptOut_18 : decode cX8_keptOut 18 = .ok (.iload_n 1, 1) := by decide +kernel
theorem dX8_keptOut_19 : decode cX8_keptOut 19 = .ok (.if_icmp .gt 24, 3) := by decide +kernel
theorem dX8_keptOut_22 : decode cX8_keptOut 22 = .ok (.iload_n 1, 1) := by decide +kernel
theorem dX8_keptOut_23 : decode cX8_keptOut 23 = .ok (.aload_n 0, 1) := by decide +kernel
theorem dX8_keptOut_24 : decode cX8_keptOut 24 = .ok (.getfield 18, 3) := by decide +kernel
theorem dX8_keptOut_27 : decode cX8_keptOut 27 = .ok (.iload_n 3, 1) := by decide +kernel
theorem dX8_keptOut_28 : decode cX8_keptOut 28 = .ok (.iaload, 1) := by decide +kernel
theorem dX8_keptOut_29 : decode cX8_keptOut 29 = .ok (.if_icmp .gt 14, 3) := by decide +kernel
theorem dX8_keptOut_32 : decode cX8_keptOut 32 = .ok (.iload_n 2, 1) := by decide +kernel
theorem dX8_keptOut_33 : decode cX8_keptOut 33 = .ok (.iconst 1, 1) := by decide +kernel
theorem dX8_keptOut_34 : decode cX8_keptOut 34 = .ok (.aload_n 0, 1) := by decide +kernel
theorem dX8_keptOut_35 : decode cX8_keptOut 35 = .ok (.getfield 9, 3) := by decide +kernel
theorem dX8_keptOut_38 : decode cX8_keptOut 38 = .ok (.iload_n 3, 1) := by decide +kernel
theorem dX8_keptOut_39 : decode cX8_keptOut 39 = .ok (.iaload, 1) := by decide +kernel
theorem dX8_keptOut_40 : decode cX8_keptOut 40 = .ok (.ishl, 1) := by decide +kernel
theorem dX8_keptOut_41 : decode cX8_keptOut 41 = .ok (.ior, 1) := by decide +kernel
theorem dX8_keptOut_42 : decode cX8_keptOut 42 = .ok (.istore_n 2, 1) := by decide +kernel
theorem dX8_keptOut_43 : decode cX8_keptOut 43 = .ok (.iinc 3 1, 3) := by decide +kernel
theorem dX8_keptOut_46 : decode cX8_keptOut 46 = .ok (.goto (-42), 3) := by decide +kernel
theorem dX8_keptOut_49 : decode cX8_keptOut 49 = .ok (.iload_n 2, 1) := by decide +kernel
theorem dX8_keptOut_50 : decode cX8_keptOut 50 = .ok (.ireturn, 1) := by decide +kernel
theorem dX9_init_0 : decode cX9_init 0 = .ok (.aload_n 0, 1) := by decide +kernel
theorem dX9_init_1 : decode cX9_init 1 = .ok (.invokespecial 3, 3) := by decide +kernel
theorem dX9_init_4 : decode cX9_init 4 = .ok (.aload_n 0, 1) := by decide +kernel
theorem dX9_init_5 : decode cX9_init 5 = .ok (.sipush 500, 3) := by decide +kernel
theorem dX9_init_8 : decode cX9_init 8 = .ok (.newarray .byte, 2) := by decide +kernel
theorem dX9_init_10 : decode cX9_init 10 = .ok (.putfield 9, 3) := by decide +kernel
theorem dX9_init_13 : decode cX9_init 13 = .ok (.aload_n 0, 1) := by decide +kernel
theorem dX9_init_14 : decode cX9_init 14 = .ok (.iconst 0, 1) := by decide +kernel
theorem dX9_init_15 : decode cX9_init 15 = .ok (.putfield 15, 3) := by decide +kernel
theorem dX9_init_18 : decode cX9_init 18 = .ok (.aload_n 0, 1) := by decide +kernel
theorem dX9_init_19 : decode cX9_init 19 = .ok (.new 19, 3) := by decide +kernel
theorem dX9_init_22 : decode cX9_init 22 = .ok (.dup, 1) := by decide +kernel
theorem dX9_init_23 : decode cX9_init 23 = .ok (.invokespecial 21, 3) := by decide +kernel
theorem dX9_init_26 : decode cX9_init 26 = .ok (.putfield 22, 3) := by decide +kernel
theorem dX9_init_29 : decode cX9_init 29 = .ok (.aload_n 0, 1) := by decide +kernel
theorem dX9_init_30 : decode cX9_init 30 = .ok (.iconst 0, 1) := by decide +kernel
theorem dX9_init_31 : decode cX9_init 31 = .ok (.putfield 26, 3) := by decide +kernel
theorem dX9_init_34 : decode cX9_init 34 = .ok (.aload_n 0, 1) := by decide +kernel
theorem dX9_init_35 : decode cX9_init 35 = .ok (.iconst (-1), 1) := by decide +kernel
theorem dX9_init_36 : decode cX9_init 36 = .ok (.putfield 29, 3) := by decide +kernel
theorem dX9_init_39 : decode cX9_init 39 = .ok (.aload_n 0, 1) := by decide +kernel
theorem dX9_init_40 : decode cX9_init 40 = .ok (.iconst 0, 1) := by decide +kernel
theorem dX9_init_41 : decode cX9_init 41 = .ok (.putfield 32, 3) := by decide +kernel
theorem dX9_init_44 : decode cX9_init 44 = .ok (.aload_n 0, 1) := by decide +kernel
theorem dX9_init_45 : decode cX9_init 45 = .ok (.iconst 0, 1) := by decide +kernel
theorem dX9_init_46 : decode cX9_init 46 = .ok (.putfield 35, 3) := by decide +kernel
theorem dX9_init_49 : decode cX9_init 49 = .ok (.aload_n 0, 1) := by decide +kernel
theorem dX9_init_50 : decode cX9_init 50 = .ok (.iconst 0, 1) := by decide +kernel
theorem dX9_init_51 : decode cX9_init 51 = .ok (.putfield 38, 3) := by decide +kernel
theorem dX9_init_54 : decode cX9_init 54 = .ok (.aload_n 0, 1) := by decide +kernel
theorem dX9_init_55 : decode cX9_init 55 = .ok (.iconst 0, 1) := by decide +kernel
theorem dX9_init_56 : decode cX9_init 56 = .ok (.putfield 41, 3) := by decide +kernel
theorem dX9_init_59 : decode cX9_init 59 = .ok (.aload_n 0, 1) := by decide +kernel
theorem dX9_init_60 : decode cX9_init 60 = .ok (.iconst 0, 1) := by decide +kernel
theorem dX9_init_61 : decode cX9_init 61 = .ok (.putfield 44, 3) := by decide +kernel
theorem dX9_init_64 : decode cX9_init 64 = .ok (.return_, 1) := by decide +kernel
theorem dX9_putFourBytes_0 : decode cX9_putFourBytes 0 = .ok (.bipush 24, 2) := by decide +kernel
theorem dX9_putFourBytes_2 : decode cX9_putFourBytes 2 = .ok (.istore_n 2, 1) := by decide +kernel
theorem dX9_putFourBytes_3 : decode cX9_putFourBytes 3 = .ok (.iload_n 2, 1) := by decide +kernel
theorem dX9_putFourBytes_4 : decode cX9_putFourBytes 4 = .ok (.ifCond .lt 42, 3) := by decide +kernel
theorem dX9_putFourBytes_7 : decode cX9_putFourBytes 7 = .ok (.aload_n 0, 1) := by decide +kernel
theorem dX9_putFourBytes_8 : decode cX9_putFourBytes 8 = .ok (.getfield 15, 3) := by decide +kernel
theorem dX9_putFourBytes_11 : decode cX9_putFourBytes 11 = .ok (.sipush 500, 3) := by decide +kernel
theorem dX9_putFourBytes_14 : decode cX9_putFourBytes 14 = .ok (.if_icmp .ge 32, 3) := by decide +kernel
theorem dX9_putFourBytes_17 : decode cX9_putFourBytes 17 = .ok (.aload_n 0, 1) := by decide +kernel
theorem dX9_putFourBytes_18 : decode cX9_putFourBytes 18 = .ok (.getfield 9, 3) := by decide +kernel
theorem dX9_putFourBytes_21 : decode cX9_putFourBytes 21 = .ok (.aload_n 0, 1) := by decide +kernel
theorem dX9_putFourBytes_22 : decode cX9_putFourBytes 22 = .ok (.getfield 15, 3) := by decide +kernel
theorem dX9_putFourBytes_25 : decode cX9_putFourBytes 25 = .ok (.iload_n 1, 1) := by decide +kernel
theorem dX9_putFourBytes_26 : decode cX9_putFourBytes 26 = .ok (.iload_n 2, 1) := by decide +kernel
theorem dX9_putFourBytes_27 : decode cX9_putFourBytes 27 = .ok (.ishr, 1) := by decide +kernel
theorem dX9_putFourBytes_28 : decode cX9_putFourBytes 28 = .ok (.i2b, 1) := by decide +kernel
theorem dX9_putFourBytes_29 : decode cX9_putFourBytes 29 = .ok (.bastore, 1) := by decide +kernel
theorem dX9_putFourBytes_30 : decode cX9_putFourBytes 30 = .ok (.aload_n 0, 1) := by decide +kernel
theorem dX9_putFourBytes_31 : decode cX9_putFourBytes 31 = .ok (.dup, 1) := by decide +kernel
theorem dX9_putFourBytes_32 : decode cX9_putFourBytes 32 = .ok (.getfield 15, 3) := by decide +kernel
theorem dX9_putFourBytes_35 : decode cX9_putFourBytes 35 = .ok (.iconst 1, 1) := by decide +kernel
theorem dX9_putFourBytes_36 : decode cX9_putFourBytes 36 = .ok (.iadd, 1) := by decide +kernel
theorem dX9_putFourBytes_37 : decode cX9_putFourBytes 37 = .ok (.putfield 15, 3) := by decide +kernel
theorem dX9_putFourBytes_40 : decode cX9_putFourBytes 40 = .ok (.iinc 2 (-8), 3) := by decide +kernel
theorem dX9_putFourBytes_43 : decode cX9_putFourBytes 43 = .ok (.goto (-40), 3) := by decide +kernel
theorem dX9_putFourBytes_46 : decode cX9_putFourBytes 46 = .ok (.return_, 1) := by decide +kernel
theorem dX9_readExchange_0 : decode cX9_readExchange 0 = .ok (.aload_n 0, 1) := by decide +kernel
theorem dX9_readExchange_1 : decode cX9_readExchange 1 = .ok (.iload_n 1, 1) := by decide +kernel
theorem dX9_readExchange_2 : decode cX9_readExchange 2 = .ok (.aload_n 0, 1) := by decide +kernel
theorem dX9_readExchange_3 : decode cX9_readExchange 3 = .ok (.getfield 15, 3) := by decide +kernel
theorem dX9_readExchange_6 : decode cX9_readExchange 6 = .ok (.invokestatic 47, 3) := by decide +kernel
theorem dX9_readExchange_9 : decode cX9_readExchange 9 = .ok (.putfield 32, 3) := by decide +kernel
theorem dX9_readExchange_12 : decode cX9_readExchange 12 = .ok (.aload_n 0, 1) := by decide +kernel
theorem dX9_readExchange_13 : decode cX9_readExchange 13 = .ok (.iconst 0, 1) := by decide +kernel
theorem dX9_readExchange_14 : decode cX9_readExchange 14 = .ok (.putfield 15, 3) := by decide +kernel
theorem dX9_readExchange_17 : decode cX9_readExchange 17 = .ok (.aload_n 0, 1) := by decide +kernel
theorem dX9_readExchange_18 : decode cX9_readExchange 18 = .ok (.iconst 0, 1) := by decide +kernel
theorem dX9_readExchange_19 : decode cX9_readExchange 19 = .ok (.putfield 26, 3) := by decide +kernel
theorem dX9_readExchange_22 : decode cX9_readExchange 22 = .ok (.aload_n 0, 1) := by decide +kernel
theorem dX9_readExchange_23 : decode cX9_readExchange 23 = .ok (.iconst (-1), 1) := by decide +kernel
theorem dX9_readExchange_24 : decode cX9_readExchange 24 = .ok (.putfield 29, 3) := by decide +kernel
theorem dX9_readExchange_27 : decode cX9_readExchange 27 = .ok (.aload_n 0, 1) := by decide +kernel
theorem dX9_readExchange_28 : decode cX9_readExchange 28 = .ok (.iconst 0, 1) := by decide +kernel
theorem dX9_readExchange_29 : decode cX9_readExchange 29 = .ok (.putfield 41, 3) := by decide +kernel
theorem dX9_readExchange_32 : decode cX9_readExchange 32 = .ok (.aload_n 0, 1) := by decide +kernel
theorem dX9_readExchange_33 : decode cX9_readExchange 33 = .ok (.getfield 22, 3) := by decide +kernel
theorem dX9_readExchange_36 : decode cX9_readExchange 36 = .ok (.invokevirtual 53, 3) := by decide +kernel
theorem dX9_readExchange_39 : decode cX9_readExchange 39 = .ok (.iconst 0, 1) := by decide +kernel
theorem dX9_readExchange_40 : decode cX9_readExchange 40 = .ok (.istore_n 2, 1) := by decide +kernel
theorem dX9_readExchange_41 : decode cX9_readExchange 41 = .ok (.iload_n 2, 1) := by decide +kernel
theorem dX9_readExchange_42 : decode cX9_readExchange 42 = .ok (.sipush 500, 3) := by decide +kernel
theorem dX9_readExchange_45 : decode cX9_readExchange 45 = .ok (.if_icmp .ge 41, 3) := by decide +kernel
theorem dX9_readExchange_48 : decode cX9_readExchange 48 = .ok (.aload_n 0, 1) := by decide +kernel
theorem dX9_readExchange_49 : decode cX9_readExchange 49 = .ok (.invokevirtual 56, 3) := by decide +kernel
theorem dX9_readExchange_52 : decode cX9_readExchange 52 = .ok (.aload_n 0, 1) := by decide +kernel
theorem dX9_readExchange_53 : decode cX9_readExchange 53 = .ok (.getfield 35, 3) := by decide +kernel
theorem dX9_readExchange_56 : decode cX9_readExchange 56 = .ok (.ifCond .eq 19, 3) := by decide +kernel
theorem dX9_readExchange_59 : decode cX9_readExchange 59 = .ok (.aload_n 0, 1) := by decide +kernel
theorem dX9_readExchange_60 : decode cX9_readExchange 60 = .ok (.iload_n 2, 1) := by decide +kernel
theorem dX9_readExchange_61 : decode cX9_readExchange 61 = .ok (.ifCond .ne 7, 3) := by decide +kernel
theorem dX9_readExchange_64 : decode cX9_readExchange 64 = .ok (.iconst 1, 1) := by decide +kernel
theorem dX9_readExchange_65 : decode cX9_readExchange 65 = .ok (.goto 4, 3) := by decide +kernel
theorem dX9_readExchange_68 : decode cX9_readExchange 68 = .ok (.iconst 0, 1) := by decide +kernel
theorem dX9_readExchange_69 : decode cX9_readExchange 69 = .ok (.invokevirtual 59, 3) := by decide +kernel
theorem dX9_readExchange_72 : decode cX9_readExchange 72 = .ok (.ifCond .ne 8, 3) := by decide +kernel
theorem dX9_readExchange_75 : decode cX9_readExchange 75 = .ok (.aload_n 0, 1) := by decide +kernel
theorem dX9_readExchange_76 : decode cX9_readExchange 76 = .ok (.getfield 26, 3) := by decide +kernel
theorem dX9_readExchange_79 : decode cX9_readExchange 79 = .ok (.ireturn, 1) := by decide +kernel
theorem dX9_readExchange_80 : decode cX9_readExchange 80 = .ok (.iinc 2 1, 3) := by decide +kernel
theorem dX9_readExchange_83 : decode cX9_readExchange 83 = .ok (.goto (-42), 3) := by decide +kernel
theorem dX9_readExchange_86 : decode cX9_readExchange 86 = .ok (.aload_n 0, 1) := by decide +kernel
theorem dX9_readExchange_87 : decode cX9_readExchange 87 = .ok (.getfield 26, 3) := by decide +kernel
theorem dX9_readExchange_90 : decode cX9_readExchange 90 = .ok (.ireturn, 1) := by decide +kernel
theorem dX9_handOver_0 : decode cX9_handOver 0 = .ok (.aload_n 0, 1) := by decide +kernel
theorem dX9_handOver_1 : decode cX9_handOver 1 = .ok (.getfield 22, 3) := by decide +kernel
theorem dX9_handOver_4 : decode cX9_handOver 4 = .ok (.astore_n 2, 1) := by decide +kernel
theorem dX9_handOver_5 : decode cX9_handOver 5 = .ok (.aload_n 0, 1) := by decide +kernel
theorem dX9_handOver_6 : decode cX9_handOver 6 = .ok (.aload_n 1, 1) := by decide +kernel
theorem dX9_handOver_7 : decode cX9_handOver 7 = .ok (.putfield 22, 3) := by decide +kernel
theorem dX9_handOver_10 : decode cX9_handOver 10 = .ok (.aload_n 2, 1) := by decide +kernel
theorem dX9_handOver_11 : decode cX9_handOver 11 = .ok (.areturn, 1) := by decide +kernel
theorem dX9_fail_0 : decode cX9_fail 0 = .ok (.aload_n 0, 1) := by decide +kernel
theorem dX9_fail_1 : decode cX9_fail 1 = .ok (.iload_n 1, 1) := by decide +kernel
theorem dX9_fail_2 : decode cX9_fail 2 = .ok (.putfield 26, 3) := by decide +kernel
theorem dX9_fail_5 : decode cX9_fail 5 = .ok (.aload_n 0, 1) := by decide +kernel
theorem dX9_fail_6 : decode cX9_fail 6 = .ok (.aload_n 0, 1) := by decide +kernel
theorem dX9_fail_7 : decode cX9_fail 7 = .ok (.getfield 38, 3) := by decide +kernel
theorem dX9_fail_10 : decode cX9_fail 10 = .ok (.putfield 29, 3) := by decide +kernel
theorem dX9_fail_13 : decode cX9_fail 13 = .ok (.iconst 0, 1) := by decide +kernel
theorem dX9_fail_14 : decode cX9_fail 14 = .ok (.ireturn, 1) := by decide +kernel
theorem dX9_readStatement_0 : decode cX9_readStatement 0 = .ok (.aload_n 0, 1) := by decide +kernel
theorem dX9_readStatement_1 : decode cX9_readStatement 1 = .ok (.ldc 63, 2) := by decide +kernel
theorem dX9_readStatement_3 : decode cX9_readStatement 3 = .ok (.invokevirtual 65, 3) := by decide +kernel
theorem dX9_readStatement_6 : decode cX9_readStatement 6 = .ok (.ifCond .eq 9, 3) := by decide +kernel
theorem dX9_readStatement_9 : decode cX9_readStatement 9 = .ok (.aload_n 0, 1) := by decide +kernel
theorem dX9_readStatement_10 : decode cX9_readStatement 10 = .ok (.iload_n 1, 1) := by decide +kernel
theorem dX9_readStatement_11 : decode cX9_readStatement 11 = .ok (.invokevirtual 69, 3) := by decide +kernel
theorem dX9_readStatement_14 : decode cX9_readStatement 14 = .ok (.ireturn, 1) := by decide +kernel
theorem dX9_readStatement_15 : decode cX9_readStatement 15 = .ok (.aload_n 0, 1) := by decide +kernel
theorem dX9_readStatement_16 : decode cX9_readStatement 16 = .ok (.ldc 72, 2) := by decide +kernel
theorem dX9_readStatement_18 : decode cX9_readStatement 18 = .ok (.invokevirtual 65, 3) := by decide +kernel
theorem dX9_readStatement_21 : decode cX9_readStatement 21 = .ok (.ifCond .eq 8, 3) := by decide +kernel
theorem dX9_readStatement_24 : decode cX9_readStatement 24 = .ok (.aload_n 0, 1) := by decide +kernel
theorem dX9_readStatement_25 : decode cX9_readStatement 25 = .ok (.invokevirtual 74, 3) := by decide +kernel
theorem dX9_readStatement_28 : decode cX9_readStatement 28 = .ok (.ireturn, 1) := by decide +kernel
theorem dX9_readStatement_29 : decode cX9_readStatement 29 = .ok (.aload_n 0, 1) := by decide +kernel
theorem dX9_readStatement_30 : decode cX9_readStatement 30 = .ok (.ldc 78, 2) := by decide +kernel
theorem dX9_readStatement_32 : decode cX9_readStatement 32 = .ok (.invokevirtual 65, 3) := by decide +kernel
theorem dX9_readStatement_35 : decode cX9_readStatement 35 = .ok (.ifCond .eq 22, 3) := by decide +kernel
theorem dX9_readStatement_38 : decode cX9_readStatement 38 = .ok (.aload_n 0, 1) := by decide +kernel
theorem dX9_readStatement_39 : decode cX9_readStatement 39 = .ok (.aload_n 0, 1) := by decide +kernel
theorem dX9_readStatement_40 : decode cX9_readStatement 40 = .ok (.getfield 22, 3) := by decide +kernel
theorem dX9_readStatement_43 : decode cX9_readStatement 43 = .ok (.getfield 80, 3) := by decide +kernel
theorem dX9_readStatement_46 : decode cX9_readStatement 46 = .ok (.aload_n 0, 1) := by decide +kernel
theorem dX9_readStatement_47 : decode cX9_readStatement 47 = .ok (.getfield 22, 3) := by decide +kernel
theorem dX9_readStatement_50 : decode cX9_readStatement 50 = .ok (.getfield 84, 3) := by decide +kernel
theorem dX9_readStatement_53 : decode cX9_readStatement 53 = .ok (.invokevirtual 87, 3) := by decide +kernel
theorem dX9_readStatement_56 : decode cX9_readStatement 56 = .ok (.ireturn, 1) := by decide +kernel
theorem dX9_readStatement_57 : decode cX9_readStatement 57 = .ok (.aload_n 0, 1) := by decide +kernel
theorem dX9_readStatement_58 : decode cX9_readStatement 58 = .ok (.ldc 91, 2) := by decide +kernel
theorem dX9_readStatement_60 : decode cX9_readStatement 60 = .ok (.invokevirtual 65, 3) := by decide +kernel
theorem dX9_readStatement_63 : decode cX9_readStatement 63 = .ok (.ifCond .eq 22, 3) := by decide +kernel
theorem dX9_readStatement_66 : decode cX9_readStatement 66 = .ok (.aload_n 0, 1) := by decide +kernel
theorem dX9_readStatement_67 : decode cX9_readStatement 67 = .ok (.aload_n 0, 1) := by decide +kernel
theorem dX9_readStatement_68 : decode cX9_readStatement 68 = .ok (.getfield 22, 3) := by decide +kernel
theorem dX9_readStatement_71 : decode cX9_readStatement 71 = .ok (.getfield 93, 3) := by decide +kernel
theorem dX9_readStatement_74 : decode cX9_readStatement 74 = .ok (.aload_n 0, 1) := by decide +kernel
theorem dX9_readStatement_75 : decode cX9_readStatement 75 = .ok (.getfield 22, 3) := by decide +kernel
theorem dX9_readStatement_78 : decode cX9_readStatement 78 = .ok (.getfield 96, 3) := by decide +kernel
theorem dX9_readStatement_81 : decode cX9_readStatement 81 = .ok (.invokevirtual 87, 3) := by decide +kernel
theorem dX9_readStatement_84 : decode cX9_readStatement 84 = .ok (.ireturn, 1) := by decide +kernel
theorem dX9_readStatement_85 : decode cX9_readStatement 85 = .ok (.aload_n 0, 1) := by decide +kernel
theorem dX9_readStatement_86 : decode cX9_readStatement 86 = .ok (.iconst 1, 1) := by decide +kernel
theorem dX9_readStatement_87 : decode cX9_readStatement 87 = .ok (.invokevirtual 98, 3) := by decide +kernel
theorem dX9_readStatement_90 : decode cX9_readStatement 90 = .ok (.ireturn, 1) := by decide +kernel
theorem dX9_readPeople_0 : decode cX9_readPeople 0 = .ok (.iload_n 1, 1) := by decide +kernel
theorem dX9_readPeople_1 : decode cX9_readPeople 1 = .ok (.ifCond .ne 9, 3) := by decide +kernel
theorem dX9_readPeople_4 : decode cX9_readPeople 4 = .ok (.aload_n 0, 1) := by decide +kernel
theorem dX9_readPeople_5 : decode cX9_readPeople 5 = .ok (.iconst 2, 1) := by decide +kernel
theorem dX9_readPeople_6 : decode cX9_readPeople 6 = .ok (.invokevirtual 98, 3) := by decide +kernel
theorem dX9_readPeople_9 : decode cX9_readPeople 9 = .ok (.ireturn, 1) := by decide +kernel
theorem dX9_readPeople_10 : decode cX9_readPeople 10 = .ok (.aload_n 0, 1) := by decide +kernel
theorem dX9_readPeople_11 : decode cX9_readPeople 11 = .ok (.iconst 2, 1) := by decide +kernel
theorem dX9_readPeople_12 : decode cX9_readPeople 12 = .ok (.bipush 10, 2) := by decide +kernel
theorem dX9_readPeople_14 : decode cX9_readPeople 14 = .ok (.invokevirtual 102, 3) := by decide +kernel
theorem dX9_readPeople_17 : decode cX9_readPeople 17 = .ok (.ifCond .ne 5, 3) := by decide +kernel
theorem dX9_readPeople_20 : decode cX9_readPeople 20 = .ok (.iconst 0, 1) := by decide +kernel
theorem dX9_readPeople_21 : decode cX9_readPeople 21 = .ok (.ireturn, 1) := by decide +kernel
theorem dX9_readPeople_22 : decode cX9_readPeople 22 = .ok (.aload_n 0, 1) := by decide +kernel
theorem dX9_readPeople_23 : decode cX9_readPeople 23 = .ok (.getfield 22, 3) := by decide +kernel
theorem dX9_readPeople_26 : decode cX9_readPeople 26 = .ok (.aload_n 0, 1) := by decide +kernel
theorem dX9_readPeople_27 : decode cX9_readPeople 27 = .ok (.getfield 44, 3) := by decide +kernel
theorem dX9_readPeople_30 : decode cX9_readPeople 30 = .ok (.putfield 96, 3) := by decide +kernel
theorem dX9_readPeople_33 : decode cX9_readPeople 33 = .ok (.aload_n 0, 1) := by decide +kernel
theorem dX9_readPeople_34 : decode cX9_readPeople 34 = .ok (.invokevirtual 106, 3) := by decide +kernel
theorem dX9_readPeople_37 : decode cX9_readPeople 37 = .ok (.ireturn, 1) := by decide +kernel
theorem dX9_readLine_0 : decode cX9_readLine 0 = .ok (.aload_n 0, 1) := by decide +kernel
theorem dX9_readLine_1 : decode cX9_readLine 1 = .ok (.getfield 22, 3) := by decide +kernel
theorem dX9_readLine_4 : decode cX9_readLine 4 = .ok (.invokevirtual 109, 3) := by decide +kernel
theorem dX9_readLine_7 : decode cX9_readLine 7 = .ok (.ifCond .eq 9, 3) := by decide +kernel
theorem dX9_readLine_10 : decode cX9_readLine 10 = .ok (.aload_n 0, 1) := by decide +kernel
theorem dX9_readLine_11 : decode cX9_readLine 11 = .ok (.iconst 4, 1) := by decide +kernel
theorem dX9_readLine_12 : decode cX9_readLine 12 = .ok (.invokevirtual 98, 3) := by decide +kernel
theorem dX9_readLine_15 : decode cX9_readLine 15 = .ok (.ireturn, 1) := by decide +kernel
theorem dX9_readLine_16 : decode cX9_readLine 16 = .ok (.aload_n 0, 1) := by decide +kernel
theorem dX9_readLine_17 : decode cX9_readLine 17 = .ok (.iconst 0, 1) := by decide +kernel
theorem dX9_readLine_18 : decode cX9_readLine 18 = .ok (.aload_n 0, 1) := by decide +kernel
theorem dX9_readLine_19 : decode cX9_readLine 19 = .ok (.getfield 22, 3) := by decide +kernel
theorem dX9_readLine_22 : decode cX9_readLine 22 = .ok (.getfield 96, 3) := by decide +kernel
theorem dX9_readLine_25 : decode cX9_readLine 25 = .ok (.iconst 1, 1) := by decide +kernel
theorem dX9_readLine_26 : decode cX9_readLine 26 = .ok (.isub, 1) := by decide +kernel
theorem dX9_readLine_27 : decode cX9_readLine 27 = .ok (.invokevirtual 102, 3) := by decide +kernel
theorem dX9_readLine_30 : decode cX9_readLine 30 = .ok (.ifCond .ne 5, 3) := by decide +kernel
theorem dX9_readLine_33 : decode cX9_readLine 33 = .ok (.iconst 0, 1) := by decide +kernel
theorem dX9_readLine_34 : decode cX9_readLine 34 = .ok (.ireturn, 1) := by decide +kernel
theorem dX9_readLine_35 : decode cX9_readLine 35 = .ok (.aload_n 0, 1) := by decide +kernel
theorem dX9_readLine_36 : decode cX9_readLine 36 = .ok (.getfield 44, 3) := by decide +kernel
theorem dX9_readLine_39 : decode cX9_readLine 39 = .ok (.istore_n 1, 1) := by decide +kernel
theorem dX9_readLine_40 : decode cX9_readLine 40 = .ok (.aload_n 0, 1) := by decide +kernel
theorem dX9_readLine_41 : decode cX9_readLine 41 = .ok (.iconst 0, 1) := by decide +kernel
theorem dX9_readLine_42 : decode cX9_readLine 42 = .ok (.aload_n 0, 1) := by decide +kernel
theorem dX9_readLine_43 : decode cX9_readLine 43 = .ok (.getfield 22, 3) := by decide +kernel
theorem dX9_readLine_46 : decode cX9_readLine 46 = .ok (.getfield 96, 3) := by decide +kernel
theorem dX9_readLine_49 : decode cX9_readLine 49 = .ok (.iconst 1, 1) := by decide +kernel
theorem dX9_readLine_50 : decode cX9_readLine 50 = .ok (.isub, 1) := by decide +kernel
theorem dX9_readLine_51 : decode cX9_readLine 51 = .ok (.invokevirtual 102, 3) := by decide +kernel
theorem dX9_readLine_54 : decode cX9_readLine 54 = .ok (.ifCond .ne 5, 3) := by decide +kernel
theorem dX9_readLine_57 : decode cX9_readLine 57 = .ok (.iconst 0, 1) := by decide +kernel
theorem dX9_readLine_58 : decode cX9_readLine 58 = .ok (.ireturn, 1) := by decide +kernel
theorem dX9_readLine_59 : decode cX9_readLine 59 = .ok (.aload_n 0, 1) := by decide +kernel
theorem dX9_readLine_60 : decode cX9_readLine 60 = .ok (.getfield 44, 3) := by decide +kernel
theorem dX9_readLine_63 : decode cX9_readLine 63 = .ok (.istore_n 2, 1) := by decide +kernel
theorem dX9_readLine_64 : decode cX9_readLine 64 = .ok (.iload_n 2, 1) := by decide +kernel
theorem dX9_readLine_65 : decode cX9_readLine 65 = .ok (.iload_n 1, 1) := by decide +kernel
theorem dX9_readLine_66 : decode cX9_readLine 66 = .ok (.if_icmp .ne 9, 3) := by decide +kernel
theorem dX9_readLine_69 : decode cX9_readLine 69 = .ok (.aload_n 0, 1) := by decide +kernel
theorem dX9_readLine_70 : decode cX9_readLine 70 = .ok (.iconst 3, 1) := by decide +kernel
theorem dX9_readLine_71 : decode cX9_readLine 71 = .ok (.invokevirtual 98, 3) := by decide +kernel
theorem dX9_readLine_74 : decode cX9_readLine 74 = .ok (.ireturn, 1) := by decide +kernel
theorem dX9_readLine_75 : decode cX9_readLine 75 = .ok (.aload_n 0, 1) := by decide +kernel
theorem dX9_readLine_76 : decode cX9_readLine 76 = .ok (.invokevirtual 56, 3) := by decide +kernel
theorem dX9_readLine_79 : decode cX9_readLine 79 = .ok (.aload_n 0, 1) := by decide +kernel
theorem dX9_readLine_80 : decode cX9_readLine 80 = .ok (.ldc 112, 2) := by decide +kernel
theorem dX9_readLine_82 : decode cX9_readLine 82 = .ok (.invokevirtual 65, 3) := by decide +kernel
theorem dX9_readLine_85 : decode cX9_readLine 85 = .ok (.istore_n 3, 1) := by decide +kernel
theorem dX9_readLine_86 : decode cX9_readLine 86 = .ok (.iload_n 3, 1) := by decide +kernel
theorem dX9_readLine_87 : decode cX9_readLine 87 = .ok (.ifCond .ne 18, 3) := by decide +kernel
theorem dX9_readLine_90 : decode cX9_readLine 90 = .ok (.aload_n 0, 1) := by decide +kernel
theorem dX9_readLine_91 : decode cX9_readLine 91 = .ok (.ldc 114, 2) := by decide +kernel
theorem dX9_readLine_93 : decode cX9_readLine 93 = .ok (.invokevirtual 65, 3) := by decide +kernel
theorem dX9_readLine_96 : decode cX9_readLine 96 = .ok (.ifCond .ne 9, 3) := by decide +kernel
theorem dX9_readLine_99 : decode cX9_readLine 99 = .ok (.aload_n 0, 1) := by decide +kernel
theorem dX9_readLine_100 : decode cX9_readLine 100 = .ok (.iconst 1, 1) := by decide +kernel
theorem dX9_readLine_101 : decode cX9_readLine 101 = .ok (.invokevirtual 98, 3) := by decide +kernel
theorem dX9_readLine_104 : decode cX9_readLine 104 = .ok (.ireturn, 1) := by decide +kernel
theorem dX9_readLine_105 : decode cX9_readLine 105 = .ok (.aload_n 0, 1) := by decide +kernel
theorem dX9_readLine_106 : decode cX9_readLine 106 = .ok (.iconst 0, 1) := by decide +kernel
theorem dX9_readLine_107 : decode cX9_readLine 107 = .ok (.sipush 999, 3) := by decide +kernel
theorem dX9_readLine_110 : decode cX9_readLine 110 = .ok (.invokevirtual 102, 3) := by decide +kernel
theorem dX9_readLine_113 : decode cX9_readLine 113 = .ok (.ifCond .ne 5, 3) := by decide +kernel
theorem dX9_readLine_116 : decode cX9_readLine 116 = .ok (.iconst 0, 1) := by decide +kernel
theorem dX9_readLine_117 : decode cX9_readLine 117 = .ok (.ireturn, 1) := by decide +kernel
theorem dX9_readLine_118 : decode cX9_readLine 118 = .ok (.aload_n 0, 1) := by decide +kernel
theorem dX9_readLine_119 : decode cX9_readLine 119 = .ok (.getfield 22, 3) := by decide +kernel
theorem dX9_readLine_122 : decode cX9_readLine 122 = .ok (.iload_n 1, 1) := by decide +kernel
theorem dX9_readLine_123 : decode cX9_readLine 123 = .ok (.iload_n 2, 1) := by decide +kernel
theorem dX9_readLine_124 : decode cX9_readLine 124 = .ok (.iload_n 3, 1) := by decide +kernel
theorem dX9_readLine_125 : decode cX9_readLine 125 = .ok (.aload_n 0, 1) := by decide +kernel
theorem dX9_readLine_126 : decode cX9_readLine 126 = .ok (.getfield 44, 3) := by decide +kernel
theorem dX9_readLine_129 : decode cX9_readLine 129 = .ok (.invokevirtual 116, 3) := by decide +kernel
theorem dX9_readLine_132 : decode cX9_readLine 132 = .ok (.aload_n 0, 1) := by decide +kernel
theorem dX9_readLine_133 : decode cX9_readLine 133 = .ok (.invokevirtual 106, 3) := by decide +kernel
theorem dX9_readLine_136 : decode cX9_readLine 136 = .ok (.ireturn, 1) := by decide +kernel
theorem dX9_readSpan_0 : decode cX9_readSpan 0 = .ok (.aload_n 1, 1) := by decide +kernel
theorem dX9_readSpan_1 : decode cX9_readSpan 1 = .ok (.invokevirtual 120, 3) := by decide +kernel
theorem dX9_readSpan_4 : decode cX9_readSpan 4 = .ok (.ifCond .eq 9, 3) := by decide +kernel
theorem dX9_readSpan_7 : decode cX9_readSpan 7 = .ok (.aload_n 0, 1) := by decide +kernel
theorem dX9_readSpan_8 : decode cX9_readSpan 8 = .ok (.iconst 4, 1) := by decide +kernel
theorem dX9_readSpan_9 : decode cX9_readSpan 9 = .ok (.invokevirtual 98, 3) := by decide +kernel
theorem dX9_readSpan_12 : decode cX9_readSpan 12 = .ok (.ireturn, 1) := by decide +kernel
theorem dX9_readSpan_13 : decode cX9_readSpan 13 = .ok (.aload_n 0, 1) := by decide +kernel
theorem dX9_readSpan_14 : decode cX9_readSpan 14 = .ok (.iconst 0, 1) := by decide +kernel
theorem dX9_readSpan_15 : decode cX9_readSpan 15 = .ok (.iload_n 2, 1) := by decide +kernel
theorem dX9_readSpan_16 : decode cX9_readSpan 16 = .ok (.iconst 1, 1) := by decide +kernel
theorem dX9_readSpan_17 : decode cX9_readSpan 17 = .ok (.isub, 1) := by decide +kernel
theorem dX9_readSpan_18 : decode cX9_readSpan 18 = .ok (.invokevirtual 102, 3) := by decide +kernel
theorem dX9_readSpan_21 : decode cX9_readSpan 21 = .ok (.ifCond .ne 5, 3) := by decide +kernel
theorem dX9_readSpan_24 : decode cX9_readSpan 24 = .ok (.iconst 0, 1) := by decide +kernel
theorem dX9_readSpan_25 : decode cX9_readSpan 25 = .ok (.ireturn, 1) := by decide +kernel
theorem dX9_readSpan_26 : decode cX9_readSpan 26 = .ok (.aload_n 0, 1) := by decide +kernel
theorem dX9_readSpan_27 : decode cX9_readSpan 27 = .ok (.getfield 44, 3) := by decide +kernel
theorem dX9_readSpan_30 : decode cX9_readSpan 30 = .ok (.istore_n 3, 1) := by decide +kernel
theorem dX9_readSpan_31 : decode cX9_readSpan 31 = .ok (.aload_n 0, 1) := by decide +kernel
theorem dX9_readSpan_32 : decode cX9_readSpan 32 = .ok (.iconst 1, 1) := by decide +kernel
theorem dX9_readSpan_33 : decode cX9_readSpan 33 = .ok (.sipush 999, 3) := by decide +kernel
theorem dX9_readSpan_36 : decode cX9_readSpan 36 = .ok (.invokevirtual 102, 3) := by decide +kernel
theorem dX9_readSpan_39 : decode cX9_readSpan 39 = .ok (.ifCond .ne 5, 3) := by decide +kernel
theorem dX9_readSpan_42 : decode cX9_readSpan 42 = .ok (.iconst 0, 1) := by decide +kernel
theorem dX9_readSpan_43 : decode cX9_readSpan 43 = .ok (.ireturn, 1) := by decide +kernel
theorem dX9_readSpan_44 : decode cX9_readSpan 44 = .ok (.aload_n 0, 1) := by decide +kernel
theorem dX9_readSpan_45 : decode cX9_readSpan 45 = .ok (.getfield 44, 3) := by decide +kernel
theorem dX9_readSpan_48 : decode cX9_readSpan 48 = .ok (.istore 4, 2) := by decide +kernel
theorem dX9_readSpan_50 : decode cX9_readSpan 50 = .ok (.aload_n 0, 1) := by decide +kernel
theorem dX9_readSpan_51 : decode cX9_readSpan 51 = .ok (.iload 4, 2) := by decide +kernel
theorem dX9_readSpan_53 : decode cX9_readSpan 53 = .ok (.sipush 999, 3) := by decide +kernel
theorem dX9_readSpan_56 : decode cX9_readSpan 56 = .ok (.invokevirtual 102, 3) := by decide +kernel
theorem dX9_readSpan_59 : decode cX9_readSpan 59 = .ok (.ifCond .ne 5, 3) := by decide +kernel
theorem dX9_readSpan_62 : decode cX9_readSpan 62 = .ok (.iconst 0, 1) := by decide +kernel
theorem dX9_readSpan_63 : decode cX9_readSpan 63 = .ok (.ireturn, 1) := by decide +kernel
theorem dX9_readSpan_64 : decode cX9_readSpan 64 = .ok (.aload_n 1, 1) := by decide +kernel
theorem dX9_readSpan_65 : decode cX9_readSpan 65 = .ok (.iload_n 3, 1) := by decide +kernel
theorem dX9_readSpan_66 : decode cX9_readSpan 66 = .ok (.iload 4, 2) := by decide +kernel
theorem dX9_readSpan_68 : decode cX9_readSpan 68 = .ok (.aload_n 0, 1) := by decide +kernel
theorem dX9_readSpan_69 : decode cX9_readSpan 69 = .ok (.getfield 44, 3) := by decide +kernel
theorem dX9_readSpan_72 : decode cX9_readSpan 72 = .ok (.invokevirtual 123, 3) := by decide +kernel
theorem dX9_readSpan_75 : decode cX9_readSpan 75 = .ok (.aload_n 0, 1) := by decide +kernel
theorem dX9_readSpan_76 : decode cX9_readSpan 76 = .ok (.invokevirtual 106, 3) := by decide +kernel
theorem dX9_readSpan_79 : decode cX9_readSpan 79 = .ok (.ireturn, 1) := by decide +kernel
theorem dX9_readNumber_0 : decode cX9_readNumber 0 = .ok (.aload_n 0, 1) := by decide +kernel
theorem dX9_readNumber_1 : decode cX9_readNumber 1 = .ok (.invokevirtual 56, 3) := by decide +kernel
theorem dX9_readNumber_4 : decode cX9_readNumber 4 = .ok (.aload_n 0, 1) := by decide +kernel
theorem dX9_readNumber_5 : decode cX9_readNumber 5 = .ok (.getfield 35, 3) := by decide +kernel
theorem dX9_readNumber_8 : decode cX9_readNumber 8 = .ok (.iconst 2, 1) := by decide +kernel
theorem dX9_readNumber_9 : decode cX9_readNumber 9 = .ok (.if_icmp .eq 9, 3) := by decide +kernel
theorem dX9_readNumber_12 : decode cX9_readNumber 12 = .ok (.aload_n 0, 1) := by decide +kernel
theorem dX9_readNumber_13 : decode cX9_readNumber 13 = .ok (.iconst 1, 1) := by decide +kernel
theorem dX9_readNumber_14 : decode cX9_readNumber 14 = .ok (.invokevirtual 98, 3) := by decide +kernel
theorem dX9_readNumber_17 : decode cX9_readNumber 17 = .ok (.ireturn, 1) := by decide +kernel
theorem dX9_readNumber_18 : decode cX9_readNumber 18 = .ok (.aload_n 0, 1) := by decide +kernel
theorem dX9_readNumber_19 : decode cX9_readNumber 19 = .ok (.iconst 0, 1) := by decide +kernel
theorem dX9_readNumber_20 : decode cX9_readNumber 20 = .ok (.putfield 44, 3) := by decide +kernel
theorem dX9_readNumber_23 : decode cX9_readNumber 23 = .ok (.aload_n 0, 1) := by decide +kernel
theorem dX9_readNumber_24 : decode cX9_readNumber 24 = .ok (.getfield 38, 3) := by decide +kernel
theorem dX9_readNumber_27 : decode cX9_readNumber 27 = .ok (.istore_n 3, 1) := by decide +kernel
theorem dX9_readNumber_28 : decode cX9_readNumber 28 = .ok (.iload_n 3, 1) := by decide +kernel
theorem dX9_readNumber_29 : decode cX9_readNumber 29 = .ok (.aload_n 0, 1) := by decide +kernel
theorem dX9_readNumber_30 : decode cX9_readNumber 30 = .ok (.getfield 41, 3) := by decide +kernel
theorem dX9_readNumber_33 : decode cX9_readNumber 33 = .ok (.if_icmp .ge 30, 3) := by decide +kernel
theorem dX9_readNumber_36 : decode cX9_readNumber 36 = .ok (.aload_n 0, 1) := by decide +kernel
theorem dX9_readNumber_37 : decode cX9_readNumber 37 = .ok (.aload_n 0, 1) := by decide +kernel
theorem dX9_readNumber_38 : decode cX9_readNumber 38 = .ok (.getfield 44, 3) := by decide +kernel
theorem dX9_readNumber_41 : decode cX9_readNumber 41 = .ok (.bipush 10, 2) := by decide +kernel
theorem dX9_readNumber_43 : decode cX9_readNumber 43 = .ok (.imul, 1) := by decide +kernel
theorem dX9_readNumber_44 : decode cX9_readNumber 44 = .ok (.aload_n 0, 1) := by decide +kernel
theorem dX9_readNumber_45 : decode cX9_readNumber 45 = .ok (.getfield 9, 3) := by decide +kernel
theorem dX9_readNumber_48 : decode cX9_readNumber 48 = .ok (.iload_n 3, 1) := by decide +kernel
theorem dX9_readNumber_49 : decode cX9_readNumber 49 = .ok (.baload, 1) := by decide +kernel
theorem dX9_readNumber_50 : decode cX9_readNumber 50 = .ok (.iadd, 1) := by decide +kernel
theorem dX9_readNumber_51 : decode cX9_readNumber 51 = .ok (.bipush 48, 2) := by decide +kernel
theorem dX9_readNumber_53 : decode cX9_readNumber 53 = .ok (.isub, 1) := by decide +kernel
theorem dX9_readNumber_54 : decode cX9_readNumber 54 = .ok (.putfield 44, 3) := by decide +kernel
theorem dX9_readNumber_57 : decode cX9_readNumber 57 = .ok (.iinc 3 1, 3) := by decide +kernel
theorem dX9_readNumber_60 : decode cX9_readNumber 60 = .ok (.goto (-32), 3) := by decide +kernel
theorem dX9_readNumber_63 : decode cX9_readNumber 63 = .ok (.aload_n 0, 1) := by decide +kernel
theorem dX9_readNumber_64 : decode cX9_readNumber 64 = .ok (.getfield 44, 3) := by decide +kernel
theorem dX9_readNumber_67 : decode cX9_readNumber 67 = .ok (.iload_n 1, 1) := by decide +kernel
theorem dX9_readNumber_68 : decode cX9_readNumber 68 = .ok (.if_icmp .lt 11, 3) := by decide +kernel
theorem dX9_readNumber_71 : decode cX9_readNumber 71 = .ok (.aload_n 0, 1) := by decide +kernel
theorem dX9_readNumber_72 : decode cX9_readNumber 72 = .ok (.getfield 44, 3) := by decide +kernel
theorem dX9_readNumber_75 : decode cX9_readNumber 75 = .ok (.iload_n 2, 1) := by decide +kernel
theorem dX9_readNumber_76 : decode cX9_readNumber 76 = .ok (.if_icmp .le 11, 3) := by decide +kernel
theorem dX9_readNumber_79 : decode cX9_readNumber 79 = .ok (.aload_n 0, 1) := by decide +kernel
theorem dX9_readNumber_80 : decode cX9_readNumber 80 = .ok (.iconst 3, 1) := by decide +kernel
theorem dX9_readNumber_81 : decode cX9_readNumber 81 = .ok (.invokevirtual 98, 3) := by decide +kernel
theorem dX9_readNumber_84 : decode cX9_readNumber 84 = .ok (.ifCond .eq 7, 3) := by decide +kernel
theorem dX9_readNumber_87 : decode cX9_readNumber 87 = .ok (.iconst 1, 1) := by decide +kernel
theorem dX9_readNumber_88 : decode cX9_readNumber 88 = .ok (.goto 4, 3) := by decide +kernel
theorem dX9_readNumber_91 : decode cX9_readNumber 91 = .ok (.iconst 0, 1) := by decide +kernel
theorem dX9_readNumber_92 : decode cX9_readNumber 92 = .ok (.ireturn, 1) := by decide +kernel
theorem dX9_readSemicolon_0 : decode cX9_readSemicolon 0 = .ok (.aload_n 0, 1) := by decide +kernel
theorem dX9_readSemicolon_1 : decode cX9_readSemicolon 1 = .ok (.invokevirtual 56, 3) := by decide +kernel
theorem dX9_readSemicolon_4 : decode cX9_readSemicolon 4 = .ok (.aload_n 0, 1) := by decide +kernel
theorem dX9_readSemicolon_5 : decode cX9_readSemicolon 5 = .ok (.getfield 35, 3) := by decide +kernel
theorem dX9_readSemicolon_8 : decode cX9_readSemicolon 8 = .ok (.iconst 3, 1) := by decide +kernel
theorem dX9_readSemicolon_9 : decode cX9_readSemicolon 9 = .ok (.if_icmp .eq 11, 3) := by decide +kernel
theorem dX9_readSemicolon_12 : decode cX9_readSemicolon 12 = .ok (.aload_n 0, 1) := by decide +kernel
theorem dX9_readSemicolon_13 : decode cX9_readSemicolon 13 = .ok (.iconst 1, 1) := by decide +kernel
theorem dX9_readSemicolon_14 : decode cX9_readSemicolon 14 = .ok (.invokevirtual 98, 3) := by decide +kernel
theorem dX9_readSemicolon_17 : decode cX9_readSemicolon 17 = .ok (.ifCond .eq 7, 3) := by decide +kernel
theorem dX9_readSemicolon_20 : decode cX9_readSemicolon 20 = .ok (.iconst 1, 1) := by decide +kernel
theorem dX9_readSemicolon_21 : decode cX9_readSemicolon 21 = .ok (.goto 4, 3) := by decide +kernel
theorem dX9_readSemicolon_24 : decode cX9_readSemicolon 24 = .ok (.iconst 0, 1) := by decide +kernel
theorem dX9_readSemicolon_25 : decode cX9_readSemicolon 25 = .ok (.ireturn, 1) := by decide +kernel
theorem dX9_isWord_0 : decode cX9_isWord 0 = .ok (.aload_n 0, 1) := by decide +kernel
theorem dX9_isWord_1 : decode cX9_isWord 1 = .ok (.getfield 35, 3) := by decide +kernel
theorem dX9_isWord_4 : decode cX9_isWord 4 = .ok (.iconst 1, 1) := by decide +kernel
theorem dX9_isWord_5 : decode cX9_isWord 5 = .ok (.if_icmp .ne 19, 3) := by decide +kernel
theorem dX9_isWord_8 : decode cX9_isWord 8 = .ok (.aload_n 0, 1) := by decide +kernel
theorem dX9_isWord_9 : decode cX9_isWord 9 = .ok (.getfield 41, 3) := by decide +kernel
theorem dX9_isWord_12 : decode cX9_isWord 12 = .ok (.aload_n 0, 1) := by decide +kernel
theorem dX9_isWord_13 : decode cX9_isWord 13 = .ok (.getfield 38, 3) := by decide +kernel
theorem dX9_isWord_16 : decode cX9_isWord 16 = .ok (.isub, 1) := by decide +kernel
theorem dX9_isWord_17 : decode cX9_isWord 17 = .ok (.aload_n 1, 1) := by decide +kernel
theorem dX9_isWord_18 : decode cX9_isWord 18 = .ok (.invokevirtual 127, 3) := by decide +kernel
theorem dX9_isWord_21 : decode cX9_isWord 21 = .ok (.if_icmp .eq 5, 3) := by decide +kernel
theorem dX9_isWord_24 : decode cX9_isWord 24 = .ok (.iconst 0, 1) := by decide +kernel
theorem dX9_isWord_25 : decode cX9_isWord 25 = .ok (.ireturn, 1) := by decide +kernel
theorem dX9_isWord_26 : decode cX9_isWord 26 = .ok (.iconst 0, 1) := by decide +kernel
theorem dX9_isWord_27 : decode cX9_isWord 27 = .ok (.istore_n 2, 1) := by decide +kernel
theorem dX9_isWord_28 : decode cX9_isWord 28 = .ok (.iload_n 2, 1) := by decide +kernel
theorem dX9_isWord_29 : decode cX9_isWord 29 = .ok (.aload_n 1, 1) := by decide +kernel
theorem dX9_isWord_30 : decode cX9_isWord 30 = .ok (.invokevirtual 127, 3) := by decide +kernel
theorem dX9_isWord_33 : decode cX9_isWord 33 = .ok (.if_icmp .ge 30, 3) := by decide +kernel
theorem dX9_isWord_36 : decode cX9_isWord 36 = .ok (.aload_n 0, 1) := by decide +kernel
theorem dX9_isWord_37 : decode cX9_isWord 37 = .ok (.getfield 9, 3) := by decide +kernel
theorem dX9_isWord_40 : decode cX9_isWord 40 = .ok (.aload_n 0, 1) := by decide +kernel
theorem dX9_isWord_41 : decode cX9_isWord 41 = .ok (.getfield 38, 3) := by decide +kernel
theorem dX9_isWord_44 : decode cX9_isWord 44 = .ok (.iload_n 2, 1) := by decide +kernel
theorem dX9_isWord_45 : decode cX9_isWord 45 = .ok (.iadd, 1) := by decide +kernel
theorem dX9_isWord_46 : decode cX9_isWord 46 = .ok (.baload, 1) := by decide +kernel
theorem dX9_isWord_47 : decode cX9_isWord 47 = .ok (.aload_n 1, 1) := by decide +kernel
theorem dX9_isWord_48 : decode cX9_isWord 48 = .ok (.iload_n 2, 1) := by decide +kernel
theorem dX9_isWord_49 : decode cX9_isWord 49 = .ok (.invokevirtual 132, 3) := by decide +kernel
theorem dX9_isWord_52 : decode cX9_isWord 52 = .ok (.if_icmp .eq 5, 3) := by decide +kernel
theorem dX9_isWord_55 : decode cX9_isWord 55 = .ok (.iconst 0, 1) := by decide +kernel
theorem dX9_isWord_56 : decode cX9_isWord 56 = .ok (.ireturn, 1) := by decide +kernel
theorem dX9_isWord_57 : decode cX9_isWord 57 = .ok (.iinc 2 1, 3) := by decide +kernel
theorem dX9_isWord_60 : decode cX9_isWord 60 = .ok (.goto (-32), 3) := by decide +kernel
theorem dX9_isWord_63 : decode cX9_isWord 63 = .ok (.iconst 1, 1) := by decide +kernel
theorem dX9_isWord_64 : decode cX9_isWord 64 = .ok (.ireturn, 1) := by decide +kernel
theorem dX9_nextToken_0 : decode cX9_nextToken 0 = .ok (.aload_n 0, 1) := by decide +kernel
theorem dX9_nextToken_1 : decode cX9_nextToken 1 = .ok (.invokevirtual 136, 3) := by decide +kernel
theorem dX9_nextToken_4 : decode cX9_nextToken 4 = .ok (.aload_n 0, 1) := by decide +kernel
theorem dX9_nextToken_5 : decode cX9_nextToken 5 = .ok (.getfield 38, 3) := by decide +kernel
theorem dX9_nextToken_8 : decode cX9_nextToken 8 = .ok (.aload_n 0, 1) := by decide +kernel
theorem dX9_nextToken_9 : decode cX9_nextToken 9 = .ok (.getfield 32, 3) := by decide +kernel
theorem dX9_nextToken_12 : decode cX9_nextToken 12 = .ok (.if_icmp .lt 11, 3) := by decide +kernel
theorem dX9_nextToken_15 : decode cX9_nextToken 15 = .ok (.aload_n 0, 1) := by decide +kernel
theorem dX9_nextToken_16 : decode cX9_nextToken 16 = .ok (.iconst 0, 1) := by decide +kernel
theorem dX9_nextToken_17 : decode cX9_nextToken 17 = .ok (.putfield 35, 3) := by decide +kernel
theorem dX9_nextToken_20 : decode cX9_nextToken 20 = .ok (.goto 109, 3) := by decide +kernel
theorem dX9_nextToken_23 : decode cX9_nextToken 23 = .ok (.aload_n 0, 1) := by decide +kernel
theorem dX9_nextToken_24 : decode cX9_nextToken 24 = .ok (.bipush 97, 2) := by decide +kernel
theorem dX9_nextToken_26 : decode cX9_nextToken 26 = .ok (.bipush 122, 2) := by decide +kernel
theorem dX9_nextToken_28 : decode cX9_nextToken 28 = .ok (.invokevirtual 139, 3) := by decide +kernel
theorem dX9_nextToken_31 : decode cX9_nextToken 31 = .ok (.ifCond .eq 29, 3) := by decide +kernel
theorem dX9_nextToken_34 : decode cX9_nextToken 34 = .ok (.aload_n 0, 1) := by decide +kernel
theorem dX9_nextToken_35 : decode cX9_nextToken 35 = .ok (.aload_n 0, 1) := by decide +kernel
theorem dX9_nextToken_36 : decode cX9_nextToken 36 = .ok (.getfield 41, 3) := by decide +kernel
theorem dX9_nextToken_39 : decode cX9_nextToken 39 = .ok (.aload_n 0, 1) := by decide +kernel
theorem dX9_nextToken_40 : decode cX9_nextToken 40 = .ok (.getfield 38, 3) := by decide +kernel
theorem dX9_nextToken_43 : decode cX9_nextToken 43 = .ok (.isub, 1) := by decide +kernel
theorem dX9_nextToken_44 : decode cX9_nextToken 44 = .ok (.bipush 8, 2) := by decide +kernel
theorem dX9_nextToken_46 : decode cX9_nextToken 46 = .ok (.if_icmp .gt 7, 3) := by decide +kernel
theorem dX9_nextToken_49 : decode cX9_nextToken 49 = .ok (.iconst 1, 1) := by decide +kernel
theorem dX9_nextToken_50 : decode cX9_nextToken 50 = .ok (.goto 4, 3) := by decide +kernel
theorem dX9_nextToken_53 : decode cX9_nextToken 53 = .ok (.iconst 4, 1) := by decide +kernel
theorem dX9_nextToken_54 : decode cX9_nextToken 54 = .ok (.putfield 35, 3) := by decide +kernel
theorem dX9_nextToken_57 : decode cX9_nextToken 57 = .ok (.goto 72, 3) := by decide +kernel
theorem dX9_nextToken_60 : decode cX9_nextToken 60 = .ok (.aload_n 0, 1) := by decide +kernel
theorem dX9_nextToken_61 : decode cX9_nextToken 61 = .ok (.bipush 48, 2) := by decide +kernel
theorem dX9_nextToken_63 : decode cX9_nextToken 63 = .ok (.bipush 57, 2) := by decide +kernel
theorem dX9_nextToken_65 : decode cX9_nextToken 65 = .ok (.invokevirtual 139, 3) := by decide +kernel
theorem dX9_nextToken_68 : decode cX9_nextToken 68 = .ok (.ifCond .eq 28, 3) := by decide +kernel
theorem dX9_nextToken_71 : decode cX9_nextToken 71 = .ok (.aload_n 0, 1) := by decide +kernel
theorem dX9_nextToken_72 : decode cX9_nextToken 72 = .ok (.aload_n 0, 1) := by decide +kernel
theorem dX9_nextToken_73 : decode cX9_nextToken 73 = .ok (.getfield 41, 3) := by decide +kernel
theorem dX9_nextToken_76 : decode cX9_nextToken 76 = .ok (.aload_n 0, 1) := by decide +kernel
theorem dX9_nextToken_77 : decode cX9_nextToken 77 = .ok (.getfield 38, 3) := by decide +kernel
theorem dX9_nextToken_80 : decode cX9_nextToken 80 = .ok (.isub, 1) := by decide +kernel
theorem dX9_nextToken_81 : decode cX9_nextToken 81 = .ok (.iconst 4, 1) := by decide +kernel
theorem dX9_nextToken_82 : decode cX9_nextToken 82 = .ok (.if_icmp .gt 7, 3) := by decide +kernel
theorem dX9_nextToken_85 : decode cX9_nextToken 85 = .ok (.iconst 2, 1) := by decide +kernel
theorem dX9_nextToken_86 : decode cX9_nextToken 86 = .ok (.goto 4, 3) := by decide +kernel
theorem dX9_nextToken_89 : decode cX9_nextToken 89 = .ok (.iconst 4, 1) := by decide +kernel
theorem dX9_nextToken_90 : decode cX9_nextToken 90 = .ok (.putfield 35, 3) := by decide +kernel
theorem dX9_nextToken_93 : decode cX9_nextToken 93 = .ok (.goto 36, 3) := by decide +kernel
theorem dX9_nextToken_96 : decode cX9_nextToken 96 = .ok (.aload_n 0, 1) := by decide +kernel
theorem dX9_nextToken_97 : decode cX9_nextToken 97 = .ok (.aload_n 0, 1) := by decide +kernel
theorem dX9_nextToken_98 : decode cX9_nextToken 98 = .ok (.getfield 9, 3) := by decide +kernel
theorem dX9_nextToken_101 : decode cX9_nextToken 101 = .ok (.aload_n 0, 1) := by decide +kernel
theorem dX9_nextToken_102 : decode cX9_nextToken 102 = .ok (.getfield 38, 3) := by decide +kernel
theorem dX9_nextToken_105 : decode cX9_nextToken 105 = .ok (.baload, 1) := by decide +kernel
theorem dX9_nextToken_106 : decode cX9_nextToken 106 = .ok (.bipush 59, 2) := by decide +kernel
theorem dX9_nextToken_108 : decode cX9_nextToken 108 = .ok (.if_icmp .ne 7, 3) := by decide +kernel
theorem dX9_nextToken_111 : decode cX9_nextToken 111 = .ok (.iconst 3, 1) := by decide +kernel
theorem dX9_nextToken_112 : decode cX9_nextToken 112 = .ok (.goto 4, 3) := by decide +kernel
theorem dX9_nextToken_115 : decode cX9_nextToken 115 = .ok (.iconst 4, 1) := by decide +kernel
theorem dX9_nextToken_116 : decode cX9_nextToken 116 = .ok (.putfield 35, 3) := by decide +kernel
theorem dX9_nextToken_119 : decode cX9_nextToken 119 = .ok (.aload_n 0, 1) := by decide +kernel
theorem dX9_nextToken_120 : decode cX9_nextToken 120 = .ok (.aload_n 0, 1) := by decide +kernel
theorem dX9_nextToken_121 : decode cX9_nextToken 121 = .ok (.getfield 38, 3) := by decide +kernel
theorem dX9_nextToken_124 : decode cX9_nextToken 124 = .ok (.iconst 1, 1) := by decide +kernel
theorem dX9_nextToken_125 : decode cX9_nextToken 125 = .ok (.iadd, 1) := by decide +kernel
theorem dX9_nextToken_126 : decode cX9_nextToken 126 = .ok (.putfield 41, 3) := by decide +kernel
theorem dX9_nextToken_129 : decode cX9_nextToken 129 = .ok (.return_, 1) := by decide +kernel
theorem dX9_skipSeparators_0 : decode cX9_skipSeparators 0 = .ok (.aload_n 0, 1) := by decide +kernel
theorem dX9_skipSeparators_1 : decode cX9_skipSeparators 1 = .ok (.aload_n 0, 1) := by decide +kernel
theorem dX9_skipSeparators_2 : decode cX9_skipSeparators 2 = .ok (.getfield 41, 3) := by decide +kernel
theorem dX9_skipSeparators_5 : decode cX9_skipSeparators 5 = .ok (.putfield 38, 3) := by decide +kernel
theorem dX9_skipSeparators_8 : decode cX9_skipSeparators 8 = .ok (.aload_n 0, 1) := by decide +kernel
theorem dX9_skipSeparators_9 : decode cX9_skipSeparators 9 = .ok (.getfield 38, 3) := by decide +kernel
theorem dX9_skipSeparators_12 : decode cX9_skipSeparators 12 = .ok (.aload_n 0, 1) := by decide +kernel
theorem dX9_skipSeparators_13 : decode cX9_skipSeparators 13 = .ok (.getfield 32, 3) := by decide +kernel
theorem dX9_skipSeparators_16 : decode cX9_skipSeparators 16 = .ok (.if_icmp .ge 44, 3) := by decide +kernel
theorem dX9_skipSeparators_19 : decode cX9_skipSeparators 19 = .ok (.aload_n 0, 1) := by decide +kernel
theorem dX9_skipSeparators_20 : decode cX9_skipSeparators 20 = .ok (.getfield 9, 3) := by decide +kernel
theorem dX9_skipSeparators_23 : decode cX9_skipSeparators 23 = .ok (.aload_n 0, 1) := by decide +kernel
theorem dX9_skipSeparators_24 : decode cX9_skipSeparators 24 = .ok (.getfield 38, 3) := by decide +kernel
theorem dX9_skipSeparators_27 : decode cX9_skipSeparators 27 = .ok (.baload, 1) := by decide +kernel
theorem dX9_skipSeparators_28 : decode cX9_skipSeparators 28 = .ok (.bipush 32, 2) := by decide +kernel
theorem dX9_skipSeparators_30 : decode cX9_skipSeparators 30 = .ok (.if_icmp .eq 17, 3) := by decide +kernel
theorem dX9_skipSeparators_33 : decode cX9_skipSeparators 33 = .ok (.aload_n 0, 1) := by decide +kernel
theorem dX9_skipSeparators_34 : decode cX9_skipSeparators 34 = .ok (.getfield 9, 3) := by decide +kernel
theorem dX9_skipSeparators_37 : decode cX9_skipSeparators 37 = .ok (.aload_n 0, 1) := by decide +kernel
theorem dX9_skipSeparators_38 : decode cX9_skipSeparators 38 = .ok (.getfield 38, 3) := by decide +kernel
theorem dX9_skipSeparators_41 : decode cX9_skipSeparators 41 = .ok (.baload, 1) := by decide +kernel
theorem dX9_skipSeparators_42 : decode cX9_skipSeparators 42 = .ok (.bipush 10, 2) := by decide +kernel
theorem dX9_skipSeparators_44 : decode cX9_skipSeparators 44 = .ok (.if_icmp .ne 16, 3) := by decide +kernel
theorem dX9_skipSeparators_47 : decode cX9_skipSeparators 47 = .ok (.aload_n 0, 1) := by decide +kernel
theorem dX9_skipSeparators_48 : decode cX9_skipSeparators 48 = .ok (.dup, 1) := by decide +kernel
theorem dX9_skipSeparators_49 : decode cX9_skipSeparators 49 = .ok (.getfield 38, 3) := by decide +kernel
theorem dX9_skipSeparators_52 : decode cX9_skipSeparators 52 = .ok (.iconst 1, 1) := by decide +kernel
theorem dX9_skipSeparators_53 : decode cX9_skipSeparators 53 = .ok (.iadd, 1) := by decide +kernel
theorem dX9_skipSeparators_54 : decode cX9_skipSeparators 54 = .ok (.putfield 38, 3) := by decide +kernel
theorem dX9_skipSeparators_57 : decode cX9_skipSeparators 57 = .ok (.goto (-49), 3) := by decide +kernel
theorem dX9_skipSeparators_60 : decode cX9_skipSeparators 60 = .ok (.aload_n 0, 1) := by decide +kernel
theorem dX9_skipSeparators_61 : decode cX9_skipSeparators 61 = .ok (.aload_n 0, 1) := by decide +kernel
theorem dX9_skipSeparators_62 : decode cX9_skipSeparators 62 = .ok (.getfield 38, 3) := by decide +kernel
theorem dX9_skipSeparators_65 : decode cX9_skipSeparators 65 = .ok (.putfield 41, 3) := by decide +kernel
theorem dX9_skipSeparators_68 : decode cX9_skipSeparators 68 = .ok (.return_, 1) := by decide +kernel
theorem dX9_takeRun_0 : decode cX9_takeRun 0 = .ok (.aload_n 0, 1) := by decide +kernel
theorem dX9_takeRun_1 : decode cX9_takeRun 1 = .ok (.getfield 41, 3) := by decide +kernel
theorem dX9_takeRun_4 : decode cX9_takeRun 4 = .ok (.aload_n 0, 1) := by decide +kernel
theorem dX9_takeRun_5 : decode cX9_takeRun 5 = .ok (.getfield 32, 3) := by decide +kernel
theorem dX9_takeRun_8 : decode cX9_takeRun 8 = .ok (.if_icmp .ge 42, 3) := by decide +kernel
theorem dX9_takeRun_11 : decode cX9_takeRun 11 = .ok (.aload_n 0, 1) := by decide +kernel
theorem dX9_takeRun_12 : decode cX9_takeRun 12 = .ok (.getfield 9, 3) := by decide +kernel
theorem dX9_takeRun_15 : decode cX9_takeRun 15 = .ok (.aload_n 0, 1) := by decide +kernel
theorem dX9_takeRun_16 : decode cX9_takeRun 16 = .ok (.getfield 41, 3) := by decide +kernel
theorem dX9_takeRun_19 : decode cX9_takeRun 19 = .ok (.baload, 1) := by decide +kernel
theorem dX9_takeRun_20 : decode cX9_takeRun 20 = .ok (.iload_n 1, 1) := by decide +kernel
theorem dX9_takeRun_21 : decode cX9_takeRun 21 = .ok (.if_icmp .lt 29, 3) := by decide +kernel
theorem dX9_takeRun_24 : decode cX9_takeRun 24 = .ok (.aload_n 0, 1) := by decide +kernel
theorem dX9_takeRun_25 : decode cX9_takeRun 25 = .ok (.getfield 9, 3) := by decide +kernel
theorem dX9_takeRun_28 : decode cX9_takeRun 28 = .ok (.aload_n 0, 1) := by decide +kernel
theorem dX9_takeRun_29 : decode cX9_takeRun 29 = .ok (.getfield 41, 3) := by decide +kernel
theorem dX9_takeRun_32 : decode cX9_takeRun 32 = .ok (.baload, 1) := by decide +kernel
theorem dX9_takeRun_33 : decode cX9_takeRun 33 = .ok (.iload_n 2, 1) := by decide +kernel
theorem dX9_takeRun_34 : decode cX9_takeRun 34 = .ok (.if_icmp .gt 16, 3) := by decide +kernel
theorem dX9_takeRun_37 : decode cX9_takeRun 37 = .ok (.aload_n 0, 1) := by decide +kernel
theorem dX9_takeRun_38 : decode cX9_takeRun 38 = .ok (.dup, 1) := by decide +kernel
theorem dX9_takeRun_39 : decode cX9_takeRun 39 = .ok (.getfield 41, 3) := by decide +kernel
theorem dX9_takeRun_42 : decode cX9_takeRun 42 = .ok (.iconst 1, 1) := by decide +kernel
theorem dX9_takeRun_43 : decode cX9_takeRun 43 = .ok (.iadd, 1) := by decide +kernel
theorem dX9_takeRun_44 : decode cX9_takeRun 44 = .ok (.putfield 41, 3) := by decide +kernel
theorem dX9_takeRun_47 : decode cX9_takeRun 47 = .ok (.goto (-47), 3) := by decide +kernel
theorem dX9_takeRun_50 : decode cX9_takeRun 50 = .ok (.aload_n 0, 1) := by decide +kernel
theorem dX9_takeRun_51 : decode cX9_takeRun 51 = .ok (.getfield 41, 3) := by decide +kernel
theorem dX9_takeRun_54 : decode cX9_takeRun 54 = .ok (.aload_n 0, 1) := by decide +kernel
theorem dX9_takeRun_55 : decode cX9_takeRun 55 = .ok (.getfield 38, 3) := by decide +kernel
theorem dX9_takeRun_58 : decode cX9_takeRun 58 = .ok (.if_icmp .le 7, 3) := by decide +kernel
theorem dX9_takeRun_61 : decode cX9_takeRun 61 = .ok (.iconst 1, 1) := by decide +kernel
theorem dX9_takeRun_62 : decode cX9_takeRun 62 = .ok (.goto 4, 3) := by decide +kernel
theorem dX9_takeRun_65 : decode cX9_takeRun 65 = .ok (.iconst 0, 1) := by decide +kernel
theorem dX9_takeRun_66 : decode cX9_takeRun 66 = .ok (.ireturn, 1) := by decide +kernel
theorem dX10_init_0 : decode cX10_init 0 = .ok (.aload_n 0, 1) := by decide +kernel
theorem dX10_init_1 : decode cX10_init 1 = .ok (.invokespecial 1, 3) := by decide +kernel
theorem dX10_init_4 : decode cX10_init 4 = .ok (.aload_n 0, 1) := by decide +kernel
theorem dX10_init_5 : decode cX10_init 5 = .ok (.new 7, 3) := by decide +kernel
theorem dX10_init_8 : decode cX10_init 8 = .ok (.dup, 1) := by decide +kernel
theorem dX10_init_9 : decode cX10_init 9 = .ok (.invokespecial 9, 3) := by decide +kernel
theorem dX10_init_12 : decode cX10_init 12 = .ok (.putfield 10, 3) := by decide +kernel
theorem dX10_init_15 : decode cX10_init 15 = .ok (.aload_n 0, 1) := by decide +kernel
theorem dX10_init_16 : decode cX10_init 16 = .ok (.new 16, 3) := by decide +kernel
theorem dX10_init_19 : decode cX10_init 19 = .ok (.dup, 1) := by decide +kernel
theorem dX10_init_20 : decode cX10_init 20 = .ok (.invokespecial 18, 3) := by decide +kernel
theorem dX10_init_23 : decode cX10_init 23 = .ok (.putfield 19, 3) := by decide +kernel
theorem dX10_init_26 : decode cX10_init 26 = .ok (.aload_n 0, 1) := by decide +kernel
theorem dX10_init_27 : decode cX10_init 27 = .ok (.new 23, 3) := by decide +kernel
theorem dX10_init_30 : decode cX10_init 30 = .ok (.dup, 1) := by decide +kernel
theorem dX10_init_31 : decode cX10_init 31 = .ok (.invokespecial 25, 3) := by decide +kernel
theorem dX10_init_34 : decode cX10_init 34 = .ok (.putfield 26, 3) := by decide +kernel
theorem dX10_init_37 : decode cX10_init 37 = .ok (.aload_n 0, 1) := by decide +kernel
theorem dX10_init_38 : decode cX10_init 38 = .ok (.new 30, 3) := by decide +kernel
theorem dX10_init_41 : decode cX10_init 41 = .ok (.dup, 1) := by decide +kernel
theorem dX10_init_42 : decode cX10_init 42 = .ok (.invokespecial 32, 3) := by decide +kernel
theorem dX10_init_45 : decode cX10_init 45 = .ok (.putfield 33, 3) := by decide +kernel
theorem dX10_init_48 : decode cX10_init 48 = .ok (.aload_n 0, 1) := by decide +kernel
theorem dX10_init_49 : decode cX10_init 49 = .ok (.iconst 2, 1) := by decide +kernel
theorem dX10_init_50 : decode cX10_init 50 = .ok (.anewarray 23, 3) := by decide +kernel
theorem dX10_init_53 : decode cX10_init 53 = .ok (.putfield 37, 3) := by decide +kernel
theorem dX10_init_56 : decode cX10_init 56 = .ok (.aload_n 0, 1) := by decide +kernel
theorem dX10_init_57 : decode cX10_init 57 = .ok (.iconst 2, 1) := by decide +kernel
theorem dX10_init_58 : decode cX10_init 58 = .ok (.newarray .boolean, 2) := by decide +kernel
theorem dX10_init_60 : decode cX10_init 60 = .ok (.putfield 41, 3) := by decide +kernel
theorem dX10_init_63 : decode cX10_init 63 = .ok (.aload_n 0, 1) := by decide +kernel
theorem dX10_init_64 : decode cX10_init 64 = .ok (.new 45, 3) := by decide +kernel
theorem dX10_init_67 : decode cX10_init 67 = .ok (.dup, 1) := by decide +kernel
theorem dX10_init_68 : decode cX10_init 68 = .ok (.invokespecial 47, 3) := by decide +kernel
theorem dX10_init_71 : decode cX10_init 71 = .ok (.putfield 48, 3) := by decide +kernel
theorem dX10_init_74 : decode cX10_init 74 = .ok (.aload_n 0, 1) := by decide +kernel
theorem dX10_init_75 : decode cX10_init 75 = .ok (.new 52, 3) := by decide +kernel
theorem dX10_init_78 : decode cX10_init 78 = .ok (.dup, 1) := by decide +kernel
theorem dX10_init_79 : decode cX10_init 79 = .ok (.invokespecial 54, 3) := by decide +kernel
theorem dX10_init_82 : decode cX10_init 82 = .ok (.putfield 55, 3) := by decide +kernel
theorem dX10_init_85 : decode cX10_init 85 = .ok (.aload_n 0, 1) := by decide +kernel
theorem dX10_init_86 : decode cX10_init 86 = .ok (.new 59, 3) := by decide +kernel
theorem dX10_init_89 : decode cX10_init 89 = .ok (.dup, 1) := by decide +kernel
theorem dX10_init_90 : decode cX10_init 90 = .ok (.invokespecial 61, 3) := by decide +kernel
theorem dX10_init_93 : decode cX10_init 93 = .ok (.putfield 62, 3) := by decide +kernel
theorem dX10_init_96 : decode cX10_init 96 = .ok (.aload_n 0, 1) := by decide +kernel
theorem dX10_init_97 : decode cX10_init 97 = .ok (.bipush 10, 2) := by decide +kernel
theorem dX10_init_99 : decode cX10_init 99 = .ok (.newarray .int, 2) := by decide +kernel
theorem dX10_init_101 : decode cX10_init 101 = .ok (.putfield 66, 3) := by decide +kernel
theorem dX10_init_104 : decode cX10_init 104 = .ok (.iconst 0, 1) := by decide +kernel
theorem dX10_init_105 : decode cX10_init 105 = .ok (.istore_n 1, 1) := by decide +kernel
theorem dX10_init_106 : decode cX10_init 106 = .ok (.iload_n 1, 1) := by decide +kernel
theorem dX10_init_107 : decode cX10_init 107 = .ok (.iconst 2, 1) := by decide +kernel
theorem dX10_init_108 : decode cX10_init 108 = .ok (.if_icmp .ge 22, 3) := by decide +kernel
theorem dX10_init_111 : decode cX10_init 111 = .ok (.aload_n 0, 1) := by decide +kernel
theorem dX10_init_112 : decode cX10_init 112 = .ok (.getfield 37, 3) := by decide +kernel
theorem dX10_init_115 : decode cX10_init 115 = .ok (.iload_n 1, 1) := by decide +kernel
theorem dX10_init_116 : decode cX10_init 116 = .ok (.new 23, 3) := by decide +kernel
theorem dX10_init_119 : decode cX10_init 119 = .ok (.dup, 1) := by decide +kernel
theorem dX10_init_120 : decode cX10_init 120 = .ok (.invokespecial 25, 3) := by decide +kernel
theorem dX10_init_123 : decode cX10_init 123 = .ok (.aastore, 1) := by decide +kernel
theorem dX10_init_124 : decode cX10_init 124 = .ok (.iinc 1 1, 3) := by decide +kernel
theorem dX10_init_127 : decode cX10_init 127 = .ok (.goto (-21), 3) := by decide +kernel
theorem dX10_init_130 : decode cX10_init 130 = .ok (.aload_n 0, 1) := by decide +kernel
theorem dX10_init_131 : decode cX10_init 131 = .ok (.getfield 26, 3) := by decide +kernel
theorem dX10_init_134 : decode cX10_init 134 = .ok (.aload_n 0, 1) := by decide +kernel
theorem dX10_init_135 : decode cX10_init 135 = .ok (.getfield 19, 3) := by decide +kernel
theorem dX10_init_138 : decode cX10_init 138 = .ok (.getfield 70, 3) := by decide +kernel
theorem dX10_init_141 : decode cX10_init 141 = .ok (.invokevirtual 74, 3) := by decide +kernel
theorem dX10_init_144 : decode cX10_init 144 = .ok (.return_, 1) := by decide +kernel
theorem dX10_append_0 : decode cX10_append 0 = .ok (.aload_n 0, 1) := by decide +kernel
theorem dX10_append_1 : decode cX10_append 1 = .ok (.getfield 10, 3) := by decide +kernel
theorem dX10_append_4 : decode cX10_append 4 = .ok (.getfield 78, 3) := by decide +kernel
theorem dX10_append_7 : decode cX10_append 7 = .ok (.sipush 480, 3) := by decide +kernel
theorem dX10_append_10 : decode cX10_append 10 = .ok (.if_icmp .le 5, 3) := by decide +kernel
theorem dX10_append_13 : decode cX10_append 13 = .ok (.iconst (-1), 1) := by decide +kernel
theorem dX10_append_14 : decode cX10_append 14 = .ok (.ireturn, 1) := by decide +kernel
theorem dX10_append_15 : decode cX10_append 15 = .ok (.aload_n 0, 1) := by decide +kernel
theorem dX10_append_16 : decode cX10_append 16 = .ok (.getfield 10, 3) := by decide +kernel
theorem dX10_append_19 : decode cX10_append 19 = .ok (.iload_n 1, 1) := by decide +kernel
theorem dX10_append_20 : decode cX10_append 20 = .ok (.invokevirtual 81, 3) := by decide +kernel
theorem dX10_append_23 : decode cX10_append 23 = .ok (.aload_n 0, 1) := by decide +kernel
theorem dX10_append_24 : decode cX10_append 24 = .ok (.getfield 10, 3) := by decide +kernel
theorem dX10_append_27 : decode cX10_append 27 = .ok (.iload_n 2, 1) := by decide +kernel
theorem dX10_append_28 : decode cX10_append 28 = .ok (.invokevirtual 81, 3) := by decide +kernel
theorem dX10_append_31 : decode cX10_append 31 = .ok (.aload_n 0, 1) := by decide +kernel
theorem dX10_append_32 : decode cX10_append 32 = .ok (.getfield 10, 3) := by decide +kernel
theorem dX10_append_35 : decode cX10_append 35 = .ok (.iload_n 3, 1) := by decide +kernel
theorem dX10_append_36 : decode cX10_append 36 = .ok (.invokevirtual 81, 3) := by decide +kernel
theorem dX10_append_39 : decode cX10_append 39 = .ok (.aload_n 0, 1) := by decide +kernel
theorem dX10_append_40 : decode cX10_append 40 = .ok (.getfield 10, 3) := by decide +kernel
theorem dX10_append_43 : decode cX10_append 43 = .ok (.iload 4, 2) := by decide +kernel
theorem dX10_append_45 : decode cX10_append 45 = .ok (.invokevirtual 81, 3) := by decide +kernel
theorem dX10_append_48 : decode cX10_append 48 = .ok (.aload_n 0, 1) := by decide +kernel
theorem dX10_append_49 : decode cX10_append 49 = .ok (.getfield 10, 3) := by decide +kernel
theorem dX10_append_52 : decode cX10_append 52 = .ok (.iload 5, 2) := by decide +kernel
theorem dX10_append_54 : decode cX10_append 54 = .ok (.invokevirtual 81, 3) := by decide +kernel
theorem dX10_append_57 : decode cX10_append 57 = .ok (.aload_n 0, 1) := by decide +kernel
theorem dX10_append_58 : decode cX10_append 58 = .ok (.getfield 10, 3) := by decide +kernel
theorem dX10_append_61 : decode cX10_append 61 = .ok (.getfield 78, 3) := by decide +kernel
theorem dX10_append_64 : decode cX10_append 64 = .ok (.ireturn, 1) := by decide +kernel
theorem dX10_parse_0 : decode cX10_parse 0 = .ok (.iload_n 1, 1) := by decide +kernel
theorem dX10_parse_1 : decode cX10_parse 1 = .ok (.ifCond .lt 14, 3) := by decide +kernel
theorem dX10_parse_4 : decode cX10_parse 4 = .ok (.iload_n 1, 1) := by decide +kernel
theorem dX10_parse_5 : decode cX10_parse 5 = .ok (.aload_n 0, 1) := by decide +kernel
theorem dX10_parse_6 : decode cX10_parse 6 = .ok (.getfield 10, 3) := by decide +kernel
theorem dX10_parse_9 : decode cX10_parse 9 = .ok (.getfield 78, 3) := by decide +kernel
theorem dX10_parse_12 : decode cX10_parse 12 = .ok (.if_icmp .le 13, 3) := by decide +kernel
theorem dX10_parse_15 : decode cX10_parse 15 = .ok (.new 84, 3) := by decide +kernel
theorem dX10_parse_18 : decode cX10_parse 18 = .ok (.dup, 1) := by decide +kernel
theorem dX10_parse_19 : decode cX10_parse 19 = .ok (.ldc 86, 2) := by decide +kernel
theorem dX10_parse_21 : decode cX10_parse 21 = .ok (.invokespecial 88, 3) := by decide +kernel
theorem dX10_parse_24 : decode cX10_parse 24 = .ok (.athrow, 1) := by decide +kernel
theorem dX10_parse_25 : decode cX10_parse 25 = .ok (.aload_n 0, 1) := by decide +kernel
theorem dX10_parse_26 : decode cX10_parse 26 = .ok (.getfield 10, 3) := by decide +kernel
theorem dX10_parse_29 : decode cX10_parse 29 = .ok (.iload_n 1, 1) := by decide +kernel
theorem dX10_parse_30 : decode cX10_parse 30 = .ok (.invokevirtual 91, 3) := by decide +kernel
theorem dX10_parse_33 : decode cX10_parse 33 = .ok (.istore_n 2, 1) := by decide +kernel
theorem dX10_parse_34 : decode cX10_parse 34 = .ok (.iload_n 2, 1) := by decide +kernel
theorem dX10_parse_35 : decode cX10_parse 35 = .ok (.ifCond .ne 22, 3) := by decide +kernel
theorem dX10_parse_38 : decode cX10_parse 38 = .ok (.aload_n 0, 1) := by decide +kernel
theorem dX10_parse_39 : decode cX10_parse 39 = .ok (.aload_n 0, 1) := by decide +kernel
theorem dX10_parse_40 : decode cX10_parse 40 = .ok (.getfield 10, 3) := by decide +kernel
theorem dX10_parse_43 : decode cX10_parse 43 = .ok (.aload_n 0, 1) := by decide +kernel
theorem dX10_parse_44 : decode cX10_parse 44 = .ok (.getfield 19, 3) := by decide +kernel
theorem dX10_parse_47 : decode cX10_parse 47 = .ok (.invokevirtual 95, 3) := by decide +kernel
theorem dX10_parse_50 : decode cX10_parse 50 = .ok (.putfield 19, 3) := by decide +kernel
theorem dX10_parse_53 : decode cX10_parse 53 = .ok (.aload_n 0, 1) := by decide +kernel
theorem dX10_parse_54 : decode cX10_parse 54 = .ok (.invokevirtual 99, 3) := by decide +kernel
theorem dX10_parse_57 : decode cX10_parse 57 = .ok (.iload_n 2, 1) := by decide +kernel
theorem dX10_parse_58 : decode cX10_parse 58 = .ok (.ireturn, 1) := by decide +kernel
theorem dX10_startAnew_0 : decode cX10_startAnew 0 = .ok (.aload_n 0, 1) := by decide +kernel
theorem dX10_startAnew_1 : decode cX10_startAnew 1 = .ok (.getfield 26, 3) := by decide +kernel
theorem dX10_startAnew_4 : decode cX10_startAnew 4 = .ok (.aload_n 0, 1) := by decide +kernel
theorem dX10_startAnew_5 : decode cX10_startAnew 5 = .ok (.getfield 19, 3) := by decide +kernel
theorem dX10_startAnew_8 : decode cX10_startAnew 8 = .ok (.getfield 70, 3) := by decide +kernel
theorem dX10_startAnew_11 : decode cX10_startAnew 11 = .ok (.invokevirtual 74, 3) := by decide +kernel
theorem dX10_startAnew_14 : decode cX10_startAnew 14 = .ok (.aload_n 0, 1) := by decide +kernel
theorem dX10_startAnew_15 : decode cX10_startAnew 15 = .ok (.getfield 33, 3) := by decide +kernel
theorem dX10_startAnew_18 : decode cX10_startAnew 18 = .ok (.invokevirtual 102, 3) := by decide +kernel
theorem dX10_startAnew_21 : decode cX10_startAnew 21 = .ok (.iconst 0, 1) := by decide +kernel
theorem dX10_startAnew_22 : decode cX10_startAnew 22 = .ok (.istore_n 1, 1) := by decide +kernel
theorem dX10_startAnew_23 : decode cX10_startAnew 23 = .ok (.iload_n 1, 1) := by decide +kernel
theorem dX10_startAnew_24 : decode cX10_startAnew 24 = .ok (.iconst 2, 1) := by decide +kernel
theorem dX10_startAnew_25 : decode cX10_startAnew 25 = .ok (.if_icmp .ge 16, 3) := by decide +kernel
theorem dX10_startAnew_28 : decode cX10_startAnew 28 = .ok (.aload_n 0, 1) := by decide +kernel
theorem dX10_startAnew_29 : decode cX10_startAnew 29 = .ok (.getfield 41, 3) := by decide +kernel
theorem dX10_startAnew_32 : decode cX10_startAnew 32 = .ok (.iload_n 1, 1) := by decide +kernel
theorem dX10_startAnew_33 : decode cX10_startAnew 33 = .ok (.iconst 0, 1) := by decide +kernel
theorem dX10_startAnew_34 : decode cX10_startAnew 34 = .ok (.bastore, 1) := by decide +kernel
theorem dX10_startAnew_35 : decode cX10_startAnew 35 = .ok (.iinc 1 1, 3) := by decide +kernel
theorem dX10_startAnew_38 : decode cX10_startAnew 38 = .ok (.goto (-15), 3) := by decide +kernel
theorem dX10_startAnew_41 : decode cX10_startAnew 41 = .ok (.return_, 1) := by decide +kernel
theorem dX10_errorPosition_0 : decode cX10_errorPosition 0 = .ok (.aload_n 0, 1) := by decide +kernel
theorem dX10_errorPosition_1 : decode cX10_errorPosition 1 = .ok (.getfield 10, 3) := by decide +kernel
theorem dX10_errorPosition_4 : decode cX10_errorPosition 4 = .ok (.getfield 105, 3) := by decide +kernel
theorem dX10_errorPosition_7 : decode cX10_errorPosition 7 = .ok (.ireturn, 1) := by decide +kernel
theorem dX10_size_0 : decode cX10_size 0 = .ok (.iload_n 1, 1) := by decide +kernel
theorem dX10_size_1 : decode cX10_size 1 = .ok (.tableswitch 93 0 5 #[39, 47, 55, 63, 71, 82], 39) := by decide +kernel
theorem dX10_size_40 : decode cX10_size 40 = .ok (.aload_n 0, 1) := by decide +kernel
theorem dX10_size_41 : decode cX10_size 41 = .ok (.getfield 19, 3) := by decide +kernel
theorem dX10_size_44 : decode cX10_size 44 = .ok (.getfield 70, 3) := by decide +kernel
theorem dX10_size_47 : decode cX10_size 47 = .ok (.ireturn, 1) := by decide +kernel
theorem dX10_size_48 : decode cX10_size 48 = .ok (.aload_n 0, 1) := by decide +kernel
theorem dX10_size_49 : decode cX10_size 49 = .ok (.getfield 19, 3) := by decide +kernel
theorem dX10_size_52 : decode cX10_size 52 = .ok (.getfield 108, 3) := by decide +kernel
theorem dX10_size_55 : decode cX10_size 55 = .ok (.ireturn, 1) := by decide +kernel
theorem dX10_size_56 : decode cX10_size 56 = .ok (.aload_n 0, 1) := by decide +kernel
theorem dX10_size_57 : decode cX10_size 57 = .ok (.getfield 26, 3) := by decide +kernel
theorem dX10_size_60 : decode cX10_size 60 = .ok (.getfield 111, 3) := by decide +kernel
theorem dX10_size_63 : decode cX10_size 63 = .ok (.ireturn, 1) := by decide +kernel
theorem dX10_size_64 : decode cX10_size 64 = .ok (.aload_n 0, 1) := by decide +kernel
theorem dX10_size_65 : decode cX10_size 65 = .ok (.getfield 26, 3) := by decide +kernel
theorem dX10_size_68 : decode cX10_size 68 = .ok (.getfield 114, 3) := by decide +kernel
theorem dX10_size_71 : decode cX10_size 71 = .ok (.ireturn, 1) := by decide +kernel
theorem dX10_size_72 : decode cX10_size 72 = .ok (.aload_n 0, 1) := by decide +kernel
theorem dX10_size_73 : decode cX10_size 73 = .ok (.getfield 26, 3) := by decide +kernel
theorem dX10_size_76 : decode cX10_size 76 = .ok (.getfield 117, 3) := by decide +kernel
theorem dX10_size_79 : decode cX10_size 79 = .ok (.invokestatic 120, 3) := by decide +kernel
theorem dX10_size_82 : decode cX10_size 82 = .ok (.ireturn, 1) := by decide +kernel
theorem dX10_size_83 : decode cX10_size 83 = .ok (.aload_n 0, 1) := by decide +kernel
theorem dX10_size_84 : decode cX10_size 84 = .ok (.getfield 26, 3) := by decide +kernel
theorem dX10_size_87 : decode cX10_size 87 = .ok (.getfield 125, 3) := by decide +kernel
theorem dX10_size_90 : decode cX10_size 90 = .ok (.invokestatic 120, 3) := by decide +kernel
theorem dX10_size_93 : decode cX10_size 93 = .ok (.ireturn, 1) := by decide +kernel
theorem dX10_size_94 : decode cX10_size 94 = .ok (.new 84, 3) := by decide +kernel
theorem dX10_size_97 : decode cX10_size 97 = .ok (.dup, 1) := by decide +kernel
theorem dX10_size_98 : decode cX10_size 98 = .ok (.ldc 128, 2) := by decide +kernel
theorem dX10_size_100 : decode cX10_size 100 = .ok (.invokespecial 88, 3) := by decide +kernel
theorem dX10_size_103 : decode cX10_size 103 = .ok (.athrow, 1) := by decide +kernel
theorem dX10_line_0 : decode cX10_line 0 = .ok (.aload_n 0, 1) := by decide +kernel
theorem dX10_line_1 : decode cX10_line 1 = .ok (.iload_n 1, 1) := by decide +kernel
theorem dX10_line_2 : decode cX10_line 2 = .ok (.invokevirtual 130, 3) := by decide +kernel
theorem dX10_line_5 : decode cX10_line 5 = .ok (.iload_n 2, 1) := by decide +kernel
theorem dX10_line_6 : decode cX10_line 6 = .ok (.tableswitch 126 0 6 #[42, 52, 62, 80, 90, 102, 114], 42) := by decide +kernel
theorem dX10_line_48 : decode cX10_line 48 = .ok (.aload_n 0, 1) := by decide +kernel
theorem dX10_line_49 : decode cX10_line 49 = .ok (.getfield 19, 3) := by decide +kernel
theorem dX10_line_52 : decode cX10_line 52 = .ok (.getfield 133, 3) := by decide +kernel
theorem dX10_line_55 : decode cX10_line 55 = .ok (.iload_n 1, 1) := by decide +kernel
theorem dX10_line_56 : decode cX10_line 56 = .ok (.iaload, 1) := by decide +kernel
theorem dX10_line_57 : decode cX10_line 57 = .ok (.ireturn, 1) := by decide +kernel
theorem dX10_line_58 : decode cX10_line 58 = .ok (.aload_n 0, 1) := by decide +kernel
theorem dX10_line_59 : decode cX10_line 59 = .ok (.getfield 19, 3) := by decide +kernel
theorem dX10_line_62 : decode cX10_line 62 = .ok (.getfield 136, 3) := by decide +kernel
theorem dX10_line_65 : decode cX10_line 65 = .ok (.iload_n 1, 1) := by decide +kernel
theorem dX10_line_66 : decode cX10_line 66 = .ok (.iaload, 1) := by decide +kernel
theorem dX10_line_67 : decode cX10_line 67 = .ok (.ireturn, 1) := by decide +kernel
theorem dX10_line_68 : decode cX10_line 68 = .ok (.aload_n 0, 1) := by decide +kernel
theorem dX10_line_69 : decode cX10_line 69 = .ok (.getfield 19, 3) := by decide +kernel
theorem dX10_line_72 : decode cX10_line 72 = .ok (.getfield 139, 3) := by decide +kernel
theorem dX10_line_75 : decode cX10_line 75 = .ok (.iload_n 1, 1) := by decide +kernel
theorem dX10_line_76 : decode cX10_line 76 = .ok (.baload, 1) := by decide +kernel
theorem dX10_line_77 : decode cX10_line 77 = .ok (.ifCond .eq 7, 3) := by decide +kernel
theorem dX10_line_80 : decode cX10_line 80 = .ok (.iconst 1, 1) := by decide +kernel
theorem dX10_line_81 : decode cX10_line 81 = .ok (.goto 4, 3) := by decide +kernel
theorem dX10_line_84 : decode cX10_line 84 = .ok (.iconst 0, 1) := by decide +kernel
theorem dX10_line_85 : decode cX10_line 85 = .ok (.ireturn, 1) := by decide +kernel
theorem dX10_line_86 : decode cX10_line 86 = .ok (.aload_n 0, 1) := by decide +kernel
theorem dX10_line_87 : decode cX10_line 87 = .ok (.getfield 19, 3) := by decide +kernel
theorem dX10_line_90 : decode cX10_line 90 = .ok (.getfield 142, 3) := by decide +kernel
theorem dX10_line_93 : decode cX10_line 93 = .ok (.iload_n 1, 1) := by decide +kernel
theorem dX10_line_94 : decode cX10_line 94 = .ok (.iaload, 1) := by decide +kernel
theorem dX10_line_95 : decode cX10_line 95 = .ok (.ireturn, 1) := by decide +kernel
theorem dX10_line_96 : decode cX10_line 96 = .ok (.aload_n 0, 1) := by decide +kernel
theorem dX10_line_97 : decode cX10_line 97 = .ok (.getfield 26, 3) := by decide +kernel
theorem dX10_line_100 : decode cX10_line 100 = .ok (.getfield 125, 3) := by decide +kernel
theorem dX10_line_103 : decode cX10_line 103 = .ok (.iload_n 1, 1) := by decide +kernel
theorem dX10_line_104 : decode cX10_line 104 = .ok (.ishr, 1) := by decide +kernel
theorem dX10_line_105 : decode cX10_line 105 = .ok (.iconst 1, 1) := by decide +kernel
theorem dX10_line_106 : decode cX10_line 106 = .ok (.iand, 1) := by decide +kernel
theorem dX10_line_107 : decode cX10_line 107 = .ok (.ireturn, 1) := by decide +kernel
theorem dX10_line_108 : decode cX10_line 108 = .ok (.aload_n 0, 1) := by decide +kernel
theorem dX10_line_109 : decode cX10_line 109 = .ok (.getfield 26, 3) := by decide +kernel
theorem dX10_line_112 : decode cX10_line 112 = .ok (.getfield 117, 3) := by decide +kernel
theorem dX10_line_115 : decode cX10_line 115 = .ok (.iload_n 1, 1) := by decide +kernel
theorem dX10_line_116 : decode cX10_line 116 = .ok (.ishr, 1) := by decide +kernel
theorem dX10_line_117 : decode cX10_line 117 = .ok (.iconst 1, 1) := by decide +kernel
theorem dX10_line_118 : decode cX10_line 118 = .ok (.iand, 1) := by decide +kernel
theorem dX10_line_119 : decode cX10_line 119 = .ok (.ireturn, 1) := by decide +kernel
theorem dX10_line_120 : decode cX10_line 120 = .ok (.aload_n 0, 1) := by decide +kernel
theorem dX10_line_121 : decode cX10_line 121 = .ok (.getfield 19, 3) := by decide +kernel
theorem dX10_line_124 : decode cX10_line 124 = .ok (.getfield 145, 3) := by decide +kernel
theorem dX10_line_127 : decode cX10_line 127 = .ok (.iload_n 1, 1) := by decide +kernel
theorem dX10_line_128 : decode cX10_line 128 = .ok (.invokevirtual 149, 3) := by decide +kernel
theorem dX10_line_131 : decode cX10_line 131 = .ok (.ireturn, 1) := by decide +kernel
theorem dX10_line_132 : decode cX10_line 132 = .ok (.new 84, 3) := by decide +kernel
theorem dX10_line_135 : decode cX10_line 135 = .ok (.dup, 1) := by decide +kernel
theorem dX10_line_136 : decode cX10_line 136 = .ok (.ldc 154, 2) := by decide +kernel
theorem dX10_line_138 : decode cX10_line 138 = .ok (.invokespecial 88, 3) := by decide +kernel
theorem dX10_line_141 : decode cX10_line 141 = .ok (.athrow, 1) := by decide +kernel
theorem dX10_isUsable_0 : decode cX10_isUsable 0 = .ok (.aload_n 0, 1) := by decide +kernel
theorem dX10_isUsable_1 : decode cX10_isUsable 1 = .ok (.iload_n 1, 1) := by decide +kernel
theorem dX10_isUsable_2 : decode cX10_isUsable 2 = .ok (.invokevirtual 130, 3) := by decide +kernel
theorem dX10_isUsable_5 : decode cX10_isUsable 5 = .ok (.iload_n 2, 1) := by decide +kernel
theorem dX10_isUsable_6 : decode cX10_isUsable 6 = .ok (.iconst 1, 1) := by decide +kernel
theorem dX10_isUsable_7 : decode cX10_isUsable 7 = .ok (.if_icmp .lt 10, 3) := by decide +kernel
theorem dX10_isUsable_10 : decode cX10_isUsable 10 = .ok (.iload_n 2, 1) := by decide +kernel
theorem dX10_isUsable_11 : decode cX10_isUsable 11 = .ok (.sipush 9999, 3) := by decide +kernel
theorem dX10_isUsable_14 : decode cX10_isUsable 14 = .ok (.if_icmp .le 13, 3) := by decide +kernel
theorem dX10_isUsable_17 : decode cX10_isUsable 17 = .ok (.new 84, 3) := by decide +kernel
theorem dX10_isUsable_20 : decode cX10_isUsable 20 = .ok (.dup, 1) := by decide +kernel
theorem dX10_isUsable_21 : decode cX10_isUsable 21 = .ok (.ldc 156, 2) := by decide +kernel
theorem dX10_isUsable_23 : decode cX10_isUsable 23 = .ok (.invokespecial 88, 3) := by decide +kernel
theorem dX10_isUsable_26 : decode cX10_isUsable 26 = .ok (.athrow, 1) := by decide +kernel
theorem dX10_isUsable_27 : decode cX10_isUsable 27 = .ok (.aload_n 0, 1) := by decide +kernel
theorem dX10_isUsable_28 : decode cX10_isUsable 28 = .ok (.iload_n 2, 1) := by decide +kernel
theorem dX10_isUsable_29 : decode cX10_isUsable 29 = .ok (.invokevirtual 158, 3) := by decide +kernel
theorem dX10_isUsable_32 : decode cX10_isUsable 32 = .ok (.iload_n 1, 1) := by decide +kernel
theorem dX10_isUsable_33 : decode cX10_isUsable 33 = .ok (.invokestatic 161, 3) := by decide +kernel
theorem dX10_isUsable_36 : decode cX10_isUsable 36 = .ok (.ireturn, 1) := by decide +kernel
theorem dX10_cheapestLine_0 : decode cX10_cheapestLine 0 = .ok (.iconst 0, 1) := by decide +kernel
theorem dX10_cheapestLine_1 : decode cX10_cheapestLine 1 = .ok (.istore_n 2, 1) := by decide +kernel
theorem dX10_cheapestLine_2 : decode cX10_cheapestLine 2 = .ok (.iload_n 2, 1) := by decide +kernel
theorem dX10_cheapestLine_3 : decode cX10_cheapestLine 3 = .ok (.aload_n 0, 1) := by decide +kernel
theorem dX10_cheapestLine_4 : decode cX10_cheapestLine 4 = .ok (.getfield 19, 3) := by decide +kernel
theorem dX10_cheapestLine_7 : decode cX10_cheapestLine 7 = .ok (.getfield 108, 3) := by decide +kernel
theorem dX10_cheapestLine_10 : decode cX10_cheapestLine 10 = .ok (.if_icmp .ge 23, 3) := by decide +kernel
theorem dX10_cheapestLine_13 : decode cX10_cheapestLine 13 = .ok (.aload_n 0, 1) := by decide +kernel
theorem dX10_cheapestLine_14 : decode cX10_cheapestLine 14 = .ok (.getfield 19, 3) := by decide +kernel
theorem dX10_cheapestLine_17 : decode cX10_cheapestLine 17 = .ok (.iload_n 2, 1) := by decide +kernel
theorem dX10_cheapestLine_18 : decode cX10_cheapestLine 18 = .ok (.invokevirtual 165, 3) := by decide +kernel
theorem dX10_cheapestLine_21 : decode cX10_cheapestLine 21 = .ok (.iload_n 1, 1) := by decide +kernel
theorem dX10_cheapestLine_22 : decode cX10_cheapestLine 22 = .ok (.if_icmp .ne 5, 3) := by decide +kernel
theorem dX10_cheapestLine_25 : decode cX10_cheapestLine 25 = .ok (.iload_n 2, 1) := by decide +kernel
theorem dX10_cheapestLine_26 : decode cX10_cheapestLine 26 = .ok (.ireturn, 1) := by decide +kernel
theorem dX10_cheapestLine_27 : decode cX10_cheapestLine 27 = .ok (.iinc 2 1, 3) := by decide +kernel
theorem dX10_cheapestLine_30 : decode cX10_cheapestLine 30 = .ok (.goto (-28), 3) := by decide +kernel
theorem dX10_cheapestLine_33 : decode cX10_cheapestLine 33 = .ok (.iconst (-1), 1) := by decide +kernel
theorem dX10_cheapestLine_34 : decode cX10_cheapestLine 34 = .ok (.ireturn, 1) := by decide +kernel
theorem dX10_known_0 : decode cX10_known 0 = .ok (.aload_n 0, 1) := by decide +kernel
theorem dX10_known_1 : decode cX10_known 1 = .ok (.iload_n 1, 1) := by decide +kernel
theorem dX10_known_2 : decode cX10_known 2 = .ok (.invokevirtual 168, 3) := by decide +kernel
theorem dX10_known_5 : decode cX10_known 5 = .ok (.aload_n 0, 1) := by decide +kernel
theorem dX10_known_6 : decode cX10_known 6 = .ok (.getfield 26, 3) := by decide +kernel
theorem dX10_known_9 : decode cX10_known 9 = .ok (.getfield 171, 3) := by decide +kernel
theorem dX10_known_12 : decode cX10_known 12 = .ok (.getfield 175, 3) := by decide +kernel
theorem dX10_known_15 : decode cX10_known 15 = .ok (.iload_n 1, 1) := by decide +kernel
theorem dX10_known_16 : decode cX10_known 16 = .ok (.iaload, 1) := by decide +kernel
theorem dX10_known_17 : decode cX10_known 17 = .ok (.ireturn, 1) := by decide +kernel
theorem dX10_knowers_0 : decode cX10_knowers 0 = .ok (.aload_n 0, 1) := by decide +kernel
theorem dX10_knowers_1 : decode cX10_knowers 1 = .ok (.iload_n 1, 1) := by decide +kernel
theorem dX10_knowers_2 : decode cX10_knowers 2 = .ok (.invokevirtual 168, 3) := by decide +kernel
theorem dX10_knowers_5 : decode cX10_knowers 5 = .ok (.aload_n 0, 1) := by decide +kernel
theorem dX10_knowers_6 : decode cX10_knowers 6 = .ok (.getfield 26, 3) := by decide +kernel
theorem dX10_knowers_9 : decode cX10_knowers 9 = .ok (.getfield 171, 3) := by decide +kernel
theorem dX10_knowers_12 : decode cX10_knowers 12 = .ok (.iload_n 1, 1) := by decide +kernel
theorem dX10_knowers_13 : decode cX10_knowers 13 = .ok (.invokevirtual 180, 3) := by decide +kernel
theorem dX10_knowers_16 : decode cX10_knowers 16 = .ok (.ireturn, 1) := by decide +kernel
theorem dX10_missing_0 : decode cX10_missing 0 = .ok (.aload_n 0, 1) := by decide +kernel
theorem dX10_missing_1 : decode cX10_missing 1 = .ok (.getfield 26, 3) := by decide +kernel
theorem dX10_missing_4 : decode cX10_missing 4 = .ok (.getfield 171, 3) := by decide +kernel
theorem dX10_missing_7 : decode cX10_missing 7 = .ok (.invokevirtual 183, 3) := by decide +kernel
theorem dX10_missing_10 : decode cX10_missing 10 = .ok (.ireturn, 1) := by decide +kernel
theorem dX10_partner_0 : decode cX10_partner 0 = .ok (.aload_n 0, 1) := by decide +kernel
theorem dX10_partner_1 : decode cX10_partner 1 = .ok (.iload_n 1, 1) := by decide +kernel
theorem dX10_partner_2 : decode cX10_partner 2 = .ok (.invokevirtual 168, 3) := by decide +kernel
theorem dX10_partner_5 : decode cX10_partner 5 = .ok (.aload_n 0, 1) := by decide +kernel
theorem dX10_partner_6 : decode cX10_partner 6 = .ok (.getfield 19, 3) := by decide +kernel
theorem dX10_partner_9 : decode cX10_partner 9 = .ok (.aload_n 0, 1) := by decide +kernel
theorem dX10_partner_10 : decode cX10_partner 10 = .ok (.getfield 26, 3) := by decide +kernel
theorem dX10_partner_13 : decode cX10_partner 13 = .ok (.getfield 117, 3) := by decide +kernel
theorem dX10_partner_16 : decode cX10_partner 16 = .ok (.iload_n 1, 1) := by decide +kernel
theorem dX10_partner_17 : decode cX10_partner 17 = .ok (.invokevirtual 187, 3) := by decide +kernel
theorem dX10_partner_20 : decode cX10_partner 20 = .ok (.ireturn, 1) := by decide +kernel
theorem dX10_arranged_0 : decode cX10_arranged 0 = .ok (.aload_n 0, 1) := by decide +kernel
theorem dX10_arranged_1 : decode cX10_arranged 1 = .ok (.getfield 26, 3) := by decide +kernel
theorem dX10_arranged_4 : decode cX10_arranged 4 = .ok (.getfield 117, 3) := by decide +kernel
theorem dX10_arranged_7 : decode cX10_arranged 7 = .ok (.ireturn, 1) := by decide +kernel
theorem dX10_gain_0 : decode cX10_gain 0 = .ok (.aload_n 0, 1) := by decide +kernel
theorem dX10_gain_1 : decode cX10_gain 1 = .ok (.getfield 19, 3) := by decide +kernel
theorem dX10_gain_4 : decode cX10_gain 4 = .ok (.aload_n 0, 1) := by decide +kernel
theorem dX10_gain_5 : decode cX10_gain 5 = .ok (.getfield 26, 3) := by decide +kernel
theorem dX10_gain_8 : decode cX10_gain 8 = .ok (.getfield 117, 3) := by decide +kernel
theorem dX10_gain_11 : decode cX10_gain 11 = .ok (.aload_n 0, 1) := by decide +kernel
theorem dX10_gain_12 : decode cX10_gain 12 = .ok (.getfield 26, 3) := by decide +kernel
theorem dX10_gain_15 : decode cX10_gain 15 = .ok (.getfield 171, 3) := by decide +kernel
theorem dX10_gain_18 : decode cX10_gain 18 = .ok (.invokevirtual 191, 3) := by decide +kernel
theorem dX10_gain_21 : decode cX10_gain 21 = .ok (.ireturn, 1) := by decide +kernel
theorem dX10_spent_0 : decode cX10_spent 0 = .ok (.iload_n 1, 1) := by decide +kernel
theorem dX10_spent_1 : decode cX10_spent 1 = .ok (.ifCond .lt 10, 3) := by decide +kernel
theorem dX10_spent_4 : decode cX10_spent 4 = .ok (.iload_n 1, 1) := by decide +kernel
theorem dX10_spent_5 : decode cX10_spent 5 = .ok (.sipush 9999, 3) := by decide +kernel
theorem dX10_spent_8 : decode cX10_spent 8 = .ok (.if_icmp .le 13, 3) := by decide +kernel
theorem dX10_spent_11 : decode cX10_spent 11 = .ok (.new 84, 3) := by decide +kernel
theorem dX10_spent_14 : decode cX10_spent 14 = .ok (.dup, 1) := by decide +kernel
theorem dX10_spent_15 : decode cX10_spent 15 = .ok (.ldc 195, 2) := by decide +kernel
theorem dX10_spent_17 : decode cX10_spent 17 = .ok (.invokespecial 88, 3) := by decide +kernel
theorem dX10_spent_20 : decode cX10_spent 20 = .ok (.athrow, 1) := by decide +kernel
theorem dX10_spent_21 : decode cX10_spent 21 = .ok (.aload_n 0, 1) := by decide +kernel
theorem dX10_spent_22 : decode cX10_spent 22 = .ok (.getfield 26, 3) := by decide +kernel
theorem dX10_spent_25 : decode cX10_spent 25 = .ok (.iload_n 1, 1) := by decide +kernel
theorem dX10_spent_26 : decode cX10_spent 26 = .ok (.invokevirtual 197, 3) := by decide +kernel
theorem dX10_spent_29 : decode cX10_spent 29 = .ok (.ireturn, 1) := by decide +kernel
theorem dX10_best_0 : decode cX10_best 0 = .ok (.iload_n 1, 1) := by decide +kernel
theorem dX10_best_1 : decode cX10_best 1 = .ok (.ifCond .lt 8, 3) := by decide +kernel
theorem dX10_best_4 : decode cX10_best 4 = .ok (.iload_n 1, 1) := by decide +kernel
theorem dX10_best_5 : decode cX10_best 5 = .ok (.iconst 2, 1) := by decide +kernel
theorem dX10_best_6 : decode cX10_best 6 = .ok (.if_icmp .le 13, 3) := by decide +kernel
theorem dX10_best_9 : decode cX10_best 9 = .ok (.new 84, 3) := by decide +kernel
theorem dX10_best_12 : decode cX10_best 12 = .ok (.dup, 1) := by decide +kernel
theorem dX10_best_13 : decode cX10_best 13 = .ok (.ldc 200, 2) := by decide +kernel
theorem dX10_best_15 : decode cX10_best 15 = .ok (.invokespecial 88, 3) := by decide +kernel
theorem dX10_best_18 : decode cX10_best 18 = .ok (.athrow, 1) := by decide +kernel
theorem dX10_best_19 : decode cX10_best 19 = .ok (.aload_n 0, 1) := by decide +kernel
theorem dX10_best_20 : decode cX10_best 20 = .ok (.invokevirtual 202, 3) := by decide +kernel
theorem dX10_best_23 : decode cX10_best 23 = .ok (.istore_n 2, 1) := by decide +kernel
theorem dX10_best_24 : decode cX10_best 24 = .ok (.iload_n 1, 1) := by decide +kernel
theorem dX10_best_25 : decode cX10_best 25 = .ok (.lookupswitch 45 #[(0, 27), (1, 29)], 27) := by decide +kernel
theorem dX10_best_52 : decode cX10_best 52 = .ok (.iload_n 2, 1) := by decide +kernel
theorem dX10_best_53 : decode cX10_best 53 = .ok (.ireturn, 1) := by decide +kernel
theorem dX10_best_54 : decode cX10_best 54 = .ok (.aload_n 0, 1) := by decide +kernel
theorem dX10_best_55 : decode cX10_best 55 = .ok (.getfield 19, 3) := by decide +kernel
theorem dX10_best_58 : decode cX10_best 58 = .ok (.iload_n 2, 1) := by decide +kernel
theorem dX10_best_59 : decode cX10_best 59 = .ok (.aload_n 0, 1) := by decide +kernel
theorem dX10_best_60 : decode cX10_best 60 = .ok (.getfield 26, 3) := by decide +kernel
theorem dX10_best_63 : decode cX10_best 63 = .ok (.getfield 171, 3) := by decide +kernel
theorem dX10_best_66 : decode cX10_best 66 = .ok (.invokevirtual 191, 3) := by decide +kernel
theorem dX10_best_69 : decode cX10_best 69 = .ok (.ireturn, 1) := by decide +kernel
theorem dX10_best_70 : decode cX10_best 70 = .ok (.aload_n 0, 1) := by decide +kernel
theorem dX10_best_71 : decode cX10_best 71 = .ok (.getfield 19, 3) := by decide +kernel
theorem dX10_best_74 : decode cX10_best 74 = .ok (.iload_n 2, 1) := by decide +kernel
theorem dX10_best_75 : decode cX10_best 75 = .ok (.invokevirtual 205, 3) := by decide +kernel
theorem dX10_best_78 : decode cX10_best 78 = .ok (.ireturn, 1) := by decide +kernel
theorem dX10_bestOfNextRound_0 : decode cX10_bestOfNextRound 0 = .ok (.aload_n 0, 1) := by decide +kernel
theorem dX10_bestOfNextRound_1 : decode cX10_bestOfNextRound 1 = .ok (.getfield 48, 3) := by decide +kernel
theorem dX10_bestOfNextRound_4 : decode cX10_bestOfNextRound 4 = .ok (.aload_n 0, 1) := by decide +kernel
theorem dX10_bestOfNextRound_5 : decode cX10_bestOfNextRound 5 = .ok (.getfield 19, 3) := by decide +kernel
theorem dX10_bestOfNextRound_8 : decode cX10_bestOfNextRound 8 = .ok (.aload_n 0, 1) := by decide +kernel
theorem dX10_bestOfNextRound_9 : decode cX10_bestOfNextRound 9 = .ok (.aload_n 0, 1) := by decide +kernel
theorem dX10_bestOfNextRound_10 : decode cX10_bestOfNextRound 10 = .ok (.getfield 26, 3) := by decide +kernel
theorem dX10_bestOfNextRound_13 : decode cX10_bestOfNextRound 13 = .ok (.getfield 111, 3) := by decide +kernel
theorem dX10_bestOfNextRound_16 : decode cX10_bestOfNextRound 16 = .ok (.iconst 1, 1) := by decide +kernel
theorem dX10_bestOfNextRound_17 : decode cX10_bestOfNextRound 17 = .ok (.iadd, 1) := by decide +kernel
theorem dX10_bestOfNextRound_18 : decode cX10_bestOfNextRound 18 = .ok (.invokevirtual 158, 3) := by decide +kernel
theorem dX10_bestOfNextRound_21 : decode cX10_bestOfNextRound 21 = .ok (.aload_n 0, 1) := by decide +kernel
theorem dX10_bestOfNextRound_22 : decode cX10_bestOfNextRound 22 = .ok (.getfield 26, 3) := by decide +kernel
theorem dX10_bestOfNextRound_25 : decode cX10_bestOfNextRound 25 = .ok (.getfield 171, 3) := by decide +kernel
theorem dX10_bestOfNextRound_28 : decode cX10_bestOfNextRound 28 = .ok (.invokevirtual 208, 3) := by decide +kernel
theorem dX10_bestOfNextRound_31 : decode cX10_bestOfNextRound 31 = .ok (.ireturn, 1) := by decide +kernel
theorem dX10_plan_0 : decode cX10_plan 0 = .ok (.iload_n 1, 1) := by decide +kernel
theorem dX10_plan_1 : decode cX10_plan 1 = .ok (.ifCond .lt 8, 3) := by decide +kernel
theorem dX10_plan_4 : decode cX10_plan 4 = .ok (.iload_n 1, 1) := by decide +kernel
theorem dX10_plan_5 : decode cX10_plan 5 = .ok (.iconst 3, 1) := by decide +kernel
theorem dX10_plan_6 : decode cX10_plan 6 = .ok (.if_icmp .le 13, 3) := by decide +kernel
theorem dX10_plan_9 : decode cX10_plan 9 = .ok (.new 84, 3) := by decide +kernel
theorem dX10_plan_12 : decode cX10_plan 12 = .ok (.dup, 1) := by decide +kernel
theorem dX10_plan_13 : decode cX10_plan 13 = .ok (.ldc 212, 2) := by decide +kernel
theorem dX10_plan_15 : decode cX10_plan 15 = .ok (.invokespecial 88, 3) := by decide +kernel
theorem dX10_plan_18 : decode cX10_plan 18 = .ok (.athrow, 1) := by decide +kernel
theorem dX10_plan_19 : decode cX10_plan 19 = .ok (.aload_n 0, 1) := by decide +kernel
theorem dX10_plan_20 : decode cX10_plan 20 = .ok (.getfield 55, 3) := by decide +kernel
theorem dX10_plan_23 : decode cX10_plan 23 = .ok (.aload_n 0, 1) := by decide +kernel
theorem dX10_plan_24 : decode cX10_plan 24 = .ok (.getfield 19, 3) := by decide +kernel
theorem dX10_plan_27 : decode cX10_plan 27 = .ok (.aload_n 0, 1) := by decide +kernel
theorem dX10_plan_28 : decode cX10_plan 28 = .ok (.getfield 26, 3) := by decide +kernel
theorem dX10_plan_31 : decode cX10_plan 31 = .ok (.aload_n 0, 1) := by decide +kernel
theorem dX10_plan_32 : decode cX10_plan 32 = .ok (.getfield 48, 3) := by decide +kernel
theorem dX10_plan_35 : decode cX10_plan 35 = .ok (.invokevirtual 214, 3) := by decide +kernel
theorem dX10_plan_38 : decode cX10_plan 38 = .ok (.iload_n 1, 1) := by decide +kernel
theorem dX10_plan_39 : decode cX10_plan 39 = .ok (.tableswitch 66 0 2 #[25, 50, 58], 25) := by decide +kernel
theorem dX10_plan_64 : decode cX10_plan 64 = .ok (.aload_n 0, 1) := by decide +kernel
theorem dX10_plan_65 : decode cX10_plan 65 = .ok (.getfield 55, 3) := by decide +kernel
theorem dX10_plan_68 : decode cX10_plan 68 = .ok (.getfield 218, 3) := by decide +kernel
theorem dX10_plan_71 : decode cX10_plan 71 = .ok (.invokevirtual 183, 3) := by decide +kernel
theorem dX10_plan_74 : decode cX10_plan 74 = .ok (.ifCond .ne 13, 3) := by decide +kernel
theorem dX10_plan_77 : decode cX10_plan 77 = .ok (.aload_n 0, 1) := by decide +kernel
theorem dX10_plan_78 : decode cX10_plan 78 = .ok (.getfield 55, 3) := by decide +kernel
theorem dX10_plan_81 : decode cX10_plan 81 = .ok (.getfield 219, 3) := by decide +kernel
theorem dX10_plan_84 : decode cX10_plan 84 = .ok (.goto 4, 3) := by decide +kernel
theorem dX10_plan_87 : decode cX10_plan 87 = .ok (.iconst (-1), 1) := by decide +kernel
theorem dX10_plan_88 : decode cX10_plan 88 = .ok (.ireturn, 1) := by decide +kernel
theorem dX10_plan_89 : decode cX10_plan 89 = .ok (.aload_n 0, 1) := by decide +kernel
theorem dX10_plan_90 : decode cX10_plan 90 = .ok (.getfield 55, 3) := by decide +kernel
theorem dX10_plan_93 : decode cX10_plan 93 = .ok (.getfield 220, 3) := by decide +kernel
theorem dX10_plan_96 : decode cX10_plan 96 = .ok (.ireturn, 1) := by decide +kernel
theorem dX10_plan_97 : decode cX10_plan 97 = .ok (.aload_n 0, 1) := by decide +kernel
theorem dX10_plan_98 : decode cX10_plan 98 = .ok (.getfield 55, 3) := by decide +kernel
theorem dX10_plan_101 : decode cX10_plan 101 = .ok (.getfield 221, 3) := by decide +kernel
theorem dX10_plan_104 : decode cX10_plan 104 = .ok (.ireturn, 1) := by decide +kernel
theorem dX10_plan_105 : decode cX10_plan 105 = .ok (.aload_n 0, 1) := by decide +kernel
theorem dX10_plan_106 : decode cX10_plan 106 = .ok (.getfield 55, 3) := by decide +kernel
theorem dX10_plan_109 : decode cX10_plan 109 = .ok (.getfield 218, 3) := by decide +kernel
theorem dX10_plan_112 : decode cX10_plan 112 = .ok (.invokevirtual 183, 3) := by decide +kernel
theorem dX10_plan_115 : decode cX10_plan 115 = .ok (.ireturn, 1) := by decide +kernel
theorem dX10_fewest_0 : decode cX10_fewest 0 = .ok (.iload_n 1, 1) := by decide +kernel
theorem dX10_fewest_1 : decode cX10_fewest 1 = .ok (.ifCond .lt 8, 3) := by decide +kernel
theorem dX10_fewest_4 : decode cX10_fewest 4 = .ok (.iload_n 1, 1) := by decide +kernel
theorem dX10_fewest_5 : decode cX10_fewest 5 = .ok (.iconst 4, 1) := by decide +kernel
theorem dX10_fewest_6 : decode cX10_fewest 6 = .ok (.if_icmp .le 13, 3) := by decide +kernel
theorem dX10_fewest_9 : decode cX10_fewest 9 = .ok (.new 84, 3) := by decide +kernel
theorem dX10_fewest_12 : decode cX10_fewest 12 = .ok (.dup, 1) := by decide +kernel
theorem dX10_fewest_13 : decode cX10_fewest 13 = .ok (.ldc 223, 2) := by decide +kernel
theorem dX10_fewest_15 : decode cX10_fewest 15 = .ok (.invokespecial 88, 3) := by decide +kernel
theorem dX10_fewest_18 : decode cX10_fewest 18 = .ok (.athrow, 1) := by decide +kernel
theorem dX10_fewest_19 : decode cX10_fewest 19 = .ok (.aload_n 0, 1) := by decide +kernel
theorem dX10_fewest_20 : decode cX10_fewest 20 = .ok (.getfield 19, 3) := by decide +kernel
theorem dX10_fewest_23 : decode cX10_fewest 23 = .ok (.getfield 70, 3) := by decide +kernel
theorem dX10_fewest_26 : decode cX10_fewest 26 = .ok (.bipush 6, 2) := by decide +kernel
theorem dX10_fewest_28 : decode cX10_fewest 28 = .ok (.if_icmp .le 13, 3) := by decide +kernel
theorem dX10_fewest_31 : decode cX10_fewest 31 = .ok (.new 225, 3) := by decide +kernel
theorem dX10_fewest_34 : decode cX10_fewest 34 = .ok (.dup, 1) := by decide +kernel
theorem dX10_fewest_35 : decode cX10_fewest 35 = .ok (.ldc 227, 2) := by decide +kernel
theorem dX10_fewest_37 : decode cX10_fewest 37 = .ok (.invokespecial 229, 3) := by decide +kernel
theorem dX10_fewest_40 : decode cX10_fewest 40 = .ok (.athrow, 1) := by decide +kernel
theorem dX10_fewest_41 : decode cX10_fewest 41 = .ok (.aload_n 0, 1) := by decide +kernel
theorem dX10_fewest_42 : decode cX10_fewest 42 = .ok (.getfield 62, 3) := by decide +kernel
theorem dX10_fewest_45 : decode cX10_fewest 45 = .ok (.aload_n 0, 1) := by decide +kernel
theorem dX10_fewest_46 : decode cX10_fewest 46 = .ok (.getfield 19, 3) := by decide +kernel
theorem dX10_fewest_49 : decode cX10_fewest 49 = .ok (.aload_n 0, 1) := by decide +kernel
theorem dX10_fewest_50 : decode cX10_fewest 50 = .ok (.getfield 26, 3) := by decide +kernel
theorem dX10_fewest_53 : decode cX10_fewest 53 = .ok (.iload_n 1, 1) := by decide +kernel
theorem dX10_fewest_54 : decode cX10_fewest 54 = .ok (.invokevirtual 230, 3) := by decide +kernel
theorem dX10_fewest_57 : decode cX10_fewest 57 = .ok (.ireturn, 1) := by decide +kernel
theorem dX10_doublings_0 : decode cX10_doublings 0 = .ok (.aload_n 0, 1) := by decide +kernel
theorem dX10_doublings_1 : decode cX10_doublings 1 = .ok (.getfield 26, 3) := by decide +kernel
theorem dX10_doublings_4 : decode cX10_doublings 4 = .ok (.getfield 171, 3) := by decide +kernel
theorem dX10_doublings_7 : decode cX10_doublings 7 = .ok (.invokevirtual 233, 3) := by decide +kernel
theorem dX10_doublings_10 : decode cX10_doublings 10 = .ok (.ireturn, 1) := by decide +kernel
theorem dX10_soonest_0 : decode cX10_soonest 0 = .ok (.aload_n 0, 1) := by decide +kernel
theorem dX10_soonest_1 : decode cX10_soonest 1 = .ok (.iload_n 1, 1) := by decide +kernel
theorem dX10_soonest_2 : decode cX10_soonest 2 = .ok (.invokevirtual 168, 3) := by decide +kernel
theorem dX10_soonest_5 : decode cX10_soonest 5 = .ok (.aload_n 0, 1) := by decide +kernel
theorem dX10_soonest_6 : decode cX10_soonest 6 = .ok (.iload_n 2, 1) := by decide +kernel
theorem dX10_soonest_7 : decode cX10_soonest 7 = .ok (.invokevirtual 168, 3) := by decide +kernel
theorem dX10_soonest_10 : decode cX10_soonest 10 = .ok (.aload_n 0, 1) := by decide +kernel
theorem dX10_soonest_11 : decode cX10_soonest 11 = .ok (.getfield 26, 3) := by decide +kernel
theorem dX10_soonest_14 : decode cX10_soonest 14 = .ok (.getfield 171, 3) := by decide +kernel
theorem dX10_soonest_17 : decode cX10_soonest 17 = .ok (.iload_n 2, 1) := by decide +kernel
theorem dX10_soonest_18 : decode cX10_soonest 18 = .ok (.invokevirtual 180, 3) := by decide +kernel
theorem dX10_soonest_21 : decode cX10_soonest 21 = .ok (.istore_n 3, 1) := by decide +kernel
theorem dX10_soonest_22 : decode cX10_soonest 22 = .ok (.iconst 0, 1) := by decide +kernel
theorem dX10_soonest_23 : decode cX10_soonest 23 = .ok (.istore 4, 2) := by decide +kernel
theorem dX10_soonest_25 : decode cX10_soonest 25 = .ok (.iload 4, 2) := by decide +kernel
theorem dX10_soonest_27 : decode cX10_soonest 27 = .ok (.bipush 60, 2) := by decide +kernel
theorem dX10_soonest_29 : decode cX10_soonest 29 = .ok (.if_icmp .gt 45, 3) := by decide +kernel
theorem dX10_soonest_32 : decode cX10_soonest 32 = .ok (.iload_n 3, 1) := by decide +kernel
theorem dX10_soonest_33 : decode cX10_soonest 33 = .ok (.iload_n 1, 1) := by decide +kernel
theorem dX10_soonest_34 : decode cX10_soonest 34 = .ok (.invokestatic 161, 3) := by decide +kernel
theorem dX10_soonest_37 : decode cX10_soonest 37 = .ok (.ifCond .eq 6, 3) := by decide +kernel
theorem dX10_soonest_40 : decode cX10_soonest 40 = .ok (.iload 4, 2) := by decide +kernel
theorem dX10_soonest_42 : decode cX10_soonest 42 = .ok (.ireturn, 1) := by decide +kernel
theorem dX10_soonest_43 : decode cX10_soonest 43 = .ok (.aload_n 0, 1) := by decide +kernel
theorem dX10_soonest_44 : decode cX10_soonest 44 = .ok (.getfield 19, 3) := by decide +kernel
theorem dX10_soonest_47 : decode cX10_soonest 47 = .ok (.iload_n 3, 1) := by decide +kernel
theorem dX10_soonest_48 : decode cX10_soonest 48 = .ok (.aload_n 0, 1) := by decide +kernel
theorem dX10_soonest_49 : decode cX10_soonest 49 = .ok (.aload_n 0, 1) := by decide +kernel
theorem dX10_soonest_50 : decode cX10_soonest 50 = .ok (.getfield 26, 3) := by decide +kernel
theorem dX10_soonest_53 : decode cX10_soonest 53 = .ok (.getfield 111, 3) := by decide +kernel
theorem dX10_soonest_56 : decode cX10_soonest 56 = .ok (.iconst 1, 1) := by decide +kernel
theorem dX10_soonest_57 : decode cX10_soonest 57 = .ok (.iadd, 1) := by decide +kernel
theorem dX10_soonest_58 : decode cX10_soonest 58 = .ok (.iload 4, 2) := by decide +kernel
theorem dX10_soonest_60 : decode cX10_soonest 60 = .ok (.iadd, 1) := by decide +kernel
theorem dX10_soonest_61 : decode cX10_soonest 61 = .ok (.invokevirtual 158, 3) := by decide +kernel
theorem dX10_soonest_64 : decode cX10_soonest 64 = .ok (.invokevirtual 236, 3) := by decide +kernel
theorem dX10_soonest_67 : decode cX10_soonest 67 = .ok (.istore_n 3, 1) := by decide +kernel
theorem dX10_soonest_68 : decode cX10_soonest 68 = .ok (.iinc 4 1, 3) := by decide +kernel
theorem dX10_soonest_71 : decode cX10_soonest 71 = .ok (.goto (-46), 3) := by decide +kernel
theorem dX10_soonest_74 : decode cX10_soonest 74 = .ok (.iconst (-1), 1) := by decide +kernel
theorem dX10_soonest_75 : decode cX10_soonest 75 = .ok (.ireturn, 1) := by decide +kernel
theorem dX10_cheapest_0 : decode cX10_cheapest 0 = .ok (.aload_n 0, 1) := by decide +kernel
theorem dX10_cheapest_1 : decode cX10_cheapest 1 = .ok (.iload_n 1, 1) := by decide +kernel
theorem dX10_cheapest_2 : decode cX10_cheapest 2 = .ok (.invokevirtual 168, 3) := by decide +kernel
theorem dX10_cheapest_5 : decode cX10_cheapest 5 = .ok (.aload_n 0, 1) := by decide +kernel
theorem dX10_cheapest_6 : decode cX10_cheapest 6 = .ok (.iload_n 2, 1) := by decide +kernel
theorem dX10_cheapest_7 : decode cX10_cheapest 7 = .ok (.invokevirtual 168, 3) := by decide +kernel
theorem dX10_cheapest_10 : decode cX10_cheapest 10 = .ok (.aload_n 0, 1) := by decide +kernel
theorem dX10_cheapest_11 : decode cX10_cheapest 11 = .ok (.getfield 19, 3) := by decide +kernel
theorem dX10_cheapest_14 : decode cX10_cheapest 14 = .ok (.aload_n 0, 1) := by decide +kernel
theorem dX10_cheapest_15 : decode cX10_cheapest 15 = .ok (.getfield 26, 3) := by decide +kernel
theorem dX10_cheapest_18 : decode cX10_cheapest 18 = .ok (.getfield 171, 3) := by decide +kernel
theorem dX10_cheapest_21 : decode cX10_cheapest 21 = .ok (.iload_n 2, 1) := by decide +kernel
theorem dX10_cheapest_22 : decode cX10_cheapest 22 = .ok (.invokevirtual 180, 3) := by decide +kernel
theorem dX10_cheapest_25 : decode cX10_cheapest 25 = .ok (.aload_n 0, 1) := by decide +kernel
theorem dX10_cheapest_26 : decode cX10_cheapest 26 = .ok (.invokevirtual 239, 3) := by decide +kernel
theorem dX10_cheapest_29 : decode cX10_cheapest 29 = .ok (.aload_n 0, 1) := by decide +kernel
theorem dX10_cheapest_30 : decode cX10_cheapest 30 = .ok (.getfield 66, 3) := by decide +kernel
theorem dX10_cheapest_33 : decode cX10_cheapest 33 = .ok (.invokevirtual 242, 3) := by decide +kernel
theorem dX10_cheapest_36 : decode cX10_cheapest 36 = .ok (.aload_n 0, 1) := by decide +kernel
theorem dX10_cheapest_37 : decode cX10_cheapest 37 = .ok (.getfield 66, 3) := by decide +kernel
theorem dX10_cheapest_40 : decode cX10_cheapest 40 = .ok (.iload_n 1, 1) := by decide +kernel
theorem dX10_cheapest_41 : decode cX10_cheapest 41 = .ok (.iaload, 1) := by decide +kernel
theorem dX10_cheapest_42 : decode cX10_cheapest 42 = .ok (.ireturn, 1) := by decide +kernel
theorem dX10_vital_0 : decode cX10_vital 0 = .ok (.aload_n 0, 1) := by decide +kernel
theorem dX10_vital_1 : decode cX10_vital 1 = .ok (.invokevirtual 239, 3) := by decide +kernel
theorem dX10_vital_4 : decode cX10_vital 4 = .ok (.istore_n 1, 1) := by decide +kernel
theorem dX10_vital_5 : decode cX10_vital 5 = .ok (.iconst 0, 1) := by decide +kernel
theorem dX10_vital_6 : decode cX10_vital 6 = .ok (.istore_n 2, 1) := by decide +kernel
theorem dX10_vital_7 : decode cX10_vital 7 = .ok (.iconst 0, 1) := by decide +kernel
theorem dX10_vital_8 : decode cX10_vital 8 = .ok (.istore_n 3, 1) := by decide +kernel
theorem dX10_vital_9 : decode cX10_vital 9 = .ok (.iload_n 3, 1) := by decide +kernel
theorem dX10_vital_10 : decode cX10_vital 10 = .ok (.aload_n 0, 1) := by decide +kernel
theorem dX10_vital_11 : decode cX10_vital 11 = .ok (.getfield 19, 3) := by decide +kernel
theorem dX10_vital_14 : decode cX10_vital 14 = .ok (.getfield 70, 3) := by decide +kernel
theorem dX10_vital_17 : decode cX10_vital 17 = .ok (.if_icmp .ge 31, 3) := by decide +kernel
theorem dX10_vital_20 : decode cX10_vital 20 = .ok (.iload_n 2, 1) := by decide +kernel
theorem dX10_vital_21 : decode cX10_vital 21 = .ok (.aload_n 0, 1) := by decide +kernel
theorem dX10_vital_22 : decode cX10_vital 22 = .ok (.getfield 19, 3) := by decide +kernel
theorem dX10_vital_25 : decode cX10_vital 25 = .ok (.aload_n 0, 1) := by decide +kernel
theorem dX10_vital_26 : decode cX10_vital 26 = .ok (.getfield 26, 3) := by decide +kernel
theorem dX10_vital_29 : decode cX10_vital 29 = .ok (.getfield 171, 3) := by decide +kernel
theorem dX10_vital_32 : decode cX10_vital 32 = .ok (.iload_n 3, 1) := by decide +kernel
theorem dX10_vital_33 : decode cX10_vital 33 = .ok (.invokevirtual 180, 3) := by decide +kernel
theorem dX10_vital_36 : decode cX10_vital 36 = .ok (.iload_n 1, 1) := by decide +kernel
theorem dX10_vital_37 : decode cX10_vital 37 = .ok (.invokevirtual 246, 3) := by decide +kernel
theorem dX10_vital_40 : decode cX10_vital 40 = .ok (.ior, 1) := by decide +kernel
theorem dX10_vital_41 : decode cX10_vital 41 = .ok (.istore_n 2, 1) := by decide +kernel
theorem dX10_vital_42 : decode cX10_vital 42 = .ok (.iinc 3 1, 3) := by decide +kernel
theorem dX10_vital_45 : decode cX10_vital 45 = .ok (.goto (-36), 3) := by decide +kernel
theorem dX10_vital_48 : decode cX10_vital 48 = .ok (.iload_n 2, 1) := by decide +kernel
theorem dX10_vital_49 : decode cX10_vital 49 = .ok (.ireturn, 1) := by decide +kernel
theorem dX10_arrange_0 : decode cX10_arrange 0 = .ok (.aload_n 0, 1) := by decide +kernel
theorem dX10_arrange_1 : decode cX10_arrange 1 = .ok (.iload_n 1, 1) := by decide +kernel
theorem dX10_arrange_2 : decode cX10_arrange 2 = .ok (.invokevirtual 130, 3) := by decide +kernel
theorem dX10_arrange_5 : decode cX10_arrange 5 = .ok (.aload_n 0, 1) := by decide +kernel
theorem dX10_arrange_6 : decode cX10_arrange 6 = .ok (.getfield 26, 3) := by decide +kernel
theorem dX10_arrange_9 : decode cX10_arrange 9 = .ok (.getfield 117, 3) := by decide +kernel
theorem dX10_arrange_12 : decode cX10_arrange 12 = .ok (.iload_n 1, 1) := by decide +kernel
theorem dX10_arrange_13 : decode cX10_arrange 13 = .ok (.invokestatic 161, 3) := by decide +kernel
theorem dX10_arrange_16 : decode cX10_arrange 16 = .ok (.ifCond .eq 13, 3) := by decide +kernel
theorem dX10_arrange_19 : decode cX10_arrange 19 = .ok (.new 225, 3) := by decide +kernel
theorem dX10_arrange_22 : decode cX10_arrange 22 = .ok (.dup, 1) := by decide +kernel
theorem dX10_arrange_23 : decode cX10_arrange 23 = .ok (.ldc 249, 2) := by decide +kernel
theorem dX10_arrange_25 : decode cX10_arrange 25 = .ok (.invokespecial 229, 3) := by decide +kernel
theorem dX10_arrange_28 : decode cX10_arrange 28 = .ok (.athrow, 1) := by decide +kernel
theorem dX10_arrange_29 : decode cX10_arrange 29 = .ok (.aload_n 0, 1) := by decide +kernel
theorem dX10_arrange_30 : decode cX10_arrange 30 = .ok (.iload_n 1, 1) := by decide +kernel
theorem dX10_arrange_31 : decode cX10_arrange 31 = .ok (.invokevirtual 251, 3) := by decide +kernel
theorem dX10_arrange_34 : decode cX10_arrange 34 = .ok (.ifCond .ne 13, 3) := by decide +kernel
theorem dX10_arrange_37 : decode cX10_arrange 37 = .ok (.new 225, 3) := by decide +kernel
theorem dX10_arrange_40 : decode cX10_arrange 40 = .ok (.dup, 1) := by decide +kernel
theorem dX10_arrange_41 : decode cX10_arrange 41 = .ok (.ldc 255, 2) := by decide +kernel
theorem dX10_arrange_43 : decode cX10_arrange 43 = .ok (.invokespecial 229, 3) := by decide +kernel
theorem dX10_arrange_46 : decode cX10_arrange 46 = .ok (.athrow, 1) := by decide +kernel
theorem dX10_arrange_47 : decode cX10_arrange 47 = .ok (.aload_n 0, 1) := by decide +kernel
theorem dX10_arrange_48 : decode cX10_arrange 48 = .ok (.getfield 33, 3) := by decide +kernel
theorem dX10_arrange_51 : decode cX10_arrange 51 = .ok (.aload_n 0, 1) := by decide +kernel
theorem dX10_arrange_52 : decode cX10_arrange 52 = .ok (.getfield 26, 3) := by decide +kernel
theorem dX10_arrange_55 : decode cX10_arrange 55 = .ok (.invokevirtual 257, 3) := by decide +kernel
theorem dX10_arrange_58 : decode cX10_arrange 58 = .ok (.aload_n 0, 1) := by decide +kernel
theorem dX10_arrange_59 : decode cX10_arrange 59 = .ok (.getfield 26, 3) := by decide +kernel
theorem dX10_arrange_62 : decode cX10_arrange 62 = .ok (.dup, 1) := by decide +kernel
theorem dX10_arrange_63 : decode cX10_arrange 63 = .ok (.getfield 117, 3) := by decide +kernel
theorem dX10_arrange_66 : decode cX10_arrange 66 = .ok (.iconst 1, 1) := by decide +kernel
theorem dX10_arrange_67 : decode cX10_arrange 67 = .ok (.iload_n 1, 1) := by decide +kernel
theorem dX10_arrange_68 : decode cX10_arrange 68 = .ok (.ishl, 1) := by decide +kernel
theorem dX10_arrange_69 : decode cX10_arrange 69 = .ok (.ior, 1) := by decide +kernel
theorem dX10_arrange_70 : decode cX10_arrange 70 = .ok (.putfield 117, 3) := by decide +kernel
theorem dX10_arrange_73 : decode cX10_arrange 73 = .ok (.aload_n 0, 1) := by decide +kernel
theorem dX10_arrange_74 : decode cX10_arrange 74 = .ok (.invokevirtual 261, 3) := by decide +kernel
theorem dX10_arrange_77 : decode cX10_arrange 77 = .ok (.ireturn, 1) := by decide +kernel
theorem dX10_canArrange_0 : decode cX10_canArrange 0 = .ok (.aload_n 0, 1) := by decide +kernel
theorem dX10_canArrange_1 : decode cX10_canArrange 1 = .ok (.getfield 19, 3) := by decide +kernel
theorem dX10_canArrange_4 : decode cX10_canArrange 4 = .ok (.aload_n 0, 1) := by decide +kernel
theorem dX10_canArrange_5 : decode cX10_canArrange 5 = .ok (.getfield 26, 3) := by decide +kernel
theorem dX10_canArrange_8 : decode cX10_canArrange 8 = .ok (.getfield 117, 3) := by decide +kernel
theorem dX10_canArrange_11 : decode cX10_canArrange 11 = .ok (.invokevirtual 264, 3) := by decide +kernel
theorem dX10_canArrange_14 : decode cX10_canArrange 14 = .ok (.istore_n 2, 1) := by decide +kernel
theorem dX10_canArrange_15 : decode cX10_canArrange 15 = .ok (.aload_n 0, 1) := by decide +kernel
theorem dX10_canArrange_16 : decode cX10_canArrange 16 = .ok (.aload_n 0, 1) := by decide +kernel
theorem dX10_canArrange_17 : decode cX10_canArrange 17 = .ok (.getfield 26, 3) := by decide +kernel
theorem dX10_canArrange_20 : decode cX10_canArrange 20 = .ok (.getfield 111, 3) := by decide +kernel
theorem dX10_canArrange_23 : decode cX10_canArrange 23 = .ok (.iconst 1, 1) := by decide +kernel
theorem dX10_canArrange_24 : decode cX10_canArrange 24 = .ok (.iadd, 1) := by decide +kernel
theorem dX10_canArrange_25 : decode cX10_canArrange 25 = .ok (.invokevirtual 158, 3) := by decide +kernel
theorem dX10_canArrange_28 : decode cX10_canArrange 28 = .ok (.iload_n 1, 1) := by decide +kernel
theorem dX10_canArrange_29 : decode cX10_canArrange 29 = .ok (.invokestatic 161, 3) := by decide +kernel
theorem dX10_canArrange_32 : decode cX10_canArrange 32 = .ok (.ifCond .eq 22, 3) := by decide +kernel
theorem dX10_canArrange_35 : decode cX10_canArrange 35 = .ok (.iload_n 2, 1) := by decide +kernel
theorem dX10_canArrange_36 : decode cX10_canArrange 36 = .ok (.aload_n 0, 1) := by decide +kernel
theorem dX10_canArrange_37 : decode cX10_canArrange 37 = .ok (.getfield 19, 3) := by decide +kernel
theorem dX10_canArrange_40 : decode cX10_canArrange 40 = .ok (.iconst 1, 1) := by decide +kernel
theorem dX10_canArrange_41 : decode cX10_canArrange 41 = .ok (.iload_n 1, 1) := by decide +kernel
theorem dX10_canArrange_42 : decode cX10_canArrange 42 = .ok (.ishl, 1) := by decide +kernel
theorem dX10_canArrange_43 : decode cX10_canArrange 43 = .ok (.invokevirtual 264, 3) := by decide +kernel
theorem dX10_canArrange_46 : decode cX10_canArrange 46 = .ok (.iand, 1) := by decide +kernel
theorem dX10_canArrange_47 : decode cX10_canArrange 47 = .ok (.ifCond .ne 7, 3) := by decide +kernel
theorem dX10_canArrange_50 : decode cX10_canArrange 50 = .ok (.iconst 1, 1) := by decide +kernel
theorem dX10_canArrange_51 : decode cX10_canArrange 51 = .ok (.goto 4, 3) := by decide +kernel
theorem dX10_canArrange_54 : decode cX10_canArrange 54 = .ok (.iconst 0, 1) := by decide +kernel
theorem dX10_canArrange_55 : decode cX10_canArrange 55 = .ok (.ireturn, 1) := by decide +kernel
theorem dX10_takeBack_0 : decode cX10_takeBack 0 = .ok (.aload_n 0, 1) := by decide +kernel
theorem dX10_takeBack_1 : decode cX10_takeBack 1 = .ok (.iload_n 1, 1) := by decide +kernel
theorem dX10_takeBack_2 : decode cX10_takeBack 2 = .ok (.invokevirtual 130, 3) := by decide +kernel
theorem dX10_takeBack_5 : decode cX10_takeBack 5 = .ok (.aload_n 0, 1) := by decide +kernel
theorem dX10_takeBack_6 : decode cX10_takeBack 6 = .ok (.getfield 26, 3) := by decide +kernel
theorem dX10_takeBack_9 : decode cX10_takeBack 9 = .ok (.getfield 117, 3) := by decide +kernel
theorem dX10_takeBack_12 : decode cX10_takeBack 12 = .ok (.iload_n 1, 1) := by decide +kernel
theorem dX10_takeBack_13 : decode cX10_takeBack 13 = .ok (.invokestatic 161, 3) := by decide +kernel
theorem dX10_takeBack_16 : decode cX10_takeBack 16 = .ok (.ifCond .ne 14, 3) := by decide +kernel
theorem dX10_takeBack_19 : decode cX10_takeBack 19 = .ok (.new 225, 3) := by decide +kernel
theorem dX10_takeBack_22 : decode cX10_takeBack 22 = .ok (.dup, 1) := by decide +kernel
theorem dX10_takeBack_23 : decode cX10_takeBack 23 = .ok (.ldc_w 267, 3) := by decide +kernel
theorem dX10_takeBack_26 : decode cX10_takeBack 26 = .ok (.invokespecial 229, 3) := by decide +kernel
theorem dX10_takeBack_29 : decode cX10_takeBack 29 = .ok (.athrow, 1) := by decide +kernel
theorem dX10_takeBack_30 : decode cX10_takeBack 30 = .ok (.aload_n 0, 1) := by decide +kernel
theorem dX10_takeBack_31 : decode cX10_takeBack 31 = .ok (.getfield 33, 3) := by decide +kernel
theorem dX10_takeBack_34 : decode cX10_takeBack 34 = .ok (.aload_n 0, 1) := by decide +kernel
theorem dX10_takeBack_35 : decode cX10_takeBack 35 = .ok (.getfield 26, 3) := by decide +kernel
theorem dX10_takeBack_38 : decode cX10_takeBack 38 = .ok (.invokevirtual 257, 3) := by decide +kernel
theorem dX10_takeBack_41 : decode cX10_takeBack 41 = .ok (.aload_n 0, 1) := by decide +kernel
theorem dX10_takeBack_42 : decode cX10_takeBack 42 = .ok (.getfield 26, 3) := by decide +kernel
theorem dX10_takeBack_45 : decode cX10_takeBack 45 = .ok (.dup, 1) := by decide +kernel
theorem dX10_takeBack_46 : decode cX10_takeBack 46 = .ok (.getfield 117, 3) := by decide +kernel
theorem dX10_takeBack_49 : decode cX10_takeBack 49 = .ok (.iconst 1, 1) := by decide +kernel
theorem dX10_takeBack_50 : decode cX10_takeBack 50 = .ok (.iload_n 1, 1) := by decide +kernel
theorem dX10_takeBack_51 : decode cX10_takeBack 51 = .ok (.ishl, 1) := by decide +kernel
theorem dX10_takeBack_52 : decode cX10_takeBack 52 = .ok (.iconst (-1), 1) := by decide +kernel
theorem dX10_takeBack_53 : decode cX10_takeBack 53 = .ok (.ixor, 1) := by decide +kernel
theorem dX10_takeBack_54 : decode cX10_takeBack 54 = .ok (.iand, 1) := by decide +kernel
theorem dX10_takeBack_55 : decode cX10_takeBack 55 = .ok (.putfield 117, 3) := by decide +kernel
theorem dX10_takeBack_58 : decode cX10_takeBack 58 = .ok (.aload_n 0, 1) := by decide +kernel
theorem dX10_takeBack_59 : decode cX10_takeBack 59 = .ok (.invokevirtual 261, 3) := by decide +kernel
theorem dX10_takeBack_62 : decode cX10_takeBack 62 = .ok (.ireturn, 1) := by decide +kernel
theorem dX10_arrangeBest_0 : decode cX10_arrangeBest 0 = .ok (.aload_n 0, 1) := by decide +kernel
theorem dX10_arrangeBest_1 : decode cX10_arrangeBest 1 = .ok (.getfield 33, 3) := by decide +kernel
theorem dX10_arrangeBest_4 : decode cX10_arrangeBest 4 = .ok (.aload_n 0, 1) := by decide +kernel
theorem dX10_arrangeBest_5 : decode cX10_arrangeBest 5 = .ok (.getfield 26, 3) := by decide +kernel
theorem dX10_arrangeBest_8 : decode cX10_arrangeBest 8 = .ok (.invokevirtual 257, 3) := by decide +kernel
theorem dX10_arrangeBest_11 : decode cX10_arrangeBest 11 = .ok (.aload_n 0, 1) := by decide +kernel
theorem dX10_arrangeBest_12 : decode cX10_arrangeBest 12 = .ok (.getfield 26, 3) := by decide +kernel
theorem dX10_arrangeBest_15 : decode cX10_arrangeBest 15 = .ok (.aload_n 0, 1) := by decide +kernel
theorem dX10_arrangeBest_16 : decode cX10_arrangeBest 16 = .ok (.invokevirtual 202, 3) := by decide +kernel
theorem dX10_arrangeBest_19 : decode cX10_arrangeBest 19 = .ok (.putfield 117, 3) := by decide +kernel
theorem dX10_arrangeBest_22 : decode cX10_arrangeBest 22 = .ok (.aload_n 0, 1) := by decide +kernel
theorem dX10_arrangeBest_23 : decode cX10_arrangeBest 23 = .ok (.invokevirtual 261, 3) := by decide +kernel
theorem dX10_arrangeBest_26 : decode cX10_arrangeBest 26 = .ok (.ireturn, 1) := by decide +kernel
theorem dX10_ring_0 : decode cX10_ring 0 = .ok (.aload_n 0, 1) := by decide +kernel
theorem dX10_ring_1 : decode cX10_ring 1 = .ok (.getfield 26, 3) := by decide +kernel
theorem dX10_ring_4 : decode cX10_ring 4 = .ok (.getfield 111, 3) := by decide +kernel
theorem dX10_ring_7 : decode cX10_ring 7 = .ok (.sipush 9999, 3) := by decide +kernel
theorem dX10_ring_10 : decode cX10_ring 10 = .ok (.if_icmp .lt 14, 3) := by decide +kernel
theorem dX10_ring_13 : decode cX10_ring 13 = .ok (.new 225, 3) := by decide +kernel
theorem dX10_ring_16 : decode cX10_ring 16 = .ok (.dup, 1) := by decide +kernel
theorem dX10_ring_17 : decode cX10_ring 17 = .ok (.ldc_w 269, 3) := by decide +kernel
theorem dX10_ring_20 : decode cX10_ring 20 = .ok (.invokespecial 229, 3) := by decide +kernel
theorem dX10_ring_23 : decode cX10_ring 23 = .ok (.athrow, 1) := by decide +kernel
theorem dX10_ring_24 : decode cX10_ring 24 = .ok (.aload_n 0, 1) := by decide +kernel
theorem dX10_ring_25 : decode cX10_ring 25 = .ok (.getfield 33, 3) := by decide +kernel
theorem dX10_ring_28 : decode cX10_ring 28 = .ok (.aload_n 0, 1) := by decide +kernel
theorem dX10_ring_29 : decode cX10_ring 29 = .ok (.getfield 26, 3) := by decide +kernel
theorem dX10_ring_32 : decode cX10_ring 32 = .ok (.invokevirtual 257, 3) := by decide +kernel
theorem dX10_ring_35 : decode cX10_ring 35 = .ok (.aload_n 0, 1) := by decide +kernel
theorem dX10_ring_36 : decode cX10_ring 36 = .ok (.invokevirtual 261, 3) := by decide +kernel
theorem dX10_ring_39 : decode cX10_ring 39 = .ok (.istore_n 1, 1) := by decide +kernel
theorem dX10_ring_40 : decode cX10_ring 40 = .ok (.aload_n 0, 1) := by decide +kernel
theorem dX10_ring_41 : decode cX10_ring 41 = .ok (.getfield 19, 3) := by decide +kernel
theorem dX10_ring_44 : decode cX10_ring 44 = .ok (.aload_n 0, 1) := by decide +kernel
theorem dX10_ring_45 : decode cX10_ring 45 = .ok (.getfield 26, 3) := by decide +kernel
theorem dX10_ring_48 : decode cX10_ring 48 = .ok (.getfield 117, 3) := by decide +kernel
theorem dX10_ring_51 : decode cX10_ring 51 = .ok (.aload_n 0, 1) := by decide +kernel
theorem dX10_ring_52 : decode cX10_ring 52 = .ok (.getfield 26, 3) := by decide +kernel
theorem dX10_ring_55 : decode cX10_ring 55 = .ok (.getfield 171, 3) := by decide +kernel
theorem dX10_ring_58 : decode cX10_ring 58 = .ok (.invokevirtual 271, 3) := by decide +kernel
theorem dX10_ring_61 : decode cX10_ring 61 = .ok (.aload_n 0, 1) := by decide +kernel
theorem dX10_ring_62 : decode cX10_ring 62 = .ok (.getfield 26, 3) := by decide +kernel
theorem dX10_ring_65 : decode cX10_ring 65 = .ok (.aload_n 0, 1) := by decide +kernel
theorem dX10_ring_66 : decode cX10_ring 66 = .ok (.getfield 19, 3) := by decide +kernel
theorem dX10_ring_69 : decode cX10_ring 69 = .ok (.aload_n 0, 1) := by decide +kernel
theorem dX10_ring_70 : decode cX10_ring 70 = .ok (.getfield 26, 3) := by decide +kernel
theorem dX10_ring_73 : decode cX10_ring 73 = .ok (.getfield 117, 3) := by decide +kernel
theorem dX10_ring_76 : decode cX10_ring 76 = .ok (.invokevirtual 205, 3) := by decide +kernel
theorem dX10_ring_79 : decode cX10_ring 79 = .ok (.invokevirtual 275, 3) := by decide +kernel
theorem dX10_ring_82 : decode cX10_ring 82 = .ok (.iload_n 1, 1) := by decide +kernel
theorem dX10_ring_83 : decode cX10_ring 83 = .ok (.ireturn, 1) := by decide +kernel
theorem dX10_cut_0 : decode cX10_cut 0 = .ok (.aload_n 0, 1) := by decide +kernel
theorem dX10_cut_1 : decode cX10_cut 1 = .ok (.iload_n 1, 1) := by decide +kernel
theorem dX10_cut_2 : decode cX10_cut 2 = .ok (.invokevirtual 130, 3) := by decide +kernel
theorem dX10_cut_5 : decode cX10_cut 5 = .ok (.aload_n 0, 1) := by decide +kernel
theorem dX10_cut_6 : decode cX10_cut 6 = .ok (.getfield 26, 3) := by decide +kernel
theorem dX10_cut_9 : decode cX10_cut 9 = .ok (.getfield 125, 3) := by decide +kernel
theorem dX10_cut_12 : decode cX10_cut 12 = .ok (.iload_n 1, 1) := by decide +kernel
theorem dX10_cut_13 : decode cX10_cut 13 = .ok (.invokestatic 161, 3) := by decide +kernel
theorem dX10_cut_16 : decode cX10_cut 16 = .ok (.ifCond .eq 14, 3) := by decide +kernel
theorem dX10_cut_19 : decode cX10_cut 19 = .ok (.new 225, 3) := by decide +kernel
theorem dX10_cut_22 : decode cX10_cut 22 = .ok (.dup, 1) := by decide +kernel
theorem dX10_cut_23 : decode cX10_cut 23 = .ok (.ldc_w 278, 3) := by decide +kernel
theorem dX10_cut_26 : decode cX10_cut 26 = .ok (.invokespecial 229, 3) := by decide +kernel
theorem dX10_cut_29 : decode cX10_cut 29 = .ok (.athrow, 1) := by decide +kernel
theorem dX10_cut_30 : decode cX10_cut 30 = .ok (.aload_n 0, 1) := by decide +kernel
theorem dX10_cut_31 : decode cX10_cut 31 = .ok (.getfield 33, 3) := by decide +kernel
theorem dX10_cut_34 : decode cX10_cut 34 = .ok (.aload_n 0, 1) := by decide +kernel
theorem dX10_cut_35 : decode cX10_cut 35 = .ok (.getfield 26, 3) := by decide +kernel
theorem dX10_cut_38 : decode cX10_cut 38 = .ok (.invokevirtual 257, 3) := by decide +kernel
theorem dX10_cut_41 : decode cX10_cut 41 = .ok (.aload_n 0, 1) := by decide +kernel
theorem dX10_cut_42 : decode cX10_cut 42 = .ok (.getfield 26, 3) := by decide +kernel
theorem dX10_cut_45 : decode cX10_cut 45 = .ok (.getfield 117, 3) := by decide +kernel
theorem dX10_cut_48 : decode cX10_cut 48 = .ok (.iload_n 1, 1) := by decide +kernel
theorem dX10_cut_49 : decode cX10_cut 49 = .ok (.invokestatic 161, 3) := by decide +kernel
theorem dX10_cut_52 : decode cX10_cut 52 = .ok (.istore_n 2, 1) := by decide +kernel
theorem dX10_cut_53 : decode cX10_cut 53 = .ok (.aload_n 0, 1) := by decide +kernel
theorem dX10_cut_54 : decode cX10_cut 54 = .ok (.getfield 26, 3) := by decide +kernel
theorem dX10_cut_57 : decode cX10_cut 57 = .ok (.dup, 1) := by decide +kernel
theorem dX10_cut_58 : decode cX10_cut 58 = .ok (.getfield 125, 3) := by decide +kernel
theorem dX10_cut_61 : decode cX10_cut 61 = .ok (.iconst 1, 1) := by decide +kernel
theorem dX10_cut_62 : decode cX10_cut 62 = .ok (.iload_n 1, 1) := by decide +kernel
theorem dX10_cut_63 : decode cX10_cut 63 = .ok (.ishl, 1) := by decide +kernel
theorem dX10_cut_64 : decode cX10_cut 64 = .ok (.ior, 1) := by decide +kernel
theorem dX10_cut_65 : decode cX10_cut 65 = .ok (.putfield 125, 3) := by decide +kernel
theorem dX10_cut_68 : decode cX10_cut 68 = .ok (.aload_n 0, 1) := by decide +kernel
theorem dX10_cut_69 : decode cX10_cut 69 = .ok (.getfield 26, 3) := by decide +kernel
theorem dX10_cut_72 : decode cX10_cut 72 = .ok (.dup, 1) := by decide +kernel
theorem dX10_cut_73 : decode cX10_cut 73 = .ok (.getfield 117, 3) := by decide +kernel
theorem dX10_cut_76 : decode cX10_cut 76 = .ok (.iconst 1, 1) := by decide +kernel
theorem dX10_cut_77 : decode cX10_cut 77 = .ok (.iload_n 1, 1) := by decide +kernel
theorem dX10_cut_78 : decode cX10_cut 78 = .ok (.ishl, 1) := by decide +kernel
theorem dX10_cut_79 : decode cX10_cut 79 = .ok (.iconst (-1), 1) := by decide +kernel
theorem dX10_cut_80 : decode cX10_cut 80 = .ok (.ixor, 1) := by decide +kernel
theorem dX10_cut_81 : decode cX10_cut 81 = .ok (.iand, 1) := by decide +kernel
theorem dX10_cut_82 : decode cX10_cut 82 = .ok (.putfield 117, 3) := by decide +kernel
theorem dX10_cut_85 : decode cX10_cut 85 = .ok (.iload_n 2, 1) := by decide +kernel
theorem dX10_cut_86 : decode cX10_cut 86 = .ok (.ireturn, 1) := by decide +kernel
theorem dX10_mend_0 : decode cX10_mend 0 = .ok (.aload_n 0, 1) := by decide +kernel
theorem dX10_mend_1 : decode cX10_mend 1 = .ok (.iload_n 1, 1) := by decide +kernel
theorem dX10_mend_2 : decode cX10_mend 2 = .ok (.invokevirtual 130, 3) := by decide +kernel
theorem dX10_mend_5 : decode cX10_mend 5 = .ok (.aload_n 0, 1) := by decide +kernel
theorem dX10_mend_6 : decode cX10_mend 6 = .ok (.getfield 26, 3) := by decide +kernel
theorem dX10_mend_9 : decode cX10_mend 9 = .ok (.getfield 125, 3) := by decide +kernel
theorem dX10_mend_12 : decode cX10_mend 12 = .ok (.iload_n 1, 1) := by decide +kernel
theorem dX10_mend_13 : decode cX10_mend 13 = .ok (.invokestatic 161, 3) := by decide +kernel
theorem dX10_mend_16 : decode cX10_mend 16 = .ok (.ifCond .ne 14, 3) := by decide +kernel
theorem dX10_mend_19 : decode cX10_mend 19 = .ok (.new 225, 3) := by decide +kernel
theorem dX10_mend_22 : decode cX10_mend 22 = .ok (.dup, 1) := by decide +kernel
theorem dX10_mend_23 : decode cX10_mend 23 = .ok (.ldc_w 280, 3) := by decide +kernel
theorem dX10_mend_26 : decode cX10_mend 26 = .ok (.invokespecial 229, 3) := by decide +kernel
theorem dX10_mend_29 : decode cX10_mend 29 = .ok (.athrow, 1) := by decide +kernel
theorem dX10_mend_30 : decode cX10_mend 30 = .ok (.aload_n 0, 1) := by decide +kernel
theorem dX10_mend_31 : decode cX10_mend 31 = .ok (.getfield 33, 3) := by decide +kernel
theorem dX10_mend_34 : decode cX10_mend 34 = .ok (.aload_n 0, 1) := by decide +kernel
theorem dX10_mend_35 : decode cX10_mend 35 = .ok (.getfield 26, 3) := by decide +kernel
theorem dX10_mend_38 : decode cX10_mend 38 = .ok (.invokevirtual 257, 3) := by decide +kernel
theorem dX10_mend_41 : decode cX10_mend 41 = .ok (.aload_n 0, 1) := by decide +kernel
theorem dX10_mend_42 : decode cX10_mend 42 = .ok (.getfield 26, 3) := by decide +kernel
theorem dX10_mend_45 : decode cX10_mend 45 = .ok (.dup, 1) := by decide +kernel
theorem dX10_mend_46 : decode cX10_mend 46 = .ok (.getfield 125, 3) := by decide +kernel
theorem dX10_mend_49 : decode cX10_mend 49 = .ok (.iconst 1, 1) := by decide +kernel
theorem dX10_mend_50 : decode cX10_mend 50 = .ok (.iload_n 1, 1) := by decide +kernel
theorem dX10_mend_51 : decode cX10_mend 51 = .ok (.ishl, 1) := by decide +kernel
theorem dX10_mend_52 : decode cX10_mend 52 = .ok (.iconst (-1), 1) := by decide +kernel
theorem dX10_mend_53 : decode cX10_mend 53 = .ok (.ixor, 1) := by decide +kernel
theorem dX10_mend_54 : decode cX10_mend 54 = .ok (.iand, 1) := by decide +kernel
theorem dX10_mend_55 : decode cX10_mend 55 = .ok (.putfield 125, 3) := by decide +kernel
theorem dX10_mend_58 : decode cX10_mend 58 = .ok (.aload_n 0, 1) := by decide +kernel
theorem dX10_mend_59 : decode cX10_mend 59 = .ok (.getfield 26, 3) := by decide +kernel
theorem dX10_mend_62 : decode cX10_mend 62 = .ok (.getfield 125, 3) := by decide +kernel
theorem dX10_mend_65 : decode cX10_mend 65 = .ok (.invokestatic 120, 3) := by decide +kernel
theorem dX10_mend_68 : decode cX10_mend 68 = .ok (.ireturn, 1) := by decide +kernel
theorem dX10_tell_0 : decode cX10_tell 0 = .ok (.aload_n 0, 1) := by decide +kernel
theorem dX10_tell_1 : decode cX10_tell 1 = .ok (.iload_n 1, 1) := by decide +kernel
theorem dX10_tell_2 : decode cX10_tell 2 = .ok (.invokevirtual 168, 3) := by decide +kernel
theorem dX10_tell_5 : decode cX10_tell 5 = .ok (.aload_n 0, 1) := by decide +kernel
theorem dX10_tell_6 : decode cX10_tell 6 = .ok (.iload_n 2, 1) := by decide +kernel
theorem dX10_tell_7 : decode cX10_tell 7 = .ok (.invokevirtual 168, 3) := by decide +kernel
theorem dX10_tell_10 : decode cX10_tell 10 = .ok (.aload_n 0, 1) := by decide +kernel
theorem dX10_tell_11 : decode cX10_tell 11 = .ok (.getfield 26, 3) := by decide +kernel
theorem dX10_tell_14 : decode cX10_tell 14 = .ok (.getfield 171, 3) := by decide +kernel
theorem dX10_tell_17 : decode cX10_tell 17 = .ok (.getfield 175, 3) := by decide +kernel
theorem dX10_tell_20 : decode cX10_tell 20 = .ok (.iload_n 1, 1) := by decide +kernel
theorem dX10_tell_21 : decode cX10_tell 21 = .ok (.iaload, 1) := by decide +kernel
theorem dX10_tell_22 : decode cX10_tell 22 = .ok (.iload_n 2, 1) := by decide +kernel
theorem dX10_tell_23 : decode cX10_tell 23 = .ok (.invokestatic 161, 3) := by decide +kernel
theorem dX10_tell_26 : decode cX10_tell 26 = .ok (.ifCond .eq 14, 3) := by decide +kernel
theorem dX10_tell_29 : decode cX10_tell 29 = .ok (.new 225, 3) := by decide +kernel
theorem dX10_tell_32 : decode cX10_tell 32 = .ok (.dup, 1) := by decide +kernel
theorem dX10_tell_33 : decode cX10_tell 33 = .ok (.ldc_w 282, 3) := by decide +kernel
theorem dX10_tell_36 : decode cX10_tell 36 = .ok (.invokespecial 229, 3) := by decide +kernel
theorem dX10_tell_39 : decode cX10_tell 39 = .ok (.athrow, 1) := by decide +kernel
theorem dX10_tell_40 : decode cX10_tell 40 = .ok (.aload_n 0, 1) := by decide +kernel
theorem dX10_tell_41 : decode cX10_tell 41 = .ok (.getfield 33, 3) := by decide +kernel
theorem dX10_tell_44 : decode cX10_tell 44 = .ok (.aload_n 0, 1) := by decide +kernel
theorem dX10_tell_45 : decode cX10_tell 45 = .ok (.getfield 26, 3) := by decide +kernel
theorem dX10_tell_48 : decode cX10_tell 48 = .ok (.invokevirtual 257, 3) := by decide +kernel
theorem dX10_tell_51 : decode cX10_tell 51 = .ok (.aload_n 0, 1) := by decide +kernel
theorem dX10_tell_52 : decode cX10_tell 52 = .ok (.getfield 26, 3) := by decide +kernel
theorem dX10_tell_55 : decode cX10_tell 55 = .ok (.getfield 171, 3) := by decide +kernel
theorem dX10_tell_58 : decode cX10_tell 58 = .ok (.getfield 175, 3) := by decide +kernel
theorem dX10_tell_61 : decode cX10_tell 61 = .ok (.iload_n 1, 1) := by decide +kernel
theorem dX10_tell_62 : decode cX10_tell 62 = .ok (.dup2, 1) := by decide +kernel
theorem dX10_tell_63 : decode cX10_tell 63 = .ok (.iaload, 1) := by decide +kernel
theorem dX10_tell_64 : decode cX10_tell 64 = .ok (.iconst 1, 1) := by decide +kernel
theorem dX10_tell_65 : decode cX10_tell 65 = .ok (.iload_n 2, 1) := by decide +kernel
theorem dX10_tell_66 : decode cX10_tell 66 = .ok (.ishl, 1) := by decide +kernel
theorem dX10_tell_67 : decode cX10_tell 67 = .ok (.ior, 1) := by decide +kernel
theorem dX10_tell_68 : decode cX10_tell 68 = .ok (.iastore, 1) := by decide +kernel
theorem dX10_tell_69 : decode cX10_tell 69 = .ok (.aload_n 0, 1) := by decide +kernel
theorem dX10_tell_70 : decode cX10_tell 70 = .ok (.getfield 26, 3) := by decide +kernel
theorem dX10_tell_73 : decode cX10_tell 73 = .ok (.getfield 171, 3) := by decide +kernel
theorem dX10_tell_76 : decode cX10_tell 76 = .ok (.getfield 175, 3) := by decide +kernel
theorem dX10_tell_79 : decode cX10_tell 79 = .ok (.iload_n 1, 1) := by decide +kernel
theorem dX10_tell_80 : decode cX10_tell 80 = .ok (.iaload, 1) := by decide +kernel
theorem dX10_tell_81 : decode cX10_tell 81 = .ok (.invokestatic 120, 3) := by decide +kernel
theorem dX10_tell_84 : decode cX10_tell 84 = .ok (.ireturn, 1) := by decide +kernel
theorem dX10_undo_0 : decode cX10_undo 0 = .ok (.aload_n 0, 1) := by decide +kernel
theorem dX10_undo_1 : decode cX10_undo 1 = .ok (.getfield 33, 3) := by decide +kernel
theorem dX10_undo_4 : decode cX10_undo 4 = .ok (.aload_n 0, 1) := by decide +kernel
theorem dX10_undo_5 : decode cX10_undo 5 = .ok (.getfield 26, 3) := by decide +kernel
theorem dX10_undo_8 : decode cX10_undo 8 = .ok (.invokevirtual 284, 3) := by decide +kernel
theorem dX10_undo_11 : decode cX10_undo 11 = .ok (.ireturn, 1) := by decide +kernel
theorem dX10_saveSnapshot_0 : decode cX10_saveSnapshot 0 = .ok (.aload_n 0, 1) := by decide +kernel
theorem dX10_saveSnapshot_1 : decode cX10_saveSnapshot 1 = .ok (.iload_n 1, 1) := by decide +kernel
theorem dX10_saveSnapshot_2 : decode cX10_saveSnapshot 2 = .ok (.invokevirtual 288, 3) := by decide +kernel
theorem dX10_saveSnapshot_5 : decode cX10_saveSnapshot 5 = .ok (.aload_n 0, 1) := by decide +kernel
theorem dX10_saveSnapshot_6 : decode cX10_saveSnapshot 6 = .ok (.getfield 41, 3) := by decide +kernel
theorem dX10_saveSnapshot_9 : decode cX10_saveSnapshot 9 = .ok (.iload_n 1, 1) := by decide +kernel
theorem dX10_saveSnapshot_10 : decode cX10_saveSnapshot 10 = .ok (.baload, 1) := by decide +kernel
theorem dX10_saveSnapshot_11 : decode cX10_saveSnapshot 11 = .ok (.istore_n 2, 1) := by decide +kernel
theorem dX10_saveSnapshot_12 : decode cX10_saveSnapshot 12 = .ok (.aload_n 0, 1) := by decide +kernel
theorem dX10_saveSnapshot_13 : decode cX10_saveSnapshot 13 = .ok (.getfield 37, 3) := by decide +kernel
theorem dX10_saveSnapshot_16 : decode cX10_saveSnapshot 16 = .ok (.iload_n 1, 1) := by decide +kernel
theorem dX10_saveSnapshot_17 : decode cX10_saveSnapshot 17 = .ok (.aaload, 1) := by decide +kernel
theorem dX10_saveSnapshot_18 : decode cX10_saveSnapshot 18 = .ok (.aload_n 0, 1) := by decide +kernel
theorem dX10_saveSnapshot_19 : decode cX10_saveSnapshot 19 = .ok (.getfield 26, 3) := by decide +kernel
theorem dX10_saveSnapshot_22 : decode cX10_saveSnapshot 22 = .ok (.invokevirtual 291, 3) := by decide +kernel
theorem dX10_saveSnapshot_25 : decode cX10_saveSnapshot 25 = .ok (.aload_n 0, 1) := by decide +kernel
theorem dX10_saveSnapshot_26 : decode cX10_saveSnapshot 26 = .ok (.getfield 41, 3) := by decide +kernel
theorem dX10_saveSnapshot_29 : decode cX10_saveSnapshot 29 = .ok (.iload_n 1, 1) := by decide +kernel
theorem dX10_saveSnapshot_30 : decode cX10_saveSnapshot 30 = .ok (.iconst 1, 1) := by decide +kernel
theorem dX10_saveSnapshot_31 : decode cX10_saveSnapshot 31 = .ok (.bastore, 1) := by decide +kernel
theorem dX10_saveSnapshot_32 : decode cX10_saveSnapshot 32 = .ok (.iload_n 2, 1) := by decide +kernel
theorem dX10_saveSnapshot_33 : decode cX10_saveSnapshot 33 = .ok (.ireturn, 1) := by decide +kernel
theorem dX10_restoreSnapshot_0 : decode cX10_restoreSnapshot 0 = .ok (.aload_n 0, 1) := by decide +kernel
theorem dX10_restoreSnapshot_1 : decode cX10_restoreSnapshot 1 = .ok (.iload_n 1, 1) := by decide +kernel
theorem dX10_restoreSnapshot_2 : decode cX10_restoreSnapshot 2 = .ok (.invokevirtual 288, 3) := by decide +kernel
theorem dX10_restoreSnapshot_5 : decode cX10_restoreSnapshot 5 = .ok (.aload_n 0, 1) := by decide +kernel
theorem dX10_restoreSnapshot_6 : decode cX10_restoreSnapshot 6 = .ok (.getfield 41, 3) := by decide +kernel
theorem dX10_restoreSnapshot_9 : decode cX10_restoreSnapshot 9 = .ok (.iload_n 1, 1) := by decide +kernel
theorem dX10_restoreSnapshot_10 : decode cX10_restoreSnapshot 10 = .ok (.baload, 1) := by decide +kernel
theorem dX10_restoreSnapshot_11 : decode cX10_restoreSnapshot 11 = .ok (.ifCond .ne 14, 3) := by decide +kernel
theorem dX10_restoreSnapshot_14 : decode cX10_restoreSnapshot 14 = .ok (.new 225, 3) := by decide +kernel
theorem dX10_restoreSnapshot_17 : decode cX10_restoreSnapshot 17 = .ok (.dup, 1) := by decide +kernel
theorem dX10_restoreSnapshot_18 : decode cX10_restoreSnapshot 18 = .ok (.ldc_w 294, 3) := by decide +kernel
theorem dX10_restoreSnapshot_21 : decode cX10_restoreSnapshot 21 = .ok (.invokespecial 229, 3) := by decide +kernel
theorem dX10_restoreSnapshot_24 : decode cX10_restoreSnapshot 24 = .ok (.athrow, 1) := by decide +kernel
theorem dX10_restoreSnapshot_25 : decode cX10_restoreSnapshot 25 = .ok (.aload_n 0, 1) := by decide +kernel
theorem dX10_restoreSnapshot_26 : decode cX10_restoreSnapshot 26 = .ok (.getfield 26, 3) := by decide +kernel
theorem dX10_restoreSnapshot_29 : decode cX10_restoreSnapshot 29 = .ok (.aload_n 0, 1) := by decide +kernel
theorem dX10_restoreSnapshot_30 : decode cX10_restoreSnapshot 30 = .ok (.getfield 37, 3) := by decide +kernel
theorem dX10_restoreSnapshot_33 : decode cX10_restoreSnapshot 33 = .ok (.iload_n 1, 1) := by decide +kernel
theorem dX10_restoreSnapshot_34 : decode cX10_restoreSnapshot 34 = .ok (.aaload, 1) := by decide +kernel
theorem dX10_restoreSnapshot_35 : decode cX10_restoreSnapshot 35 = .ok (.invokevirtual 291, 3) := by decide +kernel
theorem dX10_restoreSnapshot_38 : decode cX10_restoreSnapshot 38 = .ok (.aload_n 0, 1) := by decide +kernel
theorem dX10_restoreSnapshot_39 : decode cX10_restoreSnapshot 39 = .ok (.getfield 33, 3) := by decide +kernel
theorem dX10_restoreSnapshot_42 : decode cX10_restoreSnapshot 42 = .ok (.invokevirtual 102, 3) := by decide +kernel
theorem dX10_restoreSnapshot_45 : decode cX10_restoreSnapshot 45 = .ok (.aload_n 0, 1) := by decide +kernel
theorem dX10_restoreSnapshot_46 : decode cX10_restoreSnapshot 46 = .ok (.getfield 26, 3) := by decide +kernel
theorem dX10_restoreSnapshot_49 : decode cX10_restoreSnapshot 49 = .ok (.getfield 111, 3) := by decide +kernel
theorem dX10_restoreSnapshot_52 : decode cX10_restoreSnapshot 52 = .ok (.ireturn, 1) := by decide +kernel
theorem dX10_requireLine_0 : decode cX10_requireLine 0 = .ok (.iload_n 1, 1) := by decide +kernel
theorem dX10_requireLine_1 : decode cX10_requireLine 1 = .ok (.ifCond .lt 14, 3) := by decide +kernel
theorem dX10_requireLine_4 : decode cX10_requireLine 4 = .ok (.iload_n 1, 1) := by decide +kernel
theorem dX10_requireLine_5 : decode cX10_requireLine 5 = .ok (.aload_n 0, 1) := by decide +kernel
theorem dX10_requireLine_6 : decode cX10_requireLine 6 = .ok (.getfield 19, 3) := by decide +kernel
theorem dX10_requireLine_9 : decode cX10_requireLine 9 = .ok (.getfield 108, 3) := by decide +kernel
theorem dX10_requireLine_12 : decode cX10_requireLine 12 = .ok (.if_icmp .lt 14, 3) := by decide +kernel
theorem dX10_requireLine_15 : decode cX10_requireLine 15 = .ok (.new 296, 3) := by decide +kernel
theorem dX10_requireLine_18 : decode cX10_requireLine 18 = .ok (.dup, 1) := by decide +kernel
theorem dX10_requireLine_19 : decode cX10_requireLine 19 = .ok (.ldc_w 298, 3) := by decide +kernel
theorem dX10_requireLine_22 : decode cX10_requireLine 22 = .ok (.invokespecial 300, 3) := by decide +kernel
theorem dX10_requireLine_25 : decode cX10_requireLine 25 = .ok (.athrow, 1) := by decide +kernel
theorem dX10_requireLine_26 : decode cX10_requireLine 26 = .ok (.return_, 1) := by decide +kernel
theorem dX10_requirePerson_0 : decode cX10_requirePerson 0 = .ok (.iload_n 1, 1) := by decide +kernel
theorem dX10_requirePerson_1 : decode cX10_requirePerson 1 = .ok (.ifCond .lt 14, 3) := by decide +kernel
theorem dX10_requirePerson_4 : decode cX10_requirePerson 4 = .ok (.iload_n 1, 1) := by decide +kernel
theorem dX10_requirePerson_5 : decode cX10_requirePerson 5 = .ok (.aload_n 0, 1) := by decide +kernel
theorem dX10_requirePerson_6 : decode cX10_requirePerson 6 = .ok (.getfield 19, 3) := by decide +kernel
theorem dX10_requirePerson_9 : decode cX10_requirePerson 9 = .ok (.getfield 70, 3) := by decide +kernel
theorem dX10_requirePerson_12 : decode cX10_requirePerson 12 = .ok (.if_icmp .lt 14, 3) := by decide +kernel
theorem dX10_requirePerson_15 : decode cX10_requirePerson 15 = .ok (.new 296, 3) := by decide +kernel
theorem dX10_requirePerson_18 : decode cX10_requirePerson 18 = .ok (.dup, 1) := by decide +kernel
theorem dX10_requirePerson_19 : decode cX10_requirePerson 19 = .ok (.ldc_w 301, 3) := by decide +kernel
theorem dX10_requirePerson_22 : decode cX10_requirePerson 22 = .ok (.invokespecial 300, 3) := by decide +kernel
theorem dX10_requirePerson_25 : decode cX10_requirePerson 25 = .ok (.athrow, 1) := by decide +kernel
theorem dX10_requirePerson_26 : decode cX10_requirePerson 26 = .ok (.return_, 1) := by decide +kernel
theorem dX10_requireSlot_0 : decode cX10_requireSlot 0 = .ok (.iload_n 1, 1) := by decide +kernel
theorem dX10_requireSlot_1 : decode cX10_requireSlot 1 = .ok (.ifCond .lt 8, 3) := by decide +kernel
theorem dX10_requireSlot_4 : decode cX10_requireSlot 4 = .ok (.iload_n 1, 1) := by decide +kernel
theorem dX10_requireSlot_5 : decode cX10_requireSlot 5 = .ok (.iconst 2, 1) := by decide +kernel
theorem dX10_requireSlot_6 : decode cX10_requireSlot 6 = .ok (.if_icmp .lt 14, 3) := by decide +kernel
theorem dX10_requireSlot_9 : decode cX10_requireSlot 9 = .ok (.new 296, 3) := by decide +kernel
theorem dX10_requireSlot_12 : decode cX10_requireSlot 12 = .ok (.dup, 1) := by decide +kernel
theorem dX10_requireSlot_13 : decode cX10_requireSlot 13 = .ok (.ldc_w 303, 3) := by decide +kernel
theorem dX10_requireSlot_16 : decode cX10_requireSlot 16 = .ok (.invokespecial 300, 3) := by decide +kernel
theorem dX10_requireSlot_19 : decode cX10_requireSlot 19 = .ok (.athrow, 1) := by decide +kernel
theorem dX10_requireSlot_20 : decode cX10_requireSlot 20 = .ok (.return_, 1) := by decide +kernel
theorem dX10_uncutLines_0 : decode cX10_uncutLines 0 = .ok (.aload_n 0, 1) := by decide +kernel
theorem dX10_uncutLines_1 : decode cX10_uncutLines 1 = .ok (.getfield 19, 3) := by decide +kernel
theorem dX10_uncutLines_4 : decode cX10_uncutLines 4 = .ok (.invokevirtual 305, 3) := by decide +kernel
theorem dX10_uncutLines_7 : decode cX10_uncutLines 7 = .ok (.aload_n 0, 1) := by decide +kernel
theorem dX10_uncutLines_8 : decode cX10_uncutLines 8 = .ok (.getfield 26, 3) := by decide +kernel
theorem dX10_uncutLines_11 : decode cX10_uncutLines 11 = .ok (.getfield 125, 3) := by decide +kernel
theorem dX10_uncutLines_14 : decode cX10_uncutLines 14 = .ok (.iconst (-1), 1) := by decide +kernel
theorem dX10_uncutLines_15 : decode cX10_uncutLines 15 = .ok (.ixor, 1) := by decide +kernel
theorem dX10_uncutLines_16 : decode cX10_uncutLines 16 = .ok (.iand, 1) := by decide +kernel
theorem dX10_uncutLines_17 : decode cX10_uncutLines 17 = .ok (.ireturn, 1) := by decide +kernel
theorem dX10_usableLines_0 : decode cX10_usableLines 0 = .ok (.aload_n 0, 1) := by decide +kernel
theorem dX10_usableLines_1 : decode cX10_usableLines 1 = .ok (.getfield 19, 3) := by decide +kernel
theorem dX10_usableLines_4 : decode cX10_usableLines 4 = .ok (.iload_n 1, 1) := by decide +kernel
theorem dX10_usableLines_5 : decode cX10_usableLines 5 = .ok (.invokevirtual 308, 3) := by decide +kernel
theorem dX10_usableLines_8 : decode cX10_usableLines 8 = .ok (.aload_n 0, 1) := by decide +kernel
theorem dX10_usableLines_9 : decode cX10_usableLines 9 = .ok (.getfield 26, 3) := by decide +kernel
theorem dX10_usableLines_12 : decode cX10_usableLines 12 = .ok (.getfield 125, 3) := by decide +kernel
theorem dX10_usableLines_15 : decode cX10_usableLines 15 = .ok (.iconst (-1), 1) := by decide +kernel
theorem dX10_usableLines_16 : decode cX10_usableLines 16 = .ok (.ixor, 1) := by decide +kernel
theorem dX10_usableLines_17 : decode cX10_usableLines 17 = .ok (.iand, 1) := by decide +kernel
theorem dX10_usableLines_18 : decode cX10_usableLines 18 = .ok (.ireturn, 1) := by decide +kernel
theorem dX10_isIn_0 : decode cX10_isIn 0 = .ok (.iload_n 0, 1) := by decide +kernel
theorem dX10_isIn_1 : decode cX10_isIn 1 = .ok (.iload_n 1, 1) := by decide +kernel
theorem dX10_isIn_2 : decode cX10_isIn 2 = .ok (.ishr, 1) := by decide +kernel
theorem dX10_isIn_3 : decode cX10_isIn 3 = .ok (.iconst 1, 1) := by decide +kernel
theorem dX10_isIn_4 : decode cX10_isIn 4 = .ok (.iand, 1) := by decide +kernel
theorem dX10_isIn_5 : decode cX10_isIn 5 = .ok (.iconst 1, 1) := by decide +kernel
theorem dX10_isIn_6 : decode cX10_isIn 6 = .ok (.if_icmp .ne 7, 3) := by decide +kernel
theorem dX10_isIn_9 : decode cX10_isIn 9 = .ok (.iconst 1, 1) := by decide +kernel
theorem dX10_isIn_10 : decode cX10_isIn 10 = .ok (.goto 4, 3) := by decide +kernel
theorem dX10_isIn_13 : decode cX10_isIn 13 = .ok (.iconst 0, 1) := by decide +kernel
theorem dX10_isIn_14 : decode cX10_isIn 14 = .ok (.ireturn, 1) := by decide +kernel
theorem dJ6_bitCount_0f7a4_0 : decode cJ6_bitCount_0f7a4 0 = .ok (.iload_n 0, 1) := by decide +kernel
theorem dJ6_bitCount_0f7a4_1 : decode cJ6_bitCount_0f7a4 1 = .ok (.iload_n 0, 1) := by decide +kernel
theorem dJ6_bitCount_0f7a4_2 : decode cJ6_bitCount_0f7a4 2 = .ok (.iconst 1, 1) := by decide +kernel
theorem dJ6_bitCount_0f7a4_3 : decode cJ6_bitCount_0f7a4 3 = .ok (.iushr, 1) := by decide +kernel
theorem dJ6_bitCount_0f7a4_4 : decode cJ6_bitCount_0f7a4 4 = .ok (.ldc_w 265, 3) := by decide +kernel
theorem dJ6_bitCount_0f7a4_7 : decode cJ6_bitCount_0f7a4 7 = .ok (.iand, 1) := by decide +kernel
theorem dJ6_bitCount_0f7a4_8 : decode cJ6_bitCount_0f7a4 8 = .ok (.isub, 1) := by decide +kernel
theorem dJ6_bitCount_0f7a4_9 : decode cJ6_bitCount_0f7a4 9 = .ok (.istore_n 0, 1) := by decide +kernel
theorem dJ6_bitCount_0f7a4_10 : decode cJ6_bitCount_0f7a4 10 = .ok (.iload_n 0, 1) := by decide +kernel
theorem dJ6_bitCount_0f7a4_11 : decode cJ6_bitCount_0f7a4 11 = .ok (.ldc_w 266, 3) := by decide +kernel
theorem dJ6_bitCount_0f7a4_14 : decode cJ6_bitCount_0f7a4 14 = .ok (.iand, 1) := by decide +kernel
theorem dJ6_bitCount_0f7a4_15 : decode cJ6_bitCount_0f7a4 15 = .ok (.iload_n 0, 1) := by decide +kernel
theorem dJ6_bitCount_0f7a4_16 : decode cJ6_bitCount_0f7a4 16 = .ok (.iconst 2, 1) := by decide +kernel
theorem dJ6_bitCount_0f7a4_17 : decode cJ6_bitCount_0f7a4 17 = .ok (.iushr, 1) := by decide +kernel
theorem dJ6_bitCount_0f7a4_18 : decode cJ6_bitCount_0f7a4 18 = .ok (.ldc_w 266, 3) := by decide +kernel
theorem dJ6_bitCount_0f7a4_21 : decode cJ6_bitCount_0f7a4 21 = .ok (.iand, 1) := by decide +kernel
theorem dJ6_bitCount_0f7a4_22 : decode cJ6_bitCount_0f7a4 22 = .ok (.iadd, 1) := by decide +kernel
theorem dJ6_bitCount_0f7a4_23 : decode cJ6_bitCount_0f7a4 23 = .ok (.istore_n 0, 1) := by decide +kernel
theorem dJ6_bitCount_0f7a4_24 : decode cJ6_bitCount_0f7a4 24 = .ok (.iload_n 0, 1) := by decide +kernel
theorem dJ6_bitCount_0f7a4_25 : decode cJ6_bitCount_0f7a4 25 = .ok (.iload_n 0, 1) := by decide +kernel
theorem dJ6_bitCount_0f7a4_26 : decode cJ6_bitCount_0f7a4 26 = .ok (.iconst 4, 1) := by decide +kernel
theorem dJ6_bitCount_0f7a4_27 : decode cJ6_bitCount_0f7a4 27 = .ok (.iushr, 1) := by decide +kernel
theorem dJ6_bitCount_0f7a4_28 : decode cJ6_bitCount_0f7a4 28 = .ok (.iadd, 1) := by decide +kernel
theorem dJ6_bitCount_0f7a4_29 : decode cJ6_bitCount_0f7a4 29 = .ok (.ldc_w 267, 3) := by decide +kernel
theorem dJ6_bitCount_0f7a4_32 : decode cJ6_bitCount_0f7a4 32 = .ok (.iand, 1) := by decide +kernel
theorem dJ6_bitCount_0f7a4_33 : decode cJ6_bitCount_0f7a4 33 = .ok (.istore_n 0, 1) := by decide +kernel
theorem dJ6_bitCount_0f7a4_34 : decode cJ6_bitCount_0f7a4 34 = .ok (.iload_n 0, 1) := by decide +kernel
theorem dJ6_bitCount_0f7a4_35 : decode cJ6_bitCount_0f7a4 35 = .ok (.iload_n 0, 1) := by decide +kernel
theorem dJ6_bitCount_0f7a4_36 : decode cJ6_bitCount_0f7a4 36 = .ok (.bipush 8, 2) := by decide +kernel
theorem dJ6_bitCount_0f7a4_38 : decode cJ6_bitCount_0f7a4 38 = .ok (.iushr, 1) := by decide +kernel
theorem dJ6_bitCount_0f7a4_39 : decode cJ6_bitCount_0f7a4 39 = .ok (.iadd, 1) := by decide +kernel
theorem dJ6_bitCount_0f7a4_40 : decode cJ6_bitCount_0f7a4 40 = .ok (.istore_n 0, 1) := by decide +kernel
theorem dJ6_bitCount_0f7a4_41 : decode cJ6_bitCount_0f7a4 41 = .ok (.iload_n 0, 1) := by decide +kernel
theorem dJ6_bitCount_0f7a4_42 : decode cJ6_bitCount_0f7a4 42 = .ok (.iload_n 0, 1) := by decide +kernel
theorem dJ6_bitCount_0f7a4_43 : decode cJ6_bitCount_0f7a4 43 = .ok (.bipush 16, 2) := by decide +kernel
theorem dJ6_bitCount_0f7a4_45 : decode cJ6_bitCount_0f7a4 45 = .ok (.iushr, 1) := by decide +kernel
theorem dJ6_bitCount_0f7a4_46 : decode cJ6_bitCount_0f7a4 46 = .ok (.iadd, 1) := by decide +kernel
theorem dJ6_bitCount_0f7a4_47 : decode cJ6_bitCount_0f7a4 47 = .ok (.istore_n 0, 1) := by decide +kernel
theorem dJ6_bitCount_0f7a4_48 : decode cJ6_bitCount_0f7a4 48 = .ok (.iload_n 0, 1) := by decide +kernel
theorem dJ6_bitCount_0f7a4_49 : decode cJ6_bitCount_0f7a4 49 = .ok (.bipush 63, 2) := by decide +kernel
theorem dJ6_bitCount_0f7a4_51 : decode cJ6_bitCount_0f7a4 51 = .ok (.iand, 1) := by decide +kernel
theorem dJ6_bitCount_0f7a4_52 : decode cJ6_bitCount_0f7a4 52 = .ok (.ireturn, 1) := by decide +kernel
theorem dJ9_max_7cf53_0 : decode cJ9_max_7cf53 0 = .ok (.iload_n 0, 1) := by decide +kernel
theorem dJ9_max_7cf53_1 : decode cJ9_max_7cf53 1 = .ok (.iload_n 1, 1) := by decide +kernel
theorem dJ9_max_7cf53_2 : decode cJ9_max_7cf53 2 = .ok (.if_icmp .lt 7, 3) := by decide +kernel
theorem dJ9_max_7cf53_5 : decode cJ9_max_7cf53 5 = .ok (.iload_n 0, 1) := by decide +kernel
theorem dJ9_max_7cf53_6 : decode cJ9_max_7cf53 6 = .ok (.goto 4, 3) := by decide +kernel
theorem dJ9_max_7cf53_9 : decode cJ9_max_7cf53 9 = .ok (.iload_n 1, 1) := by decide +kernel
theorem dJ9_max_7cf53_10 : decode cJ9_max_7cf53 10 = .ok (.ireturn, 1) := by decide +kernel
theorem dJ9_max_f86c9_0 : decode cJ9_max_f86c9 0 = .ok (.lload_n 0, 1) := by decide +kernel
theorem dJ9_max_f86c9_1 : decode cJ9_max_f86c9 1 = .ok (.lload_n 2, 1) := by decide +kernel
theorem dJ9_max_f86c9_2 : decode cJ9_max_f86c9 2 = .ok (.lcmp, 1) := by decide +kernel
theorem dJ9_max_f86c9_3 : decode cJ9_max_f86c9 3 = .ok (.ifCond .lt 7, 3) := by decide +kernel
theorem dJ9_max_f86c9_6 : decode cJ9_max_f86c9 6 = .ok (.lload_n 0, 1) := by decide +kernel
theorem dJ9_max_f86c9_7 : decode cJ9_max_f86c9 7 = .ok (.goto 4, 3) := by decide +kernel
theorem dJ9_max_f86c9_10 : decode cJ9_max_f86c9 10 = .ok (.lload_n 2, 1) := by decide +kernel
theorem dJ9_max_f86c9_11 : decode cJ9_max_f86c9 11 = .ok (.lreturn, 1) := by decide +kernel
theorem dJ9_min_7cf53_0 : decode cJ9_min_7cf53 0 = .ok (.iload_n 0, 1) := by decide +kernel
theorem dJ9_min_7cf53_1 : decode cJ9_min_7cf53 1 = .ok (.iload_n 1, 1) := by decide +kernel
theorem dJ9_min_7cf53_2 : decode cJ9_min_7cf53 2 = .ok (.if_icmp .gt 7, 3) := by decide +kernel
theorem dJ9_min_7cf53_5 : decode cJ9_min_7cf53 5 = .ok (.iload_n 0, 1) := by decide +kernel
theorem dJ9_min_7cf53_6 : decode cJ9_min_7cf53 6 = .ok (.goto 4, 3) := by decide +kernel
theorem dJ9_min_7cf53_9 : decode cJ9_min_7cf53 9 = .ok (.iload_n 1, 1) := by decide +kernel
theorem dJ9_min_7cf53_10 : decode cJ9_min_7cf53 10 = .ok (.ireturn, 1) := by decide +kernel
theorem dJ0_length_8abf5_0 : decode cJ0_length_8abf5 0 = .ok (.aload_n 0, 1) := by decide +kernel
theorem dJ0_length_8abf5_1 : decode cJ0_length_8abf5 1 = .ok (.getfield 9, 3) := by decide +kernel
theorem dJ0_length_8abf5_4 : decode cJ0_length_8abf5 4 = .ok (.arraylength, 1) := by decide +kernel
theorem dJ0_length_8abf5_5 : decode cJ0_length_8abf5 5 = .ok (.aload_n 0, 1) := by decide +kernel
theorem dJ0_length_8abf5_6 : decode cJ0_length_8abf5 6 = .ok (.invokevirtual 335, 3) := by decide +kernel
theorem dJ0_length_8abf5_9 : decode cJ0_length_8abf5 9 = .ok (.ishr, 1) := by decide +kernel
theorem dJ0_length_8abf5_10 : decode cJ0_length_8abf5 10 = .ok (.ireturn, 1) := by decide +kernel
theorem dJ0_charAt_5068e_0 : decode cJ0_charAt_5068e 0 = .ok (.aload_n 0, 1) := by decide +kernel
theorem dJ0_charAt_5068e_1 : decode cJ0_charAt_5068e 1 = .ok (.invokevirtual 492, 3) := by decide +kernel
theorem dJ0_charAt_5068e_4 : decode cJ0_charAt_5068e 4 = .ok (.ifCond .eq 12, 3) := by decide +kernel
theorem dJ0_charAt_5068e_7 : decode cJ0_charAt_5068e 7 = .ok (.aload_n 0, 1) := by decide +kernel
theorem dJ0_charAt_5068e_8 : decode cJ0_charAt_5068e 8 = .ok (.getfield 9, 3) := by decide +kernel
theorem dJ0_charAt_5068e_11 : decode cJ0_charAt_5068e 11 = .ok (.iload_n 1, 1) := by decide +kernel
theorem dJ0_charAt_5068e_12 : decode cJ0_charAt_5068e 12 = .ok (.invokestatic 495, 3) := by decide +kernel
theorem dJ0_charAt_5068e_15 : decode cJ0_charAt_5068e 15 = .ok (.ireturn, 1) := by decide +kernel
theorem dJ0_charAt_5068e_16 : decode cJ0_charAt_5068e 16 = .ok (.aload_n 0, 1) := by decide +kernel
theorem dJ0_charAt_5068e_17 : decode cJ0_charAt_5068e 17 = .ok (.getfield 9, 3) := by decide +kernel
theorem dJ0_charAt_5068e_20 : decode cJ0_charAt_5068e 20 = .ok (.iload_n 1, 1) := by decide +kernel
theorem dJ0_charAt_5068e_21 : decode cJ0_charAt_5068e 21 = .ok (.invokestatic 498, 3) := by decide +kernel
theorem dJ0_charAt_5068e_24 : decode cJ0_charAt_5068e 24 = .ok (.ireturn, 1) := by decide +kernel
theorem dJ0_coder_7d493_0 : decode cJ0_coder_7d493 0 = .ok (.getstatic 38, 3) := by decide +kernel
theorem dJ0_coder_7d493_3 : decode cJ0_coder_7d493 3 = .ok (.ifCond .eq 10, 3) := by decide +kernel
theorem dJ0_coder_7d493_6 : decode cJ0_coder_7d493 6 = .ok (.aload_n 0, 1) := by decide +kernel
theorem dJ0_coder_7d493_7 : decode cJ0_coder_7d493 7 = .ok (.getfield 15, 3) := by decide +kernel
theorem dJ0_coder_7d493_10 : decode cJ0_coder_7d493 10 = .ok (.goto 4, 3) := by decide +kernel
theorem dJ0_coder_7d493_13 : decode cJ0_coder_7d493 13 = .ok (.iconst 1, 1) := by decide +kernel
theorem dJ0_coder_7d493_14 : decode cJ0_coder_7d493 14 = .ok (.ireturn, 1) := by decide +kernel
theorem dJ0_isLatin1_aae02_0 : decode cJ0_isLatin1_aae02 0 = .ok (.getstatic 38, 3) := by decide +kernel
theorem dJ0_isLatin1_aae02_3 : decode cJ0_isLatin1_aae02 3 = .ok (.ifCond .eq 14, 3) := by decide +kernel
theorem dJ0_isLatin1_aae02_6 : decode cJ0_isLatin1_aae02 6 = .ok (.aload_n 0, 1) := by decide +kernel
theorem dJ0_isLatin1_aae02_7 : decode cJ0_isLatin1_aae02 7 = .ok (.getfield 15, 3) := by decide +kernel
theorem dJ0_isLatin1_aae02_10 : decode cJ0_isLatin1_aae02 10 = .ok (.ifCond .ne 7, 3) := by decide +kernel
theorem dJ0_isLatin1_aae02_13 : decode cJ0_isLatin1_aae02 13 = .ok (.iconst 1, 1) := by decide +kernel
theorem dJ0_isLatin1_aae02_14 : decode cJ0_isLatin1_aae02 14 = .ok (.goto 4, 3) := by decide +kernel
theorem dJ0_isLatin1_aae02_17 : decode cJ0_isLatin1_aae02 17 = .ok (.iconst 0, 1) := by decide +kernel
theorem dJ0_isLatin1_aae02_18 : decode cJ0_isLatin1_aae02 18 = .ok (.ireturn, 1) := by decide +kernel
theorem dJ0_checkIndex_df160_0 : decode cJ0_checkIndex_df160 0 = .ok (.iload_n 0, 1) := by decide +kernel
theorem dJ0_checkIndex_df160_1 : decode cJ0_checkIndex_df160 1 = .ok (.iload_n 1, 1) := by decide +kernel
theorem dJ0_checkIndex_df160_2 : decode cJ0_checkIndex_df160 2 = .ok (.getstatic 1053, 3) := by decide +kernel
theorem dJ0_checkIndex_df160_5 : decode cJ0_checkIndex_df160 5 = .ok (.invokestatic 1059, 3) := by decide +kernel
theorem dJ0_checkIndex_df160_8 : decode cJ0_checkIndex_df160 8 = .ok (.pop, 1) := by decide +kernel
theorem dJ0_checkIndex_df160_9 : decode cJ0_checkIndex_df160 9 = .ok (.return_, 1) := by decide +kernel
theorem dJ1_charAt_3b067_0 : decode cJ1_charAt_3b067 0 = .ok (.iload_n 1, 1) := by decide +kernel
theorem dJ1_charAt_3b067_1 : decode cJ1_charAt_3b067 1 = .ok (.aload_n 0, 1) := by decide +kernel
theorem dJ1_charAt_3b067_2 : decode cJ1_charAt_3b067 2 = .ok (.arraylength, 1) := by decide +kernel
theorem dJ1_charAt_3b067_3 : decode cJ1_charAt_3b067 3 = .ok (.invokestatic 9, 3) := by decide +kernel
theorem dJ1_charAt_3b067_6 : decode cJ1_charAt_3b067 6 = .ok (.aload_n 0, 1) := by decide +kernel
theorem dJ1_charAt_3b067_7 : decode cJ1_charAt_3b067 7 = .ok (.iload_n 1, 1) := by decide +kernel
theorem dJ1_charAt_3b067_8 : decode cJ1_charAt_3b067 8 = .ok (.baload, 1) := by decide +kernel
theorem dJ1_charAt_3b067_9 : decode cJ1_charAt_3b067 9 = .ok (.sipush 255, 3) := by decide +kernel
theorem dJ1_charAt_3b067_12 : decode cJ1_charAt_3b067 12 = .ok (.iand, 1) := by decide +kernel
theorem dJ1_charAt_3b067_13 : decode cJ1_charAt_3b067 13 = .ok (.i2c, 1) := by decide +kernel
theorem dJ1_charAt_3b067_14 : decode cJ1_charAt_3b067 14 = .ok (.ireturn, 1) := by decide +kernel
theorem dJ2_getChar_3b067_0 : decode cJ2_getChar_3b067 0 = .ok (.getstatic 44, 3) := by decide +kernel
theorem dJ2_getChar_3b067_3 : decode cJ2_getChar_3b067 3 = .ok (.ifCond .ne 25, 3) := by decide +kernel
theorem dJ2_getChar_3b067_6 : decode cJ2_getChar_3b067 6 = .ok (.iload_n 1, 1) := by decide +kernel
theorem dJ2_getChar_3b067_7 : decode cJ2_getChar_3b067 7 = .ok (.ifCond .lt 11, 3) := by decide +kernel
theorem dJ2_getChar_3b067_10 : decode cJ2_getChar_3b067 10 = .ok (.iload_n 1, 1) := by decide +kernel
theorem dJ2_getChar_3b067_11 : decode cJ2_getChar_3b067 11 = .ok (.aload_n 0, 1) := by decide +kernel
theorem dJ2_getChar_3b067_12 : decode cJ2_getChar_3b067 12 = .ok (.invokestatic 48, 3) := by decide +kernel
theorem dJ2_getChar_3b067_15 : decode cJ2_getChar_3b067 15 = .ok (.if_icmp .lt 13, 3) := by decide +kernel
theorem dJ2_getChar_3b067_18 : decode cJ2_getChar_3b067 18 = .ok (.new 52, 3) := by decide +kernel
theorem dJ2_getChar_3b067_21 : decode cJ2_getChar_3b067 21 = .ok (.dup, 1) := by decide +kernel
theorem dJ2_getChar_3b067_22 : decode cJ2_getChar_3b067 22 = .ok (.ldc 54, 2) := by decide +kernel
theorem dJ2_getChar_3b067_24 : decode cJ2_getChar_3b067 24 = .ok (.invokespecial 56, 3) := by decide +kernel
theorem dJ2_getChar_3b067_27 : decode cJ2_getChar_3b067 27 = .ok (.athrow, 1) := by decide +kernel
theorem dJ2_getChar_3b067_28 : decode cJ2_getChar_3b067 28 = .ok (.iload_n 1, 1) := by decide +kernel
theorem dJ2_getChar_3b067_29 : decode cJ2_getChar_3b067 29 = .ok (.iconst 1, 1) := by decide +kernel
theorem dJ2_getChar_3b067_30 : decode cJ2_getChar_3b067 30 = .ok (.ishl, 1) := by decide +kernel
theorem dJ2_getChar_3b067_31 : decode cJ2_getChar_3b067 31 = .ok (.istore_n 1, 1) := by decide +kernel
theorem dJ2_getChar_3b067_32 : decode cJ2_getChar_3b067 32 = .ok (.aload_n 0, 1) := by decide +kernel
theorem dJ2_getChar_3b067_33 : decode cJ2_getChar_3b067 33 = .ok (.iload_n 1, 1) := by decide +kernel
theorem dJ2_getChar_3b067_34 : decode cJ2_getChar_3b067 34 = .ok (.iinc 1 1, 3) := by decide +kernel
theorem dJ2_getChar_3b067_37 : decode cJ2_getChar_3b067 37 = .ok (.baload, 1) := by decide +kernel
theorem dJ2_getChar_3b067_38 : decode cJ2_getChar_3b067 38 = .ok (.sipush 255, 3) := by decide +kernel
theorem dJ2_getChar_3b067_41 : decode cJ2_getChar_3b067 41 = .ok (.iand, 1) := by decide +kernel
theorem dJ2_getChar_3b067_42 : decode cJ2_getChar_3b067 42 = .ok (.getstatic 59, 3) := by decide +kernel
theorem dJ2_getChar_3b067_45 : decode cJ2_getChar_3b067 45 = .ok (.ishl, 1) := by decide +kernel
theorem dJ2_getChar_3b067_46 : decode cJ2_getChar_3b067 46 = .ok (.aload_n 0, 1) := by decide +kernel
theorem dJ2_getChar_3b067_47 : decode cJ2_getChar_3b067 47 = .ok (.iload_n 1, 1) := by decide +kernel
theorem dJ2_getChar_3b067_48 : decode cJ2_getChar_3b067 48 = .ok (.baload, 1) := by decide +kernel
theorem dJ2_getChar_3b067_49 : decode cJ2_getChar_3b067 49 = .ok (.sipush 255, 3) := by decide +kernel
theorem dJ2_getChar_3b067_52 : decode cJ2_getChar_3b067 52 = .ok (.iand, 1) := by decide +kernel
theorem dJ2_getChar_3b067_53 : decode cJ2_getChar_3b067 53 = .ok (.getstatic 63, 3) := by decide +kernel
theorem dJ2_getChar_3b067_56 : decode cJ2_getChar_3b067 56 = .ok (.ishl, 1) := by decide +kernel
theorem dJ2_getChar_3b067_57 : decode cJ2_getChar_3b067 57 = .ok (.ior, 1) := by decide +kernel
theorem dJ2_getChar_3b067_58 : decode cJ2_getChar_3b067 58 = .ok (.i2c, 1) := by decide +kernel
theorem dJ2_getChar_3b067_59 : decode cJ2_getChar_3b067 59 = .ok (.ireturn, 1) := by decide +kernel
theorem dJ2_length_9d52b_0 : decode cJ2_length_9d52b 0 = .ok (.aload_n 0, 1) := by decide +kernel
theorem dJ2_length_9d52b_1 : decode cJ2_length_9d52b 1 = .ok (.arraylength, 1) := by decide +kernel
theorem dJ2_length_9d52b_2 : decode cJ2_length_9d52b 2 = .ok (.iconst 1, 1) := by decide +kernel
theorem dJ2_length_9d52b_3 : decode cJ2_length_9d52b 3 = .ok (.ishr, 1) := by decide +kernel
theorem dJ2_length_9d52b_4 : decode cJ2_length_9d52b 4 = .ok (.ireturn, 1) := by decide +kernel
theorem dJ2_charAt_3b067_0 : decode cJ2_charAt_3b067 0 = .ok (.iload_n 1, 1) := by decide +kernel
theorem dJ2_charAt_3b067_1 : decode cJ2_charAt_3b067 1 = .ok (.aload_n 0, 1) := by decide +kernel
theorem dJ2_charAt_3b067_2 : decode cJ2_charAt_3b067 2 = .ok (.invokestatic 67, 3) := by decide +kernel
theorem dJ2_charAt_3b067_5 : decode cJ2_charAt_3b067 5 = .ok (.aload_n 0, 1) := by decide +kernel
theorem dJ2_charAt_3b067_6 : decode cJ2_charAt_3b067 6 = .ok (.iload_n 1, 1) := by decide +kernel
theorem dJ2_charAt_3b067_7 : decode cJ2_charAt_3b067 7 = .ok (.invokestatic 71, 3) := by decide +kernel
theorem dJ2_charAt_3b067_10 : decode cJ2_charAt_3b067 10 = .ok (.ireturn, 1) := by decide +kernel
theorem dJ2_checkIndex_2214a_0 : decode cJ2_checkIndex_2214a 0 = .ok (.iload_n 0, 1) := by decide +kernel
theorem dJ2_checkIndex_2214a_1 : decode cJ2_checkIndex_2214a 1 = .ok (.aload_n 1, 1) := by decide +kernel
theorem dJ2_checkIndex_2214a_2 : decode cJ2_checkIndex_2214a 2 = .ok (.invokestatic 48, 3) := by decide +kernel
theorem dJ2_checkIndex_2214a_5 : decode cJ2_checkIndex_2214a 5 = .ok (.invokestatic 414, 3) := by decide +kernel
theorem dJ2_checkIndex_2214a_8 : decode cJ2_checkIndex_2214a 8 = .ok (.return_, 1) := by decide +kernel
theorem dJ3_checkIndex_8e157_0 : decode cJ3_checkIndex_8e157 0 = .ok (.iload_n 0, 1) := by decide +kernel
theorem dJ3_checkIndex_8e157_1 : decode cJ3_checkIndex_8e157 1 = .ok (.ifCond .lt 8, 3) := by decide +kernel
theorem dJ3_checkIndex_8e157_4 : decode cJ3_checkIndex_8e157 4 = .ok (.iload_n 0, 1) := by decide +kernel
theorem dJ3_checkIndex_8e157_5 : decode cJ3_checkIndex_8e157 5 = .ok (.iload_n 1, 1) := by decide +kernel
theorem dJ3_checkIndex_8e157_6 : decode cJ3_checkIndex_8e157 6 = .ok (.if_icmp .lt 10, 3) := by decide +kernel
theorem dJ3_checkIndex_8e157_9 : decode cJ3_checkIndex_8e157 9 = .ok (.aload_n 2, 1) := by decide +kernel
theorem dJ3_checkIndex_8e157_10 : decode cJ3_checkIndex_8e157 10 = .ok (.iload_n 0, 1) := by decide +kernel
theorem dJ3_checkIndex_8e157_11 : decode cJ3_checkIndex_8e157 11 = .ok (.iload_n 1, 1) := by decide +kernel
theorem dJ3_checkIndex_8e157_12 : decode cJ3_checkIndex_8e157 12 = .ok (.invokestatic 95, 3) := by decide +kernel
theorem dJ3_checkIndex_8e157_15 : decode cJ3_checkIndex_8e157 15 = .ok (.athrow, 1) := by decide +kernel
theorem dJ3_checkIndex_8e157_16 : decode cJ3_checkIndex_8e157 16 = .ok (.iload_n 0, 1) := by decide +kernel
theorem dJ3_checkIndex_8e157_17 : decode cJ3_checkIndex_8e157 17 = .ok (.ireturn, 1) := by decide +kernel
