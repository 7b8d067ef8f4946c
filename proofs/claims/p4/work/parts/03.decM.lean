theorem dX11_init_0 : decode cX11_init 0 = .ok (.aload_n 0, 1) := by decide +kernel
theorem dX11_init_1 : decode cX11_init 1 = .ok (.invokespecial 1, 3) := by decide +kernel
theorem dX11_init_4 : decode cX11_init 4 = .ok (.aload_n 0, 1) := by decide +kernel
theorem dX11_init_5 : decode cX11_init 5 = .ok (.sipush 514, 3) := by decide +kernel
theorem dX11_init_8 : decode cX11_init 8 = .ok (.newarray .int, 2) := by decide +kernel
theorem dX11_init_10 : decode cX11_init 10 = .ok (.putfield 7, 3) := by decide +kernel
theorem dX11_init_13 : decode cX11_init 13 = .ok (.aload_n 0, 1) := by decide +kernel
theorem dX11_init_14 : decode cX11_init 14 = .ok (.bipush 8, 2) := by decide +kernel
theorem dX11_init_16 : decode cX11_init 16 = .ok (.newarray .int, 2) := by decide +kernel
theorem dX11_init_18 : decode cX11_init 18 = .ok (.putfield 13, 3) := by decide +kernel
theorem dX11_init_21 : decode cX11_init 21 = .ok (.aload_n 0, 1) := by decide +kernel
theorem dX11_init_22 : decode cX11_init 22 = .ok (.bipush 48, 2) := by decide +kernel
theorem dX11_init_24 : decode cX11_init 24 = .ok (.newarray .int, 2) := by decide +kernel
theorem dX11_init_26 : decode cX11_init 26 = .ok (.putfield 16, 3) := by decide +kernel
theorem dX11_init_29 : decode cX11_init 29 = .ok (.aload_n 0, 1) := by decide +kernel
theorem dX11_init_30 : decode cX11_init 30 = .ok (.bipush 48, 2) := by decide +kernel
theorem dX11_init_32 : decode cX11_init 32 = .ok (.newarray .int, 2) := by decide +kernel
theorem dX11_init_34 : decode cX11_init 34 = .ok (.putfield 19, 3) := by decide +kernel
theorem dX11_init_37 : decode cX11_init 37 = .ok (.aload_n 0, 1) := by decide +kernel
theorem dX11_init_38 : decode cX11_init 38 = .ok (.bipush 48, 2) := by decide +kernel
theorem dX11_init_40 : decode cX11_init 40 = .ok (.newarray .int, 2) := by decide +kernel
theorem dX11_init_42 : decode cX11_init 42 = .ok (.putfield 22, 3) := by decide +kernel
theorem dX11_init_45 : decode cX11_init 45 = .ok (.aload_n 0, 1) := by decide +kernel
theorem dX11_init_46 : decode cX11_init 46 = .ok (.bipush 48, 2) := by decide +kernel
theorem dX11_init_48 : decode cX11_init 48 = .ok (.newarray .int, 2) := by decide +kernel
theorem dX11_init_50 : decode cX11_init 50 = .ok (.putfield 25, 3) := by decide +kernel
theorem dX11_init_53 : decode cX11_init 53 = .ok (.aload_n 0, 1) := by decide +kernel
theorem dX11_init_54 : decode cX11_init 54 = .ok (.bipush 72, 2) := by decide +kernel
theorem dX11_init_56 : decode cX11_init 56 = .ok (.newarray .int, 2) := by decide +kernel
theorem dX11_init_58 : decode cX11_init 58 = .ok (.putfield 28, 3) := by decide +kernel
theorem dX11_init_61 : decode cX11_init 61 = .ok (.aload_n 0, 1) := by decide +kernel
theorem dX11_init_62 : decode cX11_init 62 = .ok (.bipush 72, 2) := by decide +kernel
theorem dX11_init_64 : decode cX11_init 64 = .ok (.newarray .int, 2) := by decide +kernel
theorem dX11_init_66 : decode cX11_init 66 = .ok (.putfield 31, 3) := by decide +kernel
theorem dX11_init_69 : decode cX11_init 69 = .ok (.aload_n 0, 1) := by decide +kernel
theorem dX11_init_70 : decode cX11_init 70 = .ok (.sipush 500, 3) := by decide +kernel
theorem dX11_init_73 : decode cX11_init 73 = .ok (.newarray .byte, 2) := by decide +kernel
theorem dX11_init_75 : decode cX11_init 75 = .ok (.putfield 34, 3) := by decide +kernel
theorem dX11_init_78 : decode cX11_init 78 = .ok (.aload_n 0, 1) := by decide +kernel
theorem dX11_init_79 : decode cX11_init 79 = .ok (.iconst (-1), 1) := by decide +kernel
theorem dX11_init_80 : decode cX11_init 80 = .ok (.putfield 38, 3) := by decide +kernel
theorem dX11_init_83 : decode cX11_init 83 = .ok (.aload_n 0, 1) := by decide +kernel
theorem dX11_init_84 : decode cX11_init 84 = .ok (.sipush 1024, 3) := by decide +kernel
theorem dX11_init_87 : decode cX11_init 87 = .ok (.newarray .long, 2) := by decide +kernel
theorem dX11_init_89 : decode cX11_init 89 = .ok (.putfield 42, 3) := by decide +kernel
theorem dX11_init_92 : decode cX11_init 92 = .ok (.aload_n 0, 1) := by decide +kernel
theorem dX11_init_93 : decode cX11_init 93 = .ok (.sipush 1024, 3) := by decide +kernel
theorem dX11_init_96 : decode cX11_init 96 = .ok (.newarray .int, 2) := by decide +kernel
theorem dX11_init_98 : decode cX11_init 98 = .ok (.putfield 46, 3) := by decide +kernel
theorem dX11_init_101 : decode cX11_init 101 = .ok (.aload_n 0, 1) := by decide +kernel
theorem dX11_init_102 : decode cX11_init 102 = .ok (.bipush 10, 2) := by decide +kernel
theorem dX11_init_104 : decode cX11_init 104 = .ok (.newarray .int, 2) := by decide +kernel
theorem dX11_init_106 : decode cX11_init 106 = .ok (.putfield 49, 3) := by decide +kernel
theorem dX11_init_109 : decode cX11_init 109 = .ok (.aload_n 0, 1) := by decide +kernel
theorem dX11_init_110 : decode cX11_init 110 = .ok (.bipush 10, 2) := by decide +kernel
theorem dX11_init_112 : decode cX11_init 112 = .ok (.newarray .int, 2) := by decide +kernel
theorem dX11_init_114 : decode cX11_init 114 = .ok (.putfield 52, 3) := by decide +kernel
theorem dX11_init_117 : decode cX11_init 117 = .ok (.aload_n 0, 1) := by decide +kernel
theorem dX11_init_118 : decode cX11_init 118 = .ok (.bipush 36, 2) := by decide +kernel
theorem dX11_init_120 : decode cX11_init 120 = .ok (.newarray .int, 2) := by decide +kernel
theorem dX11_init_122 : decode cX11_init 122 = .ok (.putfield 55, 3) := by decide +kernel
theorem dX11_init_125 : decode cX11_init 125 = .ok (.aload_n 0, 1) := by decide +kernel
theorem dX11_init_126 : decode cX11_init 126 = .ok (.bipush 10, 2) := by decide +kernel
theorem dX11_init_128 : decode cX11_init 128 = .ok (.newarray .int, 2) := by decide +kernel
theorem dX11_init_130 : decode cX11_init 130 = .ok (.putfield 58, 3) := by decide +kernel
theorem dX11_init_133 : decode cX11_init 133 = .ok (.aload_n 0, 1) := by decide +kernel
theorem dX11_init_134 : decode cX11_init 134 = .ok (.sipush 5140, 3) := by decide +kernel
theorem dX11_init_137 : decode cX11_init 137 = .ok (.newarray .int, 2) := by decide +kernel
theorem dX11_init_139 : decode cX11_init 139 = .ok (.putfield 61, 3) := by decide +kernel
theorem dX11_init_142 : decode cX11_init 142 = .ok (.aload_n 0, 1) := by decide +kernel
theorem dX11_init_143 : decode cX11_init 143 = .ok (.sipush 1028, 3) := by decide +kernel
theorem dX11_init_146 : decode cX11_init 146 = .ok (.newarray .int, 2) := by decide +kernel
theorem dX11_init_148 : decode cX11_init 148 = .ok (.putfield 64, 3) := by decide +kernel
theorem dX11_init_151 : decode cX11_init 151 = .ok (.aload_n 0, 1) := by decide +kernel
theorem dX11_init_152 : decode cX11_init 152 = .ok (.iconst 2, 1) := by decide +kernel
theorem dX11_init_153 : decode cX11_init 153 = .ok (.newarray .boolean, 2) := by decide +kernel
theorem dX11_init_155 : decode cX11_init 155 = .ok (.putfield 67, 3) := by decide +kernel
theorem dX11_init_158 : decode cX11_init 158 = .ok (.aload_n 0, 1) := by decide +kernel
theorem dX11_init_159 : decode cX11_init 159 = .ok (.invokevirtual 71, 3) := by decide +kernel
theorem dX11_init_162 : decode cX11_init 162 = .ok (.aload_n 0, 1) := by decide +kernel
theorem dX11_init_163 : decode cX11_init 163 = .ok (.invokevirtual 74, 3) := by decide +kernel
theorem dX11_init_166 : decode cX11_init 166 = .ok (.aload_n 0, 1) := by decide +kernel
theorem dX11_init_167 : decode cX11_init 167 = .ok (.invokevirtual 77, 3) := by decide +kernel
theorem dX11_init_170 : decode cX11_init 170 = .ok (.return_, 1) := by decide +kernel
theorem dX11_within_0 : decode cX11_within 0 = .ok (.iload_n 0, 1) := by decide +kernel
theorem dX11_within_1 : decode cX11_within 1 = .ok (.iload_n 1, 1) := by decide +kernel
theorem dX11_within_2 : decode cX11_within 2 = .ok (.if_icmp .lt 12, 3) := by decide +kernel
theorem dX11_within_5 : decode cX11_within 5 = .ok (.iload_n 0, 1) := by decide +kernel
theorem dX11_within_6 : decode cX11_within 6 = .ok (.iload_n 2, 1) := by decide +kernel
theorem dX11_within_7 : decode cX11_within 7 = .ok (.if_icmp .gt 7, 3) := by decide +kernel
theorem dX11_within_10 : decode cX11_within 10 = .ok (.iconst 1, 1) := by decide +kernel
theorem dX11_within_11 : decode cX11_within 11 = .ok (.goto 4, 3) := by decide +kernel
theorem dX11_within_14 : decode cX11_within 14 = .ok (.iconst 0, 1) := by decide +kernel
theorem dX11_within_15 : decode cX11_within 15 = .ok (.ireturn, 1) := by decide +kernel
theorem dX11_throwsIf_0 : decode cX11_throwsIf 0 = .ok (.aload_n 0, 1) := by decide +kernel
theorem dX11_throwsIf_1 : decode cX11_throwsIf 1 = .ok (.getfield 80, 3) := by decide +kernel
theorem dX11_throwsIf_4 : decode cX11_throwsIf 4 = .ok (.ifCond .ne 12, 3) := by decide +kernel
theorem dX11_throwsIf_7 : decode cX11_throwsIf 7 = .ok (.iload_n 1, 1) := by decide +kernel
theorem dX11_throwsIf_8 : decode cX11_throwsIf 8 = .ok (.ifCond .eq 8, 3) := by decide +kernel
theorem dX11_throwsIf_11 : decode cX11_throwsIf 11 = .ok (.aload_n 0, 1) := by decide +kernel
theorem dX11_throwsIf_12 : decode cX11_throwsIf 12 = .ok (.iload_n 2, 1) := by decide +kernel
theorem dX11_throwsIf_13 : decode cX11_throwsIf 13 = .ok (.putfield 80, 3) := by decide +kernel
theorem dX11_throwsIf_16 : decode cX11_throwsIf 16 = .ok (.aload_n 0, 1) := by decide +kernel
theorem dX11_throwsIf_17 : decode cX11_throwsIf 17 = .ok (.getfield 80, 3) := by decide +kernel
theorem dX11_throwsIf_20 : decode cX11_throwsIf 20 = .ok (.ifCond .le 7, 3) := by decide +kernel
theorem dX11_throwsIf_23 : decode cX11_throwsIf 23 = .ok (.iconst 1, 1) := by decide +kernel
theorem dX11_throwsIf_24 : decode cX11_throwsIf 24 = .ok (.goto 4, 3) := by decide +kernel
theorem dX11_throwsIf_27 : decode cX11_throwsIf 27 = .ok (.iconst 0, 1) := by decide +kernel
theorem dX11_throwsIf_28 : decode cX11_throwsIf 28 = .ok (.ireturn, 1) := by decide +kernel
theorem dX11_lifts_0 : decode cX11_lifts 0 = .ok (.iconst 0, 1) := by decide +kernel
theorem dX11_lifts_1 : decode cX11_lifts 1 = .ok (.istore_n 1, 1) := by decide +kernel
theorem dX11_lifts_2 : decode cX11_lifts 2 = .ok (.iload_n 1, 1) := by decide +kernel
theorem dX11_lifts_3 : decode cX11_lifts 3 = .ok (.aload_n 0, 1) := by decide +kernel
theorem dX11_lifts_4 : decode cX11_lifts 4 = .ok (.arraylength, 1) := by decide +kernel
theorem dX11_lifts_5 : decode cX11_lifts 5 = .ok (.iconst 2, 1) := by decide +kernel
theorem dX11_lifts_6 : decode cX11_lifts 6 = .ok (.idiv, 1) := by decide +kernel
theorem dX11_lifts_7 : decode cX11_lifts 7 = .ok (.if_icmp .ge 20, 3) := by decide +kernel
theorem dX11_lifts_10 : decode cX11_lifts 10 = .ok (.aload_n 0, 1) := by decide +kernel
theorem dX11_lifts_11 : decode cX11_lifts 11 = .ok (.iload_n 1, 1) := by decide +kernel
theorem dX11_lifts_12 : decode cX11_lifts 12 = .ok (.aload_n 0, 1) := by decide +kernel
theorem dX11_lifts_13 : decode cX11_lifts 13 = .ok (.aload_n 0, 1) := by decide +kernel
theorem dX11_lifts_14 : decode cX11_lifts 14 = .ok (.arraylength, 1) := by decide +kernel
theorem dX11_lifts_15 : decode cX11_lifts 15 = .ok (.iconst 2, 1) := by decide +kernel
theorem dX11_lifts_16 : decode cX11_lifts 16 = .ok (.idiv, 1) := by decide +kernel
theorem dX11_lifts_17 : decode cX11_lifts 17 = .ok (.iload_n 1, 1) := by decide +kernel
theorem dX11_lifts_18 : decode cX11_lifts 18 = .ok (.iadd, 1) := by decide +kernel
theorem dX11_lifts_19 : decode cX11_lifts 19 = .ok (.iaload, 1) := by decide +kernel
theorem dX11_lifts_20 : decode cX11_lifts 20 = .ok (.iastore, 1) := by decide +kernel
theorem dX11_lifts_21 : decode cX11_lifts 21 = .ok (.iinc 1 1, 3) := by decide +kernel
theorem dX11_lifts_24 : decode cX11_lifts 24 = .ok (.goto (-22), 3) := by decide +kernel
theorem dX11_lifts_27 : decode cX11_lifts 27 = .ok (.return_, 1) := by decide +kernel
theorem dX11_liftsAll_0 : decode cX11_liftsAll 0 = .ok (.aload_n 0, 1) := by decide +kernel
theorem dX11_liftsAll_1 : decode cX11_liftsAll 1 = .ok (.getfield 13, 3) := by decide +kernel
theorem dX11_liftsAll_4 : decode cX11_liftsAll 4 = .ok (.invokestatic 83, 3) := by decide +kernel
theorem dX11_liftsAll_7 : decode cX11_liftsAll 7 = .ok (.aload_n 0, 1) := by decide +kernel
theorem dX11_liftsAll_8 : decode cX11_liftsAll 8 = .ok (.getfield 16, 3) := by decide +kernel
theorem dX11_liftsAll_11 : decode cX11_liftsAll 11 = .ok (.invokestatic 83, 3) := by decide +kernel
theorem dX11_liftsAll_14 : decode cX11_liftsAll 14 = .ok (.aload_n 0, 1) := by decide +kernel
theorem dX11_liftsAll_15 : decode cX11_liftsAll 15 = .ok (.getfield 19, 3) := by decide +kernel
theorem dX11_liftsAll_18 : decode cX11_liftsAll 18 = .ok (.invokestatic 83, 3) := by decide +kernel
theorem dX11_liftsAll_21 : decode cX11_liftsAll 21 = .ok (.aload_n 0, 1) := by decide +kernel
theorem dX11_liftsAll_22 : decode cX11_liftsAll 22 = .ok (.getfield 22, 3) := by decide +kernel
theorem dX11_liftsAll_25 : decode cX11_liftsAll 25 = .ok (.invokestatic 83, 3) := by decide +kernel
theorem dX11_liftsAll_28 : decode cX11_liftsAll 28 = .ok (.aload_n 0, 1) := by decide +kernel
theorem dX11_liftsAll_29 : decode cX11_liftsAll 29 = .ok (.getfield 25, 3) := by decide +kernel
theorem dX11_liftsAll_32 : decode cX11_liftsAll 32 = .ok (.invokestatic 83, 3) := by decide +kernel
theorem dX11_liftsAll_35 : decode cX11_liftsAll 35 = .ok (.aload_n 0, 1) := by decide +kernel
theorem dX11_liftsAll_36 : decode cX11_liftsAll 36 = .ok (.getfield 28, 3) := by decide +kernel
theorem dX11_liftsAll_39 : decode cX11_liftsAll 39 = .ok (.invokestatic 83, 3) := by decide +kernel
theorem dX11_liftsAll_42 : decode cX11_liftsAll 42 = .ok (.aload_n 0, 1) := by decide +kernel
theorem dX11_liftsAll_43 : decode cX11_liftsAll 43 = .ok (.getfield 31, 3) := by decide +kernel
theorem dX11_liftsAll_46 : decode cX11_liftsAll 46 = .ok (.invokestatic 83, 3) := by decide +kernel
theorem dX11_liftsAll_49 : decode cX11_liftsAll 49 = .ok (.return_, 1) := by decide +kernel
theorem dX11_clearDraft_0 : decode cX11_clearDraft 0 = .ok (.aload_n 0, 1) := by decide +kernel
theorem dX11_clearDraft_1 : decode cX11_clearDraft 1 = .ok (.getfield 13, 3) := by decide +kernel
theorem dX11_clearDraft_4 : decode cX11_clearDraft 4 = .ok (.iconst 4, 1) := by decide +kernel
theorem dX11_clearDraft_5 : decode cX11_clearDraft 5 = .ok (.iconst 4, 1) := by decide +kernel
theorem dX11_clearDraft_6 : decode cX11_clearDraft 6 = .ok (.iastore, 1) := by decide +kernel
theorem dX11_clearDraft_7 : decode cX11_clearDraft 7 = .ok (.aload_n 0, 1) := by decide +kernel
theorem dX11_clearDraft_8 : decode cX11_clearDraft 8 = .ok (.getfield 13, 3) := by decide +kernel
theorem dX11_clearDraft_11 : decode cX11_clearDraft 11 = .ok (.iconst 5, 1) := by decide +kernel
theorem dX11_clearDraft_12 : decode cX11_clearDraft 12 = .ok (.iconst 0, 1) := by decide +kernel
theorem dX11_clearDraft_13 : decode cX11_clearDraft 13 = .ok (.iastore, 1) := by decide +kernel
theorem dX11_clearDraft_14 : decode cX11_clearDraft 14 = .ok (.aload_n 0, 1) := by decide +kernel
theorem dX11_clearDraft_15 : decode cX11_clearDraft 15 = .ok (.getfield 13, 3) := by decide +kernel
theorem dX11_clearDraft_18 : decode cX11_clearDraft 18 = .ok (.bipush 6, 2) := by decide +kernel
theorem dX11_clearDraft_20 : decode cX11_clearDraft 20 = .ok (.iconst 0, 1) := by decide +kernel
theorem dX11_clearDraft_21 : decode cX11_clearDraft 21 = .ok (.iastore, 1) := by decide +kernel
theorem dX11_clearDraft_22 : decode cX11_clearDraft 22 = .ok (.aload_n 0, 1) := by decide +kernel
theorem dX11_clearDraft_23 : decode cX11_clearDraft 23 = .ok (.getfield 13, 3) := by decide +kernel
theorem dX11_clearDraft_26 : decode cX11_clearDraft 26 = .ok (.bipush 7, 2) := by decide +kernel
theorem dX11_clearDraft_28 : decode cX11_clearDraft 28 = .ok (.iconst 0, 1) := by decide +kernel
theorem dX11_clearDraft_29 : decode cX11_clearDraft 29 = .ok (.iastore, 1) := by decide +kernel
theorem dX11_clearDraft_30 : decode cX11_clearDraft 30 = .ok (.return_, 1) := by decide +kernel
theorem dX11_append_0 : decode cX11_append 0 = .ok (.aload_n 0, 1) := by decide +kernel
theorem dX11_append_1 : decode cX11_append 1 = .ok (.iconst 0, 1) := by decide +kernel
theorem dX11_append_2 : decode cX11_append 2 = .ok (.putfield 80, 3) := by decide +kernel
theorem dX11_append_5 : decode cX11_append 5 = .ok (.aload_n 0, 1) := by decide +kernel
theorem dX11_append_6 : decode cX11_append 6 = .ok (.getfield 87, 3) := by decide +kernel
theorem dX11_append_9 : decode cX11_append 9 = .ok (.bipush 20, 2) := by decide +kernel
theorem dX11_append_11 : decode cX11_append 11 = .ok (.iadd, 1) := by decide +kernel
theorem dX11_append_12 : decode cX11_append 12 = .ok (.sipush 500, 3) := by decide +kernel
theorem dX11_append_15 : decode cX11_append 15 = .ok (.if_icmp .le 5, 3) := by decide +kernel
theorem dX11_append_18 : decode cX11_append 18 = .ok (.iconst (-1), 1) := by decide +kernel
theorem dX11_append_19 : decode cX11_append 19 = .ok (.ireturn, 1) := by decide +kernel
theorem dX11_append_20 : decode cX11_append 20 = .ok (.aload_n 0, 1) := by decide +kernel
theorem dX11_append_21 : decode cX11_append 21 = .ok (.iload_n 1, 1) := by decide +kernel
theorem dX11_append_22 : decode cX11_append 22 = .ok (.invokevirtual 90, 3) := by decide +kernel
theorem dX11_append_25 : decode cX11_append 25 = .ok (.aload_n 0, 1) := by decide +kernel
theorem dX11_append_26 : decode cX11_append 26 = .ok (.iload_n 2, 1) := by decide +kernel
theorem dX11_append_27 : decode cX11_append 27 = .ok (.invokevirtual 90, 3) := by decide +kernel
theorem dX11_append_30 : decode cX11_append 30 = .ok (.aload_n 0, 1) := by decide +kernel
theorem dX11_append_31 : decode cX11_append 31 = .ok (.iload_n 3, 1) := by decide +kernel
theorem dX11_append_32 : decode cX11_append 32 = .ok (.invokevirtual 90, 3) := by decide +kernel
theorem dX11_append_35 : decode cX11_append 35 = .ok (.aload_n 0, 1) := by decide +kernel
theorem dX11_append_36 : decode cX11_append 36 = .ok (.iload 4, 2) := by decide +kernel
theorem dX11_append_38 : decode cX11_append 38 = .ok (.invokevirtual 90, 3) := by decide +kernel
theorem dX11_append_41 : decode cX11_append 41 = .ok (.aload_n 0, 1) := by decide +kernel
theorem dX11_append_42 : decode cX11_append 42 = .ok (.iload 5, 2) := by decide +kernel
theorem dX11_append_44 : decode cX11_append 44 = .ok (.invokevirtual 90, 3) := by decide +kernel
theorem dX11_append_47 : decode cX11_append 47 = .ok (.aload_n 0, 1) := by decide +kernel
theorem dX11_append_48 : decode cX11_append 48 = .ok (.getfield 87, 3) := by decide +kernel
theorem dX11_append_51 : decode cX11_append 51 = .ok (.ireturn, 1) := by decide +kernel
theorem dX11_bytesOf_0 : decode cX11_bytesOf 0 = .ok (.bipush 24, 2) := by decide +kernel
theorem dX11_bytesOf_2 : decode cX11_bytesOf 2 = .ok (.istore_n 2, 1) := by decide +kernel
theorem dX11_bytesOf_3 : decode cX11_bytesOf 3 = .ok (.iload_n 2, 1) := by decide +kernel
theorem dX11_bytesOf_4 : decode cX11_bytesOf 4 = .ok (.ifCond .lt 32, 3) := by decide +kernel
theorem dX11_bytesOf_7 : decode cX11_bytesOf 7 = .ok (.aload_n 0, 1) := by decide +kernel
theorem dX11_bytesOf_8 : decode cX11_bytesOf 8 = .ok (.getfield 34, 3) := by decide +kernel
theorem dX11_bytesOf_11 : decode cX11_bytesOf 11 = .ok (.aload_n 0, 1) := by decide +kernel
theorem dX11_bytesOf_12 : decode cX11_bytesOf 12 = .ok (.getfield 87, 3) := by decide +kernel
theorem dX11_bytesOf_15 : decode cX11_bytesOf 15 = .ok (.iload_n 1, 1) := by decide +kernel
theorem dX11_bytesOf_16 : decode cX11_bytesOf 16 = .ok (.iload_n 2, 1) := by decide +kernel
theorem dX11_bytesOf_17 : decode cX11_bytesOf 17 = .ok (.ishr, 1) := by decide +kernel
theorem dX11_bytesOf_18 : decode cX11_bytesOf 18 = .ok (.i2b, 1) := by decide +kernel
theorem dX11_bytesOf_19 : decode cX11_bytesOf 19 = .ok (.bastore, 1) := by decide +kernel
theorem dX11_bytesOf_20 : decode cX11_bytesOf 20 = .ok (.aload_n 0, 1) := by decide +kernel
theorem dX11_bytesOf_21 : decode cX11_bytesOf 21 = .ok (.dup, 1) := by decide +kernel
theorem dX11_bytesOf_22 : decode cX11_bytesOf 22 = .ok (.getfield 87, 3) := by decide +kernel
theorem dX11_bytesOf_25 : decode cX11_bytesOf 25 = .ok (.iconst 1, 1) := by decide +kernel
theorem dX11_bytesOf_26 : decode cX11_bytesOf 26 = .ok (.iadd, 1) := by decide +kernel
theorem dX11_bytesOf_27 : decode cX11_bytesOf 27 = .ok (.putfield 87, 3) := by decide +kernel
theorem dX11_bytesOf_30 : decode cX11_bytesOf 30 = .ok (.iinc 2 (-8), 3) := by decide +kernel
theorem dX11_bytesOf_33 : decode cX11_bytesOf 33 = .ok (.goto (-30), 3) := by decide +kernel
theorem dX11_bytesOf_36 : decode cX11_bytesOf 36 = .ok (.return_, 1) := by decide +kernel
theorem dX11_byteAt_0 : decode cX11_byteAt 0 = .ok (.iload_n 1, 1) := by decide +kernel
theorem dX11_byteAt_1 : decode cX11_byteAt 1 = .ok (.aload_n 0, 1) := by decide +kernel
theorem dX11_byteAt_2 : decode cX11_byteAt 2 = .ok (.getfield 94, 3) := by decide +kernel
theorem dX11_byteAt_5 : decode cX11_byteAt 5 = .ok (.if_icmp .ge 16, 3) := by decide +kernel
theorem dX11_byteAt_8 : decode cX11_byteAt 8 = .ok (.aload_n 0, 1) := by decide +kernel
theorem dX11_byteAt_9 : decode cX11_byteAt 9 = .ok (.getfield 34, 3) := by decide +kernel
theorem dX11_byteAt_12 : decode cX11_byteAt 12 = .ok (.iload_n 1, 1) := by decide +kernel
theorem dX11_byteAt_13 : decode cX11_byteAt 13 = .ok (.baload, 1) := by decide +kernel
theorem dX11_byteAt_14 : decode cX11_byteAt 14 = .ok (.sipush 255, 3) := by decide +kernel
theorem dX11_byteAt_17 : decode cX11_byteAt 17 = .ok (.iand, 1) := by decide +kernel
theorem dX11_byteAt_18 : decode cX11_byteAt 18 = .ok (.goto 4, 3) := by decide +kernel
theorem dX11_byteAt_21 : decode cX11_byteAt 21 = .ok (.iconst (-1), 1) := by decide +kernel
theorem dX11_byteAt_22 : decode cX11_byteAt 22 = .ok (.ireturn, 1) := by decide +kernel
theorem dX11_advance_0 : decode cX11_advance 0 = .ok (.aload_n 0, 1) := by decide +kernel
theorem dX11_advance_1 : decode cX11_advance 1 = .ok (.aload_n 0, 1) := by decide +kernel
theorem dX11_advance_2 : decode cX11_advance 2 = .ok (.getfield 97, 3) := by decide +kernel
theorem dX11_advance_5 : decode cX11_advance 5 = .ok (.invokevirtual 100, 3) := by decide +kernel
theorem dX11_advance_8 : decode cX11_advance 8 = .ok (.bipush 32, 2) := by decide +kernel
theorem dX11_advance_10 : decode cX11_advance 10 = .ok (.if_icmp .eq 16, 3) := by decide +kernel
theorem dX11_advance_13 : decode cX11_advance 13 = .ok (.aload_n 0, 1) := by decide +kernel
theorem dX11_advance_14 : decode cX11_advance 14 = .ok (.aload_n 0, 1) := by decide +kernel
theorem dX11_advance_15 : decode cX11_advance 15 = .ok (.getfield 97, 3) := by decide +kernel
theorem dX11_advance_18 : decode cX11_advance 18 = .ok (.invokevirtual 100, 3) := by decide +kernel
theorem dX11_advance_21 : decode cX11_advance 21 = .ok (.bipush 10, 2) := by decide +kernel
theorem dX11_advance_23 : decode cX11_advance 23 = .ok (.if_icmp .ne 16, 3) := by decide +kernel
theorem dX11_advance_26 : decode cX11_advance 26 = .ok (.aload_n 0, 1) := by decide +kernel
theorem dX11_advance_27 : decode cX11_advance 27 = .ok (.dup, 1) := by decide +kernel
theorem dX11_advance_28 : decode cX11_advance 28 = .ok (.getfield 97, 3) := by decide +kernel
theorem dX11_advance_31 : decode cX11_advance 31 = .ok (.iconst 1, 1) := by decide +kernel
theorem dX11_advance_32 : decode cX11_advance 32 = .ok (.iadd, 1) := by decide +kernel
theorem dX11_advance_33 : decode cX11_advance 33 = .ok (.putfield 97, 3) := by decide +kernel
theorem dX11_advance_36 : decode cX11_advance 36 = .ok (.goto (-36), 3) := by decide +kernel
theorem dX11_advance_39 : decode cX11_advance 39 = .ok (.aload_n 0, 1) := by decide +kernel
theorem dX11_advance_40 : decode cX11_advance 40 = .ok (.aload_n 0, 1) := by decide +kernel
theorem dX11_advance_41 : decode cX11_advance 41 = .ok (.getfield 97, 3) := by decide +kernel
theorem dX11_advance_44 : decode cX11_advance 44 = .ok (.putfield 104, 3) := by decide +kernel
theorem dX11_advance_47 : decode cX11_advance 47 = .ok (.aload_n 0, 1) := by decide +kernel
theorem dX11_advance_48 : decode cX11_advance 48 = .ok (.iconst 0, 1) := by decide +kernel
theorem dX11_advance_49 : decode cX11_advance 49 = .ok (.putfield 107, 3) := by decide +kernel
theorem dX11_advance_52 : decode cX11_advance 52 = .ok (.aload_n 0, 1) := by decide +kernel
theorem dX11_advance_53 : decode cX11_advance 53 = .ok (.aload_n 0, 1) := by decide +kernel
theorem dX11_advance_54 : decode cX11_advance 54 = .ok (.getfield 97, 3) := by decide +kernel
theorem dX11_advance_57 : decode cX11_advance 57 = .ok (.invokevirtual 100, 3) := by decide +kernel
theorem dX11_advance_60 : decode cX11_advance 60 = .ok (.istore_n 1, 1) := by decide +kernel
theorem dX11_advance_61 : decode cX11_advance 61 = .ok (.iload_n 1, 1) := by decide +kernel
theorem dX11_advance_62 : decode cX11_advance 62 = .ok (.iconst (-1), 1) := by decide +kernel
theorem dX11_advance_63 : decode cX11_advance 63 = .ok (.if_icmp .ne 11, 3) := by decide +kernel
theorem dX11_advance_66 : decode cX11_advance 66 = .ok (.aload_n 0, 1) := by decide +kernel
theorem dX11_advance_67 : decode cX11_advance 67 = .ok (.iconst 0, 1) := by decide +kernel
theorem dX11_advance_68 : decode cX11_advance 68 = .ok (.putfield 110, 3) := by decide +kernel
theorem dX11_advance_71 : decode cX11_advance 71 = .ok (.goto 206, 3) := by decide +kernel
theorem dX11_advance_74 : decode cX11_advance 74 = .ok (.iload_n 1, 1) := by decide +kernel
theorem dX11_advance_75 : decode cX11_advance 75 = .ok (.bipush 97, 2) := by decide +kernel
theorem dX11_advance_77 : decode cX11_advance 77 = .ok (.bipush 122, 2) := by decide +kernel
theorem dX11_advance_79 : decode cX11_advance 79 = .ok (.invokestatic 113, 3) := by decide +kernel
theorem dX11_advance_82 : decode cX11_advance 82 = .ok (.ifCond .eq 60, 3) := by decide +kernel
theorem dX11_advance_85 : decode cX11_advance 85 = .ok (.aload_n 0, 1) := by decide +kernel
theorem dX11_advance_86 : decode cX11_advance 86 = .ok (.aload_n 0, 1) := by decide +kernel
theorem dX11_advance_87 : decode cX11_advance 87 = .ok (.getfield 97, 3) := by decide +kernel
theorem dX11_advance_90 : decode cX11_advance 90 = .ok (.invokevirtual 100, 3) := by decide +kernel
theorem dX11_advance_93 : decode cX11_advance 93 = .ok (.bipush 97, 2) := by decide +kernel
theorem dX11_advance_95 : decode cX11_advance 95 = .ok (.bipush 122, 2) := by decide +kernel
theorem dX11_advance_97 : decode cX11_advance 97 = .ok (.invokestatic 113, 3) := by decide +kernel
theorem dX11_advance_100 : decode cX11_advance 100 = .ok (.ifCond .eq 16, 3) := by decide +kernel
theorem dX11_advance_103 : decode cX11_advance 103 = .ok (.aload_n 0, 1) := by decide +kernel
theorem dX11_advance_104 : decode cX11_advance 104 = .ok (.dup, 1) := by decide +kernel
theorem dX11_advance_105 : decode cX11_advance 105 = .ok (.getfield 97, 3) := by decide +kernel
theorem dX11_advance_108 : decode cX11_advance 108 = .ok (.iconst 1, 1) := by decide +kernel
theorem dX11_advance_109 : decode cX11_advance 109 = .ok (.iadd, 1) := by decide +kernel
theorem dX11_advance_110 : decode cX11_advance 110 = .ok (.putfield 97, 3) := by decide +kernel
theorem dX11_advance_113 : decode cX11_advance 113 = .ok (.goto (-28), 3) := by decide +kernel
theorem dX11_advance_116 : decode cX11_advance 116 = .ok (.aload_n 0, 1) := by decide +kernel
theorem dX11_advance_117 : decode cX11_advance 117 = .ok (.aload_n 0, 1) := by decide +kernel
theorem dX11_advance_118 : decode cX11_advance 118 = .ok (.getfield 97, 3) := by decide +kernel
theorem dX11_advance_121 : decode cX11_advance 121 = .ok (.aload_n 0, 1) := by decide +kernel
theorem dX11_advance_122 : decode cX11_advance 122 = .ok (.getfield 104, 3) := by decide +kernel
theorem dX11_advance_125 : decode cX11_advance 125 = .ok (.isub, 1) := by decide +kernel
theorem dX11_advance_126 : decode cX11_advance 126 = .ok (.bipush 8, 2) := by decide +kernel
theorem dX11_advance_128 : decode cX11_advance 128 = .ok (.if_icmp .le 7, 3) := by decide +kernel
theorem dX11_advance_131 : decode cX11_advance 131 = .ok (.iconst 4, 1) := by decide +kernel
theorem dX11_advance_132 : decode cX11_advance 132 = .ok (.goto 4, 3) := by decide +kernel
theorem dX11_advance_135 : decode cX11_advance 135 = .ok (.iconst 1, 1) := by decide +kernel
theorem dX11_advance_136 : decode cX11_advance 136 = .ok (.putfield 110, 3) := by decide +kernel
theorem dX11_advance_139 : decode cX11_advance 139 = .ok (.goto 138, 3) := by decide +kernel
theorem dX11_advance_142 : decode cX11_advance 142 = .ok (.iload_n 1, 1) := by decide +kernel
theorem dX11_advance_143 : decode cX11_advance 143 = .ok (.bipush 48, 2) := by decide +kernel
theorem dX11_advance_145 : decode cX11_advance 145 = .ok (.bipush 57, 2) := by decide +kernel
theorem dX11_advance_147 : decode cX11_advance 147 = .ok (.invokestatic 113, 3) := by decide +kernel
theorem dX11_advance_150 : decode cX11_advance 150 = .ok (.ifCond .eq 102, 3) := by decide +kernel
theorem dX11_advance_153 : decode cX11_advance 153 = .ok (.aload_n 0, 1) := by decide +kernel
theorem dX11_advance_154 : decode cX11_advance 154 = .ok (.aload_n 0, 1) := by decide +kernel
theorem dX11_advance_155 : decode cX11_advance 155 = .ok (.getfield 97, 3) := by decide +kernel
theorem dX11_advance_158 : decode cX11_advance 158 = .ok (.invokevirtual 100, 3) := by decide +kernel
theorem dX11_advance_161 : decode cX11_advance 161 = .ok (.bipush 48, 2) := by decide +kernel
theorem dX11_advance_163 : decode cX11_advance 163 = .ok (.bipush 57, 2) := by decide +kernel
theorem dX11_advance_165 : decode cX11_advance 165 = .ok (.invokestatic 113, 3) := by decide +kernel
theorem dX11_advance_168 : decode cX11_advance 168 = .ok (.ifCond .eq 59, 3) := by decide +kernel
theorem dX11_advance_171 : decode cX11_advance 171 = .ok (.aload_n 0, 1) := by decide +kernel
theorem dX11_advance_172 : decode cX11_advance 172 = .ok (.aload_n 0, 1) := by decide +kernel
theorem dX11_advance_173 : decode cX11_advance 173 = .ok (.getfield 97, 3) := by decide +kernel
theorem dX11_advance_176 : decode cX11_advance 176 = .ok (.aload_n 0, 1) := by decide +kernel
theorem dX11_advance_177 : decode cX11_advance 177 = .ok (.getfield 104, 3) := by decide +kernel
theorem dX11_advance_180 : decode cX11_advance 180 = .ok (.isub, 1) := by decide +kernel
theorem dX11_advance_181 : decode cX11_advance 181 = .ok (.iconst 4, 1) := by decide +kernel
theorem dX11_advance_182 : decode cX11_advance 182 = .ok (.if_icmp .ge 25, 3) := by decide +kernel
theorem dX11_advance_185 : decode cX11_advance 185 = .ok (.bipush 10, 2) := by decide +kernel
theorem dX11_advance_187 : decode cX11_advance 187 = .ok (.aload_n 0, 1) := by decide +kernel
theorem dX11_advance_188 : decode cX11_advance 188 = .ok (.getfield 107, 3) := by decide +kernel
theorem dX11_advance_191 : decode cX11_advance 191 = .ok (.imul, 1) := by decide +kernel
theorem dX11_advance_192 : decode cX11_advance 192 = .ok (.aload_n 0, 1) := by decide +kernel
theorem dX11_advance_193 : decode cX11_advance 193 = .ok (.aload_n 0, 1) := by decide +kernel
theorem dX11_advance_194 : decode cX11_advance 194 = .ok (.getfield 97, 3) := by decide +kernel
theorem dX11_advance_197 : decode cX11_advance 197 = .ok (.invokevirtual 100, 3) := by decide +kernel
theorem dX11_advance_200 : decode cX11_advance 200 = .ok (.iadd, 1) := by decide +kernel
theorem dX11_advance_201 : decode cX11_advance 201 = .ok (.bipush 48, 2) := by decide +kernel
theorem dX11_advance_203 : decode cX11_advance 203 = .ok (.isub, 1) := by decide +kernel
theorem dX11_advance_204 : decode cX11_advance 204 = .ok (.goto 7, 3) := by decide +kernel
theorem dX11_advance_207 : decode cX11_advance 207 = .ok (.aload_n 0, 1) := by decide +kernel
theorem dX11_advance_208 : decode cX11_advance 208 = .ok (.getfield 107, 3) := by decide +kernel
theorem dX11_advance_211 : decode cX11_advance 211 = .ok (.putfield 107, 3) := by decide +kernel
theorem dX11_advance_214 : decode cX11_advance 214 = .ok (.aload_n 0, 1) := by decide +kernel
theorem dX11_advance_215 : decode cX11_advance 215 = .ok (.dup, 1) := by decide +kernel
theorem dX11_advance_216 : decode cX11_advance 216 = .ok (.getfield 97, 3) := by decide +kernel
theorem dX11_advance_219 : decode cX11_advance 219 = .ok (.iconst 1, 1) := by decide +kernel
theorem dX11_advance_220 : decode cX11_advance 220 = .ok (.iadd, 1) := by decide +kernel
theorem dX11_advance_221 : decode cX11_advance 221 = .ok (.putfield 97, 3) := by decide +kernel
theorem dX11_advance_224 : decode cX11_advance 224 = .ok (.goto (-71), 3) := by decide +kernel
theorem dX11_advance_227 : decode cX11_advance 227 = .ok (.aload_n 0, 1) := by decide +kernel
theorem dX11_advance_228 : decode cX11_advance 228 = .ok (.aload_n 0, 1) := by decide +kernel
theorem dX11_advance_229 : decode cX11_advance 229 = .ok (.getfield 97, 3) := by decide +kernel
theorem dX11_advance_232 : decode cX11_advance 232 = .ok (.aload_n 0, 1) := by decide +kernel
theorem dX11_advance_233 : decode cX11_advance 233 = .ok (.getfield 104, 3) := by decide +kernel
theorem dX11_advance_236 : decode cX11_advance 236 = .ok (.isub, 1) := by decide +kernel
theorem dX11_advance_237 : decode cX11_advance 237 = .ok (.iconst 4, 1) := by decide +kernel
theorem dX11_advance_238 : decode cX11_advance 238 = .ok (.if_icmp .le 7, 3) := by decide +kernel
theorem dX11_advance_241 : decode cX11_advance 241 = .ok (.iconst 4, 1) := by decide +kernel
theorem dX11_advance_242 : decode cX11_advance 242 = .ok (.goto 4, 3) := by decide +kernel
theorem dX11_advance_245 : decode cX11_advance 245 = .ok (.iconst 2, 1) := by decide +kernel
theorem dX11_advance_246 : decode cX11_advance 246 = .ok (.putfield 110, 3) := by decide +kernel
theorem dX11_advance_249 : decode cX11_advance 249 = .ok (.goto 28, 3) := by decide +kernel
theorem dX11_advance_252 : decode cX11_advance 252 = .ok (.aload_n 0, 1) := by decide +kernel
theorem dX11_advance_253 : decode cX11_advance 253 = .ok (.dup, 1) := by decide +kernel
theorem dX11_advance_254 : decode cX11_advance 254 = .ok (.getfield 97, 3) := by decide +kernel
theorem dX11_advance_257 : decode cX11_advance 257 = .ok (.iconst 1, 1) := by decide +kernel
theorem dX11_advance_258 : decode cX11_advance 258 = .ok (.iadd, 1) := by decide +kernel
theorem dX11_advance_259 : decode cX11_advance 259 = .ok (.putfield 97, 3) := by decide +kernel
theorem dX11_advance_262 : decode cX11_advance 262 = .ok (.aload_n 0, 1) := by decide +kernel
theorem dX11_advance_263 : decode cX11_advance 263 = .ok (.iload_n 1, 1) := by decide +kernel
theorem dX11_advance_264 : decode cX11_advance 264 = .ok (.bipush 59, 2) := by decide +kernel
theorem dX11_advance_266 : decode cX11_advance 266 = .ok (.if_icmp .ne 7, 3) := by decide +kernel
theorem dX11_advance_269 : decode cX11_advance 269 = .ok (.iconst 3, 1) := by decide +kernel
theorem dX11_advance_270 : decode cX11_advance 270 = .ok (.goto 4, 3) := by decide +kernel
theorem dX11_advance_273 : decode cX11_advance 273 = .ok (.iconst 4, 1) := by decide +kernel
theorem dX11_advance_274 : decode cX11_advance 274 = .ok (.putfield 110, 3) := by decide +kernel
theorem dX11_advance_277 : decode cX11_advance 277 = .ok (.return_, 1) := by decide +kernel
theorem dX11_isWord_0 : decode cX11_isWord 0 = .ok (.aload_n 0, 1) := by decide +kernel
theorem dX11_isWord_1 : decode cX11_isWord 1 = .ok (.getfield 110, 3) := by decide +kernel
theorem dX11_isWord_4 : decode cX11_isWord 4 = .ok (.iconst 1, 1) := by decide +kernel
theorem dX11_isWord_5 : decode cX11_isWord 5 = .ok (.if_icmp .ne 23, 3) := by decide +kernel
theorem dX11_isWord_8 : decode cX11_isWord 8 = .ok (.aload_n 0, 1) := by decide +kernel
theorem dX11_isWord_9 : decode cX11_isWord 9 = .ok (.getfield 97, 3) := by decide +kernel
theorem dX11_isWord_12 : decode cX11_isWord 12 = .ok (.aload_n 0, 1) := by decide +kernel
theorem dX11_isWord_13 : decode cX11_isWord 13 = .ok (.getfield 104, 3) := by decide +kernel
theorem dX11_isWord_16 : decode cX11_isWord 16 = .ok (.isub, 1) := by decide +kernel
theorem dX11_isWord_17 : decode cX11_isWord 17 = .ok (.aload_n 1, 1) := by decide +kernel
theorem dX11_isWord_18 : decode cX11_isWord 18 = .ok (.invokevirtual 117, 3) := by decide +kernel
theorem dX11_isWord_21 : decode cX11_isWord 21 = .ok (.if_icmp .ne 7, 3) := by decide +kernel
theorem dX11_isWord_24 : decode cX11_isWord 24 = .ok (.iconst 1, 1) := by decide +kernel
theorem dX11_isWord_25 : decode cX11_isWord 25 = .ok (.goto 4, 3) := by decide +kernel
theorem dX11_isWord_28 : decode cX11_isWord 28 = .ok (.iconst 0, 1) := by decide +kernel
theorem dX11_isWord_29 : decode cX11_isWord 29 = .ok (.istore_n 2, 1) := by decide +kernel
theorem dX11_isWord_30 : decode cX11_isWord 30 = .ok (.iconst 0, 1) := by decide +kernel
theorem dX11_isWord_31 : decode cX11_isWord 31 = .ok (.istore_n 3, 1) := by decide +kernel
theorem dX11_isWord_32 : decode cX11_isWord 32 = .ok (.iload_n 3, 1) := by decide +kernel
theorem dX11_isWord_33 : decode cX11_isWord 33 = .ok (.aload_n 1, 1) := by decide +kernel
theorem dX11_isWord_34 : decode cX11_isWord 34 = .ok (.invokevirtual 117, 3) := by decide +kernel
theorem dX11_isWord_37 : decode cX11_isWord 37 = .ok (.if_icmp .ge 38, 3) := by decide +kernel
theorem dX11_isWord_40 : decode cX11_isWord 40 = .ok (.iload_n 2, 1) := by decide +kernel
theorem dX11_isWord_41 : decode cX11_isWord 41 = .ok (.ifCond .eq 34, 3) := by decide +kernel
theorem dX11_isWord_44 : decode cX11_isWord 44 = .ok (.aload_n 0, 1) := by decide +kernel
theorem dX11_isWord_45 : decode cX11_isWord 45 = .ok (.getfield 34, 3) := by decide +kernel
theorem dX11_isWord_48 : decode cX11_isWord 48 = .ok (.aload_n 0, 1) := by decide +kernel
theorem dX11_isWord_49 : decode cX11_isWord 49 = .ok (.getfield 104, 3) := by decide +kernel
theorem dX11_isWord_52 : decode cX11_isWord 52 = .ok (.iload_n 3, 1) := by decide +kernel
theorem dX11_isWord_53 : decode cX11_isWord 53 = .ok (.iadd, 1) := by decide +kernel
theorem dX11_isWord_54 : decode cX11_isWord 54 = .ok (.baload, 1) := by decide +kernel
theorem dX11_isWord_55 : decode cX11_isWord 55 = .ok (.aload_n 1, 1) := by decide +kernel
theorem dX11_isWord_56 : decode cX11_isWord 56 = .ok (.iload_n 3, 1) := by decide +kernel
theorem dX11_isWord_57 : decode cX11_isWord 57 = .ok (.invokevirtual 122, 3) := by decide +kernel
theorem dX11_isWord_60 : decode cX11_isWord 60 = .ok (.if_icmp .ne 7, 3) := by decide +kernel
theorem dX11_isWord_63 : decode cX11_isWord 63 = .ok (.iconst 1, 1) := by decide +kernel
theorem dX11_isWord_64 : decode cX11_isWord 64 = .ok (.goto 4, 3) := by decide +kernel
theorem dX11_isWord_67 : decode cX11_isWord 67 = .ok (.iconst 0, 1) := by decide +kernel
theorem dX11_isWord_68 : decode cX11_isWord 68 = .ok (.istore_n 2, 1) := by decide +kernel
theorem dX11_isWord_69 : decode cX11_isWord 69 = .ok (.iinc 3 1, 3) := by decide +kernel
theorem dX11_isWord_72 : decode cX11_isWord 72 = .ok (.goto (-40), 3) := by decide +kernel
theorem dX11_isWord_75 : decode cX11_isWord 75 = .ok (.iload_n 2, 1) := by decide +kernel
theorem dX11_isWord_76 : decode cX11_isWord 76 = .ok (.ireturn, 1) := by decide +kernel
theorem dX11_fails_0 : decode cX11_fails 0 = .ok (.aload_n 0, 1) := by decide +kernel
theorem dX11_fails_1 : decode cX11_fails 1 = .ok (.getfield 126, 3) := by decide +kernel
theorem dX11_fails_4 : decode cX11_fails 4 = .ok (.ifCond .ne 16, 3) := by decide +kernel
theorem dX11_fails_7 : decode cX11_fails 7 = .ok (.aload_n 0, 1) := by decide +kernel
theorem dX11_fails_8 : decode cX11_fails 8 = .ok (.iload_n 1, 1) := by decide +kernel
theorem dX11_fails_9 : decode cX11_fails 9 = .ok (.putfield 126, 3) := by decide +kernel
theorem dX11_fails_12 : decode cX11_fails 12 = .ok (.aload_n 0, 1) := by decide +kernel
theorem dX11_fails_13 : decode cX11_fails 13 = .ok (.aload_n 0, 1) := by decide +kernel
theorem dX11_fails_14 : decode cX11_fails 14 = .ok (.getfield 104, 3) := by decide +kernel
theorem dX11_fails_17 : decode cX11_fails 17 = .ok (.putfield 38, 3) := by decide +kernel
theorem dX11_fails_20 : decode cX11_fails 20 = .ok (.iconst 0, 1) := by decide +kernel
theorem dX11_fails_21 : decode cX11_fails 21 = .ok (.ireturn, 1) := by decide +kernel
theorem dX11_takes_0 : decode cX11_takes 0 = .ok (.aload_n 0, 1) := by decide +kernel
theorem dX11_takes_1 : decode cX11_takes 1 = .ok (.getfield 110, 3) := by decide +kernel
theorem dX11_takes_4 : decode cX11_takes 4 = .ok (.iconst 2, 1) := by decide +kernel
theorem dX11_takes_5 : decode cX11_takes 5 = .ok (.if_icmp .eq 9, 3) := by decide +kernel
theorem dX11_takes_8 : decode cX11_takes 8 = .ok (.aload_n 0, 1) := by decide +kernel
theorem dX11_takes_9 : decode cX11_takes 9 = .ok (.iconst 1, 1) := by decide +kernel
theorem dX11_takes_10 : decode cX11_takes 10 = .ok (.invokevirtual 129, 3) := by decide +kernel
theorem dX11_takes_13 : decode cX11_takes 13 = .ok (.ireturn, 1) := by decide +kernel
theorem dX11_takes_14 : decode cX11_takes 14 = .ok (.aload_n 0, 1) := by decide +kernel
theorem dX11_takes_15 : decode cX11_takes 15 = .ok (.getfield 107, 3) := by decide +kernel
theorem dX11_takes_18 : decode cX11_takes 18 = .ok (.iload_n 1, 1) := by decide +kernel
theorem dX11_takes_19 : decode cX11_takes 19 = .ok (.iload_n 2, 1) := by decide +kernel
theorem dX11_takes_20 : decode cX11_takes 20 = .ok (.invokestatic 113, 3) := by decide +kernel
theorem dX11_takes_23 : decode cX11_takes 23 = .ok (.ifCond .ne 9, 3) := by decide +kernel
theorem dX11_takes_26 : decode cX11_takes 26 = .ok (.aload_n 0, 1) := by decide +kernel
theorem dX11_takes_27 : decode cX11_takes 27 = .ok (.iconst 3, 1) := by decide +kernel
theorem dX11_takes_28 : decode cX11_takes 28 = .ok (.invokevirtual 129, 3) := by decide +kernel
theorem dX11_takes_31 : decode cX11_takes 31 = .ok (.ireturn, 1) := by decide +kernel
theorem dX11_takes_32 : decode cX11_takes 32 = .ok (.aload_n 0, 1) := by decide +kernel
theorem dX11_takes_33 : decode cX11_takes 33 = .ok (.aload_n 0, 1) := by decide +kernel
theorem dX11_takes_34 : decode cX11_takes 34 = .ok (.getfield 107, 3) := by decide +kernel
theorem dX11_takes_37 : decode cX11_takes 37 = .ok (.putfield 133, 3) := by decide +kernel
theorem dX11_takes_40 : decode cX11_takes 40 = .ok (.aload_n 0, 1) := by decide +kernel
theorem dX11_takes_41 : decode cX11_takes 41 = .ok (.invokevirtual 136, 3) := by decide +kernel
theorem dX11_takes_44 : decode cX11_takes 44 = .ok (.iconst 1, 1) := by decide +kernel
theorem dX11_takes_45 : decode cX11_takes 45 = .ok (.ireturn, 1) := by decide +kernel
theorem dX11_starts_0 : decode cX11_starts 0 = .ok (.iload_n 2, 1) := by decide +kernel
theorem dX11_starts_1 : decode cX11_starts 1 = .ok (.ifCond .ne 9, 3) := by decide +kernel
theorem dX11_starts_4 : decode cX11_starts 4 = .ok (.aload_n 0, 1) := by decide +kernel
theorem dX11_starts_5 : decode cX11_starts 5 = .ok (.iload_n 1, 1) := by decide +kernel
theorem dX11_starts_6 : decode cX11_starts 6 = .ok (.invokevirtual 129, 3) := by decide +kernel
theorem dX11_starts_9 : decode cX11_starts 9 = .ok (.ireturn, 1) := by decide +kernel
theorem dX11_starts_10 : decode cX11_starts 10 = .ok (.aload_n 0, 1) := by decide +kernel
theorem dX11_starts_11 : decode cX11_starts 11 = .ok (.invokevirtual 136, 3) := by decide +kernel
theorem dX11_starts_14 : decode cX11_starts 14 = .ok (.iconst 1, 1) := by decide +kernel
theorem dX11_starts_15 : decode cX11_starts 15 = .ok (.ireturn, 1) := by decide +kernel
theorem dX11_puts_0 : decode cX11_puts 0 = .ok (.aload_n 0, 1) := by decide +kernel
theorem dX11_puts_1 : decode cX11_puts 1 = .ok (.iload_n 3, 1) := by decide +kernel
theorem dX11_puts_2 : decode cX11_puts 2 = .ok (.iload 4, 2) := by decide +kernel
theorem dX11_puts_4 : decode cX11_puts 4 = .ok (.invokevirtual 139, 3) := by decide +kernel
theorem dX11_puts_7 : decode cX11_puts 7 = .ok (.ifCond .ne 5, 3) := by decide +kernel
theorem dX11_puts_10 : decode cX11_puts 10 = .ok (.iconst 0, 1) := by decide +kernel
theorem dX11_puts_11 : decode cX11_puts 11 = .ok (.ireturn, 1) := by decide +kernel
theorem dX11_puts_12 : decode cX11_puts 12 = .ok (.aload_n 1, 1) := by decide +kernel
theorem dX11_puts_13 : decode cX11_puts 13 = .ok (.aload_n 1, 1) := by decide +kernel
theorem dX11_puts_14 : decode cX11_puts 14 = .ok (.arraylength, 1) := by decide +kernel
theorem dX11_puts_15 : decode cX11_puts 15 = .ok (.iconst 2, 1) := by decide +kernel
theorem dX11_puts_16 : decode cX11_puts 16 = .ok (.idiv, 1) := by decide +kernel
theorem dX11_puts_17 : decode cX11_puts 17 = .ok (.iload_n 2, 1) := by decide +kernel
theorem dX11_puts_18 : decode cX11_puts 18 = .ok (.iadd, 1) := by decide +kernel
theorem dX11_puts_19 : decode cX11_puts 19 = .ok (.aload_n 0, 1) := by decide +kernel
theorem dX11_puts_20 : decode cX11_puts 20 = .ok (.getfield 133, 3) := by decide +kernel
theorem dX11_puts_23 : decode cX11_puts 23 = .ok (.iastore, 1) := by decide +kernel
theorem dX11_puts_24 : decode cX11_puts 24 = .ok (.iconst 1, 1) := by decide +kernel
theorem dX11_puts_25 : decode cX11_puts 25 = .ok (.ireturn, 1) := by decide +kernel
theorem dX11_lineLine_0 : decode cX11_lineLine 0 = .ok (.aload_n 0, 1) := by decide +kernel
theorem dX11_lineLine_1 : decode cX11_lineLine 1 = .ok (.getfield 13, 3) := by decide +kernel
theorem dX11_lineLine_4 : decode cX11_lineLine 4 = .ok (.iconst 5, 1) := by decide +kernel
theorem dX11_lineLine_5 : decode cX11_lineLine 5 = .ok (.iaload, 1) := by decide +kernel
theorem dX11_lineLine_6 : decode cX11_lineLine 6 = .ok (.istore_n 1, 1) := by decide +kernel
theorem dX11_lineLine_7 : decode cX11_lineLine 7 = .ok (.aload_n 0, 1) := by decide +kernel
theorem dX11_lineLine_8 : decode cX11_lineLine 8 = .ok (.getfield 13, 3) := by decide +kernel
theorem dX11_lineLine_11 : decode cX11_lineLine 11 = .ok (.iconst 4, 1) := by decide +kernel
theorem dX11_lineLine_12 : decode cX11_lineLine 12 = .ok (.iaload, 1) := by decide +kernel
theorem dX11_lineLine_13 : decode cX11_lineLine 13 = .ok (.iconst 1, 1) := by decide +kernel
theorem dX11_lineLine_14 : decode cX11_lineLine 14 = .ok (.isub, 1) := by decide +kernel
theorem dX11_lineLine_15 : decode cX11_lineLine 15 = .ok (.istore_n 2, 1) := by decide +kernel
theorem dX11_lineLine_16 : decode cX11_lineLine 16 = .ok (.aload_n 0, 1) := by decide +kernel
theorem dX11_lineLine_17 : decode cX11_lineLine 17 = .ok (.iconst 4, 1) := by decide +kernel
theorem dX11_lineLine_18 : decode cX11_lineLine 18 = .ok (.iload_n 1, 1) := by decide +kernel
theorem dX11_lineLine_19 : decode cX11_lineLine 19 = .ok (.bipush 24, 2) := by decide +kernel
theorem dX11_lineLine_21 : decode cX11_lineLine 21 = .ok (.if_icmp .ge 7, 3) := by decide +kernel
theorem dX11_lineLine_24 : decode cX11_lineLine 24 = .ok (.iconst 1, 1) := by decide +kernel
theorem dX11_lineLine_25 : decode cX11_lineLine 25 = .ok (.goto 4, 3) := by decide +kernel
theorem dX11_lineLine_28 : decode cX11_lineLine 28 = .ok (.iconst 0, 1) := by decide +kernel
theorem dX11_lineLine_29 : decode cX11_lineLine 29 = .ok (.invokevirtual 143, 3) := by decide +kernel
theorem dX11_lineLine_32 : decode cX11_lineLine 32 = .ok (.ifCond .eq 17, 3) := by decide +kernel
theorem dX11_lineLine_35 : decode cX11_lineLine 35 = .ok (.aload_n 0, 1) := by decide +kernel
theorem dX11_lineLine_36 : decode cX11_lineLine 36 = .ok (.aload_n 0, 1) := by decide +kernel
theorem dX11_lineLine_37 : decode cX11_lineLine 37 = .ok (.getfield 16, 3) := by decide +kernel
theorem dX11_lineLine_40 : decode cX11_lineLine 40 = .ok (.iload_n 1, 1) := by decide +kernel
theorem dX11_lineLine_41 : decode cX11_lineLine 41 = .ok (.iconst 0, 1) := by decide +kernel
theorem dX11_lineLine_42 : decode cX11_lineLine 42 = .ok (.iload_n 2, 1) := by decide +kernel
theorem dX11_lineLine_43 : decode cX11_lineLine 43 = .ok (.invokevirtual 147, 3) := by decide +kernel
theorem dX11_lineLine_46 : decode cX11_lineLine 46 = .ok (.ifCond .ne 5, 3) := by decide +kernel
theorem dX11_lineLine_49 : decode cX11_lineLine 49 = .ok (.iconst 0, 1) := by decide +kernel
theorem dX11_lineLine_50 : decode cX11_lineLine 50 = .ok (.ireturn, 1) := by decide +kernel
theorem dX11_lineLine_51 : decode cX11_lineLine 51 = .ok (.aload_n 0, 1) := by decide +kernel
theorem dX11_lineLine_52 : decode cX11_lineLine 52 = .ok (.getfield 110, 3) := by decide +kernel
theorem dX11_lineLine_55 : decode cX11_lineLine 55 = .ok (.iconst 2, 1) := by decide +kernel
theorem dX11_lineLine_56 : decode cX11_lineLine 56 = .ok (.if_icmp .ne 25, 3) := by decide +kernel
theorem dX11_lineLine_59 : decode cX11_lineLine 59 = .ok (.aload_n 0, 1) := by decide +kernel
theorem dX11_lineLine_60 : decode cX11_lineLine 60 = .ok (.getfield 107, 3) := by decide +kernel
theorem dX11_lineLine_63 : decode cX11_lineLine 63 = .ok (.aload_n 0, 1) := by decide +kernel
theorem dX11_lineLine_64 : decode cX11_lineLine 64 = .ok (.getfield 16, 3) := by decide +kernel
theorem dX11_lineLine_67 : decode cX11_lineLine 67 = .ok (.bipush 24, 2) := by decide +kernel
theorem dX11_lineLine_69 : decode cX11_lineLine 69 = .ok (.iload_n 1, 1) := by decide +kernel
theorem dX11_lineLine_70 : decode cX11_lineLine 70 = .ok (.iadd, 1) := by decide +kernel
theorem dX11_lineLine_71 : decode cX11_lineLine 71 = .ok (.iaload, 1) := by decide +kernel
theorem dX11_lineLine_72 : decode cX11_lineLine 72 = .ok (.if_icmp .ne 9, 3) := by decide +kernel
theorem dX11_lineLine_75 : decode cX11_lineLine 75 = .ok (.aload_n 0, 1) := by decide +kernel
theorem dX11_lineLine_76 : decode cX11_lineLine 76 = .ok (.iconst 3, 1) := by decide +kernel
theorem dX11_lineLine_77 : decode cX11_lineLine 77 = .ok (.invokevirtual 129, 3) := by decide +kernel
theorem dX11_lineLine_80 : decode cX11_lineLine 80 = .ok (.ireturn, 1) := by decide +kernel
theorem dX11_lineLine_81 : decode cX11_lineLine 81 = .ok (.aload_n 0, 1) := by decide +kernel
theorem dX11_lineLine_82 : decode cX11_lineLine 82 = .ok (.aload_n 0, 1) := by decide +kernel
theorem dX11_lineLine_83 : decode cX11_lineLine 83 = .ok (.getfield 19, 3) := by decide +kernel
theorem dX11_lineLine_86 : decode cX11_lineLine 86 = .ok (.iload_n 1, 1) := by decide +kernel
theorem dX11_lineLine_87 : decode cX11_lineLine 87 = .ok (.iconst 0, 1) := by decide +kernel
theorem dX11_lineLine_88 : decode cX11_lineLine 88 = .ok (.iload_n 2, 1) := by decide +kernel
theorem dX11_lineLine_89 : decode cX11_lineLine 89 = .ok (.invokevirtual 147, 3) := by decide +kernel
theorem dX11_lineLine_92 : decode cX11_lineLine 92 = .ok (.ifCond .ne 5, 3) := by decide +kernel
theorem dX11_lineLine_95 : decode cX11_lineLine 95 = .ok (.iconst 0, 1) := by decide +kernel
theorem dX11_lineLine_96 : decode cX11_lineLine 96 = .ok (.ireturn, 1) := by decide +kernel
theorem dX11_lineLine_97 : decode cX11_lineLine 97 = .ok (.aload_n 0, 1) := by decide +kernel
theorem dX11_lineLine_98 : decode cX11_lineLine 98 = .ok (.ldc 151, 2) := by decide +kernel
theorem dX11_lineLine_100 : decode cX11_lineLine 100 = .ok (.invokevirtual 152, 3) := by decide +kernel
theorem dX11_lineLine_103 : decode cX11_lineLine 103 = .ok (.istore_n 3, 1) := by decide +kernel
theorem dX11_lineLine_104 : decode cX11_lineLine 104 = .ok (.aload_n 0, 1) := by decide +kernel
theorem dX11_lineLine_105 : decode cX11_lineLine 105 = .ok (.iconst 1, 1) := by decide +kernel
theorem dX11_lineLine_106 : decode cX11_lineLine 106 = .ok (.iload_n 3, 1) := by decide +kernel
theorem dX11_lineLine_107 : decode cX11_lineLine 107 = .ok (.ifCond .ne 12, 3) := by decide +kernel
theorem dX11_lineLine_110 : decode cX11_lineLine 110 = .ok (.aload_n 0, 1) := by decide +kernel
theorem dX11_lineLine_111 : decode cX11_lineLine 111 = .ok (.ldc 156, 2) := by decide +kernel
theorem dX11_lineLine_113 : decode cX11_lineLine 113 = .ok (.invokevirtual 152, 3) := by decide +kernel
theorem dX11_lineLine_116 : decode cX11_lineLine 116 = .ok (.ifCond .eq 7, 3) := by decide +kernel
theorem dX11_lineLine_119 : decode cX11_lineLine 119 = .ok (.iconst 1, 1) := by decide +kernel
theorem dX11_lineLine_120 : decode cX11_lineLine 120 = .ok (.goto 4, 3) := by decide +kernel
theorem dX11_lineLine_123 : decode cX11_lineLine 123 = .ok (.iconst 0, 1) := by decide +kernel
theorem dX11_lineLine_124 : decode cX11_lineLine 124 = .ok (.invokevirtual 143, 3) := by decide +kernel
theorem dX11_lineLine_127 : decode cX11_lineLine 127 = .ok (.ifCond .eq 19, 3) := by decide +kernel
theorem dX11_lineLine_130 : decode cX11_lineLine 130 = .ok (.aload_n 0, 1) := by decide +kernel
theorem dX11_lineLine_131 : decode cX11_lineLine 131 = .ok (.aload_n 0, 1) := by decide +kernel
theorem dX11_lineLine_132 : decode cX11_lineLine 132 = .ok (.getfield 25, 3) := by decide +kernel
theorem dX11_lineLine_135 : decode cX11_lineLine 135 = .ok (.iload_n 1, 1) := by decide +kernel
theorem dX11_lineLine_136 : decode cX11_lineLine 136 = .ok (.iconst 0, 1) := by decide +kernel
theorem dX11_lineLine_137 : decode cX11_lineLine 137 = .ok (.sipush 999, 3) := by decide +kernel
theorem dX11_lineLine_140 : decode cX11_lineLine 140 = .ok (.invokevirtual 147, 3) := by decide +kernel
theorem dX11_lineLine_143 : decode cX11_lineLine 143 = .ok (.ifCond .ne 5, 3) := by decide +kernel
theorem dX11_lineLine_146 : decode cX11_lineLine 146 = .ok (.iconst 0, 1) := by decide +kernel
theorem dX11_lineLine_147 : decode cX11_lineLine 147 = .ok (.ireturn, 1) := by decide +kernel
theorem dX11_lineLine_148 : decode cX11_lineLine 148 = .ok (.aload_n 0, 1) := by decide +kernel
theorem dX11_lineLine_149 : decode cX11_lineLine 149 = .ok (.getfield 22, 3) := by decide +kernel
theorem dX11_lineLine_152 : decode cX11_lineLine 152 = .ok (.bipush 24, 2) := by decide +kernel
theorem dX11_lineLine_154 : decode cX11_lineLine 154 = .ok (.iload_n 1, 1) := by decide +kernel
theorem dX11_lineLine_155 : decode cX11_lineLine 155 = .ok (.iadd, 1) := by decide +kernel
theorem dX11_lineLine_156 : decode cX11_lineLine 156 = .ok (.iload_n 3, 1) := by decide +kernel
theorem dX11_lineLine_157 : decode cX11_lineLine 157 = .ok (.ifCond .eq 7, 3) := by decide +kernel
theorem dX11_lineLine_160 : decode cX11_lineLine 160 = .ok (.iconst 1, 1) := by decide +kernel
theorem dX11_lineLine_161 : decode cX11_lineLine 161 = .ok (.goto 4, 3) := by decide +kernel
theorem dX11_lineLine_164 : decode cX11_lineLine 164 = .ok (.iconst 0, 1) := by decide +kernel
theorem dX11_lineLine_165 : decode cX11_lineLine 165 = .ok (.iastore, 1) := by decide +kernel
theorem dX11_lineLine_166 : decode cX11_lineLine 166 = .ok (.aload_n 0, 1) := by decide +kernel
theorem dX11_lineLine_167 : decode cX11_lineLine 167 = .ok (.getfield 13, 3) := by decide +kernel
theorem dX11_lineLine_170 : decode cX11_lineLine 170 = .ok (.iconst 5, 1) := by decide +kernel
theorem dX11_lineLine_171 : decode cX11_lineLine 171 = .ok (.dup2, 1) := by decide +kernel
theorem dX11_lineLine_172 : decode cX11_lineLine 172 = .ok (.iaload, 1) := by decide +kernel
theorem dX11_lineLine_173 : decode cX11_lineLine 173 = .ok (.iconst 1, 1) := by decide +kernel
theorem dX11_lineLine_174 : decode cX11_lineLine 174 = .ok (.iadd, 1) := by decide +kernel
theorem dX11_lineLine_175 : decode cX11_lineLine 175 = .ok (.iastore, 1) := by decide +kernel
theorem dX11_lineLine_176 : decode cX11_lineLine 176 = .ok (.iconst 1, 1) := by decide +kernel
theorem dX11_lineLine_177 : decode cX11_lineLine 177 = .ok (.ireturn, 1) := by decide +kernel
theorem dX11_span_0 : decode cX11_span 0 = .ok (.aload_n 0, 1) := by decide +kernel
theorem dX11_span_1 : decode cX11_span 1 = .ok (.getfield 13, 3) := by decide +kernel
theorem dX11_span_4 : decode cX11_span 4 = .ok (.iconst 4, 1) := by decide +kernel
theorem dX11_span_5 : decode cX11_span 5 = .ok (.iload_n 2, 1) := by decide +kernel
theorem dX11_span_6 : decode cX11_span 6 = .ok (.iadd, 1) := by decide +kernel
theorem dX11_span_7 : decode cX11_span 7 = .ok (.iaload, 1) := by decide +kernel
theorem dX11_span_8 : decode cX11_span 8 = .ok (.istore 4, 2) := by decide +kernel
theorem dX11_span_10 : decode cX11_span 10 = .ok (.aload_n 0, 1) := by decide +kernel
theorem dX11_span_11 : decode cX11_span 11 = .ok (.iconst 4, 1) := by decide +kernel
theorem dX11_span_12 : decode cX11_span 12 = .ok (.iload 4, 2) := by decide +kernel
theorem dX11_span_14 : decode cX11_span 14 = .ok (.bipush 12, 2) := by decide +kernel
theorem dX11_span_16 : decode cX11_span 16 = .ok (.if_icmp .ge 7, 3) := by decide +kernel
theorem dX11_span_19 : decode cX11_span 19 = .ok (.iconst 1, 1) := by decide +kernel
theorem dX11_span_20 : decode cX11_span 20 = .ok (.goto 4, 3) := by decide +kernel
theorem dX11_span_23 : decode cX11_span 23 = .ok (.iconst 0, 1) := by decide +kernel
theorem dX11_span_24 : decode cX11_span 24 = .ok (.invokevirtual 143, 3) := by decide +kernel
theorem dX11_span_27 : decode cX11_span 27 = .ok (.ifCond .eq 58, 3) := by decide +kernel
theorem dX11_span_30 : decode cX11_span 30 = .ok (.aload_n 0, 1) := by decide +kernel
theorem dX11_span_31 : decode cX11_span 31 = .ok (.aload_n 1, 1) := by decide +kernel
theorem dX11_span_32 : decode cX11_span 32 = .ok (.iconst 3, 1) := by decide +kernel
theorem dX11_span_33 : decode cX11_span 33 = .ok (.iload 4, 2) := by decide +kernel
theorem dX11_span_35 : decode cX11_span 35 = .ok (.imul, 1) := by decide +kernel
theorem dX11_span_36 : decode cX11_span 36 = .ok (.iconst 0, 1) := by decide +kernel
theorem dX11_span_37 : decode cX11_span 37 = .ok (.iload_n 3, 1) := by decide +kernel
theorem dX11_span_38 : decode cX11_span 38 = .ok (.iconst 1, 1) := by decide +kernel
theorem dX11_span_39 : decode cX11_span 39 = .ok (.isub, 1) := by decide +kernel
theorem dX11_span_40 : decode cX11_span 40 = .ok (.invokevirtual 147, 3) := by decide +kernel
theorem dX11_span_43 : decode cX11_span 43 = .ok (.ifCond .eq 42, 3) := by decide +kernel
theorem dX11_span_46 : decode cX11_span 46 = .ok (.aload_n 0, 1) := by decide +kernel
theorem dX11_span_47 : decode cX11_span 47 = .ok (.aload_n 1, 1) := by decide +kernel
theorem dX11_span_48 : decode cX11_span 48 = .ok (.iconst 3, 1) := by decide +kernel
theorem dX11_span_49 : decode cX11_span 49 = .ok (.iload 4, 2) := by decide +kernel
theorem dX11_span_51 : decode cX11_span 51 = .ok (.imul, 1) := by decide +kernel
theorem dX11_span_52 : decode cX11_span 52 = .ok (.iconst 1, 1) := by decide +kernel
theorem dX11_span_53 : decode cX11_span 53 = .ok (.iadd, 1) := by decide +kernel
theorem dX11_span_54 : decode cX11_span 54 = .ok (.iconst 1, 1) := by decide +kernel
theorem dX11_span_55 : decode cX11_span 55 = .ok (.sipush 999, 3) := by decide +kernel
theorem dX11_span_58 : decode cX11_span 58 = .ok (.invokevirtual 147, 3) := by decide +kernel
theorem dX11_span_61 : decode cX11_span 61 = .ok (.ifCond .eq 24, 3) := by decide +kernel
theorem dX11_span_64 : decode cX11_span 64 = .ok (.aload_n 0, 1) := by decide +kernel
theorem dX11_span_65 : decode cX11_span 65 = .ok (.aload_n 1, 1) := by decide +kernel
theorem dX11_span_66 : decode cX11_span 66 = .ok (.iconst 3, 1) := by decide +kernel
theorem dX11_span_67 : decode cX11_span 67 = .ok (.iload 4, 2) := by decide +kernel
theorem dX11_span_69 : decode cX11_span 69 = .ok (.imul, 1) := by decide +kernel
theorem dX11_span_70 : decode cX11_span 70 = .ok (.iconst 2, 1) := by decide +kernel
theorem dX11_span_71 : decode cX11_span 71 = .ok (.iadd, 1) := by decide +kernel
theorem dX11_span_72 : decode cX11_span 72 = .ok (.aload_n 0, 1) := by decide +kernel
theorem dX11_span_73 : decode cX11_span 73 = .ok (.getfield 133, 3) := by decide +kernel
theorem dX11_span_76 : decode cX11_span 76 = .ok (.sipush 999, 3) := by decide +kernel
theorem dX11_span_79 : decode cX11_span 79 = .ok (.invokevirtual 147, 3) := by decide +kernel
theorem dX11_span_82 : decode cX11_span 82 = .ok (.ifCond .ne 5, 3) := by decide +kernel
theorem dX11_span_85 : decode cX11_span 85 = .ok (.iconst 0, 1) := by decide +kernel
theorem dX11_span_86 : decode cX11_span 86 = .ok (.ireturn, 1) := by decide +kernel
theorem dX11_span_87 : decode cX11_span 87 = .ok (.aload_n 0, 1) := by decide +kernel
theorem dX11_span_88 : decode cX11_span 88 = .ok (.getfield 13, 3) := by decide +kernel
theorem dX11_span_91 : decode cX11_span 91 = .ok (.iconst 4, 1) := by decide +kernel
theorem dX11_span_92 : decode cX11_span 92 = .ok (.iload_n 2, 1) := by decide +kernel
theorem dX11_span_93 : decode cX11_span 93 = .ok (.iadd, 1) := by decide +kernel
theorem dX11_span_94 : decode cX11_span 94 = .ok (.dup2, 1) := by decide +kernel
theorem dX11_span_95 : decode cX11_span 95 = .ok (.iaload, 1) := by decide +kernel
theorem dX11_span_96 : decode cX11_span 96 = .ok (.iconst 1, 1) := by decide +kernel
theorem dX11_span_97 : decode cX11_span 97 = .ok (.iadd, 1) := by decide +kernel
theorem dX11_span_98 : decode cX11_span 98 = .ok (.iastore, 1) := by decide +kernel
theorem dX11_span_99 : decode cX11_span 99 = .ok (.iconst 1, 1) := by decide +kernel
theorem dX11_span_100 : decode cX11_span 100 = .ok (.ireturn, 1) := by decide +kernel
theorem dX11_statement_0 : decode cX11_statement 0 = .ok (.aload_n 0, 1) := by decide +kernel
theorem dX11_statement_1 : decode cX11_statement 1 = .ok (.ldc 158, 2) := by decide +kernel
theorem dX11_statement_3 : decode cX11_statement 3 = .ok (.invokevirtual 152, 3) := by decide +kernel
theorem dX11_statement_6 : decode cX11_statement 6 = .ok (.ifCond .eq 39, 3) := by decide +kernel
theorem dX11_statement_9 : decode cX11_statement 9 = .ok (.aload_n 0, 1) := by decide +kernel
theorem dX11_statement_10 : decode cX11_statement 10 = .ok (.iconst 2, 1) := by decide +kernel
theorem dX11_statement_11 : decode cX11_statement 11 = .ok (.aload_n 0, 1) := by decide +kernel
theorem dX11_statement_12 : decode cX11_statement 12 = .ok (.getfield 160, 3) := by decide +kernel
theorem dX11_statement_15 : decode cX11_statement 15 = .ok (.invokevirtual 143, 3) := by decide +kernel
theorem dX11_statement_18 : decode cX11_statement 18 = .ok (.ifCond .eq 13, 3) := by decide +kernel
theorem dX11_statement_21 : decode cX11_statement 21 = .ok (.aload_n 0, 1) := by decide +kernel
theorem dX11_statement_22 : decode cX11_statement 22 = .ok (.iconst 2, 1) := by decide +kernel
theorem dX11_statement_23 : decode cX11_statement 23 = .ok (.bipush 10, 2) := by decide +kernel
theorem dX11_statement_25 : decode cX11_statement 25 = .ok (.invokevirtual 139, 3) := by decide +kernel
theorem dX11_statement_28 : decode cX11_statement 28 = .ok (.ifCond .ne 5, 3) := by decide +kernel
theorem dX11_statement_31 : decode cX11_statement 31 = .ok (.iconst 0, 1) := by decide +kernel
theorem dX11_statement_32 : decode cX11_statement 32 = .ok (.ireturn, 1) := by decide +kernel
theorem dX11_statement_33 : decode cX11_statement 33 = .ok (.aload_n 0, 1) := by decide +kernel
theorem dX11_statement_34 : decode cX11_statement 34 = .ok (.getfield 13, 3) := by decide +kernel
theorem dX11_statement_37 : decode cX11_statement 37 = .ok (.iconst 4, 1) := by decide +kernel
theorem dX11_statement_38 : decode cX11_statement 38 = .ok (.aload_n 0, 1) := by decide +kernel
theorem dX11_statement_39 : decode cX11_statement 39 = .ok (.getfield 133, 3) := by decide +kernel
theorem dX11_statement_42 : decode cX11_statement 42 = .ok (.iastore, 1) := by decide +kernel
theorem dX11_statement_43 : decode cX11_statement 43 = .ok (.iconst 1, 1) := by decide +kernel
theorem dX11_statement_44 : decode cX11_statement 44 = .ok (.ireturn, 1) := by decide +kernel
theorem dX11_statement_45 : decode cX11_statement 45 = .ok (.aload_n 0, 1) := by decide +kernel
theorem dX11_statement_46 : decode cX11_statement 46 = .ok (.ldc 164, 2) := by decide +kernel
theorem dX11_statement_48 : decode cX11_statement 48 = .ok (.invokevirtual 152, 3) := by decide +kernel
theorem dX11_statement_51 : decode cX11_statement 51 = .ok (.ifCond .eq 8, 3) := by decide +kernel
theorem dX11_statement_54 : decode cX11_statement 54 = .ok (.aload_n 0, 1) := by decide +kernel
theorem dX11_statement_55 : decode cX11_statement 55 = .ok (.invokevirtual 166, 3) := by decide +kernel
theorem dX11_statement_58 : decode cX11_statement 58 = .ok (.ireturn, 1) := by decide +kernel
theorem dX11_statement_59 : decode cX11_statement 59 = .ok (.aload_n 0, 1) := by decide +kernel
theorem dX11_statement_60 : decode cX11_statement 60 = .ok (.ldc 170, 2) := by decide +kernel
theorem dX11_statement_62 : decode cX11_statement 62 = .ok (.invokevirtual 152, 3) := by decide +kernel
theorem dX11_statement_65 : decode cX11_statement 65 = .ok (.ifCond .eq 19, 3) := by decide +kernel
theorem dX11_statement_68 : decode cX11_statement 68 = .ok (.aload_n 0, 1) := by decide +kernel
theorem dX11_statement_69 : decode cX11_statement 69 = .ok (.aload_n 0, 1) := by decide +kernel
theorem dX11_statement_70 : decode cX11_statement 70 = .ok (.getfield 28, 3) := by decide +kernel
theorem dX11_statement_73 : decode cX11_statement 73 = .ok (.iconst 2, 1) := by decide +kernel
theorem dX11_statement_74 : decode cX11_statement 74 = .ok (.aload_n 0, 1) := by decide +kernel
theorem dX11_statement_75 : decode cX11_statement 75 = .ok (.getfield 13, 3) := by decide +kernel
theorem dX11_statement_78 : decode cX11_statement 78 = .ok (.iconst 5, 1) := by decide +kernel
theorem dX11_statement_79 : decode cX11_statement 79 = .ok (.iaload, 1) := by decide +kernel
theorem dX11_statement_80 : decode cX11_statement 80 = .ok (.invokevirtual 171, 3) := by decide +kernel
theorem dX11_statement_83 : decode cX11_statement 83 = .ok (.ireturn, 1) := by decide +kernel
theorem dX11_statement_84 : decode cX11_statement 84 = .ok (.aload_n 0, 1) := by decide +kernel
theorem dX11_statement_85 : decode cX11_statement 85 = .ok (.ldc 175, 2) := by decide +kernel
theorem dX11_statement_87 : decode cX11_statement 87 = .ok (.invokevirtual 152, 3) := by decide +kernel
theorem dX11_statement_90 : decode cX11_statement 90 = .ok (.ifCond .eq 21, 3) := by decide +kernel
theorem dX11_statement_93 : decode cX11_statement 93 = .ok (.aload_n 0, 1) := by decide +kernel
theorem dX11_statement_94 : decode cX11_statement 94 = .ok (.aload_n 0, 1) := by decide +kernel
theorem dX11_statement_95 : decode cX11_statement 95 = .ok (.getfield 31, 3) := by decide +kernel
theorem dX11_statement_98 : decode cX11_statement 98 = .ok (.iconst 3, 1) := by decide +kernel
theorem dX11_statement_99 : decode cX11_statement 99 = .ok (.aload_n 0, 1) := by decide +kernel
theorem dX11_statement_100 : decode cX11_statement 100 = .ok (.getfield 13, 3) := by decide +kernel
theorem dX11_statement_103 : decode cX11_statement 103 = .ok (.iconst 4, 1) := by decide +kernel
theorem dX11_statement_104 : decode cX11_statement 104 = .ok (.iaload, 1) := by decide +kernel
theorem dX11_statement_105 : decode cX11_statement 105 = .ok (.invokevirtual 171, 3) := by decide +kernel
theorem dX11_statement_108 : decode cX11_statement 108 = .ok (.goto 8, 3) := by decide +kernel
theorem dX11_statement_111 : decode cX11_statement 111 = .ok (.aload_n 0, 1) := by decide +kernel
theorem dX11_statement_112 : decode cX11_statement 112 = .ok (.iconst 1, 1) := by decide +kernel
theorem dX11_statement_113 : decode cX11_statement 113 = .ok (.invokevirtual 129, 3) := by decide +kernel
theorem dX11_statement_116 : decode cX11_statement 116 = .ok (.ireturn, 1) := by decide +kernel
theorem dX11_closes_0 : decode cX11_closes 0 = .ok (.aload_n 0, 1) := by decide +kernel
theorem dX11_closes_1 : decode cX11_closes 1 = .ok (.iconst 0, 1) := by decide +kernel
theorem dX11_closes_2 : decode cX11_closes 2 = .ok (.putfield 160, 3) := by decide +kernel
theorem dX11_closes_5 : decode cX11_closes 5 = .ok (.aload_n 0, 1) := by decide +kernel
theorem dX11_closes_6 : decode cX11_closes 6 = .ok (.getfield 110, 3) := by decide +kernel
theorem dX11_closes_9 : decode cX11_closes 9 = .ok (.iconst 3, 1) := by decide +kernel
theorem dX11_closes_10 : decode cX11_closes 10 = .ok (.if_icmp .eq 9, 3) := by decide +kernel
theorem dX11_closes_13 : decode cX11_closes 13 = .ok (.aload_n 0, 1) := by decide +kernel
theorem dX11_closes_14 : decode cX11_closes 14 = .ok (.iconst 1, 1) := by decide +kernel
theorem dX11_closes_15 : decode cX11_closes 15 = .ok (.invokevirtual 129, 3) := by decide +kernel
theorem dX11_closes_18 : decode cX11_closes 18 = .ok (.ireturn, 1) := by decide +kernel
theorem dX11_closes_19 : decode cX11_closes 19 = .ok (.aload_n 0, 1) := by decide +kernel
theorem dX11_closes_20 : decode cX11_closes 20 = .ok (.invokevirtual 136, 3) := by decide +kernel
theorem dX11_closes_23 : decode cX11_closes 23 = .ok (.iconst 1, 1) := by decide +kernel
theorem dX11_closes_24 : decode cX11_closes 24 = .ok (.ireturn, 1) := by decide +kernel
theorem dX11_parse_0 : decode cX11_parse 0 = .ok (.aload_n 0, 1) := by decide +kernel
theorem dX11_parse_1 : decode cX11_parse 1 = .ok (.iconst 0, 1) := by decide +kernel
theorem dX11_parse_2 : decode cX11_parse 2 = .ok (.putfield 80, 3) := by decide +kernel
theorem dX11_parse_5 : decode cX11_parse 5 = .ok (.aload_n 0, 1) := by decide +kernel
theorem dX11_parse_6 : decode cX11_parse 6 = .ok (.iload_n 1, 1) := by decide +kernel
theorem dX11_parse_7 : decode cX11_parse 7 = .ok (.iconst 0, 1) := by decide +kernel
theorem dX11_parse_8 : decode cX11_parse 8 = .ok (.aload_n 0, 1) := by decide +kernel
theorem dX11_parse_9 : decode cX11_parse 9 = .ok (.getfield 87, 3) := by decide +kernel
theorem dX11_parse_12 : decode cX11_parse 12 = .ok (.invokestatic 113, 3) := by decide +kernel
theorem dX11_parse_15 : decode cX11_parse 15 = .ok (.ifCond .ne 7, 3) := by decide +kernel
theorem dX11_parse_18 : decode cX11_parse 18 = .ok (.iconst 1, 1) := by decide +kernel
theorem dX11_parse_19 : decode cX11_parse 19 = .ok (.goto 4, 3) := by decide +kernel
theorem dX11_parse_22 : decode cX11_parse 22 = .ok (.iconst 0, 1) := by decide +kernel
theorem dX11_parse_23 : decode cX11_parse 23 = .ok (.iconst 1, 1) := by decide +kernel
theorem dX11_parse_24 : decode cX11_parse 24 = .ok (.invokevirtual 176, 3) := by decide +kernel
theorem dX11_parse_27 : decode cX11_parse 27 = .ok (.ifCond .eq 5, 3) := by decide +kernel
theorem dX11_parse_30 : decode cX11_parse 30 = .ok (.iconst 0, 1) := by decide +kernel
theorem dX11_parse_31 : decode cX11_parse 31 = .ok (.ireturn, 1) := by decide +kernel
theorem dX11_parse_32 : decode cX11_parse 32 = .ok (.aload_n 0, 1) := by decide +kernel
theorem dX11_parse_33 : decode cX11_parse 33 = .ok (.iload_n 1, 1) := by decide +kernel
theorem dX11_parse_34 : decode cX11_parse 34 = .ok (.putfield 94, 3) := by decide +kernel
theorem dX11_parse_37 : decode cX11_parse 37 = .ok (.aload_n 0, 1) := by decide +kernel
theorem dX11_parse_38 : decode cX11_parse 38 = .ok (.iconst 0, 1) := by decide +kernel
theorem dX11_parse_39 : decode cX11_parse 39 = .ok (.putfield 87, 3) := by decide +kernel
theorem dX11_parse_42 : decode cX11_parse 42 = .ok (.aload_n 0, 1) := by decide +kernel
theorem dX11_parse_43 : decode cX11_parse 43 = .ok (.iconst 0, 1) := by decide +kernel
theorem dX11_parse_44 : decode cX11_parse 44 = .ok (.putfield 97, 3) := by decide +kernel
theorem dX11_parse_47 : decode cX11_parse 47 = .ok (.aload_n 0, 1) := by decide +kernel
theorem dX11_parse_48 : decode cX11_parse 48 = .ok (.iconst 0, 1) := by decide +kernel
theorem dX11_parse_49 : decode cX11_parse 49 = .ok (.putfield 126, 3) := by decide +kernel
theorem dX11_parse_52 : decode cX11_parse 52 = .ok (.aload_n 0, 1) := by decide +kernel
theorem dX11_parse_53 : decode cX11_parse 53 = .ok (.iconst (-1), 1) := by decide +kernel
theorem dX11_parse_54 : decode cX11_parse 54 = .ok (.putfield 38, 3) := by decide +kernel
theorem dX11_parse_57 : decode cX11_parse 57 = .ok (.aload_n 0, 1) := by decide +kernel
theorem dX11_parse_58 : decode cX11_parse 58 = .ok (.iconst 1, 1) := by decide +kernel
theorem dX11_parse_59 : decode cX11_parse 59 = .ok (.putfield 160, 3) := by decide +kernel
theorem dX11_parse_62 : decode cX11_parse 62 = .ok (.aload_n 0, 1) := by decide +kernel
theorem dX11_parse_63 : decode cX11_parse 63 = .ok (.invokevirtual 71, 3) := by decide +kernel
theorem dX11_parse_66 : decode cX11_parse 66 = .ok (.aload_n 0, 1) := by decide +kernel
theorem dX11_parse_67 : decode cX11_parse 67 = .ok (.invokevirtual 136, 3) := by decide +kernel
theorem dX11_parse_70 : decode cX11_parse 70 = .ok (.iconst 1, 1) := by decide +kernel
theorem dX11_parse_71 : decode cX11_parse 71 = .ok (.istore_n 2, 1) := by decide +kernel
theorem dX11_parse_72 : decode cX11_parse 72 = .ok (.iload_n 2, 1) := by decide +kernel
theorem dX11_parse_73 : decode cX11_parse 73 = .ok (.ifCond .eq 33, 3) := by decide +kernel
theorem dX11_parse_76 : decode cX11_parse 76 = .ok (.aload_n 0, 1) := by decide +kernel
theorem dX11_parse_77 : decode cX11_parse 77 = .ok (.getfield 110, 3) := by decide +kernel
theorem dX11_parse_80 : decode cX11_parse 80 = .ok (.ifCond .eq 26, 3) := by decide +kernel
theorem dX11_parse_83 : decode cX11_parse 83 = .ok (.aload_n 0, 1) := by decide +kernel
theorem dX11_parse_84 : decode cX11_parse 84 = .ok (.invokevirtual 180, 3) := by decide +kernel
theorem dX11_parse_87 : decode cX11_parse 87 = .ok (.ifCond .eq 14, 3) := by decide +kernel
theorem dX11_parse_90 : decode cX11_parse 90 = .ok (.aload_n 0, 1) := by decide +kernel
theorem dX11_parse_91 : decode cX11_parse 91 = .ok (.invokevirtual 183, 3) := by decide +kernel
theorem dX11_parse_94 : decode cX11_parse 94 = .ok (.ifCond .eq 7, 3) := by decide +kernel
theorem dX11_parse_97 : decode cX11_parse 97 = .ok (.iconst 1, 1) := by decide +kernel
theorem dX11_parse_98 : decode cX11_parse 98 = .ok (.goto 4, 3) := by decide +kernel
theorem dX11_parse_101 : decode cX11_parse 101 = .ok (.iconst 0, 1) := by decide +kernel
theorem dX11_parse_102 : decode cX11_parse 102 = .ok (.istore_n 2, 1) := by decide +kernel
theorem dX11_parse_103 : decode cX11_parse 103 = .ok (.goto (-31), 3) := by decide +kernel
theorem dX11_parse_106 : decode cX11_parse 106 = .ok (.iload_n 2, 1) := by decide +kernel
theorem dX11_parse_107 : decode cX11_parse 107 = .ok (.ifCond .ne 8, 3) := by decide +kernel
theorem dX11_parse_110 : decode cX11_parse 110 = .ok (.aload_n 0, 1) := by decide +kernel
theorem dX11_parse_111 : decode cX11_parse 111 = .ok (.getfield 126, 3) := by decide +kernel
theorem dX11_parse_114 : decode cX11_parse 114 = .ok (.ireturn, 1) := by decide +kernel
theorem dX11_parse_115 : decode cX11_parse 115 = .ok (.aload_n 0, 1) := by decide +kernel
theorem dX11_parse_116 : decode cX11_parse 116 = .ok (.invokevirtual 74, 3) := by decide +kernel
theorem dX11_parse_119 : decode cX11_parse 119 = .ok (.aload_n 0, 1) := by decide +kernel
theorem dX11_parse_120 : decode cX11_parse 120 = .ok (.invokevirtual 77, 3) := by decide +kernel
theorem dX11_parse_123 : decode cX11_parse 123 = .ok (.iconst 0, 1) := by decide +kernel
theorem dX11_parse_124 : decode cX11_parse 124 = .ok (.ireturn, 1) := by decide +kernel
theorem dX11_errorPosition_0 : decode cX11_errorPosition 0 = .ok (.aload_n 0, 1) := by decide +kernel
theorem dX11_errorPosition_1 : decode cX11_errorPosition 1 = .ok (.iconst 0, 1) := by decide +kernel
theorem dX11_errorPosition_2 : decode cX11_errorPosition 2 = .ok (.putfield 80, 3) := by decide +kernel
theorem dX11_errorPosition_5 : decode cX11_errorPosition 5 = .ok (.aload_n 0, 1) := by decide +kernel
theorem dX11_errorPosition_6 : decode cX11_errorPosition 6 = .ok (.getfield 38, 3) := by decide +kernel
theorem dX11_errorPosition_9 : decode cX11_errorPosition 9 = .ok (.ireturn, 1) := by decide +kernel
theorem dX11_begins_0 : decode cX11_begins 0 = .ok (.iconst 0, 1) := by decide +kernel
theorem dX11_begins_1 : decode cX11_begins 1 = .ok (.istore_n 1, 1) := by decide +kernel
theorem dX11_begins_2 : decode cX11_begins 2 = .ok (.iload_n 1, 1) := by decide +kernel
theorem dX11_begins_3 : decode cX11_begins 3 = .ok (.sipush 514, 3) := by decide +kernel
theorem dX11_begins_6 : decode cX11_begins 6 = .ok (.if_icmp .ge 16, 3) := by decide +kernel
theorem dX11_begins_9 : decode cX11_begins 9 = .ok (.aload_n 0, 1) := by decide +kernel
theorem dX11_begins_10 : decode cX11_begins 10 = .ok (.getfield 7, 3) := by decide +kernel
theorem dX11_begins_13 : decode cX11_begins 13 = .ok (.iload_n 1, 1) := by decide +kernel
theorem dX11_begins_14 : decode cX11_begins 14 = .ok (.iconst 0, 1) := by decide +kernel
theorem dX11_begins_15 : decode cX11_begins 15 = .ok (.iastore, 1) := by decide +kernel
theorem dX11_begins_16 : decode cX11_begins 16 = .ok (.iinc 1 1, 3) := by decide +kernel
theorem dX11_begins_19 : decode cX11_begins 19 = .ok (.goto (-17), 3) := by decide +kernel
theorem dX11_begins_22 : decode cX11_begins 22 = .ok (.iconst 0, 1) := by decide +kernel
theorem dX11_begins_23 : decode cX11_begins 23 = .ok (.istore_n 1, 1) := by decide +kernel
theorem dX11_begins_24 : decode cX11_begins 24 = .ok (.iload_n 1, 1) := by decide +kernel
theorem dX11_begins_25 : decode cX11_begins 25 = .ok (.aload_n 0, 1) := by decide +kernel
theorem dX11_begins_26 : decode cX11_begins 26 = .ok (.getfield 13, 3) := by decide +kernel
theorem dX11_begins_29 : decode cX11_begins 29 = .ok (.iconst 0, 1) := by decide +kernel
theorem dX11_begins_30 : decode cX11_begins 30 = .ok (.iaload, 1) := by decide +kernel
theorem dX11_begins_31 : decode cX11_begins 31 = .ok (.if_icmp .ge 20, 3) := by decide +kernel
theorem dX11_begins_34 : decode cX11_begins 34 = .ok (.aload_n 0, 1) := by decide +kernel
theorem dX11_begins_35 : decode cX11_begins 35 = .ok (.getfield 7, 3) := by decide +kernel
theorem dX11_begins_38 : decode cX11_begins 38 = .ok (.iconst 4, 1) := by decide +kernel
theorem dX11_begins_39 : decode cX11_begins 39 = .ok (.iload_n 1, 1) := by decide +kernel
theorem dX11_begins_40 : decode cX11_begins 40 = .ok (.iadd, 1) := by decide +kernel
theorem dX11_begins_41 : decode cX11_begins 41 = .ok (.iconst 1, 1) := by decide +kernel
theorem dX11_begins_42 : decode cX11_begins 42 = .ok (.iload_n 1, 1) := by decide +kernel
theorem dX11_begins_43 : decode cX11_begins 43 = .ok (.ishl, 1) := by decide +kernel
theorem dX11_begins_44 : decode cX11_begins 44 = .ok (.iastore, 1) := by decide +kernel
theorem dX11_begins_45 : decode cX11_begins 45 = .ok (.iinc 1 1, 3) := by decide +kernel
theorem dX11_begins_48 : decode cX11_begins 48 = .ok (.goto (-24), 3) := by decide +kernel
theorem dX11_begins_51 : decode cX11_begins 51 = .ok (.aload_n 0, 1) := by decide +kernel
theorem dX11_begins_52 : decode cX11_begins 52 = .ok (.iconst 0, 1) := by decide +kernel
theorem dX11_begins_53 : decode cX11_begins 53 = .ok (.putfield 186, 3) := by decide +kernel
theorem dX11_begins_56 : decode cX11_begins 56 = .ok (.aload_n 0, 1) := by decide +kernel
theorem dX11_begins_57 : decode cX11_begins 57 = .ok (.getfield 67, 3) := by decide +kernel
theorem dX11_begins_60 : decode cX11_begins 60 = .ok (.iconst 0, 1) := by decide +kernel
theorem dX11_begins_61 : decode cX11_begins 61 = .ok (.iconst 0, 1) := by decide +kernel
theorem dX11_begins_62 : decode cX11_begins 62 = .ok (.bastore, 1) := by decide +kernel
theorem dX11_begins_63 : decode cX11_begins 63 = .ok (.aload_n 0, 1) := by decide +kernel
theorem dX11_begins_64 : decode cX11_begins 64 = .ok (.getfield 67, 3) := by decide +kernel
theorem dX11_begins_67 : decode cX11_begins 67 = .ok (.iconst 1, 1) := by decide +kernel
theorem dX11_begins_68 : decode cX11_begins 68 = .ok (.iconst 0, 1) := by decide +kernel
theorem dX11_begins_69 : decode cX11_begins 69 = .ok (.bastore, 1) := by decide +kernel
theorem dX11_begins_70 : decode cX11_begins 70 = .ok (.return_, 1) := by decide +kernel
theorem dX11_no_0 : decode cX11_no 0 = .ok (.aload_n 0, 1) := by decide +kernel
theorem dX11_no_1 : decode cX11_no 1 = .ok (.iload_n 1, 1) := by decide +kernel
theorem dX11_no_2 : decode cX11_no 2 = .ok (.iconst 0, 1) := by decide +kernel
theorem dX11_no_3 : decode cX11_no 3 = .ok (.iload_n 2, 1) := by decide +kernel
theorem dX11_no_4 : decode cX11_no 4 = .ok (.iconst 1, 1) := by decide +kernel
theorem dX11_no_5 : decode cX11_no 5 = .ok (.isub, 1) := by decide +kernel
theorem dX11_no_6 : decode cX11_no 6 = .ok (.invokestatic 113, 3) := by decide +kernel
theorem dX11_no_9 : decode cX11_no 9 = .ok (.ifCond .ne 7, 3) := by decide +kernel
theorem dX11_no_12 : decode cX11_no 12 = .ok (.iconst 1, 1) := by decide +kernel
theorem dX11_no_13 : decode cX11_no 13 = .ok (.goto 4, 3) := by decide +kernel
theorem dX11_no_16 : decode cX11_no 16 = .ok (.iconst 0, 1) := by decide +kernel
theorem dX11_no_17 : decode cX11_no 17 = .ok (.iconst 1, 1) := by decide +kernel
theorem dX11_no_18 : decode cX11_no 18 = .ok (.invokevirtual 176, 3) := by decide +kernel
theorem dX11_no_21 : decode cX11_no 21 = .ok (.ireturn, 1) := by decide +kernel
theorem dX11_noLine_0 : decode cX11_noLine 0 = .ok (.aload_n 0, 1) := by decide +kernel
theorem dX11_noLine_1 : decode cX11_noLine 1 = .ok (.iconst 0, 1) := by decide +kernel
theorem dX11_noLine_2 : decode cX11_noLine 2 = .ok (.putfield 80, 3) := by decide +kernel
theorem dX11_noLine_5 : decode cX11_noLine 5 = .ok (.aload_n 0, 1) := by decide +kernel
theorem dX11_noLine_6 : decode cX11_noLine 6 = .ok (.iload_n 1, 1) := by decide +kernel
theorem dX11_noLine_7 : decode cX11_noLine 7 = .ok (.aload_n 0, 1) := by decide +kernel
theorem dX11_noLine_8 : decode cX11_noLine 8 = .ok (.getfield 13, 3) := by decide +kernel
theorem dX11_noLine_11 : decode cX11_noLine 11 = .ok (.iconst 1, 1) := by decide +kernel
theorem dX11_noLine_12 : decode cX11_noLine 12 = .ok (.iaload, 1) := by decide +kernel
theorem dX11_noLine_13 : decode cX11_noLine 13 = .ok (.invokevirtual 189, 3) := by decide +kernel
theorem dX11_noLine_16 : decode cX11_noLine 16 = .ok (.ireturn, 1) := by decide +kernel
theorem dX11_noPerson_0 : decode cX11_noPerson 0 = .ok (.aload_n 0, 1) := by decide +kernel
theorem dX11_noPerson_1 : decode cX11_noPerson 1 = .ok (.iconst 0, 1) := by decide +kernel
theorem dX11_noPerson_2 : decode cX11_noPerson 2 = .ok (.putfield 80, 3) := by decide +kernel
theorem dX11_noPerson_5 : decode cX11_noPerson 5 = .ok (.aload_n 0, 1) := by decide +kernel
theorem dX11_noPerson_6 : decode cX11_noPerson 6 = .ok (.iload_n 1, 1) := by decide +kernel
theorem dX11_noPerson_7 : decode cX11_noPerson 7 = .ok (.aload_n 0, 1) := by decide +kernel
theorem dX11_noPerson_8 : decode cX11_noPerson 8 = .ok (.getfield 13, 3) := by decide +kernel
theorem dX11_noPerson_11 : decode cX11_noPerson 11 = .ok (.iconst 0, 1) := by decide +kernel
theorem dX11_noPerson_12 : decode cX11_noPerson 12 = .ok (.iaload, 1) := by decide +kernel
theorem dX11_noPerson_13 : decode cX11_noPerson 13 = .ok (.invokevirtual 189, 3) := by decide +kernel
theorem dX11_noPerson_16 : decode cX11_noPerson 16 = .ok (.ireturn, 1) := by decide +kernel
theorem dX11_isIn_0 : decode cX11_isIn 0 = .ok (.iload_n 0, 1) := by decide +kernel
theorem dX11_isIn_1 : decode cX11_isIn 1 = .ok (.iload_n 1, 1) := by decide +kernel
theorem dX11_isIn_2 : decode cX11_isIn 2 = .ok (.ishr, 1) := by decide +kernel
theorem dX11_isIn_3 : decode cX11_isIn 3 = .ok (.iconst 1, 1) := by decide +kernel
theorem dX11_isIn_4 : decode cX11_isIn 4 = .ok (.iand, 1) := by decide +kernel
theorem dX11_isIn_5 : decode cX11_isIn 5 = .ok (.iconst 1, 1) := by decide +kernel
theorem dX11_isIn_6 : decode cX11_isIn 6 = .ok (.if_icmp .ne 7, 3) := by decide +kernel
theorem dX11_isIn_9 : decode cX11_isIn 9 = .ok (.iconst 1, 1) := by decide +kernel
theorem dX11_isIn_10 : decode cX11_isIn 10 = .ok (.goto 4, 3) := by decide +kernel
theorem dX11_isIn_13 : decode cX11_isIn 13 = .ok (.iconst 0, 1) := by decide +kernel
theorem dX11_isIn_14 : decode cX11_isIn 14 = .ok (.ireturn, 1) := by decide +kernel
theorem dX11_many_0 : decode cX11_many 0 = .ok (.iconst 0, 1) := by decide +kernel
theorem dX11_many_1 : decode cX11_many 1 = .ok (.istore_n 1, 1) := by decide +kernel
theorem dX11_many_2 : decode cX11_many 2 = .ok (.iload_n 0, 1) := by decide +kernel
theorem dX11_many_3 : decode cX11_many 3 = .ok (.istore_n 2, 1) := by decide +kernel
theorem dX11_many_4 : decode cX11_many 4 = .ok (.iload_n 2, 1) := by decide +kernel
theorem dX11_many_5 : decode cX11_many 5 = .ok (.ifCond .eq 15, 3) := by decide +kernel
theorem dX11_many_8 : decode cX11_many 8 = .ok (.iinc 1 1, 3) := by decide +kernel
theorem dX11_many_11 : decode cX11_many 11 = .ok (.iload_n 2, 1) := by decide +kernel
theorem dX11_many_12 : decode cX11_many 12 = .ok (.iload_n 2, 1) := by decide +kernel
theorem dX11_many_13 : decode cX11_many 13 = .ok (.iconst 1, 1) := by decide +kernel
theorem dX11_many_14 : decode cX11_many 14 = .ok (.isub, 1) := by decide +kernel
theorem dX11_many_15 : decode cX11_many 15 = .ok (.iand, 1) := by decide +kernel
theorem dX11_many_16 : decode cX11_many 16 = .ok (.istore_n 2, 1) := by decide +kernel
theorem dX11_many_17 : decode cX11_many 17 = .ok (.goto (-13), 3) := by decide +kernel
theorem dX11_many_20 : decode cX11_many 20 = .ok (.iload_n 1, 1) := by decide +kernel
theorem dX11_many_21 : decode cX11_many 21 = .ok (.ireturn, 1) := by decide +kernel
theorem dX11_all_0 : decode cX11_all 0 = .ok (.iconst 1, 1) := by decide +kernel
theorem dX11_all_1 : decode cX11_all 1 = .ok (.aload_n 0, 1) := by decide +kernel
theorem dX11_all_2 : decode cX11_all 2 = .ok (.getfield 13, 3) := by decide +kernel
theorem dX11_all_5 : decode cX11_all 5 = .ok (.iconst 0, 1) := by decide +kernel
theorem dX11_all_6 : decode cX11_all 6 = .ok (.iaload, 1) := by decide +kernel
theorem dX11_all_7 : decode cX11_all 7 = .ok (.ishl, 1) := by decide +kernel
theorem dX11_all_8 : decode cX11_all 8 = .ok (.iconst 1, 1) := by decide +kernel
theorem dX11_all_9 : decode cX11_all 9 = .ok (.isub, 1) := by decide +kernel
theorem dX11_all_10 : decode cX11_all 10 = .ok (.ireturn, 1) := by decide +kernel
theorem dX11_size_0 : decode cX11_size 0 = .ok (.aload_n 0, 1) := by decide +kernel
theorem dX11_size_1 : decode cX11_size 1 = .ok (.iconst 0, 1) := by decide +kernel
theorem dX11_size_2 : decode cX11_size 2 = .ok (.putfield 80, 3) := by decide +kernel
theorem dX11_size_5 : decode cX11_size 5 = .ok (.aload_n 0, 1) := by decide +kernel
theorem dX11_size_6 : decode cX11_size 6 = .ok (.iload_n 1, 1) := by decide +kernel
theorem dX11_size_7 : decode cX11_size 7 = .ok (.iconst 0, 1) := by decide +kernel
theorem dX11_size_8 : decode cX11_size 8 = .ok (.iconst 5, 1) := by decide +kernel
theorem dX11_size_9 : decode cX11_size 9 = .ok (.invokestatic 113, 3) := by decide +kernel
theorem dX11_size_12 : decode cX11_size 12 = .ok (.ifCond .ne 7, 3) := by decide +kernel
theorem dX11_size_15 : decode cX11_size 15 = .ok (.iconst 1, 1) := by decide +kernel
theorem dX11_size_16 : decode cX11_size 16 = .ok (.goto 4, 3) := by decide +kernel
theorem dX11_size_19 : decode cX11_size 19 = .ok (.iconst 0, 1) := by decide +kernel
theorem dX11_size_20 : decode cX11_size 20 = .ok (.iconst 1, 1) := by decide +kernel
theorem dX11_size_21 : decode cX11_size 21 = .ok (.invokevirtual 176, 3) := by decide +kernel
theorem dX11_size_24 : decode cX11_size 24 = .ok (.ifCond .eq 5, 3) := by decide +kernel
theorem dX11_size_27 : decode cX11_size 27 = .ok (.iconst 0, 1) := by decide +kernel
theorem dX11_size_28 : decode cX11_size 28 = .ok (.ireturn, 1) := by decide +kernel
theorem dX11_size_29 : decode cX11_size 29 = .ok (.iload_n 1, 1) := by decide +kernel
theorem dX11_size_30 : decode cX11_size 30 = .ok (.tableswitch 72 0 4 #[34, 41, 48, 55, 62], 34) := by decide +kernel
theorem dX11_size_64 : decode cX11_size 64 = .ok (.aload_n 0, 1) := by decide +kernel
theorem dX11_size_65 : decode cX11_size 65 = .ok (.getfield 13, 3) := by decide +kernel
theorem dX11_size_68 : decode cX11_size 68 = .ok (.iconst 0, 1) := by decide +kernel
theorem dX11_size_69 : decode cX11_size 69 = .ok (.iaload, 1) := by decide +kernel
theorem dX11_size_70 : decode cX11_size 70 = .ok (.ireturn, 1) := by decide +kernel
theorem dX11_size_71 : decode cX11_size 71 = .ok (.aload_n 0, 1) := by decide +kernel
theorem dX11_size_72 : decode cX11_size 72 = .ok (.getfield 13, 3) := by decide +kernel
theorem dX11_size_75 : decode cX11_size 75 = .ok (.iconst 1, 1) := by decide +kernel
theorem dX11_size_76 : decode cX11_size 76 = .ok (.iaload, 1) := by decide +kernel
theorem dX11_size_77 : decode cX11_size 77 = .ok (.ireturn, 1) := by decide +kernel
theorem dX11_size_78 : decode cX11_size 78 = .ok (.aload_n 0, 1) := by decide +kernel
theorem dX11_size_79 : decode cX11_size 79 = .ok (.getfield 7, 3) := by decide +kernel
theorem dX11_size_82 : decode cX11_size 82 = .ok (.iconst 0, 1) := by decide +kernel
theorem dX11_size_83 : decode cX11_size 83 = .ok (.iaload, 1) := by decide +kernel
theorem dX11_size_84 : decode cX11_size 84 = .ok (.ireturn, 1) := by decide +kernel
theorem dX11_size_85 : decode cX11_size 85 = .ok (.aload_n 0, 1) := by decide +kernel
theorem dX11_size_86 : decode cX11_size 86 = .ok (.getfield 7, 3) := by decide +kernel
theorem dX11_size_89 : decode cX11_size 89 = .ok (.iconst 1, 1) := by decide +kernel
theorem dX11_size_90 : decode cX11_size 90 = .ok (.iaload, 1) := by decide +kernel
theorem dX11_size_91 : decode cX11_size 91 = .ok (.ireturn, 1) := by decide +kernel
theorem dX11_size_92 : decode cX11_size 92 = .ok (.aload_n 0, 1) := by decide +kernel
theorem dX11_size_93 : decode cX11_size 93 = .ok (.getfield 7, 3) := by decide +kernel
theorem dX11_size_96 : decode cX11_size 96 = .ok (.iconst 2, 1) := by decide +kernel
theorem dX11_size_97 : decode cX11_size 97 = .ok (.iaload, 1) := by decide +kernel
theorem dX11_size_98 : decode cX11_size 98 = .ok (.invokestatic 192, 3) := by decide +kernel
theorem dX11_size_101 : decode cX11_size 101 = .ok (.ireturn, 1) := by decide +kernel
theorem dX11_size_102 : decode cX11_size 102 = .ok (.aload_n 0, 1) := by decide +kernel
theorem dX11_size_103 : decode cX11_size 103 = .ok (.getfield 7, 3) := by decide +kernel
theorem dX11_size_106 : decode cX11_size 106 = .ok (.iconst 3, 1) := by decide +kernel
theorem dX11_size_107 : decode cX11_size 107 = .ok (.iaload, 1) := by decide +kernel
theorem dX11_size_108 : decode cX11_size 108 = .ok (.invokestatic 192, 3) := by decide +kernel
theorem dX11_size_111 : decode cX11_size 111 = .ok (.ireturn, 1) := by decide +kernel
theorem dX11_brokenOf_0 : decode cX11_brokenOf 0 = .ok (.iconst 0, 1) := by decide +kernel
theorem dX11_brokenOf_1 : decode cX11_brokenOf 1 = .ok (.istore_n 2, 1) := by decide +kernel
theorem dX11_brokenOf_2 : decode cX11_brokenOf 2 = .ok (.iconst 0, 1) := by decide +kernel
theorem dX11_brokenOf_3 : decode cX11_brokenOf 3 = .ok (.istore_n 3, 1) := by decide +kernel
theorem dX11_brokenOf_4 : decode cX11_brokenOf 4 = .ok (.iload_n 3, 1) := by decide +kernel
theorem dX11_brokenOf_5 : decode cX11_brokenOf 5 = .ok (.aload_n 0, 1) := by decide +kernel
theorem dX11_brokenOf_6 : decode cX11_brokenOf 6 = .ok (.getfield 13, 3) := by decide +kernel
theorem dX11_brokenOf_9 : decode cX11_brokenOf 9 = .ok (.iconst 2, 1) := by decide +kernel
theorem dX11_brokenOf_10 : decode cX11_brokenOf 10 = .ok (.iaload, 1) := by decide +kernel
theorem dX11_brokenOf_11 : decode cX11_brokenOf 11 = .ok (.if_icmp .ge 29, 3) := by decide +kernel
theorem dX11_brokenOf_14 : decode cX11_brokenOf 14 = .ok (.iload_n 2, 1) := by decide +kernel
theorem dX11_brokenOf_15 : decode cX11_brokenOf 15 = .ok (.aload_n 0, 1) := by decide +kernel
theorem dX11_brokenOf_16 : decode cX11_brokenOf 16 = .ok (.getfield 28, 3) := by decide +kernel
theorem dX11_brokenOf_19 : decode cX11_brokenOf 19 = .ok (.iconst 3, 1) := by decide +kernel
theorem dX11_brokenOf_20 : decode cX11_brokenOf 20 = .ok (.iload_n 3, 1) := by decide +kernel
theorem dX11_brokenOf_21 : decode cX11_brokenOf 21 = .ok (.imul, 1) := by decide +kernel
theorem dX11_brokenOf_22 : decode cX11_brokenOf 22 = .ok (.iaload, 1) := by decide +kernel
theorem dX11_brokenOf_23 : decode cX11_brokenOf 23 = .ok (.iload_n 1, 1) := by decide +kernel
theorem dX11_brokenOf_24 : decode cX11_brokenOf 24 = .ok (.if_icmp .ne 7, 3) := by decide +kernel
theorem dX11_brokenOf_27 : decode cX11_brokenOf 27 = .ok (.iconst 1, 1) := by decide +kernel
theorem dX11_brokenOf_28 : decode cX11_brokenOf 28 = .ok (.goto 4, 3) := by decide +kernel
theorem dX11_brokenOf_31 : decode cX11_brokenOf 31 = .ok (.iconst 0, 1) := by decide +kernel
theorem dX11_brokenOf_32 : decode cX11_brokenOf 32 = .ok (.iadd, 1) := by decide +kernel
theorem dX11_brokenOf_33 : decode cX11_brokenOf 33 = .ok (.istore_n 2, 1) := by decide +kernel
theorem dX11_brokenOf_34 : decode cX11_brokenOf 34 = .ok (.iinc 3 1, 3) := by decide +kernel
theorem dX11_brokenOf_37 : decode cX11_brokenOf 37 = .ok (.goto (-33), 3) := by decide +kernel
theorem dX11_brokenOf_40 : decode cX11_brokenOf 40 = .ok (.iload_n 2, 1) := by decide +kernel
theorem dX11_brokenOf_41 : decode cX11_brokenOf 41 = .ok (.ireturn, 1) := by decide +kernel
theorem dX11_line_0 : decode cX11_line 0 = .ok (.aload_n 0, 1) := by decide +kernel
theorem dX11_line_1 : decode cX11_line 1 = .ok (.iload_n 1, 1) := by decide +kernel
theorem dX11_line_2 : decode cX11_line 2 = .ok (.invokevirtual 195, 3) := by decide +kernel
theorem dX11_line_5 : decode cX11_line 5 = .ok (.ifCond .ne 26, 3) := by decide +kernel
theorem dX11_line_8 : decode cX11_line 8 = .ok (.aload_n 0, 1) := by decide +kernel
theorem dX11_line_9 : decode cX11_line 9 = .ok (.iload_n 2, 1) := by decide +kernel
theorem dX11_line_10 : decode cX11_line 10 = .ok (.iconst 0, 1) := by decide +kernel
theorem dX11_line_11 : decode cX11_line 11 = .ok (.bipush 6, 2) := by decide +kernel
theorem dX11_line_13 : decode cX11_line 13 = .ok (.invokestatic 113, 3) := by decide +kernel
theorem dX11_line_16 : decode cX11_line 16 = .ok (.ifCond .ne 7, 3) := by decide +kernel
theorem dX11_line_19 : decode cX11_line 19 = .ok (.iconst 1, 1) := by decide +kernel
theorem dX11_line_20 : decode cX11_line 20 = .ok (.goto 4, 3) := by decide +kernel
theorem dX11_line_23 : decode cX11_line 23 = .ok (.iconst 0, 1) := by decide +kernel
theorem dX11_line_24 : decode cX11_line 24 = .ok (.iconst 2, 1) := by decide +kernel
theorem dX11_line_25 : decode cX11_line 25 = .ok (.invokevirtual 176, 3) := by decide +kernel
theorem dX11_line_28 : decode cX11_line 28 = .ok (.ifCond .eq 5, 3) := by decide +kernel
theorem dX11_line_31 : decode cX11_line 31 = .ok (.iconst 0, 1) := by decide +kernel
theorem dX11_line_32 : decode cX11_line 32 = .ok (.ireturn, 1) := by decide +kernel
theorem dX11_line_33 : decode cX11_line 33 = .ok (.iload_n 2, 1) := by decide +kernel
theorem dX11_line_34 : decode cX11_line 34 = .ok (.tableswitch 88 0 5 #[38, 45, 52, 59, 66, 77], 38) := by decide +kernel
theorem dX11_line_72 : decode cX11_line 72 = .ok (.aload_n 0, 1) := by decide +kernel
theorem dX11_line_73 : decode cX11_line 73 = .ok (.getfield 16, 3) := by decide +kernel
theorem dX11_line_76 : decode cX11_line 76 = .ok (.iload_n 1, 1) := by decide +kernel
theorem dX11_line_77 : decode cX11_line 77 = .ok (.iaload, 1) := by decide +kernel
theorem dX11_line_78 : decode cX11_line 78 = .ok (.ireturn, 1) := by decide +kernel
theorem dX11_line_79 : decode cX11_line 79 = .ok (.aload_n 0, 1) := by decide +kernel
theorem dX11_line_80 : decode cX11_line 80 = .ok (.getfield 19, 3) := by decide +kernel
theorem dX11_line_83 : decode cX11_line 83 = .ok (.iload_n 1, 1) := by decide +kernel
theorem dX11_line_84 : decode cX11_line 84 = .ok (.iaload, 1) := by decide +kernel
theorem dX11_line_85 : decode cX11_line 85 = .ok (.ireturn, 1) := by decide +kernel
theorem dX11_line_86 : decode cX11_line 86 = .ok (.aload_n 0, 1) := by decide +kernel
theorem dX11_line_87 : decode cX11_line 87 = .ok (.getfield 22, 3) := by decide +kernel
theorem dX11_line_90 : decode cX11_line 90 = .ok (.iload_n 1, 1) := by decide +kernel
theorem dX11_line_91 : decode cX11_line 91 = .ok (.iaload, 1) := by decide +kernel
theorem dX11_line_92 : decode cX11_line 92 = .ok (.ireturn, 1) := by decide +kernel
theorem dX11_line_93 : decode cX11_line 93 = .ok (.aload_n 0, 1) := by decide +kernel
theorem dX11_line_94 : decode cX11_line 94 = .ok (.getfield 25, 3) := by decide +kernel
theorem dX11_line_97 : decode cX11_line 97 = .ok (.iload_n 1, 1) := by decide +kernel
theorem dX11_line_98 : decode cX11_line 98 = .ok (.iaload, 1) := by decide +kernel
theorem dX11_line_99 : decode cX11_line 99 = .ok (.ireturn, 1) := by decide +kernel
theorem dX11_line_100 : decode cX11_line 100 = .ok (.aload_n 0, 1) := by decide +kernel
theorem dX11_line_101 : decode cX11_line 101 = .ok (.getfield 7, 3) := by decide +kernel
theorem dX11_line_104 : decode cX11_line 104 = .ok (.iconst 3, 1) := by decide +kernel
theorem dX11_line_105 : decode cX11_line 105 = .ok (.iaload, 1) := by decide +kernel
theorem dX11_line_106 : decode cX11_line 106 = .ok (.iload_n 1, 1) := by decide +kernel
theorem dX11_line_107 : decode cX11_line 107 = .ok (.ishr, 1) := by decide +kernel
theorem dX11_line_108 : decode cX11_line 108 = .ok (.iconst 1, 1) := by decide +kernel
theorem dX11_line_109 : decode cX11_line 109 = .ok (.iand, 1) := by decide +kernel
theorem dX11_line_110 : decode cX11_line 110 = .ok (.ireturn, 1) := by decide +kernel
theorem dX11_line_111 : decode cX11_line 111 = .ok (.aload_n 0, 1) := by decide +kernel
theorem dX11_line_112 : decode cX11_line 112 = .ok (.getfield 7, 3) := by decide +kernel
theorem dX11_line_115 : decode cX11_line 115 = .ok (.iconst 2, 1) := by decide +kernel
theorem dX11_line_116 : decode cX11_line 116 = .ok (.iaload, 1) := by decide +kernel
theorem dX11_line_117 : decode cX11_line 117 = .ok (.iload_n 1, 1) := by decide +kernel
theorem dX11_line_118 : decode cX11_line 118 = .ok (.ishr, 1) := by decide +kernel
theorem dX11_line_119 : decode cX11_line 119 = .ok (.iconst 1, 1) := by decide +kernel
theorem dX11_line_120 : decode cX11_line 120 = .ok (.iand, 1) := by decide +kernel
theorem dX11_line_121 : decode cX11_line 121 = .ok (.ireturn, 1) := by decide +kernel
theorem dX11_line_122 : decode cX11_line 122 = .ok (.aload_n 0, 1) := by decide +kernel
theorem dX11_line_123 : decode cX11_line 123 = .ok (.iload_n 1, 1) := by decide +kernel
theorem dX11_line_124 : decode cX11_line 124 = .ok (.invokevirtual 198, 3) := by decide +kernel
theorem dX11_line_127 : decode cX11_line 127 = .ok (.ireturn, 1) := by decide +kernel
theorem dX11_includes_0 : decode cX11_includes 0 = .ok (.iconst 0, 1) := by decide +kernel
theorem dX11_includes_1 : decode cX11_includes 1 = .ok (.istore 4, 2) := by decide +kernel
theorem dX11_includes_3 : decode cX11_includes 3 = .ok (.iload 4, 2) := by decide +kernel
theorem dX11_includes_5 : decode cX11_includes 5 = .ok (.iload_n 1, 1) := by decide +kernel
theorem dX11_includes_6 : decode cX11_includes 6 = .ok (.if_icmp .ge 44, 3) := by decide +kernel
theorem dX11_includes_9 : decode cX11_includes 9 = .ok (.aload_n 0, 1) := by decide +kernel
theorem dX11_includes_10 : decode cX11_includes 10 = .ok (.iconst 3, 1) := by decide +kernel
theorem dX11_includes_11 : decode cX11_includes 11 = .ok (.iload 4, 2) := by decide +kernel
theorem dX11_includes_13 : decode cX11_includes 13 = .ok (.imul, 1) := by decide +kernel
theorem dX11_includes_14 : decode cX11_includes 14 = .ok (.iaload, 1) := by decide +kernel
theorem dX11_includes_15 : decode cX11_includes 15 = .ok (.iload_n 2, 1) := by decide +kernel
theorem dX11_includes_16 : decode cX11_includes 16 = .ok (.if_icmp .ne 28, 3) := by decide +kernel
theorem dX11_includes_19 : decode cX11_includes 19 = .ok (.iload_n 3, 1) := by decide +kernel
theorem dX11_includes_20 : decode cX11_includes 20 = .ok (.aload_n 0, 1) := by decide +kernel
theorem dX11_includes_21 : decode cX11_includes 21 = .ok (.iconst 3, 1) := by decide +kernel
theorem dX11_includes_22 : decode cX11_includes 22 = .ok (.iload 4, 2) := by decide +kernel
theorem dX11_includes_24 : decode cX11_includes 24 = .ok (.imul, 1) := by decide +kernel
theorem dX11_includes_25 : decode cX11_includes 25 = .ok (.iconst 1, 1) := by decide +kernel
theorem dX11_includes_26 : decode cX11_includes 26 = .ok (.iadd, 1) := by decide +kernel
theorem dX11_includes_27 : decode cX11_includes 27 = .ok (.iaload, 1) := by decide +kernel
theorem dX11_includes_28 : decode cX11_includes 28 = .ok (.aload_n 0, 1) := by decide +kernel
theorem dX11_includes_29 : decode cX11_includes 29 = .ok (.iconst 3, 1) := by decide +kernel
theorem dX11_includes_30 : decode cX11_includes 30 = .ok (.iload 4, 2) := by decide +kernel
theorem dX11_includes_32 : decode cX11_includes 32 = .ok (.imul, 1) := by decide +kernel
theorem dX11_includes_33 : decode cX11_includes 33 = .ok (.iconst 2, 1) := by decide +kernel
theorem dX11_includes_34 : decode cX11_includes 34 = .ok (.iadd, 1) := by decide +kernel
theorem dX11_includes_35 : decode cX11_includes 35 = .ok (.iaload, 1) := by decide +kernel
theorem dX11_includes_36 : decode cX11_includes 36 = .ok (.invokestatic 113, 3) := by decide +kernel
theorem dX11_includes_39 : decode cX11_includes 39 = .ok (.ifCond .eq 5, 3) := by decide +kernel
theorem dX11_includes_42 : decode cX11_includes 42 = .ok (.iconst 1, 1) := by decide +kernel
theorem dX11_includes_43 : decode cX11_includes 43 = .ok (.ireturn, 1) := by decide +kernel
theorem dX11_includes_44 : decode cX11_includes 44 = .ok (.iinc 4 1, 3) := by decide +kernel
theorem dX11_includes_47 : decode cX11_includes 47 = .ok (.goto (-44), 3) := by decide +kernel
theorem dX11_includes_50 : decode cX11_includes 50 = .ok (.iconst 0, 1) := by decide +kernel
theorem dX11_includes_51 : decode cX11_includes 51 = .ok (.ireturn, 1) := by decide +kernel
theorem dX11_canCall_0 : decode cX11_canCall 0 = .ok (.aload_n 0, 1) := by decide +kernel
theorem dX11_canCall_1 : decode cX11_canCall 1 = .ok (.getfield 7, 3) := by decide +kernel
theorem dX11_canCall_4 : decode cX11_canCall 4 = .ok (.iconst 3, 1) := by decide +kernel
theorem dX11_canCall_5 : decode cX11_canCall 5 = .ok (.iaload, 1) := by decide +kernel
theorem dX11_canCall_6 : decode cX11_canCall 6 = .ok (.iload_n 1, 1) := by decide +kernel
theorem dX11_canCall_7 : decode cX11_canCall 7 = .ok (.invokestatic 201, 3) := by decide +kernel
theorem dX11_canCall_10 : decode cX11_canCall 10 = .ok (.ifCond .ne 21, 3) := by decide +kernel
theorem dX11_canCall_13 : decode cX11_canCall 13 = .ok (.aload_n 0, 1) := by decide +kernel
theorem dX11_canCall_14 : decode cX11_canCall 14 = .ok (.getfield 28, 3) := by decide +kernel
theorem dX11_canCall_17 : decode cX11_canCall 17 = .ok (.aload_n 0, 1) := by decide +kernel
theorem dX11_canCall_18 : decode cX11_canCall 18 = .ok (.getfield 13, 3) := by decide +kernel
theorem dX11_canCall_21 : decode cX11_canCall 21 = .ok (.iconst 2, 1) := by decide +kernel
theorem dX11_canCall_22 : decode cX11_canCall 22 = .ok (.iaload, 1) := by decide +kernel
theorem dX11_canCall_23 : decode cX11_canCall 23 = .ok (.iload_n 1, 1) := by decide +kernel
theorem dX11_canCall_24 : decode cX11_canCall 24 = .ok (.iload_n 2, 1) := by decide +kernel
theorem dX11_canCall_25 : decode cX11_canCall 25 = .ok (.invokestatic 204, 3) := by decide +kernel
theorem dX11_canCall_28 : decode cX11_canCall 28 = .ok (.ifCond .eq 5, 3) := by decide +kernel
theorem dX11_canCall_31 : decode cX11_canCall 31 = .ok (.iconst 0, 1) := by decide +kernel
theorem dX11_canCall_32 : decode cX11_canCall 32 = .ok (.ireturn, 1) := by decide +kernel
theorem dX11_canCall_33 : decode cX11_canCall 33 = .ok (.aload_n 0, 1) := by decide +kernel
theorem dX11_canCall_34 : decode cX11_canCall 34 = .ok (.getfield 31, 3) := by decide +kernel
theorem dX11_canCall_37 : decode cX11_canCall 37 = .ok (.aload_n 0, 1) := by decide +kernel
theorem dX11_canCall_38 : decode cX11_canCall 38 = .ok (.getfield 13, 3) := by decide +kernel
theorem dX11_canCall_41 : decode cX11_canCall 41 = .ok (.iconst 3, 1) := by decide +kernel
theorem dX11_canCall_42 : decode cX11_canCall 42 = .ok (.iaload, 1) := by decide +kernel
theorem dX11_canCall_43 : decode cX11_canCall 43 = .ok (.aload_n 0, 1) := by decide +kernel
theorem dX11_canCall_44 : decode cX11_canCall 44 = .ok (.getfield 16, 3) := by decide +kernel
theorem dX11_canCall_47 : decode cX11_canCall 47 = .ok (.iload_n 1, 1) := by decide +kernel
theorem dX11_canCall_48 : decode cX11_canCall 48 = .ok (.iaload, 1) := by decide +kernel
theorem dX11_canCall_49 : decode cX11_canCall 49 = .ok (.iload_n 2, 1) := by decide +kernel
theorem dX11_canCall_50 : decode cX11_canCall 50 = .ok (.invokestatic 204, 3) := by decide +kernel
theorem dX11_canCall_53 : decode cX11_canCall 53 = .ok (.ifCond .ne 30, 3) := by decide +kernel
theorem dX11_canCall_56 : decode cX11_canCall 56 = .ok (.aload_n 0, 1) := by decide +kernel
theorem dX11_canCall_57 : decode cX11_canCall 57 = .ok (.getfield 31, 3) := by decide +kernel
theorem dX11_canCall_60 : decode cX11_canCall 60 = .ok (.aload_n 0, 1) := by decide +kernel
theorem dX11_canCall_61 : decode cX11_canCall 61 = .ok (.getfield 13, 3) := by decide +kernel
theorem dX11_canCall_64 : decode cX11_canCall 64 = .ok (.iconst 3, 1) := by decide +kernel
theorem dX11_canCall_65 : decode cX11_canCall 65 = .ok (.iaload, 1) := by decide +kernel
theorem dX11_canCall_66 : decode cX11_canCall 66 = .ok (.aload_n 0, 1) := by decide +kernel
theorem dX11_canCall_67 : decode cX11_canCall 67 = .ok (.getfield 19, 3) := by decide +kernel
theorem dX11_canCall_70 : decode cX11_canCall 70 = .ok (.iload_n 1, 1) := by decide +kernel
theorem dX11_canCall_71 : decode cX11_canCall 71 = .ok (.iaload, 1) := by decide +kernel
theorem dX11_canCall_72 : decode cX11_canCall 72 = .ok (.iload_n 2, 1) := by decide +kernel
theorem dX11_canCall_73 : decode cX11_canCall 73 = .ok (.invokestatic 204, 3) := by decide +kernel
theorem dX11_canCall_76 : decode cX11_canCall 76 = .ok (.ifCond .ne 7, 3) := by decide +kernel
theorem dX11_canCall_79 : decode cX11_canCall 79 = .ok (.iconst 1, 1) := by decide +kernel
theorem dX11_canCall_80 : decode cX11_canCall 80 = .ok (.goto 4, 3) := by decide +kernel
theorem dX11_canCall_83 : decode cX11_canCall 83 = .ok (.iconst 0, 1) := by decide +kernel
theorem dX11_canCall_84 : decode cX11_canCall 84 = .ok (.ireturn, 1) := by decide +kernel
theorem dX11_isUsable_0 : decode cX11_isUsable 0 = .ok (.aload_n 0, 1) := by decide +kernel
theorem dX11_isUsable_1 : decode cX11_isUsable 1 = .ok (.iload_n 1, 1) := by decide +kernel
theorem dX11_isUsable_2 : decode cX11_isUsable 2 = .ok (.invokevirtual 195, 3) := by decide +kernel
theorem dX11_isUsable_5 : decode cX11_isUsable 5 = .ok (.ifCond .ne 40, 3) := by decide +kernel
theorem dX11_isUsable_8 : decode cX11_isUsable 8 = .ok (.aload_n 0, 1) := by decide +kernel
theorem dX11_isUsable_9 : decode cX11_isUsable 9 = .ok (.iload_n 2, 1) := by decide +kernel
theorem dX11_isUsable_10 : decode cX11_isUsable 10 = .ok (.iconst 1, 1) := by decide +kernel
theorem dX11_isUsable_11 : decode cX11_isUsable 11 = .ok (.sipush 9999, 3) := by decide +kernel
theorem dX11_isUsable_14 : decode cX11_isUsable 14 = .ok (.invokestatic 113, 3) := by decide +kernel
theorem dX11_isUsable_17 : decode cX11_isUsable 17 = .ok (.ifCond .ne 7, 3) := by decide +kernel
theorem dX11_isUsable_20 : decode cX11_isUsable 20 = .ok (.iconst 1, 1) := by decide +kernel
theorem dX11_isUsable_21 : decode cX11_isUsable 21 = .ok (.goto 4, 3) := by decide +kernel
theorem dX11_isUsable_24 : decode cX11_isUsable 24 = .ok (.iconst 0, 1) := by decide +kernel
theorem dX11_isUsable_25 : decode cX11_isUsable 25 = .ok (.iconst 2, 1) := by decide +kernel
theorem dX11_isUsable_26 : decode cX11_isUsable 26 = .ok (.invokevirtual 176, 3) := by decide +kernel
theorem dX11_isUsable_29 : decode cX11_isUsable 29 = .ok (.ifCond .ne 16, 3) := by decide +kernel
theorem dX11_isUsable_32 : decode cX11_isUsable 32 = .ok (.aload_n 0, 1) := by decide +kernel
theorem dX11_isUsable_33 : decode cX11_isUsable 33 = .ok (.iload_n 1, 1) := by decide +kernel
theorem dX11_isUsable_34 : decode cX11_isUsable 34 = .ok (.iload_n 2, 1) := by decide +kernel
theorem dX11_isUsable_35 : decode cX11_isUsable 35 = .ok (.invokevirtual 207, 3) := by decide +kernel
theorem dX11_isUsable_38 : decode cX11_isUsable 38 = .ok (.ifCond .eq 7, 3) := by decide +kernel
theorem dX11_isUsable_41 : decode cX11_isUsable 41 = .ok (.iconst 1, 1) := by decide +kernel
theorem dX11_isUsable_42 : decode cX11_isUsable 42 = .ok (.goto 4, 3) := by decide +kernel
theorem dX11_isUsable_45 : decode cX11_isUsable 45 = .ok (.iconst 0, 1) := by decide +kernel
theorem dX11_isUsable_46 : decode cX11_isUsable 46 = .ok (.ireturn, 1) := by decide +kernel
theorem dX11_cheapestLine_0 : decode cX11_cheapestLine 0 = .ok (.aload_n 0, 1) := by decide +kernel
theorem dX11_cheapestLine_1 : decode cX11_cheapestLine 1 = .ok (.iconst 0, 1) := by decide +kernel
theorem dX11_cheapestLine_2 : decode cX11_cheapestLine 2 = .ok (.putfield 80, 3) := by decide +kernel
theorem dX11_cheapestLine_5 : decode cX11_cheapestLine 5 = .ok (.iload_n 1, 1) := by decide +kernel
theorem dX11_cheapestLine_6 : decode cX11_cheapestLine 6 = .ok (.iconst 0, 1) := by decide +kernel
theorem dX11_cheapestLine_7 : decode cX11_cheapestLine 7 = .ok (.aload_n 0, 1) := by decide +kernel
theorem dX11_cheapestLine_8 : decode cX11_cheapestLine 8 = .ok (.getfield 13, 3) := by decide +kernel
theorem dX11_cheapestLine_11 : decode cX11_cheapestLine 11 = .ok (.iconst 1, 1) := by decide +kernel
theorem dX11_cheapestLine_12 : decode cX11_cheapestLine 12 = .ok (.iaload, 1) := by decide +kernel
theorem dX11_cheapestLine_13 : decode cX11_cheapestLine 13 = .ok (.iconst 1, 1) := by decide +kernel
theorem dX11_cheapestLine_14 : decode cX11_cheapestLine 14 = .ok (.isub, 1) := by decide +kernel
theorem dX11_cheapestLine_15 : decode cX11_cheapestLine 15 = .ok (.invokestatic 113, 3) := by decide +kernel
theorem dX11_cheapestLine_18 : decode cX11_cheapestLine 18 = .ok (.ifCond .ne 5, 3) := by decide +kernel
theorem dX11_cheapestLine_21 : decode cX11_cheapestLine 21 = .ok (.iconst (-1), 1) := by decide +kernel
theorem dX11_cheapestLine_22 : decode cX11_cheapestLine 22 = .ok (.ireturn, 1) := by decide +kernel
theorem dX11_cheapestLine_23 : decode cX11_cheapestLine 23 = .ok (.iconst (-1), 1) := by decide +kernel
theorem dX11_cheapestLine_24 : decode cX11_cheapestLine 24 = .ok (.istore_n 2, 1) := by decide +kernel
theorem dX11_cheapestLine_25 : decode cX11_cheapestLine 25 = .ok (.iconst 0, 1) := by decide +kernel
theorem dX11_cheapestLine_26 : decode cX11_cheapestLine 26 = .ok (.istore_n 3, 1) := by decide +kernel
theorem dX11_cheapestLine_27 : decode cX11_cheapestLine 27 = .ok (.iload_n 3, 1) := by decide +kernel
theorem dX11_cheapestLine_28 : decode cX11_cheapestLine 28 = .ok (.aload_n 0, 1) := by decide +kernel
theorem dX11_cheapestLine_29 : decode cX11_cheapestLine 29 = .ok (.getfield 13, 3) := by decide +kernel
theorem dX11_cheapestLine_32 : decode cX11_cheapestLine 32 = .ok (.iconst 1, 1) := by decide +kernel
theorem dX11_cheapestLine_33 : decode cX11_cheapestLine 33 = .ok (.iaload, 1) := by decide +kernel
theorem dX11_cheapestLine_34 : decode cX11_cheapestLine 34 = .ok (.if_icmp .ge 92, 3) := by decide +kernel
theorem dX11_cheapestLine_37 : decode cX11_cheapestLine 37 = .ok (.iconst 0, 1) := by decide +kernel
theorem dX11_cheapestLine_38 : decode cX11_cheapestLine 38 = .ok (.istore 4, 2) := by decide +kernel
theorem dX11_cheapestLine_40 : decode cX11_cheapestLine 40 = .ok (.iconst 0, 1) := by decide +kernel
theorem dX11_cheapestLine_41 : decode cX11_cheapestLine 41 = .ok (.istore 5, 2) := by decide +kernel
theorem dX11_cheapestLine_43 : decode cX11_cheapestLine 43 = .ok (.iload 5, 2) := by decide +kernel
theorem dX11_cheapestLine_45 : decode cX11_cheapestLine 45 = .ok (.aload_n 0, 1) := by decide +kernel
theorem dX11_cheapestLine_46 : decode cX11_cheapestLine 46 = .ok (.getfield 13, 3) := by decide +kernel
theorem dX11_cheapestLine_49 : decode cX11_cheapestLine 49 = .ok (.iconst 1, 1) := by decide +kernel
theorem dX11_cheapestLine_50 : decode cX11_cheapestLine 50 = .ok (.iaload, 1) := by decide +kernel
theorem dX11_cheapestLine_51 : decode cX11_cheapestLine 51 = .ok (.if_icmp .ge 57, 3) := by decide +kernel
theorem dX11_cheapestLine_54 : decode cX11_cheapestLine 54 = .ok (.iload 4, 2) := by decide +kernel
theorem dX11_cheapestLine_56 : decode cX11_cheapestLine 56 = .ok (.aload_n 0, 1) := by decide +kernel
theorem dX11_cheapestLine_57 : decode cX11_cheapestLine 57 = .ok (.getfield 25, 3) := by decide +kernel
theorem dX11_cheapestLine_60 : decode cX11_cheapestLine 60 = .ok (.iload 5, 2) := by decide +kernel
theorem dX11_cheapestLine_62 : decode cX11_cheapestLine 62 = .ok (.iaload, 1) := by decide +kernel
theorem dX11_cheapestLine_63 : decode cX11_cheapestLine 63 = .ok (.aload_n 0, 1) := by decide +kernel
theorem dX11_cheapestLine_64 : decode cX11_cheapestLine 64 = .ok (.getfield 25, 3) := by decide +kernel
theorem dX11_cheapestLine_67 : decode cX11_cheapestLine 67 = .ok (.iload_n 3, 1) := by decide +kernel
theorem dX11_cheapestLine_68 : decode cX11_cheapestLine 68 = .ok (.iaload, 1) := by decide +kernel
theorem dX11_cheapestLine_69 : decode cX11_cheapestLine 69 = .ok (.if_icmp .lt 25, 3) := by decide +kernel
theorem dX11_cheapestLine_72 : decode cX11_cheapestLine 72 = .ok (.aload_n 0, 1) := by decide +kernel
theorem dX11_cheapestLine_73 : decode cX11_cheapestLine 73 = .ok (.getfield 25, 3) := by decide +kernel
theorem dX11_cheapestLine_76 : decode cX11_cheapestLine 76 = .ok (.iload 5, 2) := by decide +kernel
theorem dX11_cheapestLine_78 : decode cX11_cheapestLine 78 = .ok (.iaload, 1) := by decide +kernel
theorem dX11_cheapestLine_79 : decode cX11_cheapestLine 79 = .ok (.aload_n 0, 1) := by decide +kernel
theorem dX11_cheapestLine_80 : decode cX11_cheapestLine 80 = .ok (.getfield 25, 3) := by decide +kernel
theorem dX11_cheapestLine_83 : decode cX11_cheapestLine 83 = .ok (.iload_n 3, 1) := by decide +kernel
theorem dX11_cheapestLine_84 : decode cX11_cheapestLine 84 = .ok (.iaload, 1) := by decide +kernel
theorem dX11_cheapestLine_85 : decode cX11_cheapestLine 85 = .ok (.if_icmp .ne 13, 3) := by decide +kernel
theorem dX11_cheapestLine_88 : decode cX11_cheapestLine 88 = .ok (.iload 5, 2) := by decide +kernel
theorem dX11_cheapestLine_90 : decode cX11_cheapestLine 90 = .ok (.iload_n 3, 1) := by decide +kernel
theorem dX11_cheapestLine_91 : decode cX11_cheapestLine 91 = .ok (.if_icmp .ge 7, 3) := by decide +kernel
theorem dX11_cheapestLine_94 : decode cX11_cheapestLine 94 = .ok (.iconst 1, 1) := by decide +kernel
theorem dX11_cheapestLine_95 : decode cX11_cheapestLine 95 = .ok (.goto 4, 3) := by decide +kernel
theorem dX11_cheapestLine_98 : decode cX11_cheapestLine 98 = .ok (.iconst 0, 1) := by decide +kernel
theorem dX11_cheapestLine_99 : decode cX11_cheapestLine 99 = .ok (.iadd, 1) := by decide +kernel
theorem dX11_cheapestLine_100 : decode cX11_cheapestLine 100 = .ok (.istore 4, 2) := by decide +kernel
theorem dX11_cheapestLine_102 : decode cX11_cheapestLine 102 = .ok (.iinc 5 1, 3) := by decide +kernel
theorem dX11_cheapestLine_105 : decode cX11_cheapestLine 105 = .ok (.goto (-62), 3) := by decide +kernel
theorem dX11_cheapestLine_108 : decode cX11_cheapestLine 108 = .ok (.iload 4, 2) := by decide +kernel
theorem dX11_cheapestLine_110 : decode cX11_cheapestLine 110 = .ok (.iload_n 1, 1) := by decide +kernel
theorem dX11_cheapestLine_111 : decode cX11_cheapestLine 111 = .ok (.if_icmp .ne 7, 3) := by decide +kernel
theorem dX11_cheapestLine_114 : decode cX11_cheapestLine 114 = .ok (.iload_n 3, 1) := by decide +kernel
theorem dX11_cheapestLine_115 : decode cX11_cheapestLine 115 = .ok (.goto 4, 3) := by decide +kernel
theorem dX11_cheapestLine_118 : decode cX11_cheapestLine 118 = .ok (.iload_n 2, 1) := by decide +kernel
theorem dX11_cheapestLine_119 : decode cX11_cheapestLine 119 = .ok (.istore_n 2, 1) := by decide +kernel
theorem dX11_cheapestLine_120 : decode cX11_cheapestLine 120 = .ok (.iinc 3 1, 3) := by decide +kernel
theorem dX11_cheapestLine_123 : decode cX11_cheapestLine 123 = .ok (.goto (-96), 3) := by decide +kernel
theorem dX11_cheapestLine_126 : decode cX11_cheapestLine 126 = .ok (.iload_n 2, 1) := by decide +kernel
theorem dX11_cheapestLine_127 : decode cX11_cheapestLine 127 = .ok (.ireturn, 1) := by decide +kernel
theorem dX11_known_0 : decode cX11_known 0 = .ok (.aload_n 0, 1) := by decide +kernel
theorem dX11_known_1 : decode cX11_known 1 = .ok (.iload_n 1, 1) := by decide +kernel
theorem dX11_known_2 : decode cX11_known 2 = .ok (.invokevirtual 210, 3) := by decide +kernel
theorem dX11_known_5 : decode cX11_known 5 = .ok (.ifCond .eq 7, 3) := by decide +kernel
theorem dX11_known_8 : decode cX11_known 8 = .ok (.iconst 0, 1) := by decide +kernel
theorem dX11_known_9 : decode cX11_known 9 = .ok (.goto 11, 3) := by decide +kernel
theorem dX11_known_12 : decode cX11_known 12 = .ok (.aload_n 0, 1) := by decide +kernel
theorem dX11_known_13 : decode cX11_known 13 = .ok (.getfield 7, 3) := by decide +kernel
theorem dX11_known_16 : decode cX11_known 16 = .ok (.iconst 4, 1) := by decide +kernel
theorem dX11_known_17 : decode cX11_known 17 = .ok (.iload_n 1, 1) := by decide +kernel
theorem dX11_known_18 : decode cX11_known 18 = .ok (.iadd, 1) := by decide +kernel
theorem dX11_known_19 : decode cX11_known 19 = .ok (.iaload, 1) := by decide +kernel
theorem dX11_known_20 : decode cX11_known 20 = .ok (.ireturn, 1) := by decide +kernel
theorem dX11_knowersIn_0 : decode cX11_knowersIn 0 = .ok (.iconst 0, 1) := by decide +kernel
theorem dX11_knowersIn_1 : decode cX11_knowersIn 1 = .ok (.istore 4, 2) := by decide +kernel
theorem dX11_knowersIn_3 : decode cX11_knowersIn 3 = .ok (.iconst 0, 1) := by decide +kernel
theorem dX11_knowersIn_4 : decode cX11_knowersIn 4 = .ok (.istore 5, 2) := by decide +kernel
theorem dX11_knowersIn_6 : decode cX11_knowersIn 6 = .ok (.iload 5, 2) := by decide +kernel
theorem dX11_knowersIn_8 : decode cX11_knowersIn 8 = .ok (.iload_n 2, 1) := by decide +kernel
theorem dX11_knowersIn_9 : decode cX11_knowersIn 9 = .ok (.if_icmp .ge 35, 3) := by decide +kernel
theorem dX11_knowersIn_12 : decode cX11_knowersIn 12 = .ok (.iload 4, 2) := by decide +kernel
theorem dX11_knowersIn_14 : decode cX11_knowersIn 14 = .ok (.aload_n 0, 1) := by decide +kernel
theorem dX11_knowersIn_15 : decode cX11_knowersIn 15 = .ok (.iload_n 1, 1) := by decide +kernel
theorem dX11_knowersIn_16 : decode cX11_knowersIn 16 = .ok (.iload 5, 2) := by decide +kernel
theorem dX11_knowersIn_18 : decode cX11_knowersIn 18 = .ok (.iadd, 1) := by decide +kernel
theorem dX11_knowersIn_19 : decode cX11_knowersIn 19 = .ok (.iaload, 1) := by decide +kernel
theorem dX11_knowersIn_20 : decode cX11_knowersIn 20 = .ok (.iload_n 3, 1) := by decide +kernel
theorem dX11_knowersIn_21 : decode cX11_knowersIn 21 = .ok (.invokestatic 201, 3) := by decide +kernel
theorem dX11_knowersIn_24 : decode cX11_knowersIn 24 = .ok (.ifCond .eq 10, 3) := by decide +kernel
theorem dX11_knowersIn_27 : decode cX11_knowersIn 27 = .ok (.iconst 1, 1) := by decide +kernel
theorem dX11_knowersIn_28 : decode cX11_knowersIn 28 = .ok (.iload 5, 2) := by decide +kernel
theorem dX11_knowersIn_30 : decode cX11_knowersIn 30 = .ok (.ishl, 1) := by decide +kernel
theorem dX11_knowersIn_31 : decode cX11_knowersIn 31 = .ok (.goto 4, 3) := by decide +kernel
theorem dX11_knowersIn_34 : decode cX11_knowersIn 34 = .ok (.iconst 0, 1) := by decide +kernel
theorem dX11_knowersIn_35 : decode cX11_knowersIn 35 = .ok (.ior, 1) := by decide +kernel
theorem dX11_knowersIn_36 : decode cX11_knowersIn 36 = .ok (.istore 4, 2) := by decide +kernel
theorem dX11_knowersIn_38 : decode cX11_knowersIn 38 = .ok (.iinc 5 1, 3) := by decide +kernel
theorem dX11_knowersIn_41 : decode cX11_knowersIn 41 = .ok (.goto (-35), 3) := by decide +kernel
theorem dX11_knowersIn_44 : decode cX11_knowersIn 44 = .ok (.iload 4, 2) := by decide +kernel
theorem dX11_knowersIn_46 : decode cX11_knowersIn 46 = .ok (.ireturn, 1) := by decide +kernel
theorem dX11_knowersOf_0 : decode cX11_knowersOf 0 = .ok (.aload_n 0, 1) := by decide +kernel
theorem dX11_knowersOf_1 : decode cX11_knowersOf 1 = .ok (.getfield 7, 3) := by decide +kernel
theorem dX11_knowersOf_4 : decode cX11_knowersOf 4 = .ok (.iconst 4, 1) := by decide +kernel
theorem dX11_knowersOf_5 : decode cX11_knowersOf 5 = .ok (.aload_n 0, 1) := by decide +kernel
theorem dX11_knowersOf_6 : decode cX11_knowersOf 6 = .ok (.getfield 13, 3) := by decide +kernel
theorem dX11_knowersOf_9 : decode cX11_knowersOf 9 = .ok (.iconst 0, 1) := by decide +kernel
theorem dX11_knowersOf_10 : decode cX11_knowersOf 10 = .ok (.iaload, 1) := by decide +kernel
theorem dX11_knowersOf_11 : decode cX11_knowersOf 11 = .ok (.iload_n 1, 1) := by decide +kernel
theorem dX11_knowersOf_12 : decode cX11_knowersOf 12 = .ok (.invokestatic 213, 3) := by decide +kernel
theorem dX11_knowersOf_15 : decode cX11_knowersOf 15 = .ok (.ireturn, 1) := by decide +kernel
theorem dX11_knowers_0 : decode cX11_knowers 0 = .ok (.aload_n 0, 1) := by decide +kernel
theorem dX11_knowers_1 : decode cX11_knowers 1 = .ok (.iload_n 1, 1) := by decide +kernel
theorem dX11_knowers_2 : decode cX11_knowers 2 = .ok (.invokevirtual 210, 3) := by decide +kernel
theorem dX11_knowers_5 : decode cX11_knowers 5 = .ok (.ifCond .eq 7, 3) := by decide +kernel
theorem dX11_knowers_8 : decode cX11_knowers 8 = .ok (.iconst 0, 1) := by decide +kernel
theorem dX11_knowers_9 : decode cX11_knowers 9 = .ok (.goto 8, 3) := by decide +kernel
theorem dX11_knowers_12 : decode cX11_knowers 12 = .ok (.aload_n 0, 1) := by decide +kernel
theorem dX11_knowers_13 : decode cX11_knowers 13 = .ok (.iload_n 1, 1) := by decide +kernel
theorem dX11_knowers_14 : decode cX11_knowers 14 = .ok (.invokevirtual 217, 3) := by decide +kernel
theorem dX11_knowers_17 : decode cX11_knowers 17 = .ok (.ireturn, 1) := by decide +kernel
theorem dX11_missingIn_0 : decode cX11_missingIn 0 = .ok (.iconst 0, 1) := by decide +kernel
theorem dX11_missingIn_1 : decode cX11_missingIn 1 = .ok (.istore_n 3, 1) := by decide +kernel
theorem dX11_missingIn_2 : decode cX11_missingIn 2 = .ok (.iconst 0, 1) := by decide +kernel
theorem dX11_missingIn_3 : decode cX11_missingIn 3 = .ok (.istore 4, 2) := by decide +kernel
theorem dX11_missingIn_5 : decode cX11_missingIn 5 = .ok (.iload 4, 2) := by decide +kernel
theorem dX11_missingIn_7 : decode cX11_missingIn 7 = .ok (.aload_n 0, 1) := by decide +kernel
theorem dX11_missingIn_8 : decode cX11_missingIn 8 = .ok (.getfield 13, 3) := by decide +kernel
theorem dX11_missingIn_11 : decode cX11_missingIn 11 = .ok (.iconst 0, 1) := by decide +kernel
theorem dX11_missingIn_12 : decode cX11_missingIn 12 = .ok (.iaload, 1) := by decide +kernel
theorem dX11_missingIn_13 : decode cX11_missingIn 13 = .ok (.if_icmp .ge 28, 3) := by decide +kernel
theorem dX11_missingIn_16 : decode cX11_missingIn 16 = .ok (.iload_n 3, 1) := by decide +kernel
theorem dX11_missingIn_17 : decode cX11_missingIn 17 = .ok (.aload_n 0, 1) := by decide +kernel
theorem dX11_missingIn_18 : decode cX11_missingIn 18 = .ok (.getfield 13, 3) := by decide +kernel
theorem dX11_missingIn_21 : decode cX11_missingIn 21 = .ok (.iconst 0, 1) := by decide +kernel
theorem dX11_missingIn_22 : decode cX11_missingIn 22 = .ok (.iaload, 1) := by decide +kernel
theorem dX11_missingIn_23 : decode cX11_missingIn 23 = .ok (.aload_n 1, 1) := by decide +kernel
theorem dX11_missingIn_24 : decode cX11_missingIn 24 = .ok (.iload_n 2, 1) := by decide +kernel
theorem dX11_missingIn_25 : decode cX11_missingIn 25 = .ok (.iload 4, 2) := by decide +kernel
theorem dX11_missingIn_27 : decode cX11_missingIn 27 = .ok (.iadd, 1) := by decide +kernel
theorem dX11_missingIn_28 : decode cX11_missingIn 28 = .ok (.iaload, 1) := by decide +kernel
theorem dX11_missingIn_29 : decode cX11_missingIn 29 = .ok (.invokestatic 192, 3) := by decide +kernel
theorem dX11_missingIn_32 : decode cX11_missingIn 32 = .ok (.isub, 1) := by decide +kernel
theorem dX11_missingIn_33 : decode cX11_missingIn 33 = .ok (.iadd, 1) := by decide +kernel
theorem dX11_missingIn_34 : decode cX11_missingIn 34 = .ok (.istore_n 3, 1) := by decide +kernel
theorem dX11_missingIn_35 : decode cX11_missingIn 35 = .ok (.iinc 4 1, 3) := by decide +kernel
theorem dX11_missingIn_38 : decode cX11_missingIn 38 = .ok (.goto (-33), 3) := by decide +kernel
theorem dX11_missingIn_41 : decode cX11_missingIn 41 = .ok (.iload_n 3, 1) := by decide +kernel
theorem dX11_missingIn_42 : decode cX11_missingIn 42 = .ok (.ireturn, 1) := by decide +kernel
theorem dX11_missing_0 : decode cX11_missing 0 = .ok (.aload_n 0, 1) := by decide +kernel
theorem dX11_missing_1 : decode cX11_missing 1 = .ok (.iconst 0, 1) := by decide +kernel
theorem dX11_missing_2 : decode cX11_missing 2 = .ok (.putfield 80, 3) := by decide +kernel
theorem dX11_missing_5 : decode cX11_missing 5 = .ok (.aload_n 0, 1) := by decide +kernel
theorem dX11_missing_6 : decode cX11_missing 6 = .ok (.aload_n 0, 1) := by decide +kernel
theorem dX11_missing_7 : decode cX11_missing 7 = .ok (.getfield 7, 3) := by decide +kernel
theorem dX11_missing_10 : decode cX11_missing 10 = .ok (.iconst 4, 1) := by decide +kernel
theorem dX11_missing_11 : decode cX11_missing 11 = .ok (.invokevirtual 220, 3) := by decide +kernel
theorem dX11_missing_14 : decode cX11_missing 14 = .ok (.ireturn, 1) := by decide +kernel
theorem dX11_partner_0 : decode cX11_partner 0 = .ok (.aload_n 0, 1) := by decide +kernel
theorem dX11_partner_1 : decode cX11_partner 1 = .ok (.iload_n 1, 1) := by decide +kernel
theorem dX11_partner_2 : decode cX11_partner 2 = .ok (.invokevirtual 210, 3) := by decide +kernel
theorem dX11_partner_5 : decode cX11_partner 5 = .ok (.ifCond .eq 5, 3) := by decide +kernel
theorem dX11_partner_8 : decode cX11_partner 8 = .ok (.iconst 0, 1) := by decide +kernel
theorem dX11_partner_9 : decode cX11_partner 9 = .ok (.ireturn, 1) := by decide +kernel
theorem dX11_partner_10 : decode cX11_partner 10 = .ok (.iconst 0, 1) := by decide +kernel
theorem dX11_partner_11 : decode cX11_partner 11 = .ok (.istore_n 2, 1) := by decide +kernel
theorem dX11_partner_12 : decode cX11_partner 12 = .ok (.iload_n 2, 1) := by decide +kernel
theorem dX11_partner_13 : decode cX11_partner 13 = .ok (.aload_n 0, 1) := by decide +kernel
theorem dX11_partner_14 : decode cX11_partner 14 = .ok (.getfield 13, 3) := by decide +kernel
theorem dX11_partner_17 : decode cX11_partner 17 = .ok (.iconst 1, 1) := by decide +kernel
theorem dX11_partner_18 : decode cX11_partner 18 = .ok (.iaload, 1) := by decide +kernel
theorem dX11_partner_19 : decode cX11_partner 19 = .ok (.if_icmp .ge 58, 3) := by decide +kernel
theorem dX11_partner_22 : decode cX11_partner 22 = .ok (.aload_n 0, 1) := by decide +kernel
theorem dX11_partner_23 : decode cX11_partner 23 = .ok (.getfield 7, 3) := by decide +kernel
theorem dX11_partner_26 : decode cX11_partner 26 = .ok (.iconst 2, 1) := by decide +kernel
theorem dX11_partner_27 : decode cX11_partner 27 = .ok (.iaload, 1) := by decide +kernel
theorem dX11_partner_28 : decode cX11_partner 28 = .ok (.iload_n 2, 1) := by decide +kernel
theorem dX11_partner_29 : decode cX11_partner 29 = .ok (.invokestatic 201, 3) := by decide +kernel
theorem dX11_partner_32 : decode cX11_partner 32 = .ok (.ifCond .eq 39, 3) := by decide +kernel
theorem dX11_partner_35 : decode cX11_partner 35 = .ok (.aload_n 0, 1) := by decide +kernel
theorem dX11_partner_36 : decode cX11_partner 36 = .ok (.getfield 16, 3) := by decide +kernel
theorem dX11_partner_39 : decode cX11_partner 39 = .ok (.iload_n 2, 1) := by decide +kernel
theorem dX11_partner_40 : decode cX11_partner 40 = .ok (.iaload, 1) := by decide +kernel
theorem dX11_partner_41 : decode cX11_partner 41 = .ok (.iload_n 1, 1) := by decide +kernel
theorem dX11_partner_42 : decode cX11_partner 42 = .ok (.if_icmp .eq 13, 3) := by decide +kernel
theorem dX11_partner_45 : decode cX11_partner 45 = .ok (.aload_n 0, 1) := by decide +kernel
theorem dX11_partner_46 : decode cX11_partner 46 = .ok (.getfield 19, 3) := by decide +kernel
theorem dX11_partner_49 : decode cX11_partner 49 = .ok (.iload_n 2, 1) := by decide +kernel
theorem dX11_partner_50 : decode cX11_partner 50 = .ok (.iaload, 1) := by decide +kernel
theorem dX11_partner_51 : decode cX11_partner 51 = .ok (.iload_n 1, 1) := by decide +kernel
theorem dX11_partner_52 : decode cX11_partner 52 = .ok (.if_icmp .ne 19, 3) := by decide +kernel
theorem dX11_partner_55 : decode cX11_partner 55 = .ok (.aload_n 0, 1) := by decide +kernel
theorem dX11_partner_56 : decode cX11_partner 56 = .ok (.getfield 16, 3) := by decide +kernel
theorem dX11_partner_59 : decode cX11_partner 59 = .ok (.iload_n 2, 1) := by decide +kernel
theorem dX11_partner_60 : decode cX11_partner 60 = .ok (.iaload, 1) := by decide +kernel
theorem dX11_partner_61 : decode cX11_partner 61 = .ok (.aload_n 0, 1) := by decide +kernel
theorem dX11_partner_62 : decode cX11_partner 62 = .ok (.getfield 19, 3) := by decide +kernel
theorem dX11_partner_65 : decode cX11_partner 65 = .ok (.iload_n 2, 1) := by decide +kernel
theorem dX11_partner_66 : decode cX11_partner 66 = .ok (.iaload, 1) := by decide +kernel
theorem dX11_partner_67 : decode cX11_partner 67 = .ok (.iadd, 1) := by decide +kernel
theorem dX11_partner_68 : decode cX11_partner 68 = .ok (.iload_n 1, 1) := by decide +kernel
theorem dX11_partner_69 : decode cX11_partner 69 = .ok (.isub, 1) := by decide +kernel
theorem dX11_partner_70 : decode cX11_partner 70 = .ok (.ireturn, 1) := by decide +kernel
theorem dX11_partner_71 : decode cX11_partner 71 = .ok (.iinc 2 1, 3) := by decide +kernel
theorem dX11_partner_74 : decode cX11_partner 74 = .ok (.goto (-62), 3) := by decide +kernel
theorem dX11_partner_77 : decode cX11_partner 77 = .ok (.iconst (-1), 1) := by decide +kernel
theorem dX11_partner_78 : decode cX11_partner 78 = .ok (.ireturn, 1) := by decide +kernel
theorem dX11_arranged_0 : decode cX11_arranged 0 = .ok (.aload_n 0, 1) := by decide +kernel
theorem dX11_arranged_1 : decode cX11_arranged 1 = .ok (.iconst 0, 1) := by decide +kernel
theorem dX11_arranged_2 : decode cX11_arranged 2 = .ok (.putfield 80, 3) := by decide +kernel
theorem dX11_arranged_5 : decode cX11_arranged 5 = .ok (.aload_n 0, 1) := by decide +kernel
theorem dX11_arranged_6 : decode cX11_arranged 6 = .ok (.getfield 7, 3) := by decide +kernel
theorem dX11_arranged_9 : decode cX11_arranged 9 = .ok (.iconst 2, 1) := by decide +kernel
theorem dX11_arranged_10 : decode cX11_arranged 10 = .ok (.iaload, 1) := by decide +kernel
theorem dX11_arranged_11 : decode cX11_arranged 11 = .ok (.ireturn, 1) := by decide +kernel
theorem dX11_gainOf_0 : decode cX11_gainOf 0 = .ok (.aload_n 2, 1) := by decide +kernel
theorem dX11_gainOf_1 : decode cX11_gainOf 1 = .ok (.iload_n 3, 1) := by decide +kernel
theorem dX11_gainOf_2 : decode cX11_gainOf 2 = .ok (.aload_n 0, 1) := by decide +kernel
theorem dX11_gainOf_3 : decode cX11_gainOf 3 = .ok (.getfield 16, 3) := by decide +kernel
theorem dX11_gainOf_6 : decode cX11_gainOf 6 = .ok (.iload_n 1, 1) := by decide +kernel
theorem dX11_gainOf_7 : decode cX11_gainOf 7 = .ok (.iaload, 1) := by decide +kernel
theorem dX11_gainOf_8 : decode cX11_gainOf 8 = .ok (.iadd, 1) := by decide +kernel
theorem dX11_gainOf_9 : decode cX11_gainOf 9 = .ok (.iaload, 1) := by decide +kernel
theorem dX11_gainOf_10 : decode cX11_gainOf 10 = .ok (.istore 4, 2) := by decide +kernel
theorem dX11_gainOf_12 : decode cX11_gainOf 12 = .ok (.aload_n 2, 1) := by decide +kernel
theorem dX11_gainOf_13 : decode cX11_gainOf 13 = .ok (.iload_n 3, 1) := by decide +kernel
theorem dX11_gainOf_14 : decode cX11_gainOf 14 = .ok (.aload_n 0, 1) := by decide +kernel
theorem dX11_gainOf_15 : decode cX11_gainOf 15 = .ok (.getfield 19, 3) := by decide +kernel
theorem dX11_gainOf_18 : decode cX11_gainOf 18 = .ok (.iload_n 1, 1) := by decide +kernel
theorem dX11_gainOf_19 : decode cX11_gainOf 19 = .ok (.iaload, 1) := by decide +kernel
theorem dX11_gainOf_20 : decode cX11_gainOf 20 = .ok (.iadd, 1) := by decide +kernel
theorem dX11_gainOf_21 : decode cX11_gainOf 21 = .ok (.iaload, 1) := by decide +kernel
theorem dX11_gainOf_22 : decode cX11_gainOf 22 = .ok (.istore 5, 2) := by decide +kernel
theorem dX11_gainOf_24 : decode cX11_gainOf 24 = .ok (.iload 4, 2) := by decide +kernel
theorem dX11_gainOf_26 : decode cX11_gainOf 26 = .ok (.iload 5, 2) := by decide +kernel
theorem dX11_gainOf_28 : decode cX11_gainOf 28 = .ok (.iconst (-1), 1) := by decide +kernel
theorem dX11_gainOf_29 : decode cX11_gainOf 29 = .ok (.ixor, 1) := by decide +kernel
theorem dX11_gainOf_30 : decode cX11_gainOf 30 = .ok (.iand, 1) := by decide +kernel
theorem dX11_gainOf_31 : decode cX11_gainOf 31 = .ok (.invokestatic 192, 3) := by decide +kernel
theorem dX11_gainOf_34 : decode cX11_gainOf 34 = .ok (.aload_n 0, 1) := by decide +kernel
theorem dX11_gainOf_35 : decode cX11_gainOf 35 = .ok (.getfield 22, 3) := by decide +kernel
theorem dX11_gainOf_38 : decode cX11_gainOf 38 = .ok (.iload_n 1, 1) := by decide +kernel
theorem dX11_gainOf_39 : decode cX11_gainOf 39 = .ok (.iaload, 1) := by decide +kernel
theorem dX11_gainOf_40 : decode cX11_gainOf 40 = .ok (.iconst 1, 1) := by decide +kernel
theorem dX11_gainOf_41 : decode cX11_gainOf 41 = .ok (.if_icmp .ne 7, 3) := by decide +kernel
theorem dX11_gainOf_44 : decode cX11_gainOf 44 = .ok (.iconst 0, 1) := by decide +kernel
theorem dX11_gainOf_45 : decode cX11_gainOf 45 = .ok (.goto 13, 3) := by decide +kernel
theorem dX11_gainOf_48 : decode cX11_gainOf 48 = .ok (.iload 5, 2) := by decide +kernel
theorem dX11_gainOf_50 : decode cX11_gainOf 50 = .ok (.iload 4, 2) := by decide +kernel
theorem dX11_gainOf_52 : decode cX11_gainOf 52 = .ok (.iconst (-1), 1) := by decide +kernel
theorem dX11_gainOf_53 : decode cX11_gainOf 53 = .ok (.ixor, 1) := by decide +kernel
theorem dX11_gainOf_54 : decode cX11_gainOf 54 = .ok (.iand, 1) := by decide +kernel
theorem dX11_gainOf_55 : decode cX11_gainOf 55 = .ok (.invokestatic 192, 3) := by decide +kernel
theorem dX11_gainOf_58 : decode cX11_gainOf 58 = .ok (.iadd, 1) := by decide +kernel
theorem dX11_gainOf_59 : decode cX11_gainOf 59 = .ok (.ireturn, 1) := by decide +kernel
theorem dX11_gainNow_0 : decode cX11_gainNow 0 = .ok (.iconst 0, 1) := by decide +kernel
theorem dX11_gainNow_1 : decode cX11_gainNow 1 = .ok (.istore_n 1, 1) := by decide +kernel
theorem dX11_gainNow_2 : decode cX11_gainNow 2 = .ok (.iconst 0, 1) := by decide +kernel
theorem dX11_gainNow_3 : decode cX11_gainNow 3 = .ok (.istore_n 2, 1) := by decide +kernel
theorem dX11_gainNow_4 : decode cX11_gainNow 4 = .ok (.iload_n 2, 1) := by decide +kernel
theorem dX11_gainNow_5 : decode cX11_gainNow 5 = .ok (.aload_n 0, 1) := by decide +kernel
theorem dX11_gainNow_6 : decode cX11_gainNow 6 = .ok (.getfield 13, 3) := by decide +kernel
theorem dX11_gainNow_9 : decode cX11_gainNow 9 = .ok (.iconst 1, 1) := by decide +kernel
theorem dX11_gainNow_10 : decode cX11_gainNow 10 = .ok (.iaload, 1) := by decide +kernel
theorem dX11_gainNow_11 : decode cX11_gainNow 11 = .ok (.if_icmp .ge 39, 3) := by decide +kernel
theorem dX11_gainNow_14 : decode cX11_gainNow 14 = .ok (.iload_n 1, 1) := by decide +kernel
theorem dX11_gainNow_15 : decode cX11_gainNow 15 = .ok (.aload_n 0, 1) := by decide +kernel
theorem dX11_gainNow_16 : decode cX11_gainNow 16 = .ok (.getfield 7, 3) := by decide +kernel
theorem dX11_gainNow_19 : decode cX11_gainNow 19 = .ok (.iconst 2, 1) := by decide +kernel
theorem dX11_gainNow_20 : decode cX11_gainNow 20 = .ok (.iaload, 1) := by decide +kernel
theorem dX11_gainNow_21 : decode cX11_gainNow 21 = .ok (.iload_n 2, 1) := by decide +kernel
theorem dX11_gainNow_22 : decode cX11_gainNow 22 = .ok (.invokestatic 201, 3) := by decide +kernel
theorem dX11_gainNow_25 : decode cX11_gainNow 25 = .ok (.ifCond .eq 16, 3) := by decide +kernel
theorem dX11_gainNow_28 : decode cX11_gainNow 28 = .ok (.aload_n 0, 1) := by decide +kernel
theorem dX11_gainNow_29 : decode cX11_gainNow 29 = .ok (.iload_n 2, 1) := by decide +kernel
theorem dX11_gainNow_30 : decode cX11_gainNow 30 = .ok (.aload_n 0, 1) := by decide +kernel
theorem dX11_gainNow_31 : decode cX11_gainNow 31 = .ok (.getfield 7, 3) := by decide +kernel
theorem dX11_gainNow_34 : decode cX11_gainNow 34 = .ok (.iconst 4, 1) := by decide +kernel
theorem dX11_gainNow_35 : decode cX11_gainNow 35 = .ok (.invokevirtual 224, 3) := by decide +kernel
theorem dX11_gainNow_38 : decode cX11_gainNow 38 = .ok (.goto 4, 3) := by decide +kernel
theorem dX11_gainNow_41 : decode cX11_gainNow 41 = .ok (.iconst 0, 1) := by decide +kernel
theorem dX11_gainNow_42 : decode cX11_gainNow 42 = .ok (.iadd, 1) := by decide +kernel
theorem dX11_gainNow_43 : decode cX11_gainNow 43 = .ok (.istore_n 1, 1) := by decide +kernel
theorem dX11_gainNow_44 : decode cX11_gainNow 44 = .ok (.iinc 2 1, 3) := by decide +kernel
theorem dX11_gainNow_47 : decode cX11_gainNow 47 = .ok (.goto (-43), 3) := by decide +kernel
theorem dX11_gainNow_50 : decode cX11_gainNow 50 = .ok (.iload_n 1, 1) := by decide +kernel
theorem dX11_gainNow_51 : decode cX11_gainNow 51 = .ok (.ireturn, 1) := by decide +kernel
theorem dX11_gain_0 : decode cX11_gain 0 = .ok (.aload_n 0, 1) := by decide +kernel
theorem dX11_gain_1 : decode cX11_gain 1 = .ok (.iconst 0, 1) := by decide +kernel
theorem dX11_gain_2 : decode cX11_gain 2 = .ok (.putfield 80, 3) := by decide +kernel
theorem dX11_gain_5 : decode cX11_gain 5 = .ok (.aload_n 0, 1) := by decide +kernel
theorem dX11_gain_6 : decode cX11_gain 6 = .ok (.invokevirtual 228, 3) := by decide +kernel
theorem dX11_gain_9 : decode cX11_gain 9 = .ok (.ireturn, 1) := by decide +kernel
theorem dX11_spent_0 : decode cX11_spent 0 = .ok (.aload_n 0, 1) := by decide +kernel
theorem dX11_spent_1 : decode cX11_spent 1 = .ok (.iconst 0, 1) := by decide +kernel
theorem dX11_spent_2 : decode cX11_spent 2 = .ok (.putfield 80, 3) := by decide +kernel
theorem dX11_spent_5 : decode cX11_spent 5 = .ok (.aload_n 0, 1) := by decide +kernel
theorem dX11_spent_6 : decode cX11_spent 6 = .ok (.iload_n 1, 1) := by decide +kernel
theorem dX11_spent_7 : decode cX11_spent 7 = .ok (.iconst 0, 1) := by decide +kernel
theorem dX11_spent_8 : decode cX11_spent 8 = .ok (.sipush 9999, 3) := by decide +kernel
theorem dX11_spent_11 : decode cX11_spent 11 = .ok (.invokestatic 113, 3) := by decide +kernel
theorem dX11_spent_14 : decode cX11_spent 14 = .ok (.ifCond .ne 7, 3) := by decide +kernel
theorem dX11_spent_17 : decode cX11_spent 17 = .ok (.iconst 1, 1) := by decide +kernel
theorem dX11_spent_18 : decode cX11_spent 18 = .ok (.goto 4, 3) := by decide +kernel
theorem dX11_spent_21 : decode cX11_spent 21 = .ok (.iconst 0, 1) := by decide +kernel
theorem dX11_spent_22 : decode cX11_spent 22 = .ok (.iconst 1, 1) := by decide +kernel
theorem dX11_spent_23 : decode cX11_spent 23 = .ok (.invokevirtual 176, 3) := by decide +kernel
theorem dX11_spent_26 : decode cX11_spent 26 = .ok (.ifCond .eq 5, 3) := by decide +kernel
theorem dX11_spent_29 : decode cX11_spent 29 = .ok (.iconst 0, 1) := by decide +kernel
theorem dX11_spent_30 : decode cX11_spent 30 = .ok (.ireturn, 1) := by decide +kernel
theorem dX11_spent_31 : decode cX11_spent 31 = .ok (.aload_n 0, 1) := by decide +kernel
theorem dX11_spent_32 : decode cX11_spent 32 = .ok (.getfield 7, 3) := by decide +kernel
theorem dX11_spent_35 : decode cX11_spent 35 = .ok (.bipush 14, 2) := by decide +kernel
theorem dX11_spent_37 : decode cX11_spent 37 = .ok (.iload_n 1, 1) := by decide +kernel
theorem dX11_spent_38 : decode cX11_spent 38 = .ok (.aload_n 0, 1) := by decide +kernel
theorem dX11_spent_39 : decode cX11_spent 39 = .ok (.getfield 7, 3) := by decide +kernel
theorem dX11_spent_42 : decode cX11_spent 42 = .ok (.iconst 0, 1) := by decide +kernel
theorem dX11_spent_43 : decode cX11_spent 43 = .ok (.iaload, 1) := by decide +kernel
theorem dX11_spent_44 : decode cX11_spent 44 = .ok (.if_icmp .ge 7, 3) := by decide +kernel
theorem dX11_spent_47 : decode cX11_spent 47 = .ok (.iload_n 1, 1) := by decide +kernel
theorem dX11_spent_48 : decode cX11_spent 48 = .ok (.goto 9, 3) := by decide +kernel
theorem dX11_spent_51 : decode cX11_spent 51 = .ok (.aload_n 0, 1) := by decide +kernel
theorem dX11_spent_52 : decode cX11_spent 52 = .ok (.getfield 7, 3) := by decide +kernel
theorem dX11_spent_55 : decode cX11_spent 55 = .ok (.iconst 0, 1) := by decide +kernel
theorem dX11_spent_56 : decode cX11_spent 56 = .ok (.iaload, 1) := by decide +kernel
theorem dX11_spent_57 : decode cX11_spent 57 = .ok (.iadd, 1) := by decide +kernel
theorem dX11_spent_58 : decode cX11_spent 58 = .ok (.iaload, 1) := by decide +kernel
theorem dX11_spent_59 : decode cX11_spent 59 = .ok (.ireturn, 1) := by decide +kernel
theorem dX11_costOf_0 : decode cX11_costOf 0 = .ok (.iconst 0, 1) := by decide +kernel
theorem dX11_costOf_1 : decode cX11_costOf 1 = .ok (.istore_n 2, 1) := by decide +kernel
theorem dX11_costOf_2 : decode cX11_costOf 2 = .ok (.iconst 0, 1) := by decide +kernel
theorem dX11_costOf_3 : decode cX11_costOf 3 = .ok (.istore_n 3, 1) := by decide +kernel
theorem dX11_costOf_4 : decode cX11_costOf 4 = .ok (.iload_n 3, 1) := by decide +kernel
theorem dX11_costOf_5 : decode cX11_costOf 5 = .ok (.aload_n 0, 1) := by decide +kernel
theorem dX11_costOf_6 : decode cX11_costOf 6 = .ok (.getfield 13, 3) := by decide +kernel
theorem dX11_costOf_9 : decode cX11_costOf 9 = .ok (.iconst 1, 1) := by decide +kernel
theorem dX11_costOf_10 : decode cX11_costOf 10 = .ok (.iaload, 1) := by decide +kernel
theorem dX11_costOf_11 : decode cX11_costOf 11 = .ok (.if_icmp .ge 30, 3) := by decide +kernel
theorem dX11_costOf_14 : decode cX11_costOf 14 = .ok (.iload_n 2, 1) := by decide +kernel
theorem dX11_costOf_15 : decode cX11_costOf 15 = .ok (.iload_n 1, 1) := by decide +kernel
theorem dX11_costOf_16 : decode cX11_costOf 16 = .ok (.iload_n 3, 1) := by decide +kernel
theorem dX11_costOf_17 : decode cX11_costOf 17 = .ok (.invokestatic 201, 3) := by decide +kernel
theorem dX11_costOf_20 : decode cX11_costOf 20 = .ok (.ifCond .eq 12, 3) := by decide +kernel
theorem dX11_costOf_23 : decode cX11_costOf 23 = .ok (.aload_n 0, 1) := by decide +kernel
theorem dX11_costOf_24 : decode cX11_costOf 24 = .ok (.getfield 25, 3) := by decide +kernel
theorem dX11_costOf_27 : decode cX11_costOf 27 = .ok (.iload_n 3, 1) := by decide +kernel
theorem dX11_costOf_28 : decode cX11_costOf 28 = .ok (.iaload, 1) := by decide +kernel
theorem dX11_costOf_29 : decode cX11_costOf 29 = .ok (.goto 4, 3) := by decide +kernel
theorem dX11_costOf_32 : decode cX11_costOf 32 = .ok (.iconst 0, 1) := by decide +kernel
theorem dX11_costOf_33 : decode cX11_costOf 33 = .ok (.iadd, 1) := by decide +kernel
theorem dX11_costOf_34 : decode cX11_costOf 34 = .ok (.istore_n 2, 1) := by decide +kernel
theorem dX11_costOf_35 : decode cX11_costOf 35 = .ok (.iinc 3 1, 3) := by decide +kernel
theorem dX11_costOf_38 : decode cX11_costOf 38 = .ok (.goto (-34), 3) := by decide +kernel
theorem dX11_costOf_41 : decode cX11_costOf 41 = .ok (.iload_n 2, 1) := by decide +kernel
theorem dX11_costOf_42 : decode cX11_costOf 42 = .ok (.ireturn, 1) := by decide +kernel
theorem dX11_lowest_0 : decode cX11_lowest 0 = .ok (.iconst 0, 1) := by decide +kernel
theorem dX11_lowest_1 : decode cX11_lowest 1 = .ok (.istore_n 1, 1) := by decide +kernel
theorem dX11_lowest_2 : decode cX11_lowest 2 = .ok (.iload_n 0, 1) := by decide +kernel
theorem dX11_lowest_3 : decode cX11_lowest 3 = .ok (.iload_n 1, 1) := by decide +kernel
theorem dX11_lowest_4 : decode cX11_lowest 4 = .ok (.invokestatic 201, 3) := by decide +kernel
theorem dX11_lowest_7 : decode cX11_lowest 7 = .ok (.ifCond .ne 9, 3) := by decide +kernel
theorem dX11_lowest_10 : decode cX11_lowest 10 = .ok (.iinc 1 1, 3) := by decide +kernel
theorem dX11_lowest_13 : decode cX11_lowest 13 = .ok (.goto (-11), 3) := by decide +kernel
theorem dX11_lowest_16 : decode cX11_lowest 16 = .ok (.iload_n 1, 1) := by decide +kernel
theorem dX11_lowest_17 : decode cX11_lowest 17 = .ok (.ireturn, 1) := by decide +kernel
theorem dX11_bestFor_0 : decode cX11_bestFor 0 = .ok (.iconst 1, 1) := by decide +kernel
theorem dX11_bestFor_1 : decode cX11_bestFor 1 = .ok (.istore 4, 2) := by decide +kernel
theorem dX11_bestFor_3 : decode cX11_bestFor 3 = .ok (.iload 4, 2) := by decide +kernel
theorem dX11_bestFor_5 : decode cX11_bestFor 5 = .ok (.aload_n 0, 1) := by decide +kernel
theorem dX11_bestFor_6 : decode cX11_bestFor 6 = .ok (.invokevirtual 231, 3) := by decide +kernel
theorem dX11_bestFor_9 : decode cX11_bestFor 9 = .ok (.if_icmp .gt 252, 3) := by decide +kernel
theorem dX11_bestFor_12 : decode cX11_bestFor 12 = .ok (.iload 4, 2) := by decide +kernel
theorem dX11_bestFor_14 : decode cX11_bestFor 14 = .ok (.invokestatic 234, 3) := by decide +kernel
theorem dX11_bestFor_17 : decode cX11_bestFor 17 = .ok (.istore 5, 2) := by decide +kernel
theorem dX11_bestFor_19 : decode cX11_bestFor 19 = .ok (.aload_n 0, 1) := by decide +kernel
theorem dX11_bestFor_20 : decode cX11_bestFor 20 = .ok (.getfield 42, 3) := by decide +kernel
theorem dX11_bestFor_23 : decode cX11_bestFor 23 = .ok (.iload 4, 2) := by decide +kernel
theorem dX11_bestFor_25 : decode cX11_bestFor 25 = .ok (.aload_n 0, 1) := by decide +kernel
theorem dX11_bestFor_26 : decode cX11_bestFor 26 = .ok (.getfield 42, 3) := by decide +kernel
theorem dX11_bestFor_29 : decode cX11_bestFor 29 = .ok (.iload 4, 2) := by decide +kernel
theorem dX11_bestFor_31 : decode cX11_bestFor 31 = .ok (.iconst 1, 1) := by decide +kernel
theorem dX11_bestFor_32 : decode cX11_bestFor 32 = .ok (.iload 5, 2) := by decide +kernel
theorem dX11_bestFor_34 : decode cX11_bestFor 34 = .ok (.ishl, 1) := by decide +kernel
theorem dX11_bestFor_35 : decode cX11_bestFor 35 = .ok (.isub, 1) := by decide +kernel
theorem dX11_bestFor_36 : decode cX11_bestFor 36 = .ok (.laload, 1) := by decide +kernel
theorem dX11_bestFor_37 : decode cX11_bestFor 37 = .ok (.lastore, 1) := by decide +kernel
theorem dX11_bestFor_38 : decode cX11_bestFor 38 = .ok (.aload_n 0, 1) := by decide +kernel
theorem dX11_bestFor_39 : decode cX11_bestFor 39 = .ok (.getfield 46, 3) := by decide +kernel
theorem dX11_bestFor_42 : decode cX11_bestFor 42 = .ok (.iload 4, 2) := by decide +kernel
theorem dX11_bestFor_44 : decode cX11_bestFor 44 = .ok (.iconst (-1), 1) := by decide +kernel
theorem dX11_bestFor_45 : decode cX11_bestFor 45 = .ok (.iastore, 1) := by decide +kernel
theorem dX11_bestFor_46 : decode cX11_bestFor 46 = .ok (.iconst 0, 1) := by decide +kernel
theorem dX11_bestFor_47 : decode cX11_bestFor 47 = .ok (.istore 6, 2) := by decide +kernel
theorem dX11_bestFor_49 : decode cX11_bestFor 49 = .ok (.iload 6, 2) := by decide +kernel
theorem dX11_bestFor_51 : decode cX11_bestFor 51 = .ok (.aload_n 0, 1) := by decide +kernel
theorem dX11_bestFor_52 : decode cX11_bestFor 52 = .ok (.getfield 13, 3) := by decide +kernel
theorem dX11_bestFor_55 : decode cX11_bestFor 55 = .ok (.iconst 1, 1) := by decide +kernel
theorem dX11_bestFor_56 : decode cX11_bestFor 56 = .ok (.iaload, 1) := by decide +kernel
theorem dX11_bestFor_57 : decode cX11_bestFor 57 = .ok (.if_icmp .ge 198, 3) := by decide +kernel
theorem dX11_bestFor_60 : decode cX11_bestFor 60 = .ok (.aload_n 0, 1) := by decide +kernel
theorem dX11_bestFor_61 : decode cX11_bestFor 61 = .ok (.getfield 16, 3) := by decide +kernel
theorem dX11_bestFor_64 : decode cX11_bestFor 64 = .ok (.iload 6, 2) := by decide +kernel
theorem dX11_bestFor_66 : decode cX11_bestFor 66 = .ok (.iaload, 1) := by decide +kernel
theorem dX11_bestFor_67 : decode cX11_bestFor 67 = .ok (.iload 5, 2) := by decide +kernel
theorem dX11_bestFor_69 : decode cX11_bestFor 69 = .ok (.if_icmp .ne 13, 3) := by decide +kernel
theorem dX11_bestFor_72 : decode cX11_bestFor 72 = .ok (.aload_n 0, 1) := by decide +kernel
theorem dX11_bestFor_73 : decode cX11_bestFor 73 = .ok (.getfield 19, 3) := by decide +kernel
theorem dX11_bestFor_76 : decode cX11_bestFor 76 = .ok (.iload 6, 2) := by decide +kernel
theorem dX11_bestFor_78 : decode cX11_bestFor 78 = .ok (.iaload, 1) := by decide +kernel
theorem dX11_bestFor_79 : decode cX11_bestFor 79 = .ok (.goto 26, 3) := by decide +kernel
theorem dX11_bestFor_82 : decode cX11_bestFor 82 = .ok (.aload_n 0, 1) := by decide +kernel
theorem dX11_bestFor_83 : decode cX11_bestFor 83 = .ok (.getfield 19, 3) := by decide +kernel
theorem dX11_bestFor_86 : decode cX11_bestFor 86 = .ok (.iload 6, 2) := by decide +kernel
theorem dX11_bestFor_88 : decode cX11_bestFor 88 = .ok (.iaload, 1) := by decide +kernel
theorem dX11_bestFor_89 : decode cX11_bestFor 89 = .ok (.iload 5, 2) := by decide +kernel
theorem dX11_bestFor_91 : decode cX11_bestFor 91 = .ok (.if_icmp .ne 13, 3) := by decide +kernel
theorem dX11_bestFor_94 : decode cX11_bestFor 94 = .ok (.aload_n 0, 1) := by decide +kernel
theorem dX11_bestFor_95 : decode cX11_bestFor 95 = .ok (.getfield 16, 3) := by decide +kernel
theorem dX11_bestFor_98 : decode cX11_bestFor 98 = .ok (.iload 6, 2) := by decide +kernel
theorem dX11_bestFor_100 : decode cX11_bestFor 100 = .ok (.iaload, 1) := by decide +kernel
theorem dX11_bestFor_101 : decode cX11_bestFor 101 = .ok (.goto 4, 3) := by decide +kernel
theorem dX11_bestFor_104 : decode cX11_bestFor 104 = .ok (.iconst (-1), 1) := by decide +kernel
theorem dX11_bestFor_105 : decode cX11_bestFor 105 = .ok (.istore 7, 2) := by decide +kernel
theorem dX11_bestFor_107 : decode cX11_bestFor 107 = .ok (.iload 7, 2) := by decide +kernel
theorem dX11_bestFor_109 : decode cX11_bestFor 109 = .ok (.iconst (-1), 1) := by decide +kernel
theorem dX11_bestFor_110 : decode cX11_bestFor 110 = .ok (.if_icmp .eq 139, 3) := by decide +kernel
theorem dX11_bestFor_113 : decode cX11_bestFor 113 = .ok (.iload 4, 2) := by decide +kernel
theorem dX11_bestFor_115 : decode cX11_bestFor 115 = .ok (.iload 7, 2) := by decide +kernel
theorem dX11_bestFor_117 : decode cX11_bestFor 117 = .ok (.invokestatic 201, 3) := by decide +kernel
theorem dX11_bestFor_120 : decode cX11_bestFor 120 = .ok (.ifCond .eq 129, 3) := by decide +kernel
theorem dX11_bestFor_123 : decode cX11_bestFor 123 = .ok (.aload_n 0, 1) := by decide +kernel
theorem dX11_bestFor_124 : decode cX11_bestFor 124 = .ok (.iload 6, 2) := by decide +kernel
theorem dX11_bestFor_126 : decode cX11_bestFor 126 = .ok (.iload_n 1, 1) := by decide +kernel
theorem dX11_bestFor_127 : decode cX11_bestFor 127 = .ok (.invokevirtual 207, 3) := by decide +kernel
theorem dX11_bestFor_130 : decode cX11_bestFor 130 = .ok (.ifCond .ne 6, 3) := by decide +kernel
theorem dX11_bestFor_133 : decode cX11_bestFor 133 = .ok (.goto 116, 3) := by decide +kernel
theorem dX11_bestFor_136 : decode cX11_bestFor 136 = .ok (.aload_n 0, 1) := by decide +kernel
theorem dX11_bestFor_137 : decode cX11_bestFor 137 = .ok (.iload 6, 2) := by decide +kernel
theorem dX11_bestFor_139 : decode cX11_bestFor 139 = .ok (.aload_n 2, 1) := by decide +kernel
theorem dX11_bestFor_140 : decode cX11_bestFor 140 = .ok (.iload_n 3, 1) := by decide +kernel
theorem dX11_bestFor_141 : decode cX11_bestFor 141 = .ok (.invokevirtual 224, 3) := by decide +kernel
theorem dX11_bestFor_144 : decode cX11_bestFor 144 = .ok (.i2l, 1) := by decide +kernel
theorem dX11_bestFor_145 : decode cX11_bestFor 145 = .ok (.bipush 40, 2) := by decide +kernel
theorem dX11_bestFor_147 : decode cX11_bestFor 147 = .ok (.lshl, 1) := by decide +kernel
theorem dX11_bestFor_148 : decode cX11_bestFor 148 = .ok (.aload_n 0, 1) := by decide +kernel
theorem dX11_bestFor_149 : decode cX11_bestFor 149 = .ok (.getfield 25, 3) := by decide +kernel
theorem dX11_bestFor_152 : decode cX11_bestFor 152 = .ok (.iload 6, 2) := by decide +kernel
theorem dX11_bestFor_154 : decode cX11_bestFor 154 = .ok (.iaload, 1) := by decide +kernel
theorem dX11_bestFor_155 : decode cX11_bestFor 155 = .ok (.i2l, 1) := by decide +kernel
theorem dX11_bestFor_156 : decode cX11_bestFor 156 = .ok (.bipush 25, 2) := by decide +kernel
theorem dX11_bestFor_158 : decode cX11_bestFor 158 = .ok (.lshl, 1) := by decide +kernel
theorem dX11_bestFor_159 : decode cX11_bestFor 159 = .ok (.lsub, 1) := by decide +kernel
theorem dX11_bestFor_160 : decode cX11_bestFor 160 = .ok (.lconst 1, 1) := by decide +kernel
theorem dX11_bestFor_161 : decode cX11_bestFor 161 = .ok (.iload 6, 2) := by decide +kernel
theorem dX11_bestFor_163 : decode cX11_bestFor 163 = .ok (.lshl, 1) := by decide +kernel
theorem dX11_bestFor_164 : decode cX11_bestFor 164 = .ok (.lsub, 1) := by decide +kernel
theorem dX11_bestFor_165 : decode cX11_bestFor 165 = .ok (.aload_n 0, 1) := by decide +kernel
theorem dX11_bestFor_166 : decode cX11_bestFor 166 = .ok (.getfield 42, 3) := by decide +kernel
theorem dX11_bestFor_169 : decode cX11_bestFor 169 = .ok (.iload 4, 2) := by decide +kernel
theorem dX11_bestFor_171 : decode cX11_bestFor 171 = .ok (.iconst 1, 1) := by decide +kernel
theorem dX11_bestFor_172 : decode cX11_bestFor 172 = .ok (.iload 5, 2) := by decide +kernel
theorem dX11_bestFor_174 : decode cX11_bestFor 174 = .ok (.ishl, 1) := by decide +kernel
theorem dX11_bestFor_175 : decode cX11_bestFor 175 = .ok (.isub, 1) := by decide +kernel
theorem dX11_bestFor_176 : decode cX11_bestFor 176 = .ok (.iconst 1, 1) := by decide +kernel
theorem dX11_bestFor_177 : decode cX11_bestFor 177 = .ok (.iload 7, 2) := by decide +kernel
theorem dX11_bestFor_179 : decode cX11_bestFor 179 = .ok (.ishl, 1) := by decide +kernel
theorem dX11_bestFor_180 : decode cX11_bestFor 180 = .ok (.isub, 1) := by decide +kernel
theorem dX11_bestFor_181 : decode cX11_bestFor 181 = .ok (.laload, 1) := by decide +kernel
theorem dX11_bestFor_182 : decode cX11_bestFor 182 = .ok (.ladd, 1) := by decide +kernel
theorem dX11_bestFor_183 : decode cX11_bestFor 183 = .ok (.lstore 8, 2) := by decide +kernel
theorem dX11_bestFor_185 : decode cX11_bestFor 185 = .ok (.aload_n 0, 1) := by decide +kernel
theorem dX11_bestFor_186 : decode cX11_bestFor 186 = .ok (.getfield 46, 3) := by decide +kernel
theorem dX11_bestFor_189 : decode cX11_bestFor 189 = .ok (.iload 4, 2) := by decide +kernel
theorem dX11_bestFor_191 : decode cX11_bestFor 191 = .ok (.lload 8, 2) := by decide +kernel
theorem dX11_bestFor_193 : decode cX11_bestFor 193 = .ok (.aload_n 0, 1) := by decide +kernel
theorem dX11_bestFor_194 : decode cX11_bestFor 194 = .ok (.getfield 42, 3) := by decide +kernel
theorem dX11_bestFor_197 : decode cX11_bestFor 197 = .ok (.iload 4, 2) := by decide +kernel
theorem dX11_bestFor_199 : decode cX11_bestFor 199 = .ok (.laload, 1) := by decide +kernel
theorem dX11_bestFor_200 : decode cX11_bestFor 200 = .ok (.lcmp, 1) := by decide +kernel
theorem dX11_bestFor_201 : decode cX11_bestFor 201 = .ok (.ifCond .le 8, 3) := by decide +kernel
theorem dX11_bestFor_204 : decode cX11_bestFor 204 = .ok (.iload 6, 2) := by decide +kernel
theorem dX11_bestFor_206 : decode cX11_bestFor 206 = .ok (.goto 10, 3) := by decide +kernel
theorem dX11_bestFor_209 : decode cX11_bestFor 209 = .ok (.aload_n 0, 1) := by decide +kernel
theorem dX11_bestFor_210 : decode cX11_bestFor 210 = .ok (.getfield 46, 3) := by decide +kernel
theorem dX11_bestFor_213 : decode cX11_bestFor 213 = .ok (.iload 4, 2) := by decide +kernel
theorem dX11_bestFor_215 : decode cX11_bestFor 215 = .ok (.iaload, 1) := by decide +kernel
theorem dX11_bestFor_216 : decode cX11_bestFor 216 = .ok (.iastore, 1) := by decide +kernel
theorem dX11_bestFor_217 : decode cX11_bestFor 217 = .ok (.aload_n 0, 1) := by decide +kernel
theorem dX11_bestFor_218 : decode cX11_bestFor 218 = .ok (.getfield 42, 3) := by decide +kernel
theorem dX11_bestFor_221 : decode cX11_bestFor 221 = .ok (.iload 4, 2) := by decide +kernel
theorem dX11_bestFor_223 : decode cX11_bestFor 223 = .ok (.lload 8, 2) := by decide +kernel
theorem dX11_bestFor_225 : decode cX11_bestFor 225 = .ok (.aload_n 0, 1) := by decide +kernel
theorem dX11_bestFor_226 : decode cX11_bestFor 226 = .ok (.getfield 42, 3) := by decide +kernel
theorem dX11_bestFor_229 : decode cX11_bestFor 229 = .ok (.iload 4, 2) := by decide +kernel
theorem dX11_bestFor_231 : decode cX11_bestFor 231 = .ok (.laload, 1) := by decide +kernel
theorem dX11_bestFor_232 : decode cX11_bestFor 232 = .ok (.lcmp, 1) := by decide +kernel
theorem dX11_bestFor_233 : decode cX11_bestFor 233 = .ok (.ifCond .le 8, 3) := by decide +kernel
theorem dX11_bestFor_236 : decode cX11_bestFor 236 = .ok (.lload 8, 2) := by decide +kernel
theorem dX11_bestFor_238 : decode cX11_bestFor 238 = .ok (.goto 10, 3) := by decide +kernel
theorem dX11_bestFor_241 : decode cX11_bestFor 241 = .ok (.aload_n 0, 1) := by decide +kernel
theorem dX11_bestFor_242 : decode cX11_bestFor 242 = .ok (.getfield 42, 3) := by decide +kernel
theorem dX11_bestFor_245 : decode cX11_bestFor 245 = .ok (.iload 4, 2) := by decide +kernel
theorem dX11_bestFor_247 : decode cX11_bestFor 247 = .ok (.laload, 1) := by decide +kernel
theorem dX11_bestFor_248 : decode cX11_bestFor 248 = .ok (.lastore, 1) := by decide +kernel
theorem dX11_bestFor_249 : decode cX11_bestFor 249 = .ok (.iinc 6 1, 3) := by decide +kernel
theorem dX11_bestFor_252 : decode cX11_bestFor 252 = .ok (.goto (-203), 3) := by decide +kernel
theorem dX11_bestFor_255 : decode cX11_bestFor 255 = .ok (.iinc 4 1, 3) := by decide +kernel
theorem dX11_bestFor_258 : decode cX11_bestFor 258 = .ok (.goto (-255), 3) := by decide +kernel
theorem dX11_bestFor_261 : decode cX11_bestFor 261 = .ok (.iconst 0, 1) := by decide +kernel
theorem dX11_bestFor_262 : decode cX11_bestFor 262 = .ok (.istore 4, 2) := by decide +kernel
theorem dX11_bestFor_264 : decode cX11_bestFor 264 = .ok (.aload_n 0, 1) := by decide +kernel
theorem dX11_bestFor_265 : decode cX11_bestFor 265 = .ok (.invokevirtual 231, 3) := by decide +kernel
theorem dX11_bestFor_268 : decode cX11_bestFor 268 = .ok (.istore 5, 2) := by decide +kernel
theorem dX11_bestFor_270 : decode cX11_bestFor 270 = .ok (.iload 5, 2) := by decide +kernel
theorem dX11_bestFor_272 : decode cX11_bestFor 272 = .ok (.ifCond .eq 74, 3) := by decide +kernel
theorem dX11_bestFor_275 : decode cX11_bestFor 275 = .ok (.aload_n 0, 1) := by decide +kernel
theorem dX11_bestFor_276 : decode cX11_bestFor 276 = .ok (.getfield 46, 3) := by decide +kernel
theorem dX11_bestFor_279 : decode cX11_bestFor 279 = .ok (.iload 5, 2) := by decide +kernel
theorem dX11_bestFor_281 : decode cX11_bestFor 281 = .ok (.iaload, 1) := by decide +kernel
theorem dX11_bestFor_282 : decode cX11_bestFor 282 = .ok (.istore 6, 2) := by decide +kernel
theorem dX11_bestFor_284 : decode cX11_bestFor 284 = .ok (.iload 4, 2) := by decide +kernel
theorem dX11_bestFor_286 : decode cX11_bestFor 286 = .ok (.iload 6, 2) := by decide +kernel
theorem dX11_bestFor_288 : decode cX11_bestFor 288 = .ok (.iconst (-1), 1) := by decide +kernel
theorem dX11_bestFor_289 : decode cX11_bestFor 289 = .ok (.if_icmp .ne 7, 3) := by decide +kernel
theorem dX11_bestFor_292 : decode cX11_bestFor 292 = .ok (.iconst 0, 1) := by decide +kernel
theorem dX11_bestFor_293 : decode cX11_bestFor 293 = .ok (.goto 7, 3) := by decide +kernel
theorem dX11_bestFor_296 : decode cX11_bestFor 296 = .ok (.iconst 1, 1) := by decide +kernel
theorem dX11_bestFor_297 : decode cX11_bestFor 297 = .ok (.iload 6, 2) := by decide +kernel
theorem dX11_bestFor_299 : decode cX11_bestFor 299 = .ok (.ishl, 1) := by decide +kernel
theorem dX11_bestFor_300 : decode cX11_bestFor 300 = .ok (.ior, 1) := by decide +kernel
theorem dX11_bestFor_301 : decode cX11_bestFor 301 = .ok (.istore 4, 2) := by decide +kernel
theorem dX11_bestFor_303 : decode cX11_bestFor 303 = .ok (.iload 5, 2) := by decide +kernel
theorem dX11_bestFor_305 : decode cX11_bestFor 305 = .ok (.iload 6, 2) := by decide +kernel
theorem dX11_bestFor_307 : decode cX11_bestFor 307 = .ok (.iconst (-1), 1) := by decide +kernel
theorem dX11_bestFor_308 : decode cX11_bestFor 308 = .ok (.if_icmp .ne 13, 3) := by decide +kernel
theorem dX11_bestFor_311 : decode cX11_bestFor 311 = .ok (.iconst 1, 1) := by decide +kernel
theorem dX11_bestFor_312 : decode cX11_bestFor 312 = .ok (.iload 5, 2) := by decide +kernel
theorem dX11_bestFor_314 : decode cX11_bestFor 314 = .ok (.invokestatic 234, 3) := by decide +kernel
theorem dX11_bestFor_317 : decode cX11_bestFor 317 = .ok (.ishl, 1) := by decide +kernel
theorem dX11_bestFor_318 : decode cX11_bestFor 318 = .ok (.goto 22, 3) := by decide +kernel
theorem dX11_bestFor_321 : decode cX11_bestFor 321 = .ok (.iconst 1, 1) := by decide +kernel
theorem dX11_bestFor_322 : decode cX11_bestFor 322 = .ok (.aload_n 0, 1) := by decide +kernel
theorem dX11_bestFor_323 : decode cX11_bestFor 323 = .ok (.getfield 16, 3) := by decide +kernel
theorem dX11_bestFor_326 : decode cX11_bestFor 326 = .ok (.iload 6, 2) := by decide +kernel
theorem dX11_bestFor_328 : decode cX11_bestFor 328 = .ok (.iaload, 1) := by decide +kernel
theorem dX11_bestFor_329 : decode cX11_bestFor 329 = .ok (.ishl, 1) := by decide +kernel
theorem dX11_bestFor_330 : decode cX11_bestFor 330 = .ok (.iconst 1, 1) := by decide +kernel
theorem dX11_bestFor_331 : decode cX11_bestFor 331 = .ok (.aload_n 0, 1) := by decide +kernel
theorem dX11_bestFor_332 : decode cX11_bestFor 332 = .ok (.getfield 19, 3) := by decide +kernel
theorem dX11_bestFor_335 : decode cX11_bestFor 335 = .ok (.iload 6, 2) := by decide +kernel
theorem dX11_bestFor_337 : decode cX11_bestFor 337 = .ok (.iaload, 1) := by decide +kernel
theorem dX11_bestFor_338 : decode cX11_bestFor 338 = .ok (.ishl, 1) := by decide +kernel
theorem dX11_bestFor_339 : decode cX11_bestFor 339 = .ok (.iadd, 1) := by decide +kernel
theorem dX11_bestFor_340 : decode cX11_bestFor 340 = .ok (.isub, 1) := by decide +kernel
theorem dX11_bestFor_341 : decode cX11_bestFor 341 = .ok (.istore 5, 2) := by decide +kernel
theorem dX11_bestFor_343 : decode cX11_bestFor 343 = .ok (.goto (-73), 3) := by decide +kernel
theorem dX11_bestFor_346 : decode cX11_bestFor 346 = .ok (.iload 4, 2) := by decide +kernel
theorem dX11_bestFor_348 : decode cX11_bestFor 348 = .ok (.ireturn, 1) := by decide +kernel
theorem dX11_bestNow_0 : decode cX11_bestNow 0 = .ok (.aload_n 0, 1) := by decide +kernel
theorem dX11_bestNow_1 : decode cX11_bestNow 1 = .ok (.aload_n 0, 1) := by decide +kernel
theorem dX11_bestNow_2 : decode cX11_bestNow 2 = .ok (.getfield 7, 3) := by decide +kernel
theorem dX11_bestNow_5 : decode cX11_bestNow 5 = .ok (.iconst 0, 1) := by decide +kernel
theorem dX11_bestNow_6 : decode cX11_bestNow 6 = .ok (.iaload, 1) := by decide +kernel
theorem dX11_bestNow_7 : decode cX11_bestNow 7 = .ok (.iconst 1, 1) := by decide +kernel
theorem dX11_bestNow_8 : decode cX11_bestNow 8 = .ok (.iadd, 1) := by decide +kernel
theorem dX11_bestNow_9 : decode cX11_bestNow 9 = .ok (.aload_n 0, 1) := by decide +kernel
theorem dX11_bestNow_10 : decode cX11_bestNow 10 = .ok (.getfield 7, 3) := by decide +kernel
theorem dX11_bestNow_13 : decode cX11_bestNow 13 = .ok (.iconst 4, 1) := by decide +kernel
theorem dX11_bestNow_14 : decode cX11_bestNow 14 = .ok (.invokevirtual 237, 3) := by decide +kernel
theorem dX11_bestNow_17 : decode cX11_bestNow 17 = .ok (.ireturn, 1) := by decide +kernel
theorem dX11_best_0 : decode cX11_best 0 = .ok (.aload_n 0, 1) := by decide +kernel
theorem dX11_best_1 : decode cX11_best 1 = .ok (.iconst 0, 1) := by decide +kernel
theorem dX11_best_2 : decode cX11_best 2 = .ok (.putfield 80, 3) := by decide +kernel
theorem dX11_best_5 : decode cX11_best 5 = .ok (.aload_n 0, 1) := by decide +kernel
theorem dX11_best_6 : decode cX11_best 6 = .ok (.iload_n 1, 1) := by decide +kernel
theorem dX11_best_7 : decode cX11_best 7 = .ok (.iconst 0, 1) := by decide +kernel
theorem dX11_best_8 : decode cX11_best 8 = .ok (.iconst 2, 1) := by decide +kernel
theorem dX11_best_9 : decode cX11_best 9 = .ok (.invokestatic 113, 3) := by decide +kernel
theorem dX11_best_12 : decode cX11_best 12 = .ok (.ifCond .ne 7, 3) := by decide +kernel
theorem dX11_best_15 : decode cX11_best 15 = .ok (.iconst 1, 1) := by decide +kernel
theorem dX11_best_16 : decode cX11_best 16 = .ok (.goto 4, 3) := by decide +kernel
theorem dX11_best_19 : decode cX11_best 19 = .ok (.iconst 0, 1) := by decide +kernel
theorem dX11_best_20 : decode cX11_best 20 = .ok (.iconst 1, 1) := by decide +kernel
theorem dX11_best_21 : decode cX11_best 21 = .ok (.invokevirtual 176, 3) := by decide +kernel
theorem dX11_best_24 : decode cX11_best 24 = .ok (.ifCond .eq 5, 3) := by decide +kernel
theorem dX11_best_27 : decode cX11_best 27 = .ok (.iconst 0, 1) := by decide +kernel
theorem dX11_best_28 : decode cX11_best 28 = .ok (.ireturn, 1) := by decide +kernel
theorem dX11_best_29 : decode cX11_best 29 = .ok (.aload_n 0, 1) := by decide +kernel
theorem dX11_best_30 : decode cX11_best 30 = .ok (.invokevirtual 240, 3) := by decide +kernel
theorem dX11_best_33 : decode cX11_best 33 = .ok (.istore_n 2, 1) := by decide +kernel
theorem dX11_best_34 : decode cX11_best 34 = .ok (.iload_n 1, 1) := by decide +kernel
theorem dX11_best_35 : decode cX11_best 35 = .ok (.ifCond .ne 5, 3) := by decide +kernel
theorem dX11_best_38 : decode cX11_best 38 = .ok (.iload_n 2, 1) := by decide +kernel
theorem dX11_best_39 : decode cX11_best 39 = .ok (.ireturn, 1) := by decide +kernel
theorem dX11_best_40 : decode cX11_best 40 = .ok (.iload_n 1, 1) := by decide +kernel
theorem dX11_best_41 : decode cX11_best 41 = .ok (.iconst 2, 1) := by decide +kernel
theorem dX11_best_42 : decode cX11_best 42 = .ok (.if_icmp .ne 9, 3) := by decide +kernel
theorem dX11_best_45 : decode cX11_best 45 = .ok (.aload_n 0, 1) := by decide +kernel
theorem dX11_best_46 : decode cX11_best 46 = .ok (.iload_n 2, 1) := by decide +kernel
theorem dX11_best_47 : decode cX11_best 47 = .ok (.invokevirtual 243, 3) := by decide +kernel
theorem dX11_best_50 : decode cX11_best 50 = .ok (.ireturn, 1) := by decide +kernel
theorem dX11_best_51 : decode cX11_best 51 = .ok (.iconst 0, 1) := by decide +kernel
theorem dX11_best_52 : decode cX11_best 52 = .ok (.istore_n 3, 1) := by decide +kernel
theorem dX11_best_53 : decode cX11_best 53 = .ok (.iconst 0, 1) := by decide +kernel
theorem dX11_best_54 : decode cX11_best 54 = .ok (.istore 4, 2) := by decide +kernel
theorem dX11_best_56 : decode cX11_best 56 = .ok (.iload 4, 2) := by decide +kernel
theorem dX11_best_58 : decode cX11_best 58 = .ok (.aload_n 0, 1) := by decide +kernel
theorem dX11_best_59 : decode cX11_best 59 = .ok (.getfield 13, 3) := by decide +kernel
theorem dX11_best_62 : decode cX11_best 62 = .ok (.iconst 1, 1) := by decide +kernel
theorem dX11_best_63 : decode cX11_best 63 = .ok (.iaload, 1) := by decide +kernel
theorem dX11_best_64 : decode cX11_best 64 = .ok (.if_icmp .ge 36, 3) := by decide +kernel
theorem dX11_best_67 : decode cX11_best 67 = .ok (.iload_n 3, 1) := by decide +kernel
theorem dX11_best_68 : decode cX11_best 68 = .ok (.iload_n 2, 1) := by decide +kernel
theorem dX11_best_69 : decode cX11_best 69 = .ok (.iload 4, 2) := by decide +kernel
theorem dX11_best_71 : decode cX11_best 71 = .ok (.invokestatic 201, 3) := by decide +kernel
theorem dX11_best_74 : decode cX11_best 74 = .ok (.ifCond .eq 17, 3) := by decide +kernel
theorem dX11_best_77 : decode cX11_best 77 = .ok (.aload_n 0, 1) := by decide +kernel
theorem dX11_best_78 : decode cX11_best 78 = .ok (.iload 4, 2) := by decide +kernel
theorem dX11_best_80 : decode cX11_best 80 = .ok (.aload_n 0, 1) := by decide +kernel
theorem dX11_best_81 : decode cX11_best 81 = .ok (.getfield 7, 3) := by decide +kernel
theorem dX11_best_84 : decode cX11_best 84 = .ok (.iconst 4, 1) := by decide +kernel
theorem dX11_best_85 : decode cX11_best 85 = .ok (.invokevirtual 224, 3) := by decide +kernel
theorem dX11_best_88 : decode cX11_best 88 = .ok (.goto 4, 3) := by decide +kernel
theorem dX11_best_91 : decode cX11_best 91 = .ok (.iconst 0, 1) := by decide +kernel
theorem dX11_best_92 : decode cX11_best 92 = .ok (.iadd, 1) := by decide +kernel
theorem dX11_best_93 : decode cX11_best 93 = .ok (.istore_n 3, 1) := by decide +kernel
theorem dX11_best_94 : decode cX11_best 94 = .ok (.iinc 4 1, 3) := by decide +kernel
theorem dX11_best_97 : decode cX11_best 97 = .ok (.goto (-41), 3) := by decide +kernel
theorem dX11_best_100 : decode cX11_best 100 = .ok (.iload_n 3, 1) := by decide +kernel
theorem dX11_best_101 : decode cX11_best 101 = .ok (.ireturn, 1) := by decide +kernel
theorem dX11_thinks_0 : decode cX11_thinks 0 = .ok (.iconst 0, 1) := by decide +kernel
theorem dX11_thinks_1 : decode cX11_thinks 1 = .ok (.istore_n 1, 1) := by decide +kernel
theorem dX11_thinks_2 : decode cX11_thinks 2 = .ok (.iload_n 1, 1) := by decide +kernel
theorem dX11_thinks_3 : decode cX11_thinks 3 = .ok (.aload_n 0, 1) := by decide +kernel
theorem dX11_thinks_4 : decode cX11_thinks 4 = .ok (.getfield 13, 3) := by decide +kernel
theorem dX11_thinks_7 : decode cX11_thinks 7 = .ok (.iconst 0, 1) := by decide +kernel
theorem dX11_thinks_8 : decode cX11_thinks 8 = .ok (.iaload, 1) := by decide +kernel
theorem dX11_thinks_9 : decode cX11_thinks 9 = .ok (.if_icmp .ge 23, 3) := by decide +kernel
theorem dX11_thinks_12 : decode cX11_thinks 12 = .ok (.aload_n 0, 1) := by decide +kernel
theorem dX11_thinks_13 : decode cX11_thinks 13 = .ok (.getfield 49, 3) := by decide +kernel
theorem dX11_thinks_16 : decode cX11_thinks 16 = .ok (.iload_n 1, 1) := by decide +kernel
theorem dX11_thinks_17 : decode cX11_thinks 17 = .ok (.aload_n 0, 1) := by decide +kernel
theorem dX11_thinks_18 : decode cX11_thinks 18 = .ok (.getfield 7, 3) := by decide +kernel
theorem dX11_thinks_21 : decode cX11_thinks 21 = .ok (.iconst 4, 1) := by decide +kernel
theorem dX11_thinks_22 : decode cX11_thinks 22 = .ok (.iload_n 1, 1) := by decide +kernel
theorem dX11_thinks_23 : decode cX11_thinks 23 = .ok (.iadd, 1) := by decide +kernel
theorem dX11_thinks_24 : decode cX11_thinks 24 = .ok (.iaload, 1) := by decide +kernel
theorem dX11_thinks_25 : decode cX11_thinks 25 = .ok (.iastore, 1) := by decide +kernel
theorem dX11_thinks_26 : decode cX11_thinks 26 = .ok (.iinc 1 1, 3) := by decide +kernel
theorem dX11_thinks_29 : decode cX11_thinks 29 = .ok (.goto (-27), 3) := by decide +kernel
theorem dX11_thinks_32 : decode cX11_thinks 32 = .ok (.return_, 1) := by decide +kernel
theorem dX11_calls_0 : decode cX11_calls 0 = .ok (.iconst 0, 1) := by decide +kernel
theorem dX11_calls_1 : decode cX11_calls 1 = .ok (.istore_n 2, 1) := by decide +kernel
theorem dX11_calls_2 : decode cX11_calls 2 = .ok (.iload_n 2, 1) := by decide +kernel
theorem dX11_calls_3 : decode cX11_calls 3 = .ok (.aload_n 0, 1) := by decide +kernel
theorem dX11_calls_4 : decode cX11_calls 4 = .ok (.getfield 13, 3) := by decide +kernel
theorem dX11_calls_7 : decode cX11_calls 7 = .ok (.iconst 0, 1) := by decide +kernel
theorem dX11_calls_8 : decode cX11_calls 8 = .ok (.iaload, 1) := by decide +kernel
theorem dX11_calls_9 : decode cX11_calls 9 = .ok (.if_icmp .ge 21, 3) := by decide +kernel
theorem dX11_calls_12 : decode cX11_calls 12 = .ok (.aload_n 0, 1) := by decide +kernel
theorem dX11_calls_13 : decode cX11_calls 13 = .ok (.getfield 52, 3) := by decide +kernel
theorem dX11_calls_16 : decode cX11_calls 16 = .ok (.iload_n 2, 1) := by decide +kernel
theorem dX11_calls_17 : decode cX11_calls 17 = .ok (.aload_n 0, 1) := by decide +kernel
theorem dX11_calls_18 : decode cX11_calls 18 = .ok (.getfield 49, 3) := by decide +kernel
theorem dX11_calls_21 : decode cX11_calls 21 = .ok (.iload_n 2, 1) := by decide +kernel
theorem dX11_calls_22 : decode cX11_calls 22 = .ok (.iaload, 1) := by decide +kernel
theorem dX11_calls_23 : decode cX11_calls 23 = .ok (.iastore, 1) := by decide +kernel
theorem dX11_calls_24 : decode cX11_calls 24 = .ok (.iinc 2 1, 3) := by decide +kernel
theorem dX11_calls_27 : decode cX11_calls 27 = .ok (.goto (-25), 3) := by decide +kernel
theorem dX11_calls_30 : decode cX11_calls 30 = .ok (.iconst 0, 1) := by decide +kernel
theorem dX11_calls_31 : decode cX11_calls 31 = .ok (.istore_n 2, 1) := by decide +kernel
theorem dX11_calls_32 : decode cX11_calls 32 = .ok (.iload_n 2, 1) := by decide +kernel
theorem dX11_calls_33 : decode cX11_calls 33 = .ok (.aload_n 0, 1) := by decide +kernel
theorem dX11_calls_34 : decode cX11_calls 34 = .ok (.getfield 13, 3) := by decide +kernel
theorem dX11_calls_37 : decode cX11_calls 37 = .ok (.iconst 1, 1) := by decide +kernel
theorem dX11_calls_38 : decode cX11_calls 38 = .ok (.iaload, 1) := by decide +kernel
theorem dX11_calls_39 : decode cX11_calls 39 = .ok (.if_icmp .ge 81, 3) := by decide +kernel
theorem dX11_calls_42 : decode cX11_calls 42 = .ok (.iload_n 1, 1) := by decide +kernel
theorem dX11_calls_43 : decode cX11_calls 43 = .ok (.iload_n 2, 1) := by decide +kernel
theorem dX11_calls_44 : decode cX11_calls 44 = .ok (.invokestatic 201, 3) := by decide +kernel
theorem dX11_calls_47 : decode cX11_calls 47 = .ok (.ifCond .eq 67, 3) := by decide +kernel
theorem dX11_calls_50 : decode cX11_calls 50 = .ok (.aload_n 0, 1) := by decide +kernel
theorem dX11_calls_51 : decode cX11_calls 51 = .ok (.getfield 49, 3) := by decide +kernel
theorem dX11_calls_54 : decode cX11_calls 54 = .ok (.aload_n 0, 1) := by decide +kernel
theorem dX11_calls_55 : decode cX11_calls 55 = .ok (.getfield 19, 3) := by decide +kernel
theorem dX11_calls_58 : decode cX11_calls 58 = .ok (.iload_n 2, 1) := by decide +kernel
theorem dX11_calls_59 : decode cX11_calls 59 = .ok (.iaload, 1) := by decide +kernel
theorem dX11_calls_60 : decode cX11_calls 60 = .ok (.dup2, 1) := by decide +kernel
theorem dX11_calls_61 : decode cX11_calls 61 = .ok (.iaload, 1) := by decide +kernel
theorem dX11_calls_62 : decode cX11_calls 62 = .ok (.aload_n 0, 1) := by decide +kernel
theorem dX11_calls_63 : decode cX11_calls 63 = .ok (.getfield 52, 3) := by decide +kernel
theorem dX11_calls_66 : decode cX11_calls 66 = .ok (.aload_n 0, 1) := by decide +kernel
theorem dX11_calls_67 : decode cX11_calls 67 = .ok (.getfield 16, 3) := by decide +kernel
theorem dX11_calls_70 : decode cX11_calls 70 = .ok (.iload_n 2, 1) := by decide +kernel
theorem dX11_calls_71 : decode cX11_calls 71 = .ok (.iaload, 1) := by decide +kernel
theorem dX11_calls_72 : decode cX11_calls 72 = .ok (.iaload, 1) := by decide +kernel
theorem dX11_calls_73 : decode cX11_calls 73 = .ok (.ior, 1) := by decide +kernel
theorem dX11_calls_74 : decode cX11_calls 74 = .ok (.iastore, 1) := by decide +kernel
theorem dX11_calls_75 : decode cX11_calls 75 = .ok (.aload_n 0, 1) := by decide +kernel
theorem dX11_calls_76 : decode cX11_calls 76 = .ok (.getfield 49, 3) := by decide +kernel
theorem dX11_calls_79 : decode cX11_calls 79 = .ok (.aload_n 0, 1) := by decide +kernel
theorem dX11_calls_80 : decode cX11_calls 80 = .ok (.getfield 16, 3) := by decide +kernel
theorem dX11_calls_83 : decode cX11_calls 83 = .ok (.iload_n 2, 1) := by decide +kernel
theorem dX11_calls_84 : decode cX11_calls 84 = .ok (.iaload, 1) := by decide +kernel
theorem dX11_calls_85 : decode cX11_calls 85 = .ok (.dup2, 1) := by decide +kernel
theorem dX11_calls_86 : decode cX11_calls 86 = .ok (.iaload, 1) := by decide +kernel
theorem dX11_calls_87 : decode cX11_calls 87 = .ok (.aload_n 0, 1) := by decide +kernel
theorem dX11_calls_88 : decode cX11_calls 88 = .ok (.getfield 22, 3) := by decide +kernel
theorem dX11_calls_91 : decode cX11_calls 91 = .ok (.iload_n 2, 1) := by decide +kernel
theorem dX11_calls_92 : decode cX11_calls 92 = .ok (.iaload, 1) := by decide +kernel
theorem dX11_calls_93 : decode cX11_calls 93 = .ok (.iconst 1, 1) := by decide +kernel
theorem dX11_calls_94 : decode cX11_calls 94 = .ok (.if_icmp .ne 7, 3) := by decide +kernel
theorem dX11_calls_97 : decode cX11_calls 97 = .ok (.iconst 0, 1) := by decide +kernel
theorem dX11_calls_98 : decode cX11_calls 98 = .ok (.goto 14, 3) := by decide +kernel
theorem dX11_calls_101 : decode cX11_calls 101 = .ok (.aload_n 0, 1) := by decide +kernel
theorem dX11_calls_102 : decode cX11_calls 102 = .ok (.getfield 52, 3) := by decide +kernel
theorem dX11_calls_105 : decode cX11_calls 105 = .ok (.aload_n 0, 1) := by decide +kernel
theorem dX11_calls_106 : decode cX11_calls 106 = .ok (.getfield 19, 3) := by decide +kernel
theorem dX11_calls_109 : decode cX11_calls 109 = .ok (.iload_n 2, 1) := by decide +kernel
theorem dX11_calls_110 : decode cX11_calls 110 = .ok (.iaload, 1) := by decide +kernel
theorem dX11_calls_111 : decode cX11_calls 111 = .ok (.iaload, 1) := by decide +kernel
theorem dX11_calls_112 : decode cX11_calls 112 = .ok (.ior, 1) := by decide +kernel
theorem dX11_calls_113 : decode cX11_calls 113 = .ok (.iastore, 1) := by decide +kernel
theorem dX11_calls_114 : decode cX11_calls 114 = .ok (.iinc 2 1, 3) := by decide +kernel
theorem dX11_calls_117 : decode cX11_calls 117 = .ok (.goto (-85), 3) := by decide +kernel
theorem dX11_calls_120 : decode cX11_calls 120 = .ok (.return_, 1) := by decide +kernel
theorem dX11_plan_0 : decode cX11_plan 0 = .ok (.aload_n 0, 1) := by decide +kernel
theorem dX11_plan_1 : decode cX11_plan 1 = .ok (.iconst 0, 1) := by decide +kernel
theorem dX11_plan_2 : decode cX11_plan 2 = .ok (.putfield 80, 3) := by decide +kernel
theorem dX11_plan_5 : decode cX11_plan 5 = .ok (.aload_n 0, 1) := by decide +kernel
theorem dX11_plan_6 : decode cX11_plan 6 = .ok (.iload_n 1, 1) := by decide +kernel
theorem dX11_plan_7 : decode cX11_plan 7 = .ok (.iconst 0, 1) := by decide +kernel
theorem dX11_plan_8 : decode cX11_plan 8 = .ok (.iconst 3, 1) := by decide +kernel
theorem dX11_plan_9 : decode cX11_plan 9 = .ok (.invokestatic 113, 3) := by decide +kernel
theorem dX11_plan_12 : decode cX11_plan 12 = .ok (.ifCond .ne 7, 3) := by decide +kernel
theorem dX11_plan_15 : decode cX11_plan 15 = .ok (.iconst 1, 1) := by decide +kernel
theorem dX11_plan_16 : decode cX11_plan 16 = .ok (.goto 4, 3) := by decide +kernel
theorem dX11_plan_19 : decode cX11_plan 19 = .ok (.iconst 0, 1) := by decide +kernel
theorem dX11_plan_20 : decode cX11_plan 20 = .ok (.iconst 1, 1) := by decide +kernel
theorem dX11_plan_21 : decode cX11_plan 21 = .ok (.invokevirtual 176, 3) := by decide +kernel
theorem dX11_plan_24 : decode cX11_plan 24 = .ok (.ifCond .eq 5, 3) := by decide +kernel
theorem dX11_plan_27 : decode cX11_plan 27 = .ok (.iconst 0, 1) := by decide +kernel
theorem dX11_plan_28 : decode cX11_plan 28 = .ok (.ireturn, 1) := by decide +kernel
theorem dX11_plan_29 : decode cX11_plan 29 = .ok (.aload_n 0, 1) := by decide +kernel
theorem dX11_plan_30 : decode cX11_plan 30 = .ok (.invokevirtual 246, 3) := by decide +kernel
theorem dX11_plan_33 : decode cX11_plan 33 = .ok (.iconst 0, 1) := by decide +kernel
theorem dX11_plan_34 : decode cX11_plan 34 = .ok (.istore_n 2, 1) := by decide +kernel
theorem dX11_plan_35 : decode cX11_plan 35 = .ok (.iconst 0, 1) := by decide +kernel
theorem dX11_plan_36 : decode cX11_plan 36 = .ok (.istore_n 3, 1) := by decide +kernel
theorem dX11_plan_37 : decode cX11_plan 37 = .ok (.iconst 0, 1) := by decide +kernel
theorem dX11_plan_38 : decode cX11_plan 38 = .ok (.istore 4, 2) := by decide +kernel
theorem dX11_plan_40 : decode cX11_plan 40 = .ok (.iload_n 2, 1) := by decide +kernel
theorem dX11_plan_41 : decode cX11_plan 41 = .ok (.bipush 40, 2) := by decide +kernel
theorem dX11_plan_43 : decode cX11_plan 43 = .ok (.if_icmp .ge 65, 3) := by decide +kernel
theorem dX11_plan_46 : decode cX11_plan 46 = .ok (.aload_n 0, 1) := by decide +kernel
theorem dX11_plan_47 : decode cX11_plan 47 = .ok (.aload_n 0, 1) := by decide +kernel
theorem dX11_plan_48 : decode cX11_plan 48 = .ok (.getfield 49, 3) := by decide +kernel
theorem dX11_plan_51 : decode cX11_plan 51 = .ok (.iconst 0, 1) := by decide +kernel
theorem dX11_plan_52 : decode cX11_plan 52 = .ok (.invokevirtual 220, 3) := by decide +kernel
theorem dX11_plan_55 : decode cX11_plan 55 = .ok (.ifCond .le 53, 3) := by decide +kernel
theorem dX11_plan_58 : decode cX11_plan 58 = .ok (.iinc 2 1, 3) := by decide +kernel
theorem dX11_plan_61 : decode cX11_plan 61 = .ok (.aload_n 0, 1) := by decide +kernel
theorem dX11_plan_62 : decode cX11_plan 62 = .ok (.aload_n 0, 1) := by decide +kernel
theorem dX11_plan_63 : decode cX11_plan 63 = .ok (.getfield 7, 3) := by decide +kernel
theorem dX11_plan_66 : decode cX11_plan 66 = .ok (.iconst 0, 1) := by decide +kernel
theorem dX11_plan_67 : decode cX11_plan 67 = .ok (.iaload, 1) := by decide +kernel
theorem dX11_plan_68 : decode cX11_plan 68 = .ok (.iload_n 2, 1) := by decide +kernel
theorem dX11_plan_69 : decode cX11_plan 69 = .ok (.iadd, 1) := by decide +kernel
theorem dX11_plan_70 : decode cX11_plan 70 = .ok (.aload_n 0, 1) := by decide +kernel
theorem dX11_plan_71 : decode cX11_plan 71 = .ok (.getfield 49, 3) := by decide +kernel
theorem dX11_plan_74 : decode cX11_plan 74 = .ok (.iconst 0, 1) := by decide +kernel
theorem dX11_plan_75 : decode cX11_plan 75 = .ok (.invokevirtual 237, 3) := by decide +kernel
theorem dX11_plan_78 : decode cX11_plan 78 = .ok (.istore 5, 2) := by decide +kernel
theorem dX11_plan_80 : decode cX11_plan 80 = .ok (.iload_n 3, 1) := by decide +kernel
theorem dX11_plan_81 : decode cX11_plan 81 = .ok (.iload 5, 2) := by decide +kernel
theorem dX11_plan_83 : decode cX11_plan 83 = .ok (.invokestatic 192, 3) := by decide +kernel
theorem dX11_plan_86 : decode cX11_plan 86 = .ok (.iadd, 1) := by decide +kernel
theorem dX11_plan_87 : decode cX11_plan 87 = .ok (.istore_n 3, 1) := by decide +kernel
theorem dX11_plan_88 : decode cX11_plan 88 = .ok (.iload 4, 2) := by decide +kernel
theorem dX11_plan_90 : decode cX11_plan 90 = .ok (.aload_n 0, 1) := by decide +kernel
theorem dX11_plan_91 : decode cX11_plan 91 = .ok (.iload 5, 2) := by decide +kernel
theorem dX11_plan_93 : decode cX11_plan 93 = .ok (.invokevirtual 243, 3) := by decide +kernel
theorem dX11_plan_96 : decode cX11_plan 96 = .ok (.iadd, 1) := by decide +kernel
theorem dX11_plan_97 : decode cX11_plan 97 = .ok (.istore 4, 2) := by decide +kernel
theorem dX11_plan_99 : decode cX11_plan 99 = .ok (.aload_n 0, 1) := by decide +kernel
theorem dX11_plan_100 : decode cX11_plan 100 = .ok (.iload 5, 2) := by decide +kernel
theorem dX11_plan_102 : decode cX11_plan 102 = .ok (.invokevirtual 249, 3) := by decide +kernel
theorem dX11_plan_105 : decode cX11_plan 105 = .ok (.goto (-65), 3) := by decide +kernel
theorem dX11_plan_108 : decode cX11_plan 108 = .ok (.aload_n 0, 1) := by decide +kernel
theorem dX11_plan_109 : decode cX11_plan 109 = .ok (.aload_n 0, 1) := by decide +kernel
theorem dX11_plan_110 : decode cX11_plan 110 = .ok (.getfield 49, 3) := by decide +kernel
theorem dX11_plan_113 : decode cX11_plan 113 = .ok (.iconst 0, 1) := by decide +kernel
theorem dX11_plan_114 : decode cX11_plan 114 = .ok (.invokevirtual 220, 3) := by decide +kernel
theorem dX11_plan_117 : decode cX11_plan 117 = .ok (.istore 5, 2) := by decide +kernel
theorem dX11_plan_119 : decode cX11_plan 119 = .ok (.iload_n 1, 1) := by decide +kernel
theorem dX11_plan_120 : decode cX11_plan 120 = .ok (.ifCond .ne 16, 3) := by decide +kernel
theorem dX11_plan_123 : decode cX11_plan 123 = .ok (.iload 5, 2) := by decide +kernel
theorem dX11_plan_125 : decode cX11_plan 125 = .ok (.ifCond .le 7, 3) := by decide +kernel
theorem dX11_plan_128 : decode cX11_plan 128 = .ok (.iconst (-1), 1) := by decide +kernel
theorem dX11_plan_129 : decode cX11_plan 129 = .ok (.goto 28, 3) := by decide +kernel
theorem dX11_plan_132 : decode cX11_plan 132 = .ok (.iload_n 2, 1) := by decide +kernel
theorem dX11_plan_133 : decode cX11_plan 133 = .ok (.goto 24, 3) := by decide +kernel
theorem dX11_plan_136 : decode cX11_plan 136 = .ok (.iload_n 1, 1) := by decide +kernel
theorem dX11_plan_137 : decode cX11_plan 137 = .ok (.iconst 1, 1) := by decide +kernel
theorem dX11_plan_138 : decode cX11_plan 138 = .ok (.if_icmp .ne 7, 3) := by decide +kernel
theorem dX11_plan_141 : decode cX11_plan 141 = .ok (.iload_n 3, 1) := by decide +kernel
theorem dX11_plan_142 : decode cX11_plan 142 = .ok (.goto 15, 3) := by decide +kernel
theorem dX11_plan_145 : decode cX11_plan 145 = .ok (.iload_n 1, 1) := by decide +kernel
theorem dX11_plan_146 : decode cX11_plan 146 = .ok (.iconst 2, 1) := by decide +kernel
theorem dX11_plan_147 : decode cX11_plan 147 = .ok (.if_icmp .ne 8, 3) := by decide +kernel
theorem dX11_plan_150 : decode cX11_plan 150 = .ok (.iload 4, 2) := by decide +kernel
theorem dX11_plan_152 : decode cX11_plan 152 = .ok (.goto 5, 3) := by decide +kernel
theorem dX11_plan_155 : decode cX11_plan 155 = .ok (.iload 5, 2) := by decide +kernel
theorem dX11_plan_157 : decode cX11_plan 157 = .ok (.ireturn, 1) := by decide +kernel
theorem dX11_isEnough_0 : decode cX11_isEnough 0 = .ok (.iconst 0, 1) := by decide +kernel
theorem dX11_isEnough_1 : decode cX11_isEnough 1 = .ok (.istore_n 2, 1) := by decide +kernel
theorem dX11_isEnough_2 : decode cX11_isEnough 2 = .ok (.iload_n 2, 1) := by decide +kernel
theorem dX11_isEnough_3 : decode cX11_isEnough 3 = .ok (.aload_n 0, 1) := by decide +kernel
theorem dX11_isEnough_4 : decode cX11_isEnough 4 = .ok (.getfield 13, 3) := by decide +kernel
theorem dX11_isEnough_7 : decode cX11_isEnough 7 = .ok (.iconst 0, 1) := by decide +kernel
theorem dX11_isEnough_8 : decode cX11_isEnough 8 = .ok (.iaload, 1) := by decide +kernel
theorem dX11_isEnough_9 : decode cX11_isEnough 9 = .ok (.if_icmp .ge 29, 3) := by decide +kernel
theorem dX11_isEnough_12 : decode cX11_isEnough 12 = .ok (.aload_n 0, 1) := by decide +kernel
theorem dX11_isEnough_13 : decode cX11_isEnough 13 = .ok (.getfield 55, 3) := by decide +kernel
theorem dX11_isEnough_16 : decode cX11_isEnough 16 = .ok (.bipush 6, 2) := by decide +kernel
theorem dX11_isEnough_18 : decode cX11_isEnough 18 = .ok (.iload_n 1, 1) := by decide +kernel
theorem dX11_isEnough_19 : decode cX11_isEnough 19 = .ok (.imul, 1) := by decide +kernel
theorem dX11_isEnough_20 : decode cX11_isEnough 20 = .ok (.iload_n 2, 1) := by decide +kernel
theorem dX11_isEnough_21 : decode cX11_isEnough 21 = .ok (.iadd, 1) := by decide +kernel
theorem dX11_isEnough_22 : decode cX11_isEnough 22 = .ok (.iaload, 1) := by decide +kernel
theorem dX11_isEnough_23 : decode cX11_isEnough 23 = .ok (.aload_n 0, 1) := by decide +kernel
theorem dX11_isEnough_24 : decode cX11_isEnough 24 = .ok (.invokevirtual 231, 3) := by decide +kernel
theorem dX11_isEnough_27 : decode cX11_isEnough 27 = .ok (.if_icmp .eq 5, 3) := by decide +kernel
theorem dX11_isEnough_30 : decode cX11_isEnough 30 = .ok (.iconst 0, 1) := by decide +kernel
theorem dX11_isEnough_31 : decode cX11_isEnough 31 = .ok (.ireturn, 1) := by decide +kernel
theorem dX11_isEnough_32 : decode cX11_isEnough 32 = .ok (.iinc 2 1, 3) := by decide +kernel
theorem dX11_isEnough_35 : decode cX11_isEnough 35 = .ok (.goto (-33), 3) := by decide +kernel
theorem dX11_isEnough_38 : decode cX11_isEnough 38 = .ok (.iconst 1, 1) := by decide +kernel
theorem dX11_isEnough_39 : decode cX11_isEnough 39 = .ok (.ireturn, 1) := by decide +kernel
theorem dX11_canBe_0 : decode cX11_canBe 0 = .ok (.aload_n 0, 1) := by decide +kernel
theorem dX11_canBe_1 : decode cX11_canBe 1 = .ok (.getfield 252, 3) := by decide +kernel
theorem dX11_canBe_4 : decode cX11_canBe 4 = .ok (.iload_n 1, 1) := by decide +kernel
theorem dX11_canBe_5 : decode cX11_canBe 5 = .ok (.isub, 1) := by decide +kernel
theorem dX11_canBe_6 : decode cX11_canBe 6 = .ok (.istore_n 2, 1) := by decide +kernel
theorem dX11_canBe_7 : decode cX11_canBe 7 = .ok (.iconst 0, 1) := by decide +kernel
theorem dX11_canBe_8 : decode cX11_canBe 8 = .ok (.istore_n 3, 1) := by decide +kernel
theorem dX11_canBe_9 : decode cX11_canBe 9 = .ok (.iload_n 3, 1) := by decide +kernel
theorem dX11_canBe_10 : decode cX11_canBe 10 = .ok (.aload_n 0, 1) := by decide +kernel
theorem dX11_canBe_11 : decode cX11_canBe 11 = .ok (.getfield 13, 3) := by decide +kernel
theorem dX11_canBe_14 : decode cX11_canBe 14 = .ok (.iconst 0, 1) := by decide +kernel
theorem dX11_canBe_15 : decode cX11_canBe 15 = .ok (.iaload, 1) := by decide +kernel
theorem dX11_canBe_16 : decode cX11_canBe 16 = .ok (.if_icmp .ge 43, 3) := by decide +kernel
theorem dX11_canBe_19 : decode cX11_canBe 19 = .ok (.aload_n 0, 1) := by decide +kernel
theorem dX11_canBe_20 : decode cX11_canBe 20 = .ok (.getfield 55, 3) := by decide +kernel
theorem dX11_canBe_23 : decode cX11_canBe 23 = .ok (.bipush 6, 2) := by decide +kernel
theorem dX11_canBe_25 : decode cX11_canBe 25 = .ok (.iload_n 1, 1) := by decide +kernel
theorem dX11_canBe_26 : decode cX11_canBe 26 = .ok (.imul, 1) := by decide +kernel
theorem dX11_canBe_27 : decode cX11_canBe 27 = .ok (.aload_n 0, 1) := by decide +kernel
theorem dX11_canBe_28 : decode cX11_canBe 28 = .ok (.getfield 13, 3) := by decide +kernel
theorem dX11_canBe_31 : decode cX11_canBe 31 = .ok (.iconst 0, 1) := by decide +kernel
theorem dX11_canBe_32 : decode cX11_canBe 32 = .ok (.iaload, 1) := by decide +kernel
theorem dX11_canBe_33 : decode cX11_canBe 33 = .ok (.iload_n 3, 1) := by decide +kernel
theorem dX11_canBe_34 : decode cX11_canBe 34 = .ok (.invokestatic 213, 3) := by decide +kernel
theorem dX11_canBe_37 : decode cX11_canBe 37 = .ok (.invokestatic 192, 3) := by decide +kernel
theorem dX11_canBe_40 : decode cX11_canBe 40 = .ok (.iload_n 2, 1) := by decide +kernel
theorem dX11_canBe_41 : decode cX11_canBe 41 = .ok (.ishl, 1) := by decide +kernel
theorem dX11_canBe_42 : decode cX11_canBe 42 = .ok (.aload_n 0, 1) := by decide +kernel
theorem dX11_canBe_43 : decode cX11_canBe 43 = .ok (.getfield 13, 3) := by decide +kernel
theorem dX11_canBe_46 : decode cX11_canBe 46 = .ok (.iconst 0, 1) := by decide +kernel
theorem dX11_canBe_47 : decode cX11_canBe 47 = .ok (.iaload, 1) := by decide +kernel
theorem dX11_canBe_48 : decode cX11_canBe 48 = .ok (.if_icmp .ge 5, 3) := by decide +kernel
theorem dX11_canBe_51 : decode cX11_canBe 51 = .ok (.iconst 0, 1) := by decide +kernel
theorem dX11_canBe_52 : decode cX11_canBe 52 = .ok (.ireturn, 1) := by decide +kernel
theorem dX11_canBe_53 : decode cX11_canBe 53 = .ok (.iinc 3 1, 3) := by decide +kernel
theorem dX11_canBe_56 : decode cX11_canBe 56 = .ok (.goto (-47), 3) := by decide +kernel
theorem dX11_canBe_59 : decode cX11_canBe 59 = .ok (.iconst 1, 1) := by decide +kernel
theorem dX11_canBe_60 : decode cX11_canBe 60 = .ok (.ireturn, 1) := by decide +kernel
theorem dX11_comes_0 : decode cX11_comes 0 = .ok (.aload_n 0, 1) := by decide +kernel
theorem dX11_comes_1 : decode cX11_comes 1 = .ok (.iload_n 1, 1) := by decide +kernel
theorem dX11_comes_2 : decode cX11_comes 2 = .ok (.invokevirtual 255, 3) := by decide +kernel
theorem dX11_comes_5 : decode cX11_comes 5 = .ok (.ifCond .eq 5, 3) := by decide +kernel
theorem dX11_comes_8 : decode cX11_comes 8 = .ok (.iconst 1, 1) := by decide +kernel
theorem dX11_comes_9 : decode cX11_comes 9 = .ok (.ireturn, 1) := by decide +kernel
theorem dX11_comes_10 : decode cX11_comes 10 = .ok (.iload_n 1, 1) := by decide +kernel
theorem dX11_comes_11 : decode cX11_comes 11 = .ok (.aload_n 0, 1) := by decide +kernel
theorem dX11_comes_12 : decode cX11_comes 12 = .ok (.getfield 252, 3) := by decide +kernel
theorem dX11_comes_15 : decode cX11_comes 15 = .ok (.if_icmp .eq 11, 3) := by decide +kernel
theorem dX11_comes_18 : decode cX11_comes 18 = .ok (.aload_n 0, 1) := by decide +kernel
theorem dX11_comes_19 : decode cX11_comes 19 = .ok (.iload_n 1, 1) := by decide +kernel
theorem dX11_comes_20 : decode cX11_comes 20 = .ok (.invokevirtual 258, 3) := by decide +kernel
theorem dX11_comes_23 : decode cX11_comes 23 = .ok (.ifCond .ne 5, 3) := by decide +kernel
theorem dX11_comes_26 : decode cX11_comes 26 = .ok (.iconst 0, 1) := by decide +kernel
theorem dX11_comes_27 : decode cX11_comes 27 = .ok (.ireturn, 1) := by decide +kernel
theorem dX11_comes_28 : decode cX11_comes 28 = .ok (.iconst 0, 1) := by decide +kernel
theorem dX11_comes_29 : decode cX11_comes 29 = .ok (.istore_n 2, 1) := by decide +kernel
theorem dX11_comes_30 : decode cX11_comes 30 = .ok (.iload_n 2, 1) := by decide +kernel
theorem dX11_comes_31 : decode cX11_comes 31 = .ok (.aload_n 0, 1) := by decide +kernel
theorem dX11_comes_32 : decode cX11_comes 32 = .ok (.getfield 13, 3) := by decide +kernel
theorem dX11_comes_35 : decode cX11_comes 35 = .ok (.iconst 0, 1) := by decide +kernel
theorem dX11_comes_36 : decode cX11_comes 36 = .ok (.iaload, 1) := by decide +kernel
theorem dX11_comes_37 : decode cX11_comes 37 = .ok (.if_icmp .ge 34, 3) := by decide +kernel
theorem dX11_comes_40 : decode cX11_comes 40 = .ok (.aload_n 0, 1) := by decide +kernel
theorem dX11_comes_41 : decode cX11_comes 41 = .ok (.getfield 55, 3) := by decide +kernel
theorem dX11_comes_44 : decode cX11_comes 44 = .ok (.bipush 6, 2) := by decide +kernel
theorem dX11_comes_46 : decode cX11_comes 46 = .ok (.iload_n 1, 1) := by decide +kernel
theorem dX11_comes_47 : decode cX11_comes 47 = .ok (.imul, 1) := by decide +kernel
theorem dX11_comes_48 : decode cX11_comes 48 = .ok (.bipush 6, 2) := by decide +kernel
theorem dX11_comes_50 : decode cX11_comes 50 = .ok (.iadd, 1) := by decide +kernel
theorem dX11_comes_51 : decode cX11_comes 51 = .ok (.iload_n 2, 1) := by decide +kernel
theorem dX11_comes_52 : decode cX11_comes 52 = .ok (.iadd, 1) := by decide +kernel
theorem dX11_comes_53 : decode cX11_comes 53 = .ok (.aload_n 0, 1) := by decide +kernel
theorem dX11_comes_54 : decode cX11_comes 54 = .ok (.getfield 55, 3) := by decide +kernel
theorem dX11_comes_57 : decode cX11_comes 57 = .ok (.bipush 6, 2) := by decide +kernel
theorem dX11_comes_59 : decode cX11_comes 59 = .ok (.iload_n 1, 1) := by decide +kernel
theorem dX11_comes_60 : decode cX11_comes 60 = .ok (.imul, 1) := by decide +kernel
theorem dX11_comes_61 : decode cX11_comes 61 = .ok (.iload_n 2, 1) := by decide +kernel
theorem dX11_comes_62 : decode cX11_comes 62 = .ok (.iadd, 1) := by decide +kernel
theorem dX11_comes_63 : decode cX11_comes 63 = .ok (.iaload, 1) := by decide +kernel
theorem dX11_comes_64 : decode cX11_comes 64 = .ok (.iastore, 1) := by decide +kernel
theorem dX11_comes_65 : decode cX11_comes 65 = .ok (.iinc 2 1, 3) := by decide +kernel
theorem dX11_comes_68 : decode cX11_comes 68 = .ok (.goto (-38), 3) := by decide +kernel
theorem dX11_comes_71 : decode cX11_comes 71 = .ok (.aload_n 0, 1) := by decide +kernel
theorem dX11_comes_72 : decode cX11_comes 72 = .ok (.iload_n 1, 1) := by decide +kernel
theorem dX11_comes_73 : decode cX11_comes 73 = .ok (.aload_n 0, 1) := by decide +kernel
theorem dX11_comes_74 : decode cX11_comes 74 = .ok (.invokevirtual 231, 3) := by decide +kernel
theorem dX11_comes_77 : decode cX11_comes 77 = .ok (.iconst 0, 1) := by decide +kernel
theorem dX11_comes_78 : decode cX11_comes 78 = .ok (.invokevirtual 261, 3) := by decide +kernel
theorem dX11_comes_81 : decode cX11_comes 81 = .ok (.ireturn, 1) := by decide +kernel
theorem dX11_pairs_0 : decode cX11_pairs 0 = .ok (.iload_n 2, 1) := by decide +kernel
theorem dX11_pairs_1 : decode cX11_pairs 1 = .ok (.ifCond .ne 28, 3) := by decide +kernel
theorem dX11_pairs_4 : decode cX11_pairs 4 = .ok (.aload_n 0, 1) := by decide +kernel
theorem dX11_pairs_5 : decode cX11_pairs 5 = .ok (.iload_n 1, 1) := by decide +kernel
theorem dX11_pairs_6 : decode cX11_pairs 6 = .ok (.iload_n 3, 1) := by decide +kernel
theorem dX11_pairs_7 : decode cX11_pairs 7 = .ok (.invokevirtual 264, 3) := by decide +kernel
theorem dX11_pairs_10 : decode cX11_pairs 10 = .ok (.ifCond .ne 17, 3) := by decide +kernel
theorem dX11_pairs_13 : decode cX11_pairs 13 = .ok (.aload_n 0, 1) := by decide +kernel
theorem dX11_pairs_14 : decode cX11_pairs 14 = .ok (.iload_n 1, 1) := by decide +kernel
theorem dX11_pairs_15 : decode cX11_pairs 15 = .ok (.iconst 1, 1) := by decide +kernel
theorem dX11_pairs_16 : decode cX11_pairs 16 = .ok (.iadd, 1) := by decide +kernel
theorem dX11_pairs_17 : decode cX11_pairs 17 = .ok (.invokevirtual 267, 3) := by decide +kernel
theorem dX11_pairs_20 : decode cX11_pairs 20 = .ok (.ifCond .eq 7, 3) := by decide +kernel
theorem dX11_pairs_23 : decode cX11_pairs 23 = .ok (.iconst 1, 1) := by decide +kernel
theorem dX11_pairs_24 : decode cX11_pairs 24 = .ok (.goto 4, 3) := by decide +kernel
theorem dX11_pairs_27 : decode cX11_pairs 27 = .ok (.iconst 0, 1) := by decide +kernel
theorem dX11_pairs_28 : decode cX11_pairs 28 = .ok (.ireturn, 1) := by decide +kernel
theorem dX11_pairs_29 : decode cX11_pairs 29 = .ok (.iload_n 2, 1) := by decide +kernel
theorem dX11_pairs_30 : decode cX11_pairs 30 = .ok (.invokestatic 234, 3) := by decide +kernel
theorem dX11_pairs_33 : decode cX11_pairs 33 = .ok (.istore 4, 2) := by decide +kernel
theorem dX11_pairs_35 : decode cX11_pairs 35 = .ok (.iload_n 2, 1) := by decide +kernel
theorem dX11_pairs_36 : decode cX11_pairs 36 = .ok (.iconst 1, 1) := by decide +kernel
theorem dX11_pairs_37 : decode cX11_pairs 37 = .ok (.iload 4, 2) := by decide +kernel
theorem dX11_pairs_39 : decode cX11_pairs 39 = .ok (.ishl, 1) := by decide +kernel
theorem dX11_pairs_40 : decode cX11_pairs 40 = .ok (.isub, 1) := by decide +kernel
theorem dX11_pairs_41 : decode cX11_pairs 41 = .ok (.istore 5, 2) := by decide +kernel
theorem dX11_pairs_43 : decode cX11_pairs 43 = .ok (.iload_n 1, 1) := by decide +kernel
theorem dX11_pairs_44 : decode cX11_pairs 44 = .ok (.iconst 1, 1) := by decide +kernel
theorem dX11_pairs_45 : decode cX11_pairs 45 = .ok (.iadd, 1) := by decide +kernel
theorem dX11_pairs_46 : decode cX11_pairs 46 = .ok (.aload_n 0, 1) := by decide +kernel
theorem dX11_pairs_47 : decode cX11_pairs 47 = .ok (.getfield 252, 3) := by decide +kernel
theorem dX11_pairs_50 : decode cX11_pairs 50 = .ok (.if_icmp .ne 7, 3) := by decide +kernel
theorem dX11_pairs_53 : decode cX11_pairs 53 = .ok (.iconst 1, 1) := by decide +kernel
theorem dX11_pairs_54 : decode cX11_pairs 54 = .ok (.goto 4, 3) := by decide +kernel
theorem dX11_pairs_57 : decode cX11_pairs 57 = .ok (.iconst 0, 1) := by decide +kernel
theorem dX11_pairs_58 : decode cX11_pairs 58 = .ok (.istore 6, 2) := by decide +kernel
theorem dX11_pairs_60 : decode cX11_pairs 60 = .ok (.iconst 0, 1) := by decide +kernel
theorem dX11_pairs_61 : decode cX11_pairs 61 = .ok (.istore 7, 2) := by decide +kernel
theorem dX11_pairs_63 : decode cX11_pairs 63 = .ok (.iload 7, 2) := by decide +kernel
theorem dX11_pairs_65 : decode cX11_pairs 65 = .ok (.aload_n 0, 1) := by decide +kernel
theorem dX11_pairs_66 : decode cX11_pairs 66 = .ok (.getfield 13, 3) := by decide +kernel
theorem dX11_pairs_69 : decode cX11_pairs 69 = .ok (.iconst 0, 1) := by decide +kernel
theorem dX11_pairs_70 : decode cX11_pairs 70 = .ok (.iaload, 1) := by decide +kernel
theorem dX11_pairs_71 : decode cX11_pairs 71 = .ok (.if_icmp .ge 266, 3) := by decide +kernel
theorem dX11_pairs_74 : decode cX11_pairs 74 = .ok (.iload 5, 2) := by decide +kernel
theorem dX11_pairs_76 : decode cX11_pairs 76 = .ok (.iload 7, 2) := by decide +kernel
theorem dX11_pairs_78 : decode cX11_pairs 78 = .ok (.invokestatic 201, 3) := by decide +kernel
theorem dX11_pairs_81 : decode cX11_pairs 81 = .ok (.ifCond .ne 6, 3) := by decide +kernel
theorem dX11_pairs_84 : decode cX11_pairs 84 = .ok (.goto 247, 3) := by decide +kernel
theorem dX11_pairs_87 : decode cX11_pairs 87 = .ok (.aload_n 0, 1) := by decide +kernel
theorem dX11_pairs_88 : decode cX11_pairs 88 = .ok (.iload_n 1, 1) := by decide +kernel
theorem dX11_pairs_89 : decode cX11_pairs 89 = .ok (.iload 4, 2) := by decide +kernel
theorem dX11_pairs_91 : decode cX11_pairs 91 = .ok (.iload 7, 2) := by decide +kernel
theorem dX11_pairs_93 : decode cX11_pairs 93 = .ok (.invokevirtual 270, 3) := by decide +kernel
theorem dX11_pairs_96 : decode cX11_pairs 96 = .ok (.istore 8, 2) := by decide +kernel
theorem dX11_pairs_98 : decode cX11_pairs 98 = .ok (.iconst 1, 1) := by decide +kernel
theorem dX11_pairs_99 : decode cX11_pairs 99 = .ok (.istore 9, 2) := by decide +kernel
theorem dX11_pairs_101 : decode cX11_pairs 101 = .ok (.iload 9, 2) := by decide +kernel
theorem dX11_pairs_103 : decode cX11_pairs 103 = .ok (.iconst 4, 1) := by decide +kernel
theorem dX11_pairs_104 : decode cX11_pairs 104 = .ok (.if_icmp .ge 227, 3) := by decide +kernel
theorem dX11_pairs_107 : decode cX11_pairs 107 = .ok (.iload 8, 2) := by decide +kernel
theorem dX11_pairs_109 : decode cX11_pairs 109 = .ok (.iload 9, 2) := by decide +kernel
theorem dX11_pairs_111 : decode cX11_pairs 111 = .ok (.invokestatic 201, 3) := by decide +kernel
theorem dX11_pairs_114 : decode cX11_pairs 114 = .ok (.ifCond .ne 6, 3) := by decide +kernel
theorem dX11_pairs_117 : decode cX11_pairs 117 = .ok (.goto 208, 3) := by decide +kernel
theorem dX11_pairs_120 : decode cX11_pairs 120 = .ok (.aload_n 0, 1) := by decide +kernel
theorem dX11_pairs_121 : decode cX11_pairs 121 = .ok (.getfield 55, 3) := by decide +kernel
theorem dX11_pairs_124 : decode cX11_pairs 124 = .ok (.bipush 6, 2) := by decide +kernel
theorem dX11_pairs_126 : decode cX11_pairs 126 = .ok (.iload_n 1, 1) := by decide +kernel
theorem dX11_pairs_127 : decode cX11_pairs 127 = .ok (.imul, 1) := by decide +kernel
theorem dX11_pairs_128 : decode cX11_pairs 128 = .ok (.iload 4, 2) := by decide +kernel
theorem dX11_pairs_130 : decode cX11_pairs 130 = .ok (.iadd, 1) := by decide +kernel
theorem dX11_pairs_131 : decode cX11_pairs 131 = .ok (.iaload, 1) := by decide +kernel
theorem dX11_pairs_132 : decode cX11_pairs 132 = .ok (.istore 10, 2) := by decide +kernel
theorem dX11_pairs_134 : decode cX11_pairs 134 = .ok (.aload_n 0, 1) := by decide +kernel
theorem dX11_pairs_135 : decode cX11_pairs 135 = .ok (.getfield 55, 3) := by decide +kernel
theorem dX11_pairs_138 : decode cX11_pairs 138 = .ok (.bipush 6, 2) := by decide +kernel
theorem dX11_pairs_140 : decode cX11_pairs 140 = .ok (.iload_n 1, 1) := by decide +kernel
theorem dX11_pairs_141 : decode cX11_pairs 141 = .ok (.imul, 1) := by decide +kernel
theorem dX11_pairs_142 : decode cX11_pairs 142 = .ok (.iload 7, 2) := by decide +kernel
theorem dX11_pairs_144 : decode cX11_pairs 144 = .ok (.iadd, 1) := by decide +kernel
theorem dX11_pairs_145 : decode cX11_pairs 145 = .ok (.iaload, 1) := by decide +kernel
theorem dX11_pairs_146 : decode cX11_pairs 146 = .ok (.istore 11, 2) := by decide +kernel
theorem dX11_pairs_148 : decode cX11_pairs 148 = .ok (.aload_n 0, 1) := by decide +kernel
theorem dX11_pairs_149 : decode cX11_pairs 149 = .ok (.getfield 55, 3) := by decide +kernel
theorem dX11_pairs_152 : decode cX11_pairs 152 = .ok (.bipush 6, 2) := by decide +kernel
theorem dX11_pairs_154 : decode cX11_pairs 154 = .ok (.iload_n 1, 1) := by decide +kernel
theorem dX11_pairs_155 : decode cX11_pairs 155 = .ok (.imul, 1) := by decide +kernel
theorem dX11_pairs_156 : decode cX11_pairs 156 = .ok (.bipush 6, 2) := by decide +kernel
theorem dX11_pairs_158 : decode cX11_pairs 158 = .ok (.iadd, 1) := by decide +kernel
theorem dX11_pairs_159 : decode cX11_pairs 159 = .ok (.iload 4, 2) := by decide +kernel
theorem dX11_pairs_161 : decode cX11_pairs 161 = .ok (.iadd, 1) := by decide +kernel
theorem dX11_pairs_162 : decode cX11_pairs 162 = .ok (.iload 9, 2) := by decide +kernel
theorem dX11_pairs_164 : decode cX11_pairs 164 = .ok (.iconst 2, 1) := by decide +kernel
theorem dX11_pairs_165 : decode cX11_pairs 165 = .ok (.iand, 1) := by decide +kernel
theorem dX11_pairs_166 : decode cX11_pairs 166 = .ok (.ifCond .ne 8, 3) := by decide +kernel
theorem dX11_pairs_169 : decode cX11_pairs 169 = .ok (.iload 10, 2) := by decide +kernel
theorem dX11_pairs_171 : decode cX11_pairs 171 = .ok (.goto 8, 3) := by decide +kernel
theorem dX11_pairs_174 : decode cX11_pairs 174 = .ok (.iload 10, 2) := by decide +kernel
theorem dX11_pairs_176 : decode cX11_pairs 176 = .ok (.iload 11, 2) := by decide +kernel
theorem dX11_pairs_178 : decode cX11_pairs 178 = .ok (.ior, 1) := by decide +kernel
theorem dX11_pairs_179 : decode cX11_pairs 179 = .ok (.iastore, 1) := by decide +kernel
theorem dX11_pairs_180 : decode cX11_pairs 180 = .ok (.aload_n 0, 1) := by decide +kernel
theorem dX11_pairs_181 : decode cX11_pairs 181 = .ok (.getfield 55, 3) := by decide +kernel
theorem dX11_pairs_184 : decode cX11_pairs 184 = .ok (.bipush 6, 2) := by decide +kernel
theorem dX11_pairs_186 : decode cX11_pairs 186 = .ok (.iload_n 1, 1) := by decide +kernel
theorem dX11_pairs_187 : decode cX11_pairs 187 = .ok (.imul, 1) := by decide +kernel
theorem dX11_pairs_188 : decode cX11_pairs 188 = .ok (.bipush 6, 2) := by decide +kernel
theorem dX11_pairs_190 : decode cX11_pairs 190 = .ok (.iadd, 1) := by decide +kernel
theorem dX11_pairs_191 : decode cX11_pairs 191 = .ok (.iload 7, 2) := by decide +kernel
theorem dX11_pairs_193 : decode cX11_pairs 193 = .ok (.iadd, 1) := by decide +kernel
theorem dX11_pairs_194 : decode cX11_pairs 194 = .ok (.iload 9, 2) := by decide +kernel
theorem dX11_pairs_196 : decode cX11_pairs 196 = .ok (.iconst 1, 1) := by decide +kernel
theorem dX11_pairs_197 : decode cX11_pairs 197 = .ok (.iand, 1) := by decide +kernel
theorem dX11_pairs_198 : decode cX11_pairs 198 = .ok (.ifCond .ne 8, 3) := by decide +kernel
theorem dX11_pairs_201 : decode cX11_pairs 201 = .ok (.iload 11, 2) := by decide +kernel
theorem dX11_pairs_203 : decode cX11_pairs 203 = .ok (.goto 8, 3) := by decide +kernel
theorem dX11_pairs_206 : decode cX11_pairs 206 = .ok (.iload 10, 2) := by decide +kernel
theorem dX11_pairs_208 : decode cX11_pairs 208 = .ok (.iload 11, 2) := by decide +kernel
theorem dX11_pairs_210 : decode cX11_pairs 210 = .ok (.ior, 1) := by decide +kernel
theorem dX11_pairs_211 : decode cX11_pairs 211 = .ok (.iastore, 1) := by decide +kernel
theorem dX11_pairs_212 : decode cX11_pairs 212 = .ok (.iload 6, 2) := by decide +kernel
theorem dX11_pairs_214 : decode cX11_pairs 214 = .ok (.ifCond .eq 47, 3) := by decide +kernel
theorem dX11_pairs_217 : decode cX11_pairs 217 = .ok (.aload_n 0, 1) := by decide +kernel
theorem dX11_pairs_218 : decode cX11_pairs 218 = .ok (.getfield 55, 3) := by decide +kernel
theorem dX11_pairs_221 : decode cX11_pairs 221 = .ok (.bipush 6, 2) := by decide +kernel
theorem dX11_pairs_223 : decode cX11_pairs 223 = .ok (.iload_n 1, 1) := by decide +kernel
theorem dX11_pairs_224 : decode cX11_pairs 224 = .ok (.imul, 1) := by decide +kernel
theorem dX11_pairs_225 : decode cX11_pairs 225 = .ok (.bipush 6, 2) := by decide +kernel
theorem dX11_pairs_227 : decode cX11_pairs 227 = .ok (.iadd, 1) := by decide +kernel
theorem dX11_pairs_228 : decode cX11_pairs 228 = .ok (.iload 4, 2) := by decide +kernel
theorem dX11_pairs_230 : decode cX11_pairs 230 = .ok (.iadd, 1) := by decide +kernel
theorem dX11_pairs_231 : decode cX11_pairs 231 = .ok (.iaload, 1) := by decide +kernel
theorem dX11_pairs_232 : decode cX11_pairs 232 = .ok (.aload_n 0, 1) := by decide +kernel
theorem dX11_pairs_233 : decode cX11_pairs 233 = .ok (.invokevirtual 231, 3) := by decide +kernel
theorem dX11_pairs_236 : decode cX11_pairs 236 = .ok (.if_icmp .ne 29, 3) := by decide +kernel
theorem dX11_pairs_239 : decode cX11_pairs 239 = .ok (.aload_n 0, 1) := by decide +kernel
theorem dX11_pairs_240 : decode cX11_pairs 240 = .ok (.getfield 55, 3) := by decide +kernel
theorem dX11_pairs_243 : decode cX11_pairs 243 = .ok (.bipush 6, 2) := by decide +kernel
theorem dX11_pairs_245 : decode cX11_pairs 245 = .ok (.iload_n 1, 1) := by decide +kernel
theorem dX11_pairs_246 : decode cX11_pairs 246 = .ok (.imul, 1) := by decide +kernel
theorem dX11_pairs_247 : decode cX11_pairs 247 = .ok (.bipush 6, 2) := by decide +kernel
theorem dX11_pairs_249 : decode cX11_pairs 249 = .ok (.iadd, 1) := by decide +kernel
theorem dX11_pairs_250 : decode cX11_pairs 250 = .ok (.iload 7, 2) := by decide +kernel
theorem dX11_pairs_252 : decode cX11_pairs 252 = .ok (.iadd, 1) := by decide +kernel
theorem dX11_pairs_253 : decode cX11_pairs 253 = .ok (.iaload, 1) := by decide +kernel
theorem dX11_pairs_254 : decode cX11_pairs 254 = .ok (.aload_n 0, 1) := by decide +kernel
theorem dX11_pairs_255 : decode cX11_pairs 255 = .ok (.invokevirtual 231, 3) := by decide +kernel
theorem dX11_pairs_258 : decode cX11_pairs 258 = .ok (.if_icmp .ne 7, 3) := by decide +kernel
theorem dX11_pairs_261 : decode cX11_pairs 261 = .ok (.iconst 1, 1) := by decide +kernel
theorem dX11_pairs_262 : decode cX11_pairs 262 = .ok (.goto 4, 3) := by decide +kernel
theorem dX11_pairs_265 : decode cX11_pairs 265 = .ok (.iconst 0, 1) := by decide +kernel
theorem dX11_pairs_266 : decode cX11_pairs 266 = .ok (.istore 12, 2) := by decide +kernel
theorem dX11_pairs_268 : decode cX11_pairs 268 = .ok (.iload 12, 2) := by decide +kernel
theorem dX11_pairs_270 : decode cX11_pairs 270 = .ok (.ifCond .eq 21, 3) := by decide +kernel
theorem dX11_pairs_273 : decode cX11_pairs 273 = .ok (.aload_n 0, 1) := by decide +kernel
theorem dX11_pairs_274 : decode cX11_pairs 274 = .ok (.iload_n 1, 1) := by decide +kernel
theorem dX11_pairs_275 : decode cX11_pairs 275 = .ok (.iload 5, 2) := by decide +kernel
theorem dX11_pairs_277 : decode cX11_pairs 277 = .ok (.iconst 1, 1) := by decide +kernel
theorem dX11_pairs_278 : decode cX11_pairs 278 = .ok (.iload 7, 2) := by decide +kernel
theorem dX11_pairs_280 : decode cX11_pairs 280 = .ok (.ishl, 1) := by decide +kernel
theorem dX11_pairs_281 : decode cX11_pairs 281 = .ok (.isub, 1) := by decide +kernel
theorem dX11_pairs_282 : decode cX11_pairs 282 = .ok (.iload_n 3, 1) := by decide +kernel
theorem dX11_pairs_283 : decode cX11_pairs 283 = .ok (.invokevirtual 261, 3) := by decide +kernel
theorem dX11_pairs_286 : decode cX11_pairs 286 = .ok (.ifCond .eq 5, 3) := by decide +kernel
theorem dX11_pairs_289 : decode cX11_pairs 289 = .ok (.iconst 1, 1) := by decide +kernel
theorem dX11_pairs_290 : decode cX11_pairs 290 = .ok (.ireturn, 1) := by decide +kernel
theorem dX11_pairs_291 : decode cX11_pairs 291 = .ok (.aload_n 0, 1) := by decide +kernel
theorem dX11_pairs_292 : decode cX11_pairs 292 = .ok (.getfield 55, 3) := by decide +kernel
theorem dX11_pairs_295 : decode cX11_pairs 295 = .ok (.bipush 6, 2) := by decide +kernel
theorem dX11_pairs_297 : decode cX11_pairs 297 = .ok (.iload_n 1, 1) := by decide +kernel
theorem dX11_pairs_298 : decode cX11_pairs 298 = .ok (.imul, 1) := by decide +kernel
theorem dX11_pairs_299 : decode cX11_pairs 299 = .ok (.bipush 6, 2) := by decide +kernel
theorem dX11_pairs_301 : decode cX11_pairs 301 = .ok (.iadd, 1) := by decide +kernel
theorem dX11_pairs_302 : decode cX11_pairs 302 = .ok (.iload 4, 2) := by decide +kernel
theorem dX11_pairs_304 : decode cX11_pairs 304 = .ok (.iadd, 1) := by decide +kernel
theorem dX11_pairs_305 : decode cX11_pairs 305 = .ok (.iload 10, 2) := by decide +kernel
theorem dX11_pairs_307 : decode cX11_pairs 307 = .ok (.iastore, 1) := by decide +kernel
theorem dX11_pairs_308 : decode cX11_pairs 308 = .ok (.aload_n 0, 1) := by decide +kernel
theorem dX11_pairs_309 : decode cX11_pairs 309 = .ok (.getfield 55, 3) := by decide +kernel
theorem dX11_pairs_312 : decode cX11_pairs 312 = .ok (.bipush 6, 2) := by decide +kernel
theorem dX11_pairs_314 : decode cX11_pairs 314 = .ok (.iload_n 1, 1) := by decide +kernel
theorem dX11_pairs_315 : decode cX11_pairs 315 = .ok (.imul, 1) := by decide +kernel
theorem dX11_pairs_316 : decode cX11_pairs 316 = .ok (.bipush 6, 2) := by decide +kernel
theorem dX11_pairs_318 : decode cX11_pairs 318 = .ok (.iadd, 1) := by decide +kernel
theorem dX11_pairs_319 : decode cX11_pairs 319 = .ok (.iload 7, 2) := by decide +kernel
theorem dX11_pairs_321 : decode cX11_pairs 321 = .ok (.iadd, 1) := by decide +kernel
theorem dX11_pairs_322 : decode cX11_pairs 322 = .ok (.iload 11, 2) := by decide +kernel
theorem dX11_pairs_324 : decode cX11_pairs 324 = .ok (.iastore, 1) := by decide +kernel
theorem dX11_pairs_325 : decode cX11_pairs 325 = .ok (.iinc 9 1, 3) := by decide +kernel
theorem dX11_pairs_328 : decode cX11_pairs 328 = .ok (.goto (-227), 3) := by decide +kernel
theorem dX11_pairs_331 : decode cX11_pairs 331 = .ok (.iinc 7 1, 3) := by decide +kernel
theorem dX11_pairs_334 : decode cX11_pairs 334 = .ok (.goto (-271), 3) := by decide +kernel
theorem dX11_pairs_337 : decode cX11_pairs 337 = .ok (.iload 6, 2) := by decide +kernel
theorem dX11_pairs_339 : decode cX11_pairs 339 = .ok (.ifCond .eq 22, 3) := by decide +kernel
theorem dX11_pairs_342 : decode cX11_pairs 342 = .ok (.aload_n 0, 1) := by decide +kernel
theorem dX11_pairs_343 : decode cX11_pairs 343 = .ok (.getfield 55, 3) := by decide +kernel
theorem dX11_pairs_346 : decode cX11_pairs 346 = .ok (.bipush 6, 2) := by decide +kernel
theorem dX11_pairs_348 : decode cX11_pairs 348 = .ok (.iload_n 1, 1) := by decide +kernel
theorem dX11_pairs_349 : decode cX11_pairs 349 = .ok (.imul, 1) := by decide +kernel
theorem dX11_pairs_350 : decode cX11_pairs 350 = .ok (.iload 4, 2) := by decide +kernel
theorem dX11_pairs_352 : decode cX11_pairs 352 = .ok (.iadd, 1) := by decide +kernel
theorem dX11_pairs_353 : decode cX11_pairs 353 = .ok (.iaload, 1) := by decide +kernel
theorem dX11_pairs_354 : decode cX11_pairs 354 = .ok (.aload_n 0, 1) := by decide +kernel
theorem dX11_pairs_355 : decode cX11_pairs 355 = .ok (.invokevirtual 231, 3) := by decide +kernel
theorem dX11_pairs_358 : decode cX11_pairs 358 = .ok (.if_icmp .ne 23, 3) := by decide +kernel
theorem dX11_pairs_361 : decode cX11_pairs 361 = .ok (.aload_n 0, 1) := by decide +kernel
theorem dX11_pairs_362 : decode cX11_pairs 362 = .ok (.iload_n 1, 1) := by decide +kernel
theorem dX11_pairs_363 : decode cX11_pairs 363 = .ok (.iload 5, 2) := by decide +kernel
theorem dX11_pairs_365 : decode cX11_pairs 365 = .ok (.iload_n 3, 1) := by decide +kernel
theorem dX11_pairs_366 : decode cX11_pairs 366 = .ok (.iconst 1, 1) := by decide +kernel
theorem dX11_pairs_367 : decode cX11_pairs 367 = .ok (.iload 4, 2) := by decide +kernel
theorem dX11_pairs_369 : decode cX11_pairs 369 = .ok (.ishl, 1) := by decide +kernel
theorem dX11_pairs_370 : decode cX11_pairs 370 = .ok (.ior, 1) := by decide +kernel
theorem dX11_pairs_371 : decode cX11_pairs 371 = .ok (.invokevirtual 261, 3) := by decide +kernel
theorem dX11_pairs_374 : decode cX11_pairs 374 = .ok (.ifCond .eq 7, 3) := by decide +kernel
theorem dX11_pairs_377 : decode cX11_pairs 377 = .ok (.iconst 1, 1) := by decide +kernel
theorem dX11_pairs_378 : decode cX11_pairs 378 = .ok (.goto 4, 3) := by decide +kernel
theorem dX11_pairs_381 : decode cX11_pairs 381 = .ok (.iconst 0, 1) := by decide +kernel
theorem dX11_pairs_382 : decode cX11_pairs 382 = .ok (.ireturn, 1) := by decide +kernel
theorem dX11_waysOf_0 : decode cX11_waysOf 0 = .ok (.iconst 0, 1) := by decide +kernel
theorem dX11_waysOf_1 : decode cX11_waysOf 1 = .ok (.istore 4, 2) := by decide +kernel
theorem dX11_waysOf_3 : decode cX11_waysOf 3 = .ok (.iconst 0, 1) := by decide +kernel
theorem dX11_waysOf_4 : decode cX11_waysOf 4 = .ok (.istore 5, 2) := by decide +kernel
theorem dX11_waysOf_6 : decode cX11_waysOf 6 = .ok (.iload 5, 2) := by decide +kernel
theorem dX11_waysOf_8 : decode cX11_waysOf 8 = .ok (.aload_n 0, 1) := by decide +kernel
theorem dX11_waysOf_9 : decode cX11_waysOf 9 = .ok (.getfield 13, 3) := by decide +kernel
theorem dX11_waysOf_12 : decode cX11_waysOf 12 = .ok (.iconst 1, 1) := by decide +kernel
theorem dX11_waysOf_13 : decode cX11_waysOf 13 = .ok (.iaload, 1) := by decide +kernel
theorem dX11_waysOf_14 : decode cX11_waysOf 14 = .ok (.if_icmp .ge 126, 3) := by decide +kernel
theorem dX11_waysOf_17 : decode cX11_waysOf 17 = .ok (.aload_n 0, 1) := by decide +kernel
theorem dX11_waysOf_18 : decode cX11_waysOf 18 = .ok (.getfield 16, 3) := by decide +kernel
theorem dX11_waysOf_21 : decode cX11_waysOf 21 = .ok (.iload 5, 2) := by decide +kernel
theorem dX11_waysOf_23 : decode cX11_waysOf 23 = .ok (.iaload, 1) := by decide +kernel
theorem dX11_waysOf_24 : decode cX11_waysOf 24 = .ok (.iload_n 2, 1) := by decide +kernel
theorem dX11_waysOf_25 : decode cX11_waysOf 25 = .ok (.if_icmp .ne 18, 3) := by decide +kernel
theorem dX11_waysOf_28 : decode cX11_waysOf 28 = .ok (.aload_n 0, 1) := by decide +kernel
theorem dX11_waysOf_29 : decode cX11_waysOf 29 = .ok (.getfield 19, 3) := by decide +kernel
theorem dX11_waysOf_32 : decode cX11_waysOf 32 = .ok (.iload 5, 2) := by decide +kernel
theorem dX11_waysOf_34 : decode cX11_waysOf 34 = .ok (.iaload, 1) := by decide +kernel
theorem dX11_waysOf_35 : decode cX11_waysOf 35 = .ok (.iload_n 3, 1) := by decide +kernel
theorem dX11_waysOf_36 : decode cX11_waysOf 36 = .ok (.if_icmp .ne 7, 3) := by decide +kernel
theorem dX11_waysOf_39 : decode cX11_waysOf 39 = .ok (.iconst 1, 1) := by decide +kernel
theorem dX11_waysOf_40 : decode cX11_waysOf 40 = .ok (.goto 4, 3) := by decide +kernel
theorem dX11_waysOf_43 : decode cX11_waysOf 43 = .ok (.iconst 0, 1) := by decide +kernel
theorem dX11_waysOf_44 : decode cX11_waysOf 44 = .ok (.istore 6, 2) := by decide +kernel
theorem dX11_waysOf_46 : decode cX11_waysOf 46 = .ok (.aload_n 0, 1) := by decide +kernel
theorem dX11_waysOf_47 : decode cX11_waysOf 47 = .ok (.getfield 16, 3) := by decide +kernel
theorem dX11_waysOf_50 : decode cX11_waysOf 50 = .ok (.iload 5, 2) := by decide +kernel
theorem dX11_waysOf_52 : decode cX11_waysOf 52 = .ok (.iaload, 1) := by decide +kernel
theorem dX11_waysOf_53 : decode cX11_waysOf 53 = .ok (.iload_n 3, 1) := by decide +kernel
theorem dX11_waysOf_54 : decode cX11_waysOf 54 = .ok (.if_icmp .ne 18, 3) := by decide +kernel
theorem dX11_waysOf_57 : decode cX11_waysOf 57 = .ok (.aload_n 0, 1) := by decide +kernel
theorem dX11_waysOf_58 : decode cX11_waysOf 58 = .ok (.getfield 19, 3) := by decide +kernel
theorem dX11_waysOf_61 : decode cX11_waysOf 61 = .ok (.iload 5, 2) := by decide +kernel
theorem dX11_waysOf_63 : decode cX11_waysOf 63 = .ok (.iaload, 1) := by decide +kernel
theorem dX11_waysOf_64 : decode cX11_waysOf 64 = .ok (.iload_n 2, 1) := by decide +kernel
theorem dX11_waysOf_65 : decode cX11_waysOf 65 = .ok (.if_icmp .ne 7, 3) := by decide +kernel
theorem dX11_waysOf_68 : decode cX11_waysOf 68 = .ok (.iconst 1, 1) := by decide +kernel
theorem dX11_waysOf_69 : decode cX11_waysOf 69 = .ok (.goto 4, 3) := by decide +kernel
theorem dX11_waysOf_72 : decode cX11_waysOf 72 = .ok (.iconst 0, 1) := by decide +kernel
theorem dX11_waysOf_73 : decode cX11_waysOf 73 = .ok (.istore 7, 2) := by decide +kernel
theorem dX11_waysOf_75 : decode cX11_waysOf 75 = .ok (.iload 6, 2) := by decide +kernel
theorem dX11_waysOf_77 : decode cX11_waysOf 77 = .ok (.ifCond .ne 8, 3) := by decide +kernel
theorem dX11_waysOf_80 : decode cX11_waysOf 80 = .ok (.iload 7, 2) := by decide +kernel
theorem dX11_waysOf_82 : decode cX11_waysOf 82 = .ok (.ifCond .eq 52, 3) := by decide +kernel
theorem dX11_waysOf_85 : decode cX11_waysOf 85 = .ok (.aload_n 0, 1) := by decide +kernel
theorem dX11_waysOf_86 : decode cX11_waysOf 86 = .ok (.iload 5, 2) := by decide +kernel
theorem dX11_waysOf_88 : decode cX11_waysOf 88 = .ok (.aload_n 0, 1) := by decide +kernel
theorem dX11_waysOf_89 : decode cX11_waysOf 89 = .ok (.getfield 7, 3) := by decide +kernel
theorem dX11_waysOf_92 : decode cX11_waysOf 92 = .ok (.iconst 0, 1) := by decide +kernel
theorem dX11_waysOf_93 : decode cX11_waysOf 93 = .ok (.iaload, 1) := by decide +kernel
theorem dX11_waysOf_94 : decode cX11_waysOf 94 = .ok (.iload_n 1, 1) := by decide +kernel
theorem dX11_waysOf_95 : decode cX11_waysOf 95 = .ok (.iadd, 1) := by decide +kernel
theorem dX11_waysOf_96 : decode cX11_waysOf 96 = .ok (.iconst 1, 1) := by decide +kernel
theorem dX11_waysOf_97 : decode cX11_waysOf 97 = .ok (.iadd, 1) := by decide +kernel
theorem dX11_waysOf_98 : decode cX11_waysOf 98 = .ok (.invokevirtual 207, 3) := by decide +kernel
theorem dX11_waysOf_101 : decode cX11_waysOf 101 = .ok (.ifCond .eq 33, 3) := by decide +kernel
theorem dX11_waysOf_104 : decode cX11_waysOf 104 = .ok (.iload 4, 2) := by decide +kernel
theorem dX11_waysOf_106 : decode cX11_waysOf 106 = .ok (.aload_n 0, 1) := by decide +kernel
theorem dX11_waysOf_107 : decode cX11_waysOf 107 = .ok (.getfield 22, 3) := by decide +kernel
theorem dX11_waysOf_110 : decode cX11_waysOf 110 = .ok (.iload 5, 2) := by decide +kernel
theorem dX11_waysOf_112 : decode cX11_waysOf 112 = .ok (.iaload, 1) := by decide +kernel
theorem dX11_waysOf_113 : decode cX11_waysOf 113 = .ok (.ifCond .ne 8, 3) := by decide +kernel
theorem dX11_waysOf_116 : decode cX11_waysOf 116 = .ok (.bipush 8, 2) := by decide +kernel
theorem dX11_waysOf_118 : decode cX11_waysOf 118 = .ok (.goto 13, 3) := by decide +kernel
theorem dX11_waysOf_121 : decode cX11_waysOf 121 = .ok (.iload 6, 2) := by decide +kernel
theorem dX11_waysOf_123 : decode cX11_waysOf 123 = .ok (.ifCond .eq 7, 3) := by decide +kernel
theorem dX11_waysOf_126 : decode cX11_waysOf 126 = .ok (.iconst 2, 1) := by decide +kernel
theorem dX11_waysOf_127 : decode cX11_waysOf 127 = .ok (.goto 4, 3) := by decide +kernel
theorem dX11_waysOf_130 : decode cX11_waysOf 130 = .ok (.iconst 4, 1) := by decide +kernel
theorem dX11_waysOf_131 : decode cX11_waysOf 131 = .ok (.ior, 1) := by decide +kernel
theorem dX11_waysOf_132 : decode cX11_waysOf 132 = .ok (.istore 4, 2) := by decide +kernel
theorem dX11_waysOf_134 : decode cX11_waysOf 134 = .ok (.iinc 5 1, 3) := by decide +kernel
theorem dX11_waysOf_137 : decode cX11_waysOf 137 = .ok (.goto (-131), 3) := by decide +kernel
theorem dX11_waysOf_140 : decode cX11_waysOf 140 = .ok (.iload 4, 2) := by decide +kernel
theorem dX11_waysOf_142 : decode cX11_waysOf 142 = .ok (.iconst 3, 1) := by decide +kernel
theorem dX11_waysOf_143 : decode cX11_waysOf 143 = .ok (.invokestatic 201, 3) := by decide +kernel
theorem dX11_waysOf_146 : decode cX11_waysOf 146 = .ok (.ifCond .eq 8, 3) := by decide +kernel
theorem dX11_waysOf_149 : decode cX11_waysOf 149 = .ok (.bipush 8, 2) := by decide +kernel
theorem dX11_waysOf_151 : decode cX11_waysOf 151 = .ok (.goto 5, 3) := by decide +kernel
theorem dX11_waysOf_154 : decode cX11_waysOf 154 = .ok (.iload 4, 2) := by decide +kernel
theorem dX11_waysOf_156 : decode cX11_waysOf 156 = .ok (.ireturn, 1) := by decide +kernel
theorem dX11_isIdle_0 : decode cX11_isIdle 0 = .ok (.iconst 0, 1) := by decide +kernel
theorem dX11_isIdle_1 : decode cX11_isIdle 1 = .ok (.istore_n 3, 1) := by decide +kernel
theorem dX11_isIdle_2 : decode cX11_isIdle 2 = .ok (.iload_n 3, 1) := by decide +kernel
theorem dX11_isIdle_3 : decode cX11_isIdle 3 = .ok (.aload_n 0, 1) := by decide +kernel
theorem dX11_isIdle_4 : decode cX11_isIdle 4 = .ok (.getfield 13, 3) := by decide +kernel
theorem dX11_isIdle_7 : decode cX11_isIdle 7 = .ok (.iconst 0, 1) := by decide +kernel
theorem dX11_isIdle_8 : decode cX11_isIdle 8 = .ok (.iaload, 1) := by decide +kernel
theorem dX11_isIdle_9 : decode cX11_isIdle 9 = .ok (.if_icmp .ge 61, 3) := by decide +kernel
theorem dX11_isIdle_12 : decode cX11_isIdle 12 = .ok (.iload_n 3, 1) := by decide +kernel
theorem dX11_isIdle_13 : decode cX11_isIdle 13 = .ok (.iconst 1, 1) := by decide +kernel
theorem dX11_isIdle_14 : decode cX11_isIdle 14 = .ok (.iadd, 1) := by decide +kernel
theorem dX11_isIdle_15 : decode cX11_isIdle 15 = .ok (.istore 4, 2) := by decide +kernel
theorem dX11_isIdle_17 : decode cX11_isIdle 17 = .ok (.iload 4, 2) := by decide +kernel
theorem dX11_isIdle_19 : decode cX11_isIdle 19 = .ok (.aload_n 0, 1) := by decide +kernel
theorem dX11_isIdle_20 : decode cX11_isIdle 20 = .ok (.getfield 13, 3) := by decide +kernel
theorem dX11_isIdle_23 : decode cX11_isIdle 23 = .ok (.iconst 0, 1) := by decide +kernel
theorem dX11_isIdle_24 : decode cX11_isIdle 24 = .ok (.iaload, 1) := by decide +kernel
theorem dX11_isIdle_25 : decode cX11_isIdle 25 = .ok (.if_icmp .ge 39, 3) := by decide +kernel
theorem dX11_isIdle_28 : decode cX11_isIdle 28 = .ok (.iload_n 2, 1) := by decide +kernel
theorem dX11_isIdle_29 : decode cX11_isIdle 29 = .ok (.iload_n 3, 1) := by decide +kernel
theorem dX11_isIdle_30 : decode cX11_isIdle 30 = .ok (.invokestatic 201, 3) := by decide +kernel
theorem dX11_isIdle_33 : decode cX11_isIdle 33 = .ok (.ifCond .eq 31, 3) := by decide +kernel
theorem dX11_isIdle_36 : decode cX11_isIdle 36 = .ok (.iload_n 2, 1) := by decide +kernel
theorem dX11_isIdle_37 : decode cX11_isIdle 37 = .ok (.iload 4, 2) := by decide +kernel
theorem dX11_isIdle_39 : decode cX11_isIdle 39 = .ok (.invokestatic 201, 3) := by decide +kernel
theorem dX11_isIdle_42 : decode cX11_isIdle 42 = .ok (.ifCond .eq 16, 3) := by decide +kernel
theorem dX11_isIdle_45 : decode cX11_isIdle 45 = .ok (.aload_n 0, 1) := by decide +kernel
theorem dX11_isIdle_46 : decode cX11_isIdle 46 = .ok (.iload_n 1, 1) := by decide +kernel
theorem dX11_isIdle_47 : decode cX11_isIdle 47 = .ok (.iload_n 3, 1) := by decide +kernel
theorem dX11_isIdle_48 : decode cX11_isIdle 48 = .ok (.iload 4, 2) := by decide +kernel
theorem dX11_isIdle_50 : decode cX11_isIdle 50 = .ok (.invokevirtual 270, 3) := by decide +kernel
theorem dX11_isIdle_53 : decode cX11_isIdle 53 = .ok (.ifCond .eq 5, 3) := by decide +kernel
theorem dX11_isIdle_56 : decode cX11_isIdle 56 = .ok (.iconst 1, 1) := by decide +kernel
theorem dX11_isIdle_57 : decode cX11_isIdle 57 = .ok (.ireturn, 1) := by decide +kernel
theorem dX11_isIdle_58 : decode cX11_isIdle 58 = .ok (.iinc 4 1, 3) := by decide +kernel
theorem dX11_isIdle_61 : decode cX11_isIdle 61 = .ok (.goto (-44), 3) := by decide +kernel
theorem dX11_isIdle_64 : decode cX11_isIdle 64 = .ok (.iinc 3 1, 3) := by decide +kernel
theorem dX11_isIdle_67 : decode cX11_isIdle 67 = .ok (.goto (-65), 3) := by decide +kernel
theorem dX11_isIdle_70 : decode cX11_isIdle 70 = .ok (.iconst 0, 1) := by decide +kernel
theorem dX11_isIdle_71 : decode cX11_isIdle 71 = .ok (.ireturn, 1) := by decide +kernel
theorem dX11_fewest_0 : decode cX11_fewest 0 = .ok (.aload_n 0, 1) := by decide +kernel
theorem dX11_fewest_1 : decode cX11_fewest 1 = .ok (.iconst 0, 1) := by decide +kernel
theorem dX11_fewest_2 : decode cX11_fewest 2 = .ok (.putfield 80, 3) := by decide +kernel
theorem dX11_fewest_5 : decode cX11_fewest 5 = .ok (.aload_n 0, 1) := by decide +kernel
theorem dX11_fewest_6 : decode cX11_fewest 6 = .ok (.iload_n 1, 1) := by decide +kernel
theorem dX11_fewest_7 : decode cX11_fewest 7 = .ok (.iconst 0, 1) := by decide +kernel
theorem dX11_fewest_8 : decode cX11_fewest 8 = .ok (.iconst 4, 1) := by decide +kernel
theorem dX11_fewest_9 : decode cX11_fewest 9 = .ok (.invokestatic 113, 3) := by decide +kernel
theorem dX11_fewest_12 : decode cX11_fewest 12 = .ok (.ifCond .ne 7, 3) := by decide +kernel
theorem dX11_fewest_15 : decode cX11_fewest 15 = .ok (.iconst 1, 1) := by decide +kernel
theorem dX11_fewest_16 : decode cX11_fewest 16 = .ok (.goto 4, 3) := by decide +kernel
theorem dX11_fewest_19 : decode cX11_fewest 19 = .ok (.iconst 0, 1) := by decide +kernel
theorem dX11_fewest_20 : decode cX11_fewest 20 = .ok (.iconst 1, 1) := by decide +kernel
theorem dX11_fewest_21 : decode cX11_fewest 21 = .ok (.invokevirtual 176, 3) := by decide +kernel
theorem dX11_fewest_24 : decode cX11_fewest 24 = .ok (.ifCond .ne 27, 3) := by decide +kernel
theorem dX11_fewest_27 : decode cX11_fewest 27 = .ok (.aload_n 0, 1) := by decide +kernel
theorem dX11_fewest_28 : decode cX11_fewest 28 = .ok (.aload_n 0, 1) := by decide +kernel
theorem dX11_fewest_29 : decode cX11_fewest 29 = .ok (.getfield 13, 3) := by decide +kernel
theorem dX11_fewest_32 : decode cX11_fewest 32 = .ok (.iconst 0, 1) := by decide +kernel
theorem dX11_fewest_33 : decode cX11_fewest 33 = .ok (.iaload, 1) := by decide +kernel
theorem dX11_fewest_34 : decode cX11_fewest 34 = .ok (.bipush 6, 2) := by decide +kernel
theorem dX11_fewest_36 : decode cX11_fewest 36 = .ok (.if_icmp .le 7, 3) := by decide +kernel
theorem dX11_fewest_39 : decode cX11_fewest 39 = .ok (.iconst 1, 1) := by decide +kernel
theorem dX11_fewest_40 : decode cX11_fewest 40 = .ok (.goto 4, 3) := by decide +kernel
theorem dX11_fewest_43 : decode cX11_fewest 43 = .ok (.iconst 0, 1) := by decide +kernel
theorem dX11_fewest_44 : decode cX11_fewest 44 = .ok (.iconst 2, 1) := by decide +kernel
theorem dX11_fewest_45 : decode cX11_fewest 45 = .ok (.invokevirtual 176, 3) := by decide +kernel
theorem dX11_fewest_48 : decode cX11_fewest 48 = .ok (.ifCond .eq 5, 3) := by decide +kernel
theorem dX11_fewest_51 : decode cX11_fewest 51 = .ok (.iconst 0, 1) := by decide +kernel
theorem dX11_fewest_52 : decode cX11_fewest 52 = .ok (.ireturn, 1) := by decide +kernel
theorem dX11_fewest_53 : decode cX11_fewest 53 = .ok (.iconst 0, 1) := by decide +kernel
theorem dX11_fewest_54 : decode cX11_fewest 54 = .ok (.istore_n 2, 1) := by decide +kernel
theorem dX11_fewest_55 : decode cX11_fewest 55 = .ok (.iload_n 2, 1) := by decide +kernel
theorem dX11_fewest_56 : decode cX11_fewest 56 = .ok (.iload_n 1, 1) := by decide +kernel
theorem dX11_fewest_57 : decode cX11_fewest 57 = .ok (.if_icmp .gt 56, 3) := by decide +kernel
theorem dX11_fewest_60 : decode cX11_fewest 60 = .ok (.aload_n 0, 1) := by decide +kernel
theorem dX11_fewest_61 : decode cX11_fewest 61 = .ok (.iload_n 2, 1) := by decide +kernel
theorem dX11_fewest_62 : decode cX11_fewest 62 = .ok (.putfield 252, 3) := by decide +kernel
theorem dX11_fewest_65 : decode cX11_fewest 65 = .ok (.iconst 0, 1) := by decide +kernel
theorem dX11_fewest_66 : decode cX11_fewest 66 = .ok (.istore_n 3, 1) := by decide +kernel
theorem dX11_fewest_67 : decode cX11_fewest 67 = .ok (.iload_n 3, 1) := by decide +kernel
theorem dX11_fewest_68 : decode cX11_fewest 68 = .ok (.aload_n 0, 1) := by decide +kernel
theorem dX11_fewest_69 : decode cX11_fewest 69 = .ok (.getfield 13, 3) := by decide +kernel
theorem dX11_fewest_72 : decode cX11_fewest 72 = .ok (.iconst 0, 1) := by decide +kernel
theorem dX11_fewest_73 : decode cX11_fewest 73 = .ok (.iaload, 1) := by decide +kernel
theorem dX11_fewest_74 : decode cX11_fewest 74 = .ok (.if_icmp .ge 23, 3) := by decide +kernel
theorem dX11_fewest_77 : decode cX11_fewest 77 = .ok (.aload_n 0, 1) := by decide +kernel
theorem dX11_fewest_78 : decode cX11_fewest 78 = .ok (.getfield 55, 3) := by decide +kernel
theorem dX11_fewest_81 : decode cX11_fewest 81 = .ok (.iload_n 3, 1) := by decide +kernel
theorem dX11_fewest_82 : decode cX11_fewest 82 = .ok (.aload_n 0, 1) := by decide +kernel
theorem dX11_fewest_83 : decode cX11_fewest 83 = .ok (.getfield 7, 3) := by decide +kernel
theorem dX11_fewest_86 : decode cX11_fewest 86 = .ok (.iconst 4, 1) := by decide +kernel
theorem dX11_fewest_87 : decode cX11_fewest 87 = .ok (.iload_n 3, 1) := by decide +kernel
theorem dX11_fewest_88 : decode cX11_fewest 88 = .ok (.iadd, 1) := by decide +kernel
theorem dX11_fewest_89 : decode cX11_fewest 89 = .ok (.iaload, 1) := by decide +kernel
theorem dX11_fewest_90 : decode cX11_fewest 90 = .ok (.iastore, 1) := by decide +kernel
theorem dX11_fewest_91 : decode cX11_fewest 91 = .ok (.iinc 3 1, 3) := by decide +kernel
theorem dX11_fewest_94 : decode cX11_fewest 94 = .ok (.goto (-27), 3) := by decide +kernel
theorem dX11_fewest_97 : decode cX11_fewest 97 = .ok (.aload_n 0, 1) := by decide +kernel
theorem dX11_fewest_98 : decode cX11_fewest 98 = .ok (.iconst 0, 1) := by decide +kernel
theorem dX11_fewest_99 : decode cX11_fewest 99 = .ok (.invokevirtual 267, 3) := by decide +kernel
theorem dX11_fewest_102 : decode cX11_fewest 102 = .ok (.ifCond .eq 5, 3) := by decide +kernel
theorem dX11_fewest_105 : decode cX11_fewest 105 = .ok (.iload_n 2, 1) := by decide +kernel
theorem dX11_fewest_106 : decode cX11_fewest 106 = .ok (.ireturn, 1) := by decide +kernel
theorem dX11_fewest_107 : decode cX11_fewest 107 = .ok (.iinc 2 1, 3) := by decide +kernel
theorem dX11_fewest_110 : decode cX11_fewest 110 = .ok (.goto (-55), 3) := by decide +kernel
theorem dX11_fewest_113 : decode cX11_fewest 113 = .ok (.iconst (-1), 1) := by decide +kernel
theorem dX11_fewest_114 : decode cX11_fewest 114 = .ok (.ireturn, 1) := by decide +kernel
theorem dX11_doublings_0 : decode cX11_doublings 0 = .ok (.aload_n 0, 1) := by decide +kernel
theorem dX11_doublings_1 : decode cX11_doublings 1 = .ok (.iconst 0, 1) := by decide +kernel
theorem dX11_doublings_2 : decode cX11_doublings 2 = .ok (.putfield 80, 3) := by decide +kernel
theorem dX11_doublings_5 : decode cX11_doublings 5 = .ok (.iconst 0, 1) := by decide +kernel
theorem dX11_doublings_6 : decode cX11_doublings 6 = .ok (.istore_n 1, 1) := by decide +kernel
theorem dX11_doublings_7 : decode cX11_doublings 7 = .ok (.iconst 0, 1) := by decide +kernel
theorem dX11_doublings_8 : decode cX11_doublings 8 = .ok (.istore_n 2, 1) := by decide +kernel
theorem dX11_doublings_9 : decode cX11_doublings 9 = .ok (.iload_n 2, 1) := by decide +kernel
theorem dX11_doublings_10 : decode cX11_doublings 10 = .ok (.aload_n 0, 1) := by decide +kernel
theorem dX11_doublings_11 : decode cX11_doublings 11 = .ok (.getfield 13, 3) := by decide +kernel
theorem dX11_doublings_14 : decode cX11_doublings 14 = .ok (.iconst 0, 1) := by decide +kernel
theorem dX11_doublings_15 : decode cX11_doublings 15 = .ok (.iaload, 1) := by decide +kernel
theorem dX11_doublings_16 : decode cX11_doublings 16 = .ok (.if_icmp .ge 47, 3) := by decide +kernel
theorem dX11_doublings_19 : decode cX11_doublings 19 = .ok (.iconst 0, 1) := by decide +kernel
theorem dX11_doublings_20 : decode cX11_doublings 20 = .ok (.istore_n 3, 1) := by decide +kernel
theorem dX11_doublings_21 : decode cX11_doublings 21 = .ok (.aload_n 0, 1) := by decide +kernel
theorem dX11_doublings_22 : decode cX11_doublings 22 = .ok (.iload_n 2, 1) := by decide +kernel
theorem dX11_doublings_23 : decode cX11_doublings 23 = .ok (.invokevirtual 217, 3) := by decide +kernel
theorem dX11_doublings_26 : decode cX11_doublings 26 = .ok (.invokestatic 192, 3) := by decide +kernel
theorem dX11_doublings_29 : decode cX11_doublings 29 = .ok (.iload_n 3, 1) := by decide +kernel
theorem dX11_doublings_30 : decode cX11_doublings 30 = .ok (.ishl, 1) := by decide +kernel
theorem dX11_doublings_31 : decode cX11_doublings 31 = .ok (.aload_n 0, 1) := by decide +kernel
theorem dX11_doublings_32 : decode cX11_doublings 32 = .ok (.getfield 13, 3) := by decide +kernel
theorem dX11_doublings_35 : decode cX11_doublings 35 = .ok (.iconst 0, 1) := by decide +kernel
theorem dX11_doublings_36 : decode cX11_doublings 36 = .ok (.iaload, 1) := by decide +kernel
theorem dX11_doublings_37 : decode cX11_doublings 37 = .ok (.if_icmp .ge 9, 3) := by decide +kernel
theorem dX11_doublings_40 : decode cX11_doublings 40 = .ok (.iinc 3 1, 3) := by decide +kernel
theorem dX11_doublings_43 : decode cX11_doublings 43 = .ok (.goto (-22), 3) := by decide +kernel
theorem dX11_doublings_46 : decode cX11_doublings 46 = .ok (.iload_n 3, 1) := by decide +kernel
theorem dX11_doublings_47 : decode cX11_doublings 47 = .ok (.iload_n 1, 1) := by decide +kernel
theorem dX11_doublings_48 : decode cX11_doublings 48 = .ok (.if_icmp .le 7, 3) := by decide +kernel
theorem dX11_doublings_51 : decode cX11_doublings 51 = .ok (.iload_n 3, 1) := by decide +kernel
theorem dX11_doublings_52 : decode cX11_doublings 52 = .ok (.goto 4, 3) := by decide +kernel
theorem dX11_doublings_55 : decode cX11_doublings 55 = .ok (.iload_n 1, 1) := by decide +kernel
theorem dX11_doublings_56 : decode cX11_doublings 56 = .ok (.istore_n 1, 1) := by decide +kernel
theorem dX11_doublings_57 : decode cX11_doublings 57 = .ok (.iinc 2 1, 3) := by decide +kernel
theorem dX11_doublings_60 : decode cX11_doublings 60 = .ok (.goto (-51), 3) := by decide +kernel
theorem dX11_doublings_63 : decode cX11_doublings 63 = .ok (.iload_n 1, 1) := by decide +kernel
theorem dX11_doublings_64 : decode cX11_doublings 64 = .ok (.ireturn, 1) := by decide +kernel
theorem dX11_usableIn_0 : decode cX11_usableIn 0 = .ok (.iconst 0, 1) := by decide +kernel
theorem dX11_usableIn_1 : decode cX11_usableIn 1 = .ok (.istore_n 2, 1) := by decide +kernel
theorem dX11_usableIn_2 : decode cX11_usableIn 2 = .ok (.iconst 0, 1) := by decide +kernel
theorem dX11_usableIn_3 : decode cX11_usableIn 3 = .ok (.istore_n 3, 1) := by decide +kernel
theorem dX11_usableIn_4 : decode cX11_usableIn 4 = .ok (.iload_n 3, 1) := by decide +kernel
theorem dX11_usableIn_5 : decode cX11_usableIn 5 = .ok (.aload_n 0, 1) := by decide +kernel
theorem dX11_usableIn_6 : decode cX11_usableIn 6 = .ok (.getfield 13, 3) := by decide +kernel
theorem dX11_usableIn_9 : decode cX11_usableIn 9 = .ok (.iconst 1, 1) := by decide +kernel
theorem dX11_usableIn_10 : decode cX11_usableIn 10 = .ok (.iaload, 1) := by decide +kernel
theorem dX11_usableIn_11 : decode cX11_usableIn 11 = .ok (.if_icmp .ge 28, 3) := by decide +kernel
theorem dX11_usableIn_14 : decode cX11_usableIn 14 = .ok (.iload_n 2, 1) := by decide +kernel
theorem dX11_usableIn_15 : decode cX11_usableIn 15 = .ok (.aload_n 0, 1) := by decide +kernel
theorem dX11_usableIn_16 : decode cX11_usableIn 16 = .ok (.iload_n 3, 1) := by decide +kernel
theorem dX11_usableIn_17 : decode cX11_usableIn 17 = .ok (.iload_n 1, 1) := by decide +kernel
theorem dX11_usableIn_18 : decode cX11_usableIn 18 = .ok (.invokevirtual 207, 3) := by decide +kernel
theorem dX11_usableIn_21 : decode cX11_usableIn 21 = .ok (.ifCond .eq 9, 3) := by decide +kernel
theorem dX11_usableIn_24 : decode cX11_usableIn 24 = .ok (.iconst 1, 1) := by decide +kernel
theorem dX11_usableIn_25 : decode cX11_usableIn 25 = .ok (.iload_n 3, 1) := by decide +kernel
theorem dX11_usableIn_26 : decode cX11_usableIn 26 = .ok (.ishl, 1) := by decide +kernel
theorem dX11_usableIn_27 : decode cX11_usableIn 27 = .ok (.goto 4, 3) := by decide +kernel
theorem dX11_usableIn_30 : decode cX11_usableIn 30 = .ok (.iconst 0, 1) := by decide +kernel
theorem dX11_usableIn_31 : decode cX11_usableIn 31 = .ok (.ior, 1) := by decide +kernel
theorem dX11_usableIn_32 : decode cX11_usableIn 32 = .ok (.istore_n 2, 1) := by decide +kernel
theorem dX11_usableIn_33 : decode cX11_usableIn 33 = .ok (.iinc 3 1, 3) := by decide +kernel
theorem dX11_usableIn_36 : decode cX11_usableIn 36 = .ok (.goto (-32), 3) := by decide +kernel
theorem dX11_usableIn_39 : decode cX11_usableIn 39 = .ok (.iload_n 2, 1) := by decide +kernel
theorem dX11_usableIn_40 : decode cX11_usableIn 40 = .ok (.ireturn, 1) := by decide +kernel
theorem dX11_soonest_0 : decode cX11_soonest 0 = .ok (.aload_n 0, 1) := by decide +kernel
theorem dX11_soonest_1 : decode cX11_soonest 1 = .ok (.iload_n 1, 1) := by decide +kernel
theorem dX11_soonest_2 : decode cX11_soonest 2 = .ok (.invokevirtual 210, 3) := by decide +kernel
theorem dX11_soonest_5 : decode cX11_soonest 5 = .ok (.ifCond .ne 11, 3) := by decide +kernel
theorem dX11_soonest_8 : decode cX11_soonest 8 = .ok (.aload_n 0, 1) := by decide +kernel
theorem dX11_soonest_9 : decode cX11_soonest 9 = .ok (.iload_n 2, 1) := by decide +kernel
theorem dX11_soonest_10 : decode cX11_soonest 10 = .ok (.invokevirtual 210, 3) := by decide +kernel
theorem dX11_soonest_13 : decode cX11_soonest 13 = .ok (.ifCond .eq 5, 3) := by decide +kernel
theorem dX11_soonest_16 : decode cX11_soonest 16 = .ok (.iconst 0, 1) := by decide +kernel
theorem dX11_soonest_17 : decode cX11_soonest 17 = .ok (.ireturn, 1) := by decide +kernel
theorem dX11_soonest_18 : decode cX11_soonest 18 = .ok (.aload_n 0, 1) := by decide +kernel
theorem dX11_soonest_19 : decode cX11_soonest 19 = .ok (.invokevirtual 246, 3) := by decide +kernel
theorem dX11_soonest_22 : decode cX11_soonest 22 = .ok (.iconst 0, 1) := by decide +kernel
theorem dX11_soonest_23 : decode cX11_soonest 23 = .ok (.istore_n 3, 1) := by decide +kernel
theorem dX11_soonest_24 : decode cX11_soonest 24 = .ok (.iload_n 3, 1) := by decide +kernel
theorem dX11_soonest_25 : decode cX11_soonest 25 = .ok (.bipush 60, 2) := by decide +kernel
theorem dX11_soonest_27 : decode cX11_soonest 27 = .ok (.if_icmp .ge 38, 3) := by decide +kernel
theorem dX11_soonest_30 : decode cX11_soonest 30 = .ok (.aload_n 0, 1) := by decide +kernel
theorem dX11_soonest_31 : decode cX11_soonest 31 = .ok (.getfield 49, 3) := by decide +kernel
theorem dX11_soonest_34 : decode cX11_soonest 34 = .ok (.iload_n 1, 1) := by decide +kernel
theorem dX11_soonest_35 : decode cX11_soonest 35 = .ok (.iaload, 1) := by decide +kernel
theorem dX11_soonest_36 : decode cX11_soonest 36 = .ok (.iload_n 2, 1) := by decide +kernel
theorem dX11_soonest_37 : decode cX11_soonest 37 = .ok (.invokestatic 201, 3) := by decide +kernel
theorem dX11_soonest_40 : decode cX11_soonest 40 = .ok (.ifCond .ne 25, 3) := by decide +kernel
theorem dX11_soonest_43 : decode cX11_soonest 43 = .ok (.iinc 3 1, 3) := by decide +kernel
theorem dX11_soonest_46 : decode cX11_soonest 46 = .ok (.aload_n 0, 1) := by decide +kernel
theorem dX11_soonest_47 : decode cX11_soonest 47 = .ok (.aload_n 0, 1) := by decide +kernel
theorem dX11_soonest_48 : decode cX11_soonest 48 = .ok (.aload_n 0, 1) := by decide +kernel
theorem dX11_soonest_49 : decode cX11_soonest 49 = .ok (.getfield 7, 3) := by decide +kernel
theorem dX11_soonest_52 : decode cX11_soonest 52 = .ok (.iconst 0, 1) := by decide +kernel
theorem dX11_soonest_53 : decode cX11_soonest 53 = .ok (.iaload, 1) := by decide +kernel
theorem dX11_soonest_54 : decode cX11_soonest 54 = .ok (.iload_n 3, 1) := by decide +kernel
theorem dX11_soonest_55 : decode cX11_soonest 55 = .ok (.iadd, 1) := by decide +kernel
theorem dX11_soonest_56 : decode cX11_soonest 56 = .ok (.invokevirtual 274, 3) := by decide +kernel
theorem dX11_soonest_59 : decode cX11_soonest 59 = .ok (.invokevirtual 249, 3) := by decide +kernel
theorem dX11_soonest_62 : decode cX11_soonest 62 = .ok (.goto (-38), 3) := by decide +kernel
theorem dX11_soonest_65 : decode cX11_soonest 65 = .ok (.aload_n 0, 1) := by decide +kernel
theorem dX11_soonest_66 : decode cX11_soonest 66 = .ok (.getfield 49, 3) := by decide +kernel
theorem dX11_soonest_69 : decode cX11_soonest 69 = .ok (.iload_n 1, 1) := by decide +kernel
theorem dX11_soonest_70 : decode cX11_soonest 70 = .ok (.iaload, 1) := by decide +kernel
theorem dX11_soonest_71 : decode cX11_soonest 71 = .ok (.iload_n 2, 1) := by decide +kernel
theorem dX11_soonest_72 : decode cX11_soonest 72 = .ok (.invokestatic 201, 3) := by decide +kernel
theorem dX11_soonest_75 : decode cX11_soonest 75 = .ok (.ifCond .eq 7, 3) := by decide +kernel
theorem dX11_soonest_78 : decode cX11_soonest 78 = .ok (.iload_n 3, 1) := by decide +kernel
theorem dX11_soonest_79 : decode cX11_soonest 79 = .ok (.goto 4, 3) := by decide +kernel
theorem dX11_soonest_82 : decode cX11_soonest 82 = .ok (.iconst (-1), 1) := by decide +kernel
theorem dX11_soonest_83 : decode cX11_soonest 83 = .ok (.ireturn, 1) := by decide +kernel
theorem dX11_prices_0 : decode cX11_prices 0 = .ok (.iconst 0, 1) := by decide +kernel
theorem dX11_prices_1 : decode cX11_prices 1 = .ok (.istore_n 3, 1) := by decide +kernel
theorem dX11_prices_2 : decode cX11_prices 2 = .ok (.iload_n 3, 1) := by decide +kernel
theorem dX11_prices_3 : decode cX11_prices 3 = .ok (.aload_n 0, 1) := by decide +kernel
theorem dX11_prices_4 : decode cX11_prices 4 = .ok (.getfield 13, 3) := by decide +kernel
theorem dX11_prices_7 : decode cX11_prices 7 = .ok (.iconst 0, 1) := by decide +kernel
theorem dX11_prices_8 : decode cX11_prices 8 = .ok (.iaload, 1) := by decide +kernel
theorem dX11_prices_9 : decode cX11_prices 9 = .ok (.if_icmp .ge 37, 3) := by decide +kernel
theorem dX11_prices_12 : decode cX11_prices 12 = .ok (.aload_n 0, 1) := by decide +kernel
theorem dX11_prices_13 : decode cX11_prices 13 = .ok (.getfield 58, 3) := by decide +kernel
theorem dX11_prices_16 : decode cX11_prices 16 = .ok (.iload_n 3, 1) := by decide +kernel
theorem dX11_prices_17 : decode cX11_prices 17 = .ok (.aload_n 0, 1) := by decide +kernel
theorem dX11_prices_18 : decode cX11_prices 18 = .ok (.getfield 7, 3) := by decide +kernel
theorem dX11_prices_21 : decode cX11_prices 21 = .ok (.iconst 4, 1) := by decide +kernel
theorem dX11_prices_22 : decode cX11_prices 22 = .ok (.iload_n 3, 1) := by decide +kernel
theorem dX11_prices_23 : decode cX11_prices 23 = .ok (.iadd, 1) := by decide +kernel
theorem dX11_prices_24 : decode cX11_prices 24 = .ok (.iaload, 1) := by decide +kernel
theorem dX11_prices_25 : decode cX11_prices 25 = .ok (.iload_n 1, 1) := by decide +kernel
theorem dX11_prices_26 : decode cX11_prices 26 = .ok (.invokestatic 201, 3) := by decide +kernel
theorem dX11_prices_29 : decode cX11_prices 29 = .ok (.ifCond .eq 7, 3) := by decide +kernel
theorem dX11_prices_32 : decode cX11_prices 32 = .ok (.iconst 0, 1) := by decide +kernel
theorem dX11_prices_33 : decode cX11_prices 33 = .ok (.goto 6, 3) := by decide +kernel
theorem dX11_prices_36 : decode cX11_prices 36 = .ok (.ldc_w 277, 3) := by decide +kernel
theorem dX11_prices_39 : decode cX11_prices 39 = .ok (.iastore, 1) := by decide +kernel
theorem dX11_prices_40 : decode cX11_prices 40 = .ok (.iinc 3 1, 3) := by decide +kernel
theorem dX11_prices_43 : decode cX11_prices 43 = .ok (.goto (-41), 3) := by decide +kernel
theorem dX11_prices_46 : decode cX11_prices 46 = .ok (.iconst 1, 1) := by decide +kernel
theorem dX11_prices_47 : decode cX11_prices 47 = .ok (.istore_n 3, 1) := by decide +kernel
theorem dX11_prices_48 : decode cX11_prices 48 = .ok (.iload_n 3, 1) := by decide +kernel
theorem dX11_prices_49 : decode cX11_prices 49 = .ok (.ifCond .eq 114, 3) := by decide +kernel
theorem dX11_prices_52 : decode cX11_prices 52 = .ok (.iconst 0, 1) := by decide +kernel
theorem dX11_prices_53 : decode cX11_prices 53 = .ok (.istore_n 3, 1) := by decide +kernel
theorem dX11_prices_54 : decode cX11_prices 54 = .ok (.iconst 0, 1) := by decide +kernel
theorem dX11_prices_55 : decode cX11_prices 55 = .ok (.istore 4, 2) := by decide +kernel
theorem dX11_prices_57 : decode cX11_prices 57 = .ok (.iload 4, 2) := by decide +kernel
theorem dX11_prices_59 : decode cX11_prices 59 = .ok (.aload_n 0, 1) := by decide +kernel
theorem dX11_prices_60 : decode cX11_prices 60 = .ok (.getfield 13, 3) := by decide +kernel
theorem dX11_prices_63 : decode cX11_prices 63 = .ok (.iconst 1, 1) := by decide +kernel
theorem dX11_prices_64 : decode cX11_prices 64 = .ok (.iaload, 1) := by decide +kernel
theorem dX11_prices_65 : decode cX11_prices 65 = .ok (.if_icmp .ge 95, 3) := by decide +kernel
theorem dX11_prices_68 : decode cX11_prices 68 = .ok (.iload_n 2, 1) := by decide +kernel
theorem dX11_prices_69 : decode cX11_prices 69 = .ok (.iload 4, 2) := by decide +kernel
theorem dX11_prices_71 : decode cX11_prices 71 = .ok (.invokestatic 201, 3) := by decide +kernel
theorem dX11_prices_74 : decode cX11_prices 74 = .ok (.ifCond .eq 6, 3) := by decide +kernel
theorem dX11_prices_77 : decode cX11_prices 77 = .ok (.goto 77, 3) := by decide +kernel
theorem dX11_prices_80 : decode cX11_prices 80 = .ok (.iload_n 3, 1) := by decide +kernel
theorem dX11_prices_81 : decode cX11_prices 81 = .ok (.aload_n 0, 1) := by decide +kernel
theorem dX11_prices_82 : decode cX11_prices 82 = .ok (.aload_n 0, 1) := by decide +kernel
theorem dX11_prices_83 : decode cX11_prices 83 = .ok (.getfield 16, 3) := by decide +kernel
theorem dX11_prices_86 : decode cX11_prices 86 = .ok (.iload 4, 2) := by decide +kernel
theorem dX11_prices_88 : decode cX11_prices 88 = .ok (.iaload, 1) := by decide +kernel
theorem dX11_prices_89 : decode cX11_prices 89 = .ok (.aload_n 0, 1) := by decide +kernel
theorem dX11_prices_90 : decode cX11_prices 90 = .ok (.getfield 19, 3) := by decide +kernel
theorem dX11_prices_93 : decode cX11_prices 93 = .ok (.iload 4, 2) := by decide +kernel
theorem dX11_prices_95 : decode cX11_prices 95 = .ok (.iaload, 1) := by decide +kernel
theorem dX11_prices_96 : decode cX11_prices 96 = .ok (.aload_n 0, 1) := by decide +kernel
theorem dX11_prices_97 : decode cX11_prices 97 = .ok (.getfield 25, 3) := by decide +kernel
theorem dX11_prices_100 : decode cX11_prices 100 = .ok (.iload 4, 2) := by decide +kernel
theorem dX11_prices_102 : decode cX11_prices 102 = .ok (.iaload, 1) := by decide +kernel
theorem dX11_prices_103 : decode cX11_prices 103 = .ok (.invokevirtual 278, 3) := by decide +kernel
theorem dX11_prices_106 : decode cX11_prices 106 = .ok (.ior, 1) := by decide +kernel
theorem dX11_prices_107 : decode cX11_prices 107 = .ok (.istore_n 3, 1) := by decide +kernel
theorem dX11_prices_108 : decode cX11_prices 108 = .ok (.iload_n 3, 1) := by decide +kernel
theorem dX11_prices_109 : decode cX11_prices 109 = .ok (.aload_n 0, 1) := by decide +kernel
theorem dX11_prices_110 : decode cX11_prices 110 = .ok (.getfield 22, 3) := by decide +kernel
theorem dX11_prices_113 : decode cX11_prices 113 = .ok (.iload 4, 2) := by decide +kernel
theorem dX11_prices_115 : decode cX11_prices 115 = .ok (.iaload, 1) := by decide +kernel
theorem dX11_prices_116 : decode cX11_prices 116 = .ok (.ifCond .ne 35, 3) := by decide +kernel
theorem dX11_prices_119 : decode cX11_prices 119 = .ok (.aload_n 0, 1) := by decide +kernel
theorem dX11_prices_120 : decode cX11_prices 120 = .ok (.aload_n 0, 1) := by decide +kernel
theorem dX11_prices_121 : decode cX11_prices 121 = .ok (.getfield 19, 3) := by decide +kernel
theorem dX11_prices_124 : decode cX11_prices 124 = .ok (.iload 4, 2) := by decide +kernel
theorem dX11_prices_126 : decode cX11_prices 126 = .ok (.iaload, 1) := by decide +kernel
theorem dX11_prices_127 : decode cX11_prices 127 = .ok (.aload_n 0, 1) := by decide +kernel
theorem dX11_prices_128 : decode cX11_prices 128 = .ok (.getfield 16, 3) := by decide +kernel
theorem dX11_prices_131 : decode cX11_prices 131 = .ok (.iload 4, 2) := by decide +kernel
theorem dX11_prices_133 : decode cX11_prices 133 = .ok (.iaload, 1) := by decide +kernel
theorem dX11_prices_134 : decode cX11_prices 134 = .ok (.aload_n 0, 1) := by decide +kernel
theorem dX11_prices_135 : decode cX11_prices 135 = .ok (.getfield 25, 3) := by decide +kernel
theorem dX11_prices_138 : decode cX11_prices 138 = .ok (.iload 4, 2) := by decide +kernel
theorem dX11_prices_140 : decode cX11_prices 140 = .ok (.iaload, 1) := by decide +kernel
theorem dX11_prices_141 : decode cX11_prices 141 = .ok (.invokevirtual 278, 3) := by decide +kernel
theorem dX11_prices_144 : decode cX11_prices 144 = .ok (.ifCond .eq 7, 3) := by decide +kernel
theorem dX11_prices_147 : decode cX11_prices 147 = .ok (.iconst 1, 1) := by decide +kernel
theorem dX11_prices_148 : decode cX11_prices 148 = .ok (.goto 4, 3) := by decide +kernel
theorem dX11_prices_151 : decode cX11_prices 151 = .ok (.iconst 0, 1) := by decide +kernel
theorem dX11_prices_152 : decode cX11_prices 152 = .ok (.ior, 1) := by decide +kernel
theorem dX11_prices_153 : decode cX11_prices 153 = .ok (.istore_n 3, 1) := by decide +kernel
theorem dX11_prices_154 : decode cX11_prices 154 = .ok (.iinc 4 1, 3) := by decide +kernel
theorem dX11_prices_157 : decode cX11_prices 157 = .ok (.goto (-100), 3) := by decide +kernel
theorem dX11_prices_160 : decode cX11_prices 160 = .ok (.goto (-112), 3) := by decide +kernel
theorem dX11_prices_163 : decode cX11_prices 163 = .ok (.return_, 1) := by decide +kernel
theorem dX11_cheaper_0 : decode cX11_cheaper 0 = .ok (.aload_n 0, 1) := by decide +kernel
theorem dX11_cheaper_1 : decode cX11_cheaper 1 = .ok (.getfield 58, 3) := by decide +kernel
theorem dX11_cheaper_4 : decode cX11_cheaper 4 = .ok (.iload_n 1, 1) := by decide +kernel
theorem dX11_cheaper_5 : decode cX11_cheaper 5 = .ok (.iaload, 1) := by decide +kernel
theorem dX11_cheaper_6 : decode cX11_cheaper 6 = .ok (.ldc_w 277, 3) := by decide +kernel
theorem dX11_cheaper_9 : decode cX11_cheaper 9 = .ok (.if_icmp .eq 20, 3) := by decide +kernel
theorem dX11_cheaper_12 : decode cX11_cheaper 12 = .ok (.aload_n 0, 1) := by decide +kernel
theorem dX11_cheaper_13 : decode cX11_cheaper 13 = .ok (.getfield 58, 3) := by decide +kernel
theorem dX11_cheaper_16 : decode cX11_cheaper 16 = .ok (.iload_n 1, 1) := by decide +kernel
theorem dX11_cheaper_17 : decode cX11_cheaper 17 = .ok (.iaload, 1) := by decide +kernel
theorem dX11_cheaper_18 : decode cX11_cheaper 18 = .ok (.iload_n 3, 1) := by decide +kernel
theorem dX11_cheaper_19 : decode cX11_cheaper 19 = .ok (.iadd, 1) := by decide +kernel
theorem dX11_cheaper_20 : decode cX11_cheaper 20 = .ok (.aload_n 0, 1) := by decide +kernel
theorem dX11_cheaper_21 : decode cX11_cheaper 21 = .ok (.getfield 58, 3) := by decide +kernel
theorem dX11_cheaper_24 : decode cX11_cheaper 24 = .ok (.iload_n 2, 1) := by decide +kernel
theorem dX11_cheaper_25 : decode cX11_cheaper 25 = .ok (.iaload, 1) := by decide +kernel
theorem dX11_cheaper_26 : decode cX11_cheaper 26 = .ok (.if_icmp .lt 5, 3) := by decide +kernel
theorem dX11_cheaper_29 : decode cX11_cheaper 29 = .ok (.iconst 0, 1) := by decide +kernel
theorem dX11_cheaper_30 : decode cX11_cheaper 30 = .ok (.ireturn, 1) := by decide +kernel
theorem dX11_cheaper_31 : decode cX11_cheaper 31 = .ok (.aload_n 0, 1) := by decide +kernel
theorem dX11_cheaper_32 : decode cX11_cheaper 32 = .ok (.getfield 58, 3) := by decide +kernel
theorem dX11_cheaper_35 : decode cX11_cheaper 35 = .ok (.iload_n 2, 1) := by decide +kernel
theorem dX11_cheaper_36 : decode cX11_cheaper 36 = .ok (.aload_n 0, 1) := by decide +kernel
theorem dX11_cheaper_37 : decode cX11_cheaper 37 = .ok (.getfield 58, 3) := by decide +kernel
theorem dX11_cheaper_40 : decode cX11_cheaper 40 = .ok (.iload_n 1, 1) := by decide +kernel
theorem dX11_cheaper_41 : decode cX11_cheaper 41 = .ok (.iaload, 1) := by decide +kernel
theorem dX11_cheaper_42 : decode cX11_cheaper 42 = .ok (.iload_n 3, 1) := by decide +kernel
theorem dX11_cheaper_43 : decode cX11_cheaper 43 = .ok (.iadd, 1) := by decide +kernel
theorem dX11_cheaper_44 : decode cX11_cheaper 44 = .ok (.iastore, 1) := by decide +kernel
theorem dX11_cheaper_45 : decode cX11_cheaper 45 = .ok (.iconst 1, 1) := by decide +kernel
theorem dX11_cheaper_46 : decode cX11_cheaper 46 = .ok (.ireturn, 1) := by decide +kernel
theorem dX11_cheapest_0 : decode cX11_cheapest 0 = .ok (.aload_n 0, 1) := by decide +kernel
theorem dX11_cheapest_1 : decode cX11_cheapest 1 = .ok (.iload_n 1, 1) := by decide +kernel
theorem dX11_cheapest_2 : decode cX11_cheapest 2 = .ok (.invokevirtual 210, 3) := by decide +kernel
theorem dX11_cheapest_5 : decode cX11_cheapest 5 = .ok (.ifCond .ne 11, 3) := by decide +kernel
theorem dX11_cheapest_8 : decode cX11_cheapest 8 = .ok (.aload_n 0, 1) := by decide +kernel
theorem dX11_cheapest_9 : decode cX11_cheapest 9 = .ok (.iload_n 2, 1) := by decide +kernel
theorem dX11_cheapest_10 : decode cX11_cheapest 10 = .ok (.invokevirtual 210, 3) := by decide +kernel
theorem dX11_cheapest_13 : decode cX11_cheapest 13 = .ok (.ifCond .eq 5, 3) := by decide +kernel
theorem dX11_cheapest_16 : decode cX11_cheapest 16 = .ok (.iconst 0, 1) := by decide +kernel
theorem dX11_cheapest_17 : decode cX11_cheapest 17 = .ok (.ireturn, 1) := by decide +kernel
theorem dX11_cheapest_18 : decode cX11_cheapest 18 = .ok (.aload_n 0, 1) := by decide +kernel
theorem dX11_cheapest_19 : decode cX11_cheapest 19 = .ok (.iload_n 2, 1) := by decide +kernel
theorem dX11_cheapest_20 : decode cX11_cheapest 20 = .ok (.aload_n 0, 1) := by decide +kernel
theorem dX11_cheapest_21 : decode cX11_cheapest 21 = .ok (.getfield 7, 3) := by decide +kernel
theorem dX11_cheapest_24 : decode cX11_cheapest 24 = .ok (.iconst 3, 1) := by decide +kernel
theorem dX11_cheapest_25 : decode cX11_cheapest 25 = .ok (.iaload, 1) := by decide +kernel
theorem dX11_cheapest_26 : decode cX11_cheapest 26 = .ok (.invokevirtual 281, 3) := by decide +kernel
theorem dX11_cheapest_29 : decode cX11_cheapest 29 = .ok (.aload_n 0, 1) := by decide +kernel
theorem dX11_cheapest_30 : decode cX11_cheapest 30 = .ok (.getfield 58, 3) := by decide +kernel
theorem dX11_cheapest_33 : decode cX11_cheapest 33 = .ok (.iload_n 1, 1) := by decide +kernel
theorem dX11_cheapest_34 : decode cX11_cheapest 34 = .ok (.iaload, 1) := by decide +kernel
theorem dX11_cheapest_35 : decode cX11_cheapest 35 = .ok (.ldc_w 277, 3) := by decide +kernel
theorem dX11_cheapest_38 : decode cX11_cheapest 38 = .ok (.if_icmp .ne 7, 3) := by decide +kernel
theorem dX11_cheapest_41 : decode cX11_cheapest 41 = .ok (.iconst (-1), 1) := by decide +kernel
theorem dX11_cheapest_42 : decode cX11_cheapest 42 = .ok (.goto 9, 3) := by decide +kernel
theorem dX11_cheapest_45 : decode cX11_cheapest 45 = .ok (.aload_n 0, 1) := by decide +kernel
theorem dX11_cheapest_46 : decode cX11_cheapest 46 = .ok (.getfield 58, 3) := by decide +kernel
theorem dX11_cheapest_49 : decode cX11_cheapest 49 = .ok (.iload_n 1, 1) := by decide +kernel
theorem dX11_cheapest_50 : decode cX11_cheapest 50 = .ok (.iaload, 1) := by decide +kernel
theorem dX11_cheapest_51 : decode cX11_cheapest 51 = .ok (.ireturn, 1) := by decide +kernel
theorem dX11_comeAbout_0 : decode cX11_comeAbout 0 = .ok (.iconst 0, 1) := by decide +kernel
theorem dX11_comeAbout_1 : decode cX11_comeAbout 1 = .ok (.istore_n 2, 1) := by decide +kernel
theorem dX11_comeAbout_2 : decode cX11_comeAbout 2 = .ok (.iconst 0, 1) := by decide +kernel
theorem dX11_comeAbout_3 : decode cX11_comeAbout 3 = .ok (.istore_n 3, 1) := by decide +kernel
theorem dX11_comeAbout_4 : decode cX11_comeAbout 4 = .ok (.iload_n 3, 1) := by decide +kernel
theorem dX11_comeAbout_5 : decode cX11_comeAbout 5 = .ok (.aload_n 0, 1) := by decide +kernel
theorem dX11_comeAbout_6 : decode cX11_comeAbout 6 = .ok (.getfield 13, 3) := by decide +kernel
theorem dX11_comeAbout_9 : decode cX11_comeAbout 9 = .ok (.iconst 0, 1) := by decide +kernel
theorem dX11_comeAbout_10 : decode cX11_comeAbout 10 = .ok (.iaload, 1) := by decide +kernel
theorem dX11_comeAbout_11 : decode cX11_comeAbout 11 = .ok (.if_icmp .ge 56, 3) := by decide +kernel
theorem dX11_comeAbout_14 : decode cX11_comeAbout 14 = .ok (.aload_n 0, 1) := by decide +kernel
theorem dX11_comeAbout_15 : decode cX11_comeAbout 15 = .ok (.iload_n 3, 1) := by decide +kernel
theorem dX11_comeAbout_16 : decode cX11_comeAbout 16 = .ok (.iload_n 1, 1) := by decide +kernel
theorem dX11_comeAbout_17 : decode cX11_comeAbout 17 = .ok (.invokevirtual 281, 3) := by decide +kernel
theorem dX11_comeAbout_20 : decode cX11_comeAbout 20 = .ok (.iconst 0, 1) := by decide +kernel
theorem dX11_comeAbout_21 : decode cX11_comeAbout 21 = .ok (.istore 4, 2) := by decide +kernel
theorem dX11_comeAbout_23 : decode cX11_comeAbout 23 = .ok (.iload 4, 2) := by decide +kernel
theorem dX11_comeAbout_25 : decode cX11_comeAbout 25 = .ok (.aload_n 0, 1) := by decide +kernel
theorem dX11_comeAbout_26 : decode cX11_comeAbout 26 = .ok (.getfield 13, 3) := by decide +kernel
theorem dX11_comeAbout_29 : decode cX11_comeAbout 29 = .ok (.iconst 0, 1) := by decide +kernel
theorem dX11_comeAbout_30 : decode cX11_comeAbout 30 = .ok (.iaload, 1) := by decide +kernel
theorem dX11_comeAbout_31 : decode cX11_comeAbout 31 = .ok (.if_icmp .ge 30, 3) := by decide +kernel
theorem dX11_comeAbout_34 : decode cX11_comeAbout 34 = .ok (.iload_n 2, 1) := by decide +kernel
theorem dX11_comeAbout_35 : decode cX11_comeAbout 35 = .ok (.aload_n 0, 1) := by decide +kernel
theorem dX11_comeAbout_36 : decode cX11_comeAbout 36 = .ok (.getfield 58, 3) := by decide +kernel
theorem dX11_comeAbout_39 : decode cX11_comeAbout 39 = .ok (.iload 4, 2) := by decide +kernel
theorem dX11_comeAbout_41 : decode cX11_comeAbout 41 = .ok (.iaload, 1) := by decide +kernel
theorem dX11_comeAbout_42 : decode cX11_comeAbout 42 = .ok (.ldc_w 277, 3) := by decide +kernel
theorem dX11_comeAbout_45 : decode cX11_comeAbout 45 = .ok (.if_icmp .ne 7, 3) := by decide +kernel
theorem dX11_comeAbout_48 : decode cX11_comeAbout 48 = .ok (.iconst 0, 1) := by decide +kernel
theorem dX11_comeAbout_49 : decode cX11_comeAbout 49 = .ok (.goto 4, 3) := by decide +kernel
theorem dX11_comeAbout_52 : decode cX11_comeAbout 52 = .ok (.iconst 1, 1) := by decide +kernel
theorem dX11_comeAbout_53 : decode cX11_comeAbout 53 = .ok (.iadd, 1) := by decide +kernel
theorem dX11_comeAbout_54 : decode cX11_comeAbout 54 = .ok (.istore_n 2, 1) := by decide +kernel
theorem dX11_comeAbout_55 : decode cX11_comeAbout 55 = .ok (.iinc 4 1, 3) := by decide +kernel
theorem dX11_comeAbout_58 : decode cX11_comeAbout 58 = .ok (.goto (-35), 3) := by decide +kernel
theorem dX11_comeAbout_61 : decode cX11_comeAbout 61 = .ok (.iinc 3 1, 3) := by decide +kernel
theorem dX11_comeAbout_64 : decode cX11_comeAbout 64 = .ok (.goto (-60), 3) := by decide +kernel
theorem dX11_comeAbout_67 : decode cX11_comeAbout 67 = .ok (.iload_n 2, 1) := by decide +kernel
theorem dX11_comeAbout_68 : decode cX11_comeAbout 68 = .ok (.ireturn, 1) := by decide +kernel
theorem dX11_vital_0 : decode cX11_vital 0 = .ok (.aload_n 0, 1) := by decide +kernel
theorem dX11_vital_1 : decode cX11_vital 1 = .ok (.iconst 0, 1) := by decide +kernel
theorem dX11_vital_2 : decode cX11_vital 2 = .ok (.putfield 80, 3) := by decide +kernel
theorem dX11_vital_5 : decode cX11_vital 5 = .ok (.iconst 0, 1) := by decide +kernel
theorem dX11_vital_6 : decode cX11_vital 6 = .ok (.istore_n 1, 1) := by decide +kernel
theorem dX11_vital_7 : decode cX11_vital 7 = .ok (.aload_n 0, 1) := by decide +kernel
theorem dX11_vital_8 : decode cX11_vital 8 = .ok (.aload_n 0, 1) := by decide +kernel
theorem dX11_vital_9 : decode cX11_vital 9 = .ok (.getfield 7, 3) := by decide +kernel
theorem dX11_vital_12 : decode cX11_vital 12 = .ok (.iconst 3, 1) := by decide +kernel
theorem dX11_vital_13 : decode cX11_vital 13 = .ok (.iaload, 1) := by decide +kernel
theorem dX11_vital_14 : decode cX11_vital 14 = .ok (.invokevirtual 285, 3) := by decide +kernel
theorem dX11_vital_17 : decode cX11_vital 17 = .ok (.istore_n 2, 1) := by decide +kernel
theorem dX11_vital_18 : decode cX11_vital 18 = .ok (.iconst 0, 1) := by decide +kernel
theorem dX11_vital_19 : decode cX11_vital 19 = .ok (.istore_n 3, 1) := by decide +kernel
theorem dX11_vital_20 : decode cX11_vital 20 = .ok (.iload_n 3, 1) := by decide +kernel
theorem dX11_vital_21 : decode cX11_vital 21 = .ok (.aload_n 0, 1) := by decide +kernel
theorem dX11_vital_22 : decode cX11_vital 22 = .ok (.getfield 13, 3) := by decide +kernel
theorem dX11_vital_25 : decode cX11_vital 25 = .ok (.iconst 1, 1) := by decide +kernel
theorem dX11_vital_26 : decode cX11_vital 26 = .ok (.iaload, 1) := by decide +kernel
theorem dX11_vital_27 : decode cX11_vital 27 = .ok (.if_icmp .ge 50, 3) := by decide +kernel
theorem dX11_vital_30 : decode cX11_vital 30 = .ok (.iload_n 1, 1) := by decide +kernel
theorem dX11_vital_31 : decode cX11_vital 31 = .ok (.aload_n 0, 1) := by decide +kernel
theorem dX11_vital_32 : decode cX11_vital 32 = .ok (.getfield 7, 3) := by decide +kernel
theorem dX11_vital_35 : decode cX11_vital 35 = .ok (.iconst 3, 1) := by decide +kernel
theorem dX11_vital_36 : decode cX11_vital 36 = .ok (.iaload, 1) := by decide +kernel
theorem dX11_vital_37 : decode cX11_vital 37 = .ok (.iload_n 3, 1) := by decide +kernel
theorem dX11_vital_38 : decode cX11_vital 38 = .ok (.invokestatic 201, 3) := by decide +kernel
theorem dX11_vital_41 : decode cX11_vital 41 = .ok (.ifCond .ne 27, 3) := by decide +kernel
theorem dX11_vital_44 : decode cX11_vital 44 = .ok (.aload_n 0, 1) := by decide +kernel
theorem dX11_vital_45 : decode cX11_vital 45 = .ok (.aload_n 0, 1) := by decide +kernel
theorem dX11_vital_46 : decode cX11_vital 46 = .ok (.getfield 7, 3) := by decide +kernel
theorem dX11_vital_49 : decode cX11_vital 49 = .ok (.iconst 3, 1) := by decide +kernel
theorem dX11_vital_50 : decode cX11_vital 50 = .ok (.iaload, 1) := by decide +kernel
theorem dX11_vital_51 : decode cX11_vital 51 = .ok (.iconst 1, 1) := by decide +kernel
theorem dX11_vital_52 : decode cX11_vital 52 = .ok (.iload_n 3, 1) := by decide +kernel
theorem dX11_vital_53 : decode cX11_vital 53 = .ok (.ishl, 1) := by decide +kernel
theorem dX11_vital_54 : decode cX11_vital 54 = .ok (.ior, 1) := by decide +kernel
theorem dX11_vital_55 : decode cX11_vital 55 = .ok (.invokevirtual 285, 3) := by decide +kernel
theorem dX11_vital_58 : decode cX11_vital 58 = .ok (.iload_n 2, 1) := by decide +kernel
theorem dX11_vital_59 : decode cX11_vital 59 = .ok (.if_icmp .ge 9, 3) := by decide +kernel
theorem dX11_vital_62 : decode cX11_vital 62 = .ok (.iconst 1, 1) := by decide +kernel
theorem dX11_vital_63 : decode cX11_vital 63 = .ok (.iload_n 3, 1) := by decide +kernel
theorem dX11_vital_64 : decode cX11_vital 64 = .ok (.ishl, 1) := by decide +kernel
theorem dX11_vital_65 : decode cX11_vital 65 = .ok (.goto 4, 3) := by decide +kernel
theorem dX11_vital_68 : decode cX11_vital 68 = .ok (.iconst 0, 1) := by decide +kernel
theorem dX11_vital_69 : decode cX11_vital 69 = .ok (.ior, 1) := by decide +kernel
theorem dX11_vital_70 : decode cX11_vital 70 = .ok (.istore_n 1, 1) := by decide +kernel
theorem dX11_vital_71 : decode cX11_vital 71 = .ok (.iinc 3 1, 3) := by decide +kernel
theorem dX11_vital_74 : decode cX11_vital 74 = .ok (.goto (-54), 3) := by decide +kernel
theorem dX11_vital_77 : decode cX11_vital 77 = .ok (.iload_n 1, 1) := by decide +kernel
theorem dX11_vital_78 : decode cX11_vital 78 = .ok (.ireturn, 1) := by decide +kernel
theorem dX11_canArrange_0 : decode cX11_canArrange 0 = .ok (.aload_n 0, 1) := by decide +kernel
theorem dX11_canArrange_1 : decode cX11_canArrange 1 = .ok (.iload_n 1, 1) := by decide +kernel
theorem dX11_canArrange_2 : decode cX11_canArrange 2 = .ok (.aload_n 0, 1) := by decide +kernel
theorem dX11_canArrange_3 : decode cX11_canArrange 3 = .ok (.getfield 7, 3) := by decide +kernel
theorem dX11_canArrange_6 : decode cX11_canArrange 6 = .ok (.iconst 0, 1) := by decide +kernel
theorem dX11_canArrange_7 : decode cX11_canArrange 7 = .ok (.iaload, 1) := by decide +kernel
theorem dX11_canArrange_8 : decode cX11_canArrange 8 = .ok (.iconst 1, 1) := by decide +kernel
theorem dX11_canArrange_9 : decode cX11_canArrange 9 = .ok (.iadd, 1) := by decide +kernel
theorem dX11_canArrange_10 : decode cX11_canArrange 10 = .ok (.invokevirtual 207, 3) := by decide +kernel
theorem dX11_canArrange_13 : decode cX11_canArrange 13 = .ok (.ifCond .ne 5, 3) := by decide +kernel
theorem dX11_canArrange_16 : decode cX11_canArrange 16 = .ok (.iconst 0, 1) := by decide +kernel
theorem dX11_canArrange_17 : decode cX11_canArrange 17 = .ok (.ireturn, 1) := by decide +kernel
theorem dX11_canArrange_18 : decode cX11_canArrange 18 = .ok (.iconst 0, 1) := by decide +kernel
theorem dX11_canArrange_19 : decode cX11_canArrange 19 = .ok (.istore_n 2, 1) := by decide +kernel
theorem dX11_canArrange_20 : decode cX11_canArrange 20 = .ok (.iload_n 2, 1) := by decide +kernel
theorem dX11_canArrange_21 : decode cX11_canArrange 21 = .ok (.aload_n 0, 1) := by decide +kernel
theorem dX11_canArrange_22 : decode cX11_canArrange 22 = .ok (.getfield 13, 3) := by decide +kernel
theorem dX11_canArrange_25 : decode cX11_canArrange 25 = .ok (.iconst 1, 1) := by decide +kernel
theorem dX11_canArrange_26 : decode cX11_canArrange 26 = .ok (.iaload, 1) := by decide +kernel
theorem dX11_canArrange_27 : decode cX11_canArrange 27 = .ok (.if_icmp .ge 84, 3) := by decide +kernel
theorem dX11_canArrange_30 : decode cX11_canArrange 30 = .ok (.aload_n 0, 1) := by decide +kernel
theorem dX11_canArrange_31 : decode cX11_canArrange 31 = .ok (.getfield 7, 3) := by decide +kernel
theorem dX11_canArrange_34 : decode cX11_canArrange 34 = .ok (.iconst 2, 1) := by decide +kernel
theorem dX11_canArrange_35 : decode cX11_canArrange 35 = .ok (.iaload, 1) := by decide +kernel
theorem dX11_canArrange_36 : decode cX11_canArrange 36 = .ok (.iload_n 2, 1) := by decide +kernel
theorem dX11_canArrange_37 : decode cX11_canArrange 37 = .ok (.invokestatic 201, 3) := by decide +kernel
theorem dX11_canArrange_40 : decode cX11_canArrange 40 = .ok (.ifCond .eq 65, 3) := by decide +kernel
theorem dX11_canArrange_43 : decode cX11_canArrange 43 = .ok (.aload_n 0, 1) := by decide +kernel
theorem dX11_canArrange_44 : decode cX11_canArrange 44 = .ok (.getfield 16, 3) := by decide +kernel
theorem dX11_canArrange_47 : decode cX11_canArrange 47 = .ok (.iload_n 2, 1) := by decide +kernel
theorem dX11_canArrange_48 : decode cX11_canArrange 48 = .ok (.iaload, 1) := by decide +kernel
theorem dX11_canArrange_49 : decode cX11_canArrange 49 = .ok (.aload_n 0, 1) := by decide +kernel
theorem dX11_canArrange_50 : decode cX11_canArrange 50 = .ok (.getfield 16, 3) := by decide +kernel
theorem dX11_canArrange_53 : decode cX11_canArrange 53 = .ok (.iload_n 1, 1) := by decide +kernel
theorem dX11_canArrange_54 : decode cX11_canArrange 54 = .ok (.iaload, 1) := by decide +kernel
theorem dX11_canArrange_55 : decode cX11_canArrange 55 = .ok (.if_icmp .eq 48, 3) := by decide +kernel
theorem dX11_canArrange_58 : decode cX11_canArrange 58 = .ok (.aload_n 0, 1) := by decide +kernel
theorem dX11_canArrange_59 : decode cX11_canArrange 59 = .ok (.getfield 16, 3) := by decide +kernel
theorem dX11_canArrange_62 : decode cX11_canArrange 62 = .ok (.iload_n 2, 1) := by decide +kernel
theorem dX11_canArrange_63 : decode cX11_canArrange 63 = .ok (.iaload, 1) := by decide +kernel
theorem dX11_canArrange_64 : decode cX11_canArrange 64 = .ok (.aload_n 0, 1) := by decide +kernel
theorem dX11_canArrange_65 : decode cX11_canArrange 65 = .ok (.getfield 19, 3) := by decide +kernel
theorem dX11_canArrange_68 : decode cX11_canArrange 68 = .ok (.iload_n 1, 1) := by decide +kernel
theorem dX11_canArrange_69 : decode cX11_canArrange 69 = .ok (.iaload, 1) := by decide +kernel
theorem dX11_canArrange_70 : decode cX11_canArrange 70 = .ok (.if_icmp .eq 33, 3) := by decide +kernel
theorem dX11_canArrange_73 : decode cX11_canArrange 73 = .ok (.aload_n 0, 1) := by decide +kernel
theorem dX11_canArrange_74 : decode cX11_canArrange 74 = .ok (.getfield 19, 3) := by decide +kernel
theorem dX11_canArrange_77 : decode cX11_canArrange 77 = .ok (.iload_n 2, 1) := by decide +kernel
theorem dX11_canArrange_78 : decode cX11_canArrange 78 = .ok (.iaload, 1) := by decide +kernel
theorem dX11_canArrange_79 : decode cX11_canArrange 79 = .ok (.aload_n 0, 1) := by decide +kernel
theorem dX11_canArrange_80 : decode cX11_canArrange 80 = .ok (.getfield 16, 3) := by decide +kernel
theorem dX11_canArrange_83 : decode cX11_canArrange 83 = .ok (.iload_n 1, 1) := by decide +kernel
theorem dX11_canArrange_84 : decode cX11_canArrange 84 = .ok (.iaload, 1) := by decide +kernel
theorem dX11_canArrange_85 : decode cX11_canArrange 85 = .ok (.if_icmp .eq 18, 3) := by decide +kernel
theorem dX11_canArrange_88 : decode cX11_canArrange 88 = .ok (.aload_n 0, 1) := by decide +kernel
theorem dX11_canArrange_89 : decode cX11_canArrange 89 = .ok (.getfield 19, 3) := by decide +kernel
theorem dX11_canArrange_92 : decode cX11_canArrange 92 = .ok (.iload_n 2, 1) := by decide +kernel
theorem dX11_canArrange_93 : decode cX11_canArrange 93 = .ok (.iaload, 1) := by decide +kernel
theorem dX11_canArrange_94 : decode cX11_canArrange 94 = .ok (.aload_n 0, 1) := by decide +kernel
theorem dX11_canArrange_95 : decode cX11_canArrange 95 = .ok (.getfield 19, 3) := by decide +kernel
theorem dX11_canArrange_98 : decode cX11_canArrange 98 = .ok (.iload_n 1, 1) := by decide +kernel
theorem dX11_canArrange_99 : decode cX11_canArrange 99 = .ok (.iaload, 1) := by decide +kernel
theorem dX11_canArrange_100 : decode cX11_canArrange 100 = .ok (.if_icmp .ne 5, 3) := by decide +kernel
theorem dX11_canArrange_103 : decode cX11_canArrange 103 = .ok (.iconst 0, 1) := by decide +kernel
theorem dX11_canArrange_104 : decode cX11_canArrange 104 = .ok (.ireturn, 1) := by decide +kernel
theorem dX11_canArrange_105 : decode cX11_canArrange 105 = .ok (.iinc 2 1, 3) := by decide +kernel
theorem dX11_canArrange_108 : decode cX11_canArrange 108 = .ok (.goto (-88), 3) := by decide +kernel
theorem dX11_canArrange_111 : decode cX11_canArrange 111 = .ok (.iconst 1, 1) := by decide +kernel
theorem dX11_canArrange_112 : decode cX11_canArrange 112 = .ok (.ireturn, 1) := by decide +kernel
theorem dX11_arrange_0 : decode cX11_arrange 0 = .ok (.aload_n 0, 1) := by decide +kernel
theorem dX11_arrange_1 : decode cX11_arrange 1 = .ok (.iload_n 1, 1) := by decide +kernel
theorem dX11_arrange_2 : decode cX11_arrange 2 = .ok (.invokevirtual 195, 3) := by decide +kernel
theorem dX11_arrange_5 : decode cX11_arrange 5 = .ok (.ifCond .ne 37, 3) := by decide +kernel
theorem dX11_arrange_8 : decode cX11_arrange 8 = .ok (.aload_n 0, 1) := by decide +kernel
theorem dX11_arrange_9 : decode cX11_arrange 9 = .ok (.aload_n 0, 1) := by decide +kernel
theorem dX11_arrange_10 : decode cX11_arrange 10 = .ok (.getfield 7, 3) := by decide +kernel
theorem dX11_arrange_13 : decode cX11_arrange 13 = .ok (.iconst 2, 1) := by decide +kernel
theorem dX11_arrange_14 : decode cX11_arrange 14 = .ok (.iaload, 1) := by decide +kernel
theorem dX11_arrange_15 : decode cX11_arrange 15 = .ok (.iload_n 1, 1) := by decide +kernel
theorem dX11_arrange_16 : decode cX11_arrange 16 = .ok (.invokestatic 201, 3) := by decide +kernel
theorem dX11_arrange_19 : decode cX11_arrange 19 = .ok (.ifCond .ne 11, 3) := by decide +kernel
theorem dX11_arrange_22 : decode cX11_arrange 22 = .ok (.aload_n 0, 1) := by decide +kernel
theorem dX11_arrange_23 : decode cX11_arrange 23 = .ok (.iload_n 1, 1) := by decide +kernel
theorem dX11_arrange_24 : decode cX11_arrange 24 = .ok (.invokevirtual 288, 3) := by decide +kernel
theorem dX11_arrange_27 : decode cX11_arrange 27 = .ok (.ifCond .ne 7, 3) := by decide +kernel
theorem dX11_arrange_30 : decode cX11_arrange 30 = .ok (.iconst 1, 1) := by decide +kernel
theorem dX11_arrange_31 : decode cX11_arrange 31 = .ok (.goto 4, 3) := by decide +kernel
theorem dX11_arrange_34 : decode cX11_arrange 34 = .ok (.iconst 0, 1) := by decide +kernel
theorem dX11_arrange_35 : decode cX11_arrange 35 = .ok (.iconst 2, 1) := by decide +kernel
theorem dX11_arrange_36 : decode cX11_arrange 36 = .ok (.invokevirtual 176, 3) := by decide +kernel
theorem dX11_arrange_39 : decode cX11_arrange 39 = .ok (.ifCond .eq 5, 3) := by decide +kernel
theorem dX11_arrange_42 : decode cX11_arrange 42 = .ok (.iconst 0, 1) := by decide +kernel
theorem dX11_arrange_43 : decode cX11_arrange 43 = .ok (.ireturn, 1) := by decide +kernel
theorem dX11_arrange_44 : decode cX11_arrange 44 = .ok (.aload_n 0, 1) := by decide +kernel
theorem dX11_arrange_45 : decode cX11_arrange 45 = .ok (.invokevirtual 291, 3) := by decide +kernel
theorem dX11_arrange_48 : decode cX11_arrange 48 = .ok (.aload_n 0, 1) := by decide +kernel
theorem dX11_arrange_49 : decode cX11_arrange 49 = .ok (.getfield 7, 3) := by decide +kernel
theorem dX11_arrange_52 : decode cX11_arrange 52 = .ok (.iconst 2, 1) := by decide +kernel
theorem dX11_arrange_53 : decode cX11_arrange 53 = .ok (.dup2, 1) := by decide +kernel
theorem dX11_arrange_54 : decode cX11_arrange 54 = .ok (.iaload, 1) := by decide +kernel
theorem dX11_arrange_55 : decode cX11_arrange 55 = .ok (.iconst 1, 1) := by decide +kernel
theorem dX11_arrange_56 : decode cX11_arrange 56 = .ok (.iload_n 1, 1) := by decide +kernel
theorem dX11_arrange_57 : decode cX11_arrange 57 = .ok (.ishl, 1) := by decide +kernel
theorem dX11_arrange_58 : decode cX11_arrange 58 = .ok (.ior, 1) := by decide +kernel
theorem dX11_arrange_59 : decode cX11_arrange 59 = .ok (.iastore, 1) := by decide +kernel
theorem dX11_arrange_60 : decode cX11_arrange 60 = .ok (.aload_n 0, 1) := by decide +kernel
theorem dX11_arrange_61 : decode cX11_arrange 61 = .ok (.invokevirtual 228, 3) := by decide +kernel
theorem dX11_arrange_64 : decode cX11_arrange 64 = .ok (.ireturn, 1) := by decide +kernel
theorem dX11_takeBack_0 : decode cX11_takeBack 0 = .ok (.aload_n 0, 1) := by decide +kernel
theorem dX11_takeBack_1 : decode cX11_takeBack 1 = .ok (.iload_n 1, 1) := by decide +kernel
theorem dX11_takeBack_2 : decode cX11_takeBack 2 = .ok (.invokevirtual 195, 3) := by decide +kernel
theorem dX11_takeBack_5 : decode cX11_takeBack 5 = .ok (.ifCond .ne 29, 3) := by decide +kernel
theorem dX11_takeBack_8 : decode cX11_takeBack 8 = .ok (.aload_n 0, 1) := by decide +kernel
theorem dX11_takeBack_9 : decode cX11_takeBack 9 = .ok (.aload_n 0, 1) := by decide +kernel
theorem dX11_takeBack_10 : decode cX11_takeBack 10 = .ok (.getfield 7, 3) := by decide +kernel
theorem dX11_takeBack_13 : decode cX11_takeBack 13 = .ok (.iconst 2, 1) := by decide +kernel
theorem dX11_takeBack_14 : decode cX11_takeBack 14 = .ok (.iaload, 1) := by decide +kernel
theorem dX11_takeBack_15 : decode cX11_takeBack 15 = .ok (.iload_n 1, 1) := by decide +kernel
theorem dX11_takeBack_16 : decode cX11_takeBack 16 = .ok (.invokestatic 201, 3) := by decide +kernel
theorem dX11_takeBack_19 : decode cX11_takeBack 19 = .ok (.ifCond .ne 7, 3) := by decide +kernel
theorem dX11_takeBack_22 : decode cX11_takeBack 22 = .ok (.iconst 1, 1) := by decide +kernel
theorem dX11_takeBack_23 : decode cX11_takeBack 23 = .ok (.goto 4, 3) := by decide +kernel
theorem dX11_takeBack_26 : decode cX11_takeBack 26 = .ok (.iconst 0, 1) := by decide +kernel
theorem dX11_takeBack_27 : decode cX11_takeBack 27 = .ok (.iconst 2, 1) := by decide +kernel
theorem dX11_takeBack_28 : decode cX11_takeBack 28 = .ok (.invokevirtual 176, 3) := by decide +kernel
theorem dX11_takeBack_31 : decode cX11_takeBack 31 = .ok (.ifCond .eq 5, 3) := by decide +kernel
theorem dX11_takeBack_34 : decode cX11_takeBack 34 = .ok (.iconst 0, 1) := by decide +kernel
theorem dX11_takeBack_35 : decode cX11_takeBack 35 = .ok (.ireturn, 1) := by decide +kernel
theorem dX11_takeBack_36 : decode cX11_takeBack 36 = .ok (.aload_n 0, 1) := by decide +kernel
theorem dX11_takeBack_37 : decode cX11_takeBack 37 = .ok (.invokevirtual 291, 3) := by decide +kernel
theorem dX11_takeBack_40 : decode cX11_takeBack 40 = .ok (.aload_n 0, 1) := by decide +kernel
theorem dX11_takeBack_41 : decode cX11_takeBack 41 = .ok (.getfield 7, 3) := by decide +kernel
theorem dX11_takeBack_44 : decode cX11_takeBack 44 = .ok (.iconst 2, 1) := by decide +kernel
theorem dX11_takeBack_45 : decode cX11_takeBack 45 = .ok (.dup2, 1) := by decide +kernel
theorem dX11_takeBack_46 : decode cX11_takeBack 46 = .ok (.iaload, 1) := by decide +kernel
theorem dX11_takeBack_47 : decode cX11_takeBack 47 = .ok (.iconst 1, 1) := by decide +kernel
theorem dX11_takeBack_48 : decode cX11_takeBack 48 = .ok (.iload_n 1, 1) := by decide +kernel
theorem dX11_takeBack_49 : decode cX11_takeBack 49 = .ok (.ishl, 1) := by decide +kernel
theorem dX11_takeBack_50 : decode cX11_takeBack 50 = .ok (.isub, 1) := by decide +kernel
theorem dX11_takeBack_51 : decode cX11_takeBack 51 = .ok (.iastore, 1) := by decide +kernel
theorem dX11_takeBack_52 : decode cX11_takeBack 52 = .ok (.aload_n 0, 1) := by decide +kernel
theorem dX11_takeBack_53 : decode cX11_takeBack 53 = .ok (.invokevirtual 228, 3) := by decide +kernel
theorem dX11_takeBack_56 : decode cX11_takeBack 56 = .ok (.ireturn, 1) := by decide +kernel
theorem dX11_arrangeBest_0 : decode cX11_arrangeBest 0 = .ok (.aload_n 0, 1) := by decide +kernel
theorem dX11_arrangeBest_1 : decode cX11_arrangeBest 1 = .ok (.iconst 0, 1) := by decide +kernel
theorem dX11_arrangeBest_2 : decode cX11_arrangeBest 2 = .ok (.putfield 80, 3) := by decide +kernel
theorem dX11_arrangeBest_5 : decode cX11_arrangeBest 5 = .ok (.aload_n 0, 1) := by decide +kernel
theorem dX11_arrangeBest_6 : decode cX11_arrangeBest 6 = .ok (.invokevirtual 291, 3) := by decide +kernel
theorem dX11_arrangeBest_9 : decode cX11_arrangeBest 9 = .ok (.aload_n 0, 1) := by decide +kernel
theorem dX11_arrangeBest_10 : decode cX11_arrangeBest 10 = .ok (.getfield 7, 3) := by decide +kernel
theorem dX11_arrangeBest_13 : decode cX11_arrangeBest 13 = .ok (.iconst 2, 1) := by decide +kernel
theorem dX11_arrangeBest_14 : decode cX11_arrangeBest 14 = .ok (.aload_n 0, 1) := by decide +kernel
theorem dX11_arrangeBest_15 : decode cX11_arrangeBest 15 = .ok (.invokevirtual 240, 3) := by decide +kernel
theorem dX11_arrangeBest_18 : decode cX11_arrangeBest 18 = .ok (.iastore, 1) := by decide +kernel
theorem dX11_arrangeBest_19 : decode cX11_arrangeBest 19 = .ok (.aload_n 0, 1) := by decide +kernel
theorem dX11_arrangeBest_20 : decode cX11_arrangeBest 20 = .ok (.invokevirtual 228, 3) := by decide +kernel
theorem dX11_arrangeBest_23 : decode cX11_arrangeBest 23 = .ok (.ireturn, 1) := by decide +kernel
theorem dX11_ring_0 : decode cX11_ring 0 = .ok (.aload_n 0, 1) := by decide +kernel
theorem dX11_ring_1 : decode cX11_ring 1 = .ok (.iconst 0, 1) := by decide +kernel
theorem dX11_ring_2 : decode cX11_ring 2 = .ok (.putfield 80, 3) := by decide +kernel
theorem dX11_ring_5 : decode cX11_ring 5 = .ok (.aload_n 0, 1) := by decide +kernel
theorem dX11_ring_6 : decode cX11_ring 6 = .ok (.aload_n 0, 1) := by decide +kernel
theorem dX11_ring_7 : decode cX11_ring 7 = .ok (.getfield 7, 3) := by decide +kernel
theorem dX11_ring_10 : decode cX11_ring 10 = .ok (.iconst 0, 1) := by decide +kernel
theorem dX11_ring_11 : decode cX11_ring 11 = .ok (.iaload, 1) := by decide +kernel
theorem dX11_ring_12 : decode cX11_ring 12 = .ok (.sipush 9999, 3) := by decide +kernel
theorem dX11_ring_15 : decode cX11_ring 15 = .ok (.if_icmp .ne 7, 3) := by decide +kernel
theorem dX11_ring_18 : decode cX11_ring 18 = .ok (.iconst 1, 1) := by decide +kernel
theorem dX11_ring_19 : decode cX11_ring 19 = .ok (.goto 4, 3) := by decide +kernel
theorem dX11_ring_22 : decode cX11_ring 22 = .ok (.iconst 0, 1) := by decide +kernel
theorem dX11_ring_23 : decode cX11_ring 23 = .ok (.iconst 1, 1) := by decide +kernel
theorem dX11_ring_24 : decode cX11_ring 24 = .ok (.invokevirtual 176, 3) := by decide +kernel
theorem dX11_ring_27 : decode cX11_ring 27 = .ok (.ifCond .eq 5, 3) := by decide +kernel
theorem dX11_ring_30 : decode cX11_ring 30 = .ok (.iconst 0, 1) := by decide +kernel
theorem dX11_ring_31 : decode cX11_ring 31 = .ok (.ireturn, 1) := by decide +kernel
theorem dX11_ring_32 : decode cX11_ring 32 = .ok (.aload_n 0, 1) := by decide +kernel
theorem dX11_ring_33 : decode cX11_ring 33 = .ok (.invokevirtual 291, 3) := by decide +kernel
theorem dX11_ring_36 : decode cX11_ring 36 = .ok (.aload_n 0, 1) := by decide +kernel
theorem dX11_ring_37 : decode cX11_ring 37 = .ok (.invokevirtual 228, 3) := by decide +kernel
theorem dX11_ring_40 : decode cX11_ring 40 = .ok (.istore_n 1, 1) := by decide +kernel
theorem dX11_ring_41 : decode cX11_ring 41 = .ok (.aload_n 0, 1) := by decide +kernel
theorem dX11_ring_42 : decode cX11_ring 42 = .ok (.getfield 7, 3) := by decide +kernel
theorem dX11_ring_45 : decode cX11_ring 45 = .ok (.bipush 14, 2) := by decide +kernel
theorem dX11_ring_47 : decode cX11_ring 47 = .ok (.aload_n 0, 1) := by decide +kernel
theorem dX11_ring_48 : decode cX11_ring 48 = .ok (.getfield 7, 3) := by decide +kernel
theorem dX11_ring_51 : decode cX11_ring 51 = .ok (.iconst 0, 1) := by decide +kernel
theorem dX11_ring_52 : decode cX11_ring 52 = .ok (.iaload, 1) := by decide +kernel
theorem dX11_ring_53 : decode cX11_ring 53 = .ok (.iadd, 1) := by decide +kernel
theorem dX11_ring_54 : decode cX11_ring 54 = .ok (.iaload, 1) := by decide +kernel
theorem dX11_ring_55 : decode cX11_ring 55 = .ok (.aload_n 0, 1) := by decide +kernel
theorem dX11_ring_56 : decode cX11_ring 56 = .ok (.aload_n 0, 1) := by decide +kernel
theorem dX11_ring_57 : decode cX11_ring 57 = .ok (.getfield 7, 3) := by decide +kernel
theorem dX11_ring_60 : decode cX11_ring 60 = .ok (.iconst 2, 1) := by decide +kernel
theorem dX11_ring_61 : decode cX11_ring 61 = .ok (.iaload, 1) := by decide +kernel
theorem dX11_ring_62 : decode cX11_ring 62 = .ok (.invokevirtual 243, 3) := by decide +kernel
theorem dX11_ring_65 : decode cX11_ring 65 = .ok (.iadd, 1) := by decide +kernel
theorem dX11_ring_66 : decode cX11_ring 66 = .ok (.istore_n 2, 1) := by decide +kernel
theorem dX11_ring_67 : decode cX11_ring 67 = .ok (.aload_n 0, 1) := by decide +kernel
theorem dX11_ring_68 : decode cX11_ring 68 = .ok (.invokevirtual 246, 3) := by decide +kernel
theorem dX11_ring_71 : decode cX11_ring 71 = .ok (.aload_n 0, 1) := by decide +kernel
theorem dX11_ring_72 : decode cX11_ring 72 = .ok (.aload_n 0, 1) := by decide +kernel
theorem dX11_ring_73 : decode cX11_ring 73 = .ok (.getfield 7, 3) := by decide +kernel
theorem dX11_ring_76 : decode cX11_ring 76 = .ok (.iconst 2, 1) := by decide +kernel
theorem dX11_ring_77 : decode cX11_ring 77 = .ok (.iaload, 1) := by decide +kernel
theorem dX11_ring_78 : decode cX11_ring 78 = .ok (.invokevirtual 249, 3) := by decide +kernel
theorem dX11_ring_81 : decode cX11_ring 81 = .ok (.iconst 0, 1) := by decide +kernel
theorem dX11_ring_82 : decode cX11_ring 82 = .ok (.istore_n 3, 1) := by decide +kernel
theorem dX11_ring_83 : decode cX11_ring 83 = .ok (.iload_n 3, 1) := by decide +kernel
theorem dX11_ring_84 : decode cX11_ring 84 = .ok (.aload_n 0, 1) := by decide +kernel
theorem dX11_ring_85 : decode cX11_ring 85 = .ok (.getfield 13, 3) := by decide +kernel
theorem dX11_ring_88 : decode cX11_ring 88 = .ok (.iconst 0, 1) := by decide +kernel
theorem dX11_ring_89 : decode cX11_ring 89 = .ok (.iaload, 1) := by decide +kernel
theorem dX11_ring_90 : decode cX11_ring 90 = .ok (.if_icmp .ge 23, 3) := by decide +kernel
theorem dX11_ring_93 : decode cX11_ring 93 = .ok (.aload_n 0, 1) := by decide +kernel
theorem dX11_ring_94 : decode cX11_ring 94 = .ok (.getfield 7, 3) := by decide +kernel
theorem dX11_ring_97 : decode cX11_ring 97 = .ok (.iconst 4, 1) := by decide +kernel
theorem dX11_ring_98 : decode cX11_ring 98 = .ok (.iload_n 3, 1) := by decide +kernel
theorem dX11_ring_99 : decode cX11_ring 99 = .ok (.iadd, 1) := by decide +kernel
theorem dX11_ring_100 : decode cX11_ring 100 = .ok (.aload_n 0, 1) := by decide +kernel
theorem dX11_ring_101 : decode cX11_ring 101 = .ok (.getfield 49, 3) := by decide +kernel
theorem dX11_ring_104 : decode cX11_ring 104 = .ok (.iload_n 3, 1) := by decide +kernel
theorem dX11_ring_105 : decode cX11_ring 105 = .ok (.iaload, 1) := by decide +kernel
theorem dX11_ring_106 : decode cX11_ring 106 = .ok (.iastore, 1) := by decide +kernel
theorem dX11_ring_107 : decode cX11_ring 107 = .ok (.iinc 3 1, 3) := by decide +kernel
theorem dX11_ring_110 : decode cX11_ring 110 = .ok (.goto (-27), 3) := by decide +kernel
theorem dX11_ring_113 : decode cX11_ring 113 = .ok (.aload_n 0, 1) := by decide +kernel
theorem dX11_ring_114 : decode cX11_ring 114 = .ok (.getfield 7, 3) := by decide +kernel
theorem dX11_ring_117 : decode cX11_ring 117 = .ok (.iconst 1, 1) := by decide +kernel
theorem dX11_ring_118 : decode cX11_ring 118 = .ok (.dup2, 1) := by decide +kernel
theorem dX11_ring_119 : decode cX11_ring 119 = .ok (.iaload, 1) := by decide +kernel
theorem dX11_ring_120 : decode cX11_ring 120 = .ok (.aload_n 0, 1) := by decide +kernel
theorem dX11_ring_121 : decode cX11_ring 121 = .ok (.getfield 7, 3) := by decide +kernel
theorem dX11_ring_124 : decode cX11_ring 124 = .ok (.iconst 2, 1) := by decide +kernel
theorem dX11_ring_125 : decode cX11_ring 125 = .ok (.iaload, 1) := by decide +kernel
theorem dX11_ring_126 : decode cX11_ring 126 = .ok (.invokestatic 192, 3) := by decide +kernel
theorem dX11_ring_129 : decode cX11_ring 129 = .ok (.iadd, 1) := by decide +kernel
theorem dX11_ring_130 : decode cX11_ring 130 = .ok (.iastore, 1) := by decide +kernel
theorem dX11_ring_131 : decode cX11_ring 131 = .ok (.aload_n 0, 1) := by decide +kernel
theorem dX11_ring_132 : decode cX11_ring 132 = .ok (.getfield 7, 3) := by decide +kernel
theorem dX11_ring_135 : decode cX11_ring 135 = .ok (.iconst 2, 1) := by decide +kernel
theorem dX11_ring_136 : decode cX11_ring 136 = .ok (.iconst 0, 1) := by decide +kernel
theorem dX11_ring_137 : decode cX11_ring 137 = .ok (.iastore, 1) := by decide +kernel
theorem dX11_ring_138 : decode cX11_ring 138 = .ok (.aload_n 0, 1) := by decide +kernel
theorem dX11_ring_139 : decode cX11_ring 139 = .ok (.getfield 7, 3) := by decide +kernel
theorem dX11_ring_142 : decode cX11_ring 142 = .ok (.iconst 0, 1) := by decide +kernel
theorem dX11_ring_143 : decode cX11_ring 143 = .ok (.dup2, 1) := by decide +kernel
theorem dX11_ring_144 : decode cX11_ring 144 = .ok (.iaload, 1) := by decide +kernel
theorem dX11_ring_145 : decode cX11_ring 145 = .ok (.aload_n 0, 1) := by decide +kernel
theorem dX11_ring_146 : decode cX11_ring 146 = .ok (.getfield 7, 3) := by decide +kernel
theorem dX11_ring_149 : decode cX11_ring 149 = .ok (.iconst 0, 1) := by decide +kernel
theorem dX11_ring_150 : decode cX11_ring 150 = .ok (.iaload, 1) := by decide +kernel
theorem dX11_ring_151 : decode cX11_ring 151 = .ok (.sipush 499, 3) := by decide +kernel
theorem dX11_ring_154 : decode cX11_ring 154 = .ok (.if_icmp .ge 7, 3) := by decide +kernel
theorem dX11_ring_157 : decode cX11_ring 157 = .ok (.iconst 1, 1) := by decide +kernel
theorem dX11_ring_158 : decode cX11_ring 158 = .ok (.goto 4, 3) := by decide +kernel
theorem dX11_ring_161 : decode cX11_ring 161 = .ok (.iconst 0, 1) := by decide +kernel
theorem dX11_ring_162 : decode cX11_ring 162 = .ok (.iadd, 1) := by decide +kernel
theorem dX11_ring_163 : decode cX11_ring 163 = .ok (.iastore, 1) := by decide +kernel
theorem dX11_ring_164 : decode cX11_ring 164 = .ok (.aload_n 0, 1) := by decide +kernel
theorem dX11_ring_165 : decode cX11_ring 165 = .ok (.getfield 7, 3) := by decide +kernel
theorem dX11_ring_168 : decode cX11_ring 168 = .ok (.bipush 14, 2) := by decide +kernel
theorem dX11_ring_170 : decode cX11_ring 170 = .ok (.aload_n 0, 1) := by decide +kernel
theorem dX11_ring_171 : decode cX11_ring 171 = .ok (.getfield 7, 3) := by decide +kernel
theorem dX11_ring_174 : decode cX11_ring 174 = .ok (.iconst 0, 1) := by decide +kernel
theorem dX11_ring_175 : decode cX11_ring 175 = .ok (.iaload, 1) := by decide +kernel
theorem dX11_ring_176 : decode cX11_ring 176 = .ok (.iadd, 1) := by decide +kernel
theorem dX11_ring_177 : decode cX11_ring 177 = .ok (.iload_n 2, 1) := by decide +kernel
theorem dX11_ring_178 : decode cX11_ring 178 = .ok (.iastore, 1) := by decide +kernel
theorem dX11_ring_179 : decode cX11_ring 179 = .ok (.iload_n 1, 1) := by decide +kernel
theorem dX11_ring_180 : decode cX11_ring 180 = .ok (.ireturn, 1) := by decide +kernel
theorem dX11_cut_0 : decode cX11_cut 0 = .ok (.aload_n 0, 1) := by decide +kernel
theorem dX11_cut_1 : decode cX11_cut 1 = .ok (.iload_n 1, 1) := by decide +kernel
theorem dX11_cut_2 : decode cX11_cut 2 = .ok (.invokevirtual 195, 3) := by decide +kernel
theorem dX11_cut_5 : decode cX11_cut 5 = .ok (.ifCond .ne 21, 3) := by decide +kernel
theorem dX11_cut_8 : decode cX11_cut 8 = .ok (.aload_n 0, 1) := by decide +kernel
theorem dX11_cut_9 : decode cX11_cut 9 = .ok (.aload_n 0, 1) := by decide +kernel
theorem dX11_cut_10 : decode cX11_cut 10 = .ok (.getfield 7, 3) := by decide +kernel
theorem dX11_cut_13 : decode cX11_cut 13 = .ok (.iconst 3, 1) := by decide +kernel
theorem dX11_cut_14 : decode cX11_cut 14 = .ok (.iaload, 1) := by decide +kernel
theorem dX11_cut_15 : decode cX11_cut 15 = .ok (.iload_n 1, 1) := by decide +kernel
theorem dX11_cut_16 : decode cX11_cut 16 = .ok (.invokestatic 201, 3) := by decide +kernel
theorem dX11_cut_19 : decode cX11_cut 19 = .ok (.iconst 2, 1) := by decide +kernel
theorem dX11_cut_20 : decode cX11_cut 20 = .ok (.invokevirtual 176, 3) := by decide +kernel
theorem dX11_cut_23 : decode cX11_cut 23 = .ok (.ifCond .eq 5, 3) := by decide +kernel
theorem dX11_cut_26 : decode cX11_cut 26 = .ok (.iconst 0, 1) := by decide +kernel
theorem dX11_cut_27 : decode cX11_cut 27 = .ok (.ireturn, 1) := by decide +kernel
theorem dX11_cut_28 : decode cX11_cut 28 = .ok (.aload_n 0, 1) := by decide +kernel
theorem dX11_cut_29 : decode cX11_cut 29 = .ok (.invokevirtual 291, 3) := by decide +kernel
theorem dX11_cut_32 : decode cX11_cut 32 = .ok (.aload_n 0, 1) := by decide +kernel
theorem dX11_cut_33 : decode cX11_cut 33 = .ok (.getfield 7, 3) := by decide +kernel
theorem dX11_cut_36 : decode cX11_cut 36 = .ok (.iconst 2, 1) := by decide +kernel
theorem dX11_cut_37 : decode cX11_cut 37 = .ok (.iaload, 1) := by decide +kernel
theorem dX11_cut_38 : decode cX11_cut 38 = .ok (.iload_n 1, 1) := by decide +kernel
theorem dX11_cut_39 : decode cX11_cut 39 = .ok (.invokestatic 201, 3) := by decide +kernel
theorem dX11_cut_42 : decode cX11_cut 42 = .ok (.istore_n 2, 1) := by decide +kernel
theorem dX11_cut_43 : decode cX11_cut 43 = .ok (.aload_n 0, 1) := by decide +kernel
theorem dX11_cut_44 : decode cX11_cut 44 = .ok (.getfield 7, 3) := by decide +kernel
theorem dX11_cut_47 : decode cX11_cut 47 = .ok (.iconst 2, 1) := by decide +kernel
theorem dX11_cut_48 : decode cX11_cut 48 = .ok (.dup2, 1) := by decide +kernel
theorem dX11_cut_49 : decode cX11_cut 49 = .ok (.iaload, 1) := by decide +kernel
theorem dX11_cut_50 : decode cX11_cut 50 = .ok (.iload_n 2, 1) := by decide +kernel
theorem dX11_cut_51 : decode cX11_cut 51 = .ok (.ifCond .eq 9, 3) := by decide +kernel
theorem dX11_cut_54 : decode cX11_cut 54 = .ok (.iconst 1, 1) := by decide +kernel
theorem dX11_cut_55 : decode cX11_cut 55 = .ok (.iload_n 1, 1) := by decide +kernel
theorem dX11_cut_56 : decode cX11_cut 56 = .ok (.ishl, 1) := by decide +kernel
theorem dX11_cut_57 : decode cX11_cut 57 = .ok (.goto 4, 3) := by decide +kernel
theorem dX11_cut_60 : decode cX11_cut 60 = .ok (.iconst 0, 1) := by decide +kernel
theorem dX11_cut_61 : decode cX11_cut 61 = .ok (.isub, 1) := by decide +kernel
theorem dX11_cut_62 : decode cX11_cut 62 = .ok (.iastore, 1) := by decide +kernel
theorem dX11_cut_63 : decode cX11_cut 63 = .ok (.aload_n 0, 1) := by decide +kernel
theorem dX11_cut_64 : decode cX11_cut 64 = .ok (.getfield 7, 3) := by decide +kernel
theorem dX11_cut_67 : decode cX11_cut 67 = .ok (.iconst 3, 1) := by decide +kernel
theorem dX11_cut_68 : decode cX11_cut 68 = .ok (.dup2, 1) := by decide +kernel
theorem dX11_cut_69 : decode cX11_cut 69 = .ok (.iaload, 1) := by decide +kernel
theorem dX11_cut_70 : decode cX11_cut 70 = .ok (.iconst 1, 1) := by decide +kernel
theorem dX11_cut_71 : decode cX11_cut 71 = .ok (.iload_n 1, 1) := by decide +kernel
theorem dX11_cut_72 : decode cX11_cut 72 = .ok (.ishl, 1) := by decide +kernel
theorem dX11_cut_73 : decode cX11_cut 73 = .ok (.ior, 1) := by decide +kernel
theorem dX11_cut_74 : decode cX11_cut 74 = .ok (.iastore, 1) := by decide +kernel
theorem dX11_cut_75 : decode cX11_cut 75 = .ok (.iload_n 2, 1) := by decide +kernel
theorem dX11_cut_76 : decode cX11_cut 76 = .ok (.ireturn, 1) := by decide +kernel
theorem dX11_mend_0 : decode cX11_mend 0 = .ok (.aload_n 0, 1) := by decide +kernel
theorem dX11_mend_1 : decode cX11_mend 1 = .ok (.iload_n 1, 1) := by decide +kernel
theorem dX11_mend_2 : decode cX11_mend 2 = .ok (.invokevirtual 195, 3) := by decide +kernel
theorem dX11_mend_5 : decode cX11_mend 5 = .ok (.ifCond .ne 29, 3) := by decide +kernel
theorem dX11_mend_8 : decode cX11_mend 8 = .ok (.aload_n 0, 1) := by decide +kernel
theorem dX11_mend_9 : decode cX11_mend 9 = .ok (.aload_n 0, 1) := by decide +kernel
theorem dX11_mend_10 : decode cX11_mend 10 = .ok (.getfield 7, 3) := by decide +kernel
theorem dX11_mend_13 : decode cX11_mend 13 = .ok (.iconst 3, 1) := by decide +kernel
theorem dX11_mend_14 : decode cX11_mend 14 = .ok (.iaload, 1) := by decide +kernel
theorem dX11_mend_15 : decode cX11_mend 15 = .ok (.iload_n 1, 1) := by decide +kernel
theorem dX11_mend_16 : decode cX11_mend 16 = .ok (.invokestatic 201, 3) := by decide +kernel
theorem dX11_mend_19 : decode cX11_mend 19 = .ok (.ifCond .ne 7, 3) := by decide +kernel
theorem dX11_mend_22 : decode cX11_mend 22 = .ok (.iconst 1, 1) := by decide +kernel
theorem dX11_mend_23 : decode cX11_mend 23 = .ok (.goto 4, 3) := by decide +kernel
theorem dX11_mend_26 : decode cX11_mend 26 = .ok (.iconst 0, 1) := by decide +kernel
theorem dX11_mend_27 : decode cX11_mend 27 = .ok (.iconst 2, 1) := by decide +kernel
theorem dX11_mend_28 : decode cX11_mend 28 = .ok (.invokevirtual 176, 3) := by decide +kernel
theorem dX11_mend_31 : decode cX11_mend 31 = .ok (.ifCond .eq 5, 3) := by decide +kernel
theorem dX11_mend_34 : decode cX11_mend 34 = .ok (.iconst 0, 1) := by decide +kernel
theorem dX11_mend_35 : decode cX11_mend 35 = .ok (.ireturn, 1) := by decide +kernel
theorem dX11_mend_36 : decode cX11_mend 36 = .ok (.aload_n 0, 1) := by decide +kernel
theorem dX11_mend_37 : decode cX11_mend 37 = .ok (.invokevirtual 291, 3) := by decide +kernel
theorem dX11_mend_40 : decode cX11_mend 40 = .ok (.aload_n 0, 1) := by decide +kernel
theorem dX11_mend_41 : decode cX11_mend 41 = .ok (.getfield 7, 3) := by decide +kernel
theorem dX11_mend_44 : decode cX11_mend 44 = .ok (.iconst 3, 1) := by decide +kernel
theorem dX11_mend_45 : decode cX11_mend 45 = .ok (.dup2, 1) := by decide +kernel
theorem dX11_mend_46 : decode cX11_mend 46 = .ok (.iaload, 1) := by decide +kernel
theorem dX11_mend_47 : decode cX11_mend 47 = .ok (.iconst 1, 1) := by decide +kernel
theorem dX11_mend_48 : decode cX11_mend 48 = .ok (.iload_n 1, 1) := by decide +kernel
theorem dX11_mend_49 : decode cX11_mend 49 = .ok (.ishl, 1) := by decide +kernel
theorem dX11_mend_50 : decode cX11_mend 50 = .ok (.isub, 1) := by decide +kernel
theorem dX11_mend_51 : decode cX11_mend 51 = .ok (.iastore, 1) := by decide +kernel
theorem dX11_mend_52 : decode cX11_mend 52 = .ok (.aload_n 0, 1) := by decide +kernel
theorem dX11_mend_53 : decode cX11_mend 53 = .ok (.getfield 7, 3) := by decide +kernel
theorem dX11_mend_56 : decode cX11_mend 56 = .ok (.iconst 3, 1) := by decide +kernel
theorem dX11_mend_57 : decode cX11_mend 57 = .ok (.iaload, 1) := by decide +kernel
theorem dX11_mend_58 : decode cX11_mend 58 = .ok (.invokestatic 192, 3) := by decide +kernel
theorem dX11_mend_61 : decode cX11_mend 61 = .ok (.ireturn, 1) := by decide +kernel
theorem dX11_tell_0 : decode cX11_tell 0 = .ok (.aload_n 0, 1) := by decide +kernel
theorem dX11_tell_1 : decode cX11_tell 1 = .ok (.iload_n 1, 1) := by decide +kernel
theorem dX11_tell_2 : decode cX11_tell 2 = .ok (.invokevirtual 210, 3) := by decide +kernel
theorem dX11_tell_5 : decode cX11_tell 5 = .ok (.ifCond .ne 11, 3) := by decide +kernel
theorem dX11_tell_8 : decode cX11_tell 8 = .ok (.aload_n 0, 1) := by decide +kernel
theorem dX11_tell_9 : decode cX11_tell 9 = .ok (.iload_n 2, 1) := by decide +kernel
theorem dX11_tell_10 : decode cX11_tell 10 = .ok (.invokevirtual 210, 3) := by decide +kernel
theorem dX11_tell_13 : decode cX11_tell 13 = .ok (.ifCond .eq 5, 3) := by decide +kernel
theorem dX11_tell_16 : decode cX11_tell 16 = .ok (.iconst 0, 1) := by decide +kernel
theorem dX11_tell_17 : decode cX11_tell 17 = .ok (.ireturn, 1) := by decide +kernel
theorem dX11_tell_18 : decode cX11_tell 18 = .ok (.aload_n 0, 1) := by decide +kernel
theorem dX11_tell_19 : decode cX11_tell 19 = .ok (.aload_n 0, 1) := by decide +kernel
theorem dX11_tell_20 : decode cX11_tell 20 = .ok (.getfield 7, 3) := by decide +kernel
theorem dX11_tell_23 : decode cX11_tell 23 = .ok (.iconst 4, 1) := by decide +kernel
theorem dX11_tell_24 : decode cX11_tell 24 = .ok (.iload_n 1, 1) := by decide +kernel
theorem dX11_tell_25 : decode cX11_tell 25 = .ok (.iadd, 1) := by decide +kernel
theorem dX11_tell_26 : decode cX11_tell 26 = .ok (.iaload, 1) := by decide +kernel
theorem dX11_tell_27 : decode cX11_tell 27 = .ok (.iload_n 2, 1) := by decide +kernel
theorem dX11_tell_28 : decode cX11_tell 28 = .ok (.invokestatic 201, 3) := by decide +kernel
theorem dX11_tell_31 : decode cX11_tell 31 = .ok (.iconst 2, 1) := by decide +kernel
theorem dX11_tell_32 : decode cX11_tell 32 = .ok (.invokevirtual 176, 3) := by decide +kernel
theorem dX11_tell_35 : decode cX11_tell 35 = .ok (.ifCond .eq 5, 3) := by decide +kernel
theorem dX11_tell_38 : decode cX11_tell 38 = .ok (.iconst 0, 1) := by decide +kernel
theorem dX11_tell_39 : decode cX11_tell 39 = .ok (.ireturn, 1) := by decide +kernel
theorem dX11_tell_40 : decode cX11_tell 40 = .ok (.aload_n 0, 1) := by decide +kernel
theorem dX11_tell_41 : decode cX11_tell 41 = .ok (.invokevirtual 291, 3) := by decide +kernel
theorem dX11_tell_44 : decode cX11_tell 44 = .ok (.aload_n 0, 1) := by decide +kernel
theorem dX11_tell_45 : decode cX11_tell 45 = .ok (.getfield 7, 3) := by decide +kernel
theorem dX11_tell_48 : decode cX11_tell 48 = .ok (.iconst 4, 1) := by decide +kernel
theorem dX11_tell_49 : decode cX11_tell 49 = .ok (.iload_n 1, 1) := by decide +kernel
theorem dX11_tell_50 : decode cX11_tell 50 = .ok (.iadd, 1) := by decide +kernel
theorem dX11_tell_51 : decode cX11_tell 51 = .ok (.dup2, 1) := by decide +kernel
theorem dX11_tell_52 : decode cX11_tell 52 = .ok (.iaload, 1) := by decide +kernel
theorem dX11_tell_53 : decode cX11_tell 53 = .ok (.iconst 1, 1) := by decide +kernel
theorem dX11_tell_54 : decode cX11_tell 54 = .ok (.iload_n 2, 1) := by decide +kernel
theorem dX11_tell_55 : decode cX11_tell 55 = .ok (.ishl, 1) := by decide +kernel
theorem dX11_tell_56 : decode cX11_tell 56 = .ok (.ior, 1) := by decide +kernel
theorem dX11_tell_57 : decode cX11_tell 57 = .ok (.iastore, 1) := by decide +kernel
theorem dX11_tell_58 : decode cX11_tell 58 = .ok (.aload_n 0, 1) := by decide +kernel
theorem dX11_tell_59 : decode cX11_tell 59 = .ok (.getfield 7, 3) := by decide +kernel
theorem dX11_tell_62 : decode cX11_tell 62 = .ok (.iconst 4, 1) := by decide +kernel
theorem dX11_tell_63 : decode cX11_tell 63 = .ok (.iload_n 1, 1) := by decide +kernel
theorem dX11_tell_64 : decode cX11_tell 64 = .ok (.iadd, 1) := by decide +kernel
theorem dX11_tell_65 : decode cX11_tell 65 = .ok (.iaload, 1) := by decide +kernel
theorem dX11_tell_66 : decode cX11_tell 66 = .ok (.invokestatic 192, 3) := by decide +kernel
theorem dX11_tell_69 : decode cX11_tell 69 = .ok (.ireturn, 1) := by decide +kernel
theorem dX11_copies_0 : decode cX11_copies 0 = .ok (.iconst 0, 1) := by decide +kernel
theorem dX11_copies_1 : decode cX11_copies 1 = .ok (.istore 5, 2) := by decide +kernel
theorem dX11_copies_3 : decode cX11_copies 3 = .ok (.iload 5, 2) := by decide +kernel
theorem dX11_copies_5 : decode cX11_copies 5 = .ok (.iload 4, 2) := by decide +kernel
theorem dX11_copies_7 : decode cX11_copies 7 = .ok (.if_icmp .ge 21, 3) := by decide +kernel
theorem dX11_copies_10 : decode cX11_copies 10 = .ok (.aload_n 2, 1) := by decide +kernel
theorem dX11_copies_11 : decode cX11_copies 11 = .ok (.iload_n 3, 1) := by decide +kernel
theorem dX11_copies_12 : decode cX11_copies 12 = .ok (.iload 5, 2) := by decide +kernel
theorem dX11_copies_14 : decode cX11_copies 14 = .ok (.iadd, 1) := by decide +kernel
theorem dX11_copies_15 : decode cX11_copies 15 = .ok (.aload_n 0, 1) := by decide +kernel
theorem dX11_copies_16 : decode cX11_copies 16 = .ok (.iload_n 1, 1) := by decide +kernel
theorem dX11_copies_17 : decode cX11_copies 17 = .ok (.iload 5, 2) := by decide +kernel
theorem dX11_copies_19 : decode cX11_copies 19 = .ok (.iadd, 1) := by decide +kernel
theorem dX11_copies_20 : decode cX11_copies 20 = .ok (.iaload, 1) := by decide +kernel
theorem dX11_copies_21 : decode cX11_copies 21 = .ok (.iastore, 1) := by decide +kernel
theorem dX11_copies_22 : decode cX11_copies 22 = .ok (.iinc 5 1, 3) := by decide +kernel
theorem dX11_copies_25 : decode cX11_copies 25 = .ok (.goto (-22), 3) := by decide +kernel
theorem dX11_copies_28 : decode cX11_copies 28 = .ok (.return_, 1) := by decide +kernel
theorem dX11_keeps_0 : decode cX11_keeps 0 = .ok (.aload_n 0, 1) := by decide +kernel
theorem dX11_keeps_1 : decode cX11_keeps 1 = .ok (.getfield 186, 3) := by decide +kernel
theorem dX11_keeps_4 : decode cX11_keeps 4 = .ok (.bipush 10, 2) := by decide +kernel
theorem dX11_keeps_6 : decode cX11_keeps 6 = .ok (.if_icmp .ne 36, 3) := by decide +kernel
theorem dX11_keeps_9 : decode cX11_keeps 9 = .ok (.aload_n 0, 1) := by decide +kernel
theorem dX11_keeps_10 : decode cX11_keeps 10 = .ok (.dup, 1) := by decide +kernel
theorem dX11_keeps_11 : decode cX11_keeps 11 = .ok (.getfield 186, 3) := by decide +kernel
theorem dX11_keeps_14 : decode cX11_keeps 14 = .ok (.iconst 1, 1) := by decide +kernel
theorem dX11_keeps_15 : decode cX11_keeps 15 = .ok (.isub, 1) := by decide +kernel
theorem dX11_keeps_16 : decode cX11_keeps 16 = .ok (.putfield 186, 3) := by decide +kernel
theorem dX11_keeps_19 : decode cX11_keeps 19 = .ok (.aload_n 0, 1) := by decide +kernel
theorem dX11_keeps_20 : decode cX11_keeps 20 = .ok (.getfield 61, 3) := by decide +kernel
theorem dX11_keeps_23 : decode cX11_keeps 23 = .ok (.sipush 514, 3) := by decide +kernel
theorem dX11_keeps_26 : decode cX11_keeps 26 = .ok (.aload_n 0, 1) := by decide +kernel
theorem dX11_keeps_27 : decode cX11_keeps 27 = .ok (.getfield 61, 3) := by decide +kernel
theorem dX11_keeps_30 : decode cX11_keeps 30 = .ok (.iconst 0, 1) := by decide +kernel
theorem dX11_keeps_31 : decode cX11_keeps 31 = .ok (.sipush 514, 3) := by decide +kernel
theorem dX11_keeps_34 : decode cX11_keeps 34 = .ok (.aload_n 0, 1) := by decide +kernel
theorem dX11_keeps_35 : decode cX11_keeps 35 = .ok (.getfield 186, 3) := by decide +kernel
theorem dX11_keeps_38 : decode cX11_keeps 38 = .ok (.imul, 1) := by decide +kernel
theorem dX11_keeps_39 : decode cX11_keeps 39 = .ok (.invokestatic 294, 3) := by decide +kernel
theorem dX11_keeps_42 : decode cX11_keeps 42 = .ok (.aload_n 0, 1) := by decide +kernel
theorem dX11_keeps_43 : decode cX11_keeps 43 = .ok (.getfield 7, 3) := by decide +kernel
theorem dX11_keeps_46 : decode cX11_keeps 46 = .ok (.iconst 0, 1) := by decide +kernel
theorem dX11_keeps_47 : decode cX11_keeps 47 = .ok (.aload_n 0, 1) := by decide +kernel
theorem dX11_keeps_48 : decode cX11_keeps 48 = .ok (.getfield 61, 3) := by decide +kernel
theorem dX11_keeps_51 : decode cX11_keeps 51 = .ok (.sipush 514, 3) := by decide +kernel
theorem dX11_keeps_54 : decode cX11_keeps 54 = .ok (.aload_n 0, 1) := by decide +kernel
theorem dX11_keeps_55 : decode cX11_keeps 55 = .ok (.getfield 186, 3) := by decide +kernel
theorem dX11_keeps_58 : decode cX11_keeps 58 = .ok (.imul, 1) := by decide +kernel
theorem dX11_keeps_59 : decode cX11_keeps 59 = .ok (.sipush 514, 3) := by decide +kernel
theorem dX11_keeps_62 : decode cX11_keeps 62 = .ok (.invokestatic 294, 3) := by decide +kernel
theorem dX11_keeps_65 : decode cX11_keeps 65 = .ok (.aload_n 0, 1) := by decide +kernel
theorem dX11_keeps_66 : decode cX11_keeps 66 = .ok (.dup, 1) := by decide +kernel
theorem dX11_keeps_67 : decode cX11_keeps 67 = .ok (.getfield 186, 3) := by decide +kernel
theorem dX11_keeps_70 : decode cX11_keeps 70 = .ok (.iconst 1, 1) := by decide +kernel
theorem dX11_keeps_71 : decode cX11_keeps 71 = .ok (.iadd, 1) := by decide +kernel
theorem dX11_keeps_72 : decode cX11_keeps 72 = .ok (.putfield 186, 3) := by decide +kernel
theorem dX11_keeps_75 : decode cX11_keeps 75 = .ok (.return_, 1) := by decide +kernel
theorem dX11_undo_0 : decode cX11_undo 0 = .ok (.aload_n 0, 1) := by decide +kernel
theorem dX11_undo_1 : decode cX11_undo 1 = .ok (.iconst 0, 1) := by decide +kernel
theorem dX11_undo_2 : decode cX11_undo 2 = .ok (.putfield 80, 3) := by decide +kernel
theorem dX11_undo_5 : decode cX11_undo 5 = .ok (.aload_n 0, 1) := by decide +kernel
theorem dX11_undo_6 : decode cX11_undo 6 = .ok (.getfield 186, 3) := by decide +kernel
theorem dX11_undo_9 : decode cX11_undo 9 = .ok (.ifCond .ne 5, 3) := by decide +kernel
theorem dX11_undo_12 : decode cX11_undo 12 = .ok (.iconst (-1), 1) := by decide +kernel
theorem dX11_undo_13 : decode cX11_undo 13 = .ok (.ireturn, 1) := by decide +kernel
theorem dX11_undo_14 : decode cX11_undo 14 = .ok (.aload_n 0, 1) := by decide +kernel
theorem dX11_undo_15 : decode cX11_undo 15 = .ok (.dup, 1) := by decide +kernel
theorem dX11_undo_16 : decode cX11_undo 16 = .ok (.getfield 186, 3) := by decide +kernel
theorem dX11_undo_19 : decode cX11_undo 19 = .ok (.iconst 1, 1) := by decide +kernel
theorem dX11_undo_20 : decode cX11_undo 20 = .ok (.isub, 1) := by decide +kernel
theorem dX11_undo_21 : decode cX11_undo 21 = .ok (.putfield 186, 3) := by decide +kernel
theorem dX11_undo_24 : decode cX11_undo 24 = .ok (.aload_n 0, 1) := by decide +kernel
theorem dX11_undo_25 : decode cX11_undo 25 = .ok (.getfield 61, 3) := by decide +kernel
theorem dX11_undo_28 : decode cX11_undo 28 = .ok (.sipush 514, 3) := by decide +kernel
theorem dX11_undo_31 : decode cX11_undo 31 = .ok (.aload_n 0, 1) := by decide +kernel
theorem dX11_undo_32 : decode cX11_undo 32 = .ok (.getfield 186, 3) := by decide +kernel
theorem dX11_undo_35 : decode cX11_undo 35 = .ok (.imul, 1) := by decide +kernel
theorem dX11_undo_36 : decode cX11_undo 36 = .ok (.aload_n 0, 1) := by decide +kernel
theorem dX11_undo_37 : decode cX11_undo 37 = .ok (.getfield 7, 3) := by decide +kernel
theorem dX11_undo_40 : decode cX11_undo 40 = .ok (.iconst 0, 1) := by decide +kernel
theorem dX11_undo_41 : decode cX11_undo 41 = .ok (.sipush 514, 3) := by decide +kernel
theorem dX11_undo_44 : decode cX11_undo 44 = .ok (.invokestatic 294, 3) := by decide +kernel
theorem dX11_undo_47 : decode cX11_undo 47 = .ok (.aload_n 0, 1) := by decide +kernel
theorem dX11_undo_48 : decode cX11_undo 48 = .ok (.getfield 186, 3) := by decide +kernel
theorem dX11_undo_51 : decode cX11_undo 51 = .ok (.ireturn, 1) := by decide +kernel
theorem dX11_noSlot_0 : decode cX11_noSlot 0 = .ok (.aload_n 0, 1) := by decide +kernel
theorem dX11_noSlot_1 : decode cX11_noSlot 1 = .ok (.iconst 0, 1) := by decide +kernel
theorem dX11_noSlot_2 : decode cX11_noSlot 2 = .ok (.putfield 80, 3) := by decide +kernel
theorem dX11_noSlot_5 : decode cX11_noSlot 5 = .ok (.aload_n 0, 1) := by decide +kernel
theorem dX11_noSlot_6 : decode cX11_noSlot 6 = .ok (.iload_n 1, 1) := by decide +kernel
theorem dX11_noSlot_7 : decode cX11_noSlot 7 = .ok (.iconst 2, 1) := by decide +kernel
theorem dX11_noSlot_8 : decode cX11_noSlot 8 = .ok (.invokevirtual 189, 3) := by decide +kernel
theorem dX11_noSlot_11 : decode cX11_noSlot 11 = .ok (.ireturn, 1) := by decide +kernel
theorem dX11_saveSnapshot_0 : decode cX11_saveSnapshot 0 = .ok (.aload_n 0, 1) := by decide +kernel
theorem dX11_saveSnapshot_1 : decode cX11_saveSnapshot 1 = .ok (.iload_n 1, 1) := by decide +kernel
theorem dX11_saveSnapshot_2 : decode cX11_saveSnapshot 2 = .ok (.invokevirtual 298, 3) := by decide +kernel
theorem dX11_saveSnapshot_5 : decode cX11_saveSnapshot 5 = .ok (.ifCond .eq 5, 3) := by decide +kernel
theorem dX11_saveSnapshot_8 : decode cX11_saveSnapshot 8 = .ok (.iconst 0, 1) := by decide +kernel
theorem dX11_saveSnapshot_9 : decode cX11_saveSnapshot 9 = .ok (.ireturn, 1) := by decide +kernel
theorem dX11_saveSnapshot_10 : decode cX11_saveSnapshot 10 = .ok (.aload_n 0, 1) := by decide +kernel
theorem dX11_saveSnapshot_11 : decode cX11_saveSnapshot 11 = .ok (.getfield 67, 3) := by decide +kernel
theorem dX11_saveSnapshot_14 : decode cX11_saveSnapshot 14 = .ok (.iload_n 1, 1) := by decide +kernel
theorem dX11_saveSnapshot_15 : decode cX11_saveSnapshot 15 = .ok (.baload, 1) := by decide +kernel
theorem dX11_saveSnapshot_16 : decode cX11_saveSnapshot 16 = .ok (.istore_n 2, 1) := by decide +kernel
theorem dX11_saveSnapshot_17 : decode cX11_saveSnapshot 17 = .ok (.aload_n 0, 1) := by decide +kernel
theorem dX11_saveSnapshot_18 : decode cX11_saveSnapshot 18 = .ok (.getfield 7, 3) := by decide +kernel
theorem dX11_saveSnapshot_21 : decode cX11_saveSnapshot 21 = .ok (.iconst 0, 1) := by decide +kernel
theorem dX11_saveSnapshot_22 : decode cX11_saveSnapshot 22 = .ok (.aload_n 0, 1) := by decide +kernel
theorem dX11_saveSnapshot_23 : decode cX11_saveSnapshot 23 = .ok (.getfield 64, 3) := by decide +kernel
theorem dX11_saveSnapshot_26 : decode cX11_saveSnapshot 26 = .ok (.sipush 514, 3) := by decide +kernel
theorem dX11_saveSnapshot_29 : decode cX11_saveSnapshot 29 = .ok (.iload_n 1, 1) := by decide +kernel
theorem dX11_saveSnapshot_30 : decode cX11_saveSnapshot 30 = .ok (.imul, 1) := by decide +kernel
theorem dX11_saveSnapshot_31 : decode cX11_saveSnapshot 31 = .ok (.sipush 514, 3) := by decide +kernel
theorem dX11_saveSnapshot_34 : decode cX11_saveSnapshot 34 = .ok (.invokestatic 294, 3) := by decide +kernel
theorem dX11_saveSnapshot_37 : decode cX11_saveSnapshot 37 = .ok (.aload_n 0, 1) := by decide +kernel
theorem dX11_saveSnapshot_38 : decode cX11_saveSnapshot 38 = .ok (.getfield 67, 3) := by decide +kernel
theorem dX11_saveSnapshot_41 : decode cX11_saveSnapshot 41 = .ok (.iload_n 1, 1) := by decide +kernel
theorem dX11_saveSnapshot_42 : decode cX11_saveSnapshot 42 = .ok (.iconst 1, 1) := by decide +kernel
theorem dX11_saveSnapshot_43 : decode cX11_saveSnapshot 43 = .ok (.bastore, 1) := by decide +kernel
theorem dX11_saveSnapshot_44 : decode cX11_saveSnapshot 44 = .ok (.iload_n 2, 1) := by decide +kernel
theorem dX11_saveSnapshot_45 : decode cX11_saveSnapshot 45 = .ok (.ireturn, 1) := by decide +kernel
theorem dX11_restoreSnapshot_0 : decode cX11_restoreSnapshot 0 = .ok (.aload_n 0, 1) := by decide +kernel
theorem dX11_restoreSnapshot_1 : decode cX11_restoreSnapshot 1 = .ok (.iload_n 1, 1) := by decide +kernel
theorem dX11_restoreSnapshot_2 : decode cX11_restoreSnapshot 2 = .ok (.invokevirtual 298, 3) := by decide +kernel
theorem dX11_restoreSnapshot_5 : decode cX11_restoreSnapshot 5 = .ok (.ifCond .ne 25, 3) := by decide +kernel
theorem dX11_restoreSnapshot_8 : decode cX11_restoreSnapshot 8 = .ok (.aload_n 0, 1) := by decide +kernel
theorem dX11_restoreSnapshot_9 : decode cX11_restoreSnapshot 9 = .ok (.aload_n 0, 1) := by decide +kernel
theorem dX11_restoreSnapshot_10 : decode cX11_restoreSnapshot 10 = .ok (.getfield 67, 3) := by decide +kernel
theorem dX11_restoreSnapshot_13 : decode cX11_restoreSnapshot 13 = .ok (.iload_n 1, 1) := by decide +kernel
theorem dX11_restoreSnapshot_14 : decode cX11_restoreSnapshot 14 = .ok (.baload, 1) := by decide +kernel
theorem dX11_restoreSnapshot_15 : decode cX11_restoreSnapshot 15 = .ok (.ifCond .ne 7, 3) := by decide +kernel
theorem dX11_restoreSnapshot_18 : decode cX11_restoreSnapshot 18 = .ok (.iconst 1, 1) := by decide +kernel
theorem dX11_restoreSnapshot_19 : decode cX11_restoreSnapshot 19 = .ok (.goto 4, 3) := by decide +kernel
theorem dX11_restoreSnapshot_22 : decode cX11_restoreSnapshot 22 = .ok (.iconst 0, 1) := by decide +kernel
theorem dX11_restoreSnapshot_23 : decode cX11_restoreSnapshot 23 = .ok (.iconst 2, 1) := by decide +kernel
theorem dX11_restoreSnapshot_24 : decode cX11_restoreSnapshot 24 = .ok (.invokevirtual 176, 3) := by decide +kernel
theorem dX11_restoreSnapshot_27 : decode cX11_restoreSnapshot 27 = .ok (.ifCond .eq 5, 3) := by decide +kernel
theorem dX11_restoreSnapshot_30 : decode cX11_restoreSnapshot 30 = .ok (.iconst 0, 1) := by decide +kernel
theorem dX11_restoreSnapshot_31 : decode cX11_restoreSnapshot 31 = .ok (.ireturn, 1) := by decide +kernel
theorem dX11_restoreSnapshot_32 : decode cX11_restoreSnapshot 32 = .ok (.aload_n 0, 1) := by decide +kernel
theorem dX11_restoreSnapshot_33 : decode cX11_restoreSnapshot 33 = .ok (.getfield 64, 3) := by decide +kernel
theorem dX11_restoreSnapshot_36 : decode cX11_restoreSnapshot 36 = .ok (.sipush 514, 3) := by decide +kernel
theorem dX11_restoreSnapshot_39 : decode cX11_restoreSnapshot 39 = .ok (.iload_n 1, 1) := by decide +kernel
theorem dX11_restoreSnapshot_40 : decode cX11_restoreSnapshot 40 = .ok (.imul, 1) := by decide +kernel
theorem dX11_restoreSnapshot_41 : decode cX11_restoreSnapshot 41 = .ok (.aload_n 0, 1) := by decide +kernel
theorem dX11_restoreSnapshot_42 : decode cX11_restoreSnapshot 42 = .ok (.getfield 7, 3) := by decide +kernel
theorem dX11_restoreSnapshot_45 : decode cX11_restoreSnapshot 45 = .ok (.iconst 0, 1) := by decide +kernel
theorem dX11_restoreSnapshot_46 : decode cX11_restoreSnapshot 46 = .ok (.sipush 514, 3) := by decide +kernel
theorem dX11_restoreSnapshot_49 : decode cX11_restoreSnapshot 49 = .ok (.invokestatic 294, 3) := by decide +kernel
theorem dX11_restoreSnapshot_52 : decode cX11_restoreSnapshot 52 = .ok (.aload_n 0, 1) := by decide +kernel
theorem dX11_restoreSnapshot_53 : decode cX11_restoreSnapshot 53 = .ok (.iconst 0, 1) := by decide +kernel
theorem dX11_restoreSnapshot_54 : decode cX11_restoreSnapshot 54 = .ok (.putfield 186, 3) := by decide +kernel
theorem dX11_restoreSnapshot_57 : decode cX11_restoreSnapshot 57 = .ok (.aload_n 0, 1) := by decide +kernel
theorem dX11_restoreSnapshot_58 : decode cX11_restoreSnapshot 58 = .ok (.getfield 7, 3) := by decide +kernel
theorem dX11_restoreSnapshot_61 : decode cX11_restoreSnapshot 61 = .ok (.iconst 0, 1) := by decide +kernel
theorem dX11_restoreSnapshot_62 : decode cX11_restoreSnapshot 62 = .ok (.iaload, 1) := by decide +kernel
theorem dX11_restoreSnapshot_63 : decode cX11_restoreSnapshot 63 = .ok (.ireturn, 1) := by decide +kernel
theorem dL_parse_0 : decode cL_parse 0 = .ok (.aload_n 2, 1) := by decide +kernel
theorem dL_parse_1 : decode cL_parse 1 = .ok (.iconst 0, 1) := by decide +kernel
theorem dL_parse_2 : decode cL_parse 2 = .ok (.aload_n 0, 1) := by decide +kernel
theorem dL_parse_3 : decode cL_parse 3 = .ok (.iload_n 1, 1) := by decide +kernel
theorem dL_parse_4 : decode cL_parse 4 = .ok (.invokevirtual 7, 3) := by decide +kernel
theorem dL_parse_7 : decode cL_parse 7 = .ok (.i2l, 1) := by decide +kernel
theorem dL_parse_8 : decode cL_parse 8 = .ok (.lastore, 1) := by decide +kernel
theorem dL_parse_9 : decode cL_parse 9 = .ok (.goto 6, 3) := by decide +kernel
theorem dL_parse_12 : decode cL_parse 12 = .ok (.astore_n 3, 1) := by decide +kernel
theorem dL_parse_13 : decode cL_parse 13 = .ok (.iconst 1, 1) := by decide +kernel
theorem dL_parse_14 : decode cL_parse 14 = .ok (.ireturn, 1) := by decide +kernel
theorem dL_parse_15 : decode cL_parse 15 = .ok (.iconst 0, 1) := by decide +kernel
theorem dL_parse_16 : decode cL_parse 16 = .ok (.ireturn, 1) := by decide +kernel
theorem dL_size_0 : decode cL_size 0 = .ok (.aload_n 2, 1) := by decide +kernel
theorem dL_size_1 : decode cL_size 1 = .ok (.iconst 0, 1) := by decide +kernel
theorem dL_size_2 : decode cL_size 2 = .ok (.aload_n 0, 1) := by decide +kernel
theorem dL_size_3 : decode cL_size 3 = .ok (.iload_n 1, 1) := by decide +kernel
theorem dL_size_4 : decode cL_size 4 = .ok (.invokevirtual 15, 3) := by decide +kernel
theorem dL_size_7 : decode cL_size 7 = .ok (.i2l, 1) := by decide +kernel
theorem dL_size_8 : decode cL_size 8 = .ok (.lastore, 1) := by decide +kernel
theorem dL_size_9 : decode cL_size 9 = .ok (.goto 6, 3) := by decide +kernel
theorem dL_size_12 : decode cL_size 12 = .ok (.astore_n 3, 1) := by decide +kernel
theorem dL_size_13 : decode cL_size 13 = .ok (.iconst 1, 1) := by decide +kernel
theorem dL_size_14 : decode cL_size 14 = .ok (.ireturn, 1) := by decide +kernel
theorem dL_size_15 : decode cL_size 15 = .ok (.iconst 0, 1) := by decide +kernel
theorem dL_size_16 : decode cL_size 16 = .ok (.ireturn, 1) := by decide +kernel
theorem dL_line_0 : decode cL_line 0 = .ok (.aload_n 3, 1) := by decide +kernel
theorem dL_line_1 : decode cL_line 1 = .ok (.iconst 0, 1) := by decide +kernel
theorem dL_line_2 : decode cL_line 2 = .ok (.aload_n 0, 1) := by decide +kernel
theorem dL_line_3 : decode cL_line 3 = .ok (.iload_n 1, 1) := by decide +kernel
theorem dL_line_4 : decode cL_line 4 = .ok (.iload_n 2, 1) := by decide +kernel
theorem dL_line_5 : decode cL_line 5 = .ok (.invokevirtual 18, 3) := by decide +kernel
theorem dL_line_8 : decode cL_line 8 = .ok (.i2l, 1) := by decide +kernel
theorem dL_line_9 : decode cL_line 9 = .ok (.lastore, 1) := by decide +kernel
theorem dL_line_10 : decode cL_line 10 = .ok (.goto 11, 3) := by decide +kernel
theorem dL_line_13 : decode cL_line 13 = .ok (.astore 4, 2) := by decide +kernel
theorem dL_line_15 : decode cL_line 15 = .ok (.iconst 1, 1) := by decide +kernel
theorem dL_line_16 : decode cL_line 16 = .ok (.ireturn, 1) := by decide +kernel
theorem dL_line_17 : decode cL_line 17 = .ok (.astore 4, 2) := by decide +kernel
theorem dL_line_19 : decode cL_line 19 = .ok (.iconst 2, 1) := by decide +kernel
theorem dL_line_20 : decode cL_line 20 = .ok (.ireturn, 1) := by decide +kernel
theorem dL_line_21 : decode cL_line 21 = .ok (.iconst 0, 1) := by decide +kernel
theorem dL_line_22 : decode cL_line 22 = .ok (.ireturn, 1) := by decide +kernel
theorem dL_isUsable_0 : decode cL_isUsable 0 = .ok (.aload_n 3, 1) := by decide +kernel
theorem dL_isUsable_1 : decode cL_isUsable 1 = .ok (.iconst 0, 1) := by decide +kernel
theorem dL_isUsable_2 : decode cL_isUsable 2 = .ok (.aload_n 0, 1) := by decide +kernel
theorem dL_isUsable_3 : decode cL_isUsable 3 = .ok (.iload_n 1, 1) := by decide +kernel
theorem dL_isUsable_4 : decode cL_isUsable 4 = .ok (.iload_n 2, 1) := by decide +kernel
theorem dL_isUsable_5 : decode cL_isUsable 5 = .ok (.invokevirtual 24, 3) := by decide +kernel
theorem dL_isUsable_8 : decode cL_isUsable 8 = .ok (.ifCond .eq 7, 3) := by decide +kernel
theorem dL_isUsable_11 : decode cL_isUsable 11 = .ok (.lconst 1, 1) := by decide +kernel
theorem dL_isUsable_12 : decode cL_isUsable 12 = .ok (.goto 4, 3) := by decide +kernel
theorem dL_isUsable_15 : decode cL_isUsable 15 = .ok (.lconst 0, 1) := by decide +kernel
theorem dL_isUsable_16 : decode cL_isUsable 16 = .ok (.lastore, 1) := by decide +kernel
theorem dL_isUsable_17 : decode cL_isUsable 17 = .ok (.goto 11, 3) := by decide +kernel
theorem dL_isUsable_20 : decode cL_isUsable 20 = .ok (.astore 4, 2) := by decide +kernel
theorem dL_isUsable_22 : decode cL_isUsable 22 = .ok (.iconst 1, 1) := by decide +kernel
theorem dL_isUsable_23 : decode cL_isUsable 23 = .ok (.ireturn, 1) := by decide +kernel
theorem dL_isUsable_24 : decode cL_isUsable 24 = .ok (.astore 4, 2) := by decide +kernel
theorem dL_isUsable_26 : decode cL_isUsable 26 = .ok (.iconst 2, 1) := by decide +kernel
theorem dL_isUsable_27 : decode cL_isUsable 27 = .ok (.ireturn, 1) := by decide +kernel
theorem dL_isUsable_28 : decode cL_isUsable 28 = .ok (.iconst 0, 1) := by decide +kernel
theorem dL_isUsable_29 : decode cL_isUsable 29 = .ok (.ireturn, 1) := by decide +kernel
theorem dL_known_0 : decode cL_known 0 = .ok (.aload_n 2, 1) := by decide +kernel
theorem dL_known_1 : decode cL_known 1 = .ok (.iconst 0, 1) := by decide +kernel
theorem dL_known_2 : decode cL_known 2 = .ok (.aload_n 0, 1) := by decide +kernel
theorem dL_known_3 : decode cL_known 3 = .ok (.iload_n 1, 1) := by decide +kernel
theorem dL_known_4 : decode cL_known 4 = .ok (.invokevirtual 28, 3) := by decide +kernel
theorem dL_known_7 : decode cL_known 7 = .ok (.i2l, 1) := by decide +kernel
theorem dL_known_8 : decode cL_known 8 = .ok (.lastore, 1) := by decide +kernel
theorem dL_known_9 : decode cL_known 9 = .ok (.goto 6, 3) := by decide +kernel
theorem dL_known_12 : decode cL_known 12 = .ok (.astore_n 3, 1) := by decide +kernel
theorem dL_known_13 : decode cL_known 13 = .ok (.iconst 1, 1) := by decide +kernel
theorem dL_known_14 : decode cL_known 14 = .ok (.ireturn, 1) := by decide +kernel
theorem dL_known_15 : decode cL_known 15 = .ok (.iconst 0, 1) := by decide +kernel
theorem dL_known_16 : decode cL_known 16 = .ok (.ireturn, 1) := by decide +kernel
theorem dL_knowers_0 : decode cL_knowers 0 = .ok (.aload_n 2, 1) := by decide +kernel
theorem dL_knowers_1 : decode cL_knowers 1 = .ok (.iconst 0, 1) := by decide +kernel
theorem dL_knowers_2 : decode cL_knowers 2 = .ok (.aload_n 0, 1) := by decide +kernel
theorem dL_knowers_3 : decode cL_knowers 3 = .ok (.iload_n 1, 1) := by decide +kernel
theorem dL_knowers_4 : decode cL_knowers 4 = .ok (.invokevirtual 31, 3) := by decide +kernel
theorem dL_knowers_7 : decode cL_knowers 7 = .ok (.i2l, 1) := by decide +kernel
theorem dL_knowers_8 : decode cL_knowers 8 = .ok (.lastore, 1) := by decide +kernel
theorem dL_knowers_9 : decode cL_knowers 9 = .ok (.goto 6, 3) := by decide +kernel
theorem dL_knowers_12 : decode cL_knowers 12 = .ok (.astore_n 3, 1) := by decide +kernel
theorem dL_knowers_13 : decode cL_knowers 13 = .ok (.iconst 1, 1) := by decide +kernel
theorem dL_knowers_14 : decode cL_knowers 14 = .ok (.ireturn, 1) := by decide +kernel
theorem dL_knowers_15 : decode cL_knowers 15 = .ok (.iconst 0, 1) := by decide +kernel
theorem dL_knowers_16 : decode cL_knowers 16 = .ok (.ireturn, 1) := by decide +kernel
theorem dL_partner_0 : decode cL_partner 0 = .ok (.aload_n 2, 1) := by decide +kernel
theorem dL_partner_1 : decode cL_partner 1 = .ok (.iconst 0, 1) := by decide +kernel
theorem dL_partner_2 : decode cL_partner 2 = .ok (.aload_n 0, 1) := by decide +kernel
theorem dL_partner_3 : decode cL_partner 3 = .ok (.iload_n 1, 1) := by decide +kernel
theorem dL_partner_4 : decode cL_partner 4 = .ok (.invokevirtual 34, 3) := by decide +kernel
theorem dL_partner_7 : decode cL_partner 7 = .ok (.i2l, 1) := by decide +kernel
theorem dL_partner_8 : decode cL_partner 8 = .ok (.lastore, 1) := by decide +kernel
theorem dL_partner_9 : decode cL_partner 9 = .ok (.goto 6, 3) := by decide +kernel
theorem dL_partner_12 : decode cL_partner 12 = .ok (.astore_n 3, 1) := by decide +kernel
theorem dL_partner_13 : decode cL_partner 13 = .ok (.iconst 1, 1) := by decide +kernel
theorem dL_partner_14 : decode cL_partner 14 = .ok (.ireturn, 1) := by decide +kernel
theorem dL_partner_15 : decode cL_partner 15 = .ok (.iconst 0, 1) := by decide +kernel
theorem dL_partner_16 : decode cL_partner 16 = .ok (.ireturn, 1) := by decide +kernel
theorem dL_spent_0 : decode cL_spent 0 = .ok (.aload_n 2, 1) := by decide +kernel
theorem dL_spent_1 : decode cL_spent 1 = .ok (.iconst 0, 1) := by decide +kernel
theorem dL_spent_2 : decode cL_spent 2 = .ok (.aload_n 0, 1) := by decide +kernel
theorem dL_spent_3 : decode cL_spent 3 = .ok (.iload_n 1, 1) := by decide +kernel
theorem dL_spent_4 : decode cL_spent 4 = .ok (.invokevirtual 37, 3) := by decide +kernel
theorem dL_spent_7 : decode cL_spent 7 = .ok (.i2l, 1) := by decide +kernel
theorem dL_spent_8 : decode cL_spent 8 = .ok (.lastore, 1) := by decide +kernel
theorem dL_spent_9 : decode cL_spent 9 = .ok (.goto 6, 3) := by decide +kernel
theorem dL_spent_12 : decode cL_spent 12 = .ok (.astore_n 3, 1) := by decide +kernel
theorem dL_spent_13 : decode cL_spent 13 = .ok (.iconst 1, 1) := by decide +kernel
theorem dL_spent_14 : decode cL_spent 14 = .ok (.ireturn, 1) := by decide +kernel
theorem dL_spent_15 : decode cL_spent 15 = .ok (.iconst 0, 1) := by decide +kernel
theorem dL_spent_16 : decode cL_spent 16 = .ok (.ireturn, 1) := by decide +kernel
theorem dL_best_0 : decode cL_best 0 = .ok (.aload_n 2, 1) := by decide +kernel
theorem dL_best_1 : decode cL_best 1 = .ok (.iconst 0, 1) := by decide +kernel
theorem dL_best_2 : decode cL_best 2 = .ok (.aload_n 0, 1) := by decide +kernel
theorem dL_best_3 : decode cL_best 3 = .ok (.iload_n 1, 1) := by decide +kernel
theorem dL_best_4 : decode cL_best 4 = .ok (.invokevirtual 40, 3) := by decide +kernel
theorem dL_best_7 : decode cL_best 7 = .ok (.i2l, 1) := by decide +kernel
theorem dL_best_8 : decode cL_best 8 = .ok (.lastore, 1) := by decide +kernel
theorem dL_best_9 : decode cL_best 9 = .ok (.goto 6, 3) := by decide +kernel
theorem dL_best_12 : decode cL_best 12 = .ok (.astore_n 3, 1) := by decide +kernel
theorem dL_best_13 : decode cL_best 13 = .ok (.iconst 1, 1) := by decide +kernel
theorem dL_best_14 : decode cL_best 14 = .ok (.ireturn, 1) := by decide +kernel
theorem dL_best_15 : decode cL_best 15 = .ok (.iconst 0, 1) := by decide +kernel
theorem dL_best_16 : decode cL_best 16 = .ok (.ireturn, 1) := by decide +kernel
theorem dL_plan_0 : decode cL_plan 0 = .ok (.aload_n 2, 1) := by decide +kernel
theorem dL_plan_1 : decode cL_plan 1 = .ok (.iconst 0, 1) := by decide +kernel
theorem dL_plan_2 : decode cL_plan 2 = .ok (.aload_n 0, 1) := by decide +kernel
theorem dL_plan_3 : decode cL_plan 3 = .ok (.iload_n 1, 1) := by decide +kernel
theorem dL_plan_4 : decode cL_plan 4 = .ok (.invokevirtual 43, 3) := by decide +kernel
theorem dL_plan_7 : decode cL_plan 7 = .ok (.i2l, 1) := by decide +kernel
theorem dL_plan_8 : decode cL_plan 8 = .ok (.lastore, 1) := by decide +kernel
theorem dL_plan_9 : decode cL_plan 9 = .ok (.goto 6, 3) := by decide +kernel
theorem dL_plan_12 : decode cL_plan 12 = .ok (.astore_n 3, 1) := by decide +kernel
theorem dL_plan_13 : decode cL_plan 13 = .ok (.iconst 1, 1) := by decide +kernel
theorem dL_plan_14 : decode cL_plan 14 = .ok (.ireturn, 1) := by decide +kernel
theorem dL_plan_15 : decode cL_plan 15 = .ok (.iconst 0, 1) := by decide +kernel
theorem dL_plan_16 : decode cL_plan 16 = .ok (.ireturn, 1) := by decide +kernel
theorem dL_fewest_0 : decode cL_fewest 0 = .ok (.aload_n 2, 1) := by decide +kernel
theorem dL_fewest_1 : decode cL_fewest 1 = .ok (.iconst 0, 1) := by decide +kernel
theorem dL_fewest_2 : decode cL_fewest 2 = .ok (.aload_n 0, 1) := by decide +kernel
theorem dL_fewest_3 : decode cL_fewest 3 = .ok (.iload_n 1, 1) := by decide +kernel
theorem dL_fewest_4 : decode cL_fewest 4 = .ok (.invokevirtual 46, 3) := by decide +kernel
theorem dL_fewest_7 : decode cL_fewest 7 = .ok (.i2l, 1) := by decide +kernel
theorem dL_fewest_8 : decode cL_fewest 8 = .ok (.lastore, 1) := by decide +kernel
theorem dL_fewest_9 : decode cL_fewest 9 = .ok (.goto 9, 3) := by decide +kernel
theorem dL_fewest_12 : decode cL_fewest 12 = .ok (.astore_n 3, 1) := by decide +kernel
theorem dL_fewest_13 : decode cL_fewest 13 = .ok (.iconst 1, 1) := by decide +kernel
theorem dL_fewest_14 : decode cL_fewest 14 = .ok (.ireturn, 1) := by decide +kernel
theorem dL_fewest_15 : decode cL_fewest 15 = .ok (.astore_n 3, 1) := by decide +kernel
theorem dL_fewest_16 : decode cL_fewest 16 = .ok (.iconst 2, 1) := by decide +kernel
theorem dL_fewest_17 : decode cL_fewest 17 = .ok (.ireturn, 1) := by decide +kernel
theorem dL_fewest_18 : decode cL_fewest 18 = .ok (.iconst 0, 1) := by decide +kernel
theorem dL_fewest_19 : decode cL_fewest 19 = .ok (.ireturn, 1) := by decide +kernel
theorem dL_soonest_0 : decode cL_soonest 0 = .ok (.aload_n 3, 1) := by decide +kernel
theorem dL_soonest_1 : decode cL_soonest 1 = .ok (.iconst 0, 1) := by decide +kernel
theorem dL_soonest_2 : decode cL_soonest 2 = .ok (.aload_n 0, 1) := by decide +kernel
theorem dL_soonest_3 : decode cL_soonest 3 = .ok (.iload_n 1, 1) := by decide +kernel
theorem dL_soonest_4 : decode cL_soonest 4 = .ok (.iload_n 2, 1) := by decide +kernel
theorem dL_soonest_5 : decode cL_soonest 5 = .ok (.invokevirtual 51, 3) := by decide +kernel
theorem dL_soonest_8 : decode cL_soonest 8 = .ok (.i2l, 1) := by decide +kernel
theorem dL_soonest_9 : decode cL_soonest 9 = .ok (.lastore, 1) := by decide +kernel
theorem dL_soonest_10 : decode cL_soonest 10 = .ok (.goto 7, 3) := by decide +kernel
theorem dL_soonest_13 : decode cL_soonest 13 = .ok (.astore 4, 2) := by decide +kernel
theorem dL_soonest_15 : decode cL_soonest 15 = .ok (.iconst 1, 1) := by decide +kernel
theorem dL_soonest_16 : decode cL_soonest 16 = .ok (.ireturn, 1) := by decide +kernel
theorem dL_soonest_17 : decode cL_soonest 17 = .ok (.iconst 0, 1) := by decide +kernel
theorem dL_soonest_18 : decode cL_soonest 18 = .ok (.ireturn, 1) := by decide +kernel
theorem dL_cheapest_0 : decode cL_cheapest 0 = .ok (.aload_n 3, 1) := by decide +kernel
theorem dL_cheapest_1 : decode cL_cheapest 1 = .ok (.iconst 0, 1) := by decide +kernel
theorem dL_cheapest_2 : decode cL_cheapest 2 = .ok (.aload_n 0, 1) := by decide +kernel
theorem dL_cheapest_3 : decode cL_cheapest 3 = .ok (.iload_n 1, 1) := by decide +kernel
theorem dL_cheapest_4 : decode cL_cheapest 4 = .ok (.iload_n 2, 1) := by decide +kernel
theorem dL_cheapest_5 : decode cL_cheapest 5 = .ok (.invokevirtual 54, 3) := by decide +kernel
theorem dL_cheapest_8 : decode cL_cheapest 8 = .ok (.i2l, 1) := by decide +kernel
theorem dL_cheapest_9 : decode cL_cheapest 9 = .ok (.lastore, 1) := by decide +kernel
theorem dL_cheapest_10 : decode cL_cheapest 10 = .ok (.goto 7, 3) := by decide +kernel
theorem dL_cheapest_13 : decode cL_cheapest 13 = .ok (.astore 4, 2) := by decide +kernel
theorem dL_cheapest_15 : decode cL_cheapest 15 = .ok (.iconst 1, 1) := by decide +kernel
theorem dL_cheapest_16 : decode cL_cheapest 16 = .ok (.ireturn, 1) := by decide +kernel
theorem dL_cheapest_17 : decode cL_cheapest 17 = .ok (.iconst 0, 1) := by decide +kernel
theorem dL_cheapest_18 : decode cL_cheapest 18 = .ok (.ireturn, 1) := by decide +kernel
theorem dL_arrange_0 : decode cL_arrange 0 = .ok (.aload_n 2, 1) := by decide +kernel
theorem dL_arrange_1 : decode cL_arrange 1 = .ok (.iconst 0, 1) := by decide +kernel
theorem dL_arrange_2 : decode cL_arrange 2 = .ok (.aload_n 0, 1) := by decide +kernel
theorem dL_arrange_3 : decode cL_arrange 3 = .ok (.iload_n 1, 1) := by decide +kernel
theorem dL_arrange_4 : decode cL_arrange 4 = .ok (.invokevirtual 57, 3) := by decide +kernel
theorem dL_arrange_7 : decode cL_arrange 7 = .ok (.i2l, 1) := by decide +kernel
theorem dL_arrange_8 : decode cL_arrange 8 = .ok (.lastore, 1) := by decide +kernel
theorem dL_arrange_9 : decode cL_arrange 9 = .ok (.goto 9, 3) := by decide +kernel
theorem dL_arrange_12 : decode cL_arrange 12 = .ok (.astore_n 3, 1) := by decide +kernel
theorem dL_arrange_13 : decode cL_arrange 13 = .ok (.iconst 1, 1) := by decide +kernel
theorem dL_arrange_14 : decode cL_arrange 14 = .ok (.ireturn, 1) := by decide +kernel
theorem dL_arrange_15 : decode cL_arrange 15 = .ok (.astore_n 3, 1) := by decide +kernel
theorem dL_arrange_16 : decode cL_arrange 16 = .ok (.iconst 2, 1) := by decide +kernel
theorem dL_arrange_17 : decode cL_arrange 17 = .ok (.ireturn, 1) := by decide +kernel
theorem dL_arrange_18 : decode cL_arrange 18 = .ok (.iconst 0, 1) := by decide +kernel
theorem dL_arrange_19 : decode cL_arrange 19 = .ok (.ireturn, 1) := by decide +kernel
theorem dL_takeBack_0 : decode cL_takeBack 0 = .ok (.aload_n 2, 1) := by decide +kernel
theorem dL_takeBack_1 : decode cL_takeBack 1 = .ok (.iconst 0, 1) := by decide +kernel
theorem dL_takeBack_2 : decode cL_takeBack 2 = .ok (.aload_n 0, 1) := by decide +kernel
theorem dL_takeBack_3 : decode cL_takeBack 3 = .ok (.iload_n 1, 1) := by decide +kernel
theorem dL_takeBack_4 : decode cL_takeBack 4 = .ok (.invokevirtual 60, 3) := by decide +kernel
theorem dL_takeBack_7 : decode cL_takeBack 7 = .ok (.i2l, 1) := by decide +kernel
theorem dL_takeBack_8 : decode cL_takeBack 8 = .ok (.lastore, 1) := by decide +kernel
theorem dL_takeBack_9 : decode cL_takeBack 9 = .ok (.goto 9, 3) := by decide +kernel
theorem dL_takeBack_12 : decode cL_takeBack 12 = .ok (.astore_n 3, 1) := by decide +kernel
theorem dL_takeBack_13 : decode cL_takeBack 13 = .ok (.iconst 1, 1) := by decide +kernel
theorem dL_takeBack_14 : decode cL_takeBack 14 = .ok (.ireturn, 1) := by decide +kernel
theorem dL_takeBack_15 : decode cL_takeBack 15 = .ok (.astore_n 3, 1) := by decide +kernel
theorem dL_takeBack_16 : decode cL_takeBack 16 = .ok (.iconst 2, 1) := by decide +kernel
theorem dL_takeBack_17 : decode cL_takeBack 17 = .ok (.ireturn, 1) := by decide +kernel
theorem dL_takeBack_18 : decode cL_takeBack 18 = .ok (.iconst 0, 1) := by decide +kernel
theorem dL_takeBack_19 : decode cL_takeBack 19 = .ok (.ireturn, 1) := by decide +kernel
theorem dL_ring_0 : decode cL_ring 0 = .ok (.aload_n 1, 1) := by decide +kernel
theorem dL_ring_1 : decode cL_ring 1 = .ok (.iconst 0, 1) := by decide +kernel
theorem dL_ring_2 : decode cL_ring 2 = .ok (.aload_n 0, 1) := by decide +kernel
theorem dL_ring_3 : decode cL_ring 3 = .ok (.invokevirtual 63, 3) := by decide +kernel
theorem dL_ring_6 : decode cL_ring 6 = .ok (.i2l, 1) := by decide +kernel
theorem dL_ring_7 : decode cL_ring 7 = .ok (.lastore, 1) := by decide +kernel
theorem dL_ring_8 : decode cL_ring 8 = .ok (.goto 6, 3) := by decide +kernel
theorem dL_ring_11 : decode cL_ring 11 = .ok (.astore_n 2, 1) := by decide +kernel
theorem dL_ring_12 : decode cL_ring 12 = .ok (.iconst 1, 1) := by decide +kernel
theorem dL_ring_13 : decode cL_ring 13 = .ok (.ireturn, 1) := by decide +kernel
theorem dL_ring_14 : decode cL_ring 14 = .ok (.iconst 0, 1) := by decide +kernel
theorem dL_ring_15 : decode cL_ring 15 = .ok (.ireturn, 1) := by decide +kernel
theorem dL_cut_0 : decode cL_cut 0 = .ok (.aload_n 2, 1) := by decide +kernel
theorem dL_cut_1 : decode cL_cut 1 = .ok (.iconst 0, 1) := by decide +kernel
theorem dL_cut_2 : decode cL_cut 2 = .ok (.aload_n 0, 1) := by decide +kernel
theorem dL_cut_3 : decode cL_cut 3 = .ok (.iload_n 1, 1) := by decide +kernel
theorem dL_cut_4 : decode cL_cut 4 = .ok (.invokevirtual 67, 3) := by decide +kernel
theorem dL_cut_7 : decode cL_cut 7 = .ok (.ifCond .eq 7, 3) := by decide +kernel
theorem dL_cut_10 : decode cL_cut 10 = .ok (.lconst 1, 1) := by decide +kernel
theorem dL_cut_11 : decode cL_cut 11 = .ok (.goto 4, 3) := by decide +kernel
theorem dL_cut_14 : decode cL_cut 14 = .ok (.lconst 0, 1) := by decide +kernel
theorem dL_cut_15 : decode cL_cut 15 = .ok (.lastore, 1) := by decide +kernel
theorem dL_cut_16 : decode cL_cut 16 = .ok (.goto 9, 3) := by decide +kernel
theorem dL_cut_19 : decode cL_cut 19 = .ok (.astore_n 3, 1) := by decide +kernel
theorem dL_cut_20 : decode cL_cut 20 = .ok (.iconst 1, 1) := by decide +kernel
theorem dL_cut_21 : decode cL_cut 21 = .ok (.ireturn, 1) := by decide +kernel
theorem dL_cut_22 : decode cL_cut 22 = .ok (.astore_n 3, 1) := by decide +kernel
theorem dL_cut_23 : decode cL_cut 23 = .ok (.iconst 2, 1) := by decide +kernel
theorem dL_cut_24 : decode cL_cut 24 = .ok (.ireturn, 1) := by decide +kernel
theorem dL_cut_25 : decode cL_cut 25 = .ok (.iconst 0, 1) := by decide +kernel
theorem dL_cut_26 : decode cL_cut 26 = .ok (.ireturn, 1) := by decide +kernel
theorem dL_mend_0 : decode cL_mend 0 = .ok (.aload_n 2, 1) := by decide +kernel
theorem dL_mend_1 : decode cL_mend 1 = .ok (.iconst 0, 1) := by decide +kernel
theorem dL_mend_2 : decode cL_mend 2 = .ok (.aload_n 0, 1) := by decide +kernel
theorem dL_mend_3 : decode cL_mend 3 = .ok (.iload_n 1, 1) := by decide +kernel
theorem dL_mend_4 : decode cL_mend 4 = .ok (.invokevirtual 71, 3) := by decide +kernel
theorem dL_mend_7 : decode cL_mend 7 = .ok (.i2l, 1) := by decide +kernel
theorem dL_mend_8 : decode cL_mend 8 = .ok (.lastore, 1) := by decide +kernel
theorem dL_mend_9 : decode cL_mend 9 = .ok (.goto 9, 3) := by decide +kernel
theorem dL_mend_12 : decode cL_mend 12 = .ok (.astore_n 3, 1) := by decide +kernel
theorem dL_mend_13 : decode cL_mend 13 = .ok (.iconst 1, 1) := by decide +kernel
theorem dL_mend_14 : decode cL_mend 14 = .ok (.ireturn, 1) := by decide +kernel
theorem dL_mend_15 : decode cL_mend 15 = .ok (.astore_n 3, 1) := by decide +kernel
theorem dL_mend_16 : decode cL_mend 16 = .ok (.iconst 2, 1) := by decide +kernel
theorem dL_mend_17 : decode cL_mend 17 = .ok (.ireturn, 1) := by decide +kernel
theorem dL_mend_18 : decode cL_mend 18 = .ok (.iconst 0, 1) := by decide +kernel
theorem dL_mend_19 : decode cL_mend 19 = .ok (.ireturn, 1) := by decide +kernel
theorem dL_tell_0 : decode cL_tell 0 = .ok (.aload_n 3, 1) := by decide +kernel
theorem dL_tell_1 : decode cL_tell 1 = .ok (.iconst 0, 1) := by decide +kernel
theorem dL_tell_2 : decode cL_tell 2 = .ok (.aload_n 0, 1) := by decide +kernel
theorem dL_tell_3 : decode cL_tell 3 = .ok (.iload_n 1, 1) := by decide +kernel
theorem dL_tell_4 : decode cL_tell 4 = .ok (.iload_n 2, 1) := by decide +kernel
theorem dL_tell_5 : decode cL_tell 5 = .ok (.invokevirtual 74, 3) := by decide +kernel
theorem dL_tell_8 : decode cL_tell 8 = .ok (.i2l, 1) := by decide +kernel
theorem dL_tell_9 : decode cL_tell 9 = .ok (.lastore, 1) := by decide +kernel
theorem dL_tell_10 : decode cL_tell 10 = .ok (.goto 11, 3) := by decide +kernel
theorem dL_tell_13 : decode cL_tell 13 = .ok (.astore 4, 2) := by decide +kernel
theorem dL_tell_15 : decode cL_tell 15 = .ok (.iconst 1, 1) := by decide +kernel
theorem dL_tell_16 : decode cL_tell 16 = .ok (.ireturn, 1) := by decide +kernel
theorem dL_tell_17 : decode cL_tell 17 = .ok (.astore 4, 2) := by decide +kernel
theorem dL_tell_19 : decode cL_tell 19 = .ok (.iconst 2, 1) := by decide +kernel
theorem dL_tell_20 : decode cL_tell 20 = .ok (.ireturn, 1) := by decide +kernel
theorem dL_tell_21 : decode cL_tell 21 = .ok (.iconst 0, 1) := by decide +kernel
theorem dL_tell_22 : decode cL_tell 22 = .ok (.ireturn, 1) := by decide +kernel
theorem dL_saveSnapshot_0 : decode cL_saveSnapshot 0 = .ok (.aload_n 2, 1) := by decide +kernel
theorem dL_saveSnapshot_1 : decode cL_saveSnapshot 1 = .ok (.iconst 0, 1) := by decide +kernel
theorem dL_saveSnapshot_2 : decode cL_saveSnapshot 2 = .ok (.aload_n 0, 1) := by decide +kernel
theorem dL_saveSnapshot_3 : decode cL_saveSnapshot 3 = .ok (.iload_n 1, 1) := by decide +kernel
theorem dL_saveSnapshot_4 : decode cL_saveSnapshot 4 = .ok (.invokevirtual 77, 3) := by decide +kernel
theorem dL_saveSnapshot_7 : decode cL_saveSnapshot 7 = .ok (.ifCond .eq 7, 3) := by decide +kernel
theorem dL_saveSnapshot_10 : decode cL_saveSnapshot 10 = .ok (.lconst 1, 1) := by decide +kernel
theorem dL_saveSnapshot_11 : decode cL_saveSnapshot 11 = .ok (.goto 4, 3) := by decide +kernel
theorem dL_saveSnapshot_14 : decode cL_saveSnapshot 14 = .ok (.lconst 0, 1) := by decide +kernel
theorem dL_saveSnapshot_15 : decode cL_saveSnapshot 15 = .ok (.lastore, 1) := by decide +kernel
theorem dL_saveSnapshot_16 : decode cL_saveSnapshot 16 = .ok (.goto 6, 3) := by decide +kernel
theorem dL_saveSnapshot_19 : decode cL_saveSnapshot 19 = .ok (.astore_n 3, 1) := by decide +kernel
theorem dL_saveSnapshot_20 : decode cL_saveSnapshot 20 = .ok (.iconst 1, 1) := by decide +kernel
theorem dL_saveSnapshot_21 : decode cL_saveSnapshot 21 = .ok (.ireturn, 1) := by decide +kernel
theorem dL_saveSnapshot_22 : decode cL_saveSnapshot 22 = .ok (.iconst 0, 1) := by decide +kernel
theorem dL_saveSnapshot_23 : decode cL_saveSnapshot 23 = .ok (.ireturn, 1) := by decide +kernel
theorem dL_restoreSnapshot_0 : decode cL_restoreSnapshot 0 = .ok (.aload_n 2, 1) := by decide +kernel
theorem dL_restoreSnapshot_1 : decode cL_restoreSnapshot 1 = .ok (.iconst 0, 1) := by decide +kernel
theorem dL_restoreSnapshot_2 : decode cL_restoreSnapshot 2 = .ok (.aload_n 0, 1) := by decide +kernel
theorem dL_restoreSnapshot_3 : decode cL_restoreSnapshot 3 = .ok (.iload_n 1, 1) := by decide +kernel
theorem dL_restoreSnapshot_4 : decode cL_restoreSnapshot 4 = .ok (.invokevirtual 80, 3) := by decide +kernel
theorem dL_restoreSnapshot_7 : decode cL_restoreSnapshot 7 = .ok (.i2l, 1) := by decide +kernel
theorem dL_restoreSnapshot_8 : decode cL_restoreSnapshot 8 = .ok (.lastore, 1) := by decide +kernel
theorem dL_restoreSnapshot_9 : decode cL_restoreSnapshot 9 = .ok (.goto 9, 3) := by decide +kernel
theorem dL_restoreSnapshot_12 : decode cL_restoreSnapshot 12 = .ok (.astore_n 3, 1) := by decide +kernel
theorem dL_restoreSnapshot_13 : decode cL_restoreSnapshot 13 = .ok (.iconst 1, 1) := by decide +kernel
theorem dL_restoreSnapshot_14 : decode cL_restoreSnapshot 14 = .ok (.ireturn, 1) := by decide +kernel
theorem dL_restoreSnapshot_15 : decode cL_restoreSnapshot 15 = .ok (.astore_n 3, 1) := by decide +kernel
theorem dL_restoreSnapshot_16 : decode cL_restoreSnapshot 16 = .ok (.iconst 2, 1) := by decide +kernel
theorem dL_restoreSnapshot_17 : decode cL_restoreSnapshot 17 = .ok (.ireturn, 1) := by decide +kernel
theorem dL_restoreSnapshot_18 : decode cL_restoreSnapshot 18 = .ok (.iconst 0, 1) := by decide +kernel
theorem dL_restoreSnapshot_19 : decode cL_restoreSnapshot 19 = .ok (.ireturn, 1) := by decide +kernel
theorem dL_law_0 : decode cL_law 0 = .ok (.new 8, 3) := by decide +kernel
theorem dL_law_3 : decode cL_law 3 = .ok (.dup, 1) := by decide +kernel
theorem dL_law_4 : decode cL_law 4 = .ok (.invokespecial 83, 3) := by decide +kernel
theorem dL_law_7 : decode cL_law 7 = .ok (.astore_n 1, 1) := by decide +kernel
theorem dL_law_8 : decode cL_law 8 = .ok (.new 84, 3) := by decide +kernel
theorem dL_law_11 : decode cL_law 11 = .ok (.dup, 1) := by decide +kernel
theorem dL_law_12 : decode cL_law 12 = .ok (.invokespecial 86, 3) := by decide +kernel
theorem dL_law_15 : decode cL_law 15 = .ok (.astore_n 2, 1) := by decide +kernel
theorem dL_law_16 : decode cL_law 16 = .ok (.iconst 1, 1) := by decide +kernel
theorem dL_law_17 : decode cL_law 17 = .ok (.newarray .long, 2) := by decide +kernel
theorem dL_law_19 : decode cL_law 19 = .ok (.astore_n 3, 1) := by decide +kernel
theorem dL_law_20 : decode cL_law 20 = .ok (.iconst 0, 1) := by decide +kernel
theorem dL_law_21 : decode cL_law 21 = .ok (.istore 4, 2) := by decide +kernel
theorem dL_law_23 : decode cL_law 23 = .ok (.iload 4, 2) := by decide +kernel
theorem dL_law_25 : decode cL_law 25 = .ok (.aload_n 0, 1) := by decide +kernel
theorem dL_law_26 : decode cL_law 26 = .ok (.arraylength, 1) := by decide +kernel
theorem dL_law_27 : decode cL_law 27 = .ok (.bipush 6, 2) := by decide +kernel
theorem dL_law_29 : decode cL_law 29 = .ok (.isub, 1) := by decide +kernel
theorem dL_law_30 : decode cL_law 30 = .ok (.if_icmp .gt 994, 3) := by decide +kernel
theorem dL_law_33 : decode cL_law 33 = .ok (.aload_n 0, 1) := by decide +kernel
theorem dL_law_34 : decode cL_law 34 = .ok (.iload 4, 2) := by decide +kernel
theorem dL_law_36 : decode cL_law 36 = .ok (.iaload, 1) := by decide +kernel
theorem dL_law_37 : decode cL_law 37 = .ok (.bipush 31, 2) := by decide +kernel
theorem dL_law_39 : decode cL_law 39 = .ok (.iand, 1) := by decide +kernel
theorem dL_law_40 : decode cL_law 40 = .ok (.tableswitch 978 0 30 #[140, 213, 241, 254, 282, 322, 362, 387, 415, 443, 456, 484, 497, 510, 538, 566, 594, 622, 635, 675, 715, 728, 756, 784, 797, 813, 841, 869, 909, 922, 950], 140) := by decide +kernel
theorem dL_law_180 : decode cL_law 180 = .ok (.aload_n 1, 1) := by decide +kernel
theorem dL_law_181 : decode cL_law 181 = .ok (.aload_n 0, 1) := by decide +kernel
theorem dL_law_182 : decode cL_law 182 = .ok (.iload 4, 2) := by decide +kernel
theorem dL_law_184 : decode cL_law 184 = .ok (.iconst 1, 1) := by decide +kernel
theorem dL_law_185 : decode cL_law 185 = .ok (.iadd, 1) := by decide +kernel
theorem dL_law_186 : decode cL_law 186 = .ok (.iaload, 1) := by decide +kernel
theorem dL_law_187 : decode cL_law 187 = .ok (.aload_n 0, 1) := by decide +kernel
theorem dL_law_188 : decode cL_law 188 = .ok (.iload 4, 2) := by decide +kernel
theorem dL_law_190 : decode cL_law 190 = .ok (.iconst 2, 1) := by decide +kernel
theorem dL_law_191 : decode cL_law 191 = .ok (.iadd, 1) := by decide +kernel
theorem dL_law_192 : decode cL_law 192 = .ok (.iaload, 1) := by decide +kernel
theorem dL_law_193 : decode cL_law 193 = .ok (.aload_n 0, 1) := by decide +kernel
theorem dL_law_194 : decode cL_law 194 = .ok (.iload 4, 2) := by decide +kernel
theorem dL_law_196 : decode cL_law 196 = .ok (.iconst 3, 1) := by decide +kernel
theorem dL_law_197 : decode cL_law 197 = .ok (.iadd, 1) := by decide +kernel
theorem dL_law_198 : decode cL_law 198 = .ok (.iaload, 1) := by decide +kernel
theorem dL_law_199 : decode cL_law 199 = .ok (.aload_n 0, 1) := by decide +kernel
theorem dL_law_200 : decode cL_law 200 = .ok (.iload 4, 2) := by decide +kernel
theorem dL_law_202 : decode cL_law 202 = .ok (.iconst 4, 1) := by decide +kernel
theorem dL_law_203 : decode cL_law 203 = .ok (.iadd, 1) := by decide +kernel
theorem dL_law_204 : decode cL_law 204 = .ok (.iaload, 1) := by decide +kernel
theorem dL_law_205 : decode cL_law 205 = .ok (.aload_n 0, 1) := by decide +kernel
theorem dL_law_206 : decode cL_law 206 = .ok (.iload 4, 2) := by decide +kernel
theorem dL_law_208 : decode cL_law 208 = .ok (.iconst 5, 1) := by decide +kernel
theorem dL_law_209 : decode cL_law 209 = .ok (.iadd, 1) := by decide +kernel
theorem dL_law_210 : decode cL_law 210 = .ok (.iaload, 1) := by decide +kernel
theorem dL_law_211 : decode cL_law 211 = .ok (.invokevirtual 87, 3) := by decide +kernel
theorem dL_law_214 : decode cL_law 214 = .ok (.pop, 1) := by decide +kernel
theorem dL_law_215 : decode cL_law 215 = .ok (.aload_n 2, 1) := by decide +kernel
theorem dL_law_216 : decode cL_law 216 = .ok (.aload_n 0, 1) := by decide +kernel
theorem dL_law_217 : decode cL_law 217 = .ok (.iload 4, 2) := by decide +kernel
theorem dL_law_219 : decode cL_law 219 = .ok (.iconst 1, 1) := by decide +kernel
theorem dL_law_220 : decode cL_law 220 = .ok (.iadd, 1) := by decide +kernel
theorem dL_law_221 : decode cL_law 221 = .ok (.iaload, 1) := by decide +kernel
theorem dL_law_222 : decode cL_law 222 = .ok (.aload_n 0, 1) := by decide +kernel
theorem dL_law_223 : decode cL_law 223 = .ok (.iload 4, 2) := by decide +kernel
theorem dL_law_225 : decode cL_law 225 = .ok (.iconst 2, 1) := by decide +kernel
theorem dL_law_226 : decode cL_law 226 = .ok (.iadd, 1) := by decide +kernel
theorem dL_law_227 : decode cL_law 227 = .ok (.iaload, 1) := by decide +kernel
theorem dL_law_228 : decode cL_law 228 = .ok (.aload_n 0, 1) := by decide +kernel
theorem dL_law_229 : decode cL_law 229 = .ok (.iload 4, 2) := by decide +kernel
theorem dL_law_231 : decode cL_law 231 = .ok (.iconst 3, 1) := by decide +kernel
theorem dL_law_232 : decode cL_law 232 = .ok (.iadd, 1) := by decide +kernel
theorem dL_law_233 : decode cL_law 233 = .ok (.iaload, 1) := by decide +kernel
theorem dL_law_234 : decode cL_law 234 = .ok (.aload_n 0, 1) := by decide +kernel
theorem dL_law_235 : decode cL_law 235 = .ok (.iload 4, 2) := by decide +kernel
theorem dL_law_237 : decode cL_law 237 = .ok (.iconst 4, 1) := by decide +kernel
theorem dL_law_238 : decode cL_law 238 = .ok (.iadd, 1) := by decide +kernel
theorem dL_law_239 : decode cL_law 239 = .ok (.iaload, 1) := by decide +kernel
theorem dL_law_240 : decode cL_law 240 = .ok (.aload_n 0, 1) := by decide +kernel
theorem dL_law_241 : decode cL_law 241 = .ok (.iload 4, 2) := by decide +kernel
theorem dL_law_243 : decode cL_law 243 = .ok (.iconst 5, 1) := by decide +kernel
theorem dL_law_244 : decode cL_law 244 = .ok (.iadd, 1) := by decide +kernel
theorem dL_law_245 : decode cL_law 245 = .ok (.iaload, 1) := by decide +kernel
theorem dL_law_246 : decode cL_law 246 = .ok (.invokevirtual 91, 3) := by decide +kernel
theorem dL_law_249 : decode cL_law 249 = .ok (.pop, 1) := by decide +kernel
theorem dL_law_250 : decode cL_law 250 = .ok (.goto 768, 3) := by decide +kernel
theorem dL_law_253 : decode cL_law 253 = .ok (.aload_n 1, 1) := by decide +kernel
theorem dL_law_254 : decode cL_law 254 = .ok (.aload_n 0, 1) := by decide +kernel
theorem dL_law_255 : decode cL_law 255 = .ok (.iload 4, 2) := by decide +kernel
theorem dL_law_257 : decode cL_law 257 = .ok (.iconst 1, 1) := by decide +kernel
theorem dL_law_258 : decode cL_law 258 = .ok (.iadd, 1) := by decide +kernel
theorem dL_law_259 : decode cL_law 259 = .ok (.iaload, 1) := by decide +kernel
theorem dL_law_260 : decode cL_law 260 = .ok (.aload_n 3, 1) := by decide +kernel
theorem dL_law_261 : decode cL_law 261 = .ok (.invokestatic 92, 3) := by decide +kernel
theorem dL_law_264 : decode cL_law 264 = .ok (.istore 5, 2) := by decide +kernel
theorem dL_law_266 : decode cL_law 266 = .ok (.aload_n 2, 1) := by decide +kernel
theorem dL_law_267 : decode cL_law 267 = .ok (.aload_n 0, 1) := by decide +kernel
theorem dL_law_268 : decode cL_law 268 = .ok (.iload 4, 2) := by decide +kernel
theorem dL_law_270 : decode cL_law 270 = .ok (.iconst 1, 1) := by decide +kernel
theorem dL_law_271 : decode cL_law 271 = .ok (.iadd, 1) := by decide +kernel
theorem dL_law_272 : decode cL_law 272 = .ok (.iaload, 1) := by decide +kernel
theorem dL_law_273 : decode cL_law 273 = .ok (.invokevirtual 97, 3) := by decide +kernel
theorem dL_law_276 : decode cL_law 276 = .ok (.istore 6, 2) := by decide +kernel
theorem dL_law_278 : decode cL_law 278 = .ok (.goto 740, 3) := by decide +kernel
theorem dL_law_281 : decode cL_law 281 = .ok (.aload_n 1, 1) := by decide +kernel
theorem dL_law_282 : decode cL_law 282 = .ok (.invokevirtual 98, 3) := by decide +kernel
theorem dL_law_285 : decode cL_law 285 = .ok (.aload_n 2, 1) := by decide +kernel
theorem dL_law_286 : decode cL_law 286 = .ok (.invokevirtual 101, 3) := by decide +kernel
theorem dL_law_289 : decode cL_law 289 = .ok (.if_icmp .eq 729, 3) := by decide +kernel
theorem dL_law_292 : decode cL_law 292 = .ok (.iconst 0, 1) := by decide +kernel
theorem dL_law_293 : decode cL_law 293 = .ok (.ireturn, 1) := by decide +kernel
theorem dL_law_294 : decode cL_law 294 = .ok (.aload_n 1, 1) := by decide +kernel
theorem dL_law_295 : decode cL_law 295 = .ok (.aload_n 0, 1) := by decide +kernel
theorem dL_law_296 : decode cL_law 296 = .ok (.iload 4, 2) := by decide +kernel
theorem dL_law_298 : decode cL_law 298 = .ok (.iconst 1, 1) := by decide +kernel
theorem dL_law_299 : decode cL_law 299 = .ok (.iadd, 1) := by decide +kernel
theorem dL_law_300 : decode cL_law 300 = .ok (.iaload, 1) := by decide +kernel
theorem dL_law_301 : decode cL_law 301 = .ok (.aload_n 3, 1) := by decide +kernel
theorem dL_law_302 : decode cL_law 302 = .ok (.invokestatic 102, 3) := by decide +kernel
theorem dL_law_305 : decode cL_law 305 = .ok (.istore 5, 2) := by decide +kernel
theorem dL_law_307 : decode cL_law 307 = .ok (.aload_n 2, 1) := by decide +kernel
theorem dL_law_308 : decode cL_law 308 = .ok (.aload_n 0, 1) := by decide +kernel
theorem dL_law_309 : decode cL_law 309 = .ok (.iload 4, 2) := by decide +kernel
theorem dL_law_311 : decode cL_law 311 = .ok (.iconst 1, 1) := by decide +kernel
theorem dL_law_312 : decode cL_law 312 = .ok (.iadd, 1) := by decide +kernel
theorem dL_law_313 : decode cL_law 313 = .ok (.iaload, 1) := by decide +kernel
theorem dL_law_314 : decode cL_law 314 = .ok (.invokevirtual 104, 3) := by decide +kernel
theorem dL_law_317 : decode cL_law 317 = .ok (.istore 6, 2) := by decide +kernel
theorem dL_law_319 : decode cL_law 319 = .ok (.goto 699, 3) := by decide +kernel
theorem dL_law_322 : decode cL_law 322 = .ok (.aload_n 1, 1) := by decide +kernel
theorem dL_law_323 : decode cL_law 323 = .ok (.aload_n 0, 1) := by decide +kernel
theorem dL_law_324 : decode cL_law 324 = .ok (.iload 4, 2) := by decide +kernel
theorem dL_law_326 : decode cL_law 326 = .ok (.iconst 1, 1) := by decide +kernel
theorem dL_law_327 : decode cL_law 327 = .ok (.iadd, 1) := by decide +kernel
theorem dL_law_328 : decode cL_law 328 = .ok (.iaload, 1) := by decide +kernel
theorem dL_law_329 : decode cL_law 329 = .ok (.aload_n 0, 1) := by decide +kernel
theorem dL_law_330 : decode cL_law 330 = .ok (.iload 4, 2) := by decide +kernel
theorem dL_law_332 : decode cL_law 332 = .ok (.iconst 2, 1) := by decide +kernel
theorem dL_law_333 : decode cL_law 333 = .ok (.iadd, 1) := by decide +kernel
theorem dL_law_334 : decode cL_law 334 = .ok (.iaload, 1) := by decide +kernel
theorem dL_law_335 : decode cL_law 335 = .ok (.aload_n 3, 1) := by decide +kernel
theorem dL_law_336 : decode cL_law 336 = .ok (.invokestatic 105, 3) := by decide +kernel
theorem dL_law_339 : decode cL_law 339 = .ok (.istore 5, 2) := by decide +kernel
theorem dL_law_341 : decode cL_law 341 = .ok (.aload_n 2, 1) := by decide +kernel
theorem dL_law_342 : decode cL_law 342 = .ok (.aload_n 0, 1) := by decide +kernel
theorem dL_law_343 : decode cL_law 343 = .ok (.iload 4, 2) := by decide +kernel
theorem dL_law_345 : decode cL_law 345 = .ok (.iconst 1, 1) := by decide +kernel
theorem dL_law_346 : decode cL_law 346 = .ok (.iadd, 1) := by decide +kernel
theorem dL_law_347 : decode cL_law 347 = .ok (.iaload, 1) := by decide +kernel
theorem dL_law_348 : decode cL_law 348 = .ok (.aload_n 0, 1) := by decide +kernel
theorem dL_law_349 : decode cL_law 349 = .ok (.iload 4, 2) := by decide +kernel
theorem dL_law_351 : decode cL_law 351 = .ok (.iconst 2, 1) := by decide +kernel
theorem dL_law_352 : decode cL_law 352 = .ok (.iadd, 1) := by decide +kernel
theorem dL_law_353 : decode cL_law 353 = .ok (.iaload, 1) := by decide +kernel
theorem dL_law_354 : decode cL_law 354 = .ok (.invokevirtual 108, 3) := by decide +kernel
theorem dL_law_357 : decode cL_law 357 = .ok (.istore 6, 2) := by decide +kernel
theorem dL_law_359 : decode cL_law 359 = .ok (.goto 659, 3) := by decide +kernel
theorem dL_law_362 : decode cL_law 362 = .ok (.aload_n 1, 1) := by decide +kernel
theorem dL_law_363 : decode cL_law 363 = .ok (.aload_n 0, 1) := by decide +kernel
theorem dL_law_364 : decode cL_law 364 = .ok (.iload 4, 2) := by decide +kernel
theorem dL_law_366 : decode cL_law 366 = .ok (.iconst 1, 1) := by decide +kernel
theorem dL_law_367 : decode cL_law 367 = .ok (.iadd, 1) := by decide +kernel
theorem dL_law_368 : decode cL_law 368 = .ok (.iaload, 1) := by decide +kernel
theorem dL_law_369 : decode cL_law 369 = .ok (.aload_n 0, 1) := by decide +kernel
theorem dL_law_370 : decode cL_law 370 = .ok (.iload 4, 2) := by decide +kernel
theorem dL_law_372 : decode cL_law 372 = .ok (.iconst 2, 1) := by decide +kernel
theorem dL_law_373 : decode cL_law 373 = .ok (.iadd, 1) := by decide +kernel
theorem dL_law_374 : decode cL_law 374 = .ok (.iaload, 1) := by decide +kernel
theorem dL_law_375 : decode cL_law 375 = .ok (.aload_n 3, 1) := by decide +kernel
theorem dL_law_376 : decode cL_law 376 = .ok (.invokestatic 109, 3) := by decide +kernel
theorem dL_law_379 : decode cL_law 379 = .ok (.istore 5, 2) := by decide +kernel
theorem dL_law_381 : decode cL_law 381 = .ok (.aload_n 2, 1) := by decide +kernel
theorem dL_law_382 : decode cL_law 382 = .ok (.aload_n 0, 1) := by decide +kernel
theorem dL_law_383 : decode cL_law 383 = .ok (.iload 4, 2) := by decide +kernel
theorem dL_law_385 : decode cL_law 385 = .ok (.iconst 1, 1) := by decide +kernel
theorem dL_law_386 : decode cL_law 386 = .ok (.iadd, 1) := by decide +kernel
theorem dL_law_387 : decode cL_law 387 = .ok (.iaload, 1) := by decide +kernel
theorem dL_law_388 : decode cL_law 388 = .ok (.aload_n 0, 1) := by decide +kernel
theorem dL_law_389 : decode cL_law 389 = .ok (.iload 4, 2) := by decide +kernel
theorem dL_law_391 : decode cL_law 391 = .ok (.iconst 2, 1) := by decide +kernel
theorem dL_law_392 : decode cL_law 392 = .ok (.iadd, 1) := by decide +kernel
theorem dL_law_393 : decode cL_law 393 = .ok (.iaload, 1) := by decide +kernel
theorem dL_law_394 : decode cL_law 394 = .ok (.invokevirtual 111, 3) := by decide +kernel
theorem dL_law_397 : decode cL_law 397 = .ok (.istore 6, 2) := by decide +kernel
theorem dL_law_399 : decode cL_law 399 = .ok (.goto 619, 3) := by decide +kernel
theorem dL_law_402 : decode cL_law 402 = .ok (.aload_n 1, 1) := by decide +kernel
theorem dL_law_403 : decode cL_law 403 = .ok (.aload_n 0, 1) := by decide +kernel
theorem dL_law_404 : decode cL_law 404 = .ok (.iload 4, 2) := by decide +kernel
theorem dL_law_406 : decode cL_law 406 = .ok (.iconst 1, 1) := by decide +kernel
theorem dL_law_407 : decode cL_law 407 = .ok (.iadd, 1) := by decide +kernel
theorem dL_law_408 : decode cL_law 408 = .ok (.iaload, 1) := by decide +kernel
theorem dL_law_409 : decode cL_law 409 = .ok (.invokevirtual 112, 3) := by decide +kernel
theorem dL_law_412 : decode cL_law 412 = .ok (.pop, 1) := by decide +kernel
theorem dL_law_413 : decode cL_law 413 = .ok (.aload_n 2, 1) := by decide +kernel
theorem dL_law_414 : decode cL_law 414 = .ok (.aload_n 0, 1) := by decide +kernel
theorem dL_law_415 : decode cL_law 415 = .ok (.iload 4, 2) := by decide +kernel
theorem dL_law_417 : decode cL_law 417 = .ok (.iconst 1, 1) := by decide +kernel
theorem dL_law_418 : decode cL_law 418 = .ok (.iadd, 1) := by decide +kernel
theorem dL_law_419 : decode cL_law 419 = .ok (.iaload, 1) := by decide +kernel
theorem dL_law_420 : decode cL_law 420 = .ok (.invokevirtual 115, 3) := by decide +kernel
theorem dL_law_423 : decode cL_law 423 = .ok (.pop, 1) := by decide +kernel
theorem dL_law_424 : decode cL_law 424 = .ok (.goto 594, 3) := by decide +kernel
theorem dL_law_427 : decode cL_law 427 = .ok (.aload_n 1, 1) := by decide +kernel
theorem dL_law_428 : decode cL_law 428 = .ok (.aload_n 0, 1) := by decide +kernel
theorem dL_law_429 : decode cL_law 429 = .ok (.iload 4, 2) := by decide +kernel
theorem dL_law_431 : decode cL_law 431 = .ok (.iconst 1, 1) := by decide +kernel
theorem dL_law_432 : decode cL_law 432 = .ok (.iadd, 1) := by decide +kernel
theorem dL_law_433 : decode cL_law 433 = .ok (.iaload, 1) := by decide +kernel
theorem dL_law_434 : decode cL_law 434 = .ok (.aload_n 3, 1) := by decide +kernel
theorem dL_law_435 : decode cL_law 435 = .ok (.invokestatic 116, 3) := by decide +kernel
theorem dL_law_438 : decode cL_law 438 = .ok (.istore 5, 2) := by decide +kernel
theorem dL_law_440 : decode cL_law 440 = .ok (.aload_n 2, 1) := by decide +kernel
theorem dL_law_441 : decode cL_law 441 = .ok (.aload_n 0, 1) := by decide +kernel
theorem dL_law_442 : decode cL_law 442 = .ok (.iload 4, 2) := by decide +kernel
theorem dL_law_444 : decode cL_law 444 = .ok (.iconst 1, 1) := by decide +kernel
theorem dL_law_445 : decode cL_law 445 = .ok (.iadd, 1) := by decide +kernel
theorem dL_law_446 : decode cL_law 446 = .ok (.iaload, 1) := by decide +kernel
theorem dL_law_447 : decode cL_law 447 = .ok (.invokevirtual 118, 3) := by decide +kernel
theorem dL_law_450 : decode cL_law 450 = .ok (.istore 6, 2) := by decide +kernel
theorem dL_law_452 : decode cL_law 452 = .ok (.goto 566, 3) := by decide +kernel
theorem dL_law_455 : decode cL_law 455 = .ok (.aload_n 1, 1) := by decide +kernel
theorem dL_law_456 : decode cL_law 456 = .ok (.aload_n 0, 1) := by decide +kernel
theorem dL_law_457 : decode cL_law 457 = .ok (.iload 4, 2) := by decide +kernel
theorem dL_law_459 : decode cL_law 459 = .ok (.iconst 1, 1) := by decide +kernel
theorem dL_law_460 : decode cL_law 460 = .ok (.iadd, 1) := by decide +kernel
theorem dL_law_461 : decode cL_law 461 = .ok (.iaload, 1) := by decide +kernel
theorem dL_law_462 : decode cL_law 462 = .ok (.aload_n 3, 1) := by decide +kernel
theorem dL_law_463 : decode cL_law 463 = .ok (.invokestatic 119, 3) := by decide +kernel
theorem dL_law_466 : decode cL_law 466 = .ok (.istore 5, 2) := by decide +kernel
theorem dL_law_468 : decode cL_law 468 = .ok (.aload_n 2, 1) := by decide +kernel
theorem dL_law_469 : decode cL_law 469 = .ok (.aload_n 0, 1) := by decide +kernel
theorem dL_law_470 : decode cL_law 470 = .ok (.iload 4, 2) := by decide +kernel
theorem dL_law_472 : decode cL_law 472 = .ok (.iconst 1, 1) := by decide +kernel
theorem dL_law_473 : decode cL_law 473 = .ok (.iadd, 1) := by decide +kernel
theorem dL_law_474 : decode cL_law 474 = .ok (.iaload, 1) := by decide +kernel
theorem dL_law_475 : decode cL_law 475 = .ok (.invokevirtual 121, 3) := by decide +kernel
theorem dL_law_478 : decode cL_law 478 = .ok (.istore 6, 2) := by decide +kernel
theorem dL_law_480 : decode cL_law 480 = .ok (.goto 538, 3) := by decide +kernel
theorem dL_law_483 : decode cL_law 483 = .ok (.aload_n 1, 1) := by decide +kernel
theorem dL_law_484 : decode cL_law 484 = .ok (.invokevirtual 122, 3) := by decide +kernel
theorem dL_law_487 : decode cL_law 487 = .ok (.pop, 1) := by decide +kernel
theorem dL_law_488 : decode cL_law 488 = .ok (.aload_n 2, 1) := by decide +kernel
theorem dL_law_489 : decode cL_law 489 = .ok (.invokevirtual 125, 3) := by decide +kernel
theorem dL_law_492 : decode cL_law 492 = .ok (.pop, 1) := by decide +kernel
theorem dL_law_493 : decode cL_law 493 = .ok (.goto 525, 3) := by decide +kernel
theorem dL_law_496 : decode cL_law 496 = .ok (.aload_n 1, 1) := by decide +kernel
theorem dL_law_497 : decode cL_law 497 = .ok (.aload_n 0, 1) := by decide +kernel
theorem dL_law_498 : decode cL_law 498 = .ok (.iload 4, 2) := by decide +kernel
theorem dL_law_500 : decode cL_law 500 = .ok (.iconst 1, 1) := by decide +kernel
theorem dL_law_501 : decode cL_law 501 = .ok (.iadd, 1) := by decide +kernel
theorem dL_law_502 : decode cL_law 502 = .ok (.iaload, 1) := by decide +kernel
theorem dL_law_503 : decode cL_law 503 = .ok (.aload_n 3, 1) := by decide +kernel
theorem dL_law_504 : decode cL_law 504 = .ok (.invokestatic 126, 3) := by decide +kernel
theorem dL_law_507 : decode cL_law 507 = .ok (.istore 5, 2) := by decide +kernel
theorem dL_law_509 : decode cL_law 509 = .ok (.aload_n 2, 1) := by decide +kernel
theorem dL_law_510 : decode cL_law 510 = .ok (.aload_n 0, 1) := by decide +kernel
theorem dL_law_511 : decode cL_law 511 = .ok (.iload 4, 2) := by decide +kernel
theorem dL_law_513 : decode cL_law 513 = .ok (.iconst 1, 1) := by decide +kernel
theorem dL_law_514 : decode cL_law 514 = .ok (.iadd, 1) := by decide +kernel
theorem dL_law_515 : decode cL_law 515 = .ok (.iaload, 1) := by decide +kernel
theorem dL_law_516 : decode cL_law 516 = .ok (.invokevirtual 128, 3) := by decide +kernel
theorem dL_law_519 : decode cL_law 519 = .ok (.istore 6, 2) := by decide +kernel
theorem dL_law_521 : decode cL_law 521 = .ok (.goto 497, 3) := by decide +kernel
theorem dL_law_524 : decode cL_law 524 = .ok (.aload_n 1, 1) := by decide +kernel
theorem dL_law_525 : decode cL_law 525 = .ok (.invokevirtual 129, 3) := by decide +kernel
theorem dL_law_528 : decode cL_law 528 = .ok (.pop, 1) := by decide +kernel
theorem dL_law_529 : decode cL_law 529 = .ok (.aload_n 2, 1) := by decide +kernel
theorem dL_law_530 : decode cL_law 530 = .ok (.invokevirtual 132, 3) := by decide +kernel
theorem dL_law_533 : decode cL_law 533 = .ok (.pop, 1) := by decide +kernel
theorem dL_law_534 : decode cL_law 534 = .ok (.goto 484, 3) := by decide +kernel
theorem dL_law_537 : decode cL_law 537 = .ok (.aload_n 1, 1) := by decide +kernel
theorem dL_law_538 : decode cL_law 538 = .ok (.invokevirtual 133, 3) := by decide +kernel
theorem dL_law_541 : decode cL_law 541 = .ok (.pop, 1) := by decide +kernel
theorem dL_law_542 : decode cL_law 542 = .ok (.aload_n 2, 1) := by decide +kernel
theorem dL_law_543 : decode cL_law 543 = .ok (.invokevirtual 136, 3) := by decide +kernel
theorem dL_law_546 : decode cL_law 546 = .ok (.pop, 1) := by decide +kernel
theorem dL_law_547 : decode cL_law 547 = .ok (.goto 471, 3) := by decide +kernel
theorem dL_law_550 : decode cL_law 550 = .ok (.aload_n 1, 1) := by decide +kernel
theorem dL_law_551 : decode cL_law 551 = .ok (.aload_n 0, 1) := by decide +kernel
theorem dL_law_552 : decode cL_law 552 = .ok (.iload 4, 2) := by decide +kernel
theorem dL_law_554 : decode cL_law 554 = .ok (.iconst 1, 1) := by decide +kernel
theorem dL_law_555 : decode cL_law 555 = .ok (.iadd, 1) := by decide +kernel
theorem dL_law_556 : decode cL_law 556 = .ok (.iaload, 1) := by decide +kernel
theorem dL_law_557 : decode cL_law 557 = .ok (.aload_n 3, 1) := by decide +kernel
theorem dL_law_558 : decode cL_law 558 = .ok (.invokestatic 137, 3) := by decide +kernel
theorem dL_law_561 : decode cL_law 561 = .ok (.istore 5, 2) := by decide +kernel
theorem dL_law_563 : decode cL_law 563 = .ok (.aload_n 2, 1) := by decide +kernel
theorem dL_law_564 : decode cL_law 564 = .ok (.aload_n 0, 1) := by decide +kernel
theorem dL_law_565 : decode cL_law 565 = .ok (.iload 4, 2) := by decide +kernel
theorem dL_law_567 : decode cL_law 567 = .ok (.iconst 1, 1) := by decide +kernel
theorem dL_law_568 : decode cL_law 568 = .ok (.iadd, 1) := by decide +kernel
theorem dL_law_569 : decode cL_law 569 = .ok (.iaload, 1) := by decide +kernel
theorem dL_law_570 : decode cL_law 570 = .ok (.invokevirtual 139, 3) := by decide +kernel
theorem dL_law_573 : decode cL_law 573 = .ok (.istore 6, 2) := by decide +kernel
theorem dL_law_575 : decode cL_law 575 = .ok (.goto 443, 3) := by decide +kernel
theorem dL_law_578 : decode cL_law 578 = .ok (.aload_n 1, 1) := by decide +kernel
theorem dL_law_579 : decode cL_law 579 = .ok (.aload_n 0, 1) := by decide +kernel
theorem dL_law_580 : decode cL_law 580 = .ok (.iload 4, 2) := by decide +kernel
theorem dL_law_582 : decode cL_law 582 = .ok (.iconst 1, 1) := by decide +kernel
theorem dL_law_583 : decode cL_law 583 = .ok (.iadd, 1) := by decide +kernel
theorem dL_law_584 : decode cL_law 584 = .ok (.iaload, 1) := by decide +kernel
theorem dL_law_585 : decode cL_law 585 = .ok (.aload_n 3, 1) := by decide +kernel
theorem dL_law_586 : decode cL_law 586 = .ok (.invokestatic 140, 3) := by decide +kernel
theorem dL_law_589 : decode cL_law 589 = .ok (.istore 5, 2) := by decide +kernel
theorem dL_law_591 : decode cL_law 591 = .ok (.aload_n 2, 1) := by decide +kernel
theorem dL_law_592 : decode cL_law 592 = .ok (.aload_n 0, 1) := by decide +kernel
theorem dL_law_593 : decode cL_law 593 = .ok (.iload 4, 2) := by decide +kernel
theorem dL_law_595 : decode cL_law 595 = .ok (.iconst 1, 1) := by decide +kernel
theorem dL_law_596 : decode cL_law 596 = .ok (.iadd, 1) := by decide +kernel
theorem dL_law_597 : decode cL_law 597 = .ok (.iaload, 1) := by decide +kernel
theorem dL_law_598 : decode cL_law 598 = .ok (.invokevirtual 142, 3) := by decide +kernel
theorem dL_law_601 : decode cL_law 601 = .ok (.istore 6, 2) := by decide +kernel
theorem dL_law_603 : decode cL_law 603 = .ok (.goto 415, 3) := by decide +kernel
theorem dL_law_606 : decode cL_law 606 = .ok (.aload_n 1, 1) := by decide +kernel
theorem dL_law_607 : decode cL_law 607 = .ok (.aload_n 0, 1) := by decide +kernel
theorem dL_law_608 : decode cL_law 608 = .ok (.iload 4, 2) := by decide +kernel
theorem dL_law_610 : decode cL_law 610 = .ok (.iconst 1, 1) := by decide +kernel
theorem dL_law_611 : decode cL_law 611 = .ok (.iadd, 1) := by decide +kernel
theorem dL_law_612 : decode cL_law 612 = .ok (.iaload, 1) := by decide +kernel
theorem dL_law_613 : decode cL_law 613 = .ok (.aload_n 3, 1) := by decide +kernel
theorem dL_law_614 : decode cL_law 614 = .ok (.invokestatic 143, 3) := by decide +kernel
theorem dL_law_617 : decode cL_law 617 = .ok (.istore 5, 2) := by decide +kernel
theorem dL_law_619 : decode cL_law 619 = .ok (.aload_n 2, 1) := by decide +kernel
theorem dL_law_620 : decode cL_law 620 = .ok (.aload_n 0, 1) := by decide +kernel
theorem dL_law_621 : decode cL_law 621 = .ok (.iload 4, 2) := by decide +kernel
theorem dL_law_623 : decode cL_law 623 = .ok (.iconst 1, 1) := by decide +kernel
theorem dL_law_624 : decode cL_law 624 = .ok (.iadd, 1) := by decide +kernel
theorem dL_law_625 : decode cL_law 625 = .ok (.iaload, 1) := by decide +kernel
theorem dL_law_626 : decode cL_law 626 = .ok (.invokevirtual 145, 3) := by decide +kernel
theorem dL_law_629 : decode cL_law 629 = .ok (.istore 6, 2) := by decide +kernel
theorem dL_law_631 : decode cL_law 631 = .ok (.goto 387, 3) := by decide +kernel
theorem dL_law_634 : decode cL_law 634 = .ok (.aload_n 1, 1) := by decide +kernel
theorem dL_law_635 : decode cL_law 635 = .ok (.aload_n 0, 1) := by decide +kernel
theorem dL_law_636 : decode cL_law 636 = .ok (.iload 4, 2) := by decide +kernel
theorem dL_law_638 : decode cL_law 638 = .ok (.iconst 1, 1) := by decide +kernel
theorem dL_law_639 : decode cL_law 639 = .ok (.iadd, 1) := by decide +kernel
theorem dL_law_640 : decode cL_law 640 = .ok (.iaload, 1) := by decide +kernel
theorem dL_law_641 : decode cL_law 641 = .ok (.aload_n 3, 1) := by decide +kernel
theorem dL_law_642 : decode cL_law 642 = .ok (.invokestatic 146, 3) := by decide +kernel
theorem dL_law_645 : decode cL_law 645 = .ok (.istore 5, 2) := by decide +kernel
theorem dL_law_647 : decode cL_law 647 = .ok (.aload_n 2, 1) := by decide +kernel
theorem dL_law_648 : decode cL_law 648 = .ok (.aload_n 0, 1) := by decide +kernel
theorem dL_law_649 : decode cL_law 649 = .ok (.iload 4, 2) := by decide +kernel
theorem dL_law_651 : decode cL_law 651 = .ok (.iconst 1, 1) := by decide +kernel
theorem dL_law_652 : decode cL_law 652 = .ok (.iadd, 1) := by decide +kernel
theorem dL_law_653 : decode cL_law 653 = .ok (.iaload, 1) := by decide +kernel
theorem dL_law_654 : decode cL_law 654 = .ok (.invokevirtual 148, 3) := by decide +kernel
theorem dL_law_657 : decode cL_law 657 = .ok (.istore 6, 2) := by decide +kernel
theorem dL_law_659 : decode cL_law 659 = .ok (.goto 359, 3) := by decide +kernel
theorem dL_law_662 : decode cL_law 662 = .ok (.aload_n 1, 1) := by decide +kernel
theorem dL_law_663 : decode cL_law 663 = .ok (.invokevirtual 149, 3) := by decide +kernel
theorem dL_law_666 : decode cL_law 666 = .ok (.pop, 1) := by decide +kernel
theorem dL_law_667 : decode cL_law 667 = .ok (.aload_n 2, 1) := by decide +kernel
theorem dL_law_668 : decode cL_law 668 = .ok (.invokevirtual 152, 3) := by decide +kernel
theorem dL_law_671 : decode cL_law 671 = .ok (.pop, 1) := by decide +kernel
theorem dL_law_672 : decode cL_law 672 = .ok (.goto 346, 3) := by decide +kernel
theorem dL_law_675 : decode cL_law 675 = .ok (.aload_n 1, 1) := by decide +kernel
theorem dL_law_676 : decode cL_law 676 = .ok (.aload_n 0, 1) := by decide +kernel
theorem dL_law_677 : decode cL_law 677 = .ok (.iload 4, 2) := by decide +kernel
theorem dL_law_679 : decode cL_law 679 = .ok (.iconst 1, 1) := by decide +kernel
theorem dL_law_680 : decode cL_law 680 = .ok (.iadd, 1) := by decide +kernel
theorem dL_law_681 : decode cL_law 681 = .ok (.iaload, 1) := by decide +kernel
theorem dL_law_682 : decode cL_law 682 = .ok (.aload_n 0, 1) := by decide +kernel
theorem dL_law_683 : decode cL_law 683 = .ok (.iload 4, 2) := by decide +kernel
theorem dL_law_685 : decode cL_law 685 = .ok (.iconst 2, 1) := by decide +kernel
theorem dL_law_686 : decode cL_law 686 = .ok (.iadd, 1) := by decide +kernel
theorem dL_law_687 : decode cL_law 687 = .ok (.iaload, 1) := by decide +kernel
theorem dL_law_688 : decode cL_law 688 = .ok (.aload_n 3, 1) := by decide +kernel
theorem dL_law_689 : decode cL_law 689 = .ok (.invokestatic 153, 3) := by decide +kernel
theorem dL_law_692 : decode cL_law 692 = .ok (.istore 5, 2) := by decide +kernel
theorem dL_law_694 : decode cL_law 694 = .ok (.aload_n 2, 1) := by decide +kernel
theorem dL_law_695 : decode cL_law 695 = .ok (.aload_n 0, 1) := by decide +kernel
theorem dL_law_696 : decode cL_law 696 = .ok (.iload 4, 2) := by decide +kernel
theorem dL_law_698 : decode cL_law 698 = .ok (.iconst 1, 1) := by decide +kernel
theorem dL_law_699 : decode cL_law 699 = .ok (.iadd, 1) := by decide +kernel
theorem dL_law_700 : decode cL_law 700 = .ok (.iaload, 1) := by decide +kernel
theorem dL_law_701 : decode cL_law 701 = .ok (.aload_n 0, 1) := by decide +kernel
theorem dL_law_702 : decode cL_law 702 = .ok (.iload 4, 2) := by decide +kernel
theorem dL_law_704 : decode cL_law 704 = .ok (.iconst 2, 1) := by decide +kernel
theorem dL_law_705 : decode cL_law 705 = .ok (.iadd, 1) := by decide +kernel
theorem dL_law_706 : decode cL_law 706 = .ok (.iaload, 1) := by decide +kernel
theorem dL_law_707 : decode cL_law 707 = .ok (.invokevirtual 155, 3) := by decide +kernel
theorem dL_law_710 : decode cL_law 710 = .ok (.istore 6, 2) := by decide +kernel
theorem dL_law_712 : decode cL_law 712 = .ok (.goto 306, 3) := by decide +kernel
theorem dL_law_715 : decode cL_law 715 = .ok (.aload_n 1, 1) := by decide +kernel
theorem dL_law_716 : decode cL_law 716 = .ok (.aload_n 0, 1) := by decide +kernel
theorem dL_law_717 : decode cL_law 717 = .ok (.iload 4, 2) := by decide +kernel
theorem dL_law_719 : decode cL_law 719 = .ok (.iconst 1, 1) := by decide +kernel
theorem dL_law_720 : decode cL_law 720 = .ok (.iadd, 1) := by decide +kernel
theorem dL_law_721 : decode cL_law 721 = .ok (.iaload, 1) := by decide +kernel
theorem dL_law_722 : decode cL_law 722 = .ok (.aload_n 0, 1) := by decide +kernel
theorem dL_law_723 : decode cL_law 723 = .ok (.iload 4, 2) := by decide +kernel
theorem dL_law_725 : decode cL_law 725 = .ok (.iconst 2, 1) := by decide +kernel
theorem dL_law_726 : decode cL_law 726 = .ok (.iadd, 1) := by decide +kernel
theorem dL_law_727 : decode cL_law 727 = .ok (.iaload, 1) := by decide +kernel
theorem dL_law_728 : decode cL_law 728 = .ok (.aload_n 3, 1) := by decide +kernel
theorem dL_law_729 : decode cL_law 729 = .ok (.invokestatic 156, 3) := by decide +kernel
theorem dL_law_732 : decode cL_law 732 = .ok (.istore 5, 2) := by decide +kernel
theorem dL_law_734 : decode cL_law 734 = .ok (.aload_n 2, 1) := by decide +kernel
theorem dL_law_735 : decode cL_law 735 = .ok (.aload_n 0, 1) := by decide +kernel
theorem dL_law_736 : decode cL_law 736 = .ok (.iload 4, 2) := by decide +kernel
theorem dL_law_738 : decode cL_law 738 = .ok (.iconst 1, 1) := by decide +kernel
theorem dL_law_739 : decode cL_law 739 = .ok (.iadd, 1) := by decide +kernel
theorem dL_law_740 : decode cL_law 740 = .ok (.iaload, 1) := by decide +kernel
theorem dL_law_741 : decode cL_law 741 = .ok (.aload_n 0, 1) := by decide +kernel
theorem dL_law_742 : decode cL_law 742 = .ok (.iload 4, 2) := by decide +kernel
theorem dL_law_744 : decode cL_law 744 = .ok (.iconst 2, 1) := by decide +kernel
theorem dL_law_745 : decode cL_law 745 = .ok (.iadd, 1) := by decide +kernel
theorem dL_law_746 : decode cL_law 746 = .ok (.iaload, 1) := by decide +kernel
theorem dL_law_747 : decode cL_law 747 = .ok (.invokevirtual 158, 3) := by decide +kernel
theorem dL_law_750 : decode cL_law 750 = .ok (.istore 6, 2) := by decide +kernel
theorem dL_law_752 : decode cL_law 752 = .ok (.goto 266, 3) := by decide +kernel
theorem dL_law_755 : decode cL_law 755 = .ok (.aload_n 1, 1) := by decide +kernel
theorem dL_law_756 : decode cL_law 756 = .ok (.invokevirtual 159, 3) := by decide +kernel
theorem dL_law_759 : decode cL_law 759 = .ok (.pop, 1) := by decide +kernel
theorem dL_law_760 : decode cL_law 760 = .ok (.aload_n 2, 1) := by decide +kernel
theorem dL_law_761 : decode cL_law 761 = .ok (.invokevirtual 162, 3) := by decide +kernel
theorem dL_law_764 : decode cL_law 764 = .ok (.pop, 1) := by decide +kernel
theorem dL_law_765 : decode cL_law 765 = .ok (.goto 253, 3) := by decide +kernel
theorem dL_law_768 : decode cL_law 768 = .ok (.aload_n 1, 1) := by decide +kernel
theorem dL_law_769 : decode cL_law 769 = .ok (.aload_n 0, 1) := by decide +kernel
theorem dL_law_770 : decode cL_law 770 = .ok (.iload 4, 2) := by decide +kernel
theorem dL_law_772 : decode cL_law 772 = .ok (.iconst 1, 1) := by decide +kernel
theorem dL_law_773 : decode cL_law 773 = .ok (.iadd, 1) := by decide +kernel
theorem dL_law_774 : decode cL_law 774 = .ok (.iaload, 1) := by decide +kernel
theorem dL_law_775 : decode cL_law 775 = .ok (.aload_n 3, 1) := by decide +kernel
theorem dL_law_776 : decode cL_law 776 = .ok (.invokestatic 163, 3) := by decide +kernel
theorem dL_law_779 : decode cL_law 779 = .ok (.istore 5, 2) := by decide +kernel
theorem dL_law_781 : decode cL_law 781 = .ok (.aload_n 2, 1) := by decide +kernel
theorem dL_law_782 : decode cL_law 782 = .ok (.aload_n 0, 1) := by decide +kernel
theorem dL_law_783 : decode cL_law 783 = .ok (.iload 4, 2) := by decide +kernel
theorem dL_law_785 : decode cL_law 785 = .ok (.iconst 1, 1) := by decide +kernel
theorem dL_law_786 : decode cL_law 786 = .ok (.iadd, 1) := by decide +kernel
theorem dL_law_787 : decode cL_law 787 = .ok (.iaload, 1) := by decide +kernel
theorem dL_law_788 : decode cL_law 788 = .ok (.invokevirtual 165, 3) := by decide +kernel
theorem dL_law_791 : decode cL_law 791 = .ok (.istore 6, 2) := by decide +kernel
theorem dL_law_793 : decode cL_law 793 = .ok (.goto 225, 3) := by decide +kernel
theorem dL_law_796 : decode cL_law 796 = .ok (.aload_n 1, 1) := by decide +kernel
theorem dL_law_797 : decode cL_law 797 = .ok (.aload_n 0, 1) := by decide +kernel
theorem dL_law_798 : decode cL_law 798 = .ok (.iload 4, 2) := by decide +kernel
theorem dL_law_800 : decode cL_law 800 = .ok (.iconst 1, 1) := by decide +kernel
theorem dL_law_801 : decode cL_law 801 = .ok (.iadd, 1) := by decide +kernel
theorem dL_law_802 : decode cL_law 802 = .ok (.iaload, 1) := by decide +kernel
theorem dL_law_803 : decode cL_law 803 = .ok (.aload_n 3, 1) := by decide +kernel
theorem dL_law_804 : decode cL_law 804 = .ok (.invokestatic 166, 3) := by decide +kernel
theorem dL_law_807 : decode cL_law 807 = .ok (.istore 5, 2) := by decide +kernel
theorem dL_law_809 : decode cL_law 809 = .ok (.aload_n 2, 1) := by decide +kernel
theorem dL_law_810 : decode cL_law 810 = .ok (.aload_n 0, 1) := by decide +kernel
theorem dL_law_811 : decode cL_law 811 = .ok (.iload 4, 2) := by decide +kernel
theorem dL_law_813 : decode cL_law 813 = .ok (.iconst 1, 1) := by decide +kernel
theorem dL_law_814 : decode cL_law 814 = .ok (.iadd, 1) := by decide +kernel
theorem dL_law_815 : decode cL_law 815 = .ok (.iaload, 1) := by decide +kernel
theorem dL_law_816 : decode cL_law 816 = .ok (.invokevirtual 168, 3) := by decide +kernel
theorem dL_law_819 : decode cL_law 819 = .ok (.istore 6, 2) := by decide +kernel
theorem dL_law_821 : decode cL_law 821 = .ok (.goto 197, 3) := by decide +kernel
theorem dL_law_824 : decode cL_law 824 = .ok (.aload_n 1, 1) := by decide +kernel
theorem dL_law_825 : decode cL_law 825 = .ok (.invokevirtual 169, 3) := by decide +kernel
theorem dL_law_828 : decode cL_law 828 = .ok (.pop, 1) := by decide +kernel
theorem dL_law_829 : decode cL_law 829 = .ok (.aload_n 2, 1) := by decide +kernel
theorem dL_law_830 : decode cL_law 830 = .ok (.invokevirtual 172, 3) := by decide +kernel
theorem dL_law_833 : decode cL_law 833 = .ok (.pop, 1) := by decide +kernel
theorem dL_law_834 : decode cL_law 834 = .ok (.goto 184, 3) := by decide +kernel
theorem dL_law_837 : decode cL_law 837 = .ok (.aload_n 1, 1) := by decide +kernel
theorem dL_law_838 : decode cL_law 838 = .ok (.aload_n 3, 1) := by decide +kernel
theorem dL_law_839 : decode cL_law 839 = .ok (.invokestatic 173, 3) := by decide +kernel
theorem dL_law_842 : decode cL_law 842 = .ok (.istore 5, 2) := by decide +kernel
theorem dL_law_844 : decode cL_law 844 = .ok (.aload_n 2, 1) := by decide +kernel
theorem dL_law_845 : decode cL_law 845 = .ok (.invokevirtual 176, 3) := by decide +kernel
theorem dL_law_848 : decode cL_law 848 = .ok (.istore 6, 2) := by decide +kernel
theorem dL_law_850 : decode cL_law 850 = .ok (.goto 168, 3) := by decide +kernel
theorem dL_law_853 : decode cL_law 853 = .ok (.aload_n 1, 1) := by decide +kernel
theorem dL_law_854 : decode cL_law 854 = .ok (.aload_n 0, 1) := by decide +kernel
theorem dL_law_855 : decode cL_law 855 = .ok (.iload 4, 2) := by decide +kernel
theorem dL_law_857 : decode cL_law 857 = .ok (.iconst 1, 1) := by decide +kernel
theorem dL_law_858 : decode cL_law 858 = .ok (.iadd, 1) := by decide +kernel
theorem dL_law_859 : decode cL_law 859 = .ok (.iaload, 1) := by decide +kernel
theorem dL_law_860 : decode cL_law 860 = .ok (.aload_n 3, 1) := by decide +kernel
theorem dL_law_861 : decode cL_law 861 = .ok (.invokestatic 177, 3) := by decide +kernel
theorem dL_law_864 : decode cL_law 864 = .ok (.istore 5, 2) := by decide +kernel
theorem dL_law_866 : decode cL_law 866 = .ok (.aload_n 2, 1) := by decide +kernel
theorem dL_law_867 : decode cL_law 867 = .ok (.aload_n 0, 1) := by decide +kernel
theorem dL_law_868 : decode cL_law 868 = .ok (.iload 4, 2) := by decide +kernel
theorem dL_law_870 : decode cL_law 870 = .ok (.iconst 1, 1) := by decide +kernel
theorem dL_law_871 : decode cL_law 871 = .ok (.iadd, 1) := by decide +kernel
theorem dL_law_872 : decode cL_law 872 = .ok (.iaload, 1) := by decide +kernel
theorem dL_law_873 : decode cL_law 873 = .ok (.invokevirtual 179, 3) := by decide +kernel
theorem dL_law_876 : decode cL_law 876 = .ok (.istore 6, 2) := by decide +kernel
theorem dL_law_878 : decode cL_law 878 = .ok (.goto 140, 3) := by decide +kernel
theorem dL_law_881 : decode cL_law 881 = .ok (.aload_n 1, 1) := by decide +kernel
theorem dL_law_882 : decode cL_law 882 = .ok (.aload_n 0, 1) := by decide +kernel
theorem dL_law_883 : decode cL_law 883 = .ok (.iload 4, 2) := by decide +kernel
theorem dL_law_885 : decode cL_law 885 = .ok (.iconst 1, 1) := by decide +kernel
theorem dL_law_886 : decode cL_law 886 = .ok (.iadd, 1) := by decide +kernel
theorem dL_law_887 : decode cL_law 887 = .ok (.iaload, 1) := by decide +kernel
theorem dL_law_888 : decode cL_law 888 = .ok (.aload_n 3, 1) := by decide +kernel
theorem dL_law_889 : decode cL_law 889 = .ok (.invokestatic 180, 3) := by decide +kernel
theorem dL_law_892 : decode cL_law 892 = .ok (.istore 5, 2) := by decide +kernel
theorem dL_law_894 : decode cL_law 894 = .ok (.aload_n 2, 1) := by decide +kernel
theorem dL_law_895 : decode cL_law 895 = .ok (.aload_n 0, 1) := by decide +kernel
theorem dL_law_896 : decode cL_law 896 = .ok (.iload 4, 2) := by decide +kernel
theorem dL_law_898 : decode cL_law 898 = .ok (.iconst 1, 1) := by decide +kernel
theorem dL_law_899 : decode cL_law 899 = .ok (.iadd, 1) := by decide +kernel
theorem dL_law_900 : decode cL_law 900 = .ok (.iaload, 1) := by decide +kernel
theorem dL_law_901 : decode cL_law 901 = .ok (.invokevirtual 182, 3) := by decide +kernel
theorem dL_law_904 : decode cL_law 904 = .ok (.istore 6, 2) := by decide +kernel
theorem dL_law_906 : decode cL_law 906 = .ok (.goto 112, 3) := by decide +kernel
theorem dL_law_909 : decode cL_law 909 = .ok (.aload_n 1, 1) := by decide +kernel
theorem dL_law_910 : decode cL_law 910 = .ok (.aload_n 0, 1) := by decide +kernel
theorem dL_law_911 : decode cL_law 911 = .ok (.iload 4, 2) := by decide +kernel
theorem dL_law_913 : decode cL_law 913 = .ok (.iconst 1, 1) := by decide +kernel
theorem dL_law_914 : decode cL_law 914 = .ok (.iadd, 1) := by decide +kernel
theorem dL_law_915 : decode cL_law 915 = .ok (.iaload, 1) := by decide +kernel
theorem dL_law_916 : decode cL_law 916 = .ok (.aload_n 0, 1) := by decide +kernel
theorem dL_law_917 : decode cL_law 917 = .ok (.iload 4, 2) := by decide +kernel
theorem dL_law_919 : decode cL_law 919 = .ok (.iconst 2, 1) := by decide +kernel
theorem dL_law_920 : decode cL_law 920 = .ok (.iadd, 1) := by decide +kernel
theorem dL_law_921 : decode cL_law 921 = .ok (.iaload, 1) := by decide +kernel
theorem dL_law_922 : decode cL_law 922 = .ok (.aload_n 3, 1) := by decide +kernel
theorem dL_law_923 : decode cL_law 923 = .ok (.invokestatic 183, 3) := by decide +kernel
theorem dL_law_926 : decode cL_law 926 = .ok (.istore 5, 2) := by decide +kernel
theorem dL_law_928 : decode cL_law 928 = .ok (.aload_n 2, 1) := by decide +kernel
theorem dL_law_929 : decode cL_law 929 = .ok (.aload_n 0, 1) := by decide +kernel
theorem dL_law_930 : decode cL_law 930 = .ok (.iload 4, 2) := by decide +kernel
theorem dL_law_932 : decode cL_law 932 = .ok (.iconst 1, 1) := by decide +kernel
theorem dL_law_933 : decode cL_law 933 = .ok (.iadd, 1) := by decide +kernel
theorem dL_law_934 : decode cL_law 934 = .ok (.iaload, 1) := by decide +kernel
theorem dL_law_935 : decode cL_law 935 = .ok (.aload_n 0, 1) := by decide +kernel
theorem dL_law_936 : decode cL_law 936 = .ok (.iload 4, 2) := by decide +kernel
theorem dL_law_938 : decode cL_law 938 = .ok (.iconst 2, 1) := by decide +kernel
theorem dL_law_939 : decode cL_law 939 = .ok (.iadd, 1) := by decide +kernel
theorem dL_law_940 : decode cL_law 940 = .ok (.iaload, 1) := by decide +kernel
theorem dL_law_941 : decode cL_law 941 = .ok (.invokevirtual 185, 3) := by decide +kernel
theorem dL_law_944 : decode cL_law 944 = .ok (.istore 6, 2) := by decide +kernel
theorem dL_law_946 : decode cL_law 946 = .ok (.goto 72, 3) := by decide +kernel
theorem dL_law_949 : decode cL_law 949 = .ok (.aload_n 1, 1) := by decide +kernel
theorem dL_law_950 : decode cL_law 950 = .ok (.invokevirtual 186, 3) := by decide +kernel
theorem dL_law_953 : decode cL_law 953 = .ok (.pop, 1) := by decide +kernel
theorem dL_law_954 : decode cL_law 954 = .ok (.aload_n 2, 1) := by decide +kernel
theorem dL_law_955 : decode cL_law 955 = .ok (.invokevirtual 189, 3) := by decide +kernel
theorem dL_law_958 : decode cL_law 958 = .ok (.pop, 1) := by decide +kernel
theorem dL_law_959 : decode cL_law 959 = .ok (.goto 59, 3) := by decide +kernel
theorem dL_law_962 : decode cL_law 962 = .ok (.aload_n 1, 1) := by decide +kernel
theorem dL_law_963 : decode cL_law 963 = .ok (.aload_n 0, 1) := by decide +kernel
theorem dL_law_964 : decode cL_law 964 = .ok (.iload 4, 2) := by decide +kernel
theorem dL_law_966 : decode cL_law 966 = .ok (.iconst 1, 1) := by decide +kernel
theorem dL_law_967 : decode cL_law 967 = .ok (.iadd, 1) := by decide +kernel
theorem dL_law_968 : decode cL_law 968 = .ok (.iaload, 1) := by decide +kernel
theorem dL_law_969 : decode cL_law 969 = .ok (.aload_n 3, 1) := by decide +kernel
theorem dL_law_970 : decode cL_law 970 = .ok (.invokestatic 190, 3) := by decide +kernel
theorem dL_law_973 : decode cL_law 973 = .ok (.istore 5, 2) := by decide +kernel
theorem dL_law_975 : decode cL_law 975 = .ok (.aload_n 2, 1) := by decide +kernel
theorem dL_law_976 : decode cL_law 976 = .ok (.aload_n 0, 1) := by decide +kernel
theorem dL_law_977 : decode cL_law 977 = .ok (.iload 4, 2) := by decide +kernel
theorem dL_law_979 : decode cL_law 979 = .ok (.iconst 1, 1) := by decide +kernel
theorem dL_law_980 : decode cL_law 980 = .ok (.iadd, 1) := by decide +kernel
theorem dL_law_981 : decode cL_law 981 = .ok (.iaload, 1) := by decide +kernel
theorem dL_law_982 : decode cL_law 982 = .ok (.invokevirtual 192, 3) := by decide +kernel
theorem dL_law_985 : decode cL_law 985 = .ok (.istore 6, 2) := by decide +kernel
theorem dL_law_987 : decode cL_law 987 = .ok (.goto 31, 3) := by decide +kernel
theorem dL_law_990 : decode cL_law 990 = .ok (.aload_n 1, 1) := by decide +kernel
theorem dL_law_991 : decode cL_law 991 = .ok (.aload_n 0, 1) := by decide +kernel
theorem dL_law_992 : decode cL_law 992 = .ok (.iload 4, 2) := by decide +kernel
theorem dL_law_994 : decode cL_law 994 = .ok (.iconst 1, 1) := by decide +kernel
theorem dL_law_995 : decode cL_law 995 = .ok (.iadd, 1) := by decide +kernel
theorem dL_law_996 : decode cL_law 996 = .ok (.iaload, 1) := by decide +kernel
theorem dL_law_997 : decode cL_law 997 = .ok (.aload_n 3, 1) := by decide +kernel
theorem dL_law_998 : decode cL_law 998 = .ok (.invokestatic 193, 3) := by decide +kernel
theorem dL_law_1001 : decode cL_law 1001 = .ok (.istore 5, 2) := by decide +kernel
theorem dL_law_1003 : decode cL_law 1003 = .ok (.aload_n 2, 1) := by decide +kernel
theorem dL_law_1004 : decode cL_law 1004 = .ok (.aload_n 0, 1) := by decide +kernel
theorem dL_law_1005 : decode cL_law 1005 = .ok (.iload 4, 2) := by decide +kernel
theorem dL_law_1007 : decode cL_law 1007 = .ok (.iconst 1, 1) := by decide +kernel
theorem dL_law_1008 : decode cL_law 1008 = .ok (.iadd, 1) := by decide +kernel
theorem dL_law_1009 : decode cL_law 1009 = .ok (.iaload, 1) := by decide +kernel
theorem dL_law_1010 : decode cL_law 1010 = .ok (.invokevirtual 195, 3) := by decide +kernel
theorem dL_law_1013 : decode cL_law 1013 = .ok (.istore 6, 2) := by decide +kernel
theorem dL_law_1015 : decode cL_law 1015 = .ok (.goto 3, 3) := by decide +kernel
theorem dL_law_1018 : decode cL_law 1018 = .ok (.iinc 4 6, 3) := by decide +kernel
theorem dL_law_1021 : decode cL_law 1021 = .ok (.goto (-998), 3) := by decide +kernel
theorem dL_law_1024 : decode cL_law 1024 = .ok (.iconst 1, 1) := by decide +kernel
theorem dL_law_1025 : decode cL_law 1025 = .ok (.ireturn, 1) := by decide +kernel
