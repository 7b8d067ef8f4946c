theorem dX11_init_0 : decode cX11_init 0 = .ok (.aload_n 0, 1) := by decide +kernel
theorem dX11_init_1 : decode cX11_init 1 = .ok (.invokespecial 1, 3) := by decide +kernel
theorem dX11_init_4 : decode cX11_init 4 = .ok (.return_, 1) := by decide +kernel
theorem dL_feeds_0 : decode cL_feeds 0 = .ok (.iconst 0, 1) := by decide +kernel
theorem dL_feeds_1 : decode cL_feeds 1 = .ok (.istore_n 2, 1) := by decide +kernel
theorem dL_feeds_2 : decode cL_feeds 2 = .ok (.iconst 0, 1) := by decide +kernel
theorem dL_feeds_3 : decode cL_feeds 3 = .ok (.istore_n 3, 1) := by decide +kernel
theorem dL_feeds_4 : decode cL_feeds 4 = .ok (.iload_n 3, 1) := by decide +kernel
theorem dL_feeds_5 : decode cL_feeds 5 = .ok (.aload_n 1, 1) := by decide +kernel
theorem dL_feeds_6 : decode cL_feeds 6 = .ok (.invokevirtual 7, 3) := by decide +kernel
theorem dL_feeds_9 : decode cL_feeds 9 = .ok (.if_icmp .ge 105, 3) := by decide +kernel
theorem dL_feeds_12 : decode cL_feeds 12 = .ok (.iconst 5, 1) := by decide +kernel
theorem dL_feeds_13 : decode cL_feeds 13 = .ok (.newarray .int, 2) := by decide +kernel
theorem dL_feeds_15 : decode cL_feeds 15 = .ok (.astore 4, 2) := by decide +kernel
theorem dL_feeds_17 : decode cL_feeds 17 = .ok (.iconst 0, 1) := by decide +kernel
theorem dL_feeds_18 : decode cL_feeds 18 = .ok (.istore 5, 2) := by decide +kernel
theorem dL_feeds_20 : decode cL_feeds 20 = .ok (.iload 5, 2) := by decide +kernel
theorem dL_feeds_22 : decode cL_feeds 22 = .ok (.bipush 20, 2) := by decide +kernel
theorem dL_feeds_24 : decode cL_feeds 24 = .ok (.if_icmp .ge 51, 3) := by decide +kernel
theorem dL_feeds_27 : decode cL_feeds 27 = .ok (.aload 4, 2) := by decide +kernel
theorem dL_feeds_29 : decode cL_feeds 29 = .ok (.iload 5, 2) := by decide +kernel
theorem dL_feeds_31 : decode cL_feeds 31 = .ok (.iconst 4, 1) := by decide +kernel
theorem dL_feeds_32 : decode cL_feeds 32 = .ok (.idiv, 1) := by decide +kernel
theorem dL_feeds_33 : decode cL_feeds 33 = .ok (.aload 4, 2) := by decide +kernel
theorem dL_feeds_35 : decode cL_feeds 35 = .ok (.iload 5, 2) := by decide +kernel
theorem dL_feeds_37 : decode cL_feeds 37 = .ok (.iconst 4, 1) := by decide +kernel
theorem dL_feeds_38 : decode cL_feeds 38 = .ok (.idiv, 1) := by decide +kernel
theorem dL_feeds_39 : decode cL_feeds 39 = .ok (.iaload, 1) := by decide +kernel
theorem dL_feeds_40 : decode cL_feeds 40 = .ok (.bipush 8, 2) := by decide +kernel
theorem dL_feeds_42 : decode cL_feeds 42 = .ok (.ishl, 1) := by decide +kernel
theorem dL_feeds_43 : decode cL_feeds 43 = .ok (.iload_n 3, 1) := by decide +kernel
theorem dL_feeds_44 : decode cL_feeds 44 = .ok (.iload 5, 2) := by decide +kernel
theorem dL_feeds_46 : decode cL_feeds 46 = .ok (.iadd, 1) := by decide +kernel
theorem dL_feeds_47 : decode cL_feeds 47 = .ok (.aload_n 1, 1) := by decide +kernel
theorem dL_feeds_48 : decode cL_feeds 48 = .ok (.invokevirtual 7, 3) := by decide +kernel
theorem dL_feeds_51 : decode cL_feeds 51 = .ok (.if_icmp .ge 14, 3) := by decide +kernel
theorem dL_feeds_54 : decode cL_feeds 54 = .ok (.aload_n 1, 1) := by decide +kernel
theorem dL_feeds_55 : decode cL_feeds 55 = .ok (.iload_n 3, 1) := by decide +kernel
theorem dL_feeds_56 : decode cL_feeds 56 = .ok (.iload 5, 2) := by decide +kernel
theorem dL_feeds_58 : decode cL_feeds 58 = .ok (.iadd, 1) := by decide +kernel
theorem dL_feeds_59 : decode cL_feeds 59 = .ok (.invokevirtual 13, 3) := by decide +kernel
theorem dL_feeds_62 : decode cL_feeds 62 = .ok (.goto 5, 3) := by decide +kernel
theorem dL_feeds_65 : decode cL_feeds 65 = .ok (.bipush 32, 2) := by decide +kernel
theorem dL_feeds_67 : decode cL_feeds 67 = .ok (.ior, 1) := by decide +kernel
theorem dL_feeds_68 : decode cL_feeds 68 = .ok (.iastore, 1) := by decide +kernel
theorem dL_feeds_69 : decode cL_feeds 69 = .ok (.iinc 5 1, 3) := by decide +kernel
theorem dL_feeds_72 : decode cL_feeds 72 = .ok (.goto (-52), 3) := by decide +kernel
theorem dL_feeds_75 : decode cL_feeds 75 = .ok (.iinc 2 20, 3) := by decide +kernel
theorem dL_feeds_78 : decode cL_feeds 78 = .ok (.aload_n 0, 1) := by decide +kernel
theorem dL_feeds_79 : decode cL_feeds 79 = .ok (.aload 4, 2) := by decide +kernel
theorem dL_feeds_81 : decode cL_feeds 81 = .ok (.iconst 0, 1) := by decide +kernel
theorem dL_feeds_82 : decode cL_feeds 82 = .ok (.iaload, 1) := by decide +kernel
theorem dL_feeds_83 : decode cL_feeds 83 = .ok (.aload 4, 2) := by decide +kernel
theorem dL_feeds_85 : decode cL_feeds 85 = .ok (.iconst 1, 1) := by decide +kernel
theorem dL_feeds_86 : decode cL_feeds 86 = .ok (.iaload, 1) := by decide +kernel
theorem dL_feeds_87 : decode cL_feeds 87 = .ok (.aload 4, 2) := by decide +kernel
theorem dL_feeds_89 : decode cL_feeds 89 = .ok (.iconst 2, 1) := by decide +kernel
theorem dL_feeds_90 : decode cL_feeds 90 = .ok (.iaload, 1) := by decide +kernel
theorem dL_feeds_91 : decode cL_feeds 91 = .ok (.aload 4, 2) := by decide +kernel
theorem dL_feeds_93 : decode cL_feeds 93 = .ok (.iconst 3, 1) := by decide +kernel
theorem dL_feeds_94 : decode cL_feeds 94 = .ok (.iaload, 1) := by decide +kernel
theorem dL_feeds_95 : decode cL_feeds 95 = .ok (.aload 4, 2) := by decide +kernel
theorem dL_feeds_97 : decode cL_feeds 97 = .ok (.iconst 4, 1) := by decide +kernel
theorem dL_feeds_98 : decode cL_feeds 98 = .ok (.iaload, 1) := by decide +kernel
theorem dL_feeds_99 : decode cL_feeds 99 = .ok (.invokevirtual 17, 3) := by decide +kernel
theorem dL_feeds_102 : decode cL_feeds 102 = .ok (.iload_n 2, 1) := by decide +kernel
theorem dL_feeds_103 : decode cL_feeds 103 = .ok (.if_icmp .eq 5, 3) := by decide +kernel
theorem dL_feeds_106 : decode cL_feeds 106 = .ok (.iconst 0, 1) := by decide +kernel
theorem dL_feeds_107 : decode cL_feeds 107 = .ok (.ireturn, 1) := by decide +kernel
theorem dL_feeds_108 : decode cL_feeds 108 = .ok (.iinc 3 20, 3) := by decide +kernel
theorem dL_feeds_111 : decode cL_feeds 111 = .ok (.goto (-107), 3) := by decide +kernel
theorem dL_feeds_114 : decode cL_feeds 114 = .ok (.iconst 1, 1) := by decide +kernel
theorem dL_feeds_115 : decode cL_feeds 115 = .ok (.ireturn, 1) := by decide +kernel
theorem dL_draw_0 : decode cL_draw 0 = .ok (.aload_n 0, 1) := by decide +kernel
theorem dL_draw_1 : decode cL_draw 1 = .ok (.iconst 0, 1) := by decide +kernel
theorem dL_draw_2 : decode cL_draw 2 = .ok (.aload_n 0, 1) := by decide +kernel
theorem dL_draw_3 : decode cL_draw 3 = .ok (.iconst 0, 1) := by decide +kernel
theorem dL_draw_4 : decode cL_draw 4 = .ok (.iaload, 1) := by decide +kernel
theorem dL_draw_5 : decode cL_draw 5 = .ok (.ldc 23, 2) := by decide +kernel
theorem dL_draw_7 : decode cL_draw 7 = .ok (.imul, 1) := by decide +kernel
theorem dL_draw_8 : decode cL_draw 8 = .ok (.ldc 24, 2) := by decide +kernel
theorem dL_draw_10 : decode cL_draw 10 = .ok (.iadd, 1) := by decide +kernel
theorem dL_draw_11 : decode cL_draw 11 = .ok (.iastore, 1) := by decide +kernel
theorem dL_draw_12 : decode cL_draw 12 = .ok (.aload_n 0, 1) := by decide +kernel
theorem dL_draw_13 : decode cL_draw 13 = .ok (.iconst 0, 1) := by decide +kernel
theorem dL_draw_14 : decode cL_draw 14 = .ok (.iaload, 1) := by decide +kernel
theorem dL_draw_15 : decode cL_draw 15 = .ok (.bipush 8, 2) := by decide +kernel
theorem dL_draw_17 : decode cL_draw 17 = .ok (.iushr, 1) := by decide +kernel
theorem dL_draw_18 : decode cL_draw 18 = .ok (.iload_n 1, 1) := by decide +kernel
theorem dL_draw_19 : decode cL_draw 19 = .ok (.irem, 1) := by decide +kernel
theorem dL_draw_20 : decode cL_draw 20 = .ok (.ireturn, 1) := by decide +kernel
theorem dL_law_0 : decode cL_law 0 = .ok (.new 18, 3) := by decide +kernel
theorem dL_law_3 : decode cL_law 3 = .ok (.dup, 1) := by decide +kernel
theorem dL_law_4 : decode cL_law 4 = .ok (.invokespecial 25, 3) := by decide +kernel
theorem dL_law_7 : decode cL_law 7 = .ok (.astore_n 1, 1) := by decide +kernel
theorem dL_law_8 : decode cL_law 8 = .ok (.aload_n 0, 1) := by decide +kernel
theorem dL_law_9 : decode cL_law 9 = .ok (.arraylength, 1) := by decide +kernel
theorem dL_law_10 : decode cL_law 10 = .ok (.istore_n 2, 1) := by decide +kernel
theorem dL_law_11 : decode cL_law 11 = .ok (.iconst 0, 1) := by decide +kernel
theorem dL_law_12 : decode cL_law 12 = .ok (.istore_n 3, 1) := by decide +kernel
theorem dL_law_13 : decode cL_law 13 = .ok (.iload_n 3, 1) := by decide +kernel
theorem dL_law_14 : decode cL_law 14 = .ok (.iload_n 2, 1) := by decide +kernel
theorem dL_law_15 : decode cL_law 15 = .ok (.if_icmp .ge 32, 3) := by decide +kernel
theorem dL_law_18 : decode cL_law 18 = .ok (.iload_n 3, 1) := by decide +kernel
theorem dL_law_19 : decode cL_law 19 = .ok (.iconst 5, 1) := by decide +kernel
theorem dL_law_20 : decode cL_law 20 = .ok (.if_icmp .ge 27, 3) := by decide +kernel
theorem dL_law_23 : decode cL_law 23 = .ok (.aload_n 1, 1) := by decide +kernel
theorem dL_law_24 : decode cL_law 24 = .ok (.iconst 1, 1) := by decide +kernel
theorem dL_law_25 : decode cL_law 25 = .ok (.newarray .int, 2) := by decide +kernel
theorem dL_law_27 : decode cL_law 27 = .ok (.dup, 1) := by decide +kernel
theorem dL_law_28 : decode cL_law 28 = .ok (.iconst 0, 1) := by decide +kernel
theorem dL_law_29 : decode cL_law 29 = .ok (.aload_n 0, 1) := by decide +kernel
theorem dL_law_30 : decode cL_law 30 = .ok (.iload_n 3, 1) := by decide +kernel
theorem dL_law_31 : decode cL_law 31 = .ok (.iaload, 1) := by decide +kernel
theorem dL_law_32 : decode cL_law 32 = .ok (.iastore, 1) := by decide +kernel
theorem dL_law_33 : decode cL_law 33 = .ok (.invokestatic 26, 3) := by decide +kernel
theorem dL_law_36 : decode cL_law 36 = .ok (.ifCond .ne 5, 3) := by decide +kernel
theorem dL_law_39 : decode cL_law 39 = .ok (.iconst 0, 1) := by decide +kernel
theorem dL_law_40 : decode cL_law 40 = .ok (.ireturn, 1) := by decide +kernel
theorem dL_law_41 : decode cL_law 41 = .ok (.iinc 3 1, 3) := by decide +kernel
theorem dL_law_44 : decode cL_law 44 = .ok (.goto (-31), 3) := by decide +kernel
theorem dL_law_47 : decode cL_law 47 = .ok (.iconst 1, 1) := by decide +kernel
theorem dL_law_48 : decode cL_law 48 = .ok (.ireturn, 1) := by decide +kernel
theorem dL_web_0 : decode cL_web 0 = .ok (.new 32, 3) := by decide +kernel
theorem dL_web_3 : decode cL_web 3 = .ok (.dup, 1) := by decide +kernel
theorem dL_web_4 : decode cL_web 4 = .ok (.invokespecial 34, 3) := by decide +kernel
theorem dL_web_7 : decode cL_web 7 = .ok (.astore_n 2, 1) := by decide +kernel
theorem dL_web_8 : decode cL_web 8 = .ok (.aload_n 2, 1) := by decide +kernel
theorem dL_web_9 : decode cL_web 9 = .ok (.iconst 2, 1) := by decide +kernel
theorem dL_web_10 : decode cL_web 10 = .ok (.aload_n 1, 1) := by decide +kernel
theorem dL_web_11 : decode cL_web 11 = .ok (.bipush 6, 2) := by decide +kernel
theorem dL_web_13 : decode cL_web 13 = .ok (.invokestatic 35, 3) := by decide +kernel
theorem dL_web_16 : decode cL_web 16 = .ok (.iadd, 1) := by decide +kernel
theorem dL_web_17 : decode cL_web 17 = .ok (.putfield 39, 3) := by decide +kernel
theorem dL_web_20 : decode cL_web 20 = .ok (.aload_n 0, 1) := by decide +kernel
theorem dL_web_21 : decode cL_web 21 = .ok (.ldc 43, 2) := by decide +kernel
theorem dL_web_23 : decode cL_web 23 = .ok (.invokevirtual 45, 3) := by decide +kernel
theorem dL_web_26 : decode cL_web 26 = .ok (.aload_n 2, 1) := by decide +kernel
theorem dL_web_27 : decode cL_web 27 = .ok (.getfield 39, 3) := by decide +kernel
theorem dL_web_30 : decode cL_web 30 = .ok (.invokevirtual 50, 3) := by decide +kernel
theorem dL_web_33 : decode cL_web 33 = .ok (.bipush 59, 2) := by decide +kernel
theorem dL_web_35 : decode cL_web 35 = .ok (.invokevirtual 53, 3) := by decide +kernel
theorem dL_web_38 : decode cL_web 38 = .ok (.pop, 1) := by decide +kernel
theorem dL_web_39 : decode cL_web 39 = .ok (.aload_n 2, 1) := by decide +kernel
theorem dL_web_40 : decode cL_web 40 = .ok (.aload_n 1, 1) := by decide +kernel
theorem dL_web_41 : decode cL_web 41 = .ok (.bipush 9, 2) := by decide +kernel
theorem dL_web_43 : decode cL_web 43 = .ok (.invokestatic 35, 3) := by decide +kernel
theorem dL_web_46 : decode cL_web 46 = .ok (.putfield 56, 3) := by decide +kernel
theorem dL_web_49 : decode cL_web 49 = .ok (.iconst 0, 1) := by decide +kernel
theorem dL_web_50 : decode cL_web 50 = .ok (.istore_n 3, 1) := by decide +kernel
theorem dL_web_51 : decode cL_web 51 = .ok (.iload_n 3, 1) := by decide +kernel
theorem dL_web_52 : decode cL_web 52 = .ok (.aload_n 2, 1) := by decide +kernel
theorem dL_web_53 : decode cL_web 53 = .ok (.getfield 56, 3) := by decide +kernel
theorem dL_web_56 : decode cL_web 56 = .ok (.if_icmp .ge 154, 3) := by decide +kernel
theorem dL_web_59 : decode cL_web 59 = .ok (.new 59, 3) := by decide +kernel
theorem dL_web_62 : decode cL_web 62 = .ok (.dup, 1) := by decide +kernel
theorem dL_web_63 : decode cL_web 63 = .ok (.invokespecial 61, 3) := by decide +kernel
theorem dL_web_66 : decode cL_web 66 = .ok (.astore 4, 2) := by decide +kernel
theorem dL_web_68 : decode cL_web 68 = .ok (.aload 4, 2) := by decide +kernel
theorem dL_web_70 : decode cL_web 70 = .ok (.aload_n 1, 1) := by decide +kernel
theorem dL_web_71 : decode cL_web 71 = .ok (.aload_n 2, 1) := by decide +kernel
theorem dL_web_72 : decode cL_web 72 = .ok (.getfield 39, 3) := by decide +kernel
theorem dL_web_75 : decode cL_web 75 = .ok (.invokestatic 35, 3) := by decide +kernel
theorem dL_web_78 : decode cL_web 78 = .ok (.putfield 62, 3) := by decide +kernel
theorem dL_web_81 : decode cL_web 81 = .ok (.aload 4, 2) := by decide +kernel
theorem dL_web_83 : decode cL_web 83 = .ok (.aload 4, 2) := by decide +kernel
theorem dL_web_85 : decode cL_web 85 = .ok (.getfield 62, 3) := by decide +kernel
theorem dL_web_88 : decode cL_web 88 = .ok (.iconst 1, 1) := by decide +kernel
theorem dL_web_89 : decode cL_web 89 = .ok (.iadd, 1) := by decide +kernel
theorem dL_web_90 : decode cL_web 90 = .ok (.aload_n 1, 1) := by decide +kernel
theorem dL_web_91 : decode cL_web 91 = .ok (.aload_n 2, 1) := by decide +kernel
theorem dL_web_92 : decode cL_web 92 = .ok (.getfield 39, 3) := by decide +kernel
theorem dL_web_95 : decode cL_web 95 = .ok (.iconst 1, 1) := by decide +kernel
theorem dL_web_96 : decode cL_web 96 = .ok (.isub, 1) := by decide +kernel
theorem dL_web_97 : decode cL_web 97 = .ok (.invokestatic 35, 3) := by decide +kernel
theorem dL_web_100 : decode cL_web 100 = .ok (.iadd, 1) := by decide +kernel
theorem dL_web_101 : decode cL_web 101 = .ok (.aload_n 2, 1) := by decide +kernel
theorem dL_web_102 : decode cL_web 102 = .ok (.getfield 39, 3) := by decide +kernel
theorem dL_web_105 : decode cL_web 105 = .ok (.irem, 1) := by decide +kernel
theorem dL_web_106 : decode cL_web 106 = .ok (.putfield 65, 3) := by decide +kernel
theorem dL_web_109 : decode cL_web 109 = .ok (.aload 4, 2) := by decide +kernel
theorem dL_web_111 : decode cL_web 111 = .ok (.aload_n 1, 1) := by decide +kernel
theorem dL_web_112 : decode cL_web 112 = .ok (.iconst 3, 1) := by decide +kernel
theorem dL_web_113 : decode cL_web 113 = .ok (.invokestatic 35, 3) := by decide +kernel
theorem dL_web_116 : decode cL_web 116 = .ok (.ifCond .ne 7, 3) := by decide +kernel
theorem dL_web_119 : decode cL_web 119 = .ok (.iconst 1, 1) := by decide +kernel
theorem dL_web_120 : decode cL_web 120 = .ok (.goto 4, 3) := by decide +kernel
theorem dL_web_123 : decode cL_web 123 = .ok (.iconst 0, 1) := by decide +kernel
theorem dL_web_124 : decode cL_web 124 = .ok (.putfield 68, 3) := by decide +kernel
theorem dL_web_127 : decode cL_web 127 = .ok (.aload 4, 2) := by decide +kernel
theorem dL_web_129 : decode cL_web 129 = .ok (.aload_n 1, 1) := by decide +kernel
theorem dL_web_130 : decode cL_web 130 = .ok (.iconst 5, 1) := by decide +kernel
theorem dL_web_131 : decode cL_web 131 = .ok (.invokestatic 35, 3) := by decide +kernel
theorem dL_web_134 : decode cL_web 134 = .ok (.putfield 72, 3) := by decide +kernel
theorem dL_web_137 : decode cL_web 137 = .ok (.aload_n 2, 1) := by decide +kernel
theorem dL_web_138 : decode cL_web 138 = .ok (.getfield 75, 3) := by decide +kernel
theorem dL_web_141 : decode cL_web 141 = .ok (.iload_n 3, 1) := by decide +kernel
theorem dL_web_142 : decode cL_web 142 = .ok (.aload 4, 2) := by decide +kernel
theorem dL_web_144 : decode cL_web 144 = .ok (.aastore, 1) := by decide +kernel
theorem dL_web_145 : decode cL_web 145 = .ok (.aload_n 0, 1) := by decide +kernel
theorem dL_web_146 : decode cL_web 146 = .ok (.ldc 79, 2) := by decide +kernel
theorem dL_web_148 : decode cL_web 148 = .ok (.invokevirtual 45, 3) := by decide +kernel
theorem dL_web_151 : decode cL_web 151 = .ok (.aload 4, 2) := by decide +kernel
theorem dL_web_153 : decode cL_web 153 = .ok (.getfield 62, 3) := by decide +kernel
theorem dL_web_156 : decode cL_web 156 = .ok (.invokevirtual 50, 3) := by decide +kernel
theorem dL_web_159 : decode cL_web 159 = .ok (.bipush 32, 2) := by decide +kernel
theorem dL_web_161 : decode cL_web 161 = .ok (.invokevirtual 53, 3) := by decide +kernel
theorem dL_web_164 : decode cL_web 164 = .ok (.aload 4, 2) := by decide +kernel
theorem dL_web_166 : decode cL_web 166 = .ok (.getfield 65, 3) := by decide +kernel
theorem dL_web_169 : decode cL_web 169 = .ok (.invokevirtual 50, 3) := by decide +kernel
theorem dL_web_172 : decode cL_web 172 = .ok (.aload 4, 2) := by decide +kernel
theorem dL_web_174 : decode cL_web 174 = .ok (.getfield 68, 3) := by decide +kernel
theorem dL_web_177 : decode cL_web 177 = .ok (.ifCond .eq 8, 3) := by decide +kernel
theorem dL_web_180 : decode cL_web 180 = .ok (.ldc 81, 2) := by decide +kernel
theorem dL_web_182 : decode cL_web 182 = .ok (.goto 5, 3) := by decide +kernel
theorem dL_web_185 : decode cL_web 185 = .ok (.ldc 83, 2) := by decide +kernel
theorem dL_web_187 : decode cL_web 187 = .ok (.invokevirtual 45, 3) := by decide +kernel
theorem dL_web_190 : decode cL_web 190 = .ok (.aload 4, 2) := by decide +kernel
theorem dL_web_192 : decode cL_web 192 = .ok (.getfield 72, 3) := by decide +kernel
theorem dL_web_195 : decode cL_web 195 = .ok (.invokevirtual 50, 3) := by decide +kernel
theorem dL_web_198 : decode cL_web 198 = .ok (.bipush 59, 2) := by decide +kernel
theorem dL_web_200 : decode cL_web 200 = .ok (.invokevirtual 53, 3) := by decide +kernel
theorem dL_web_203 : decode cL_web 203 = .ok (.pop, 1) := by decide +kernel
theorem dL_web_204 : decode cL_web 204 = .ok (.iinc 3 1, 3) := by decide +kernel
theorem dL_web_207 : decode cL_web 207 = .ok (.goto (-156), 3) := by decide +kernel
theorem dL_web_210 : decode cL_web 210 = .ok (.aload_n 2, 1) := by decide +kernel
theorem dL_web_211 : decode cL_web 211 = .ok (.aload_n 2, 1) := by decide +kernel
theorem dL_web_212 : decode cL_web 212 = .ok (.getfield 56, 3) := by decide +kernel
theorem dL_web_215 : decode cL_web 215 = .ok (.ifCond .ne 7, 3) := by decide +kernel
theorem dL_web_218 : decode cL_web 218 = .ok (.iconst 0, 1) := by decide +kernel
theorem dL_web_219 : decode cL_web 219 = .ok (.goto 8, 3) := by decide +kernel
theorem dL_web_222 : decode cL_web 222 = .ok (.aload_n 1, 1) := by decide +kernel
theorem dL_web_223 : decode cL_web 223 = .ok (.iconst 4, 1) := by decide +kernel
theorem dL_web_224 : decode cL_web 224 = .ok (.invokestatic 35, 3) := by decide +kernel
theorem dL_web_227 : decode cL_web 227 = .ok (.anewarray 85, 3) := by decide +kernel
theorem dL_web_230 : decode cL_web 230 = .ok (.putfield 87, 3) := by decide +kernel
theorem dL_web_233 : decode cL_web 233 = .ok (.iconst 0, 1) := by decide +kernel
theorem dL_web_234 : decode cL_web 234 = .ok (.istore_n 3, 1) := by decide +kernel
theorem dL_web_235 : decode cL_web 235 = .ok (.iload_n 3, 1) := by decide +kernel
theorem dL_web_236 : decode cL_web 236 = .ok (.aload_n 2, 1) := by decide +kernel
theorem dL_web_237 : decode cL_web 237 = .ok (.getfield 87, 3) := by decide +kernel
theorem dL_web_240 : decode cL_web 240 = .ok (.arraylength, 1) := by decide +kernel
theorem dL_web_241 : decode cL_web 241 = .ok (.if_icmp .ge 104, 3) := by decide +kernel
theorem dL_web_244 : decode cL_web 244 = .ok (.iconst 1, 1) := by decide +kernel
theorem dL_web_245 : decode cL_web 245 = .ok (.aload_n 1, 1) := by decide +kernel
theorem dL_web_246 : decode cL_web 246 = .ok (.bipush 6, 2) := by decide +kernel
theorem dL_web_248 : decode cL_web 248 = .ok (.invokestatic 35, 3) := by decide +kernel
theorem dL_web_251 : decode cL_web 251 = .ok (.iadd, 1) := by decide +kernel
theorem dL_web_252 : decode cL_web 252 = .ok (.istore 4, 2) := by decide +kernel
theorem dL_web_254 : decode cL_web 254 = .ok (.aload_n 2, 1) := by decide +kernel
theorem dL_web_255 : decode cL_web 255 = .ok (.getfield 87, 3) := by decide +kernel
theorem dL_web_258 : decode cL_web 258 = .ok (.iload_n 3, 1) := by decide +kernel
theorem dL_web_259 : decode cL_web 259 = .ok (.iconst 3, 1) := by decide +kernel
theorem dL_web_260 : decode cL_web 260 = .ok (.newarray .int, 2) := by decide +kernel
theorem dL_web_262 : decode cL_web 262 = .ok (.dup, 1) := by decide +kernel
theorem dL_web_263 : decode cL_web 263 = .ok (.iconst 0, 1) := by decide +kernel
theorem dL_web_264 : decode cL_web 264 = .ok (.aload_n 1, 1) := by decide +kernel
theorem dL_web_265 : decode cL_web 265 = .ok (.aload_n 2, 1) := by decide +kernel
theorem dL_web_266 : decode cL_web 266 = .ok (.getfield 56, 3) := by decide +kernel
theorem dL_web_269 : decode cL_web 269 = .ok (.invokestatic 35, 3) := by decide +kernel
theorem dL_web_272 : decode cL_web 272 = .ok (.iastore, 1) := by decide +kernel
theorem dL_web_273 : decode cL_web 273 = .ok (.dup, 1) := by decide +kernel
theorem dL_web_274 : decode cL_web 274 = .ok (.iconst 1, 1) := by decide +kernel
theorem dL_web_275 : decode cL_web 275 = .ok (.iload 4, 2) := by decide +kernel
theorem dL_web_277 : decode cL_web 277 = .ok (.iastore, 1) := by decide +kernel
theorem dL_web_278 : decode cL_web 278 = .ok (.dup, 1) := by decide +kernel
theorem dL_web_279 : decode cL_web 279 = .ok (.iconst 2, 1) := by decide +kernel
theorem dL_web_280 : decode cL_web 280 = .ok (.iload 4, 2) := by decide +kernel
theorem dL_web_282 : decode cL_web 282 = .ok (.aload_n 1, 1) := by decide +kernel
theorem dL_web_283 : decode cL_web 283 = .ok (.iconst 4, 1) := by decide +kernel
theorem dL_web_284 : decode cL_web 284 = .ok (.invokestatic 35, 3) := by decide +kernel
theorem dL_web_287 : decode cL_web 287 = .ok (.iadd, 1) := by decide +kernel
theorem dL_web_288 : decode cL_web 288 = .ok (.iastore, 1) := by decide +kernel
theorem dL_web_289 : decode cL_web 289 = .ok (.aastore, 1) := by decide +kernel
theorem dL_web_290 : decode cL_web 290 = .ok (.aload_n 0, 1) := by decide +kernel
theorem dL_web_291 : decode cL_web 291 = .ok (.ldc 91, 2) := by decide +kernel
theorem dL_web_293 : decode cL_web 293 = .ok (.invokevirtual 45, 3) := by decide +kernel
theorem dL_web_296 : decode cL_web 296 = .ok (.aload_n 2, 1) := by decide +kernel
theorem dL_web_297 : decode cL_web 297 = .ok (.getfield 87, 3) := by decide +kernel
theorem dL_web_300 : decode cL_web 300 = .ok (.iload_n 3, 1) := by decide +kernel
theorem dL_web_301 : decode cL_web 301 = .ok (.aaload, 1) := by decide +kernel
theorem dL_web_302 : decode cL_web 302 = .ok (.iconst 0, 1) := by decide +kernel
theorem dL_web_303 : decode cL_web 303 = .ok (.iaload, 1) := by decide +kernel
theorem dL_web_304 : decode cL_web 304 = .ok (.invokevirtual 50, 3) := by decide +kernel
theorem dL_web_307 : decode cL_web 307 = .ok (.bipush 32, 2) := by decide +kernel
theorem dL_web_309 : decode cL_web 309 = .ok (.invokevirtual 53, 3) := by decide +kernel
theorem dL_web_312 : decode cL_web 312 = .ok (.iload 4, 2) := by decide +kernel
theorem dL_web_314 : decode cL_web 314 = .ok (.invokevirtual 50, 3) := by decide +kernel
theorem dL_web_317 : decode cL_web 317 = .ok (.bipush 32, 2) := by decide +kernel
theorem dL_web_319 : decode cL_web 319 = .ok (.invokevirtual 53, 3) := by decide +kernel
theorem dL_web_322 : decode cL_web 322 = .ok (.aload_n 2, 1) := by decide +kernel
theorem dL_web_323 : decode cL_web 323 = .ok (.getfield 87, 3) := by decide +kernel
theorem dL_web_326 : decode cL_web 326 = .ok (.iload_n 3, 1) := by decide +kernel
theorem dL_web_327 : decode cL_web 327 = .ok (.aaload, 1) := by decide +kernel
theorem dL_web_328 : decode cL_web 328 = .ok (.iconst 2, 1) := by decide +kernel
theorem dL_web_329 : decode cL_web 329 = .ok (.iaload, 1) := by decide +kernel
theorem dL_web_330 : decode cL_web 330 = .ok (.invokevirtual 50, 3) := by decide +kernel
theorem dL_web_333 : decode cL_web 333 = .ok (.bipush 59, 2) := by decide +kernel
theorem dL_web_335 : decode cL_web 335 = .ok (.invokevirtual 53, 3) := by decide +kernel
theorem dL_web_338 : decode cL_web 338 = .ok (.pop, 1) := by decide +kernel
theorem dL_web_339 : decode cL_web 339 = .ok (.iinc 3 1, 3) := by decide +kernel
theorem dL_web_342 : decode cL_web 342 = .ok (.goto (-107), 3) := by decide +kernel
theorem dL_web_345 : decode cL_web 345 = .ok (.aload_n 2, 1) := by decide +kernel
theorem dL_web_346 : decode cL_web 346 = .ok (.aload_n 1, 1) := by decide +kernel
theorem dL_web_347 : decode cL_web 347 = .ok (.iconst 3, 1) := by decide +kernel
theorem dL_web_348 : decode cL_web 348 = .ok (.invokestatic 35, 3) := by decide +kernel
theorem dL_web_351 : decode cL_web 351 = .ok (.anewarray 85, 3) := by decide +kernel
theorem dL_web_354 : decode cL_web 354 = .ok (.putfield 93, 3) := by decide +kernel
theorem dL_web_357 : decode cL_web 357 = .ok (.iconst 0, 1) := by decide +kernel
theorem dL_web_358 : decode cL_web 358 = .ok (.istore_n 3, 1) := by decide +kernel
theorem dL_web_359 : decode cL_web 359 = .ok (.iload_n 3, 1) := by decide +kernel
theorem dL_web_360 : decode cL_web 360 = .ok (.aload_n 2, 1) := by decide +kernel
theorem dL_web_361 : decode cL_web 361 = .ok (.getfield 93, 3) := by decide +kernel
theorem dL_web_364 : decode cL_web 364 = .ok (.arraylength, 1) := by decide +kernel
theorem dL_web_365 : decode cL_web 365 = .ok (.if_icmp .ge 104, 3) := by decide +kernel
theorem dL_web_368 : decode cL_web 368 = .ok (.iconst 1, 1) := by decide +kernel
theorem dL_web_369 : decode cL_web 369 = .ok (.aload_n 1, 1) := by decide +kernel
theorem dL_web_370 : decode cL_web 370 = .ok (.bipush 6, 2) := by decide +kernel
theorem dL_web_372 : decode cL_web 372 = .ok (.invokestatic 35, 3) := by decide +kernel
theorem dL_web_375 : decode cL_web 375 = .ok (.iadd, 1) := by decide +kernel
theorem dL_web_376 : decode cL_web 376 = .ok (.istore 4, 2) := by decide +kernel
theorem dL_web_378 : decode cL_web 378 = .ok (.aload_n 2, 1) := by decide +kernel
theorem dL_web_379 : decode cL_web 379 = .ok (.getfield 93, 3) := by decide +kernel
theorem dL_web_382 : decode cL_web 382 = .ok (.iload_n 3, 1) := by decide +kernel
theorem dL_web_383 : decode cL_web 383 = .ok (.iconst 3, 1) := by decide +kernel
theorem dL_web_384 : decode cL_web 384 = .ok (.newarray .int, 2) := by decide +kernel
theorem dL_web_386 : decode cL_web 386 = .ok (.dup, 1) := by decide +kernel
theorem dL_web_387 : decode cL_web 387 = .ok (.iconst 0, 1) := by decide +kernel
theorem dL_web_388 : decode cL_web 388 = .ok (.aload_n 1, 1) := by decide +kernel
theorem dL_web_389 : decode cL_web 389 = .ok (.aload_n 2, 1) := by decide +kernel
theorem dL_web_390 : decode cL_web 390 = .ok (.getfield 39, 3) := by decide +kernel
theorem dL_web_393 : decode cL_web 393 = .ok (.invokestatic 35, 3) := by decide +kernel
theorem dL_web_396 : decode cL_web 396 = .ok (.iastore, 1) := by decide +kernel
theorem dL_web_397 : decode cL_web 397 = .ok (.dup, 1) := by decide +kernel
theorem dL_web_398 : decode cL_web 398 = .ok (.iconst 1, 1) := by decide +kernel
theorem dL_web_399 : decode cL_web 399 = .ok (.iload 4, 2) := by decide +kernel
theorem dL_web_401 : decode cL_web 401 = .ok (.iastore, 1) := by decide +kernel
theorem dL_web_402 : decode cL_web 402 = .ok (.dup, 1) := by decide +kernel
theorem dL_web_403 : decode cL_web 403 = .ok (.iconst 2, 1) := by decide +kernel
theorem dL_web_404 : decode cL_web 404 = .ok (.iload 4, 2) := by decide +kernel
theorem dL_web_406 : decode cL_web 406 = .ok (.aload_n 1, 1) := by decide +kernel
theorem dL_web_407 : decode cL_web 407 = .ok (.iconst 4, 1) := by decide +kernel
theorem dL_web_408 : decode cL_web 408 = .ok (.invokestatic 35, 3) := by decide +kernel
theorem dL_web_411 : decode cL_web 411 = .ok (.iadd, 1) := by decide +kernel
theorem dL_web_412 : decode cL_web 412 = .ok (.iastore, 1) := by decide +kernel
theorem dL_web_413 : decode cL_web 413 = .ok (.aastore, 1) := by decide +kernel
theorem dL_web_414 : decode cL_web 414 = .ok (.aload_n 0, 1) := by decide +kernel
theorem dL_web_415 : decode cL_web 415 = .ok (.ldc 96, 2) := by decide +kernel
theorem dL_web_417 : decode cL_web 417 = .ok (.invokevirtual 45, 3) := by decide +kernel
theorem dL_web_420 : decode cL_web 420 = .ok (.aload_n 2, 1) := by decide +kernel
theorem dL_web_421 : decode cL_web 421 = .ok (.getfield 93, 3) := by decide +kernel
theorem dL_web_424 : decode cL_web 424 = .ok (.iload_n 3, 1) := by decide +kernel
theorem dL_web_425 : decode cL_web 425 = .ok (.aaload, 1) := by decide +kernel
theorem dL_web_426 : decode cL_web 426 = .ok (.iconst 0, 1) := by decide +kernel
theorem dL_web_427 : decode cL_web 427 = .ok (.iaload, 1) := by decide +kernel
theorem dL_web_428 : decode cL_web 428 = .ok (.invokevirtual 50, 3) := by decide +kernel
theorem dL_web_431 : decode cL_web 431 = .ok (.bipush 32, 2) := by decide +kernel
theorem dL_web_433 : decode cL_web 433 = .ok (.invokevirtual 53, 3) := by decide +kernel
theorem dL_web_436 : decode cL_web 436 = .ok (.iload 4, 2) := by decide +kernel
theorem dL_web_438 : decode cL_web 438 = .ok (.invokevirtual 50, 3) := by decide +kernel
theorem dL_web_441 : decode cL_web 441 = .ok (.bipush 32, 2) := by decide +kernel
theorem dL_web_443 : decode cL_web 443 = .ok (.invokevirtual 53, 3) := by decide +kernel
theorem dL_web_446 : decode cL_web 446 = .ok (.aload_n 2, 1) := by decide +kernel
theorem dL_web_447 : decode cL_web 447 = .ok (.getfield 93, 3) := by decide +kernel
theorem dL_web_450 : decode cL_web 450 = .ok (.iload_n 3, 1) := by decide +kernel
theorem dL_web_451 : decode cL_web 451 = .ok (.aaload, 1) := by decide +kernel
theorem dL_web_452 : decode cL_web 452 = .ok (.iconst 2, 1) := by decide +kernel
theorem dL_web_453 : decode cL_web 453 = .ok (.iaload, 1) := by decide +kernel
theorem dL_web_454 : decode cL_web 454 = .ok (.invokevirtual 50, 3) := by decide +kernel
theorem dL_web_457 : decode cL_web 457 = .ok (.bipush 59, 2) := by decide +kernel
theorem dL_web_459 : decode cL_web 459 = .ok (.invokevirtual 53, 3) := by decide +kernel
theorem dL_web_462 : decode cL_web 462 = .ok (.pop, 1) := by decide +kernel
theorem dL_web_463 : decode cL_web 463 = .ok (.iinc 3 1, 3) := by decide +kernel
theorem dL_web_466 : decode cL_web 466 = .ok (.goto (-107), 3) := by decide +kernel
theorem dL_web_469 : decode cL_web 469 = .ok (.aload_n 2, 1) := by decide +kernel
theorem dL_web_470 : decode cL_web 470 = .ok (.aload_n 2, 1) := by decide +kernel
theorem dL_web_471 : decode cL_web 471 = .ok (.getfield 39, 3) := by decide +kernel
theorem dL_web_474 : decode cL_web 474 = .ok (.newarray .int, 2) := by decide +kernel
theorem dL_web_476 : decode cL_web 476 = .ok (.putfield 98, 3) := by decide +kernel
theorem dL_web_479 : decode cL_web 479 = .ok (.iconst 0, 1) := by decide +kernel
theorem dL_web_480 : decode cL_web 480 = .ok (.istore_n 3, 1) := by decide +kernel
theorem dL_web_481 : decode cL_web 481 = .ok (.iload_n 3, 1) := by decide +kernel
theorem dL_web_482 : decode cL_web 482 = .ok (.aload_n 2, 1) := by decide +kernel
theorem dL_web_483 : decode cL_web 483 = .ok (.getfield 39, 3) := by decide +kernel
theorem dL_web_486 : decode cL_web 486 = .ok (.if_icmp .ge 18, 3) := by decide +kernel
theorem dL_web_489 : decode cL_web 489 = .ok (.aload_n 2, 1) := by decide +kernel
theorem dL_web_490 : decode cL_web 490 = .ok (.getfield 98, 3) := by decide +kernel
theorem dL_web_493 : decode cL_web 493 = .ok (.iload_n 3, 1) := by decide +kernel
theorem dL_web_494 : decode cL_web 494 = .ok (.iconst 1, 1) := by decide +kernel
theorem dL_web_495 : decode cL_web 495 = .ok (.iload_n 3, 1) := by decide +kernel
theorem dL_web_496 : decode cL_web 496 = .ok (.ishl, 1) := by decide +kernel
theorem dL_web_497 : decode cL_web 497 = .ok (.iastore, 1) := by decide +kernel
theorem dL_web_498 : decode cL_web 498 = .ok (.iinc 3 1, 3) := by decide +kernel
theorem dL_web_501 : decode cL_web 501 = .ok (.goto (-20), 3) := by decide +kernel
theorem dL_web_504 : decode cL_web 504 = .ok (.aload_n 2, 1) := by decide +kernel
theorem dL_web_505 : decode cL_web 505 = .ok (.areturn, 1) := by decide +kernel
theorem dL_plays_0 : decode cL_plays 0 = .ok (.new 46, 3) := by decide +kernel
theorem dL_plays_3 : decode cL_plays 3 = .ok (.dup, 1) := by decide +kernel
theorem dL_plays_4 : decode cL_plays 4 = .ok (.invokespecial 101, 3) := by decide +kernel
theorem dL_plays_7 : decode cL_plays 7 = .ok (.astore_n 2, 1) := by decide +kernel
theorem dL_plays_8 : decode cL_plays 8 = .ok (.aload_n 2, 1) := by decide +kernel
theorem dL_plays_9 : decode cL_plays 9 = .ok (.aload_n 1, 1) := by decide +kernel
theorem dL_plays_10 : decode cL_plays 10 = .ok (.invokestatic 102, 3) := by decide +kernel
theorem dL_plays_13 : decode cL_plays 13 = .ok (.astore_n 3, 1) := by decide +kernel
theorem dL_plays_14 : decode cL_plays 14 = .ok (.aload_n 0, 1) := by decide +kernel
theorem dL_plays_15 : decode cL_plays 15 = .ok (.aload_n 2, 1) := by decide +kernel
theorem dL_plays_16 : decode cL_plays 16 = .ok (.invokevirtual 106, 3) := by decide +kernel
theorem dL_plays_19 : decode cL_plays 19 = .ok (.invokestatic 110, 3) := by decide +kernel
theorem dL_plays_22 : decode cL_plays 22 = .ok (.ifCond .eq 38, 3) := by decide +kernel
theorem dL_plays_25 : decode cL_plays 25 = .ok (.aload_n 0, 1) := by decide +kernel
theorem dL_plays_26 : decode cL_plays 26 = .ok (.aload_n 2, 1) := by decide +kernel
theorem dL_plays_27 : decode cL_plays 27 = .ok (.invokevirtual 114, 3) := by decide +kernel
theorem dL_plays_30 : decode cL_plays 30 = .ok (.invokevirtual 115, 3) := by decide +kernel
theorem dL_plays_33 : decode cL_plays 33 = .ok (.ifCond .ne 27, 3) := by decide +kernel
theorem dL_plays_36 : decode cL_plays 36 = .ok (.aload_n 0, 1) := by decide +kernel
theorem dL_plays_37 : decode cL_plays 37 = .ok (.iconst 0, 1) := by decide +kernel
theorem dL_plays_38 : decode cL_plays 38 = .ok (.invokevirtual 119, 3) := by decide +kernel
theorem dL_plays_41 : decode cL_plays 41 = .ok (.aload_n 3, 1) := by decide +kernel
theorem dL_plays_42 : decode cL_plays 42 = .ok (.getfield 39, 3) := by decide +kernel
theorem dL_plays_45 : decode cL_plays 45 = .ok (.if_icmp .ne 15, 3) := by decide +kernel
theorem dL_plays_48 : decode cL_plays 48 = .ok (.aload_n 0, 1) := by decide +kernel
theorem dL_plays_49 : decode cL_plays 49 = .ok (.iconst 1, 1) := by decide +kernel
theorem dL_plays_50 : decode cL_plays 50 = .ok (.invokevirtual 119, 3) := by decide +kernel
theorem dL_plays_53 : decode cL_plays 53 = .ok (.aload_n 3, 1) := by decide +kernel
theorem dL_plays_54 : decode cL_plays 54 = .ok (.getfield 56, 3) := by decide +kernel
theorem dL_plays_57 : decode cL_plays 57 = .ok (.if_icmp .eq 5, 3) := by decide +kernel
theorem dL_plays_60 : decode cL_plays 60 = .ok (.iconst 0, 1) := by decide +kernel
theorem dL_plays_61 : decode cL_plays 61 = .ok (.ireturn, 1) := by decide +kernel
theorem dL_plays_62 : decode cL_plays 62 = .ok (.iconst 0, 1) := by decide +kernel
theorem dL_plays_63 : decode cL_plays 63 = .ok (.istore 4, 2) := by decide +kernel
theorem dL_plays_65 : decode cL_plays 65 = .ok (.iload 4, 2) := by decide +kernel
theorem dL_plays_67 : decode cL_plays 67 = .ok (.bipush 16, 2) := by decide +kernel
theorem dL_plays_69 : decode cL_plays 69 = .ok (.if_icmp .ge 29, 3) := by decide +kernel
theorem dL_plays_72 : decode cL_plays 72 = .ok (.aload_n 0, 1) := by decide +kernel
theorem dL_plays_73 : decode cL_plays 73 = .ok (.aload_n 3, 1) := by decide +kernel
theorem dL_plays_74 : decode cL_plays 74 = .ok (.aload_n 1, 1) := by decide +kernel
theorem dL_plays_75 : decode cL_plays 75 = .ok (.invokestatic 122, 3) := by decide +kernel
theorem dL_plays_78 : decode cL_plays 78 = .ok (.ifCond .eq 12, 3) := by decide +kernel
theorem dL_plays_81 : decode cL_plays 81 = .ok (.aload_n 0, 1) := by decide +kernel
theorem dL_plays_82 : decode cL_plays 82 = .ok (.aload_n 3, 1) := by decide +kernel
theorem dL_plays_83 : decode cL_plays 83 = .ok (.aload_n 1, 1) := by decide +kernel
theorem dL_plays_84 : decode cL_plays 84 = .ok (.invokestatic 126, 3) := by decide +kernel
theorem dL_plays_87 : decode cL_plays 87 = .ok (.ifCond .ne 5, 3) := by decide +kernel
theorem dL_plays_90 : decode cL_plays 90 = .ok (.iconst 0, 1) := by decide +kernel
theorem dL_plays_91 : decode cL_plays 91 = .ok (.ireturn, 1) := by decide +kernel
theorem dL_plays_92 : decode cL_plays 92 = .ok (.iinc 4 1, 3) := by decide +kernel
theorem dL_plays_95 : decode cL_plays 95 = .ok (.goto (-30), 3) := by decide +kernel
theorem dL_plays_98 : decode cL_plays 98 = .ok (.iconst 1, 1) := by decide +kernel
theorem dL_plays_99 : decode cL_plays 99 = .ok (.ireturn, 1) := by decide +kernel
theorem dL_acts_0 : decode cL_acts 0 = .ok (.aload_n 1, 1) := by decide +kernel
theorem dL_acts_1 : decode cL_acts 1 = .ok (.getfield 56, 3) := by decide +kernel
theorem dL_acts_4 : decode cL_acts 4 = .ok (.ifCond .ne 7, 3) := by decide +kernel
theorem dL_acts_7 : decode cL_acts 7 = .ok (.iconst (-1), 1) := by decide +kernel
theorem dL_acts_8 : decode cL_acts 8 = .ok (.goto 11, 3) := by decide +kernel
theorem dL_acts_11 : decode cL_acts 11 = .ok (.aload_n 2, 1) := by decide +kernel
theorem dL_acts_12 : decode cL_acts 12 = .ok (.aload_n 1, 1) := by decide +kernel
theorem dL_acts_13 : decode cL_acts 13 = .ok (.getfield 56, 3) := by decide +kernel
theorem dL_acts_16 : decode cL_acts 16 = .ok (.invokestatic 35, 3) := by decide +kernel
theorem dL_acts_19 : decode cL_acts 19 = .ok (.istore_n 3, 1) := by decide +kernel
theorem dL_acts_20 : decode cL_acts 20 = .ok (.aload_n 2, 1) := by decide +kernel
theorem dL_acts_21 : decode cL_acts 21 = .ok (.bipush 8, 2) := by decide +kernel
theorem dL_acts_23 : decode cL_acts 23 = .ok (.invokestatic 35, 3) := by decide +kernel
theorem dL_acts_26 : decode cL_acts 26 = .ok (.istore 4, 2) := by decide +kernel
theorem dL_acts_28 : decode cL_acts 28 = .ok (.iload_n 3, 1) := by decide +kernel
theorem dL_acts_29 : decode cL_acts 29 = .ok (.ifCond .lt 174, 3) := by decide +kernel
theorem dL_acts_32 : decode cL_acts 32 = .ok (.iload 4, 2) := by decide +kernel
theorem dL_acts_34 : decode cL_acts 34 = .ok (.iconst 2, 1) := by decide +kernel
theorem dL_acts_35 : decode cL_acts 35 = .ok (.if_icmp .ge 168, 3) := by decide +kernel
theorem dL_acts_38 : decode cL_acts 38 = .ok (.iconst 0, 1) := by decide +kernel
theorem dL_acts_39 : decode cL_acts 39 = .ok (.istore 5, 2) := by decide +kernel
theorem dL_acts_41 : decode cL_acts 41 = .ok (.iconst 0, 1) := by decide +kernel
theorem dL_acts_42 : decode cL_acts 42 = .ok (.istore 6, 2) := by decide +kernel
theorem dL_acts_44 : decode cL_acts 44 = .ok (.iload 6, 2) := by decide +kernel
theorem dL_acts_46 : decode cL_acts 46 = .ok (.aload_n 1, 1) := by decide +kernel
theorem dL_acts_47 : decode cL_acts 47 = .ok (.getfield 56, 3) := by decide +kernel
theorem dL_acts_50 : decode cL_acts 50 = .ok (.if_icmp .ge 52, 3) := by decide +kernel
theorem dL_acts_53 : decode cL_acts 53 = .ok (.aload_n 1, 1) := by decide +kernel
theorem dL_acts_54 : decode cL_acts 54 = .ok (.getfield 75, 3) := by decide +kernel
theorem dL_acts_57 : decode cL_acts 57 = .ok (.iload 6, 2) := by decide +kernel
theorem dL_acts_59 : decode cL_acts 59 = .ok (.aaload, 1) := by decide +kernel
theorem dL_acts_60 : decode cL_acts 60 = .ok (.getfield 129, 3) := by decide +kernel
theorem dL_acts_63 : decode cL_acts 63 = .ok (.ifCond .eq 33, 3) := by decide +kernel
theorem dL_acts_66 : decode cL_acts 66 = .ok (.iload 5, 2) := by decide +kernel
theorem dL_acts_68 : decode cL_acts 68 = .ok (.iconst 1, 1) := by decide +kernel
theorem dL_acts_69 : decode cL_acts 69 = .ok (.aload_n 1, 1) := by decide +kernel
theorem dL_acts_70 : decode cL_acts 70 = .ok (.getfield 75, 3) := by decide +kernel
theorem dL_acts_73 : decode cL_acts 73 = .ok (.iload 6, 2) := by decide +kernel
theorem dL_acts_75 : decode cL_acts 75 = .ok (.aaload, 1) := by decide +kernel
theorem dL_acts_76 : decode cL_acts 76 = .ok (.getfield 62, 3) := by decide +kernel
theorem dL_acts_79 : decode cL_acts 79 = .ok (.ishl, 1) := by decide +kernel
theorem dL_acts_80 : decode cL_acts 80 = .ok (.iconst 1, 1) := by decide +kernel
theorem dL_acts_81 : decode cL_acts 81 = .ok (.aload_n 1, 1) := by decide +kernel
theorem dL_acts_82 : decode cL_acts 82 = .ok (.getfield 75, 3) := by decide +kernel
theorem dL_acts_85 : decode cL_acts 85 = .ok (.iload 6, 2) := by decide +kernel
theorem dL_acts_87 : decode cL_acts 87 = .ok (.aaload, 1) := by decide +kernel
theorem dL_acts_88 : decode cL_acts 88 = .ok (.getfield 65, 3) := by decide +kernel
theorem dL_acts_91 : decode cL_acts 91 = .ok (.ishl, 1) := by decide +kernel
theorem dL_acts_92 : decode cL_acts 92 = .ok (.ior, 1) := by decide +kernel
theorem dL_acts_93 : decode cL_acts 93 = .ok (.ior, 1) := by decide +kernel
theorem dL_acts_94 : decode cL_acts 94 = .ok (.istore 5, 2) := by decide +kernel
theorem dL_acts_96 : decode cL_acts 96 = .ok (.iinc 6 1, 3) := by decide +kernel
theorem dL_acts_99 : decode cL_acts 99 = .ok (.goto (-55), 3) := by decide +kernel
theorem dL_acts_102 : decode cL_acts 102 = .ok (.aload_n 1, 1) := by decide +kernel
theorem dL_acts_103 : decode cL_acts 103 = .ok (.iload_n 3, 1) := by decide +kernel
theorem dL_acts_104 : decode cL_acts 104 = .ok (.aload_n 1, 1) := by decide +kernel
theorem dL_acts_105 : decode cL_acts 105 = .ok (.getfield 132, 3) := by decide +kernel
theorem dL_acts_108 : decode cL_acts 108 = .ok (.iconst 1, 1) := by decide +kernel
theorem dL_acts_109 : decode cL_acts 109 = .ok (.iadd, 1) := by decide +kernel
theorem dL_acts_110 : decode cL_acts 110 = .ok (.invokevirtual 135, 3) := by decide +kernel
theorem dL_acts_113 : decode cL_acts 113 = .ok (.ifCond .eq 36, 3) := by decide +kernel
theorem dL_acts_116 : decode cL_acts 116 = .ok (.iload 5, 2) := by decide +kernel
theorem dL_acts_118 : decode cL_acts 118 = .ok (.iconst 1, 1) := by decide +kernel
theorem dL_acts_119 : decode cL_acts 119 = .ok (.aload_n 1, 1) := by decide +kernel
theorem dL_acts_120 : decode cL_acts 120 = .ok (.getfield 75, 3) := by decide +kernel
theorem dL_acts_123 : decode cL_acts 123 = .ok (.iload_n 3, 1) := by decide +kernel
theorem dL_acts_124 : decode cL_acts 124 = .ok (.aaload, 1) := by decide +kernel
theorem dL_acts_125 : decode cL_acts 125 = .ok (.getfield 62, 3) := by decide +kernel
theorem dL_acts_128 : decode cL_acts 128 = .ok (.ishl, 1) := by decide +kernel
theorem dL_acts_129 : decode cL_acts 129 = .ok (.iconst 1, 1) := by decide +kernel
theorem dL_acts_130 : decode cL_acts 130 = .ok (.aload_n 1, 1) := by decide +kernel
theorem dL_acts_131 : decode cL_acts 131 = .ok (.getfield 75, 3) := by decide +kernel
theorem dL_acts_134 : decode cL_acts 134 = .ok (.iload_n 3, 1) := by decide +kernel
theorem dL_acts_135 : decode cL_acts 135 = .ok (.aaload, 1) := by decide +kernel
theorem dL_acts_136 : decode cL_acts 136 = .ok (.getfield 65, 3) := by decide +kernel
theorem dL_acts_139 : decode cL_acts 139 = .ok (.ishl, 1) := by decide +kernel
theorem dL_acts_140 : decode cL_acts 140 = .ok (.ior, 1) := by decide +kernel
theorem dL_acts_141 : decode cL_acts 141 = .ok (.iand, 1) := by decide +kernel
theorem dL_acts_142 : decode cL_acts 142 = .ok (.ifCond .ne 7, 3) := by decide +kernel
theorem dL_acts_145 : decode cL_acts 145 = .ok (.iconst 1, 1) := by decide +kernel
theorem dL_acts_146 : decode cL_acts 146 = .ok (.goto 4, 3) := by decide +kernel
theorem dL_acts_149 : decode cL_acts 149 = .ok (.iconst 0, 1) := by decide +kernel
theorem dL_acts_150 : decode cL_acts 150 = .ok (.istore 6, 2) := by decide +kernel
theorem dL_acts_152 : decode cL_acts 152 = .ok (.iload 6, 2) := by decide +kernel
theorem dL_acts_154 : decode cL_acts 154 = .ok (.ifCond .eq 13, 3) := by decide +kernel
theorem dL_acts_157 : decode cL_acts 157 = .ok (.aload_n 1, 1) := by decide +kernel
theorem dL_acts_158 : decode cL_acts 158 = .ok (.getfield 75, 3) := by decide +kernel
theorem dL_acts_161 : decode cL_acts 161 = .ok (.iload_n 3, 1) := by decide +kernel
theorem dL_acts_162 : decode cL_acts 162 = .ok (.aaload, 1) := by decide +kernel
theorem dL_acts_163 : decode cL_acts 163 = .ok (.iconst 1, 1) := by decide +kernel
theorem dL_acts_164 : decode cL_acts 164 = .ok (.putfield 129, 3) := by decide +kernel
theorem dL_acts_167 : decode cL_acts 167 = .ok (.aload_n 0, 1) := by decide +kernel
theorem dL_acts_168 : decode cL_acts 168 = .ok (.iload_n 3, 1) := by decide +kernel
theorem dL_acts_169 : decode cL_acts 169 = .ok (.invokestatic 139, 3) := by decide +kernel
theorem dL_acts_172 : decode cL_acts 172 = .ok (.iload 6, 2) := by decide +kernel
theorem dL_acts_174 : decode cL_acts 174 = .ok (.ifCond .eq 18, 3) := by decide +kernel
theorem dL_acts_177 : decode cL_acts 177 = .ok (.aload_n 1, 1) := by decide +kernel
theorem dL_acts_178 : decode cL_acts 178 = .ok (.aload_n 1, 1) := by decide +kernel
theorem dL_acts_179 : decode cL_acts 179 = .ok (.invokevirtual 143, 3) := by decide +kernel
theorem dL_acts_182 : decode cL_acts 182 = .ok (.aload_n 1, 1) := by decide +kernel
theorem dL_acts_183 : decode cL_acts 183 = .ok (.getfield 98, 3) := by decide +kernel
theorem dL_acts_186 : decode cL_acts 186 = .ok (.invokevirtual 145, 3) := by decide +kernel
theorem dL_acts_189 : decode cL_acts 189 = .ok (.goto 5, 3) := by decide +kernel
theorem dL_acts_192 : decode cL_acts 192 = .ok (.bipush (-3), 2) := by decide +kernel
theorem dL_acts_194 : decode cL_acts 194 = .ok (.if_icmp .ne 7, 3) := by decide +kernel
theorem dL_acts_197 : decode cL_acts 197 = .ok (.iconst 1, 1) := by decide +kernel
theorem dL_acts_198 : decode cL_acts 198 = .ok (.goto 4, 3) := by decide +kernel
theorem dL_acts_201 : decode cL_acts 201 = .ok (.iconst 0, 1) := by decide +kernel
theorem dL_acts_202 : decode cL_acts 202 = .ok (.ireturn, 1) := by decide +kernel
theorem dL_acts_203 : decode cL_acts 203 = .ok (.iload_n 3, 1) := by decide +kernel
theorem dL_acts_204 : decode cL_acts 204 = .ok (.ifCond .lt 66, 3) := by decide +kernel
theorem dL_acts_207 : decode cL_acts 207 = .ok (.iload 4, 2) := by decide +kernel
theorem dL_acts_209 : decode cL_acts 209 = .ok (.iconst 2, 1) := by decide +kernel
theorem dL_acts_210 : decode cL_acts 210 = .ok (.if_icmp .ne 60, 3) := by decide +kernel
theorem dL_acts_213 : decode cL_acts 213 = .ok (.aload_n 1, 1) := by decide +kernel
theorem dL_acts_214 : decode cL_acts 214 = .ok (.getfield 75, 3) := by decide +kernel
theorem dL_acts_217 : decode cL_acts 217 = .ok (.iload_n 3, 1) := by decide +kernel
theorem dL_acts_218 : decode cL_acts 218 = .ok (.aaload, 1) := by decide +kernel
theorem dL_acts_219 : decode cL_acts 219 = .ok (.getfield 129, 3) := by decide +kernel
theorem dL_acts_222 : decode cL_acts 222 = .ok (.istore 5, 2) := by decide +kernel
theorem dL_acts_224 : decode cL_acts 224 = .ok (.aload_n 1, 1) := by decide +kernel
theorem dL_acts_225 : decode cL_acts 225 = .ok (.getfield 75, 3) := by decide +kernel
theorem dL_acts_228 : decode cL_acts 228 = .ok (.iload_n 3, 1) := by decide +kernel
theorem dL_acts_229 : decode cL_acts 229 = .ok (.aaload, 1) := by decide +kernel
theorem dL_acts_230 : decode cL_acts 230 = .ok (.iconst 0, 1) := by decide +kernel
theorem dL_acts_231 : decode cL_acts 231 = .ok (.putfield 129, 3) := by decide +kernel
theorem dL_acts_234 : decode cL_acts 234 = .ok (.aload_n 0, 1) := by decide +kernel
theorem dL_acts_235 : decode cL_acts 235 = .ok (.iload_n 3, 1) := by decide +kernel
theorem dL_acts_236 : decode cL_acts 236 = .ok (.invokestatic 149, 3) := by decide +kernel
theorem dL_acts_239 : decode cL_acts 239 = .ok (.iload 5, 2) := by decide +kernel
theorem dL_acts_241 : decode cL_acts 241 = .ok (.ifCond .eq 18, 3) := by decide +kernel
theorem dL_acts_244 : decode cL_acts 244 = .ok (.aload_n 1, 1) := by decide +kernel
theorem dL_acts_245 : decode cL_acts 245 = .ok (.aload_n 1, 1) := by decide +kernel
theorem dL_acts_246 : decode cL_acts 246 = .ok (.invokevirtual 143, 3) := by decide +kernel
theorem dL_acts_249 : decode cL_acts 249 = .ok (.aload_n 1, 1) := by decide +kernel
theorem dL_acts_250 : decode cL_acts 250 = .ok (.getfield 98, 3) := by decide +kernel
theorem dL_acts_253 : decode cL_acts 253 = .ok (.invokevirtual 145, 3) := by decide +kernel
theorem dL_acts_256 : decode cL_acts 256 = .ok (.goto 5, 3) := by decide +kernel
theorem dL_acts_259 : decode cL_acts 259 = .ok (.bipush (-3), 2) := by decide +kernel
theorem dL_acts_261 : decode cL_acts 261 = .ok (.if_icmp .ne 7, 3) := by decide +kernel
theorem dL_acts_264 : decode cL_acts 264 = .ok (.iconst 1, 1) := by decide +kernel
theorem dL_acts_265 : decode cL_acts 265 = .ok (.goto 4, 3) := by decide +kernel
theorem dL_acts_268 : decode cL_acts 268 = .ok (.iconst 0, 1) := by decide +kernel
theorem dL_acts_269 : decode cL_acts 269 = .ok (.ireturn, 1) := by decide +kernel
theorem dL_acts_270 : decode cL_acts 270 = .ok (.iload_n 3, 1) := by decide +kernel
theorem dL_acts_271 : decode cL_acts 271 = .ok (.ifCond .lt 93, 3) := by decide +kernel
theorem dL_acts_274 : decode cL_acts 274 = .ok (.iload 4, 2) := by decide +kernel
theorem dL_acts_276 : decode cL_acts 276 = .ok (.iconst 3, 1) := by decide +kernel
theorem dL_acts_277 : decode cL_acts 277 = .ok (.if_icmp .ne 87, 3) := by decide +kernel
theorem dL_acts_280 : decode cL_acts 280 = .ok (.aload_n 2, 1) := by decide +kernel
theorem dL_acts_281 : decode cL_acts 281 = .ok (.iconst 2, 1) := by decide +kernel
theorem dL_acts_282 : decode cL_acts 282 = .ok (.invokestatic 35, 3) := by decide +kernel
theorem dL_acts_285 : decode cL_acts 285 = .ok (.ifCond .ne 79, 3) := by decide +kernel
theorem dL_acts_288 : decode cL_acts 288 = .ok (.aload_n 1, 1) := by decide +kernel
theorem dL_acts_289 : decode cL_acts 289 = .ok (.getfield 75, 3) := by decide +kernel
theorem dL_acts_292 : decode cL_acts 292 = .ok (.iload_n 3, 1) := by decide +kernel
theorem dL_acts_293 : decode cL_acts 293 = .ok (.aaload, 1) := by decide +kernel
theorem dL_acts_294 : decode cL_acts 294 = .ok (.getfield 129, 3) := by decide +kernel
theorem dL_acts_297 : decode cL_acts 297 = .ok (.istore 5, 2) := by decide +kernel
theorem dL_acts_299 : decode cL_acts 299 = .ok (.aload_n 1, 1) := by decide +kernel
theorem dL_acts_300 : decode cL_acts 300 = .ok (.getfield 75, 3) := by decide +kernel
theorem dL_acts_303 : decode cL_acts 303 = .ok (.iload_n 3, 1) := by decide +kernel
theorem dL_acts_304 : decode cL_acts 304 = .ok (.aaload, 1) := by decide +kernel
theorem dL_acts_305 : decode cL_acts 305 = .ok (.getfield 152, 3) := by decide +kernel
theorem dL_acts_308 : decode cL_acts 308 = .ok (.ifCond .eq 8, 3) := by decide +kernel
theorem dL_acts_311 : decode cL_acts 311 = .ok (.bipush (-3), 2) := by decide +kernel
theorem dL_acts_313 : decode cL_acts 313 = .ok (.goto 13, 3) := by decide +kernel
theorem dL_acts_316 : decode cL_acts 316 = .ok (.iload 5, 2) := by decide +kernel
theorem dL_acts_318 : decode cL_acts 318 = .ok (.ifCond .eq 7, 3) := by decide +kernel
theorem dL_acts_321 : decode cL_acts 321 = .ok (.iconst 1, 1) := by decide +kernel
theorem dL_acts_322 : decode cL_acts 322 = .ok (.goto 4, 3) := by decide +kernel
theorem dL_acts_325 : decode cL_acts 325 = .ok (.iconst 0, 1) := by decide +kernel
theorem dL_acts_326 : decode cL_acts 326 = .ok (.istore 6, 2) := by decide +kernel
theorem dL_acts_328 : decode cL_acts 328 = .ok (.aload_n 1, 1) := by decide +kernel
theorem dL_acts_329 : decode cL_acts 329 = .ok (.getfield 75, 3) := by decide +kernel
theorem dL_acts_332 : decode cL_acts 332 = .ok (.iload_n 3, 1) := by decide +kernel
theorem dL_acts_333 : decode cL_acts 333 = .ok (.aaload, 1) := by decide +kernel
theorem dL_acts_334 : decode cL_acts 334 = .ok (.iconst 1, 1) := by decide +kernel
theorem dL_acts_335 : decode cL_acts 335 = .ok (.putfield 152, 3) := by decide +kernel
theorem dL_acts_338 : decode cL_acts 338 = .ok (.aload_n 1, 1) := by decide +kernel
theorem dL_acts_339 : decode cL_acts 339 = .ok (.getfield 75, 3) := by decide +kernel
theorem dL_acts_342 : decode cL_acts 342 = .ok (.iload_n 3, 1) := by decide +kernel
theorem dL_acts_343 : decode cL_acts 343 = .ok (.aaload, 1) := by decide +kernel
theorem dL_acts_344 : decode cL_acts 344 = .ok (.iconst 0, 1) := by decide +kernel
theorem dL_acts_345 : decode cL_acts 345 = .ok (.putfield 129, 3) := by decide +kernel
theorem dL_acts_348 : decode cL_acts 348 = .ok (.aload_n 0, 1) := by decide +kernel
theorem dL_acts_349 : decode cL_acts 349 = .ok (.iload_n 3, 1) := by decide +kernel
theorem dL_acts_350 : decode cL_acts 350 = .ok (.invokestatic 155, 3) := by decide +kernel
theorem dL_acts_353 : decode cL_acts 353 = .ok (.iload 6, 2) := by decide +kernel
theorem dL_acts_355 : decode cL_acts 355 = .ok (.if_icmp .ne 7, 3) := by decide +kernel
theorem dL_acts_358 : decode cL_acts 358 = .ok (.iconst 1, 1) := by decide +kernel
theorem dL_acts_359 : decode cL_acts 359 = .ok (.goto 4, 3) := by decide +kernel
theorem dL_acts_362 : decode cL_acts 362 = .ok (.iconst 0, 1) := by decide +kernel
theorem dL_acts_363 : decode cL_acts 363 = .ok (.ireturn, 1) := by decide +kernel
theorem dL_acts_364 : decode cL_acts 364 = .ok (.iload_n 3, 1) := by decide +kernel
theorem dL_acts_365 : decode cL_acts 365 = .ok (.ifCond .lt 93, 3) := by decide +kernel
theorem dL_acts_368 : decode cL_acts 368 = .ok (.iload 4, 2) := by decide +kernel
theorem dL_acts_370 : decode cL_acts 370 = .ok (.iconst 4, 1) := by decide +kernel
theorem dL_acts_371 : decode cL_acts 371 = .ok (.if_icmp .ne 87, 3) := by decide +kernel
theorem dL_acts_374 : decode cL_acts 374 = .ok (.aload_n 1, 1) := by decide +kernel
theorem dL_acts_375 : decode cL_acts 375 = .ok (.getfield 75, 3) := by decide +kernel
theorem dL_acts_378 : decode cL_acts 378 = .ok (.iload_n 3, 1) := by decide +kernel
theorem dL_acts_379 : decode cL_acts 379 = .ok (.aaload, 1) := by decide +kernel
theorem dL_acts_380 : decode cL_acts 380 = .ok (.getfield 152, 3) := by decide +kernel
theorem dL_acts_383 : decode cL_acts 383 = .ok (.istore 5, 2) := by decide +kernel
theorem dL_acts_385 : decode cL_acts 385 = .ok (.aload_n 1, 1) := by decide +kernel
theorem dL_acts_386 : decode cL_acts 386 = .ok (.getfield 75, 3) := by decide +kernel
theorem dL_acts_389 : decode cL_acts 389 = .ok (.iload_n 3, 1) := by decide +kernel
theorem dL_acts_390 : decode cL_acts 390 = .ok (.aaload, 1) := by decide +kernel
theorem dL_acts_391 : decode cL_acts 391 = .ok (.iconst 0, 1) := by decide +kernel
theorem dL_acts_392 : decode cL_acts 392 = .ok (.putfield 152, 3) := by decide +kernel
theorem dL_acts_395 : decode cL_acts 395 = .ok (.iconst 0, 1) := by decide +kernel
theorem dL_acts_396 : decode cL_acts 396 = .ok (.istore 6, 2) := by decide +kernel
theorem dL_acts_398 : decode cL_acts 398 = .ok (.iconst 0, 1) := by decide +kernel
theorem dL_acts_399 : decode cL_acts 399 = .ok (.istore 7, 2) := by decide +kernel
theorem dL_acts_401 : decode cL_acts 401 = .ok (.iload 7, 2) := by decide +kernel
theorem dL_acts_403 : decode cL_acts 403 = .ok (.aload_n 1, 1) := by decide +kernel
theorem dL_acts_404 : decode cL_acts 404 = .ok (.getfield 56, 3) := by decide +kernel
theorem dL_acts_407 : decode cL_acts 407 = .ok (.if_icmp .ge 25, 3) := by decide +kernel
theorem dL_acts_410 : decode cL_acts 410 = .ok (.aload_n 1, 1) := by decide +kernel
theorem dL_acts_411 : decode cL_acts 411 = .ok (.getfield 75, 3) := by decide +kernel
theorem dL_acts_414 : decode cL_acts 414 = .ok (.iload 7, 2) := by decide +kernel
theorem dL_acts_416 : decode cL_acts 416 = .ok (.aaload, 1) := by decide +kernel
theorem dL_acts_417 : decode cL_acts 417 = .ok (.getfield 152, 3) := by decide +kernel
theorem dL_acts_420 : decode cL_acts 420 = .ok (.ifCond .eq 6, 3) := by decide +kernel
theorem dL_acts_423 : decode cL_acts 423 = .ok (.iinc 6 1, 3) := by decide +kernel
theorem dL_acts_426 : decode cL_acts 426 = .ok (.iinc 7 1, 3) := by decide +kernel
theorem dL_acts_429 : decode cL_acts 429 = .ok (.goto (-28), 3) := by decide +kernel
theorem dL_acts_432 : decode cL_acts 432 = .ok (.aload_n 0, 1) := by decide +kernel
theorem dL_acts_433 : decode cL_acts 433 = .ok (.iload_n 3, 1) := by decide +kernel
theorem dL_acts_434 : decode cL_acts 434 = .ok (.invokestatic 158, 3) := by decide +kernel
theorem dL_acts_437 : decode cL_acts 437 = .ok (.iload 5, 2) := by decide +kernel
theorem dL_acts_439 : decode cL_acts 439 = .ok (.ifCond .eq 8, 3) := by decide +kernel
theorem dL_acts_442 : decode cL_acts 442 = .ok (.iload 6, 2) := by decide +kernel
theorem dL_acts_444 : decode cL_acts 444 = .ok (.goto 5, 3) := by decide +kernel
theorem dL_acts_447 : decode cL_acts 447 = .ok (.bipush (-3), 2) := by decide +kernel
theorem dL_acts_449 : decode cL_acts 449 = .ok (.if_icmp .ne 7, 3) := by decide +kernel
theorem dL_acts_452 : decode cL_acts 452 = .ok (.iconst 1, 1) := by decide +kernel
theorem dL_acts_453 : decode cL_acts 453 = .ok (.goto 4, 3) := by decide +kernel
theorem dL_acts_456 : decode cL_acts 456 = .ok (.iconst 0, 1) := by decide +kernel
theorem dL_acts_457 : decode cL_acts 457 = .ok (.ireturn, 1) := by decide +kernel
theorem dL_acts_458 : decode cL_acts 458 = .ok (.iload 4, 2) := by decide +kernel
theorem dL_acts_460 : decode cL_acts 460 = .ok (.iconst 5, 1) := by decide +kernel
theorem dL_acts_461 : decode cL_acts 461 = .ok (.if_icmp .ne 80, 3) := by decide +kernel
theorem dL_acts_464 : decode cL_acts 464 = .ok (.aload_n 1, 1) := by decide +kernel
theorem dL_acts_465 : decode cL_acts 465 = .ok (.aload_n 1, 1) := by decide +kernel
theorem dL_acts_466 : decode cL_acts 466 = .ok (.getfield 132, 3) := by decide +kernel
theorem dL_acts_469 : decode cL_acts 469 = .ok (.iconst 1, 1) := by decide +kernel
theorem dL_acts_470 : decode cL_acts 470 = .ok (.iadd, 1) := by decide +kernel
theorem dL_acts_471 : decode cL_acts 471 = .ok (.aload_n 1, 1) := by decide +kernel
theorem dL_acts_472 : decode cL_acts 472 = .ok (.getfield 98, 3) := by decide +kernel
theorem dL_acts_475 : decode cL_acts 475 = .ok (.invokevirtual 161, 3) := by decide +kernel
theorem dL_acts_478 : decode cL_acts 478 = .ok (.istore 5, 2) := by decide +kernel
theorem dL_acts_480 : decode cL_acts 480 = .ok (.iconst 0, 1) := by decide +kernel
theorem dL_acts_481 : decode cL_acts 481 = .ok (.istore 6, 2) := by decide +kernel
theorem dL_acts_483 : decode cL_acts 483 = .ok (.iload 6, 2) := by decide +kernel
theorem dL_acts_485 : decode cL_acts 485 = .ok (.aload_n 1, 1) := by decide +kernel
theorem dL_acts_486 : decode cL_acts 486 = .ok (.getfield 56, 3) := by decide +kernel
theorem dL_acts_489 : decode cL_acts 489 = .ok (.if_icmp .ge 35, 3) := by decide +kernel
theorem dL_acts_492 : decode cL_acts 492 = .ok (.aload_n 1, 1) := by decide +kernel
theorem dL_acts_493 : decode cL_acts 493 = .ok (.getfield 75, 3) := by decide +kernel
theorem dL_acts_496 : decode cL_acts 496 = .ok (.iload 6, 2) := by decide +kernel
theorem dL_acts_498 : decode cL_acts 498 = .ok (.aaload, 1) := by decide +kernel
theorem dL_acts_499 : decode cL_acts 499 = .ok (.iload 5, 2) := by decide +kernel
theorem dL_acts_501 : decode cL_acts 501 = .ok (.iload 6, 2) := by decide +kernel
theorem dL_acts_503 : decode cL_acts 503 = .ok (.ishr, 1) := by decide +kernel
theorem dL_acts_504 : decode cL_acts 504 = .ok (.iconst 1, 1) := by decide +kernel
theorem dL_acts_505 : decode cL_acts 505 = .ok (.iand, 1) := by decide +kernel
theorem dL_acts_506 : decode cL_acts 506 = .ok (.iconst 1, 1) := by decide +kernel
theorem dL_acts_507 : decode cL_acts 507 = .ok (.if_icmp .ne 7, 3) := by decide +kernel
theorem dL_acts_510 : decode cL_acts 510 = .ok (.iconst 1, 1) := by decide +kernel
theorem dL_acts_511 : decode cL_acts 511 = .ok (.goto 4, 3) := by decide +kernel
theorem dL_acts_514 : decode cL_acts 514 = .ok (.iconst 0, 1) := by decide +kernel
theorem dL_acts_515 : decode cL_acts 515 = .ok (.putfield 129, 3) := by decide +kernel
theorem dL_acts_518 : decode cL_acts 518 = .ok (.iinc 6 1, 3) := by decide +kernel
theorem dL_acts_521 : decode cL_acts 521 = .ok (.goto (-38), 3) := by decide +kernel
theorem dL_acts_524 : decode cL_acts 524 = .ok (.aload_n 0, 1) := by decide +kernel
theorem dL_acts_525 : decode cL_acts 525 = .ok (.invokevirtual 164, 3) := by decide +kernel
theorem dL_acts_528 : decode cL_acts 528 = .ok (.aload_n 1, 1) := by decide +kernel
theorem dL_acts_529 : decode cL_acts 529 = .ok (.getfield 167, 3) := by decide +kernel
theorem dL_acts_532 : decode cL_acts 532 = .ok (.if_icmp .ne 7, 3) := by decide +kernel
theorem dL_acts_535 : decode cL_acts 535 = .ok (.iconst 1, 1) := by decide +kernel
theorem dL_acts_536 : decode cL_acts 536 = .ok (.goto 4, 3) := by decide +kernel
theorem dL_acts_539 : decode cL_acts 539 = .ok (.iconst 0, 1) := by decide +kernel
theorem dL_acts_540 : decode cL_acts 540 = .ok (.ireturn, 1) := by decide +kernel
theorem dL_acts_541 : decode cL_acts 541 = .ok (.iload 4, 2) := by decide +kernel
theorem dL_acts_543 : decode cL_acts 543 = .ok (.bipush 6, 2) := by decide +kernel
theorem dL_acts_545 : decode cL_acts 545 = .ok (.if_icmp .ne 104, 3) := by decide +kernel
theorem dL_acts_548 : decode cL_acts 548 = .ok (.aload_n 2, 1) := by decide +kernel
theorem dL_acts_549 : decode cL_acts 549 = .ok (.iconst 3, 1) := by decide +kernel
theorem dL_acts_550 : decode cL_acts 550 = .ok (.invokestatic 35, 3) := by decide +kernel
theorem dL_acts_553 : decode cL_acts 553 = .ok (.ifCond .ne 96, 3) := by decide +kernel
theorem dL_acts_556 : decode cL_acts 556 = .ok (.aload_n 2, 1) := by decide +kernel
theorem dL_acts_557 : decode cL_acts 557 = .ok (.aload_n 1, 1) := by decide +kernel
theorem dL_acts_558 : decode cL_acts 558 = .ok (.getfield 39, 3) := by decide +kernel
theorem dL_acts_561 : decode cL_acts 561 = .ok (.invokestatic 35, 3) := by decide +kernel
theorem dL_acts_564 : decode cL_acts 564 = .ok (.istore 5, 2) := by decide +kernel
theorem dL_acts_566 : decode cL_acts 566 = .ok (.aload_n 2, 1) := by decide +kernel
theorem dL_acts_567 : decode cL_acts 567 = .ok (.aload_n 1, 1) := by decide +kernel
theorem dL_acts_568 : decode cL_acts 568 = .ok (.getfield 39, 3) := by decide +kernel
theorem dL_acts_571 : decode cL_acts 571 = .ok (.invokestatic 35, 3) := by decide +kernel
theorem dL_acts_574 : decode cL_acts 574 = .ok (.istore 6, 2) := by decide +kernel
theorem dL_acts_576 : decode cL_acts 576 = .ok (.aload_n 1, 1) := by decide +kernel
theorem dL_acts_577 : decode cL_acts 577 = .ok (.getfield 98, 3) := by decide +kernel
theorem dL_acts_580 : decode cL_acts 580 = .ok (.iload 5, 2) := by decide +kernel
theorem dL_acts_582 : decode cL_acts 582 = .ok (.iaload, 1) := by decide +kernel
theorem dL_acts_583 : decode cL_acts 583 = .ok (.iload 6, 2) := by decide +kernel
theorem dL_acts_585 : decode cL_acts 585 = .ok (.ishr, 1) := by decide +kernel
theorem dL_acts_586 : decode cL_acts 586 = .ok (.iconst 1, 1) := by decide +kernel
theorem dL_acts_587 : decode cL_acts 587 = .ok (.iand, 1) := by decide +kernel
theorem dL_acts_588 : decode cL_acts 588 = .ok (.ifCond .ne 7, 3) := by decide +kernel
theorem dL_acts_591 : decode cL_acts 591 = .ok (.iconst 1, 1) := by decide +kernel
theorem dL_acts_592 : decode cL_acts 592 = .ok (.goto 4, 3) := by decide +kernel
theorem dL_acts_595 : decode cL_acts 595 = .ok (.iconst 0, 1) := by decide +kernel
theorem dL_acts_596 : decode cL_acts 596 = .ok (.istore 7, 2) := by decide +kernel
theorem dL_acts_598 : decode cL_acts 598 = .ok (.aload_n 1, 1) := by decide +kernel
theorem dL_acts_599 : decode cL_acts 599 = .ok (.getfield 98, 3) := by decide +kernel
theorem dL_acts_602 : decode cL_acts 602 = .ok (.iload 5, 2) := by decide +kernel
theorem dL_acts_604 : decode cL_acts 604 = .ok (.dup2, 1) := by decide +kernel
theorem dL_acts_605 : decode cL_acts 605 = .ok (.iaload, 1) := by decide +kernel
theorem dL_acts_606 : decode cL_acts 606 = .ok (.iconst 1, 1) := by decide +kernel
theorem dL_acts_607 : decode cL_acts 607 = .ok (.iload 6, 2) := by decide +kernel
theorem dL_acts_609 : decode cL_acts 609 = .ok (.ishl, 1) := by decide +kernel
theorem dL_acts_610 : decode cL_acts 610 = .ok (.ior, 1) := by decide +kernel
theorem dL_acts_611 : decode cL_acts 611 = .ok (.iastore, 1) := by decide +kernel
theorem dL_acts_612 : decode cL_acts 612 = .ok (.aload_n 0, 1) := by decide +kernel
theorem dL_acts_613 : decode cL_acts 613 = .ok (.iload 5, 2) := by decide +kernel
theorem dL_acts_615 : decode cL_acts 615 = .ok (.iload 6, 2) := by decide +kernel
theorem dL_acts_617 : decode cL_acts 617 = .ok (.invokestatic 170, 3) := by decide +kernel
theorem dL_acts_620 : decode cL_acts 620 = .ok (.iload 7, 2) := by decide +kernel
theorem dL_acts_622 : decode cL_acts 622 = .ok (.ifCond .eq 16, 3) := by decide +kernel
theorem dL_acts_625 : decode cL_acts 625 = .ok (.aload_n 1, 1) := by decide +kernel
theorem dL_acts_626 : decode cL_acts 626 = .ok (.getfield 98, 3) := by decide +kernel
theorem dL_acts_629 : decode cL_acts 629 = .ok (.iload 5, 2) := by decide +kernel
theorem dL_acts_631 : decode cL_acts 631 = .ok (.iaload, 1) := by decide +kernel
theorem dL_acts_632 : decode cL_acts 632 = .ok (.invokestatic 174, 3) := by decide +kernel
theorem dL_acts_635 : decode cL_acts 635 = .ok (.goto 5, 3) := by decide +kernel
theorem dL_acts_638 : decode cL_acts 638 = .ok (.bipush (-3), 2) := by decide +kernel
theorem dL_acts_640 : decode cL_acts 640 = .ok (.if_icmp .ne 7, 3) := by decide +kernel
theorem dL_acts_643 : decode cL_acts 643 = .ok (.iconst 1, 1) := by decide +kernel
theorem dL_acts_644 : decode cL_acts 644 = .ok (.goto 4, 3) := by decide +kernel
theorem dL_acts_647 : decode cL_acts 647 = .ok (.iconst 0, 1) := by decide +kernel
theorem dL_acts_648 : decode cL_acts 648 = .ok (.ireturn, 1) := by decide +kernel
theorem dL_acts_649 : decode cL_acts 649 = .ok (.aload_n 1, 1) := by decide +kernel
theorem dL_acts_650 : decode cL_acts 650 = .ok (.invokevirtual 143, 3) := by decide +kernel
theorem dL_acts_653 : decode cL_acts 653 = .ok (.istore 5, 2) := by decide +kernel
theorem dL_acts_655 : decode cL_acts 655 = .ok (.aload_n 1, 1) := by decide +kernel
theorem dL_acts_656 : decode cL_acts 656 = .ok (.iload 5, 2) := by decide +kernel
theorem dL_acts_658 : decode cL_acts 658 = .ok (.aload_n 1, 1) := by decide +kernel
theorem dL_acts_659 : decode cL_acts 659 = .ok (.getfield 98, 3) := by decide +kernel
theorem dL_acts_662 : decode cL_acts 662 = .ok (.invokevirtual 145, 3) := by decide +kernel
theorem dL_acts_665 : decode cL_acts 665 = .ok (.istore 6, 2) := by decide +kernel
theorem dL_acts_667 : decode cL_acts 667 = .ok (.aload_n 1, 1) := by decide +kernel
theorem dL_acts_668 : decode cL_acts 668 = .ok (.aload_n 1, 1) := by decide +kernel
theorem dL_acts_669 : decode cL_acts 669 = .ok (.iload 5, 2) := by decide +kernel
theorem dL_acts_671 : decode cL_acts 671 = .ok (.aload_n 1, 1) := by decide +kernel
theorem dL_acts_672 : decode cL_acts 672 = .ok (.getfield 98, 3) := by decide +kernel
theorem dL_acts_675 : decode cL_acts 675 = .ok (.invokevirtual 179, 3) := by decide +kernel
theorem dL_acts_678 : decode cL_acts 678 = .ok (.putfield 98, 3) := by decide +kernel
theorem dL_acts_681 : decode cL_acts 681 = .ok (.aload_n 1, 1) := by decide +kernel
theorem dL_acts_682 : decode cL_acts 682 = .ok (.dup, 1) := by decide +kernel
theorem dL_acts_683 : decode cL_acts 683 = .ok (.getfield 183, 3) := by decide +kernel
theorem dL_acts_686 : decode cL_acts 686 = .ok (.iload 5, 2) := by decide +kernel
theorem dL_acts_688 : decode cL_acts 688 = .ok (.invokestatic 174, 3) := by decide +kernel
theorem dL_acts_691 : decode cL_acts 691 = .ok (.iadd, 1) := by decide +kernel
theorem dL_acts_692 : decode cL_acts 692 = .ok (.putfield 183, 3) := by decide +kernel
theorem dL_acts_695 : decode cL_acts 695 = .ok (.aload_n 1, 1) := by decide +kernel
theorem dL_acts_696 : decode cL_acts 696 = .ok (.dup, 1) := by decide +kernel
theorem dL_acts_697 : decode cL_acts 697 = .ok (.getfield 132, 3) := by decide +kernel
theorem dL_acts_700 : decode cL_acts 700 = .ok (.iconst 1, 1) := by decide +kernel
theorem dL_acts_701 : decode cL_acts 701 = .ok (.iadd, 1) := by decide +kernel
theorem dL_acts_702 : decode cL_acts 702 = .ok (.putfield 132, 3) := by decide +kernel
theorem dL_acts_705 : decode cL_acts 705 = .ok (.aload_n 1, 1) := by decide +kernel
theorem dL_acts_706 : decode cL_acts 706 = .ok (.getfield 186, 3) := by decide +kernel
theorem dL_acts_709 : decode cL_acts 709 = .ok (.aload_n 1, 1) := by decide +kernel
theorem dL_acts_710 : decode cL_acts 710 = .ok (.getfield 132, 3) := by decide +kernel
theorem dL_acts_713 : decode cL_acts 713 = .ok (.aload_n 1, 1) := by decide +kernel
theorem dL_acts_714 : decode cL_acts 714 = .ok (.getfield 186, 3) := by decide +kernel
theorem dL_acts_717 : decode cL_acts 717 = .ok (.aload_n 1, 1) := by decide +kernel
theorem dL_acts_718 : decode cL_acts 718 = .ok (.getfield 132, 3) := by decide +kernel
theorem dL_acts_721 : decode cL_acts 721 = .ok (.iconst 1, 1) := by decide +kernel
theorem dL_acts_722 : decode cL_acts 722 = .ok (.isub, 1) := by decide +kernel
theorem dL_acts_723 : decode cL_acts 723 = .ok (.iaload, 1) := by decide +kernel
theorem dL_acts_724 : decode cL_acts 724 = .ok (.aload_n 1, 1) := by decide +kernel
theorem dL_acts_725 : decode cL_acts 725 = .ok (.iload 5, 2) := by decide +kernel
theorem dL_acts_727 : decode cL_acts 727 = .ok (.invokevirtual 189, 3) := by decide +kernel
theorem dL_acts_730 : decode cL_acts 730 = .ok (.iadd, 1) := by decide +kernel
theorem dL_acts_731 : decode cL_acts 731 = .ok (.iastore, 1) := by decide +kernel
theorem dL_acts_732 : decode cL_acts 732 = .ok (.iconst 0, 1) := by decide +kernel
theorem dL_acts_733 : decode cL_acts 733 = .ok (.istore 7, 2) := by decide +kernel
theorem dL_acts_735 : decode cL_acts 735 = .ok (.iload 7, 2) := by decide +kernel
theorem dL_acts_737 : decode cL_acts 737 = .ok (.aload_n 1, 1) := by decide +kernel
theorem dL_acts_738 : decode cL_acts 738 = .ok (.getfield 56, 3) := by decide +kernel
theorem dL_acts_741 : decode cL_acts 741 = .ok (.if_icmp .ge 20, 3) := by decide +kernel
theorem dL_acts_744 : decode cL_acts 744 = .ok (.aload_n 1, 1) := by decide +kernel
theorem dL_acts_745 : decode cL_acts 745 = .ok (.getfield 75, 3) := by decide +kernel
theorem dL_acts_748 : decode cL_acts 748 = .ok (.iload 7, 2) := by decide +kernel
theorem dL_acts_750 : decode cL_acts 750 = .ok (.aaload, 1) := by decide +kernel
theorem dL_acts_751 : decode cL_acts 751 = .ok (.iconst 0, 1) := by decide +kernel
theorem dL_acts_752 : decode cL_acts 752 = .ok (.putfield 129, 3) := by decide +kernel
theorem dL_acts_755 : decode cL_acts 755 = .ok (.iinc 7 1, 3) := by decide +kernel
theorem dL_acts_758 : decode cL_acts 758 = .ok (.goto (-23), 3) := by decide +kernel
theorem dL_acts_761 : decode cL_acts 761 = .ok (.aload_n 0, 1) := by decide +kernel
theorem dL_acts_762 : decode cL_acts 762 = .ok (.invokevirtual 191, 3) := by decide +kernel
theorem dL_acts_765 : decode cL_acts 765 = .ok (.iload 6, 2) := by decide +kernel
theorem dL_acts_767 : decode cL_acts 767 = .ok (.if_icmp .ne 7, 3) := by decide +kernel
theorem dL_acts_770 : decode cL_acts 770 = .ok (.iconst 1, 1) := by decide +kernel
theorem dL_acts_771 : decode cL_acts 771 = .ok (.goto 4, 3) := by decide +kernel
theorem dL_acts_774 : decode cL_acts 774 = .ok (.iconst 0, 1) := by decide +kernel
theorem dL_acts_775 : decode cL_acts 775 = .ok (.ireturn, 1) := by decide +kernel
theorem dL_arranges_0 : decode cL_arranges 0 = .ok (.aload_n 0, 1) := by decide +kernel
theorem dL_arranges_1 : decode cL_arranges 1 = .ok (.iload_n 1, 1) := by decide +kernel
theorem dL_arranges_2 : decode cL_arranges 2 = .ok (.invokevirtual 194, 3) := by decide +kernel
theorem dL_arranges_5 : decode cL_arranges 5 = .ok (.ireturn, 1) := by decide +kernel
theorem dL_arranges_6 : decode cL_arranges 6 = .ok (.astore_n 2, 1) := by decide +kernel
theorem dL_arranges_7 : decode cL_arranges 7 = .ok (.bipush (-3), 2) := by decide +kernel
theorem dL_arranges_9 : decode cL_arranges 9 = .ok (.ireturn, 1) := by decide +kernel
theorem dL_takesBack_0 : decode cL_takesBack 0 = .ok (.aload_n 0, 1) := by decide +kernel
theorem dL_takesBack_1 : decode cL_takesBack 1 = .ok (.iload_n 1, 1) := by decide +kernel
theorem dL_takesBack_2 : decode cL_takesBack 2 = .ok (.invokevirtual 199, 3) := by decide +kernel
theorem dL_takesBack_5 : decode cL_takesBack 5 = .ok (.ireturn, 1) := by decide +kernel
theorem dL_takesBack_6 : decode cL_takesBack 6 = .ok (.astore_n 2, 1) := by decide +kernel
theorem dL_takesBack_7 : decode cL_takesBack 7 = .ok (.bipush (-3), 2) := by decide +kernel
theorem dL_takesBack_9 : decode cL_takesBack 9 = .ok (.ireturn, 1) := by decide +kernel
theorem dL_cuts_0 : decode cL_cuts 0 = .ok (.aload_n 0, 1) := by decide +kernel
theorem dL_cuts_1 : decode cL_cuts 1 = .ok (.iload_n 1, 1) := by decide +kernel
theorem dL_cuts_2 : decode cL_cuts 2 = .ok (.invokevirtual 202, 3) := by decide +kernel
theorem dL_cuts_5 : decode cL_cuts 5 = .ok (.ifCond .eq 7, 3) := by decide +kernel
theorem dL_cuts_8 : decode cL_cuts 8 = .ok (.iconst 1, 1) := by decide +kernel
theorem dL_cuts_9 : decode cL_cuts 9 = .ok (.goto 4, 3) := by decide +kernel
theorem dL_cuts_12 : decode cL_cuts 12 = .ok (.iconst 0, 1) := by decide +kernel
theorem dL_cuts_13 : decode cL_cuts 13 = .ok (.ireturn, 1) := by decide +kernel
theorem dL_cuts_14 : decode cL_cuts 14 = .ok (.astore_n 2, 1) := by decide +kernel
theorem dL_cuts_15 : decode cL_cuts 15 = .ok (.bipush (-3), 2) := by decide +kernel
theorem dL_cuts_17 : decode cL_cuts 17 = .ok (.ireturn, 1) := by decide +kernel
theorem dL_mends_0 : decode cL_mends 0 = .ok (.aload_n 0, 1) := by decide +kernel
theorem dL_mends_1 : decode cL_mends 1 = .ok (.iload_n 1, 1) := by decide +kernel
theorem dL_mends_2 : decode cL_mends 2 = .ok (.invokevirtual 205, 3) := by decide +kernel
theorem dL_mends_5 : decode cL_mends 5 = .ok (.ireturn, 1) := by decide +kernel
theorem dL_mends_6 : decode cL_mends 6 = .ok (.astore_n 2, 1) := by decide +kernel
theorem dL_mends_7 : decode cL_mends 7 = .ok (.bipush (-3), 2) := by decide +kernel
theorem dL_mends_9 : decode cL_mends 9 = .ok (.ireturn, 1) := by decide +kernel
theorem dL_tells_0 : decode cL_tells 0 = .ok (.aload_n 0, 1) := by decide +kernel
theorem dL_tells_1 : decode cL_tells 1 = .ok (.iload_n 1, 1) := by decide +kernel
theorem dL_tells_2 : decode cL_tells 2 = .ok (.iload_n 2, 1) := by decide +kernel
theorem dL_tells_3 : decode cL_tells 3 = .ok (.invokevirtual 208, 3) := by decide +kernel
theorem dL_tells_6 : decode cL_tells 6 = .ok (.ireturn, 1) := by decide +kernel
theorem dL_tells_7 : decode cL_tells 7 = .ok (.astore_n 3, 1) := by decide +kernel
theorem dL_tells_8 : decode cL_tells 8 = .ok (.bipush (-3), 2) := by decide +kernel
theorem dL_tells_10 : decode cL_tells 10 = .ok (.ireturn, 1) := by decide +kernel
theorem dL_agrees_0 : decode cL_agrees 0 = .ok (.aload_n 0, 1) := by decide +kernel
theorem dL_agrees_1 : decode cL_agrees 1 = .ok (.iconst 2, 1) := by decide +kernel
theorem dL_agrees_2 : decode cL_agrees 2 = .ok (.invokevirtual 119, 3) := by decide +kernel
theorem dL_agrees_5 : decode cL_agrees 5 = .ok (.aload_n 1, 1) := by decide +kernel
theorem dL_agrees_6 : decode cL_agrees 6 = .ok (.getfield 132, 3) := by decide +kernel
theorem dL_agrees_9 : decode cL_agrees 9 = .ok (.if_icmp .ne 60, 3) := by decide +kernel
theorem dL_agrees_12 : decode cL_agrees 12 = .ok (.aload_n 0, 1) := by decide +kernel
theorem dL_agrees_13 : decode cL_agrees 13 = .ok (.iconst 3, 1) := by decide +kernel
theorem dL_agrees_14 : decode cL_agrees 14 = .ok (.invokevirtual 119, 3) := by decide +kernel
theorem dL_agrees_17 : decode cL_agrees 17 = .ok (.aload_n 1, 1) := by decide +kernel
theorem dL_agrees_18 : decode cL_agrees 18 = .ok (.getfield 183, 3) := by decide +kernel
theorem dL_agrees_21 : decode cL_agrees 21 = .ok (.if_icmp .ne 48, 3) := by decide +kernel
theorem dL_agrees_24 : decode cL_agrees 24 = .ok (.aload_n 0, 1) := by decide +kernel
theorem dL_agrees_25 : decode cL_agrees 25 = .ok (.invokevirtual 212, 3) := by decide +kernel
theorem dL_agrees_28 : decode cL_agrees 28 = .ok (.aload_n 1, 1) := by decide +kernel
theorem dL_agrees_29 : decode cL_agrees 29 = .ok (.invokevirtual 143, 3) := by decide +kernel
theorem dL_agrees_32 : decode cL_agrees 32 = .ok (.if_icmp .ne 37, 3) := by decide +kernel
theorem dL_agrees_35 : decode cL_agrees 35 = .ok (.aload_n 0, 1) := by decide +kernel
theorem dL_agrees_36 : decode cL_agrees 36 = .ok (.invokevirtual 213, 3) := by decide +kernel
theorem dL_agrees_39 : decode cL_agrees 39 = .ok (.aload_n 1, 1) := by decide +kernel
theorem dL_agrees_40 : decode cL_agrees 40 = .ok (.aload_n 1, 1) := by decide +kernel
theorem dL_agrees_41 : decode cL_agrees 41 = .ok (.invokevirtual 143, 3) := by decide +kernel
theorem dL_agrees_44 : decode cL_agrees 44 = .ok (.aload_n 1, 1) := by decide +kernel
theorem dL_agrees_45 : decode cL_agrees 45 = .ok (.getfield 98, 3) := by decide +kernel
theorem dL_agrees_48 : decode cL_agrees 48 = .ok (.invokevirtual 145, 3) := by decide +kernel
theorem dL_agrees_51 : decode cL_agrees 51 = .ok (.if_icmp .ne 18, 3) := by decide +kernel
theorem dL_agrees_54 : decode cL_agrees 54 = .ok (.aload_n 0, 1) := by decide +kernel
theorem dL_agrees_55 : decode cL_agrees 55 = .ok (.invokevirtual 216, 3) := by decide +kernel
theorem dL_agrees_58 : decode cL_agrees 58 = .ok (.aload_n 1, 1) := by decide +kernel
theorem dL_agrees_59 : decode cL_agrees 59 = .ok (.aload_n 1, 1) := by decide +kernel
theorem dL_agrees_60 : decode cL_agrees 60 = .ok (.getfield 98, 3) := by decide +kernel
theorem dL_agrees_63 : decode cL_agrees 63 = .ok (.invokevirtual 219, 3) := by decide +kernel
theorem dL_agrees_66 : decode cL_agrees 66 = .ok (.if_icmp .eq 5, 3) := by decide +kernel
theorem dL_agrees_69 : decode cL_agrees 69 = .ok (.iconst 0, 1) := by decide +kernel
theorem dL_agrees_70 : decode cL_agrees 70 = .ok (.ireturn, 1) := by decide +kernel
theorem dL_agrees_71 : decode cL_agrees 71 = .ok (.iconst 0, 1) := by decide +kernel
theorem dL_agrees_72 : decode cL_agrees 72 = .ok (.istore_n 3, 1) := by decide +kernel
theorem dL_agrees_73 : decode cL_agrees 73 = .ok (.iload_n 3, 1) := by decide +kernel
theorem dL_agrees_74 : decode cL_agrees 74 = .ok (.aload_n 1, 1) := by decide +kernel
theorem dL_agrees_75 : decode cL_agrees 75 = .ok (.getfield 39, 3) := by decide +kernel
theorem dL_agrees_78 : decode cL_agrees 78 = .ok (.if_icmp .ge 174, 3) := by decide +kernel
theorem dL_agrees_81 : decode cL_agrees 81 = .ok (.aload_n 0, 1) := by decide +kernel
theorem dL_agrees_82 : decode cL_agrees 82 = .ok (.iload_n 3, 1) := by decide +kernel
theorem dL_agrees_83 : decode cL_agrees 83 = .ok (.invokevirtual 222, 3) := by decide +kernel
theorem dL_agrees_86 : decode cL_agrees 86 = .ok (.aload_n 1, 1) := by decide +kernel
theorem dL_agrees_87 : decode cL_agrees 87 = .ok (.getfield 98, 3) := by decide +kernel
theorem dL_agrees_90 : decode cL_agrees 90 = .ok (.iload_n 3, 1) := by decide +kernel
theorem dL_agrees_91 : decode cL_agrees 91 = .ok (.iaload, 1) := by decide +kernel
theorem dL_agrees_92 : decode cL_agrees 92 = .ok (.if_icmp .eq 5, 3) := by decide +kernel
theorem dL_agrees_95 : decode cL_agrees 95 = .ok (.iconst 0, 1) := by decide +kernel
theorem dL_agrees_96 : decode cL_agrees 96 = .ok (.ireturn, 1) := by decide +kernel
theorem dL_agrees_97 : decode cL_agrees 97 = .ok (.iconst (-1), 1) := by decide +kernel
theorem dL_agrees_98 : decode cL_agrees 98 = .ok (.istore 4, 2) := by decide +kernel
theorem dL_agrees_100 : decode cL_agrees 100 = .ok (.iconst 0, 1) := by decide +kernel
theorem dL_agrees_101 : decode cL_agrees 101 = .ok (.istore 5, 2) := by decide +kernel
theorem dL_agrees_103 : decode cL_agrees 103 = .ok (.iconst 0, 1) := by decide +kernel
theorem dL_agrees_104 : decode cL_agrees 104 = .ok (.istore 6, 2) := by decide +kernel
theorem dL_agrees_106 : decode cL_agrees 106 = .ok (.iload 6, 2) := by decide +kernel
theorem dL_agrees_108 : decode cL_agrees 108 = .ok (.aload_n 1, 1) := by decide +kernel
theorem dL_agrees_109 : decode cL_agrees 109 = .ok (.getfield 56, 3) := by decide +kernel
theorem dL_agrees_112 : decode cL_agrees 112 = .ok (.if_icmp .ge 75, 3) := by decide +kernel
theorem dL_agrees_115 : decode cL_agrees 115 = .ok (.aload_n 1, 1) := by decide +kernel
theorem dL_agrees_116 : decode cL_agrees 116 = .ok (.getfield 75, 3) := by decide +kernel
theorem dL_agrees_119 : decode cL_agrees 119 = .ok (.iload 6, 2) := by decide +kernel
theorem dL_agrees_121 : decode cL_agrees 121 = .ok (.aaload, 1) := by decide +kernel
theorem dL_agrees_122 : decode cL_agrees 122 = .ok (.getfield 129, 3) := by decide +kernel
theorem dL_agrees_125 : decode cL_agrees 125 = .ok (.ifCond .eq 56, 3) := by decide +kernel
theorem dL_agrees_128 : decode cL_agrees 128 = .ok (.aload_n 1, 1) := by decide +kernel
theorem dL_agrees_129 : decode cL_agrees 129 = .ok (.getfield 75, 3) := by decide +kernel
theorem dL_agrees_132 : decode cL_agrees 132 = .ok (.iload 6, 2) := by decide +kernel
theorem dL_agrees_134 : decode cL_agrees 134 = .ok (.aaload, 1) := by decide +kernel
theorem dL_agrees_135 : decode cL_agrees 135 = .ok (.getfield 62, 3) := by decide +kernel
theorem dL_agrees_138 : decode cL_agrees 138 = .ok (.iload_n 3, 1) := by decide +kernel
theorem dL_agrees_139 : decode cL_agrees 139 = .ok (.if_icmp .eq 17, 3) := by decide +kernel
theorem dL_agrees_142 : decode cL_agrees 142 = .ok (.aload_n 1, 1) := by decide +kernel
theorem dL_agrees_143 : decode cL_agrees 143 = .ok (.getfield 75, 3) := by decide +kernel
theorem dL_agrees_146 : decode cL_agrees 146 = .ok (.iload 6, 2) := by decide +kernel
theorem dL_agrees_148 : decode cL_agrees 148 = .ok (.aaload, 1) := by decide +kernel
theorem dL_agrees_149 : decode cL_agrees 149 = .ok (.getfield 65, 3) := by decide +kernel
theorem dL_agrees_152 : decode cL_agrees 152 = .ok (.iload_n 3, 1) := by decide +kernel
theorem dL_agrees_153 : decode cL_agrees 153 = .ok (.if_icmp .ne 28, 3) := by decide +kernel
theorem dL_agrees_156 : decode cL_agrees 156 = .ok (.aload_n 1, 1) := by decide +kernel
theorem dL_agrees_157 : decode cL_agrees 157 = .ok (.getfield 75, 3) := by decide +kernel
theorem dL_agrees_160 : decode cL_agrees 160 = .ok (.iload 6, 2) := by decide +kernel
theorem dL_agrees_162 : decode cL_agrees 162 = .ok (.aaload, 1) := by decide +kernel
theorem dL_agrees_163 : decode cL_agrees 163 = .ok (.getfield 62, 3) := by decide +kernel
theorem dL_agrees_166 : decode cL_agrees 166 = .ok (.aload_n 1, 1) := by decide +kernel
theorem dL_agrees_167 : decode cL_agrees 167 = .ok (.getfield 75, 3) := by decide +kernel
theorem dL_agrees_170 : decode cL_agrees 170 = .ok (.iload 6, 2) := by decide +kernel
theorem dL_agrees_172 : decode cL_agrees 172 = .ok (.aaload, 1) := by decide +kernel
theorem dL_agrees_173 : decode cL_agrees 173 = .ok (.getfield 65, 3) := by decide +kernel
theorem dL_agrees_176 : decode cL_agrees 176 = .ok (.iadd, 1) := by decide +kernel
theorem dL_agrees_177 : decode cL_agrees 177 = .ok (.iload_n 3, 1) := by decide +kernel
theorem dL_agrees_178 : decode cL_agrees 178 = .ok (.isub, 1) := by decide +kernel
theorem dL_agrees_179 : decode cL_agrees 179 = .ok (.istore 4, 2) := by decide +kernel
theorem dL_agrees_181 : decode cL_agrees 181 = .ok (.iinc 6 1, 3) := by decide +kernel
theorem dL_agrees_184 : decode cL_agrees 184 = .ok (.goto (-78), 3) := by decide +kernel
theorem dL_agrees_187 : decode cL_agrees 187 = .ok (.iconst 0, 1) := by decide +kernel
theorem dL_agrees_188 : decode cL_agrees 188 = .ok (.istore 6, 2) := by decide +kernel
theorem dL_agrees_190 : decode cL_agrees 190 = .ok (.iload 6, 2) := by decide +kernel
theorem dL_agrees_192 : decode cL_agrees 192 = .ok (.aload_n 1, 1) := by decide +kernel
theorem dL_agrees_193 : decode cL_agrees 193 = .ok (.getfield 39, 3) := by decide +kernel
theorem dL_agrees_196 : decode cL_agrees 196 = .ok (.if_icmp .ge 28, 3) := by decide +kernel
theorem dL_agrees_199 : decode cL_agrees 199 = .ok (.iload 5, 2) := by decide +kernel
theorem dL_agrees_201 : decode cL_agrees 201 = .ok (.aload_n 1, 1) := by decide +kernel
theorem dL_agrees_202 : decode cL_agrees 202 = .ok (.getfield 98, 3) := by decide +kernel
theorem dL_agrees_205 : decode cL_agrees 205 = .ok (.iload 6, 2) := by decide +kernel
theorem dL_agrees_207 : decode cL_agrees 207 = .ok (.iaload, 1) := by decide +kernel
theorem dL_agrees_208 : decode cL_agrees 208 = .ok (.iload_n 3, 1) := by decide +kernel
theorem dL_agrees_209 : decode cL_agrees 209 = .ok (.ishr, 1) := by decide +kernel
theorem dL_agrees_210 : decode cL_agrees 210 = .ok (.iconst 1, 1) := by decide +kernel
theorem dL_agrees_211 : decode cL_agrees 211 = .ok (.iand, 1) := by decide +kernel
theorem dL_agrees_212 : decode cL_agrees 212 = .ok (.iload 6, 2) := by decide +kernel
theorem dL_agrees_214 : decode cL_agrees 214 = .ok (.ishl, 1) := by decide +kernel
theorem dL_agrees_215 : decode cL_agrees 215 = .ok (.ior, 1) := by decide +kernel
theorem dL_agrees_216 : decode cL_agrees 216 = .ok (.istore 5, 2) := by decide +kernel
theorem dL_agrees_218 : decode cL_agrees 218 = .ok (.iinc 6 1, 3) := by decide +kernel
theorem dL_agrees_221 : decode cL_agrees 221 = .ok (.goto (-31), 3) := by decide +kernel
theorem dL_agrees_224 : decode cL_agrees 224 = .ok (.aload_n 0, 1) := by decide +kernel
theorem dL_agrees_225 : decode cL_agrees 225 = .ok (.iload_n 3, 1) := by decide +kernel
theorem dL_agrees_226 : decode cL_agrees 226 = .ok (.invokevirtual 224, 3) := by decide +kernel
theorem dL_agrees_229 : decode cL_agrees 229 = .ok (.iload 4, 2) := by decide +kernel
theorem dL_agrees_231 : decode cL_agrees 231 = .ok (.if_icmp .ne 13, 3) := by decide +kernel
theorem dL_agrees_234 : decode cL_agrees 234 = .ok (.aload_n 0, 1) := by decide +kernel
theorem dL_agrees_235 : decode cL_agrees 235 = .ok (.iload_n 3, 1) := by decide +kernel
theorem dL_agrees_236 : decode cL_agrees 236 = .ok (.invokevirtual 227, 3) := by decide +kernel
theorem dL_agrees_239 : decode cL_agrees 239 = .ok (.iload 5, 2) := by decide +kernel
theorem dL_agrees_241 : decode cL_agrees 241 = .ok (.if_icmp .eq 5, 3) := by decide +kernel
theorem dL_agrees_244 : decode cL_agrees 244 = .ok (.iconst 0, 1) := by decide +kernel
theorem dL_agrees_245 : decode cL_agrees 245 = .ok (.ireturn, 1) := by decide +kernel
theorem dL_agrees_246 : decode cL_agrees 246 = .ok (.iinc 3 1, 3) := by decide +kernel
theorem dL_agrees_249 : decode cL_agrees 249 = .ok (.goto (-176), 3) := by decide +kernel
theorem dL_agrees_252 : decode cL_agrees 252 = .ok (.iconst 1, 1) := by decide +kernel
theorem dL_agrees_253 : decode cL_agrees 253 = .ok (.aload_n 2, 1) := by decide +kernel
theorem dL_agrees_254 : decode cL_agrees 254 = .ok (.bipush 12, 2) := by decide +kernel
theorem dL_agrees_256 : decode cL_agrees 256 = .ok (.invokestatic 35, 3) := by decide +kernel
theorem dL_agrees_259 : decode cL_agrees 259 = .ok (.iadd, 1) := by decide +kernel
theorem dL_agrees_260 : decode cL_agrees 260 = .ok (.istore_n 3, 1) := by decide +kernel
theorem dL_agrees_261 : decode cL_agrees 261 = .ok (.iconst 0, 1) := by decide +kernel
theorem dL_agrees_262 : decode cL_agrees 262 = .ok (.istore 4, 2) := by decide +kernel
theorem dL_agrees_264 : decode cL_agrees 264 = .ok (.iload 4, 2) := by decide +kernel
theorem dL_agrees_266 : decode cL_agrees 266 = .ok (.aload_n 1, 1) := by decide +kernel
theorem dL_agrees_267 : decode cL_agrees 267 = .ok (.getfield 56, 3) := by decide +kernel
theorem dL_agrees_270 : decode cL_agrees 270 = .ok (.if_icmp .ge 56, 3) := by decide +kernel
theorem dL_agrees_273 : decode cL_agrees 273 = .ok (.aload_n 0, 1) := by decide +kernel
theorem dL_agrees_274 : decode cL_agrees 274 = .ok (.iload 4, 2) := by decide +kernel
theorem dL_agrees_276 : decode cL_agrees 276 = .ok (.iload_n 3, 1) := by decide +kernel
theorem dL_agrees_277 : decode cL_agrees 277 = .ok (.invokevirtual 230, 3) := by decide +kernel
theorem dL_agrees_280 : decode cL_agrees 280 = .ok (.aload_n 1, 1) := by decide +kernel
theorem dL_agrees_281 : decode cL_agrees 281 = .ok (.iload 4, 2) := by decide +kernel
theorem dL_agrees_283 : decode cL_agrees 283 = .ok (.iload_n 3, 1) := by decide +kernel
theorem dL_agrees_284 : decode cL_agrees 284 = .ok (.invokevirtual 135, 3) := by decide +kernel
theorem dL_agrees_287 : decode cL_agrees 287 = .ok (.if_icmp .ne 31, 3) := by decide +kernel
theorem dL_agrees_290 : decode cL_agrees 290 = .ok (.aload_n 0, 1) := by decide +kernel
theorem dL_agrees_291 : decode cL_agrees 291 = .ok (.iload 4, 2) := by decide +kernel
theorem dL_agrees_293 : decode cL_agrees 293 = .ok (.iconst 4, 1) := by decide +kernel
theorem dL_agrees_294 : decode cL_agrees 294 = .ok (.invokevirtual 233, 3) := by decide +kernel
theorem dL_agrees_297 : decode cL_agrees 297 = .ok (.aload_n 1, 1) := by decide +kernel
theorem dL_agrees_298 : decode cL_agrees 298 = .ok (.getfield 75, 3) := by decide +kernel
theorem dL_agrees_301 : decode cL_agrees 301 = .ok (.iload 4, 2) := by decide +kernel
theorem dL_agrees_303 : decode cL_agrees 303 = .ok (.aaload, 1) := by decide +kernel
theorem dL_agrees_304 : decode cL_agrees 304 = .ok (.getfield 152, 3) := by decide +kernel
theorem dL_agrees_307 : decode cL_agrees 307 = .ok (.ifCond .eq 7, 3) := by decide +kernel
theorem dL_agrees_310 : decode cL_agrees 310 = .ok (.iconst 1, 1) := by decide +kernel
theorem dL_agrees_311 : decode cL_agrees 311 = .ok (.goto 4, 3) := by decide +kernel
theorem dL_agrees_314 : decode cL_agrees 314 = .ok (.iconst 0, 1) := by decide +kernel
theorem dL_agrees_315 : decode cL_agrees 315 = .ok (.if_icmp .eq 5, 3) := by decide +kernel
theorem dL_agrees_318 : decode cL_agrees 318 = .ok (.iconst 0, 1) := by decide +kernel
theorem dL_agrees_319 : decode cL_agrees 319 = .ok (.ireturn, 1) := by decide +kernel
theorem dL_agrees_320 : decode cL_agrees 320 = .ok (.iinc 4 1, 3) := by decide +kernel
theorem dL_agrees_323 : decode cL_agrees 323 = .ok (.goto (-59), 3) := by decide +kernel
theorem dL_agrees_326 : decode cL_agrees 326 = .ok (.aload_n 0, 1) := by decide +kernel
theorem dL_agrees_327 : decode cL_agrees 327 = .ok (.iconst 0, 1) := by decide +kernel
theorem dL_agrees_328 : decode cL_agrees 328 = .ok (.invokevirtual 235, 3) := by decide +kernel
theorem dL_agrees_331 : decode cL_agrees 331 = .ok (.aload_n 1, 1) := by decide +kernel
theorem dL_agrees_332 : decode cL_agrees 332 = .ok (.aload_n 1, 1) := by decide +kernel
theorem dL_agrees_333 : decode cL_agrees 333 = .ok (.getfield 132, 3) := by decide +kernel
theorem dL_agrees_336 : decode cL_agrees 336 = .ok (.iconst 1, 1) := by decide +kernel
theorem dL_agrees_337 : decode cL_agrees 337 = .ok (.iadd, 1) := by decide +kernel
theorem dL_agrees_338 : decode cL_agrees 338 = .ok (.aload_n 1, 1) := by decide +kernel
theorem dL_agrees_339 : decode cL_agrees 339 = .ok (.getfield 98, 3) := by decide +kernel
theorem dL_agrees_342 : decode cL_agrees 342 = .ok (.invokevirtual 161, 3) := by decide +kernel
theorem dL_agrees_345 : decode cL_agrees 345 = .ok (.if_icmp .ne 27, 3) := by decide +kernel
theorem dL_agrees_348 : decode cL_agrees 348 = .ok (.aload_n 0, 1) := by decide +kernel
theorem dL_agrees_349 : decode cL_agrees 349 = .ok (.iconst 1, 1) := by decide +kernel
theorem dL_agrees_350 : decode cL_agrees 350 = .ok (.invokevirtual 235, 3) := by decide +kernel
theorem dL_agrees_353 : decode cL_agrees 353 = .ok (.aload_n 1, 1) := by decide +kernel
theorem dL_agrees_354 : decode cL_agrees 354 = .ok (.getfield 167, 3) := by decide +kernel
theorem dL_agrees_357 : decode cL_agrees 357 = .ok (.if_icmp .ne 15, 3) := by decide +kernel
theorem dL_agrees_360 : decode cL_agrees 360 = .ok (.aload_n 0, 1) := by decide +kernel
theorem dL_agrees_361 : decode cL_agrees 361 = .ok (.iconst 2, 1) := by decide +kernel
theorem dL_agrees_362 : decode cL_agrees 362 = .ok (.invokevirtual 235, 3) := by decide +kernel
theorem dL_agrees_365 : decode cL_agrees 365 = .ok (.aload_n 1, 1) := by decide +kernel
theorem dL_agrees_366 : decode cL_agrees 366 = .ok (.getfield 237, 3) := by decide +kernel
theorem dL_agrees_369 : decode cL_agrees 369 = .ok (.if_icmp .eq 5, 3) := by decide +kernel
theorem dL_agrees_372 : decode cL_agrees 372 = .ok (.iconst 0, 1) := by decide +kernel
theorem dL_agrees_373 : decode cL_agrees 373 = .ok (.ireturn, 1) := by decide +kernel
theorem dL_agrees_374 : decode cL_agrees 374 = .ok (.aload_n 2, 1) := by decide +kernel
theorem dL_agrees_375 : decode cL_agrees 375 = .ok (.iconst 3, 1) := by decide +kernel
theorem dL_agrees_376 : decode cL_agrees 376 = .ok (.invokestatic 35, 3) := by decide +kernel
theorem dL_agrees_379 : decode cL_agrees 379 = .ok (.ifCond .ne 40, 3) := by decide +kernel
theorem dL_agrees_382 : decode cL_agrees 382 = .ok (.aload_n 1, 1) := by decide +kernel
theorem dL_agrees_383 : decode cL_agrees 383 = .ok (.invokevirtual 240, 3) := by decide +kernel
theorem dL_agrees_386 : decode cL_agrees 386 = .ok (.astore 4, 2) := by decide +kernel
theorem dL_agrees_388 : decode cL_agrees 388 = .ok (.iconst 0, 1) := by decide +kernel
theorem dL_agrees_389 : decode cL_agrees 389 = .ok (.istore 5, 2) := by decide +kernel
theorem dL_agrees_391 : decode cL_agrees 391 = .ok (.iload 5, 2) := by decide +kernel
theorem dL_agrees_393 : decode cL_agrees 393 = .ok (.iconst 4, 1) := by decide +kernel
theorem dL_agrees_394 : decode cL_agrees 394 = .ok (.if_icmp .ge 25, 3) := by decide +kernel
theorem dL_agrees_397 : decode cL_agrees 397 = .ok (.aload_n 0, 1) := by decide +kernel
theorem dL_agrees_398 : decode cL_agrees 398 = .ok (.iload 5, 2) := by decide +kernel
theorem dL_agrees_400 : decode cL_agrees 400 = .ok (.invokevirtual 244, 3) := by decide +kernel
theorem dL_agrees_403 : decode cL_agrees 403 = .ok (.aload 4, 2) := by decide +kernel
theorem dL_agrees_405 : decode cL_agrees 405 = .ok (.iload 5, 2) := by decide +kernel
theorem dL_agrees_407 : decode cL_agrees 407 = .ok (.iaload, 1) := by decide +kernel
theorem dL_agrees_408 : decode cL_agrees 408 = .ok (.if_icmp .eq 5, 3) := by decide +kernel
theorem dL_agrees_411 : decode cL_agrees 411 = .ok (.iconst 0, 1) := by decide +kernel
theorem dL_agrees_412 : decode cL_agrees 412 = .ok (.ireturn, 1) := by decide +kernel
theorem dL_agrees_413 : decode cL_agrees 413 = .ok (.iinc 5 1, 3) := by decide +kernel
theorem dL_agrees_416 : decode cL_agrees 416 = .ok (.goto (-25), 3) := by decide +kernel
theorem dL_agrees_419 : decode cL_agrees 419 = .ok (.aload_n 2, 1) := by decide +kernel
theorem dL_agrees_420 : decode cL_agrees 420 = .ok (.aload_n 1, 1) := by decide +kernel
theorem dL_agrees_421 : decode cL_agrees 421 = .ok (.getfield 39, 3) := by decide +kernel
theorem dL_agrees_424 : decode cL_agrees 424 = .ok (.invokestatic 35, 3) := by decide +kernel
theorem dL_agrees_427 : decode cL_agrees 427 = .ok (.istore 4, 2) := by decide +kernel
theorem dL_agrees_429 : decode cL_agrees 429 = .ok (.aload_n 2, 1) := by decide +kernel
theorem dL_agrees_430 : decode cL_agrees 430 = .ok (.aload_n 1, 1) := by decide +kernel
theorem dL_agrees_431 : decode cL_agrees 431 = .ok (.getfield 39, 3) := by decide +kernel
theorem dL_agrees_434 : decode cL_agrees 434 = .ok (.invokestatic 35, 3) := by decide +kernel
theorem dL_agrees_437 : decode cL_agrees 437 = .ok (.istore 5, 2) := by decide +kernel
theorem dL_agrees_439 : decode cL_agrees 439 = .ok (.aload_n 1, 1) := by decide +kernel
theorem dL_agrees_440 : decode cL_agrees 440 = .ok (.iload 5, 2) := by decide +kernel
theorem dL_agrees_442 : decode cL_agrees 442 = .ok (.iconst (-1), 1) := by decide +kernel
theorem dL_agrees_443 : decode cL_agrees 443 = .ok (.invokevirtual 246, 3) := by decide +kernel
theorem dL_agrees_446 : decode cL_agrees 446 = .ok (.iload 4, 2) := by decide +kernel
theorem dL_agrees_448 : decode cL_agrees 448 = .ok (.iaload, 1) := by decide +kernel
theorem dL_agrees_449 : decode cL_agrees 449 = .ok (.istore 6, 2) := by decide +kernel
theorem dL_agrees_451 : decode cL_agrees 451 = .ok (.aload_n 2, 1) := by decide +kernel
theorem dL_agrees_452 : decode cL_agrees 452 = .ok (.bipush 30, 2) := by decide +kernel
theorem dL_agrees_454 : decode cL_agrees 454 = .ok (.invokestatic 35, 3) := by decide +kernel
theorem dL_agrees_457 : decode cL_agrees 457 = .ok (.istore 7, 2) := by decide +kernel
theorem dL_agrees_459 : decode cL_agrees 459 = .ok (.aload_n 0, 1) := by decide +kernel
theorem dL_agrees_460 : decode cL_agrees 460 = .ok (.iload 4, 2) := by decide +kernel
theorem dL_agrees_462 : decode cL_agrees 462 = .ok (.iload 5, 2) := by decide +kernel
theorem dL_agrees_464 : decode cL_agrees 464 = .ok (.invokevirtual 250, 3) := by decide +kernel
theorem dL_agrees_467 : decode cL_agrees 467 = .ok (.aload_n 1, 1) := by decide +kernel
theorem dL_agrees_468 : decode cL_agrees 468 = .ok (.iload 4, 2) := by decide +kernel
theorem dL_agrees_470 : decode cL_agrees 470 = .ok (.iload 5, 2) := by decide +kernel
theorem dL_agrees_472 : decode cL_agrees 472 = .ok (.invokevirtual 253, 3) := by decide +kernel
theorem dL_agrees_475 : decode cL_agrees 475 = .ok (.if_icmp .ne 66, 3) := by decide +kernel
theorem dL_agrees_478 : decode cL_agrees 478 = .ok (.aload_n 0, 1) := by decide +kernel
theorem dL_agrees_479 : decode cL_agrees 479 = .ok (.iload 4, 2) := by decide +kernel
theorem dL_agrees_481 : decode cL_agrees 481 = .ok (.iload 5, 2) := by decide +kernel
theorem dL_agrees_483 : decode cL_agrees 483 = .ok (.invokevirtual 254, 3) := by decide +kernel
theorem dL_agrees_486 : decode cL_agrees 486 = .ok (.iload 6, 2) := by decide +kernel
theorem dL_agrees_488 : decode cL_agrees 488 = .ok (.ldc_w 257, 3) := by decide +kernel
theorem dL_agrees_491 : decode cL_agrees 491 = .ok (.if_icmp .lt 7, 3) := by decide +kernel
theorem dL_agrees_494 : decode cL_agrees 494 = .ok (.iconst (-1), 1) := by decide +kernel
theorem dL_agrees_495 : decode cL_agrees 495 = .ok (.goto 5, 3) := by decide +kernel
theorem dL_agrees_498 : decode cL_agrees 498 = .ok (.iload 6, 2) := by decide +kernel
theorem dL_agrees_500 : decode cL_agrees 500 = .ok (.if_icmp .ne 41, 3) := by decide +kernel
theorem dL_agrees_503 : decode cL_agrees 503 = .ok (.aload_n 0, 1) := by decide +kernel
theorem dL_agrees_504 : decode cL_agrees 504 = .ok (.invokevirtual 258, 3) := by decide +kernel
theorem dL_agrees_507 : decode cL_agrees 507 = .ok (.aload_n 1, 1) := by decide +kernel
theorem dL_agrees_508 : decode cL_agrees 508 = .ok (.invokevirtual 261, 3) := by decide +kernel
theorem dL_agrees_511 : decode cL_agrees 511 = .ok (.if_icmp .ne 30, 3) := by decide +kernel
theorem dL_agrees_514 : decode cL_agrees 514 = .ok (.aload_n 0, 1) := by decide +kernel
theorem dL_agrees_515 : decode cL_agrees 515 = .ok (.iload 7, 2) := by decide +kernel
theorem dL_agrees_517 : decode cL_agrees 517 = .ok (.invokevirtual 262, 3) := by decide +kernel
theorem dL_agrees_520 : decode cL_agrees 520 = .ok (.aload_n 1, 1) := by decide +kernel
theorem dL_agrees_521 : decode cL_agrees 521 = .ok (.getfield 186, 3) := by decide +kernel
theorem dL_agrees_524 : decode cL_agrees 524 = .ok (.iload 7, 2) := by decide +kernel
theorem dL_agrees_526 : decode cL_agrees 526 = .ok (.aload_n 1, 1) := by decide +kernel
theorem dL_agrees_527 : decode cL_agrees 527 = .ok (.getfield 132, 3) := by decide +kernel
theorem dL_agrees_530 : decode cL_agrees 530 = .ok (.invokestatic 264, 3) := by decide +kernel
theorem dL_agrees_533 : decode cL_agrees 533 = .ok (.iaload, 1) := by decide +kernel
theorem dL_agrees_534 : decode cL_agrees 534 = .ok (.if_icmp .ne 7, 3) := by decide +kernel
theorem dL_agrees_537 : decode cL_agrees 537 = .ok (.iconst 1, 1) := by decide +kernel
theorem dL_agrees_538 : decode cL_agrees 538 = .ok (.goto 4, 3) := by decide +kernel
theorem dL_agrees_541 : decode cL_agrees 541 = .ok (.iconst 0, 1) := by decide +kernel
theorem dL_agrees_542 : decode cL_agrees 542 = .ok (.ireturn, 1) := by decide +kernel
