theorem dX9_isNear_0 : decode cX9_isNear 0 = .ok (.iload_n 0, 1) := by decide +kernel
theorem dX9_isNear_1 : decode cX9_isNear 1 = .ok (.iload_n 1, 1) := by decide +kernel
theorem dX9_isNear_2 : decode cX9_isNear 2 = .ok (.isub, 1) := by decide +kernel
theorem dX9_isNear_3 : decode cX9_isNear 3 = .ok (.invokestatic 110, 3) := by decide +kernel
theorem dX9_isNear_6 : decode cX9_isNear 6 = .ok (.istore_n 2, 1) := by decide +kernel
theorem dX9_isNear_7 : decode cX9_isNear 7 = .ok (.iload_n 2, 1) := by decide +kernel
theorem dX9_isNear_8 : decode cX9_isNear 8 = .ok (.iconst 2, 1) := by decide +kernel
theorem dX9_isNear_9 : decode cX9_isNear 9 = .ok (.if_icmp .lt 9, 3) := by decide +kernel
theorem dX9_isNear_12 : decode cX9_isNear 12 = .ok (.iload_n 2, 1) := by decide +kernel
theorem dX9_isNear_13 : decode cX9_isNear 13 = .ok (.bipush 7, 2) := by decide +kernel
theorem dX9_isNear_15 : decode cX9_isNear 15 = .ok (.if_icmp .ne 7, 3) := by decide +kernel
theorem dX9_isNear_18 : decode cX9_isNear 18 = .ok (.iconst 1, 1) := by decide +kernel
theorem dX9_isNear_19 : decode cX9_isNear 19 = .ok (.goto 4, 3) := by decide +kernel
theorem dX9_isNear_22 : decode cX9_isNear 22 = .ok (.iconst 0, 1) := by decide +kernel
theorem dX9_isNear_23 : decode cX9_isNear 23 = .ok (.ireturn, 1) := by decide +kernel
theorem dX9_finds_0 : decode cX9_finds 0 = .ok (.iconst 0, 1) := by decide +kernel
theorem dX9_finds_1 : decode cX9_finds 1 = .ok (.istore_n 1, 1) := by decide +kernel
theorem dX9_finds_2 : decode cX9_finds 2 = .ok (.iload_n 1, 1) := by decide +kernel
theorem dX9_finds_3 : decode cX9_finds 3 = .ok (.bipush 32, 2) := by decide +kernel
theorem dX9_finds_5 : decode cX9_finds 5 = .ok (.if_icmp .ge 27, 3) := by decide +kernel
theorem dX9_finds_8 : decode cX9_finds 8 = .ok (.aload_n 0, 1) := by decide +kernel
theorem dX9_finds_9 : decode cX9_finds 9 = .ok (.getfield 22, 3) := by decide +kernel
theorem dX9_finds_12 : decode cX9_finds 12 = .ok (.iload_n 1, 1) := by decide +kernel
theorem dX9_finds_13 : decode cX9_finds 13 = .ok (.aload_n 0, 1) := by decide +kernel
theorem dX9_finds_14 : decode cX9_finds 14 = .ok (.iload_n 1, 1) := by decide +kernel
theorem dX9_finds_15 : decode cX9_finds 15 = .ok (.bipush 8, 2) := by decide +kernel
theorem dX9_finds_17 : decode cX9_finds 17 = .ok (.idiv, 1) := by decide +kernel
theorem dX9_finds_18 : decode cX9_finds 18 = .ok (.iload_n 1, 1) := by decide +kernel
theorem dX9_finds_19 : decode cX9_finds 19 = .ok (.bipush 8, 2) := by decide +kernel
theorem dX9_finds_21 : decode cX9_finds 21 = .ok (.irem, 1) := by decide +kernel
theorem dX9_finds_22 : decode cX9_finds 22 = .ok (.invokevirtual 168, 3) := by decide +kernel
theorem dX9_finds_25 : decode cX9_finds 25 = .ok (.iastore, 1) := by decide +kernel
theorem dX9_finds_26 : decode cX9_finds 26 = .ok (.iinc 1 1, 3) := by decide +kernel
theorem dX9_finds_29 : decode cX9_finds 29 = .ok (.goto (-27), 3) := by decide +kernel
theorem dX9_finds_32 : decode cX9_finds 32 = .ok (.iconst (-1), 1) := by decide +kernel
theorem dX9_finds_33 : decode cX9_finds 33 = .ok (.istore_n 1, 1) := by decide +kernel
theorem dX9_finds_34 : decode cX9_finds 34 = .ok (.iconst 0, 1) := by decide +kernel
theorem dX9_finds_35 : decode cX9_finds 35 = .ok (.istore_n 2, 1) := by decide +kernel
theorem dX9_finds_36 : decode cX9_finds 36 = .ok (.iload_n 2, 1) := by decide +kernel
theorem dX9_finds_37 : decode cX9_finds 37 = .ok (.sipush 4096, 3) := by decide +kernel
theorem dX9_finds_40 : decode cX9_finds 40 = .ok (.if_icmp .ge 158, 3) := by decide +kernel
theorem dX9_finds_43 : decode cX9_finds 43 = .ok (.iload_n 2, 1) := by decide +kernel
theorem dX9_finds_44 : decode cX9_finds 44 = .ok (.sipush 512, 3) := by decide +kernel
theorem dX9_finds_47 : decode cX9_finds 47 = .ok (.idiv, 1) := by decide +kernel
theorem dX9_finds_48 : decode cX9_finds 48 = .ok (.istore_n 3, 1) := by decide +kernel
theorem dX9_finds_49 : decode cX9_finds 49 = .ok (.iload_n 2, 1) := by decide +kernel
theorem dX9_finds_50 : decode cX9_finds 50 = .ok (.bipush 64, 2) := by decide +kernel
theorem dX9_finds_52 : decode cX9_finds 52 = .ok (.idiv, 1) := by decide +kernel
theorem dX9_finds_53 : decode cX9_finds 53 = .ok (.bipush 8, 2) := by decide +kernel
theorem dX9_finds_55 : decode cX9_finds 55 = .ok (.irem, 1) := by decide +kernel
theorem dX9_finds_56 : decode cX9_finds 56 = .ok (.istore 4, 2) := by decide +kernel
theorem dX9_finds_58 : decode cX9_finds 58 = .ok (.iload_n 2, 1) := by decide +kernel
theorem dX9_finds_59 : decode cX9_finds 59 = .ok (.bipush 8, 2) := by decide +kernel
theorem dX9_finds_61 : decode cX9_finds 61 = .ok (.idiv, 1) := by decide +kernel
theorem dX9_finds_62 : decode cX9_finds 62 = .ok (.bipush 8, 2) := by decide +kernel
theorem dX9_finds_64 : decode cX9_finds 64 = .ok (.irem, 1) := by decide +kernel
theorem dX9_finds_65 : decode cX9_finds 65 = .ok (.istore 5, 2) := by decide +kernel
theorem dX9_finds_67 : decode cX9_finds 67 = .ok (.iload_n 2, 1) := by decide +kernel
theorem dX9_finds_68 : decode cX9_finds 68 = .ok (.bipush 8, 2) := by decide +kernel
theorem dX9_finds_70 : decode cX9_finds 70 = .ok (.irem, 1) := by decide +kernel
theorem dX9_finds_71 : decode cX9_finds 71 = .ok (.istore 6, 2) := by decide +kernel
theorem dX9_finds_73 : decode cX9_finds 73 = .ok (.aload_n 0, 1) := by decide +kernel
theorem dX9_finds_74 : decode cX9_finds 74 = .ok (.getfield 22, 3) := by decide +kernel
theorem dX9_finds_77 : decode cX9_finds 77 = .ok (.iload_n 3, 1) := by decide +kernel
theorem dX9_finds_78 : decode cX9_finds 78 = .ok (.iaload, 1) := by decide +kernel
theorem dX9_finds_79 : decode cX9_finds 79 = .ok (.aload_n 0, 1) := by decide +kernel
theorem dX9_finds_80 : decode cX9_finds 80 = .ok (.getfield 22, 3) := by decide +kernel
theorem dX9_finds_83 : decode cX9_finds 83 = .ok (.bipush 8, 2) := by decide +kernel
theorem dX9_finds_85 : decode cX9_finds 85 = .ok (.iload 4, 2) := by decide +kernel
theorem dX9_finds_87 : decode cX9_finds 87 = .ok (.iadd, 1) := by decide +kernel
theorem dX9_finds_88 : decode cX9_finds 88 = .ok (.iaload, 1) := by decide +kernel
theorem dX9_finds_89 : decode cX9_finds 89 = .ok (.iadd, 1) := by decide +kernel
theorem dX9_finds_90 : decode cX9_finds 90 = .ok (.aload_n 0, 1) := by decide +kernel
theorem dX9_finds_91 : decode cX9_finds 91 = .ok (.getfield 22, 3) := by decide +kernel
theorem dX9_finds_94 : decode cX9_finds 94 = .ok (.bipush 16, 2) := by decide +kernel
theorem dX9_finds_96 : decode cX9_finds 96 = .ok (.iload 5, 2) := by decide +kernel
theorem dX9_finds_98 : decode cX9_finds 98 = .ok (.iadd, 1) := by decide +kernel
theorem dX9_finds_99 : decode cX9_finds 99 = .ok (.iaload, 1) := by decide +kernel
theorem dX9_finds_100 : decode cX9_finds 100 = .ok (.iadd, 1) := by decide +kernel
theorem dX9_finds_101 : decode cX9_finds 101 = .ok (.aload_n 0, 1) := by decide +kernel
theorem dX9_finds_102 : decode cX9_finds 102 = .ok (.getfield 22, 3) := by decide +kernel
theorem dX9_finds_105 : decode cX9_finds 105 = .ok (.bipush 24, 2) := by decide +kernel
theorem dX9_finds_107 : decode cX9_finds 107 = .ok (.iload 6, 2) := by decide +kernel
theorem dX9_finds_109 : decode cX9_finds 109 = .ok (.iadd, 1) := by decide +kernel
theorem dX9_finds_110 : decode cX9_finds 110 = .ok (.iaload, 1) := by decide +kernel
theorem dX9_finds_111 : decode cX9_finds 111 = .ok (.iadd, 1) := by decide +kernel
theorem dX9_finds_112 : decode cX9_finds 112 = .ok (.istore 7, 2) := by decide +kernel
theorem dX9_finds_114 : decode cX9_finds 114 = .ok (.iload 7, 2) := by decide +kernel
theorem dX9_finds_116 : decode cX9_finds 116 = .ok (.iload_n 1, 1) := by decide +kernel
theorem dX9_finds_117 : decode cX9_finds 117 = .ok (.if_icmp .le 75, 3) := by decide +kernel
theorem dX9_finds_120 : decode cX9_finds 120 = .ok (.iload_n 3, 1) := by decide +kernel
theorem dX9_finds_121 : decode cX9_finds 121 = .ok (.iload 4, 2) := by decide +kernel
theorem dX9_finds_123 : decode cX9_finds 123 = .ok (.invokestatic 171, 3) := by decide +kernel
theorem dX9_finds_126 : decode cX9_finds 126 = .ok (.ifCond .eq 66, 3) := by decide +kernel
theorem dX9_finds_129 : decode cX9_finds 129 = .ok (.iload 5, 2) := by decide +kernel
theorem dX9_finds_131 : decode cX9_finds 131 = .ok (.iload 6, 2) := by decide +kernel
theorem dX9_finds_133 : decode cX9_finds 133 = .ok (.invokestatic 171, 3) := by decide +kernel
theorem dX9_finds_136 : decode cX9_finds 136 = .ok (.ifCond .eq 56, 3) := by decide +kernel
theorem dX9_finds_139 : decode cX9_finds 139 = .ok (.iload_n 3, 1) := by decide +kernel
theorem dX9_finds_140 : decode cX9_finds 140 = .ok (.iload 5, 2) := by decide +kernel
theorem dX9_finds_142 : decode cX9_finds 142 = .ok (.invokestatic 171, 3) := by decide +kernel
theorem dX9_finds_145 : decode cX9_finds 145 = .ok (.ifCond .eq 47, 3) := by decide +kernel
theorem dX9_finds_148 : decode cX9_finds 148 = .ok (.iload 4, 2) := by decide +kernel
theorem dX9_finds_150 : decode cX9_finds 150 = .ok (.iload 6, 2) := by decide +kernel
theorem dX9_finds_152 : decode cX9_finds 152 = .ok (.invokestatic 171, 3) := by decide +kernel
theorem dX9_finds_155 : decode cX9_finds 155 = .ok (.ifCond .eq 37, 3) := by decide +kernel
theorem dX9_finds_158 : decode cX9_finds 158 = .ok (.iload 7, 2) := by decide +kernel
theorem dX9_finds_160 : decode cX9_finds 160 = .ok (.istore_n 1, 1) := by decide +kernel
theorem dX9_finds_161 : decode cX9_finds 161 = .ok (.aload_n 0, 1) := by decide +kernel
theorem dX9_finds_162 : decode cX9_finds 162 = .ok (.getfield 25, 3) := by decide +kernel
theorem dX9_finds_165 : decode cX9_finds 165 = .ok (.iconst 0, 1) := by decide +kernel
theorem dX9_finds_166 : decode cX9_finds 166 = .ok (.iload_n 3, 1) := by decide +kernel
theorem dX9_finds_167 : decode cX9_finds 167 = .ok (.iastore, 1) := by decide +kernel
theorem dX9_finds_168 : decode cX9_finds 168 = .ok (.aload_n 0, 1) := by decide +kernel
theorem dX9_finds_169 : decode cX9_finds 169 = .ok (.getfield 25, 3) := by decide +kernel
theorem dX9_finds_172 : decode cX9_finds 172 = .ok (.iconst 1, 1) := by decide +kernel
theorem dX9_finds_173 : decode cX9_finds 173 = .ok (.iload 4, 2) := by decide +kernel
theorem dX9_finds_175 : decode cX9_finds 175 = .ok (.iastore, 1) := by decide +kernel
theorem dX9_finds_176 : decode cX9_finds 176 = .ok (.aload_n 0, 1) := by decide +kernel
theorem dX9_finds_177 : decode cX9_finds 177 = .ok (.getfield 25, 3) := by decide +kernel
theorem dX9_finds_180 : decode cX9_finds 180 = .ok (.iconst 2, 1) := by decide +kernel
theorem dX9_finds_181 : decode cX9_finds 181 = .ok (.iload 5, 2) := by decide +kernel
theorem dX9_finds_183 : decode cX9_finds 183 = .ok (.iastore, 1) := by decide +kernel
theorem dX9_finds_184 : decode cX9_finds 184 = .ok (.aload_n 0, 1) := by decide +kernel
theorem dX9_finds_185 : decode cX9_finds 185 = .ok (.getfield 25, 3) := by decide +kernel
theorem dX9_finds_188 : decode cX9_finds 188 = .ok (.iconst 3, 1) := by decide +kernel
theorem dX9_finds_189 : decode cX9_finds 189 = .ok (.iload 6, 2) := by decide +kernel
theorem dX9_finds_191 : decode cX9_finds 191 = .ok (.iastore, 1) := by decide +kernel
theorem dX9_finds_192 : decode cX9_finds 192 = .ok (.iinc 2 1, 3) := by decide +kernel
theorem dX9_finds_195 : decode cX9_finds 195 = .ok (.goto (-159), 3) := by decide +kernel
theorem dX9_finds_198 : decode cX9_finds 198 = .ok (.iload_n 1, 1) := by decide +kernel
theorem dX9_finds_199 : decode cX9_finds 199 = .ok (.ireturn, 1) := by decide +kernel
theorem dX9_best_0 : decode cX9_best 0 = .ok (.iload_n 1, 1) := by decide +kernel
theorem dX9_best_1 : decode cX9_best 1 = .ok (.i2l, 1) := by decide +kernel
theorem dX9_best_2 : decode cX9_best 2 = .ok (.ldc2_w 174, 3) := by decide +kernel
theorem dX9_best_5 : decode cX9_best 5 = .ok (.ldc2_w 92, 3) := by decide +kernel
theorem dX9_best_8 : decode cX9_best 8 = .ok (.invokestatic 56, 3) := by decide +kernel
theorem dX9_best_11 : decode cX9_best 11 = .ok (.ifCond .ne 5, 3) := by decide +kernel
theorem dX9_best_14 : decode cX9_best 14 = .ok (.iconst (-1), 1) := by decide +kernel
theorem dX9_best_15 : decode cX9_best 15 = .ok (.ireturn, 1) := by decide +kernel
theorem dX9_best_16 : decode cX9_best 16 = .ok (.aload_n 0, 1) := by decide +kernel
theorem dX9_best_17 : decode cX9_best 17 = .ok (.invokevirtual 176, 3) := by decide +kernel
theorem dX9_best_20 : decode cX9_best 20 = .ok (.istore_n 2, 1) := by decide +kernel
theorem dX9_best_21 : decode cX9_best 21 = .ok (.iload_n 1, 1) := by decide +kernel
theorem dX9_best_22 : decode cX9_best 22 = .ok (.ifCond .ge 7, 3) := by decide +kernel
theorem dX9_best_25 : decode cX9_best 25 = .ok (.iload_n 2, 1) := by decide +kernel
theorem dX9_best_26 : decode cX9_best 26 = .ok (.goto 9, 3) := by decide +kernel
theorem dX9_best_29 : decode cX9_best 29 = .ok (.aload_n 0, 1) := by decide +kernel
theorem dX9_best_30 : decode cX9_best 30 = .ok (.getfield 25, 3) := by decide +kernel
theorem dX9_best_33 : decode cX9_best 33 = .ok (.iload_n 1, 1) := by decide +kernel
theorem dX9_best_34 : decode cX9_best 34 = .ok (.iaload, 1) := by decide +kernel
theorem dX9_best_35 : decode cX9_best 35 = .ok (.ireturn, 1) := by decide +kernel
theorem dX9_turn_0 : decode cX9_turn 0 = .ok (.aload_n 0, 1) := by decide +kernel
theorem dX9_turn_1 : decode cX9_turn 1 = .ok (.invokevirtual 176, 3) := by decide +kernel
theorem dX9_turn_4 : decode cX9_turn 4 = .ok (.istore_n 1, 1) := by decide +kernel
theorem dX9_turn_5 : decode cX9_turn 5 = .ok (.iconst 0, 1) := by decide +kernel
theorem dX9_turn_6 : decode cX9_turn 6 = .ok (.istore_n 2, 1) := by decide +kernel
theorem dX9_turn_7 : decode cX9_turn 7 = .ok (.aload_n 0, 1) := by decide +kernel
theorem dX9_turn_8 : decode cX9_turn 8 = .ok (.invokevirtual 89, 3) := by decide +kernel
theorem dX9_turn_11 : decode cX9_turn 11 = .ok (.iconst 0, 1) := by decide +kernel
theorem dX9_turn_12 : decode cX9_turn 12 = .ok (.istore_n 3, 1) := by decide +kernel
theorem dX9_turn_13 : decode cX9_turn 13 = .ok (.iload_n 3, 1) := by decide +kernel
theorem dX9_turn_14 : decode cX9_turn 14 = .ok (.iconst 4, 1) := by decide +kernel
theorem dX9_turn_15 : decode cX9_turn 15 = .ok (.if_icmp .ge 52, 3) := by decide +kernel
theorem dX9_turn_18 : decode cX9_turn 18 = .ok (.iload_n 1, 1) := by decide +kernel
theorem dX9_turn_19 : decode cX9_turn 19 = .ok (.ifCond .lt 48, 3) := by decide +kernel
theorem dX9_turn_22 : decode cX9_turn 22 = .ok (.iload_n 2, 1) := by decide +kernel
theorem dX9_turn_23 : decode cX9_turn 23 = .ok (.aload_n 0, 1) := by decide +kernel
theorem dX9_turn_24 : decode cX9_turn 24 = .ok (.getfield 13, 3) := by decide +kernel
theorem dX9_turn_27 : decode cX9_turn 27 = .ok (.iconst 2, 1) := by decide +kernel
theorem dX9_turn_28 : decode cX9_turn 28 = .ok (.iload_n 3, 1) := by decide +kernel
theorem dX9_turn_29 : decode cX9_turn 29 = .ok (.iadd, 1) := by decide +kernel
theorem dX9_turn_30 : decode cX9_turn 30 = .ok (.iaload, 1) := by decide +kernel
theorem dX9_turn_31 : decode cX9_turn 31 = .ok (.aload_n 0, 1) := by decide +kernel
theorem dX9_turn_32 : decode cX9_turn 32 = .ok (.getfield 25, 3) := by decide +kernel
theorem dX9_turn_35 : decode cX9_turn 35 = .ok (.iload_n 3, 1) := by decide +kernel
theorem dX9_turn_36 : decode cX9_turn 36 = .ok (.iaload, 1) := by decide +kernel
theorem dX9_turn_37 : decode cX9_turn 37 = .ok (.if_icmp .eq 7, 3) := by decide +kernel
theorem dX9_turn_40 : decode cX9_turn 40 = .ok (.iconst 1, 1) := by decide +kernel
theorem dX9_turn_41 : decode cX9_turn 41 = .ok (.goto 4, 3) := by decide +kernel
theorem dX9_turn_44 : decode cX9_turn 44 = .ok (.iconst 0, 1) := by decide +kernel
theorem dX9_turn_45 : decode cX9_turn 45 = .ok (.iadd, 1) := by decide +kernel
theorem dX9_turn_46 : decode cX9_turn 46 = .ok (.istore_n 2, 1) := by decide +kernel
theorem dX9_turn_47 : decode cX9_turn 47 = .ok (.aload_n 0, 1) := by decide +kernel
theorem dX9_turn_48 : decode cX9_turn 48 = .ok (.getfield 13, 3) := by decide +kernel
theorem dX9_turn_51 : decode cX9_turn 51 = .ok (.iconst 2, 1) := by decide +kernel
theorem dX9_turn_52 : decode cX9_turn 52 = .ok (.iload_n 3, 1) := by decide +kernel
theorem dX9_turn_53 : decode cX9_turn 53 = .ok (.iadd, 1) := by decide +kernel
theorem dX9_turn_54 : decode cX9_turn 54 = .ok (.aload_n 0, 1) := by decide +kernel
theorem dX9_turn_55 : decode cX9_turn 55 = .ok (.getfield 25, 3) := by decide +kernel
theorem dX9_turn_58 : decode cX9_turn 58 = .ok (.iload_n 3, 1) := by decide +kernel
theorem dX9_turn_59 : decode cX9_turn 59 = .ok (.iaload, 1) := by decide +kernel
theorem dX9_turn_60 : decode cX9_turn 60 = .ok (.iastore, 1) := by decide +kernel
theorem dX9_turn_61 : decode cX9_turn 61 = .ok (.iinc 3 1, 3) := by decide +kernel
theorem dX9_turn_64 : decode cX9_turn 64 = .ok (.goto (-51), 3) := by decide +kernel
theorem dX9_turn_67 : decode cX9_turn 67 = .ok (.iload_n 2, 1) := by decide +kernel
theorem dX9_turn_68 : decode cX9_turn 68 = .ok (.ireturn, 1) := by decide +kernel
theorem dX9_gathers_0 : decode cX9_gathers 0 = .ok (.aload_n 0, 1) := by decide +kernel
theorem dX9_gathers_1 : decode cX9_gathers 1 = .ok (.iconst 0, 1) := by decide +kernel
theorem dX9_gathers_2 : decode cX9_gathers 2 = .ok (.putfield 179, 3) := by decide +kernel
theorem dX9_gathers_5 : decode cX9_gathers 5 = .ok (.bipush (-18), 2) := by decide +kernel
theorem dX9_gathers_7 : decode cX9_gathers 7 = .ok (.istore_n 1, 1) := by decide +kernel
theorem dX9_gathers_8 : decode cX9_gathers 8 = .ok (.iload_n 1, 1) := by decide +kernel
theorem dX9_gathers_9 : decode cX9_gathers 9 = .ok (.bipush 18, 2) := by decide +kernel
theorem dX9_gathers_11 : decode cX9_gathers 11 = .ok (.if_icmp .gt 103, 3) := by decide +kernel
theorem dX9_gathers_14 : decode cX9_gathers 14 = .ok (.iconst 0, 1) := by decide +kernel
theorem dX9_gathers_15 : decode cX9_gathers 15 = .ok (.istore_n 2, 1) := by decide +kernel
theorem dX9_gathers_16 : decode cX9_gathers 16 = .ok (.iconst 0, 1) := by decide +kernel
theorem dX9_gathers_17 : decode cX9_gathers 17 = .ok (.istore_n 3, 1) := by decide +kernel
theorem dX9_gathers_18 : decode cX9_gathers 18 = .ok (.iload_n 3, 1) := by decide +kernel
theorem dX9_gathers_19 : decode cX9_gathers 19 = .ok (.bipush 9, 2) := by decide +kernel
theorem dX9_gathers_21 : decode cX9_gathers 21 = .ok (.aload_n 0, 1) := by decide +kernel
theorem dX9_gathers_22 : decode cX9_gathers 22 = .ok (.getfield 13, 3) := by decide +kernel
theorem dX9_gathers_25 : decode cX9_gathers 25 = .ok (.iconst 1, 1) := by decide +kernel
theorem dX9_gathers_26 : decode cX9_gathers 26 = .ok (.iaload, 1) := by decide +kernel
theorem dX9_gathers_27 : decode cX9_gathers 27 = .ok (.imul, 1) := by decide +kernel
theorem dX9_gathers_28 : decode cX9_gathers 28 = .ok (.if_icmp .ge 46, 3) := by decide +kernel
theorem dX9_gathers_31 : decode cX9_gathers 31 = .ok (.iload_n 2, 1) := by decide +kernel
theorem dX9_gathers_32 : decode cX9_gathers 32 = .ok (.iload_n 3, 1) := by decide +kernel
theorem dX9_gathers_33 : decode cX9_gathers 33 = .ok (.bipush 9, 2) := by decide +kernel
theorem dX9_gathers_35 : decode cX9_gathers 35 = .ok (.irem, 1) := by decide +kernel
theorem dX9_gathers_36 : decode cX9_gathers 36 = .ok (.aload_n 0, 1) := by decide +kernel
theorem dX9_gathers_37 : decode cX9_gathers 37 = .ok (.getfield 13, 3) := by decide +kernel
theorem dX9_gathers_40 : decode cX9_gathers 40 = .ok (.iconst 0, 1) := by decide +kernel
theorem dX9_gathers_41 : decode cX9_gathers 41 = .ok (.iaload, 1) := by decide +kernel
theorem dX9_gathers_42 : decode cX9_gathers 42 = .ok (.if_icmp .ge 23, 3) := by decide +kernel
theorem dX9_gathers_45 : decode cX9_gathers 45 = .ok (.aload_n 0, 1) := by decide +kernel
theorem dX9_gathers_46 : decode cX9_gathers 46 = .ok (.iload_n 3, 1) := by decide +kernel
theorem dX9_gathers_47 : decode cX9_gathers 47 = .ok (.bipush 9, 2) := by decide +kernel
theorem dX9_gathers_49 : decode cX9_gathers 49 = .ok (.irem, 1) := by decide +kernel
theorem dX9_gathers_50 : decode cX9_gathers 50 = .ok (.iload_n 3, 1) := by decide +kernel
theorem dX9_gathers_51 : decode cX9_gathers 51 = .ok (.bipush 9, 2) := by decide +kernel
theorem dX9_gathers_53 : decode cX9_gathers 53 = .ok (.idiv, 1) := by decide +kernel
theorem dX9_gathers_54 : decode cX9_gathers 54 = .ok (.invokevirtual 152, 3) := by decide +kernel
theorem dX9_gathers_57 : decode cX9_gathers 57 = .ok (.iload_n 1, 1) := by decide +kernel
theorem dX9_gathers_58 : decode cX9_gathers 58 = .ok (.if_icmp .ne 7, 3) := by decide +kernel
theorem dX9_gathers_61 : decode cX9_gathers 61 = .ok (.iconst 1, 1) := by decide +kernel
theorem dX9_gathers_62 : decode cX9_gathers 62 = .ok (.goto 4, 3) := by decide +kernel
theorem dX9_gathers_65 : decode cX9_gathers 65 = .ok (.iconst 0, 1) := by decide +kernel
theorem dX9_gathers_66 : decode cX9_gathers 66 = .ok (.iadd, 1) := by decide +kernel
theorem dX9_gathers_67 : decode cX9_gathers 67 = .ok (.istore_n 2, 1) := by decide +kernel
theorem dX9_gathers_68 : decode cX9_gathers 68 = .ok (.iinc 3 1, 3) := by decide +kernel
theorem dX9_gathers_71 : decode cX9_gathers 71 = .ok (.goto (-53), 3) := by decide +kernel
theorem dX9_gathers_74 : decode cX9_gathers 74 = .ok (.iload_n 2, 1) := by decide +kernel
theorem dX9_gathers_75 : decode cX9_gathers 75 = .ok (.ifCond .le 33, 3) := by decide +kernel
theorem dX9_gathers_78 : decode cX9_gathers 78 = .ok (.aload_n 0, 1) := by decide +kernel
theorem dX9_gathers_79 : decode cX9_gathers 79 = .ok (.getfield 28, 3) := by decide +kernel
theorem dX9_gathers_82 : decode cX9_gathers 82 = .ok (.aload_n 0, 1) := by decide +kernel
theorem dX9_gathers_83 : decode cX9_gathers 83 = .ok (.getfield 179, 3) := by decide +kernel
theorem dX9_gathers_86 : decode cX9_gathers 86 = .ok (.iload_n 1, 1) := by decide +kernel
theorem dX9_gathers_87 : decode cX9_gathers 87 = .ok (.iastore, 1) := by decide +kernel
theorem dX9_gathers_88 : decode cX9_gathers 88 = .ok (.aload_n 0, 1) := by decide +kernel
theorem dX9_gathers_89 : decode cX9_gathers 89 = .ok (.getfield 31, 3) := by decide +kernel
theorem dX9_gathers_92 : decode cX9_gathers 92 = .ok (.aload_n 0, 1) := by decide +kernel
theorem dX9_gathers_93 : decode cX9_gathers 93 = .ok (.getfield 179, 3) := by decide +kernel
theorem dX9_gathers_96 : decode cX9_gathers 96 = .ok (.iload_n 2, 1) := by decide +kernel
theorem dX9_gathers_97 : decode cX9_gathers 97 = .ok (.iastore, 1) := by decide +kernel
theorem dX9_gathers_98 : decode cX9_gathers 98 = .ok (.aload_n 0, 1) := by decide +kernel
theorem dX9_gathers_99 : decode cX9_gathers 99 = .ok (.dup, 1) := by decide +kernel
theorem dX9_gathers_100 : decode cX9_gathers 100 = .ok (.getfield 179, 3) := by decide +kernel
theorem dX9_gathers_103 : decode cX9_gathers 103 = .ok (.iconst 1, 1) := by decide +kernel
theorem dX9_gathers_104 : decode cX9_gathers 104 = .ok (.iadd, 1) := by decide +kernel
theorem dX9_gathers_105 : decode cX9_gathers 105 = .ok (.putfield 179, 3) := by decide +kernel
theorem dX9_gathers_108 : decode cX9_gathers 108 = .ok (.iinc 1 1, 3) := by decide +kernel
theorem dX9_gathers_111 : decode cX9_gathers 111 = .ok (.goto (-103), 3) := by decide +kernel
theorem dX9_gathers_114 : decode cX9_gathers 114 = .ok (.return_, 1) := by decide +kernel
theorem dX9_mark_0 : decode cX9_mark 0 = .ok (.iconst 0, 1) := by decide +kernel
theorem dX9_mark_1 : decode cX9_mark 1 = .ok (.istore_n 3, 1) := by decide +kernel
theorem dX9_mark_2 : decode cX9_mark 2 = .ok (.iload_n 1, 1) := by decide +kernel
theorem dX9_mark_3 : decode cX9_mark 3 = .ok (.istore 4, 2) := by decide +kernel
theorem dX9_mark_5 : decode cX9_mark 5 = .ok (.iload 4, 2) := by decide +kernel
theorem dX9_mark_7 : decode cX9_mark 7 = .ok (.iload_n 2, 1) := by decide +kernel
theorem dX9_mark_8 : decode cX9_mark 8 = .ok (.if_icmp .ge 19, 3) := by decide +kernel
theorem dX9_mark_11 : decode cX9_mark 11 = .ok (.iload_n 3, 1) := by decide +kernel
theorem dX9_mark_12 : decode cX9_mark 12 = .ok (.aload_n 0, 1) := by decide +kernel
theorem dX9_mark_13 : decode cX9_mark 13 = .ok (.getfield 31, 3) := by decide +kernel
theorem dX9_mark_16 : decode cX9_mark 16 = .ok (.iload 4, 2) := by decide +kernel
theorem dX9_mark_18 : decode cX9_mark 18 = .ok (.iaload, 1) := by decide +kernel
theorem dX9_mark_19 : decode cX9_mark 19 = .ok (.iadd, 1) := by decide +kernel
theorem dX9_mark_20 : decode cX9_mark 20 = .ok (.istore_n 3, 1) := by decide +kernel
theorem dX9_mark_21 : decode cX9_mark 21 = .ok (.iinc 4 1, 3) := by decide +kernel
theorem dX9_mark_24 : decode cX9_mark 24 = .ok (.goto (-19), 3) := by decide +kernel
theorem dX9_mark_27 : decode cX9_mark 27 = .ok (.iload_n 3, 1) := by decide +kernel
theorem dX9_mark_28 : decode cX9_mark 28 = .ok (.iconst 1, 1) := by decide +kernel
theorem dX9_mark_29 : decode cX9_mark 29 = .ok (.isub, 1) := by decide +kernel
theorem dX9_mark_30 : decode cX9_mark 30 = .ok (.iconst 2, 1) := by decide +kernel
theorem dX9_mark_31 : decode cX9_mark 31 = .ok (.idiv, 1) := by decide +kernel
theorem dX9_mark_32 : decode cX9_mark 32 = .ok (.istore 4, 2) := by decide +kernel
theorem dX9_mark_34 : decode cX9_mark 34 = .ok (.iload_n 1, 1) := by decide +kernel
theorem dX9_mark_35 : decode cX9_mark 35 = .ok (.istore 5, 2) := by decide +kernel
theorem dX9_mark_37 : decode cX9_mark 37 = .ok (.iload 4, 2) := by decide +kernel
theorem dX9_mark_39 : decode cX9_mark 39 = .ok (.aload_n 0, 1) := by decide +kernel
theorem dX9_mark_40 : decode cX9_mark 40 = .ok (.getfield 31, 3) := by decide +kernel
theorem dX9_mark_43 : decode cX9_mark 43 = .ok (.iload 5, 2) := by decide +kernel
theorem dX9_mark_45 : decode cX9_mark 45 = .ok (.iaload, 1) := by decide +kernel
theorem dX9_mark_46 : decode cX9_mark 46 = .ok (.if_icmp .lt 21, 3) := by decide +kernel
theorem dX9_mark_49 : decode cX9_mark 49 = .ok (.iload 4, 2) := by decide +kernel
theorem dX9_mark_51 : decode cX9_mark 51 = .ok (.aload_n 0, 1) := by decide +kernel
theorem dX9_mark_52 : decode cX9_mark 52 = .ok (.getfield 31, 3) := by decide +kernel
theorem dX9_mark_55 : decode cX9_mark 55 = .ok (.iload 5, 2) := by decide +kernel
theorem dX9_mark_57 : decode cX9_mark 57 = .ok (.iaload, 1) := by decide +kernel
theorem dX9_mark_58 : decode cX9_mark 58 = .ok (.isub, 1) := by decide +kernel
theorem dX9_mark_59 : decode cX9_mark 59 = .ok (.istore 4, 2) := by decide +kernel
theorem dX9_mark_61 : decode cX9_mark 61 = .ok (.iinc 5 1, 3) := by decide +kernel
theorem dX9_mark_64 : decode cX9_mark 64 = .ok (.goto (-27), 3) := by decide +kernel
theorem dX9_mark_67 : decode cX9_mark 67 = .ok (.aload_n 0, 1) := by decide +kernel
theorem dX9_mark_68 : decode cX9_mark 68 = .ok (.getfield 28, 3) := by decide +kernel
theorem dX9_mark_71 : decode cX9_mark 71 = .ok (.iload 5, 2) := by decide +kernel
theorem dX9_mark_73 : decode cX9_mark 73 = .ok (.iaload, 1) := by decide +kernel
theorem dX9_mark_74 : decode cX9_mark 74 = .ok (.ireturn, 1) := by decide +kernel
theorem dX9_errorOf_0 : decode cX9_errorOf 0 = .ok (.aload_n 0, 1) := by decide +kernel
theorem dX9_errorOf_1 : decode cX9_errorOf 1 = .ok (.iload_n 1, 1) := by decide +kernel
theorem dX9_errorOf_2 : decode cX9_errorOf 2 = .ok (.iload_n 2, 1) := by decide +kernel
theorem dX9_errorOf_3 : decode cX9_errorOf 3 = .ok (.invokevirtual 182, 3) := by decide +kernel
theorem dX9_errorOf_6 : decode cX9_errorOf 6 = .ok (.istore_n 3, 1) := by decide +kernel
theorem dX9_errorOf_7 : decode cX9_errorOf 7 = .ok (.iconst 0, 1) := by decide +kernel
theorem dX9_errorOf_8 : decode cX9_errorOf 8 = .ok (.istore 4, 2) := by decide +kernel
theorem dX9_errorOf_10 : decode cX9_errorOf 10 = .ok (.iload_n 1, 1) := by decide +kernel
theorem dX9_errorOf_11 : decode cX9_errorOf 11 = .ok (.istore 5, 2) := by decide +kernel
theorem dX9_errorOf_13 : decode cX9_errorOf 13 = .ok (.iload 5, 2) := by decide +kernel
theorem dX9_errorOf_15 : decode cX9_errorOf 15 = .ok (.iload_n 2, 1) := by decide +kernel
theorem dX9_errorOf_16 : decode cX9_errorOf 16 = .ok (.if_icmp .ge 34, 3) := by decide +kernel
theorem dX9_errorOf_19 : decode cX9_errorOf 19 = .ok (.iload 4, 2) := by decide +kernel
theorem dX9_errorOf_21 : decode cX9_errorOf 21 = .ok (.aload_n 0, 1) := by decide +kernel
theorem dX9_errorOf_22 : decode cX9_errorOf 22 = .ok (.getfield 31, 3) := by decide +kernel
theorem dX9_errorOf_25 : decode cX9_errorOf 25 = .ok (.iload 5, 2) := by decide +kernel
theorem dX9_errorOf_27 : decode cX9_errorOf 27 = .ok (.iaload, 1) := by decide +kernel
theorem dX9_errorOf_28 : decode cX9_errorOf 28 = .ok (.aload_n 0, 1) := by decide +kernel
theorem dX9_errorOf_29 : decode cX9_errorOf 29 = .ok (.getfield 28, 3) := by decide +kernel
theorem dX9_errorOf_32 : decode cX9_errorOf 32 = .ok (.iload 5, 2) := by decide +kernel
theorem dX9_errorOf_34 : decode cX9_errorOf 34 = .ok (.iaload, 1) := by decide +kernel
theorem dX9_errorOf_35 : decode cX9_errorOf 35 = .ok (.iload_n 3, 1) := by decide +kernel
theorem dX9_errorOf_36 : decode cX9_errorOf 36 = .ok (.isub, 1) := by decide +kernel
theorem dX9_errorOf_37 : decode cX9_errorOf 37 = .ok (.invokestatic 110, 3) := by decide +kernel
theorem dX9_errorOf_40 : decode cX9_errorOf 40 = .ok (.imul, 1) := by decide +kernel
theorem dX9_errorOf_41 : decode cX9_errorOf 41 = .ok (.iadd, 1) := by decide +kernel
theorem dX9_errorOf_42 : decode cX9_errorOf 42 = .ok (.istore 4, 2) := by decide +kernel
theorem dX9_errorOf_44 : decode cX9_errorOf 44 = .ok (.iinc 5 1, 3) := by decide +kernel
theorem dX9_errorOf_47 : decode cX9_errorOf 47 = .ok (.goto (-34), 3) := by decide +kernel
theorem dX9_errorOf_50 : decode cX9_errorOf 50 = .ok (.iload 4, 2) := by decide +kernel
theorem dX9_errorOf_52 : decode cX9_errorOf 52 = .ok (.ireturn, 1) := by decide +kernel
theorem dX9_at_0 : decode cX9_at 0 = .ok (.bipush 41, 2) := by decide +kernel
theorem dX9_at_2 : decode cX9_at 2 = .ok (.iload_n 0, 1) := by decide +kernel
theorem dX9_at_3 : decode cX9_at 3 = .ok (.imul, 1) := by decide +kernel
theorem dX9_at_4 : decode cX9_at 4 = .ok (.iload_n 1, 1) := by decide +kernel
theorem dX9_at_5 : decode cX9_at 5 = .ok (.iadd, 1) := by decide +kernel
theorem dX9_at_6 : decode cX9_at 6 = .ok (.ireturn, 1) := by decide +kernel
theorem dX9_cuts_0 : decode cX9_cuts 0 = .ok (.aload_n 0, 1) := by decide +kernel
theorem dX9_cuts_1 : decode cX9_cuts 1 = .ok (.invokevirtual 185, 3) := by decide +kernel
theorem dX9_cuts_4 : decode cX9_cuts 4 = .ok (.iload_n 1, 1) := by decide +kernel
theorem dX9_cuts_5 : decode cX9_cuts 5 = .ok (.aload_n 0, 1) := by decide +kernel
theorem dX9_cuts_6 : decode cX9_cuts 6 = .ok (.getfield 179, 3) := by decide +kernel
theorem dX9_cuts_9 : decode cX9_cuts 9 = .ok (.if_icmp .ge 7, 3) := by decide +kernel
theorem dX9_cuts_12 : decode cX9_cuts 12 = .ok (.iload_n 1, 1) := by decide +kernel
theorem dX9_cuts_13 : decode cX9_cuts 13 = .ok (.goto 7, 3) := by decide +kernel
theorem dX9_cuts_16 : decode cX9_cuts 16 = .ok (.aload_n 0, 1) := by decide +kernel
theorem dX9_cuts_17 : decode cX9_cuts 17 = .ok (.getfield 179, 3) := by decide +kernel
theorem dX9_cuts_20 : decode cX9_cuts 20 = .ok (.istore_n 2, 1) := by decide +kernel
theorem dX9_cuts_21 : decode cX9_cuts 21 = .ok (.iconst 0, 1) := by decide +kernel
theorem dX9_cuts_22 : decode cX9_cuts 22 = .ok (.istore_n 3, 1) := by decide +kernel
theorem dX9_cuts_23 : decode cX9_cuts 23 = .ok (.iload_n 3, 1) := by decide +kernel
theorem dX9_cuts_24 : decode cX9_cuts 24 = .ok (.aload_n 0, 1) := by decide +kernel
theorem dX9_cuts_25 : decode cX9_cuts 25 = .ok (.getfield 179, 3) := by decide +kernel
theorem dX9_cuts_28 : decode cX9_cuts 28 = .ok (.if_icmp .gt 33, 3) := by decide +kernel
theorem dX9_cuts_31 : decode cX9_cuts 31 = .ok (.aload_n 0, 1) := by decide +kernel
theorem dX9_cuts_32 : decode cX9_cuts 32 = .ok (.getfield 34, 3) := by decide +kernel
theorem dX9_cuts_35 : decode cX9_cuts 35 = .ok (.iconst 0, 1) := by decide +kernel
theorem dX9_cuts_36 : decode cX9_cuts 36 = .ok (.iload_n 3, 1) := by decide +kernel
theorem dX9_cuts_37 : decode cX9_cuts 37 = .ok (.invokestatic 188, 3) := by decide +kernel
theorem dX9_cuts_40 : decode cX9_cuts 40 = .ok (.iload_n 3, 1) := by decide +kernel
theorem dX9_cuts_41 : decode cX9_cuts 41 = .ok (.aload_n 0, 1) := by decide +kernel
theorem dX9_cuts_42 : decode cX9_cuts 42 = .ok (.getfield 179, 3) := by decide +kernel
theorem dX9_cuts_45 : decode cX9_cuts 45 = .ok (.if_icmp .ne 7, 3) := by decide +kernel
theorem dX9_cuts_48 : decode cX9_cuts 48 = .ok (.iconst 0, 1) := by decide +kernel
theorem dX9_cuts_49 : decode cX9_cuts 49 = .ok (.goto 5, 3) := by decide +kernel
theorem dX9_cuts_52 : decode cX9_cuts 52 = .ok (.ldc 191, 2) := by decide +kernel
theorem dX9_cuts_54 : decode cX9_cuts 54 = .ok (.iastore, 1) := by decide +kernel
theorem dX9_cuts_55 : decode cX9_cuts 55 = .ok (.iinc 3 1, 3) := by decide +kernel
theorem dX9_cuts_58 : decode cX9_cuts 58 = .ok (.goto (-35), 3) := by decide +kernel
theorem dX9_cuts_61 : decode cX9_cuts 61 = .ok (.iconst 1, 1) := by decide +kernel
theorem dX9_cuts_62 : decode cX9_cuts 62 = .ok (.istore_n 3, 1) := by decide +kernel
theorem dX9_cuts_63 : decode cX9_cuts 63 = .ok (.iload_n 3, 1) := by decide +kernel
theorem dX9_cuts_64 : decode cX9_cuts 64 = .ok (.iload_n 2, 1) := by decide +kernel
theorem dX9_cuts_65 : decode cX9_cuts 65 = .ok (.if_icmp .gt 203, 3) := by decide +kernel
theorem dX9_cuts_68 : decode cX9_cuts 68 = .ok (.aload_n 0, 1) := by decide +kernel
theorem dX9_cuts_69 : decode cX9_cuts 69 = .ok (.getfield 34, 3) := by decide +kernel
theorem dX9_cuts_72 : decode cX9_cuts 72 = .ok (.iload_n 3, 1) := by decide +kernel
theorem dX9_cuts_73 : decode cX9_cuts 73 = .ok (.aload_n 0, 1) := by decide +kernel
theorem dX9_cuts_74 : decode cX9_cuts 74 = .ok (.getfield 179, 3) := by decide +kernel
theorem dX9_cuts_77 : decode cX9_cuts 77 = .ok (.invokestatic 188, 3) := by decide +kernel
theorem dX9_cuts_80 : decode cX9_cuts 80 = .ok (.ldc 191, 2) := by decide +kernel
theorem dX9_cuts_82 : decode cX9_cuts 82 = .ok (.iastore, 1) := by decide +kernel
theorem dX9_cuts_83 : decode cX9_cuts 83 = .ok (.aload_n 0, 1) := by decide +kernel
theorem dX9_cuts_84 : decode cX9_cuts 84 = .ok (.getfield 179, 3) := by decide +kernel
theorem dX9_cuts_87 : decode cX9_cuts 87 = .ok (.iconst 1, 1) := by decide +kernel
theorem dX9_cuts_88 : decode cX9_cuts 88 = .ok (.isub, 1) := by decide +kernel
theorem dX9_cuts_89 : decode cX9_cuts 89 = .ok (.istore 4, 2) := by decide +kernel
theorem dX9_cuts_91 : decode cX9_cuts 91 = .ok (.iload 4, 2) := by decide +kernel
theorem dX9_cuts_93 : decode cX9_cuts 93 = .ok (.ifCond .lt 169, 3) := by decide +kernel
theorem dX9_cuts_96 : decode cX9_cuts 96 = .ok (.aload_n 0, 1) := by decide +kernel
theorem dX9_cuts_97 : decode cX9_cuts 97 = .ok (.getfield 34, 3) := by decide +kernel
theorem dX9_cuts_100 : decode cX9_cuts 100 = .ok (.iload_n 3, 1) := by decide +kernel
theorem dX9_cuts_101 : decode cX9_cuts 101 = .ok (.iload 4, 2) := by decide +kernel
theorem dX9_cuts_103 : decode cX9_cuts 103 = .ok (.invokestatic 188, 3) := by decide +kernel
theorem dX9_cuts_106 : decode cX9_cuts 106 = .ok (.ldc 191, 2) := by decide +kernel
theorem dX9_cuts_108 : decode cX9_cuts 108 = .ok (.iastore, 1) := by decide +kernel
theorem dX9_cuts_109 : decode cX9_cuts 109 = .ok (.iload 4, 2) := by decide +kernel
theorem dX9_cuts_111 : decode cX9_cuts 111 = .ok (.iconst 1, 1) := by decide +kernel
theorem dX9_cuts_112 : decode cX9_cuts 112 = .ok (.iadd, 1) := by decide +kernel
theorem dX9_cuts_113 : decode cX9_cuts 113 = .ok (.istore 5, 2) := by decide +kernel
theorem dX9_cuts_115 : decode cX9_cuts 115 = .ok (.iload 5, 2) := by decide +kernel
theorem dX9_cuts_117 : decode cX9_cuts 117 = .ok (.aload_n 0, 1) := by decide +kernel
theorem dX9_cuts_118 : decode cX9_cuts 118 = .ok (.getfield 179, 3) := by decide +kernel
theorem dX9_cuts_121 : decode cX9_cuts 121 = .ok (.if_icmp .gt 135, 3) := by decide +kernel
theorem dX9_cuts_124 : decode cX9_cuts 124 = .ok (.aload_n 0, 1) := by decide +kernel
theorem dX9_cuts_125 : decode cX9_cuts 125 = .ok (.getfield 34, 3) := by decide +kernel
theorem dX9_cuts_128 : decode cX9_cuts 128 = .ok (.iload_n 3, 1) := by decide +kernel
theorem dX9_cuts_129 : decode cX9_cuts 129 = .ok (.iconst 1, 1) := by decide +kernel
theorem dX9_cuts_130 : decode cX9_cuts 130 = .ok (.isub, 1) := by decide +kernel
theorem dX9_cuts_131 : decode cX9_cuts 131 = .ok (.iload 5, 2) := by decide +kernel
theorem dX9_cuts_133 : decode cX9_cuts 133 = .ok (.invokestatic 188, 3) := by decide +kernel
theorem dX9_cuts_136 : decode cX9_cuts 136 = .ok (.iaload, 1) := by decide +kernel
theorem dX9_cuts_137 : decode cX9_cuts 137 = .ok (.istore 6, 2) := by decide +kernel
theorem dX9_cuts_139 : decode cX9_cuts 139 = .ok (.iload 6, 2) := by decide +kernel
theorem dX9_cuts_141 : decode cX9_cuts 141 = .ok (.ldc 191, 2) := by decide +kernel
theorem dX9_cuts_143 : decode cX9_cuts 143 = .ok (.if_icmp .ge 17, 3) := by decide +kernel
theorem dX9_cuts_146 : decode cX9_cuts 146 = .ok (.iload 6, 2) := by decide +kernel
theorem dX9_cuts_148 : decode cX9_cuts 148 = .ok (.aload_n 0, 1) := by decide +kernel
theorem dX9_cuts_149 : decode cX9_cuts 149 = .ok (.iload 4, 2) := by decide +kernel
theorem dX9_cuts_151 : decode cX9_cuts 151 = .ok (.iload 5, 2) := by decide +kernel
theorem dX9_cuts_153 : decode cX9_cuts 153 = .ok (.invokevirtual 192, 3) := by decide +kernel
theorem dX9_cuts_156 : decode cX9_cuts 156 = .ok (.iadd, 1) := by decide +kernel
theorem dX9_cuts_157 : decode cX9_cuts 157 = .ok (.goto 5, 3) := by decide +kernel
theorem dX9_cuts_160 : decode cX9_cuts 160 = .ok (.ldc 191, 2) := by decide +kernel
theorem dX9_cuts_162 : decode cX9_cuts 162 = .ok (.istore 7, 2) := by decide +kernel
theorem dX9_cuts_164 : decode cX9_cuts 164 = .ok (.aload_n 0, 1) := by decide +kernel
theorem dX9_cuts_165 : decode cX9_cuts 165 = .ok (.getfield 37, 3) := by decide +kernel
theorem dX9_cuts_168 : decode cX9_cuts 168 = .ok (.iload_n 3, 1) := by decide +kernel
theorem dX9_cuts_169 : decode cX9_cuts 169 = .ok (.iload 4, 2) := by decide +kernel
theorem dX9_cuts_171 : decode cX9_cuts 171 = .ok (.invokestatic 188, 3) := by decide +kernel
theorem dX9_cuts_174 : decode cX9_cuts 174 = .ok (.iload 7, 2) := by decide +kernel
theorem dX9_cuts_176 : decode cX9_cuts 176 = .ok (.aload_n 0, 1) := by decide +kernel
theorem dX9_cuts_177 : decode cX9_cuts 177 = .ok (.getfield 34, 3) := by decide +kernel
theorem dX9_cuts_180 : decode cX9_cuts 180 = .ok (.iload_n 3, 1) := by decide +kernel
theorem dX9_cuts_181 : decode cX9_cuts 181 = .ok (.iload 4, 2) := by decide +kernel
theorem dX9_cuts_183 : decode cX9_cuts 183 = .ok (.invokestatic 188, 3) := by decide +kernel
theorem dX9_cuts_186 : decode cX9_cuts 186 = .ok (.iaload, 1) := by decide +kernel
theorem dX9_cuts_187 : decode cX9_cuts 187 = .ok (.if_icmp .ge 8, 3) := by decide +kernel
theorem dX9_cuts_190 : decode cX9_cuts 190 = .ok (.iload 5, 2) := by decide +kernel
theorem dX9_cuts_192 : decode cX9_cuts 192 = .ok (.goto 14, 3) := by decide +kernel
theorem dX9_cuts_195 : decode cX9_cuts 195 = .ok (.aload_n 0, 1) := by decide +kernel
theorem dX9_cuts_196 : decode cX9_cuts 196 = .ok (.getfield 37, 3) := by decide +kernel
theorem dX9_cuts_199 : decode cX9_cuts 199 = .ok (.iload_n 3, 1) := by decide +kernel
theorem dX9_cuts_200 : decode cX9_cuts 200 = .ok (.iload 4, 2) := by decide +kernel
theorem dX9_cuts_202 : decode cX9_cuts 202 = .ok (.invokestatic 188, 3) := by decide +kernel
theorem dX9_cuts_205 : decode cX9_cuts 205 = .ok (.iaload, 1) := by decide +kernel
theorem dX9_cuts_206 : decode cX9_cuts 206 = .ok (.iastore, 1) := by decide +kernel
theorem dX9_cuts_207 : decode cX9_cuts 207 = .ok (.aload_n 0, 1) := by decide +kernel
theorem dX9_cuts_208 : decode cX9_cuts 208 = .ok (.getfield 34, 3) := by decide +kernel
theorem dX9_cuts_211 : decode cX9_cuts 211 = .ok (.iload_n 3, 1) := by decide +kernel
theorem dX9_cuts_212 : decode cX9_cuts 212 = .ok (.iload 4, 2) := by decide +kernel
theorem dX9_cuts_214 : decode cX9_cuts 214 = .ok (.invokestatic 188, 3) := by decide +kernel
theorem dX9_cuts_217 : decode cX9_cuts 217 = .ok (.iload 7, 2) := by decide +kernel
theorem dX9_cuts_219 : decode cX9_cuts 219 = .ok (.aload_n 0, 1) := by decide +kernel
theorem dX9_cuts_220 : decode cX9_cuts 220 = .ok (.getfield 34, 3) := by decide +kernel
theorem dX9_cuts_223 : decode cX9_cuts 223 = .ok (.iload_n 3, 1) := by decide +kernel
theorem dX9_cuts_224 : decode cX9_cuts 224 = .ok (.iload 4, 2) := by decide +kernel
theorem dX9_cuts_226 : decode cX9_cuts 226 = .ok (.invokestatic 188, 3) := by decide +kernel
theorem dX9_cuts_229 : decode cX9_cuts 229 = .ok (.iaload, 1) := by decide +kernel
theorem dX9_cuts_230 : decode cX9_cuts 230 = .ok (.if_icmp .ge 8, 3) := by decide +kernel
theorem dX9_cuts_233 : decode cX9_cuts 233 = .ok (.iload 7, 2) := by decide +kernel
theorem dX9_cuts_235 : decode cX9_cuts 235 = .ok (.goto 14, 3) := by decide +kernel
theorem dX9_cuts_238 : decode cX9_cuts 238 = .ok (.aload_n 0, 1) := by decide +kernel
theorem dX9_cuts_239 : decode cX9_cuts 239 = .ok (.getfield 34, 3) := by decide +kernel
theorem dX9_cuts_242 : decode cX9_cuts 242 = .ok (.iload_n 3, 1) := by decide +kernel
theorem dX9_cuts_243 : decode cX9_cuts 243 = .ok (.iload 4, 2) := by decide +kernel
theorem dX9_cuts_245 : decode cX9_cuts 245 = .ok (.invokestatic 188, 3) := by decide +kernel
theorem dX9_cuts_248 : decode cX9_cuts 248 = .ok (.iaload, 1) := by decide +kernel
theorem dX9_cuts_249 : decode cX9_cuts 249 = .ok (.iastore, 1) := by decide +kernel
theorem dX9_cuts_250 : decode cX9_cuts 250 = .ok (.iinc 5 1, 3) := by decide +kernel
theorem dX9_cuts_253 : decode cX9_cuts 253 = .ok (.goto (-138), 3) := by decide +kernel
theorem dX9_cuts_256 : decode cX9_cuts 256 = .ok (.iinc 4 (-1), 3) := by decide +kernel
theorem dX9_cuts_259 : decode cX9_cuts 259 = .ok (.goto (-168), 3) := by decide +kernel
theorem dX9_cuts_262 : decode cX9_cuts 262 = .ok (.iinc 3 1, 3) := by decide +kernel
theorem dX9_cuts_265 : decode cX9_cuts 265 = .ok (.goto (-202), 3) := by decide +kernel
theorem dX9_cuts_268 : decode cX9_cuts 268 = .ok (.iload_n 2, 1) := by decide +kernel
theorem dX9_cuts_269 : decode cX9_cuts 269 = .ok (.ireturn, 1) := by decide +kernel
theorem dX9_shadeOf_0 : decode cX9_shadeOf 0 = .ok (.aload_n 0, 1) := by decide +kernel
theorem dX9_shadeOf_1 : decode cX9_shadeOf 1 = .ok (.aload_n 0, 1) := by decide +kernel
theorem dX9_shadeOf_2 : decode cX9_shadeOf 2 = .ok (.getfield 13, 3) := by decide +kernel
theorem dX9_shadeOf_5 : decode cX9_shadeOf 5 = .ok (.bipush 6, 2) := by decide +kernel
theorem dX9_shadeOf_7 : decode cX9_shadeOf 7 = .ok (.iaload, 1) := by decide +kernel
theorem dX9_shadeOf_8 : decode cX9_shadeOf 8 = .ok (.invokevirtual 195, 3) := by decide +kernel
theorem dX9_shadeOf_11 : decode cX9_shadeOf 11 = .ok (.istore_n 2, 1) := by decide +kernel
theorem dX9_shadeOf_12 : decode cX9_shadeOf 12 = .ok (.iconst 0, 1) := by decide +kernel
theorem dX9_shadeOf_13 : decode cX9_shadeOf 13 = .ok (.istore_n 3, 1) := by decide +kernel
theorem dX9_shadeOf_14 : decode cX9_shadeOf 14 = .ok (.iconst 0, 1) := by decide +kernel
theorem dX9_shadeOf_15 : decode cX9_shadeOf 15 = .ok (.istore 4, 2) := by decide +kernel
theorem dX9_shadeOf_17 : decode cX9_shadeOf 17 = .ok (.iload 4, 2) := by decide +kernel
theorem dX9_shadeOf_19 : decode cX9_shadeOf 19 = .ok (.iload_n 2, 1) := by decide +kernel
theorem dX9_shadeOf_20 : decode cX9_shadeOf 20 = .ok (.if_icmp .ge 43, 3) := by decide +kernel
theorem dX9_shadeOf_23 : decode cX9_shadeOf 23 = .ok (.aload_n 0, 1) := by decide +kernel
theorem dX9_shadeOf_24 : decode cX9_shadeOf 24 = .ok (.getfield 37, 3) := by decide +kernel
theorem dX9_shadeOf_27 : decode cX9_shadeOf 27 = .ok (.iload_n 2, 1) := by decide +kernel
theorem dX9_shadeOf_28 : decode cX9_shadeOf 28 = .ok (.iload 4, 2) := by decide +kernel
theorem dX9_shadeOf_30 : decode cX9_shadeOf 30 = .ok (.isub, 1) := by decide +kernel
theorem dX9_shadeOf_31 : decode cX9_shadeOf 31 = .ok (.iload_n 3, 1) := by decide +kernel
theorem dX9_shadeOf_32 : decode cX9_shadeOf 32 = .ok (.invokestatic 188, 3) := by decide +kernel
theorem dX9_shadeOf_35 : decode cX9_shadeOf 35 = .ok (.iaload, 1) := by decide +kernel
theorem dX9_shadeOf_36 : decode cX9_shadeOf 36 = .ok (.istore 5, 2) := by decide +kernel
theorem dX9_shadeOf_38 : decode cX9_shadeOf 38 = .ok (.iload_n 1, 1) := by decide +kernel
theorem dX9_shadeOf_39 : decode cX9_shadeOf 39 = .ok (.aload_n 0, 1) := by decide +kernel
theorem dX9_shadeOf_40 : decode cX9_shadeOf 40 = .ok (.getfield 28, 3) := by decide +kernel
theorem dX9_shadeOf_43 : decode cX9_shadeOf 43 = .ok (.iload 5, 2) := by decide +kernel
theorem dX9_shadeOf_45 : decode cX9_shadeOf 45 = .ok (.iconst 1, 1) := by decide +kernel
theorem dX9_shadeOf_46 : decode cX9_shadeOf 46 = .ok (.isub, 1) := by decide +kernel
theorem dX9_shadeOf_47 : decode cX9_shadeOf 47 = .ok (.iaload, 1) := by decide +kernel
theorem dX9_shadeOf_48 : decode cX9_shadeOf 48 = .ok (.if_icmp .gt 6, 3) := by decide +kernel
theorem dX9_shadeOf_51 : decode cX9_shadeOf 51 = .ok (.iload 4, 2) := by decide +kernel
theorem dX9_shadeOf_53 : decode cX9_shadeOf 53 = .ok (.ireturn, 1) := by decide +kernel
theorem dX9_shadeOf_54 : decode cX9_shadeOf 54 = .ok (.iload 5, 2) := by decide +kernel
theorem dX9_shadeOf_56 : decode cX9_shadeOf 56 = .ok (.istore_n 3, 1) := by decide +kernel
theorem dX9_shadeOf_57 : decode cX9_shadeOf 57 = .ok (.iinc 4 1, 3) := by decide +kernel
theorem dX9_shadeOf_60 : decode cX9_shadeOf 60 = .ok (.goto (-43), 3) := by decide +kernel
theorem dX9_shadeOf_63 : decode cX9_shadeOf 63 = .ok (.iload 4, 2) := by decide +kernel
theorem dX9_shadeOf_65 : decode cX9_shadeOf 65 = .ok (.ireturn, 1) := by decide +kernel
theorem dX9_shade_0 : decode cX9_shade 0 = .ok (.iload_n 1, 1) := by decide +kernel
theorem dX9_shade_1 : decode cX9_shade 1 = .ok (.bipush (-2), 2) := by decide +kernel
theorem dX9_shade_3 : decode cX9_shade 3 = .ok (.if_icmp .ge 5, 3) := by decide +kernel
theorem dX9_shade_6 : decode cX9_shade 6 = .ok (.iconst (-1), 1) := by decide +kernel
theorem dX9_shade_7 : decode cX9_shade 7 = .ok (.ireturn, 1) := by decide +kernel
theorem dX9_shade_8 : decode cX9_shade 8 = .ok (.aload_n 0, 1) := by decide +kernel
theorem dX9_shade_9 : decode cX9_shade 9 = .ok (.aload_n 0, 1) := by decide +kernel
theorem dX9_shade_10 : decode cX9_shade 10 = .ok (.getfield 13, 3) := by decide +kernel
theorem dX9_shade_13 : decode cX9_shade 13 = .ok (.bipush 6, 2) := by decide +kernel
theorem dX9_shade_15 : decode cX9_shade 15 = .ok (.iaload, 1) := by decide +kernel
theorem dX9_shade_16 : decode cX9_shade 16 = .ok (.invokevirtual 195, 3) := by decide +kernel
theorem dX9_shade_19 : decode cX9_shade 19 = .ok (.istore_n 2, 1) := by decide +kernel
theorem dX9_shade_20 : decode cX9_shade 20 = .ok (.iload_n 1, 1) := by decide +kernel
theorem dX9_shade_21 : decode cX9_shade 21 = .ok (.ifCond .lt 8, 3) := by decide +kernel
theorem dX9_shade_24 : decode cX9_shade 24 = .ok (.iload_n 1, 1) := by decide +kernel
theorem dX9_shade_25 : decode cX9_shade 25 = .ok (.iload_n 2, 1) := by decide +kernel
theorem dX9_shade_26 : decode cX9_shade 26 = .ok (.if_icmp .lt 34, 3) := by decide +kernel
theorem dX9_shade_29 : decode cX9_shade 29 = .ok (.iload_n 1, 1) := by decide +kernel
theorem dX9_shade_30 : decode cX9_shade 30 = .ok (.iconst (-1), 1) := by decide +kernel
theorem dX9_shade_31 : decode cX9_shade 31 = .ok (.if_icmp .ne 7, 3) := by decide +kernel
theorem dX9_shade_34 : decode cX9_shade 34 = .ok (.iload_n 2, 1) := by decide +kernel
theorem dX9_shade_35 : decode cX9_shade 35 = .ok (.goto 24, 3) := by decide +kernel
theorem dX9_shade_38 : decode cX9_shade 38 = .ok (.iload_n 1, 1) := by decide +kernel
theorem dX9_shade_39 : decode cX9_shade 39 = .ok (.bipush (-2), 2) := by decide +kernel
theorem dX9_shade_41 : decode cX9_shade 41 = .ok (.if_icmp .ne 16, 3) := by decide +kernel
theorem dX9_shade_44 : decode cX9_shade 44 = .ok (.aload_n 0, 1) := by decide +kernel
theorem dX9_shade_45 : decode cX9_shade 45 = .ok (.getfield 34, 3) := by decide +kernel
theorem dX9_shade_48 : decode cX9_shade 48 = .ok (.iload_n 2, 1) := by decide +kernel
theorem dX9_shade_49 : decode cX9_shade 49 = .ok (.iconst 0, 1) := by decide +kernel
theorem dX9_shade_50 : decode cX9_shade 50 = .ok (.invokestatic 188, 3) := by decide +kernel
theorem dX9_shade_53 : decode cX9_shade 53 = .ok (.iaload, 1) := by decide +kernel
theorem dX9_shade_54 : decode cX9_shade 54 = .ok (.goto 5, 3) := by decide +kernel
theorem dX9_shade_57 : decode cX9_shade 57 = .ok (.bipush (-4), 2) := by decide +kernel
theorem dX9_shade_59 : decode cX9_shade 59 = .ok (.ireturn, 1) := by decide +kernel
theorem dX9_shade_60 : decode cX9_shade 60 = .ok (.iconst 0, 1) := by decide +kernel
theorem dX9_shade_61 : decode cX9_shade 61 = .ok (.istore_n 3, 1) := by decide +kernel
theorem dX9_shade_62 : decode cX9_shade 62 = .ok (.iconst 0, 1) := by decide +kernel
theorem dX9_shade_63 : decode cX9_shade 63 = .ok (.istore 4, 2) := by decide +kernel
theorem dX9_shade_65 : decode cX9_shade 65 = .ok (.iload 4, 2) := by decide +kernel
theorem dX9_shade_67 : decode cX9_shade 67 = .ok (.iload_n 1, 1) := by decide +kernel
theorem dX9_shade_68 : decode cX9_shade 68 = .ok (.if_icmp .ge 23, 3) := by decide +kernel
theorem dX9_shade_71 : decode cX9_shade 71 = .ok (.aload_n 0, 1) := by decide +kernel
theorem dX9_shade_72 : decode cX9_shade 72 = .ok (.getfield 37, 3) := by decide +kernel
theorem dX9_shade_75 : decode cX9_shade 75 = .ok (.iload_n 2, 1) := by decide +kernel
theorem dX9_shade_76 : decode cX9_shade 76 = .ok (.iload 4, 2) := by decide +kernel
theorem dX9_shade_78 : decode cX9_shade 78 = .ok (.isub, 1) := by decide +kernel
theorem dX9_shade_79 : decode cX9_shade 79 = .ok (.iload_n 3, 1) := by decide +kernel
theorem dX9_shade_80 : decode cX9_shade 80 = .ok (.invokestatic 188, 3) := by decide +kernel
theorem dX9_shade_83 : decode cX9_shade 83 = .ok (.iaload, 1) := by decide +kernel
theorem dX9_shade_84 : decode cX9_shade 84 = .ok (.istore_n 3, 1) := by decide +kernel
theorem dX9_shade_85 : decode cX9_shade 85 = .ok (.iinc 4 1, 3) := by decide +kernel
theorem dX9_shade_88 : decode cX9_shade 88 = .ok (.goto (-23), 3) := by decide +kernel
theorem dX9_shade_91 : decode cX9_shade 91 = .ok (.aload_n 0, 1) := by decide +kernel
theorem dX9_shade_92 : decode cX9_shade 92 = .ok (.iload_n 3, 1) := by decide +kernel
theorem dX9_shade_93 : decode cX9_shade 93 = .ok (.aload_n 0, 1) := by decide +kernel
theorem dX9_shade_94 : decode cX9_shade 94 = .ok (.getfield 37, 3) := by decide +kernel
theorem dX9_shade_97 : decode cX9_shade 97 = .ok (.iload_n 2, 1) := by decide +kernel
theorem dX9_shade_98 : decode cX9_shade 98 = .ok (.iload_n 1, 1) := by decide +kernel
theorem dX9_shade_99 : decode cX9_shade 99 = .ok (.isub, 1) := by decide +kernel
theorem dX9_shade_100 : decode cX9_shade 100 = .ok (.iload_n 3, 1) := by decide +kernel
theorem dX9_shade_101 : decode cX9_shade 101 = .ok (.invokestatic 188, 3) := by decide +kernel
theorem dX9_shade_104 : decode cX9_shade 104 = .ok (.iaload, 1) := by decide +kernel
theorem dX9_shade_105 : decode cX9_shade 105 = .ok (.invokevirtual 182, 3) := by decide +kernel
theorem dX9_shade_108 : decode cX9_shade 108 = .ok (.bipush 100, 2) := by decide +kernel
theorem dX9_shade_110 : decode cX9_shade 110 = .ok (.iadd, 1) := by decide +kernel
theorem dX9_shade_111 : decode cX9_shade 111 = .ok (.ireturn, 1) := by decide +kernel
theorem dX9_error_0 : decode cX9_error 0 = .ok (.iload_n 1, 1) := by decide +kernel
theorem dX9_error_1 : decode cX9_error 1 = .ok (.i2l, 1) := by decide +kernel
theorem dX9_error_2 : decode cX9_error 2 = .ok (.ldc2_w 100, 3) := by decide +kernel
theorem dX9_error_5 : decode cX9_error 5 = .ok (.ldc2_w 102, 3) := by decide +kernel
theorem dX9_error_8 : decode cX9_error 8 = .ok (.invokestatic 56, 3) := by decide +kernel
theorem dX9_error_11 : decode cX9_error 11 = .ok (.ifCond .ne 5, 3) := by decide +kernel
theorem dX9_error_14 : decode cX9_error 14 = .ok (.iconst (-1), 1) := by decide +kernel
theorem dX9_error_15 : decode cX9_error 15 = .ok (.ireturn, 1) := by decide +kernel
theorem dX9_error_16 : decode cX9_error 16 = .ok (.aload_n 0, 1) := by decide +kernel
theorem dX9_error_17 : decode cX9_error 17 = .ok (.iload_n 1, 1) := by decide +kernel
theorem dX9_error_18 : decode cX9_error 18 = .ok (.invokevirtual 195, 3) := by decide +kernel
theorem dX9_error_21 : decode cX9_error 21 = .ok (.istore_n 2, 1) := by decide +kernel
theorem dX9_error_22 : decode cX9_error 22 = .ok (.aload_n 0, 1) := by decide +kernel
theorem dX9_error_23 : decode cX9_error 23 = .ok (.getfield 34, 3) := by decide +kernel
theorem dX9_error_26 : decode cX9_error 26 = .ok (.iload_n 2, 1) := by decide +kernel
theorem dX9_error_27 : decode cX9_error 27 = .ok (.iconst 0, 1) := by decide +kernel
theorem dX9_error_28 : decode cX9_error 28 = .ok (.invokestatic 188, 3) := by decide +kernel
theorem dX9_error_31 : decode cX9_error 31 = .ok (.iaload, 1) := by decide +kernel
theorem dX9_error_32 : decode cX9_error 32 = .ok (.ireturn, 1) := by decide +kernel
theorem dX9_isHigh_0 : decode cX9_isHigh 0 = .ok (.aload_n 0, 1) := by decide +kernel
theorem dX9_isHigh_1 : decode cX9_isHigh 1 = .ok (.iload_n 1, 1) := by decide +kernel
theorem dX9_isHigh_2 : decode cX9_isHigh 2 = .ok (.iload_n 2, 1) := by decide +kernel
theorem dX9_isHigh_3 : decode cX9_isHigh 3 = .ok (.invokevirtual 104, 3) := by decide +kernel
theorem dX9_isHigh_6 : decode cX9_isHigh 6 = .ok (.ifCond .eq 17, 3) := by decide +kernel
theorem dX9_isHigh_9 : decode cX9_isHigh 9 = .ok (.aload_n 0, 1) := by decide +kernel
theorem dX9_isHigh_10 : decode cX9_isHigh 10 = .ok (.iload_n 1, 1) := by decide +kernel
theorem dX9_isHigh_11 : decode cX9_isHigh 11 = .ok (.iload_n 2, 1) := by decide +kernel
theorem dX9_isHigh_12 : decode cX9_isHigh 12 = .ok (.invokevirtual 123, 3) := by decide +kernel
theorem dX9_isHigh_15 : decode cX9_isHigh 15 = .ok (.iload_n 3, 1) := by decide +kernel
theorem dX9_isHigh_16 : decode cX9_isHigh 16 = .ok (.if_icmp .lt 7, 3) := by decide +kernel
theorem dX9_isHigh_19 : decode cX9_isHigh 19 = .ok (.iconst 1, 1) := by decide +kernel
theorem dX9_isHigh_20 : decode cX9_isHigh 20 = .ok (.goto 4, 3) := by decide +kernel
theorem dX9_isHigh_23 : decode cX9_isHigh 23 = .ok (.iconst 0, 1) := by decide +kernel
theorem dX9_isHigh_24 : decode cX9_isHigh 24 = .ok (.ireturn, 1) := by decide +kernel
theorem dX9_hills_0 : decode cX9_hills 0 = .ok (.iconst 0, 1) := by decide +kernel
theorem dX9_hills_1 : decode cX9_hills 1 = .ok (.istore_n 2, 1) := by decide +kernel
theorem dX9_hills_2 : decode cX9_hills 2 = .ok (.iconst 0, 1) := by decide +kernel
theorem dX9_hills_3 : decode cX9_hills 3 = .ok (.istore_n 3, 1) := by decide +kernel
theorem dX9_hills_4 : decode cX9_hills 4 = .ok (.iload_n 3, 1) := by decide +kernel
theorem dX9_hills_5 : decode cX9_hills 5 = .ok (.bipush 81, 2) := by decide +kernel
theorem dX9_hills_7 : decode cX9_hills 7 = .ok (.if_icmp .ge 37, 3) := by decide +kernel
theorem dX9_hills_10 : decode cX9_hills 10 = .ok (.aload_n 0, 1) := by decide +kernel
theorem dX9_hills_11 : decode cX9_hills 11 = .ok (.getfield 40, 3) := by decide +kernel
theorem dX9_hills_14 : decode cX9_hills 14 = .ok (.iload_n 3, 1) := by decide +kernel
theorem dX9_hills_15 : decode cX9_hills 15 = .ok (.aload_n 0, 1) := by decide +kernel
theorem dX9_hills_16 : decode cX9_hills 16 = .ok (.iload_n 3, 1) := by decide +kernel
theorem dX9_hills_17 : decode cX9_hills 17 = .ok (.bipush 9, 2) := by decide +kernel
theorem dX9_hills_19 : decode cX9_hills 19 = .ok (.irem, 1) := by decide +kernel
theorem dX9_hills_20 : decode cX9_hills 20 = .ok (.iload_n 3, 1) := by decide +kernel
theorem dX9_hills_21 : decode cX9_hills 21 = .ok (.bipush 9, 2) := by decide +kernel
theorem dX9_hills_23 : decode cX9_hills 23 = .ok (.idiv, 1) := by decide +kernel
theorem dX9_hills_24 : decode cX9_hills 24 = .ok (.iload_n 1, 1) := by decide +kernel
theorem dX9_hills_25 : decode cX9_hills 25 = .ok (.invokevirtual 198, 3) := by decide +kernel
theorem dX9_hills_28 : decode cX9_hills 28 = .ok (.ifCond .eq 7, 3) := by decide +kernel
theorem dX9_hills_31 : decode cX9_hills 31 = .ok (.iload_n 3, 1) := by decide +kernel
theorem dX9_hills_32 : decode cX9_hills 32 = .ok (.goto 5, 3) := by decide +kernel
theorem dX9_hills_35 : decode cX9_hills 35 = .ok (.bipush (-4), 2) := by decide +kernel
theorem dX9_hills_37 : decode cX9_hills 37 = .ok (.iastore, 1) := by decide +kernel
theorem dX9_hills_38 : decode cX9_hills 38 = .ok (.iinc 3 1, 3) := by decide +kernel
theorem dX9_hills_41 : decode cX9_hills 41 = .ok (.goto (-37), 3) := by decide +kernel
theorem dX9_hills_44 : decode cX9_hills 44 = .ok (.iconst 1, 1) := by decide +kernel
theorem dX9_hills_45 : decode cX9_hills 45 = .ok (.istore_n 3, 1) := by decide +kernel
theorem dX9_hills_46 : decode cX9_hills 46 = .ok (.iload_n 3, 1) := by decide +kernel
theorem dX9_hills_47 : decode cX9_hills 47 = .ok (.ifCond .eq 135, 3) := by decide +kernel
theorem dX9_hills_50 : decode cX9_hills 50 = .ok (.iconst 0, 1) := by decide +kernel
theorem dX9_hills_51 : decode cX9_hills 51 = .ok (.istore_n 3, 1) := by decide +kernel
theorem dX9_hills_52 : decode cX9_hills 52 = .ok (.iconst 0, 1) := by decide +kernel
theorem dX9_hills_53 : decode cX9_hills 53 = .ok (.istore 4, 2) := by decide +kernel
theorem dX9_hills_55 : decode cX9_hills 55 = .ok (.iload 4, 2) := by decide +kernel
theorem dX9_hills_57 : decode cX9_hills 57 = .ok (.bipush 81, 2) := by decide +kernel
theorem dX9_hills_59 : decode cX9_hills 59 = .ok (.if_icmp .ge 120, 3) := by decide +kernel
theorem dX9_hills_62 : decode cX9_hills 62 = .ok (.iconst 0, 1) := by decide +kernel
theorem dX9_hills_63 : decode cX9_hills 63 = .ok (.istore 5, 2) := by decide +kernel
theorem dX9_hills_65 : decode cX9_hills 65 = .ok (.iload 5, 2) := by decide +kernel
theorem dX9_hills_67 : decode cX9_hills 67 = .ok (.bipush 8, 2) := by decide +kernel
theorem dX9_hills_69 : decode cX9_hills 69 = .ok (.if_icmp .ge 104, 3) := by decide +kernel
theorem dX9_hills_72 : decode cX9_hills 72 = .ok (.iload 4, 2) := by decide +kernel
theorem dX9_hills_74 : decode cX9_hills 74 = .ok (.bipush 9, 2) := by decide +kernel
theorem dX9_hills_76 : decode cX9_hills 76 = .ok (.irem, 1) := by decide +kernel
theorem dX9_hills_77 : decode cX9_hills 77 = .ok (.iload 5, 2) := by decide +kernel
theorem dX9_hills_79 : decode cX9_hills 79 = .ok (.invokestatic 117, 3) := by decide +kernel
theorem dX9_hills_82 : decode cX9_hills 82 = .ok (.iadd, 1) := by decide +kernel
theorem dX9_hills_83 : decode cX9_hills 83 = .ok (.istore 6, 2) := by decide +kernel
theorem dX9_hills_85 : decode cX9_hills 85 = .ok (.iload 4, 2) := by decide +kernel
theorem dX9_hills_87 : decode cX9_hills 87 = .ok (.bipush 9, 2) := by decide +kernel
theorem dX9_hills_89 : decode cX9_hills 89 = .ok (.idiv, 1) := by decide +kernel
theorem dX9_hills_90 : decode cX9_hills 90 = .ok (.iload 5, 2) := by decide +kernel
theorem dX9_hills_92 : decode cX9_hills 92 = .ok (.invokestatic 120, 3) := by decide +kernel
theorem dX9_hills_95 : decode cX9_hills 95 = .ok (.iadd, 1) := by decide +kernel
theorem dX9_hills_96 : decode cX9_hills 96 = .ok (.istore 7, 2) := by decide +kernel
theorem dX9_hills_98 : decode cX9_hills 98 = .ok (.aload_n 0, 1) := by decide +kernel
theorem dX9_hills_99 : decode cX9_hills 99 = .ok (.getfield 40, 3) := by decide +kernel
theorem dX9_hills_102 : decode cX9_hills 102 = .ok (.iload 4, 2) := by decide +kernel
theorem dX9_hills_104 : decode cX9_hills 104 = .ok (.iaload, 1) := by decide +kernel
theorem dX9_hills_105 : decode cX9_hills 105 = .ok (.bipush (-4), 2) := by decide +kernel
theorem dX9_hills_107 : decode cX9_hills 107 = .ok (.if_icmp .eq 60, 3) := by decide +kernel
theorem dX9_hills_110 : decode cX9_hills 110 = .ok (.aload_n 0, 1) := by decide +kernel
theorem dX9_hills_111 : decode cX9_hills 111 = .ok (.iload 6, 2) := by decide +kernel
theorem dX9_hills_113 : decode cX9_hills 113 = .ok (.iload 7, 2) := by decide +kernel
theorem dX9_hills_115 : decode cX9_hills 115 = .ok (.iload_n 1, 1) := by decide +kernel
theorem dX9_hills_116 : decode cX9_hills 116 = .ok (.invokevirtual 198, 3) := by decide +kernel
theorem dX9_hills_119 : decode cX9_hills 119 = .ok (.ifCond .eq 48, 3) := by decide +kernel
theorem dX9_hills_122 : decode cX9_hills 122 = .ok (.aload_n 0, 1) := by decide +kernel
theorem dX9_hills_123 : decode cX9_hills 123 = .ok (.getfield 40, 3) := by decide +kernel
theorem dX9_hills_126 : decode cX9_hills 126 = .ok (.bipush 9, 2) := by decide +kernel
theorem dX9_hills_128 : decode cX9_hills 128 = .ok (.iload 7, 2) := by decide +kernel
theorem dX9_hills_130 : decode cX9_hills 130 = .ok (.imul, 1) := by decide +kernel
theorem dX9_hills_131 : decode cX9_hills 131 = .ok (.iload 6, 2) := by decide +kernel
theorem dX9_hills_133 : decode cX9_hills 133 = .ok (.iadd, 1) := by decide +kernel
theorem dX9_hills_134 : decode cX9_hills 134 = .ok (.iaload, 1) := by decide +kernel
theorem dX9_hills_135 : decode cX9_hills 135 = .ok (.aload_n 0, 1) := by decide +kernel
theorem dX9_hills_136 : decode cX9_hills 136 = .ok (.getfield 40, 3) := by decide +kernel
theorem dX9_hills_139 : decode cX9_hills 139 = .ok (.iload 4, 2) := by decide +kernel
theorem dX9_hills_141 : decode cX9_hills 141 = .ok (.iaload, 1) := by decide +kernel
theorem dX9_hills_142 : decode cX9_hills 142 = .ok (.if_icmp .ge 25, 3) := by decide +kernel
theorem dX9_hills_145 : decode cX9_hills 145 = .ok (.aload_n 0, 1) := by decide +kernel
theorem dX9_hills_146 : decode cX9_hills 146 = .ok (.getfield 40, 3) := by decide +kernel
theorem dX9_hills_149 : decode cX9_hills 149 = .ok (.iload 4, 2) := by decide +kernel
theorem dX9_hills_151 : decode cX9_hills 151 = .ok (.aload_n 0, 1) := by decide +kernel
theorem dX9_hills_152 : decode cX9_hills 152 = .ok (.getfield 40, 3) := by decide +kernel
theorem dX9_hills_155 : decode cX9_hills 155 = .ok (.bipush 9, 2) := by decide +kernel
theorem dX9_hills_157 : decode cX9_hills 157 = .ok (.iload 7, 2) := by decide +kernel
theorem dX9_hills_159 : decode cX9_hills 159 = .ok (.imul, 1) := by decide +kernel
theorem dX9_hills_160 : decode cX9_hills 160 = .ok (.iload 6, 2) := by decide +kernel
theorem dX9_hills_162 : decode cX9_hills 162 = .ok (.iadd, 1) := by decide +kernel
theorem dX9_hills_163 : decode cX9_hills 163 = .ok (.iaload, 1) := by decide +kernel
theorem dX9_hills_164 : decode cX9_hills 164 = .ok (.iastore, 1) := by decide +kernel
theorem dX9_hills_165 : decode cX9_hills 165 = .ok (.iconst 1, 1) := by decide +kernel
theorem dX9_hills_166 : decode cX9_hills 166 = .ok (.istore_n 3, 1) := by decide +kernel
theorem dX9_hills_167 : decode cX9_hills 167 = .ok (.iinc 5 2, 3) := by decide +kernel
theorem dX9_hills_170 : decode cX9_hills 170 = .ok (.goto (-105), 3) := by decide +kernel
theorem dX9_hills_173 : decode cX9_hills 173 = .ok (.iinc 4 1, 3) := by decide +kernel
theorem dX9_hills_176 : decode cX9_hills 176 = .ok (.goto (-121), 3) := by decide +kernel
theorem dX9_hills_179 : decode cX9_hills 179 = .ok (.goto (-133), 3) := by decide +kernel
theorem dX9_hills_182 : decode cX9_hills 182 = .ok (.iconst 0, 1) := by decide +kernel
theorem dX9_hills_183 : decode cX9_hills 183 = .ok (.istore 4, 2) := by decide +kernel
theorem dX9_hills_185 : decode cX9_hills 185 = .ok (.iload 4, 2) := by decide +kernel
theorem dX9_hills_187 : decode cX9_hills 187 = .ok (.bipush 81, 2) := by decide +kernel
theorem dX9_hills_189 : decode cX9_hills 189 = .ok (.if_icmp .ge 29, 3) := by decide +kernel
theorem dX9_hills_192 : decode cX9_hills 192 = .ok (.iload_n 2, 1) := by decide +kernel
theorem dX9_hills_193 : decode cX9_hills 193 = .ok (.aload_n 0, 1) := by decide +kernel
theorem dX9_hills_194 : decode cX9_hills 194 = .ok (.getfield 40, 3) := by decide +kernel
theorem dX9_hills_197 : decode cX9_hills 197 = .ok (.iload 4, 2) := by decide +kernel
theorem dX9_hills_199 : decode cX9_hills 199 = .ok (.iaload, 1) := by decide +kernel
theorem dX9_hills_200 : decode cX9_hills 200 = .ok (.iload 4, 2) := by decide +kernel
theorem dX9_hills_202 : decode cX9_hills 202 = .ok (.if_icmp .ne 7, 3) := by decide +kernel
theorem dX9_hills_205 : decode cX9_hills 205 = .ok (.iconst 1, 1) := by decide +kernel
theorem dX9_hills_206 : decode cX9_hills 206 = .ok (.goto 4, 3) := by decide +kernel
theorem dX9_hills_209 : decode cX9_hills 209 = .ok (.iconst 0, 1) := by decide +kernel
theorem dX9_hills_210 : decode cX9_hills 210 = .ok (.iadd, 1) := by decide +kernel
theorem dX9_hills_211 : decode cX9_hills 211 = .ok (.istore_n 2, 1) := by decide +kernel
theorem dX9_hills_212 : decode cX9_hills 212 = .ok (.iinc 4 1, 3) := by decide +kernel
theorem dX9_hills_215 : decode cX9_hills 215 = .ok (.goto (-30), 3) := by decide +kernel
theorem dX9_hills_218 : decode cX9_hills 218 = .ok (.iload_n 2, 1) := by decide +kernel
theorem dX9_hills_219 : decode cX9_hills 219 = .ok (.ireturn, 1) := by decide +kernel
theorem dX9_level_0 : decode cX9_level 0 = .ok (.iload_n 1, 1) := by decide +kernel
theorem dX9_level_1 : decode cX9_level 1 = .ok (.i2l, 1) := by decide +kernel
theorem dX9_level_2 : decode cX9_level 2 = .ok (.lconst 1, 1) := by decide +kernel
theorem dX9_level_3 : decode cX9_level 3 = .ok (.ldc2_w 108, 3) := by decide +kernel
theorem dX9_level_6 : decode cX9_level 6 = .ok (.invokestatic 56, 3) := by decide +kernel
theorem dX9_level_9 : decode cX9_level 9 = .ok (.ifCond .eq 15, 3) := by decide +kernel
theorem dX9_level_12 : decode cX9_level 12 = .ok (.iload_n 2, 1) := by decide +kernel
theorem dX9_level_13 : decode cX9_level 13 = .ok (.i2l, 1) := by decide +kernel
theorem dX9_level_14 : decode cX9_level 14 = .ok (.lconst 0, 1) := by decide +kernel
theorem dX9_level_15 : decode cX9_level 15 = .ok (.ldc2_w 100, 3) := by decide +kernel
theorem dX9_level_18 : decode cX9_level 18 = .ok (.invokestatic 56, 3) := by decide +kernel
theorem dX9_level_21 : decode cX9_level 21 = .ok (.ifCond .ne 5, 3) := by decide +kernel
theorem dX9_level_24 : decode cX9_level 24 = .ok (.iconst (-1), 1) := by decide +kernel
theorem dX9_level_25 : decode cX9_level 25 = .ok (.ireturn, 1) := by decide +kernel
theorem dX9_level_26 : decode cX9_level 26 = .ok (.iconst 0, 1) := by decide +kernel
theorem dX9_level_27 : decode cX9_level 27 = .ok (.istore_n 3, 1) := by decide +kernel
theorem dX9_level_28 : decode cX9_level 28 = .ok (.iconst 0, 1) := by decide +kernel
theorem dX9_level_29 : decode cX9_level 29 = .ok (.istore 4, 2) := by decide +kernel
theorem dX9_level_31 : decode cX9_level 31 = .ok (.iconst 0, 1) := by decide +kernel
theorem dX9_level_32 : decode cX9_level 32 = .ok (.istore 5, 2) := by decide +kernel
theorem dX9_level_34 : decode cX9_level 34 = .ok (.iload 5, 2) := by decide +kernel
theorem dX9_level_36 : decode cX9_level 36 = .ok (.bipush 81, 2) := by decide +kernel
theorem dX9_level_38 : decode cX9_level 38 = .ok (.if_icmp .ge 145, 3) := by decide +kernel
theorem dX9_level_41 : decode cX9_level 41 = .ok (.iload 5, 2) := by decide +kernel
theorem dX9_level_43 : decode cX9_level 43 = .ok (.bipush 9, 2) := by decide +kernel
theorem dX9_level_45 : decode cX9_level 45 = .ok (.irem, 1) := by decide +kernel
theorem dX9_level_46 : decode cX9_level 46 = .ok (.istore 6, 2) := by decide +kernel
theorem dX9_level_48 : decode cX9_level 48 = .ok (.iload 5, 2) := by decide +kernel
theorem dX9_level_50 : decode cX9_level 50 = .ok (.bipush 9, 2) := by decide +kernel
theorem dX9_level_52 : decode cX9_level 52 = .ok (.idiv, 1) := by decide +kernel
theorem dX9_level_53 : decode cX9_level 53 = .ok (.istore 7, 2) := by decide +kernel
theorem dX9_level_55 : decode cX9_level 55 = .ok (.aload_n 0, 1) := by decide +kernel
theorem dX9_level_56 : decode cX9_level 56 = .ok (.iload 6, 2) := by decide +kernel
theorem dX9_level_58 : decode cX9_level 58 = .ok (.iload 7, 2) := by decide +kernel
theorem dX9_level_60 : decode cX9_level 60 = .ok (.iload_n 1, 1) := by decide +kernel
theorem dX9_level_61 : decode cX9_level 61 = .ok (.invokevirtual 198, 3) := by decide +kernel
theorem dX9_level_64 : decode cX9_level 64 = .ok (.istore 8, 2) := by decide +kernel
theorem dX9_level_66 : decode cX9_level 66 = .ok (.iload 4, 2) := by decide +kernel
theorem dX9_level_68 : decode cX9_level 68 = .ok (.iload 8, 2) := by decide +kernel
theorem dX9_level_70 : decode cX9_level 70 = .ok (.ifCond .eq 7, 3) := by decide +kernel
theorem dX9_level_73 : decode cX9_level 73 = .ok (.iconst 1, 1) := by decide +kernel
theorem dX9_level_74 : decode cX9_level 74 = .ok (.goto 4, 3) := by decide +kernel
theorem dX9_level_77 : decode cX9_level 77 = .ok (.iconst 0, 1) := by decide +kernel
theorem dX9_level_78 : decode cX9_level 78 = .ok (.iadd, 1) := by decide +kernel
theorem dX9_level_79 : decode cX9_level 79 = .ok (.istore 4, 2) := by decide +kernel
theorem dX9_level_81 : decode cX9_level 81 = .ok (.iload_n 3, 1) := by decide +kernel
theorem dX9_level_82 : decode cX9_level 82 = .ok (.aload_n 0, 1) := by decide +kernel
theorem dX9_level_83 : decode cX9_level 83 = .ok (.iload 6, 2) := by decide +kernel
theorem dX9_level_85 : decode cX9_level 85 = .ok (.iload 7, 2) := by decide +kernel
theorem dX9_level_87 : decode cX9_level 87 = .ok (.invokevirtual 104, 3) := by decide +kernel
theorem dX9_level_90 : decode cX9_level 90 = .ok (.ifCond .eq 36, 3) := by decide +kernel
theorem dX9_level_93 : decode cX9_level 93 = .ok (.aload_n 0, 1) := by decide +kernel
theorem dX9_level_94 : decode cX9_level 94 = .ok (.iload 6, 2) := by decide +kernel
theorem dX9_level_96 : decode cX9_level 96 = .ok (.iconst 1, 1) := by decide +kernel
theorem dX9_level_97 : decode cX9_level 97 = .ok (.iadd, 1) := by decide +kernel
theorem dX9_level_98 : decode cX9_level 98 = .ok (.iload 7, 2) := by decide +kernel
theorem dX9_level_100 : decode cX9_level 100 = .ok (.invokevirtual 104, 3) := by decide +kernel
theorem dX9_level_103 : decode cX9_level 103 = .ok (.ifCond .eq 23, 3) := by decide +kernel
theorem dX9_level_106 : decode cX9_level 106 = .ok (.iload 8, 2) := by decide +kernel
theorem dX9_level_108 : decode cX9_level 108 = .ok (.aload_n 0, 1) := by decide +kernel
theorem dX9_level_109 : decode cX9_level 109 = .ok (.iload 6, 2) := by decide +kernel
theorem dX9_level_111 : decode cX9_level 111 = .ok (.iconst 1, 1) := by decide +kernel
theorem dX9_level_112 : decode cX9_level 112 = .ok (.iadd, 1) := by decide +kernel
theorem dX9_level_113 : decode cX9_level 113 = .ok (.iload 7, 2) := by decide +kernel
theorem dX9_level_115 : decode cX9_level 115 = .ok (.iload_n 1, 1) := by decide +kernel
theorem dX9_level_116 : decode cX9_level 116 = .ok (.invokevirtual 198, 3) := by decide +kernel
theorem dX9_level_119 : decode cX9_level 119 = .ok (.if_icmp .eq 7, 3) := by decide +kernel
theorem dX9_level_122 : decode cX9_level 122 = .ok (.iconst 1, 1) := by decide +kernel
theorem dX9_level_123 : decode cX9_level 123 = .ok (.goto 4, 3) := by decide +kernel
theorem dX9_level_126 : decode cX9_level 126 = .ok (.iconst 0, 1) := by decide +kernel
theorem dX9_level_127 : decode cX9_level 127 = .ok (.iadd, 1) := by decide +kernel
theorem dX9_level_128 : decode cX9_level 128 = .ok (.istore_n 3, 1) := by decide +kernel
theorem dX9_level_129 : decode cX9_level 129 = .ok (.iload_n 3, 1) := by decide +kernel
theorem dX9_level_130 : decode cX9_level 130 = .ok (.aload_n 0, 1) := by decide +kernel
theorem dX9_level_131 : decode cX9_level 131 = .ok (.iload 6, 2) := by decide +kernel
theorem dX9_level_133 : decode cX9_level 133 = .ok (.iload 7, 2) := by decide +kernel
theorem dX9_level_135 : decode cX9_level 135 = .ok (.invokevirtual 104, 3) := by decide +kernel
theorem dX9_level_138 : decode cX9_level 138 = .ok (.ifCond .eq 36, 3) := by decide +kernel
theorem dX9_level_141 : decode cX9_level 141 = .ok (.aload_n 0, 1) := by decide +kernel
theorem dX9_level_142 : decode cX9_level 142 = .ok (.iload 6, 2) := by decide +kernel
theorem dX9_level_144 : decode cX9_level 144 = .ok (.iload 7, 2) := by decide +kernel
theorem dX9_level_146 : decode cX9_level 146 = .ok (.iconst 1, 1) := by decide +kernel
theorem dX9_level_147 : decode cX9_level 147 = .ok (.iadd, 1) := by decide +kernel
theorem dX9_level_148 : decode cX9_level 148 = .ok (.invokevirtual 104, 3) := by decide +kernel
theorem dX9_level_151 : decode cX9_level 151 = .ok (.ifCond .eq 23, 3) := by decide +kernel
theorem dX9_level_154 : decode cX9_level 154 = .ok (.iload 8, 2) := by decide +kernel
theorem dX9_level_156 : decode cX9_level 156 = .ok (.aload_n 0, 1) := by decide +kernel
theorem dX9_level_157 : decode cX9_level 157 = .ok (.iload 6, 2) := by decide +kernel
theorem dX9_level_159 : decode cX9_level 159 = .ok (.iload 7, 2) := by decide +kernel
theorem dX9_level_161 : decode cX9_level 161 = .ok (.iconst 1, 1) := by decide +kernel
theorem dX9_level_162 : decode cX9_level 162 = .ok (.iadd, 1) := by decide +kernel
theorem dX9_level_163 : decode cX9_level 163 = .ok (.iload_n 1, 1) := by decide +kernel
theorem dX9_level_164 : decode cX9_level 164 = .ok (.invokevirtual 198, 3) := by decide +kernel
theorem dX9_level_167 : decode cX9_level 167 = .ok (.if_icmp .eq 7, 3) := by decide +kernel
theorem dX9_level_170 : decode cX9_level 170 = .ok (.iconst 1, 1) := by decide +kernel
theorem dX9_level_171 : decode cX9_level 171 = .ok (.goto 4, 3) := by decide +kernel
theorem dX9_level_174 : decode cX9_level 174 = .ok (.iconst 0, 1) := by decide +kernel
theorem dX9_level_175 : decode cX9_level 175 = .ok (.iadd, 1) := by decide +kernel
theorem dX9_level_176 : decode cX9_level 176 = .ok (.istore_n 3, 1) := by decide +kernel
theorem dX9_level_177 : decode cX9_level 177 = .ok (.iinc 5 1, 3) := by decide +kernel
theorem dX9_level_180 : decode cX9_level 180 = .ok (.goto (-146), 3) := by decide +kernel
theorem dX9_level_183 : decode cX9_level 183 = .ok (.iload_n 2, 1) := by decide +kernel
theorem dX9_level_184 : decode cX9_level 184 = .ok (.ifCond .ne 11, 3) := by decide +kernel
theorem dX9_level_187 : decode cX9_level 187 = .ok (.aload_n 0, 1) := by decide +kernel
theorem dX9_level_188 : decode cX9_level 188 = .ok (.iload_n 1, 1) := by decide +kernel
theorem dX9_level_189 : decode cX9_level 189 = .ok (.invokevirtual 201, 3) := by decide +kernel
theorem dX9_level_192 : decode cX9_level 192 = .ok (.goto 14, 3) := by decide +kernel
theorem dX9_level_195 : decode cX9_level 195 = .ok (.iload_n 2, 1) := by decide +kernel
theorem dX9_level_196 : decode cX9_level 196 = .ok (.iconst 1, 1) := by decide +kernel
theorem dX9_level_197 : decode cX9_level 197 = .ok (.if_icmp .ne 7, 3) := by decide +kernel
theorem dX9_level_200 : decode cX9_level 200 = .ok (.iload_n 3, 1) := by decide +kernel
theorem dX9_level_201 : decode cX9_level 201 = .ok (.goto 5, 3) := by decide +kernel
theorem dX9_level_204 : decode cX9_level 204 = .ok (.iload 4, 2) := by decide +kernel
theorem dX9_level_206 : decode cX9_level 206 = .ok (.ireturn, 1) := by decide +kernel
theorem dX9_isOff_0 : decode cX9_isOff 0 = .ok (.iconst 1, 1) := by decide +kernel
theorem dX9_isOff_1 : decode cX9_isOff 1 = .ok (.istore 4, 2) := by decide +kernel
theorem dX9_isOff_3 : decode cX9_isOff 3 = .ok (.iconst 0, 1) := by decide +kernel
theorem dX9_isOff_4 : decode cX9_isOff 4 = .ok (.istore 5, 2) := by decide +kernel
theorem dX9_isOff_6 : decode cX9_isOff 6 = .ok (.iload 5, 2) := by decide +kernel
theorem dX9_isOff_8 : decode cX9_isOff 8 = .ok (.iload_n 3, 1) := by decide +kernel
theorem dX9_isOff_9 : decode cX9_isOff 9 = .ok (.if_icmp .ge 97, 3) := by decide +kernel
theorem dX9_isOff_12 : decode cX9_isOff 12 = .ok (.iconst 0, 1) := by decide +kernel
theorem dX9_isOff_13 : decode cX9_isOff 13 = .ok (.istore 6, 2) := by decide +kernel
theorem dX9_isOff_15 : decode cX9_isOff 15 = .ok (.iload 6, 2) := by decide +kernel
theorem dX9_isOff_17 : decode cX9_isOff 17 = .ok (.aload_n 0, 1) := by decide +kernel
theorem dX9_isOff_18 : decode cX9_isOff 18 = .ok (.getfield 13, 3) := by decide +kernel
theorem dX9_isOff_21 : decode cX9_isOff 21 = .ok (.bipush 89, 2) := by decide +kernel
theorem dX9_isOff_23 : decode cX9_isOff 23 = .ok (.bipush 8, 2) := by decide +kernel
theorem dX9_isOff_25 : decode cX9_isOff 25 = .ok (.iload 5, 2) := by decide +kernel
theorem dX9_isOff_27 : decode cX9_isOff 27 = .ok (.imul, 1) := by decide +kernel
theorem dX9_isOff_28 : decode cX9_isOff 28 = .ok (.iadd, 1) := by decide +kernel
theorem dX9_isOff_29 : decode cX9_isOff 29 = .ok (.bipush 6, 2) := by decide +kernel
theorem dX9_isOff_31 : decode cX9_isOff 31 = .ok (.iadd, 1) := by decide +kernel
theorem dX9_isOff_32 : decode cX9_isOff 32 = .ok (.iaload, 1) := by decide +kernel
theorem dX9_isOff_33 : decode cX9_isOff 33 = .ok (.if_icmp .ge 67, 3) := by decide +kernel
theorem dX9_isOff_36 : decode cX9_isOff 36 = .ok (.aload_n 0, 1) := by decide +kernel
theorem dX9_isOff_37 : decode cX9_isOff 37 = .ok (.getfield 13, 3) := by decide +kernel
theorem dX9_isOff_40 : decode cX9_isOff 40 = .ok (.bipush 89, 2) := by decide +kernel
theorem dX9_isOff_42 : decode cX9_isOff 42 = .ok (.bipush 8, 2) := by decide +kernel
theorem dX9_isOff_44 : decode cX9_isOff 44 = .ok (.iload 5, 2) := by decide +kernel
theorem dX9_isOff_46 : decode cX9_isOff 46 = .ok (.imul, 1) := by decide +kernel
theorem dX9_isOff_47 : decode cX9_isOff 47 = .ok (.iadd, 1) := by decide +kernel
theorem dX9_isOff_48 : decode cX9_isOff 48 = .ok (.iload 6, 2) := by decide +kernel
theorem dX9_isOff_50 : decode cX9_isOff 50 = .ok (.iadd, 1) := by decide +kernel
theorem dX9_isOff_51 : decode cX9_isOff 51 = .ok (.iaload, 1) := by decide +kernel
theorem dX9_isOff_52 : decode cX9_isOff 52 = .ok (.istore 7, 2) := by decide +kernel
theorem dX9_isOff_54 : decode cX9_isOff 54 = .ok (.iload 4, 2) := by decide +kernel
theorem dX9_isOff_56 : decode cX9_isOff 56 = .ok (.ifCond .eq 35, 3) := by decide +kernel
theorem dX9_isOff_59 : decode cX9_isOff 59 = .ok (.iload 7, 2) := by decide +kernel
theorem dX9_isOff_61 : decode cX9_isOff 61 = .ok (.bipush 9, 2) := by decide +kernel
theorem dX9_isOff_63 : decode cX9_isOff 63 = .ok (.irem, 1) := by decide +kernel
theorem dX9_isOff_64 : decode cX9_isOff 64 = .ok (.iload_n 1, 1) := by decide +kernel
theorem dX9_isOff_65 : decode cX9_isOff 65 = .ok (.isub, 1) := by decide +kernel
theorem dX9_isOff_66 : decode cX9_isOff 66 = .ok (.invokestatic 110, 3) := by decide +kernel
theorem dX9_isOff_69 : decode cX9_isOff 69 = .ok (.iconst 1, 1) := by decide +kernel
theorem dX9_isOff_70 : decode cX9_isOff 70 = .ok (.if_icmp .gt 17, 3) := by decide +kernel
theorem dX9_isOff_73 : decode cX9_isOff 73 = .ok (.iload 7, 2) := by decide +kernel
theorem dX9_isOff_75 : decode cX9_isOff 75 = .ok (.bipush 9, 2) := by decide +kernel
theorem dX9_isOff_77 : decode cX9_isOff 77 = .ok (.idiv, 1) := by decide +kernel
theorem dX9_isOff_78 : decode cX9_isOff 78 = .ok (.iload_n 2, 1) := by decide +kernel
theorem dX9_isOff_79 : decode cX9_isOff 79 = .ok (.isub, 1) := by decide +kernel
theorem dX9_isOff_80 : decode cX9_isOff 80 = .ok (.invokestatic 110, 3) := by decide +kernel
theorem dX9_isOff_83 : decode cX9_isOff 83 = .ok (.iconst 1, 1) := by decide +kernel
theorem dX9_isOff_84 : decode cX9_isOff 84 = .ok (.if_icmp .le 7, 3) := by decide +kernel
theorem dX9_isOff_87 : decode cX9_isOff 87 = .ok (.iconst 1, 1) := by decide +kernel
theorem dX9_isOff_88 : decode cX9_isOff 88 = .ok (.goto 4, 3) := by decide +kernel
theorem dX9_isOff_91 : decode cX9_isOff 91 = .ok (.iconst 0, 1) := by decide +kernel
theorem dX9_isOff_92 : decode cX9_isOff 92 = .ok (.istore 4, 2) := by decide +kernel
theorem dX9_isOff_94 : decode cX9_isOff 94 = .ok (.iinc 6 1, 3) := by decide +kernel
theorem dX9_isOff_97 : decode cX9_isOff 97 = .ok (.goto (-82), 3) := by decide +kernel
theorem dX9_isOff_100 : decode cX9_isOff 100 = .ok (.iinc 5 1, 3) := by decide +kernel
theorem dX9_isOff_103 : decode cX9_isOff 103 = .ok (.goto (-97), 3) := by decide +kernel
theorem dX9_isOff_106 : decode cX9_isOff 106 = .ok (.iload 4, 2) := by decide +kernel
theorem dX9_isOff_108 : decode cX9_isOff 108 = .ok (.ireturn, 1) := by decide +kernel
theorem dX9_whyNot_0 : decode cX9_whyNot 0 = .ok (.aload_n 0, 1) := by decide +kernel
theorem dX9_whyNot_1 : decode cX9_whyNot 1 = .ok (.iload_n 1, 1) := by decide +kernel
theorem dX9_whyNot_2 : decode cX9_whyNot 2 = .ok (.iload_n 2, 1) := by decide +kernel
theorem dX9_whyNot_3 : decode cX9_whyNot 3 = .ok (.invokevirtual 149, 3) := by decide +kernel
theorem dX9_whyNot_6 : decode cX9_whyNot 6 = .ok (.istore_n 3, 1) := by decide +kernel
theorem dX9_whyNot_7 : decode cX9_whyNot 7 = .ok (.iload_n 3, 1) := by decide +kernel
theorem dX9_whyNot_8 : decode cX9_whyNot 8 = .ok (.bipush (-4), 2) := by decide +kernel
theorem dX9_whyNot_10 : decode cX9_whyNot 10 = .ok (.if_icmp .ne 5, 3) := by decide +kernel
theorem dX9_whyNot_13 : decode cX9_whyNot 13 = .ok (.iconst 1, 1) := by decide +kernel
theorem dX9_whyNot_14 : decode cX9_whyNot 14 = .ok (.ireturn, 1) := by decide +kernel
theorem dX9_whyNot_15 : decode cX9_whyNot 15 = .ok (.aload_n 0, 1) := by decide +kernel
theorem dX9_whyNot_16 : decode cX9_whyNot 16 = .ok (.iload_n 1, 1) := by decide +kernel
theorem dX9_whyNot_17 : decode cX9_whyNot 17 = .ok (.iload_n 2, 1) := by decide +kernel
theorem dX9_whyNot_18 : decode cX9_whyNot 18 = .ok (.iconst (-1), 1) := by decide +kernel
theorem dX9_whyNot_19 : decode cX9_whyNot 19 = .ok (.invokevirtual 136, 3) := by decide +kernel
theorem dX9_whyNot_22 : decode cX9_whyNot 22 = .ok (.ifCond .eq 5, 3) := by decide +kernel
theorem dX9_whyNot_25 : decode cX9_whyNot 25 = .ok (.iconst 2, 1) := by decide +kernel
theorem dX9_whyNot_26 : decode cX9_whyNot 26 = .ok (.ireturn, 1) := by decide +kernel
theorem dX9_whyNot_27 : decode cX9_whyNot 27 = .ok (.aload_n 0, 1) := by decide +kernel
theorem dX9_whyNot_28 : decode cX9_whyNot 28 = .ok (.iload_n 1, 1) := by decide +kernel
theorem dX9_whyNot_29 : decode cX9_whyNot 29 = .ok (.iload_n 2, 1) := by decide +kernel
theorem dX9_whyNot_30 : decode cX9_whyNot 30 = .ok (.aload_n 0, 1) := by decide +kernel
theorem dX9_whyNot_31 : decode cX9_whyNot 31 = .ok (.getfield 13, 3) := by decide +kernel
theorem dX9_whyNot_34 : decode cX9_whyNot 34 = .ok (.bipush 88, 2) := by decide +kernel
theorem dX9_whyNot_36 : decode cX9_whyNot 36 = .ok (.iaload, 1) := by decide +kernel
theorem dX9_whyNot_37 : decode cX9_whyNot 37 = .ok (.invokevirtual 204, 3) := by decide +kernel
theorem dX9_whyNot_40 : decode cX9_whyNot 40 = .ok (.ifCond .ne 7, 3) := by decide +kernel
theorem dX9_whyNot_43 : decode cX9_whyNot 43 = .ok (.iconst 3, 1) := by decide +kernel
theorem dX9_whyNot_44 : decode cX9_whyNot 44 = .ok (.goto 34, 3) := by decide +kernel
theorem dX9_whyNot_47 : decode cX9_whyNot 47 = .ok (.aload_n 0, 1) := by decide +kernel
theorem dX9_whyNot_48 : decode cX9_whyNot 48 = .ok (.iload_n 1, 1) := by decide +kernel
theorem dX9_whyNot_49 : decode cX9_whyNot 49 = .ok (.iload_n 3, 1) := by decide +kernel
theorem dX9_whyNot_50 : decode cX9_whyNot 50 = .ok (.invokestatic 117, 3) := by decide +kernel
theorem dX9_whyNot_53 : decode cX9_whyNot 53 = .ok (.iadd, 1) := by decide +kernel
theorem dX9_whyNot_54 : decode cX9_whyNot 54 = .ok (.iload_n 2, 1) := by decide +kernel
theorem dX9_whyNot_55 : decode cX9_whyNot 55 = .ok (.iload_n 3, 1) := by decide +kernel
theorem dX9_whyNot_56 : decode cX9_whyNot 56 = .ok (.invokestatic 120, 3) := by decide +kernel
theorem dX9_whyNot_59 : decode cX9_whyNot 59 = .ok (.iadd, 1) := by decide +kernel
theorem dX9_whyNot_60 : decode cX9_whyNot 60 = .ok (.aload_n 0, 1) := by decide +kernel
theorem dX9_whyNot_61 : decode cX9_whyNot 61 = .ok (.getfield 13, 3) := by decide +kernel
theorem dX9_whyNot_64 : decode cX9_whyNot 64 = .ok (.bipush 88, 2) := by decide +kernel
theorem dX9_whyNot_66 : decode cX9_whyNot 66 = .ok (.iaload, 1) := by decide +kernel
theorem dX9_whyNot_67 : decode cX9_whyNot 67 = .ok (.invokevirtual 204, 3) := by decide +kernel
theorem dX9_whyNot_70 : decode cX9_whyNot 70 = .ok (.ifCond .ne 7, 3) := by decide +kernel
theorem dX9_whyNot_73 : decode cX9_whyNot 73 = .ok (.iconst 4, 1) := by decide +kernel
theorem dX9_whyNot_74 : decode cX9_whyNot 74 = .ok (.goto 4, 3) := by decide +kernel
theorem dX9_whyNot_77 : decode cX9_whyNot 77 = .ok (.iconst 0, 1) := by decide +kernel
theorem dX9_whyNot_78 : decode cX9_whyNot 78 = .ok (.ireturn, 1) := by decide +kernel
theorem dX9_why_0 : decode cX9_why 0 = .ok (.aload_n 0, 1) := by decide +kernel
theorem dX9_why_1 : decode cX9_why 1 = .ok (.iload_n 1, 1) := by decide +kernel
theorem dX9_why_2 : decode cX9_why 2 = .ok (.iload_n 2, 1) := by decide +kernel
theorem dX9_why_3 : decode cX9_why 3 = .ok (.invokevirtual 104, 3) := by decide +kernel
theorem dX9_why_6 : decode cX9_why 6 = .ok (.ifCond .eq 12, 3) := by decide +kernel
theorem dX9_why_9 : decode cX9_why 9 = .ok (.aload_n 0, 1) := by decide +kernel
theorem dX9_why_10 : decode cX9_why 10 = .ok (.iload_n 1, 1) := by decide +kernel
theorem dX9_why_11 : decode cX9_why 11 = .ok (.iload_n 2, 1) := by decide +kernel
theorem dX9_why_12 : decode cX9_why 12 = .ok (.invokevirtual 207, 3) := by decide +kernel
theorem dX9_why_15 : decode cX9_why 15 = .ok (.goto 4, 3) := by decide +kernel
theorem dX9_why_18 : decode cX9_why 18 = .ok (.iconst (-1), 1) := by decide +kernel
theorem dX9_why_19 : decode cX9_why 19 = .ok (.ireturn, 1) := by decide +kernel
theorem dX9_draws_0 : decode cX9_draws 0 = .ok (.aload_n 0, 1) := by decide +kernel
theorem dX9_draws_1 : decode cX9_draws 1 = .ok (.getfield 13, 3) := by decide +kernel
theorem dX9_draws_4 : decode cX9_draws 4 = .ok (.bipush 88, 2) := by decide +kernel
theorem dX9_draws_6 : decode cX9_draws 6 = .ok (.iaload, 1) := by decide +kernel
theorem dX9_draws_7 : decode cX9_draws 7 = .ok (.istore_n 3, 1) := by decide +kernel
theorem dX9_draws_8 : decode cX9_draws 8 = .ok (.bipush 89, 2) := by decide +kernel
theorem dX9_draws_10 : decode cX9_draws 10 = .ok (.bipush 8, 2) := by decide +kernel
theorem dX9_draws_12 : decode cX9_draws 12 = .ok (.iload_n 3, 1) := by decide +kernel
theorem dX9_draws_13 : decode cX9_draws 13 = .ok (.imul, 1) := by decide +kernel
theorem dX9_draws_14 : decode cX9_draws 14 = .ok (.iadd, 1) := by decide +kernel
theorem dX9_draws_15 : decode cX9_draws 15 = .ok (.istore 4, 2) := by decide +kernel
theorem dX9_draws_17 : decode cX9_draws 17 = .ok (.iload_n 1, 1) := by decide +kernel
theorem dX9_draws_18 : decode cX9_draws 18 = .ok (.istore 5, 2) := by decide +kernel
theorem dX9_draws_20 : decode cX9_draws 20 = .ok (.iload_n 2, 1) := by decide +kernel
theorem dX9_draws_21 : decode cX9_draws 21 = .ok (.istore 6, 2) := by decide +kernel
theorem dX9_draws_23 : decode cX9_draws 23 = .ok (.iconst 0, 1) := by decide +kernel
theorem dX9_draws_24 : decode cX9_draws 24 = .ok (.istore 7, 2) := by decide +kernel
theorem dX9_draws_26 : decode cX9_draws 26 = .ok (.iconst 0, 1) := by decide +kernel
theorem dX9_draws_27 : decode cX9_draws 27 = .ok (.istore 8, 2) := by decide +kernel
theorem dX9_draws_29 : decode cX9_draws 29 = .ok (.iload 8, 2) := by decide +kernel
theorem dX9_draws_31 : decode cX9_draws 31 = .ok (.ifCond .ne 134, 3) := by decide +kernel
theorem dX9_draws_34 : decode cX9_draws 34 = .ok (.aload_n 0, 1) := by decide +kernel
theorem dX9_draws_35 : decode cX9_draws 35 = .ok (.getfield 13, 3) := by decide +kernel
theorem dX9_draws_38 : decode cX9_draws 38 = .ok (.iload 4, 2) := by decide +kernel
theorem dX9_draws_40 : decode cX9_draws 40 = .ok (.iload 7, 2) := by decide +kernel
theorem dX9_draws_42 : decode cX9_draws 42 = .ok (.iadd, 1) := by decide +kernel
theorem dX9_draws_43 : decode cX9_draws 43 = .ok (.bipush 9, 2) := by decide +kernel
theorem dX9_draws_45 : decode cX9_draws 45 = .ok (.iload 6, 2) := by decide +kernel
theorem dX9_draws_47 : decode cX9_draws 47 = .ok (.imul, 1) := by decide +kernel
theorem dX9_draws_48 : decode cX9_draws 48 = .ok (.iload 5, 2) := by decide +kernel
theorem dX9_draws_50 : decode cX9_draws 50 = .ok (.iadd, 1) := by decide +kernel
theorem dX9_draws_51 : decode cX9_draws 51 = .ok (.iastore, 1) := by decide +kernel
theorem dX9_draws_52 : decode cX9_draws 52 = .ok (.iinc 7 1, 3) := by decide +kernel
theorem dX9_draws_55 : decode cX9_draws 55 = .ok (.aload_n 0, 1) := by decide +kernel
theorem dX9_draws_56 : decode cX9_draws 56 = .ok (.iload 5, 2) := by decide +kernel
theorem dX9_draws_58 : decode cX9_draws 58 = .ok (.iload 6, 2) := by decide +kernel
theorem dX9_draws_60 : decode cX9_draws 60 = .ok (.invokevirtual 149, 3) := by decide +kernel
theorem dX9_draws_63 : decode cX9_draws 63 = .ok (.istore 9, 2) := by decide +kernel
theorem dX9_draws_65 : decode cX9_draws 65 = .ok (.iload 9, 2) := by decide +kernel
theorem dX9_draws_67 : decode cX9_draws 67 = .ok (.bipush (-4), 2) := by decide +kernel
theorem dX9_draws_69 : decode cX9_draws 69 = .ok (.if_icmp .eq 31, 3) := by decide +kernel
theorem dX9_draws_72 : decode cX9_draws 72 = .ok (.aload_n 0, 1) := by decide +kernel
theorem dX9_draws_73 : decode cX9_draws 73 = .ok (.iload 5, 2) := by decide +kernel
theorem dX9_draws_75 : decode cX9_draws 75 = .ok (.iload 9, 2) := by decide +kernel
theorem dX9_draws_77 : decode cX9_draws 77 = .ok (.invokestatic 117, 3) := by decide +kernel
theorem dX9_draws_80 : decode cX9_draws 80 = .ok (.iadd, 1) := by decide +kernel
theorem dX9_draws_81 : decode cX9_draws 81 = .ok (.iload 6, 2) := by decide +kernel
theorem dX9_draws_83 : decode cX9_draws 83 = .ok (.iload 9, 2) := by decide +kernel
theorem dX9_draws_85 : decode cX9_draws 85 = .ok (.invokestatic 120, 3) := by decide +kernel
theorem dX9_draws_88 : decode cX9_draws 88 = .ok (.iadd, 1) := by decide +kernel
theorem dX9_draws_89 : decode cX9_draws 89 = .ok (.iload_n 3, 1) := by decide +kernel
theorem dX9_draws_90 : decode cX9_draws 90 = .ok (.invokevirtual 204, 3) := by decide +kernel
theorem dX9_draws_93 : decode cX9_draws 93 = .ok (.ifCond .ne 7, 3) := by decide +kernel
theorem dX9_draws_96 : decode cX9_draws 96 = .ok (.iconst 1, 1) := by decide +kernel
theorem dX9_draws_97 : decode cX9_draws 97 = .ok (.goto 4, 3) := by decide +kernel
theorem dX9_draws_100 : decode cX9_draws 100 = .ok (.iconst 0, 1) := by decide +kernel
theorem dX9_draws_101 : decode cX9_draws 101 = .ok (.istore 10, 2) := by decide +kernel
theorem dX9_draws_103 : decode cX9_draws 103 = .ok (.iload 9, 2) := by decide +kernel
theorem dX9_draws_105 : decode cX9_draws 105 = .ok (.bipush (-4), 2) := by decide +kernel
theorem dX9_draws_107 : decode cX9_draws 107 = .ok (.if_icmp .ne 7, 3) := by decide +kernel
theorem dX9_draws_110 : decode cX9_draws 110 = .ok (.iconst 1, 1) := by decide +kernel
theorem dX9_draws_111 : decode cX9_draws 111 = .ok (.goto 24, 3) := by decide +kernel
theorem dX9_draws_114 : decode cX9_draws 114 = .ok (.iload 10, 2) := by decide +kernel
theorem dX9_draws_116 : decode cX9_draws 116 = .ok (.ifCond .eq 7, 3) := by decide +kernel
theorem dX9_draws_119 : decode cX9_draws 119 = .ok (.iconst 2, 1) := by decide +kernel
theorem dX9_draws_120 : decode cX9_draws 120 = .ok (.goto 15, 3) := by decide +kernel
theorem dX9_draws_123 : decode cX9_draws 123 = .ok (.iload 7, 2) := by decide +kernel
theorem dX9_draws_125 : decode cX9_draws 125 = .ok (.bipush 6, 2) := by decide +kernel
theorem dX9_draws_127 : decode cX9_draws 127 = .ok (.if_icmp .ne 7, 3) := by decide +kernel
theorem dX9_draws_130 : decode cX9_draws 130 = .ok (.iconst 3, 1) := by decide +kernel
theorem dX9_draws_131 : decode cX9_draws 131 = .ok (.goto 4, 3) := by decide +kernel
theorem dX9_draws_134 : decode cX9_draws 134 = .ok (.iconst 0, 1) := by decide +kernel
theorem dX9_draws_135 : decode cX9_draws 135 = .ok (.istore 8, 2) := by decide +kernel
theorem dX9_draws_137 : decode cX9_draws 137 = .ok (.iload 8, 2) := by decide +kernel
theorem dX9_draws_139 : decode cX9_draws 139 = .ok (.ifCond .ne 23, 3) := by decide +kernel
theorem dX9_draws_142 : decode cX9_draws 142 = .ok (.iload 5, 2) := by decide +kernel
theorem dX9_draws_144 : decode cX9_draws 144 = .ok (.iload 9, 2) := by decide +kernel
theorem dX9_draws_146 : decode cX9_draws 146 = .ok (.invokestatic 117, 3) := by decide +kernel
theorem dX9_draws_149 : decode cX9_draws 149 = .ok (.iadd, 1) := by decide +kernel
theorem dX9_draws_150 : decode cX9_draws 150 = .ok (.istore 5, 2) := by decide +kernel
theorem dX9_draws_152 : decode cX9_draws 152 = .ok (.iload 6, 2) := by decide +kernel
theorem dX9_draws_154 : decode cX9_draws 154 = .ok (.iload 9, 2) := by decide +kernel
theorem dX9_draws_156 : decode cX9_draws 156 = .ok (.invokestatic 120, 3) := by decide +kernel
theorem dX9_draws_159 : decode cX9_draws 159 = .ok (.iadd, 1) := by decide +kernel
theorem dX9_draws_160 : decode cX9_draws 160 = .ok (.istore 6, 2) := by decide +kernel
theorem dX9_draws_162 : decode cX9_draws 162 = .ok (.goto (-133), 3) := by decide +kernel
theorem dX9_draws_165 : decode cX9_draws 165 = .ok (.aload_n 0, 1) := by decide +kernel
theorem dX9_draws_166 : decode cX9_draws 166 = .ok (.getfield 13, 3) := by decide +kernel
theorem dX9_draws_169 : decode cX9_draws 169 = .ok (.iload 4, 2) := by decide +kernel
theorem dX9_draws_171 : decode cX9_draws 171 = .ok (.bipush 6, 2) := by decide +kernel
theorem dX9_draws_173 : decode cX9_draws 173 = .ok (.iadd, 1) := by decide +kernel
theorem dX9_draws_174 : decode cX9_draws 174 = .ok (.iload 7, 2) := by decide +kernel
theorem dX9_draws_176 : decode cX9_draws 176 = .ok (.iastore, 1) := by decide +kernel
theorem dX9_draws_177 : decode cX9_draws 177 = .ok (.aload_n 0, 1) := by decide +kernel
theorem dX9_draws_178 : decode cX9_draws 178 = .ok (.getfield 13, 3) := by decide +kernel
theorem dX9_draws_181 : decode cX9_draws 181 = .ok (.iload 4, 2) := by decide +kernel
theorem dX9_draws_183 : decode cX9_draws 183 = .ok (.bipush 7, 2) := by decide +kernel
theorem dX9_draws_185 : decode cX9_draws 185 = .ok (.iadd, 1) := by decide +kernel
theorem dX9_draws_186 : decode cX9_draws 186 = .ok (.iload 8, 2) := by decide +kernel
theorem dX9_draws_188 : decode cX9_draws 188 = .ok (.iastore, 1) := by decide +kernel
theorem dX9_draws_189 : decode cX9_draws 189 = .ok (.aload_n 0, 1) := by decide +kernel
theorem dX9_draws_190 : decode cX9_draws 190 = .ok (.getfield 13, 3) := by decide +kernel
theorem dX9_draws_193 : decode cX9_draws 193 = .ok (.bipush 88, 2) := by decide +kernel
theorem dX9_draws_195 : decode cX9_draws 195 = .ok (.dup2, 1) := by decide +kernel
theorem dX9_draws_196 : decode cX9_draws 196 = .ok (.iaload, 1) := by decide +kernel
theorem dX9_draws_197 : decode cX9_draws 197 = .ok (.iconst 1, 1) := by decide +kernel
theorem dX9_draws_198 : decode cX9_draws 198 = .ok (.iadd, 1) := by decide +kernel
theorem dX9_draws_199 : decode cX9_draws 199 = .ok (.iastore, 1) := by decide +kernel
theorem dX9_draws_200 : decode cX9_draws 200 = .ok (.return_, 1) := by decide +kernel
theorem dX9_draw_0 : decode cX9_draw 0 = .ok (.aload_n 0, 1) := by decide +kernel
theorem dX9_draw_1 : decode cX9_draw 1 = .ok (.iload_n 1, 1) := by decide +kernel
theorem dX9_draw_2 : decode cX9_draw 2 = .ok (.iload_n 2, 1) := by decide +kernel
theorem dX9_draw_3 : decode cX9_draw 3 = .ok (.invokevirtual 104, 3) := by decide +kernel
theorem dX9_draw_6 : decode cX9_draw 6 = .ok (.ifCond .ne 5, 3) := by decide +kernel
theorem dX9_draw_9 : decode cX9_draw 9 = .ok (.iconst (-1), 1) := by decide +kernel
theorem dX9_draw_10 : decode cX9_draw 10 = .ok (.ireturn, 1) := by decide +kernel
theorem dX9_draw_11 : decode cX9_draw 11 = .ok (.aload_n 0, 1) := by decide +kernel
theorem dX9_draw_12 : decode cX9_draw 12 = .ok (.iload_n 1, 1) := by decide +kernel
theorem dX9_draw_13 : decode cX9_draw 13 = .ok (.iload_n 2, 1) := by decide +kernel
