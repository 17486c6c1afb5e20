theorem dX9_draw_14 : decode cX9_draw 14 = .ok (.invokevirtual 207, 3) := by decide +kernel
theorem dX9_draw_17 : decode cX9_draw 17 = .ok (.ifCond .le 6, 3) := by decide +kernel
theorem dX9_draw_20 : decode cX9_draw 20 = .ok (.bipush (-2), 2) := by decide +kernel
theorem dX9_draw_22 : decode cX9_draw 22 = .ok (.ireturn, 1) := by decide +kernel
theorem dX9_draw_23 : decode cX9_draw 23 = .ok (.aload_n 0, 1) := by decide +kernel
theorem dX9_draw_24 : decode cX9_draw 24 = .ok (.getfield 13, 3) := by decide +kernel
theorem dX9_draw_27 : decode cX9_draw 27 = .ok (.bipush 88, 2) := by decide +kernel
theorem dX9_draw_29 : decode cX9_draw 29 = .ok (.iaload, 1) := by decide +kernel
theorem dX9_draw_30 : decode cX9_draw 30 = .ok (.bipush 20, 2) := by decide +kernel
theorem dX9_draw_32 : decode cX9_draw 32 = .ok (.if_icmp .ne 6, 3) := by decide +kernel
theorem dX9_draw_35 : decode cX9_draw 35 = .ok (.bipush (-3), 2) := by decide +kernel
theorem dX9_draw_37 : decode cX9_draw 37 = .ok (.ireturn, 1) := by decide +kernel
theorem dX9_draw_38 : decode cX9_draw 38 = .ok (.aload_n 0, 1) := by decide +kernel
theorem dX9_draw_39 : decode cX9_draw 39 = .ok (.invokevirtual 89, 3) := by decide +kernel
theorem dX9_draw_42 : decode cX9_draw 42 = .ok (.aload_n 0, 1) := by decide +kernel
theorem dX9_draw_43 : decode cX9_draw 43 = .ok (.iload_n 1, 1) := by decide +kernel
theorem dX9_draw_44 : decode cX9_draw 44 = .ok (.iload_n 2, 1) := by decide +kernel
theorem dX9_draw_45 : decode cX9_draw 45 = .ok (.invokevirtual 210, 3) := by decide +kernel
theorem dX9_draw_48 : decode cX9_draw 48 = .ok (.aload_n 0, 1) := by decide +kernel
theorem dX9_draw_49 : decode cX9_draw 49 = .ok (.getfield 13, 3) := by decide +kernel
theorem dX9_draw_52 : decode cX9_draw 52 = .ok (.bipush 88, 2) := by decide +kernel
theorem dX9_draw_54 : decode cX9_draw 54 = .ok (.iaload, 1) := by decide +kernel
theorem dX9_draw_55 : decode cX9_draw 55 = .ok (.iconst 1, 1) := by decide +kernel
theorem dX9_draw_56 : decode cX9_draw 56 = .ok (.isub, 1) := by decide +kernel
theorem dX9_draw_57 : decode cX9_draw 57 = .ok (.ireturn, 1) := by decide +kernel
theorem dX9_isStroke_0 : decode cX9_isStroke 0 = .ok (.iload_n 1, 1) := by decide +kernel
theorem dX9_isStroke_1 : decode cX9_isStroke 1 = .ok (.i2l, 1) := by decide +kernel
theorem dX9_isStroke_2 : decode cX9_isStroke 2 = .ok (.lconst 0, 1) := by decide +kernel
theorem dX9_isStroke_3 : decode cX9_isStroke 3 = .ok (.aload_n 0, 1) := by decide +kernel
theorem dX9_isStroke_4 : decode cX9_isStroke 4 = .ok (.getfield 13, 3) := by decide +kernel
theorem dX9_isStroke_7 : decode cX9_isStroke 7 = .ok (.bipush 88, 2) := by decide +kernel
theorem dX9_isStroke_9 : decode cX9_isStroke 9 = .ok (.iaload, 1) := by decide +kernel
theorem dX9_isStroke_10 : decode cX9_isStroke 10 = .ok (.iconst 1, 1) := by decide +kernel
theorem dX9_isStroke_11 : decode cX9_isStroke 11 = .ok (.isub, 1) := by decide +kernel
theorem dX9_isStroke_12 : decode cX9_isStroke 12 = .ok (.i2l, 1) := by decide +kernel
theorem dX9_isStroke_13 : decode cX9_isStroke 13 = .ok (.invokestatic 56, 3) := by decide +kernel
theorem dX9_isStroke_16 : decode cX9_isStroke 16 = .ok (.ireturn, 1) := by decide +kernel
theorem dX9_rub_0 : decode cX9_rub 0 = .ok (.aload_n 0, 1) := by decide +kernel
theorem dX9_rub_1 : decode cX9_rub 1 = .ok (.iload_n 1, 1) := by decide +kernel
theorem dX9_rub_2 : decode cX9_rub 2 = .ok (.invokevirtual 213, 3) := by decide +kernel
theorem dX9_rub_5 : decode cX9_rub 5 = .ok (.ifCond .ne 5, 3) := by decide +kernel
theorem dX9_rub_8 : decode cX9_rub 8 = .ok (.iconst (-1), 1) := by decide +kernel
theorem dX9_rub_9 : decode cX9_rub 9 = .ok (.ireturn, 1) := by decide +kernel
theorem dX9_rub_10 : decode cX9_rub 10 = .ok (.aload_n 0, 1) := by decide +kernel
theorem dX9_rub_11 : decode cX9_rub 11 = .ok (.invokevirtual 89, 3) := by decide +kernel
theorem dX9_rub_14 : decode cX9_rub 14 = .ok (.aload_n 0, 1) := by decide +kernel
theorem dX9_rub_15 : decode cX9_rub 15 = .ok (.iload_n 1, 1) := by decide +kernel
theorem dX9_rub_16 : decode cX9_rub 16 = .ok (.invokevirtual 113, 3) := by decide +kernel
theorem dX9_rub_19 : decode cX9_rub 19 = .ok (.aload_n 0, 1) := by decide +kernel
theorem dX9_rub_20 : decode cX9_rub 20 = .ok (.getfield 13, 3) := by decide +kernel
theorem dX9_rub_23 : decode cX9_rub 23 = .ok (.bipush 88, 2) := by decide +kernel
theorem dX9_rub_25 : decode cX9_rub 25 = .ok (.iaload, 1) := by decide +kernel
theorem dX9_rub_26 : decode cX9_rub 26 = .ok (.ireturn, 1) := by decide +kernel
theorem dX9_hatch_0 : decode cX9_hatch 0 = .ok (.aload_n 0, 1) := by decide +kernel
theorem dX9_hatch_1 : decode cX9_hatch 1 = .ok (.invokevirtual 89, 3) := by decide +kernel
theorem dX9_hatch_4 : decode cX9_hatch 4 = .ok (.iconst 0, 1) := by decide +kernel
theorem dX9_hatch_5 : decode cX9_hatch 5 = .ok (.istore_n 1, 1) := by decide +kernel
theorem dX9_hatch_6 : decode cX9_hatch 6 = .ok (.iconst 1, 1) := by decide +kernel
theorem dX9_hatch_7 : decode cX9_hatch 7 = .ok (.istore_n 2, 1) := by decide +kernel
theorem dX9_hatch_8 : decode cX9_hatch 8 = .ok (.iload_n 2, 1) := by decide +kernel
theorem dX9_hatch_9 : decode cX9_hatch 9 = .ok (.ifCond .eq 156, 3) := by decide +kernel
theorem dX9_hatch_12 : decode cX9_hatch 12 = .ok (.aload_n 0, 1) := by decide +kernel
theorem dX9_hatch_13 : decode cX9_hatch 13 = .ok (.getfield 13, 3) := by decide +kernel
theorem dX9_hatch_16 : decode cX9_hatch 16 = .ok (.bipush 88, 2) := by decide +kernel
theorem dX9_hatch_18 : decode cX9_hatch 18 = .ok (.iaload, 1) := by decide +kernel
theorem dX9_hatch_19 : decode cX9_hatch 19 = .ok (.bipush 20, 2) := by decide +kernel
theorem dX9_hatch_21 : decode cX9_hatch 21 = .ok (.if_icmp .ge 144, 3) := by decide +kernel
theorem dX9_hatch_24 : decode cX9_hatch 24 = .ok (.bipush (-4), 2) := by decide +kernel
theorem dX9_hatch_26 : decode cX9_hatch 26 = .ok (.istore_n 3, 1) := by decide +kernel
theorem dX9_hatch_27 : decode cX9_hatch 27 = .ok (.iconst 0, 1) := by decide +kernel
theorem dX9_hatch_28 : decode cX9_hatch 28 = .ok (.istore 4, 2) := by decide +kernel
theorem dX9_hatch_30 : decode cX9_hatch 30 = .ok (.iload 4, 2) := by decide +kernel
theorem dX9_hatch_32 : decode cX9_hatch 32 = .ok (.bipush 81, 2) := by decide +kernel
theorem dX9_hatch_34 : decode cX9_hatch 34 = .ok (.if_icmp .ge 97, 3) := by decide +kernel
theorem dX9_hatch_37 : decode cX9_hatch 37 = .ok (.aload_n 0, 1) := by decide +kernel
theorem dX9_hatch_38 : decode cX9_hatch 38 = .ok (.iload 4, 2) := by decide +kernel
theorem dX9_hatch_40 : decode cX9_hatch 40 = .ok (.bipush 9, 2) := by decide +kernel
theorem dX9_hatch_42 : decode cX9_hatch 42 = .ok (.irem, 1) := by decide +kernel
theorem dX9_hatch_43 : decode cX9_hatch 43 = .ok (.iload 4, 2) := by decide +kernel
theorem dX9_hatch_45 : decode cX9_hatch 45 = .ok (.bipush 9, 2) := by decide +kernel
theorem dX9_hatch_47 : decode cX9_hatch 47 = .ok (.idiv, 1) := by decide +kernel
theorem dX9_hatch_48 : decode cX9_hatch 48 = .ok (.invokevirtual 104, 3) := by decide +kernel
theorem dX9_hatch_51 : decode cX9_hatch 51 = .ok (.ifCond .eq 24, 3) := by decide +kernel
theorem dX9_hatch_54 : decode cX9_hatch 54 = .ok (.aload_n 0, 1) := by decide +kernel
theorem dX9_hatch_55 : decode cX9_hatch 55 = .ok (.iload 4, 2) := by decide +kernel
theorem dX9_hatch_57 : decode cX9_hatch 57 = .ok (.bipush 9, 2) := by decide +kernel
theorem dX9_hatch_59 : decode cX9_hatch 59 = .ok (.irem, 1) := by decide +kernel
theorem dX9_hatch_60 : decode cX9_hatch 60 = .ok (.iload 4, 2) := by decide +kernel
theorem dX9_hatch_62 : decode cX9_hatch 62 = .ok (.bipush 9, 2) := by decide +kernel
theorem dX9_hatch_64 : decode cX9_hatch 64 = .ok (.idiv, 1) := by decide +kernel
theorem dX9_hatch_65 : decode cX9_hatch 65 = .ok (.invokevirtual 207, 3) := by decide +kernel
theorem dX9_hatch_68 : decode cX9_hatch 68 = .ok (.ifCond .ne 7, 3) := by decide +kernel
theorem dX9_hatch_71 : decode cX9_hatch 71 = .ok (.iconst 1, 1) := by decide +kernel
theorem dX9_hatch_72 : decode cX9_hatch 72 = .ok (.goto 4, 3) := by decide +kernel
theorem dX9_hatch_75 : decode cX9_hatch 75 = .ok (.iconst 0, 1) := by decide +kernel
theorem dX9_hatch_76 : decode cX9_hatch 76 = .ok (.istore 5, 2) := by decide +kernel
theorem dX9_hatch_78 : decode cX9_hatch 78 = .ok (.iload 5, 2) := by decide +kernel
theorem dX9_hatch_80 : decode cX9_hatch 80 = .ok (.ifCond .eq 43, 3) := by decide +kernel
theorem dX9_hatch_83 : decode cX9_hatch 83 = .ok (.iload_n 3, 1) := by decide +kernel
theorem dX9_hatch_84 : decode cX9_hatch 84 = .ok (.bipush (-4), 2) := by decide +kernel
theorem dX9_hatch_86 : decode cX9_hatch 86 = .ok (.if_icmp .eq 32, 3) := by decide +kernel
theorem dX9_hatch_89 : decode cX9_hatch 89 = .ok (.aload_n 0, 1) := by decide +kernel
theorem dX9_hatch_90 : decode cX9_hatch 90 = .ok (.iload 4, 2) := by decide +kernel
theorem dX9_hatch_92 : decode cX9_hatch 92 = .ok (.bipush 9, 2) := by decide +kernel
theorem dX9_hatch_94 : decode cX9_hatch 94 = .ok (.irem, 1) := by decide +kernel
theorem dX9_hatch_95 : decode cX9_hatch 95 = .ok (.iload 4, 2) := by decide +kernel
theorem dX9_hatch_97 : decode cX9_hatch 97 = .ok (.bipush 9, 2) := by decide +kernel
theorem dX9_hatch_99 : decode cX9_hatch 99 = .ok (.idiv, 1) := by decide +kernel
theorem dX9_hatch_100 : decode cX9_hatch 100 = .ok (.invokevirtual 146, 3) := by decide +kernel
theorem dX9_hatch_103 : decode cX9_hatch 103 = .ok (.aload_n 0, 1) := by decide +kernel
theorem dX9_hatch_104 : decode cX9_hatch 104 = .ok (.iload_n 3, 1) := by decide +kernel
theorem dX9_hatch_105 : decode cX9_hatch 105 = .ok (.bipush 9, 2) := by decide +kernel
theorem dX9_hatch_107 : decode cX9_hatch 107 = .ok (.irem, 1) := by decide +kernel
theorem dX9_hatch_108 : decode cX9_hatch 108 = .ok (.iload_n 3, 1) := by decide +kernel
theorem dX9_hatch_109 : decode cX9_hatch 109 = .ok (.bipush 9, 2) := by decide +kernel
theorem dX9_hatch_111 : decode cX9_hatch 111 = .ok (.idiv, 1) := by decide +kernel
theorem dX9_hatch_112 : decode cX9_hatch 112 = .ok (.invokevirtual 146, 3) := by decide +kernel
theorem dX9_hatch_115 : decode cX9_hatch 115 = .ok (.if_icmp .le 8, 3) := by decide +kernel
theorem dX9_hatch_118 : decode cX9_hatch 118 = .ok (.iload 4, 2) := by decide +kernel
theorem dX9_hatch_120 : decode cX9_hatch 120 = .ok (.goto 4, 3) := by decide +kernel
theorem dX9_hatch_123 : decode cX9_hatch 123 = .ok (.iload_n 3, 1) := by decide +kernel
theorem dX9_hatch_124 : decode cX9_hatch 124 = .ok (.istore_n 3, 1) := by decide +kernel
theorem dX9_hatch_125 : decode cX9_hatch 125 = .ok (.iinc 4 1, 3) := by decide +kernel
theorem dX9_hatch_128 : decode cX9_hatch 128 = .ok (.goto (-98), 3) := by decide +kernel
theorem dX9_hatch_131 : decode cX9_hatch 131 = .ok (.iload_n 3, 1) := by decide +kernel
theorem dX9_hatch_132 : decode cX9_hatch 132 = .ok (.bipush (-4), 2) := by decide +kernel
theorem dX9_hatch_134 : decode cX9_hatch 134 = .ok (.if_icmp .eq 7, 3) := by decide +kernel
theorem dX9_hatch_137 : decode cX9_hatch 137 = .ok (.iconst 1, 1) := by decide +kernel
theorem dX9_hatch_138 : decode cX9_hatch 138 = .ok (.goto 4, 3) := by decide +kernel
theorem dX9_hatch_141 : decode cX9_hatch 141 = .ok (.iconst 0, 1) := by decide +kernel
theorem dX9_hatch_142 : decode cX9_hatch 142 = .ok (.istore_n 2, 1) := by decide +kernel
theorem dX9_hatch_143 : decode cX9_hatch 143 = .ok (.iload_n 2, 1) := by decide +kernel
theorem dX9_hatch_144 : decode cX9_hatch 144 = .ok (.ifCond .eq 18, 3) := by decide +kernel
theorem dX9_hatch_147 : decode cX9_hatch 147 = .ok (.aload_n 0, 1) := by decide +kernel
theorem dX9_hatch_148 : decode cX9_hatch 148 = .ok (.iload_n 3, 1) := by decide +kernel
theorem dX9_hatch_149 : decode cX9_hatch 149 = .ok (.bipush 9, 2) := by decide +kernel
theorem dX9_hatch_151 : decode cX9_hatch 151 = .ok (.irem, 1) := by decide +kernel
theorem dX9_hatch_152 : decode cX9_hatch 152 = .ok (.iload_n 3, 1) := by decide +kernel
theorem dX9_hatch_153 : decode cX9_hatch 153 = .ok (.bipush 9, 2) := by decide +kernel
theorem dX9_hatch_155 : decode cX9_hatch 155 = .ok (.idiv, 1) := by decide +kernel
theorem dX9_hatch_156 : decode cX9_hatch 156 = .ok (.invokevirtual 210, 3) := by decide +kernel
theorem dX9_hatch_159 : decode cX9_hatch 159 = .ok (.iinc 1 1, 3) := by decide +kernel
theorem dX9_hatch_162 : decode cX9_hatch 162 = .ok (.goto (-154), 3) := by decide +kernel
theorem dX9_hatch_165 : decode cX9_hatch 165 = .ok (.iload_n 1, 1) := by decide +kernel
theorem dX9_hatch_166 : decode cX9_hatch 166 = .ok (.ireturn, 1) := by decide +kernel
theorem dX9_stroke_0 : decode cX9_stroke 0 = .ok (.aload_n 0, 1) := by decide +kernel
theorem dX9_stroke_1 : decode cX9_stroke 1 = .ok (.iload_n 1, 1) := by decide +kernel
theorem dX9_stroke_2 : decode cX9_stroke 2 = .ok (.invokevirtual 213, 3) := by decide +kernel
theorem dX9_stroke_5 : decode cX9_stroke 5 = .ok (.ifCond .eq 9, 3) := by decide +kernel
theorem dX9_stroke_8 : decode cX9_stroke 8 = .ok (.iload_n 2, 1) := by decide +kernel
theorem dX9_stroke_9 : decode cX9_stroke 9 = .ok (.bipush (-3), 2) := by decide +kernel
theorem dX9_stroke_11 : decode cX9_stroke 11 = .ok (.if_icmp .ge 5, 3) := by decide +kernel
theorem dX9_stroke_14 : decode cX9_stroke 14 = .ok (.iconst (-1), 1) := by decide +kernel
theorem dX9_stroke_15 : decode cX9_stroke 15 = .ok (.ireturn, 1) := by decide +kernel
theorem dX9_stroke_16 : decode cX9_stroke 16 = .ok (.bipush 89, 2) := by decide +kernel
theorem dX9_stroke_18 : decode cX9_stroke 18 = .ok (.bipush 8, 2) := by decide +kernel
theorem dX9_stroke_20 : decode cX9_stroke 20 = .ok (.iload_n 1, 1) := by decide +kernel
theorem dX9_stroke_21 : decode cX9_stroke 21 = .ok (.imul, 1) := by decide +kernel
theorem dX9_stroke_22 : decode cX9_stroke 22 = .ok (.iadd, 1) := by decide +kernel
theorem dX9_stroke_23 : decode cX9_stroke 23 = .ok (.istore_n 3, 1) := by decide +kernel
theorem dX9_stroke_24 : decode cX9_stroke 24 = .ok (.aload_n 0, 1) := by decide +kernel
theorem dX9_stroke_25 : decode cX9_stroke 25 = .ok (.getfield 13, 3) := by decide +kernel
theorem dX9_stroke_28 : decode cX9_stroke 28 = .ok (.iload_n 3, 1) := by decide +kernel
theorem dX9_stroke_29 : decode cX9_stroke 29 = .ok (.bipush 6, 2) := by decide +kernel
theorem dX9_stroke_31 : decode cX9_stroke 31 = .ok (.iadd, 1) := by decide +kernel
theorem dX9_stroke_32 : decode cX9_stroke 32 = .ok (.iaload, 1) := by decide +kernel
theorem dX9_stroke_33 : decode cX9_stroke 33 = .ok (.istore 4, 2) := by decide +kernel
theorem dX9_stroke_35 : decode cX9_stroke 35 = .ok (.iload_n 2, 1) := by decide +kernel
theorem dX9_stroke_36 : decode cX9_stroke 36 = .ok (.tableswitch 76 (-3) (-1) #[41, 31, 28], 28) := by decide +kernel
theorem dX9_stroke_64 : decode cX9_stroke 64 = .ok (.iload 4, 2) := by decide +kernel
theorem dX9_stroke_66 : decode cX9_stroke 66 = .ok (.ireturn, 1) := by decide +kernel
theorem dX9_stroke_67 : decode cX9_stroke 67 = .ok (.aload_n 0, 1) := by decide +kernel
theorem dX9_stroke_68 : decode cX9_stroke 68 = .ok (.getfield 13, 3) := by decide +kernel
theorem dX9_stroke_71 : decode cX9_stroke 71 = .ok (.iload_n 3, 1) := by decide +kernel
theorem dX9_stroke_72 : decode cX9_stroke 72 = .ok (.bipush 7, 2) := by decide +kernel
theorem dX9_stroke_74 : decode cX9_stroke 74 = .ok (.iadd, 1) := by decide +kernel
theorem dX9_stroke_75 : decode cX9_stroke 75 = .ok (.iaload, 1) := by decide +kernel
theorem dX9_stroke_76 : decode cX9_stroke 76 = .ok (.ireturn, 1) := by decide +kernel
theorem dX9_stroke_77 : decode cX9_stroke 77 = .ok (.aload_n 0, 1) := by decide +kernel
theorem dX9_stroke_78 : decode cX9_stroke 78 = .ok (.getfield 13, 3) := by decide +kernel
theorem dX9_stroke_81 : decode cX9_stroke 81 = .ok (.bipush 7, 2) := by decide +kernel
theorem dX9_stroke_83 : decode cX9_stroke 83 = .ok (.aload_n 0, 1) := by decide +kernel
theorem dX9_stroke_84 : decode cX9_stroke 84 = .ok (.getfield 13, 3) := by decide +kernel
theorem dX9_stroke_87 : decode cX9_stroke 87 = .ok (.iload_n 3, 1) := by decide +kernel
theorem dX9_stroke_88 : decode cX9_stroke 88 = .ok (.iaload, 1) := by decide +kernel
theorem dX9_stroke_89 : decode cX9_stroke 89 = .ok (.iadd, 1) := by decide +kernel
theorem dX9_stroke_90 : decode cX9_stroke 90 = .ok (.iaload, 1) := by decide +kernel
theorem dX9_stroke_91 : decode cX9_stroke 91 = .ok (.aload_n 0, 1) := by decide +kernel
theorem dX9_stroke_92 : decode cX9_stroke 92 = .ok (.getfield 13, 3) := by decide +kernel
theorem dX9_stroke_95 : decode cX9_stroke 95 = .ok (.bipush 7, 2) := by decide +kernel
theorem dX9_stroke_97 : decode cX9_stroke 97 = .ok (.aload_n 0, 1) := by decide +kernel
theorem dX9_stroke_98 : decode cX9_stroke 98 = .ok (.getfield 13, 3) := by decide +kernel
theorem dX9_stroke_101 : decode cX9_stroke 101 = .ok (.iload_n 3, 1) := by decide +kernel
theorem dX9_stroke_102 : decode cX9_stroke 102 = .ok (.iload 4, 2) := by decide +kernel
theorem dX9_stroke_104 : decode cX9_stroke 104 = .ok (.iadd, 1) := by decide +kernel
theorem dX9_stroke_105 : decode cX9_stroke 105 = .ok (.iconst 1, 1) := by decide +kernel
theorem dX9_stroke_106 : decode cX9_stroke 106 = .ok (.isub, 1) := by decide +kernel
theorem dX9_stroke_107 : decode cX9_stroke 107 = .ok (.iaload, 1) := by decide +kernel
theorem dX9_stroke_108 : decode cX9_stroke 108 = .ok (.iadd, 1) := by decide +kernel
theorem dX9_stroke_109 : decode cX9_stroke 109 = .ok (.iaload, 1) := by decide +kernel
theorem dX9_stroke_110 : decode cX9_stroke 110 = .ok (.isub, 1) := by decide +kernel
theorem dX9_stroke_111 : decode cX9_stroke 111 = .ok (.ireturn, 1) := by decide +kernel
theorem dX9_stroke_112 : decode cX9_stroke 112 = .ok (.iload_n 2, 1) := by decide +kernel
theorem dX9_stroke_113 : decode cX9_stroke 113 = .ok (.iload 4, 2) := by decide +kernel
theorem dX9_stroke_115 : decode cX9_stroke 115 = .ok (.if_icmp .ge 14, 3) := by decide +kernel
theorem dX9_stroke_118 : decode cX9_stroke 118 = .ok (.aload_n 0, 1) := by decide +kernel
theorem dX9_stroke_119 : decode cX9_stroke 119 = .ok (.getfield 13, 3) := by decide +kernel
theorem dX9_stroke_122 : decode cX9_stroke 122 = .ok (.iload_n 3, 1) := by decide +kernel
theorem dX9_stroke_123 : decode cX9_stroke 123 = .ok (.iload_n 2, 1) := by decide +kernel
theorem dX9_stroke_124 : decode cX9_stroke 124 = .ok (.iadd, 1) := by decide +kernel
theorem dX9_stroke_125 : decode cX9_stroke 125 = .ok (.iaload, 1) := by decide +kernel
theorem dX9_stroke_126 : decode cX9_stroke 126 = .ok (.goto 5, 3) := by decide +kernel
theorem dX9_stroke_129 : decode cX9_stroke 129 = .ok (.bipush (-4), 2) := by decide +kernel
theorem dX9_stroke_131 : decode cX9_stroke 131 = .ok (.ireturn, 1) := by decide +kernel
theorem dX9_whose_0 : decode cX9_whose 0 = .ok (.aload_n 0, 1) := by decide +kernel
theorem dX9_whose_1 : decode cX9_whose 1 = .ok (.iload_n 1, 1) := by decide +kernel
theorem dX9_whose_2 : decode cX9_whose 2 = .ok (.iload_n 2, 1) := by decide +kernel
theorem dX9_whose_3 : decode cX9_whose 3 = .ok (.invokevirtual 104, 3) := by decide +kernel
theorem dX9_whose_6 : decode cX9_whose 6 = .ok (.ifCond .ne 5, 3) := by decide +kernel
theorem dX9_whose_9 : decode cX9_whose 9 = .ok (.iconst (-1), 1) := by decide +kernel
theorem dX9_whose_10 : decode cX9_whose 10 = .ok (.ireturn, 1) := by decide +kernel
theorem dX9_whose_11 : decode cX9_whose 11 = .ok (.iconst 0, 1) := by decide +kernel
theorem dX9_whose_12 : decode cX9_whose 12 = .ok (.istore_n 3, 1) := by decide +kernel
theorem dX9_whose_13 : decode cX9_whose 13 = .ok (.iload_n 3, 1) := by decide +kernel
theorem dX9_whose_14 : decode cX9_whose 14 = .ok (.aload_n 0, 1) := by decide +kernel
theorem dX9_whose_15 : decode cX9_whose 15 = .ok (.getfield 13, 3) := by decide +kernel
theorem dX9_whose_18 : decode cX9_whose 18 = .ok (.bipush 88, 2) := by decide +kernel
theorem dX9_whose_20 : decode cX9_whose 20 = .ok (.iaload, 1) := by decide +kernel
theorem dX9_whose_21 : decode cX9_whose 21 = .ok (.if_icmp .ge 64, 3) := by decide +kernel
theorem dX9_whose_24 : decode cX9_whose 24 = .ok (.iconst 0, 1) := by decide +kernel
theorem dX9_whose_25 : decode cX9_whose 25 = .ok (.istore 4, 2) := by decide +kernel
theorem dX9_whose_27 : decode cX9_whose 27 = .ok (.iload 4, 2) := by decide +kernel
theorem dX9_whose_29 : decode cX9_whose 29 = .ok (.aload_n 0, 1) := by decide +kernel
theorem dX9_whose_30 : decode cX9_whose 30 = .ok (.getfield 13, 3) := by decide +kernel
theorem dX9_whose_33 : decode cX9_whose 33 = .ok (.bipush 89, 2) := by decide +kernel
theorem dX9_whose_35 : decode cX9_whose 35 = .ok (.bipush 8, 2) := by decide +kernel
theorem dX9_whose_37 : decode cX9_whose 37 = .ok (.iload_n 3, 1) := by decide +kernel
theorem dX9_whose_38 : decode cX9_whose 38 = .ok (.imul, 1) := by decide +kernel
theorem dX9_whose_39 : decode cX9_whose 39 = .ok (.iadd, 1) := by decide +kernel
theorem dX9_whose_40 : decode cX9_whose 40 = .ok (.bipush 6, 2) := by decide +kernel
theorem dX9_whose_42 : decode cX9_whose 42 = .ok (.iadd, 1) := by decide +kernel
theorem dX9_whose_43 : decode cX9_whose 43 = .ok (.iaload, 1) := by decide +kernel
theorem dX9_whose_44 : decode cX9_whose 44 = .ok (.if_icmp .ge 35, 3) := by decide +kernel
theorem dX9_whose_47 : decode cX9_whose 47 = .ok (.aload_n 0, 1) := by decide +kernel
theorem dX9_whose_48 : decode cX9_whose 48 = .ok (.getfield 13, 3) := by decide +kernel
theorem dX9_whose_51 : decode cX9_whose 51 = .ok (.bipush 89, 2) := by decide +kernel
theorem dX9_whose_53 : decode cX9_whose 53 = .ok (.bipush 8, 2) := by decide +kernel
theorem dX9_whose_55 : decode cX9_whose 55 = .ok (.iload_n 3, 1) := by decide +kernel
theorem dX9_whose_56 : decode cX9_whose 56 = .ok (.imul, 1) := by decide +kernel
theorem dX9_whose_57 : decode cX9_whose 57 = .ok (.iadd, 1) := by decide +kernel
theorem dX9_whose_58 : decode cX9_whose 58 = .ok (.iload 4, 2) := by decide +kernel
theorem dX9_whose_60 : decode cX9_whose 60 = .ok (.iadd, 1) := by decide +kernel
theorem dX9_whose_61 : decode cX9_whose 61 = .ok (.iaload, 1) := by decide +kernel
theorem dX9_whose_62 : decode cX9_whose 62 = .ok (.bipush 9, 2) := by decide +kernel
theorem dX9_whose_64 : decode cX9_whose 64 = .ok (.iload_n 2, 1) := by decide +kernel
theorem dX9_whose_65 : decode cX9_whose 65 = .ok (.imul, 1) := by decide +kernel
theorem dX9_whose_66 : decode cX9_whose 66 = .ok (.iload_n 1, 1) := by decide +kernel
theorem dX9_whose_67 : decode cX9_whose 67 = .ok (.iadd, 1) := by decide +kernel
theorem dX9_whose_68 : decode cX9_whose 68 = .ok (.if_icmp .ne 5, 3) := by decide +kernel
theorem dX9_whose_71 : decode cX9_whose 71 = .ok (.iload_n 3, 1) := by decide +kernel
theorem dX9_whose_72 : decode cX9_whose 72 = .ok (.ireturn, 1) := by decide +kernel
theorem dX9_whose_73 : decode cX9_whose 73 = .ok (.iinc 4 1, 3) := by decide +kernel
theorem dX9_whose_76 : decode cX9_whose 76 = .ok (.goto (-49), 3) := by decide +kernel
theorem dX9_whose_79 : decode cX9_whose 79 = .ok (.iinc 3 1, 3) := by decide +kernel
theorem dX9_whose_82 : decode cX9_whose 82 = .ok (.goto (-69), 3) := by decide +kernel
theorem dX9_whose_85 : decode cX9_whose 85 = .ok (.bipush (-4), 2) := by decide +kernel
theorem dX9_whose_87 : decode cX9_whose 87 = .ok (.ireturn, 1) := by decide +kernel
theorem dX9_sumOf_0 : decode cX9_sumOf 0 = .ok (.iconst 0, 1) := by decide +kernel
theorem dX9_sumOf_1 : decode cX9_sumOf 1 = .ok (.istore_n 2, 1) := by decide +kernel
theorem dX9_sumOf_2 : decode cX9_sumOf 2 = .ok (.iconst 0, 1) := by decide +kernel
theorem dX9_sumOf_3 : decode cX9_sumOf 3 = .ok (.istore_n 3, 1) := by decide +kernel
theorem dX9_sumOf_4 : decode cX9_sumOf 4 = .ok (.iload_n 3, 1) := by decide +kernel
theorem dX9_sumOf_5 : decode cX9_sumOf 5 = .ok (.bipush 81, 2) := by decide +kernel
theorem dX9_sumOf_7 : decode cX9_sumOf 7 = .ok (.if_icmp .ge 121, 3) := by decide +kernel
theorem dX9_sumOf_10 : decode cX9_sumOf 10 = .ok (.iload_n 3, 1) := by decide +kernel
theorem dX9_sumOf_11 : decode cX9_sumOf 11 = .ok (.bipush 9, 2) := by decide +kernel
theorem dX9_sumOf_13 : decode cX9_sumOf 13 = .ok (.irem, 1) := by decide +kernel
theorem dX9_sumOf_14 : decode cX9_sumOf 14 = .ok (.istore 4, 2) := by decide +kernel
theorem dX9_sumOf_16 : decode cX9_sumOf 16 = .ok (.iload_n 3, 1) := by decide +kernel
theorem dX9_sumOf_17 : decode cX9_sumOf 17 = .ok (.bipush 9, 2) := by decide +kernel
theorem dX9_sumOf_19 : decode cX9_sumOf 19 = .ok (.idiv, 1) := by decide +kernel
theorem dX9_sumOf_20 : decode cX9_sumOf 20 = .ok (.istore 5, 2) := by decide +kernel
theorem dX9_sumOf_22 : decode cX9_sumOf 22 = .ok (.aload_n 0, 1) := by decide +kernel
theorem dX9_sumOf_23 : decode cX9_sumOf 23 = .ok (.iload 4, 2) := by decide +kernel
theorem dX9_sumOf_25 : decode cX9_sumOf 25 = .ok (.iload 5, 2) := by decide +kernel
theorem dX9_sumOf_27 : decode cX9_sumOf 27 = .ok (.invokevirtual 104, 3) := by decide +kernel
theorem dX9_sumOf_30 : decode cX9_sumOf 30 = .ok (.ifCond .eq 92, 3) := by decide +kernel
theorem dX9_sumOf_33 : decode cX9_sumOf 33 = .ok (.iload_n 2, 1) := by decide +kernel
theorem dX9_sumOf_34 : decode cX9_sumOf 34 = .ok (.iload_n 1, 1) := by decide +kernel
theorem dX9_sumOf_35 : decode cX9_sumOf 35 = .ok (.iconst 5, 1) := by decide +kernel
theorem dX9_sumOf_36 : decode cX9_sumOf 36 = .ok (.if_icmp .ne 23, 3) := by decide +kernel
theorem dX9_sumOf_39 : decode cX9_sumOf 39 = .ok (.aload_n 0, 1) := by decide +kernel
theorem dX9_sumOf_40 : decode cX9_sumOf 40 = .ok (.iload 4, 2) := by decide +kernel
theorem dX9_sumOf_42 : decode cX9_sumOf 42 = .ok (.iload 5, 2) := by decide +kernel
theorem dX9_sumOf_44 : decode cX9_sumOf 44 = .ok (.iconst 1, 1) := by decide +kernel
theorem dX9_sumOf_45 : decode cX9_sumOf 45 = .ok (.invokevirtual 136, 3) := by decide +kernel
theorem dX9_sumOf_48 : decode cX9_sumOf 48 = .ok (.ifCond .eq 7, 3) := by decide +kernel
theorem dX9_sumOf_51 : decode cX9_sumOf 51 = .ok (.iconst 1, 1) := by decide +kernel
theorem dX9_sumOf_52 : decode cX9_sumOf 52 = .ok (.goto 68, 3) := by decide +kernel
theorem dX9_sumOf_55 : decode cX9_sumOf 55 = .ok (.iconst 0, 1) := by decide +kernel
theorem dX9_sumOf_56 : decode cX9_sumOf 56 = .ok (.goto 64, 3) := by decide +kernel
theorem dX9_sumOf_59 : decode cX9_sumOf 59 = .ok (.iload_n 1, 1) := by decide +kernel
theorem dX9_sumOf_60 : decode cX9_sumOf 60 = .ok (.bipush 6, 2) := by decide +kernel
theorem dX9_sumOf_62 : decode cX9_sumOf 62 = .ok (.if_icmp .ne 23, 3) := by decide +kernel
theorem dX9_sumOf_65 : decode cX9_sumOf 65 = .ok (.aload_n 0, 1) := by decide +kernel
theorem dX9_sumOf_66 : decode cX9_sumOf 66 = .ok (.iload 4, 2) := by decide +kernel
theorem dX9_sumOf_68 : decode cX9_sumOf 68 = .ok (.iload 5, 2) := by decide +kernel
theorem dX9_sumOf_70 : decode cX9_sumOf 70 = .ok (.iconst (-1), 1) := by decide +kernel
theorem dX9_sumOf_71 : decode cX9_sumOf 71 = .ok (.invokevirtual 136, 3) := by decide +kernel
theorem dX9_sumOf_74 : decode cX9_sumOf 74 = .ok (.ifCond .eq 7, 3) := by decide +kernel
theorem dX9_sumOf_77 : decode cX9_sumOf 77 = .ok (.iconst 1, 1) := by decide +kernel
theorem dX9_sumOf_78 : decode cX9_sumOf 78 = .ok (.goto 42, 3) := by decide +kernel
theorem dX9_sumOf_81 : decode cX9_sumOf 81 = .ok (.iconst 0, 1) := by decide +kernel
theorem dX9_sumOf_82 : decode cX9_sumOf 82 = .ok (.goto 38, 3) := by decide +kernel
theorem dX9_sumOf_85 : decode cX9_sumOf 85 = .ok (.iload_n 1, 1) := by decide +kernel
theorem dX9_sumOf_86 : decode cX9_sumOf 86 = .ok (.bipush 7, 2) := by decide +kernel
theorem dX9_sumOf_88 : decode cX9_sumOf 88 = .ok (.if_icmp .ne 24, 3) := by decide +kernel
theorem dX9_sumOf_91 : decode cX9_sumOf 91 = .ok (.aload_n 0, 1) := by decide +kernel
theorem dX9_sumOf_92 : decode cX9_sumOf 92 = .ok (.iload 4, 2) := by decide +kernel
theorem dX9_sumOf_94 : decode cX9_sumOf 94 = .ok (.iload 5, 2) := by decide +kernel
theorem dX9_sumOf_96 : decode cX9_sumOf 96 = .ok (.invokevirtual 149, 3) := by decide +kernel
theorem dX9_sumOf_99 : decode cX9_sumOf 99 = .ok (.bipush (-4), 2) := by decide +kernel
theorem dX9_sumOf_101 : decode cX9_sumOf 101 = .ok (.if_icmp .ne 7, 3) := by decide +kernel
theorem dX9_sumOf_104 : decode cX9_sumOf 104 = .ok (.iconst 1, 1) := by decide +kernel
theorem dX9_sumOf_105 : decode cX9_sumOf 105 = .ok (.goto 15, 3) := by decide +kernel
theorem dX9_sumOf_108 : decode cX9_sumOf 108 = .ok (.iconst 0, 1) := by decide +kernel
theorem dX9_sumOf_109 : decode cX9_sumOf 109 = .ok (.goto 11, 3) := by decide +kernel
theorem dX9_sumOf_112 : decode cX9_sumOf 112 = .ok (.aload_n 0, 1) := by decide +kernel
theorem dX9_sumOf_113 : decode cX9_sumOf 113 = .ok (.iload 4, 2) := by decide +kernel
theorem dX9_sumOf_115 : decode cX9_sumOf 115 = .ok (.iload 5, 2) := by decide +kernel
theorem dX9_sumOf_117 : decode cX9_sumOf 117 = .ok (.invokevirtual 123, 3) := by decide +kernel
theorem dX9_sumOf_120 : decode cX9_sumOf 120 = .ok (.iadd, 1) := by decide +kernel
theorem dX9_sumOf_121 : decode cX9_sumOf 121 = .ok (.istore_n 2, 1) := by decide +kernel
theorem dX9_sumOf_122 : decode cX9_sumOf 122 = .ok (.iinc 3 1, 3) := by decide +kernel
theorem dX9_sumOf_125 : decode cX9_sumOf 125 = .ok (.goto (-121), 3) := by decide +kernel
theorem dX9_sumOf_128 : decode cX9_sumOf 128 = .ok (.iload_n 2, 1) := by decide +kernel
theorem dX9_sumOf_129 : decode cX9_sumOf 129 = .ok (.ireturn, 1) := by decide +kernel
theorem dX9_count_0 : decode cX9_count 0 = .ok (.iconst 0, 1) := by decide +kernel
theorem dX9_count_1 : decode cX9_count 1 = .ok (.istore_n 2, 1) := by decide +kernel
theorem dX9_count_2 : decode cX9_count 2 = .ok (.iconst 0, 1) := by decide +kernel
theorem dX9_count_3 : decode cX9_count 3 = .ok (.istore_n 3, 1) := by decide +kernel
theorem dX9_count_4 : decode cX9_count 4 = .ok (.iload_n 3, 1) := by decide +kernel
theorem dX9_count_5 : decode cX9_count 5 = .ok (.aload_n 0, 1) := by decide +kernel
theorem dX9_count_6 : decode cX9_count 6 = .ok (.getfield 13, 3) := by decide +kernel
theorem dX9_count_9 : decode cX9_count 9 = .ok (.bipush 88, 2) := by decide +kernel
theorem dX9_count_11 : decode cX9_count 11 = .ok (.iaload, 1) := by decide +kernel
theorem dX9_count_12 : decode cX9_count 12 = .ok (.if_icmp .ge 27, 3) := by decide +kernel
theorem dX9_count_15 : decode cX9_count 15 = .ok (.iload_n 2, 1) := by decide +kernel
theorem dX9_count_16 : decode cX9_count 16 = .ok (.aload_n 0, 1) := by decide +kernel
theorem dX9_count_17 : decode cX9_count 17 = .ok (.getfield 13, 3) := by decide +kernel
theorem dX9_count_20 : decode cX9_count 20 = .ok (.bipush 89, 2) := by decide +kernel
theorem dX9_count_22 : decode cX9_count 22 = .ok (.bipush 8, 2) := by decide +kernel
theorem dX9_count_24 : decode cX9_count 24 = .ok (.iload_n 3, 1) := by decide +kernel
theorem dX9_count_25 : decode cX9_count 25 = .ok (.imul, 1) := by decide +kernel
theorem dX9_count_26 : decode cX9_count 26 = .ok (.iadd, 1) := by decide +kernel
theorem dX9_count_27 : decode cX9_count 27 = .ok (.bipush 6, 2) := by decide +kernel
theorem dX9_count_29 : decode cX9_count 29 = .ok (.iadd, 1) := by decide +kernel
theorem dX9_count_30 : decode cX9_count 30 = .ok (.iaload, 1) := by decide +kernel
theorem dX9_count_31 : decode cX9_count 31 = .ok (.iadd, 1) := by decide +kernel
theorem dX9_count_32 : decode cX9_count 32 = .ok (.istore_n 2, 1) := by decide +kernel
theorem dX9_count_33 : decode cX9_count 33 = .ok (.iinc 3 1, 3) := by decide +kernel
theorem dX9_count_36 : decode cX9_count 36 = .ok (.goto (-32), 3) := by decide +kernel
theorem dX9_count_39 : decode cX9_count 39 = .ok (.iload_n 1, 1) := by decide +kernel
theorem dX9_count_40 : decode cX9_count 40 = .ok (.tableswitch 101 0 10 #[60, 60, 67, 75, 83, 85, 85, 85, 91, 96, 85], 60) := by decide +kernel
theorem dX9_count_100 : decode cX9_count 100 = .ok (.aload_n 0, 1) := by decide +kernel
theorem dX9_count_101 : decode cX9_count 101 = .ok (.getfield 13, 3) := by decide +kernel
theorem dX9_count_104 : decode cX9_count 104 = .ok (.iload_n 1, 1) := by decide +kernel
theorem dX9_count_105 : decode cX9_count 105 = .ok (.iaload, 1) := by decide +kernel
theorem dX9_count_106 : decode cX9_count 106 = .ok (.ireturn, 1) := by decide +kernel
theorem dX9_count_107 : decode cX9_count 107 = .ok (.aload_n 0, 1) := by decide +kernel
theorem dX9_count_108 : decode cX9_count 108 = .ok (.getfield 13, 3) := by decide +kernel
theorem dX9_count_111 : decode cX9_count 111 = .ok (.bipush 6, 2) := by decide +kernel
theorem dX9_count_113 : decode cX9_count 113 = .ok (.iaload, 1) := by decide +kernel
theorem dX9_count_114 : decode cX9_count 114 = .ok (.ireturn, 1) := by decide +kernel
theorem dX9_count_115 : decode cX9_count 115 = .ok (.aload_n 0, 1) := by decide +kernel
theorem dX9_count_116 : decode cX9_count 116 = .ok (.getfield 13, 3) := by decide +kernel
theorem dX9_count_119 : decode cX9_count 119 = .ok (.bipush 88, 2) := by decide +kernel
theorem dX9_count_121 : decode cX9_count 121 = .ok (.iaload, 1) := by decide +kernel
theorem dX9_count_122 : decode cX9_count 122 = .ok (.ireturn, 1) := by decide +kernel
theorem dX9_count_123 : decode cX9_count 123 = .ok (.iload_n 2, 1) := by decide +kernel
theorem dX9_count_124 : decode cX9_count 124 = .ok (.ireturn, 1) := by decide +kernel
theorem dX9_count_125 : decode cX9_count 125 = .ok (.aload_n 0, 1) := by decide +kernel
theorem dX9_count_126 : decode cX9_count 126 = .ok (.iload_n 1, 1) := by decide +kernel
theorem dX9_count_127 : decode cX9_count 127 = .ok (.invokevirtual 216, 3) := by decide +kernel
theorem dX9_count_130 : decode cX9_count 130 = .ok (.ireturn, 1) := by decide +kernel
theorem dX9_count_131 : decode cX9_count 131 = .ok (.aload_n 0, 1) := by decide +kernel
theorem dX9_count_132 : decode cX9_count 132 = .ok (.getfield 86, 3) := by decide +kernel
theorem dX9_count_135 : decode cX9_count 135 = .ok (.ireturn, 1) := by decide +kernel
theorem dX9_count_136 : decode cX9_count 136 = .ok (.aload_n 0, 1) := by decide +kernel
theorem dX9_count_137 : decode cX9_count 137 = .ok (.getfield 60, 3) := by decide +kernel
theorem dX9_count_140 : decode cX9_count 140 = .ok (.ireturn, 1) := by decide +kernel
theorem dX9_count_141 : decode cX9_count 141 = .ok (.iconst (-1), 1) := by decide +kernel
theorem dX9_count_142 : decode cX9_count 142 = .ok (.ireturn, 1) := by decide +kernel
theorem dJ9_abs_0f7a4_0 : decode cJ9_abs_0f7a4 0 = .ok (.iload_n 0, 1) := by decide +kernel
theorem dJ9_abs_0f7a4_1 : decode cJ9_abs_0f7a4 1 = .ok (.ifCond .ge 8, 3) := by decide +kernel
theorem dJ9_abs_0f7a4_4 : decode cJ9_abs_0f7a4 4 = .ok (.iload_n 0, 1) := by decide +kernel
theorem dJ9_abs_0f7a4_5 : decode cJ9_abs_0f7a4 5 = .ok (.ineg, 1) := by decide +kernel
theorem dJ9_abs_0f7a4_6 : decode cJ9_abs_0f7a4 6 = .ok (.goto 4, 3) := by decide +kernel
theorem dJ9_abs_0f7a4_9 : decode cJ9_abs_0f7a4 9 = .ok (.iload_n 0, 1) := by decide +kernel
theorem dJ9_abs_0f7a4_10 : decode cJ9_abs_0f7a4 10 = .ok (.ireturn, 1) := by decide +kernel
theorem dJ9_max_7cf53_0 : decode cJ9_max_7cf53 0 = .ok (.iload_n 0, 1) := by decide +kernel
theorem dJ9_max_7cf53_1 : decode cJ9_max_7cf53 1 = .ok (.iload_n 1, 1) := by decide +kernel
theorem dJ9_max_7cf53_2 : decode cJ9_max_7cf53 2 = .ok (.if_icmp .lt 7, 3) := by decide +kernel
theorem dJ9_max_7cf53_5 : decode cJ9_max_7cf53 5 = .ok (.iload_n 0, 1) := by decide +kernel
theorem dJ9_max_7cf53_6 : decode cJ9_max_7cf53 6 = .ok (.goto 4, 3) := by decide +kernel
theorem dJ9_max_7cf53_9 : decode cJ9_max_7cf53 9 = .ok (.iload_n 1, 1) := by decide +kernel
theorem dJ9_max_7cf53_10 : decode cJ9_max_7cf53 10 = .ok (.ireturn, 1) := by decide +kernel
theorem dJ9_min_7cf53_0 : decode cJ9_min_7cf53 0 = .ok (.iload_n 0, 1) := by decide +kernel
theorem dJ9_min_7cf53_1 : decode cJ9_min_7cf53 1 = .ok (.iload_n 1, 1) := by decide +kernel
theorem dJ9_min_7cf53_2 : decode cJ9_min_7cf53 2 = .ok (.if_icmp .gt 7, 3) := by decide +kernel
theorem dJ9_min_7cf53_5 : decode cJ9_min_7cf53 5 = .ok (.iload_n 0, 1) := by decide +kernel
theorem dJ9_min_7cf53_6 : decode cJ9_min_7cf53 6 = .ok (.goto 4, 3) := by decide +kernel
theorem dJ9_min_7cf53_9 : decode cJ9_min_7cf53 9 = .ok (.iload_n 1, 1) := by decide +kernel
theorem dJ9_min_7cf53_10 : decode cJ9_min_7cf53 10 = .ok (.ireturn, 1) := by decide +kernel
theorem dJ0_length_8abf5_0 : decode cJ0_length_8abf5 0 = .ok (.aload_n 0, 1) := by decide +kernel
theorem dJ0_length_8abf5_1 : decode cJ0_length_8abf5 1 = .ok (.getfield 9, 3) := by decide +kernel
theorem dJ0_length_8abf5_4 : decode cJ0_length_8abf5 4 = .ok (.arraylength, 1) := by decide +kernel
theorem dJ0_length_8abf5_5 : decode cJ0_length_8abf5 5 = .ok (.aload_n 0, 1) := by decide +kernel
theorem dJ0_length_8abf5_6 : decode cJ0_length_8abf5 6 = .ok (.invokevirtual 335, 3) := by decide +kernel
theorem dJ0_length_8abf5_9 : decode cJ0_length_8abf5 9 = .ok (.ishr, 1) := by decide +kernel
theorem dJ0_length_8abf5_10 : decode cJ0_length_8abf5 10 = .ok (.ireturn, 1) := by decide +kernel
theorem dJ0_charAt_5068e_0 : decode cJ0_charAt_5068e 0 = .ok (.aload_n 0, 1) := by decide +kernel
theorem dJ0_charAt_5068e_1 : decode cJ0_charAt_5068e 1 = .ok (.invokevirtual 492, 3) := by decide +kernel
theorem dJ0_charAt_5068e_4 : decode cJ0_charAt_5068e 4 = .ok (.ifCond .eq 12, 3) := by decide +kernel
theorem dJ0_charAt_5068e_7 : decode cJ0_charAt_5068e 7 = .ok (.aload_n 0, 1) := by decide +kernel
theorem dJ0_charAt_5068e_8 : decode cJ0_charAt_5068e 8 = .ok (.getfield 9, 3) := by decide +kernel
theorem dJ0_charAt_5068e_11 : decode cJ0_charAt_5068e 11 = .ok (.iload_n 1, 1) := by decide +kernel
theorem dJ0_charAt_5068e_12 : decode cJ0_charAt_5068e 12 = .ok (.invokestatic 495, 3) := by decide +kernel
theorem dJ0_charAt_5068e_15 : decode cJ0_charAt_5068e 15 = .ok (.ireturn, 1) := by decide +kernel
theorem dJ0_charAt_5068e_16 : decode cJ0_charAt_5068e 16 = .ok (.aload_n 0, 1) := by decide +kernel
theorem dJ0_charAt_5068e_17 : decode cJ0_charAt_5068e 17 = .ok (.getfield 9, 3) := by decide +kernel
theorem dJ0_charAt_5068e_20 : decode cJ0_charAt_5068e 20 = .ok (.iload_n 1, 1) := by decide +kernel
theorem dJ0_charAt_5068e_21 : decode cJ0_charAt_5068e 21 = .ok (.invokestatic 498, 3) := by decide +kernel
theorem dJ0_charAt_5068e_24 : decode cJ0_charAt_5068e 24 = .ok (.ireturn, 1) := by decide +kernel
theorem dJ0_coder_7d493_0 : decode cJ0_coder_7d493 0 = .ok (.getstatic 38, 3) := by decide +kernel
theorem dJ0_coder_7d493_3 : decode cJ0_coder_7d493 3 = .ok (.ifCond .eq 10, 3) := by decide +kernel
theorem dJ0_coder_7d493_6 : decode cJ0_coder_7d493 6 = .ok (.aload_n 0, 1) := by decide +kernel
theorem dJ0_coder_7d493_7 : decode cJ0_coder_7d493 7 = .ok (.getfield 15, 3) := by decide +kernel
theorem dJ0_coder_7d493_10 : decode cJ0_coder_7d493 10 = .ok (.goto 4, 3) := by decide +kernel
theorem dJ0_coder_7d493_13 : decode cJ0_coder_7d493 13 = .ok (.iconst 1, 1) := by decide +kernel
theorem dJ0_coder_7d493_14 : decode cJ0_coder_7d493 14 = .ok (.ireturn, 1) := by decide +kernel
theorem dJ0_isLatin1_aae02_0 : decode cJ0_isLatin1_aae02 0 = .ok (.getstatic 38, 3) := by decide +kernel
theorem dJ0_isLatin1_aae02_3 : decode cJ0_isLatin1_aae02 3 = .ok (.ifCond .eq 14, 3) := by decide +kernel
theorem dJ0_isLatin1_aae02_6 : decode cJ0_isLatin1_aae02 6 = .ok (.aload_n 0, 1) := by decide +kernel
theorem dJ0_isLatin1_aae02_7 : decode cJ0_isLatin1_aae02 7 = .ok (.getfield 15, 3) := by decide +kernel
theorem dJ0_isLatin1_aae02_10 : decode cJ0_isLatin1_aae02 10 = .ok (.ifCond .ne 7, 3) := by decide +kernel
theorem dJ0_isLatin1_aae02_13 : decode cJ0_isLatin1_aae02 13 = .ok (.iconst 1, 1) := by decide +kernel
theorem dJ0_isLatin1_aae02_14 : decode cJ0_isLatin1_aae02 14 = .ok (.goto 4, 3) := by decide +kernel
theorem dJ0_isLatin1_aae02_17 : decode cJ0_isLatin1_aae02 17 = .ok (.iconst 0, 1) := by decide +kernel
theorem dJ0_isLatin1_aae02_18 : decode cJ0_isLatin1_aae02 18 = .ok (.ireturn, 1) := by decide +kernel
theorem dJ0_checkIndex_df160_0 : decode cJ0_checkIndex_df160 0 = .ok (.iload_n 0, 1) := by decide +kernel
theorem dJ0_checkIndex_df160_1 : decode cJ0_checkIndex_df160 1 = .ok (.iload_n 1, 1) := by decide +kernel
theorem dJ0_checkIndex_df160_2 : decode cJ0_checkIndex_df160 2 = .ok (.getstatic 1053, 3) := by decide +kernel
theorem dJ0_checkIndex_df160_5 : decode cJ0_checkIndex_df160 5 = .ok (.invokestatic 1059, 3) := by decide +kernel
theorem dJ0_checkIndex_df160_8 : decode cJ0_checkIndex_df160 8 = .ok (.pop, 1) := by decide +kernel
theorem dJ0_checkIndex_df160_9 : decode cJ0_checkIndex_df160 9 = .ok (.return_, 1) := by decide +kernel
theorem dJ1_charAt_3b067_0 : decode cJ1_charAt_3b067 0 = .ok (.iload_n 1, 1) := by decide +kernel
theorem dJ1_charAt_3b067_1 : decode cJ1_charAt_3b067 1 = .ok (.aload_n 0, 1) := by decide +kernel
theorem dJ1_charAt_3b067_2 : decode cJ1_charAt_3b067 2 = .ok (.arraylength, 1) := by decide +kernel
theorem dJ1_charAt_3b067_3 : decode cJ1_charAt_3b067 3 = .ok (.invokestatic 9, 3) := by decide +kernel
theorem dJ1_charAt_3b067_6 : decode cJ1_charAt_3b067 6 = .ok (.aload_n 0, 1) := by decide +kernel
theorem dJ1_charAt_3b067_7 : decode cJ1_charAt_3b067 7 = .ok (.iload_n 1, 1) := by decide +kernel
theorem dJ1_charAt_3b067_8 : decode cJ1_charAt_3b067 8 = .ok (.baload, 1) := by decide +kernel
theorem dJ1_charAt_3b067_9 : decode cJ1_charAt_3b067 9 = .ok (.sipush 255, 3) := by decide +kernel
theorem dJ1_charAt_3b067_12 : decode cJ1_charAt_3b067 12 = .ok (.iand, 1) := by decide +kernel
theorem dJ1_charAt_3b067_13 : decode cJ1_charAt_3b067 13 = .ok (.i2c, 1) := by decide +kernel
theorem dJ1_charAt_3b067_14 : decode cJ1_charAt_3b067 14 = .ok (.ireturn, 1) := by decide +kernel
theorem dJ2_getChar_3b067_0 : decode cJ2_getChar_3b067 0 = .ok (.getstatic 44, 3) := by decide +kernel
theorem dJ2_getChar_3b067_3 : decode cJ2_getChar_3b067 3 = .ok (.ifCond .ne 25, 3) := by decide +kernel
theorem dJ2_getChar_3b067_6 : decode cJ2_getChar_3b067 6 = .ok (.iload_n 1, 1) := by decide +kernel
theorem dJ2_getChar_3b067_7 : decode cJ2_getChar_3b067 7 = .ok (.ifCond .lt 11, 3) := by decide +kernel
theorem dJ2_getChar_3b067_10 : decode cJ2_getChar_3b067 10 = .ok (.iload_n 1, 1) := by decide +kernel
theorem dJ2_getChar_3b067_11 : decode cJ2_getChar_3b067 11 = .ok (.aload_n 0, 1) := by decide +kernel
theorem dJ2_getChar_3b067_12 : decode cJ2_getChar_3b067 12 = .ok (.invokestatic 48, 3) := by decide +kernel
theorem dJ2_getChar_3b067_15 : decode cJ2_getChar_3b067 15 = .ok (.if_icmp .lt 13, 3) := by decide +kernel
theorem dJ2_getChar_3b067_18 : decode cJ2_getChar_3b067 18 = .ok (.new 52, 3) := by decide +kernel
theorem dJ2_getChar_3b067_21 : decode cJ2_getChar_3b067 21 = .ok (.dup, 1) := by decide +kernel
theorem dJ2_getChar_3b067_22 : decode cJ2_getChar_3b067 22 = .ok (.ldc 54, 2) := by decide +kernel
theorem dJ2_getChar_3b067_24 : decode cJ2_getChar_3b067 24 = .ok (.invokespecial 56, 3) := by decide +kernel
theorem dJ2_getChar_3b067_27 : decode cJ2_getChar_3b067 27 = .ok (.athrow, 1) := by decide +kernel
theorem dJ2_getChar_3b067_28 : decode cJ2_getChar_3b067 28 = .ok (.iload_n 1, 1) := by decide +kernel
theorem dJ2_getChar_3b067_29 : decode cJ2_getChar_3b067 29 = .ok (.iconst 1, 1) := by decide +kernel
theorem dJ2_getChar_3b067_30 : decode cJ2_getChar_3b067 30 = .ok (.ishl, 1) := by decide +kernel
theorem dJ2_getChar_3b067_31 : decode cJ2_getChar_3b067 31 = .ok (.istore_n 1, 1) := by decide +kernel
theorem dJ2_getChar_3b067_32 : decode cJ2_getChar_3b067 32 = .ok (.aload_n 0, 1) := by decide +kernel
theorem dJ2_getChar_3b067_33 : decode cJ2_getChar_3b067 33 = .ok (.iload_n 1, 1) := by decide +kernel
theorem dJ2_getChar_3b067_34 : decode cJ2_getChar_3b067 34 = .ok (.iinc 1 1, 3) := by decide +kernel
theorem dJ2_getChar_3b067_37 : decode cJ2_getChar_3b067 37 = .ok (.baload, 1) := by decide +kernel
theorem dJ2_getChar_3b067_38 : decode cJ2_getChar_3b067 38 = .ok (.sipush 255, 3) := by decide +kernel
theorem dJ2_getChar_3b067_41 : decode cJ2_getChar_3b067 41 = .ok (.iand, 1) := by decide +kernel
theorem dJ2_getChar_3b067_42 : decode cJ2_getChar_3b067 42 = .ok (.getstatic 59, 3) := by decide +kernel
theorem dJ2_getChar_3b067_45 : decode cJ2_getChar_3b067 45 = .ok (.ishl, 1) := by decide +kernel
theorem dJ2_getChar_3b067_46 : decode cJ2_getChar_3b067 46 = .ok (.aload_n 0, 1) := by decide +kernel
theorem dJ2_getChar_3b067_47 : decode cJ2_getChar_3b067 47 = .ok (.iload_n 1, 1) := by decide +kernel
theorem dJ2_getChar_3b067_48 : decode cJ2_getChar_3b067 48 = .ok (.baload, 1) := by decide +kernel
theorem dJ2_getChar_3b067_49 : decode cJ2_getChar_3b067 49 = .ok (.sipush 255, 3) := by decide +kernel
theorem dJ2_getChar_3b067_52 : decode cJ2_getChar_3b067 52 = .ok (.iand, 1) := by decide +kernel
theorem dJ2_getChar_3b067_53 : decode cJ2_getChar_3b067 53 = .ok (.getstatic 63, 3) := by decide +kernel
theorem dJ2_getChar_3b067_56 : decode cJ2_getChar_3b067 56 = .ok (.ishl, 1) := by decide +kernel
theorem dJ2_getChar_3b067_57 : decode cJ2_getChar_3b067 57 = .ok (.ior, 1) := by decide +kernel
theorem dJ2_getChar_3b067_58 : decode cJ2_getChar_3b067 58 = .ok (.i2c, 1) := by decide +kernel
theorem dJ2_getChar_3b067_59 : decode cJ2_getChar_3b067 59 = .ok (.ireturn, 1) := by decide +kernel
theorem dJ2_length_9d52b_0 : decode cJ2_length_9d52b 0 = .ok (.aload_n 0, 1) := by decide +kernel
theorem dJ2_length_9d52b_1 : decode cJ2_length_9d52b 1 = .ok (.arraylength, 1) := by decide +kernel
theorem dJ2_length_9d52b_2 : decode cJ2_length_9d52b 2 = .ok (.iconst 1, 1) := by decide +kernel
theorem dJ2_length_9d52b_3 : decode cJ2_length_9d52b 3 = .ok (.ishr, 1) := by decide +kernel
theorem dJ2_length_9d52b_4 : decode cJ2_length_9d52b 4 = .ok (.ireturn, 1) := by decide +kernel
theorem dJ2_charAt_3b067_0 : decode cJ2_charAt_3b067 0 = .ok (.iload_n 1, 1) := by decide +kernel
theorem dJ2_charAt_3b067_1 : decode cJ2_charAt_3b067 1 = .ok (.aload_n 0, 1) := by decide +kernel
theorem dJ2_charAt_3b067_2 : decode cJ2_charAt_3b067 2 = .ok (.invokestatic 67, 3) := by decide +kernel
theorem dJ2_charAt_3b067_5 : decode cJ2_charAt_3b067 5 = .ok (.aload_n 0, 1) := by decide +kernel
theorem dJ2_charAt_3b067_6 : decode cJ2_charAt_3b067 6 = .ok (.iload_n 1, 1) := by decide +kernel
theorem dJ2_charAt_3b067_7 : decode cJ2_charAt_3b067 7 = .ok (.invokestatic 71, 3) := by decide +kernel
theorem dJ2_charAt_3b067_10 : decode cJ2_charAt_3b067 10 = .ok (.ireturn, 1) := by decide +kernel
theorem dJ2_checkIndex_2214a_0 : decode cJ2_checkIndex_2214a 0 = .ok (.iload_n 0, 1) := by decide +kernel
theorem dJ2_checkIndex_2214a_1 : decode cJ2_checkIndex_2214a 1 = .ok (.aload_n 1, 1) := by decide +kernel
theorem dJ2_checkIndex_2214a_2 : decode cJ2_checkIndex_2214a 2 = .ok (.invokestatic 48, 3) := by decide +kernel
theorem dJ2_checkIndex_2214a_5 : decode cJ2_checkIndex_2214a 5 = .ok (.invokestatic 414, 3) := by decide +kernel
theorem dJ2_checkIndex_2214a_8 : decode cJ2_checkIndex_2214a 8 = .ok (.return_, 1) := by decide +kernel
theorem dJ3_checkIndex_8e157_0 : decode cJ3_checkIndex_8e157 0 = .ok (.iload_n 0, 1) := by decide +kernel
theorem dJ3_checkIndex_8e157_1 : decode cJ3_checkIndex_8e157 1 = .ok (.ifCond .lt 8, 3) := by decide +kernel
theorem dJ3_checkIndex_8e157_4 : decode cJ3_checkIndex_8e157 4 = .ok (.iload_n 0, 1) := by decide +kernel
theorem dJ3_checkIndex_8e157_5 : decode cJ3_checkIndex_8e157 5 = .ok (.iload_n 1, 1) := by decide +kernel
theorem dJ3_checkIndex_8e157_6 : decode cJ3_checkIndex_8e157 6 = .ok (.if_icmp .lt 10, 3) := by decide +kernel
theorem dJ3_checkIndex_8e157_9 : decode cJ3_checkIndex_8e157 9 = .ok (.aload_n 2, 1) := by decide +kernel
theorem dJ3_checkIndex_8e157_10 : decode cJ3_checkIndex_8e157 10 = .ok (.iload_n 0, 1) := by decide +kernel
theorem dJ3_checkIndex_8e157_11 : decode cJ3_checkIndex_8e157 11 = .ok (.iload_n 1, 1) := by decide +kernel
theorem dJ3_checkIndex_8e157_12 : decode cJ3_checkIndex_8e157 12 = .ok (.invokestatic 95, 3) := by decide +kernel
theorem dJ3_checkIndex_8e157_15 : decode cJ3_checkIndex_8e157 15 = .ok (.athrow, 1) := by decide +kernel
theorem dJ3_checkIndex_8e157_16 : decode cJ3_checkIndex_8e157 16 = .ok (.iload_n 0, 1) := by decide +kernel
theorem dJ3_checkIndex_8e157_17 : decode cJ3_checkIndex_8e157 17 = .ok (.ireturn, 1) := by decide +kernel
theorem dL_law_0 : decode cL_law 0 = .ok (.new 7, 3) := by decide +kernel
theorem dL_law_3 : decode cL_law 3 = .ok (.dup, 1) := by decide +kernel
theorem dL_law_4 : decode cL_law 4 = .ok (.invokespecial 9, 3) := by decide +kernel
theorem dL_law_7 : decode cL_law 7 = .ok (.astore_n 1, 1) := by decide +kernel
theorem dL_law_8 : decode cL_law 8 = .ok (.new 10, 3) := by decide +kernel
theorem dL_law_11 : decode cL_law 11 = .ok (.dup, 1) := by decide +kernel
theorem dL_law_12 : decode cL_law 12 = .ok (.invokespecial 12, 3) := by decide +kernel
theorem dL_law_15 : decode cL_law 15 = .ok (.astore_n 2, 1) := by decide +kernel
theorem dL_law_16 : decode cL_law 16 = .ok (.iconst 0, 1) := by decide +kernel
theorem dL_law_17 : decode cL_law 17 = .ok (.istore_n 3, 1) := by decide +kernel
theorem dL_law_18 : decode cL_law 18 = .ok (.iload_n 3, 1) := by decide +kernel
theorem dL_law_19 : decode cL_law 19 = .ok (.aload_n 0, 1) := by decide +kernel
theorem dL_law_20 : decode cL_law 20 = .ok (.arraylength, 1) := by decide +kernel
theorem dL_law_21 : decode cL_law 21 = .ok (.iconst 4, 1) := by decide +kernel
theorem dL_law_22 : decode cL_law 22 = .ok (.isub, 1) := by decide +kernel
theorem dL_law_23 : decode cL_law 23 = .ok (.if_icmp .gt 759, 3) := by decide +kernel
theorem dL_law_26 : decode cL_law 26 = .ok (.aload_n 0, 1) := by decide +kernel
theorem dL_law_27 : decode cL_law 27 = .ok (.iload_n 3, 1) := by decide +kernel
theorem dL_law_28 : decode cL_law 28 = .ok (.iaload, 1) := by decide +kernel
theorem dL_law_29 : decode cL_law 29 = .ok (.bipush 31, 2) := by decide +kernel
theorem dL_law_31 : decode cL_law 31 = .ok (.iand, 1) := by decide +kernel
theorem dL_law_32 : decode cL_law 32 = .ok (.tableswitch 744 0 23 #[112, 135, 148, 161, 174, 217, 250, 273, 286, 329, 372, 405, 438, 461, 474, 497, 520, 553, 586, 619, 642, 655, 688, 721], 112) := by decide +kernel
theorem dL_law_144 : decode cL_law 144 = .ok (.aload_n 1, 1) := by decide +kernel
theorem dL_law_145 : decode cL_law 145 = .ok (.aload_n 0, 1) := by decide +kernel
theorem dL_law_146 : decode cL_law 146 = .ok (.iload_n 3, 1) := by decide +kernel
theorem dL_law_147 : decode cL_law 147 = .ok (.iconst 1, 1) := by decide +kernel
theorem dL_law_148 : decode cL_law 148 = .ok (.iadd, 1) := by decide +kernel
theorem dL_law_149 : decode cL_law 149 = .ok (.iaload, 1) := by decide +kernel
theorem dL_law_150 : decode cL_law 150 = .ok (.invokevirtual 13, 3) := by decide +kernel
theorem dL_law_153 : decode cL_law 153 = .ok (.aload_n 2, 1) := by decide +kernel
theorem dL_law_154 : decode cL_law 154 = .ok (.aload_n 0, 1) := by decide +kernel
theorem dL_law_155 : decode cL_law 155 = .ok (.iload_n 3, 1) := by decide +kernel
theorem dL_law_156 : decode cL_law 156 = .ok (.iconst 1, 1) := by decide +kernel
theorem dL_law_157 : decode cL_law 157 = .ok (.iadd, 1) := by decide +kernel
theorem dL_law_158 : decode cL_law 158 = .ok (.iaload, 1) := by decide +kernel
theorem dL_law_159 : decode cL_law 159 = .ok (.invokevirtual 17, 3) := by decide +kernel
theorem dL_law_162 : decode cL_law 162 = .ok (.if_icmp .eq 614, 3) := by decide +kernel
theorem dL_law_165 : decode cL_law 165 = .ok (.iconst 0, 1) := by decide +kernel
theorem dL_law_166 : decode cL_law 166 = .ok (.ireturn, 1) := by decide +kernel
theorem dL_law_167 : decode cL_law 167 = .ok (.aload_n 1, 1) := by decide +kernel
theorem dL_law_168 : decode cL_law 168 = .ok (.invokevirtual 18, 3) := by decide +kernel
theorem dL_law_171 : decode cL_law 171 = .ok (.aload_n 2, 1) := by decide +kernel
theorem dL_law_172 : decode cL_law 172 = .ok (.invokevirtual 22, 3) := by decide +kernel
theorem dL_law_175 : decode cL_law 175 = .ok (.if_icmp .eq 601, 3) := by decide +kernel
theorem dL_law_178 : decode cL_law 178 = .ok (.iconst 0, 1) := by decide +kernel
theorem dL_law_179 : decode cL_law 179 = .ok (.ireturn, 1) := by decide +kernel
theorem dL_law_180 : decode cL_law 180 = .ok (.aload_n 1, 1) := by decide +kernel
theorem dL_law_181 : decode cL_law 181 = .ok (.invokevirtual 23, 3) := by decide +kernel
theorem dL_law_184 : decode cL_law 184 = .ok (.aload_n 2, 1) := by decide +kernel
theorem dL_law_185 : decode cL_law 185 = .ok (.invokevirtual 26, 3) := by decide +kernel
theorem dL_law_188 : decode cL_law 188 = .ok (.if_icmp .eq 588, 3) := by decide +kernel
theorem dL_law_191 : decode cL_law 191 = .ok (.iconst 0, 1) := by decide +kernel
theorem dL_law_192 : decode cL_law 192 = .ok (.ireturn, 1) := by decide +kernel
theorem dL_law_193 : decode cL_law 193 = .ok (.aload_n 1, 1) := by decide +kernel
theorem dL_law_194 : decode cL_law 194 = .ok (.invokevirtual 27, 3) := by decide +kernel
theorem dL_law_197 : decode cL_law 197 = .ok (.aload_n 2, 1) := by decide +kernel
theorem dL_law_198 : decode cL_law 198 = .ok (.invokevirtual 30, 3) := by decide +kernel
theorem dL_law_201 : decode cL_law 201 = .ok (.if_icmp .eq 575, 3) := by decide +kernel
theorem dL_law_204 : decode cL_law 204 = .ok (.iconst 0, 1) := by decide +kernel
theorem dL_law_205 : decode cL_law 205 = .ok (.ireturn, 1) := by decide +kernel
theorem dL_law_206 : decode cL_law 206 = .ok (.aload_n 1, 1) := by decide +kernel
theorem dL_law_207 : decode cL_law 207 = .ok (.aload_n 0, 1) := by decide +kernel
theorem dL_law_208 : decode cL_law 208 = .ok (.iload_n 3, 1) := by decide +kernel
theorem dL_law_209 : decode cL_law 209 = .ok (.iconst 1, 1) := by decide +kernel
theorem dL_law_210 : decode cL_law 210 = .ok (.iadd, 1) := by decide +kernel
theorem dL_law_211 : decode cL_law 211 = .ok (.iaload, 1) := by decide +kernel
theorem dL_law_212 : decode cL_law 212 = .ok (.aload_n 0, 1) := by decide +kernel
theorem dL_law_213 : decode cL_law 213 = .ok (.iload_n 3, 1) := by decide +kernel
theorem dL_law_214 : decode cL_law 214 = .ok (.iconst 2, 1) := by decide +kernel
theorem dL_law_215 : decode cL_law 215 = .ok (.iadd, 1) := by decide +kernel
theorem dL_law_216 : decode cL_law 216 = .ok (.iaload, 1) := by decide +kernel
theorem dL_law_217 : decode cL_law 217 = .ok (.aload_n 0, 1) := by decide +kernel
theorem dL_law_218 : decode cL_law 218 = .ok (.iload_n 3, 1) := by decide +kernel
theorem dL_law_219 : decode cL_law 219 = .ok (.iconst 3, 1) := by decide +kernel
theorem dL_law_220 : decode cL_law 220 = .ok (.iadd, 1) := by decide +kernel
theorem dL_law_221 : decode cL_law 221 = .ok (.iaload, 1) := by decide +kernel
theorem dL_law_222 : decode cL_law 222 = .ok (.invokevirtual 31, 3) := by decide +kernel
theorem dL_law_225 : decode cL_law 225 = .ok (.aload_n 2, 1) := by decide +kernel
theorem dL_law_226 : decode cL_law 226 = .ok (.aload_n 0, 1) := by decide +kernel
theorem dL_law_227 : decode cL_law 227 = .ok (.iload_n 3, 1) := by decide +kernel
theorem dL_law_228 : decode cL_law 228 = .ok (.iconst 1, 1) := by decide +kernel
theorem dL_law_229 : decode cL_law 229 = .ok (.iadd, 1) := by decide +kernel
theorem dL_law_230 : decode cL_law 230 = .ok (.iaload, 1) := by decide +kernel
theorem dL_law_231 : decode cL_law 231 = .ok (.aload_n 0, 1) := by decide +kernel
theorem dL_law_232 : decode cL_law 232 = .ok (.iload_n 3, 1) := by decide +kernel
theorem dL_law_233 : decode cL_law 233 = .ok (.iconst 2, 1) := by decide +kernel
theorem dL_law_234 : decode cL_law 234 = .ok (.iadd, 1) := by decide +kernel
theorem dL_law_235 : decode cL_law 235 = .ok (.iaload, 1) := by decide +kernel
theorem dL_law_236 : decode cL_law 236 = .ok (.aload_n 0, 1) := by decide +kernel
theorem dL_law_237 : decode cL_law 237 = .ok (.iload_n 3, 1) := by decide +kernel
theorem dL_law_238 : decode cL_law 238 = .ok (.iconst 3, 1) := by decide +kernel
theorem dL_law_239 : decode cL_law 239 = .ok (.iadd, 1) := by decide +kernel
theorem dL_law_240 : decode cL_law 240 = .ok (.iaload, 1) := by decide +kernel
theorem dL_law_241 : decode cL_law 241 = .ok (.invokevirtual 35, 3) := by decide +kernel
theorem dL_law_244 : decode cL_law 244 = .ok (.if_icmp .eq 532, 3) := by decide +kernel
theorem dL_law_247 : decode cL_law 247 = .ok (.iconst 0, 1) := by decide +kernel
theorem dL_law_248 : decode cL_law 248 = .ok (.ireturn, 1) := by decide +kernel
theorem dL_law_249 : decode cL_law 249 = .ok (.aload_n 1, 1) := by decide +kernel
theorem dL_law_250 : decode cL_law 250 = .ok (.aload_n 0, 1) := by decide +kernel
theorem dL_law_251 : decode cL_law 251 = .ok (.iload_n 3, 1) := by decide +kernel
theorem dL_law_252 : decode cL_law 252 = .ok (.iconst 1, 1) := by decide +kernel
theorem dL_law_253 : decode cL_law 253 = .ok (.iadd, 1) := by decide +kernel
theorem dL_law_254 : decode cL_law 254 = .ok (.iaload, 1) := by decide +kernel
theorem dL_law_255 : decode cL_law 255 = .ok (.aload_n 0, 1) := by decide +kernel
theorem dL_law_256 : decode cL_law 256 = .ok (.iload_n 3, 1) := by decide +kernel
theorem dL_law_257 : decode cL_law 257 = .ok (.iconst 2, 1) := by decide +kernel
theorem dL_law_258 : decode cL_law 258 = .ok (.iadd, 1) := by decide +kernel
theorem dL_law_259 : decode cL_law 259 = .ok (.iaload, 1) := by decide +kernel
theorem dL_law_260 : decode cL_law 260 = .ok (.invokevirtual 36, 3) := by decide +kernel
theorem dL_law_263 : decode cL_law 263 = .ok (.aload_n 2, 1) := by decide +kernel
theorem dL_law_264 : decode cL_law 264 = .ok (.aload_n 0, 1) := by decide +kernel
theorem dL_law_265 : decode cL_law 265 = .ok (.iload_n 3, 1) := by decide +kernel
theorem dL_law_266 : decode cL_law 266 = .ok (.iconst 1, 1) := by decide +kernel
theorem dL_law_267 : decode cL_law 267 = .ok (.iadd, 1) := by decide +kernel
theorem dL_law_268 : decode cL_law 268 = .ok (.iaload, 1) := by decide +kernel
theorem dL_law_269 : decode cL_law 269 = .ok (.aload_n 0, 1) := by decide +kernel
theorem dL_law_270 : decode cL_law 270 = .ok (.iload_n 3, 1) := by decide +kernel
theorem dL_law_271 : decode cL_law 271 = .ok (.iconst 2, 1) := by decide +kernel
theorem dL_law_272 : decode cL_law 272 = .ok (.iadd, 1) := by decide +kernel
theorem dL_law_273 : decode cL_law 273 = .ok (.iaload, 1) := by decide +kernel
theorem dL_law_274 : decode cL_law 274 = .ok (.invokevirtual 40, 3) := by decide +kernel
theorem dL_law_277 : decode cL_law 277 = .ok (.if_icmp .eq 499, 3) := by decide +kernel
theorem dL_law_280 : decode cL_law 280 = .ok (.iconst 0, 1) := by decide +kernel
theorem dL_law_281 : decode cL_law 281 = .ok (.ireturn, 1) := by decide +kernel
theorem dL_law_282 : decode cL_law 282 = .ok (.aload_n 1, 1) := by decide +kernel
theorem dL_law_283 : decode cL_law 283 = .ok (.aload_n 0, 1) := by decide +kernel
theorem dL_law_284 : decode cL_law 284 = .ok (.iload_n 3, 1) := by decide +kernel
theorem dL_law_285 : decode cL_law 285 = .ok (.iconst 1, 1) := by decide +kernel
theorem dL_law_286 : decode cL_law 286 = .ok (.iadd, 1) := by decide +kernel
theorem dL_law_287 : decode cL_law 287 = .ok (.iaload, 1) := by decide +kernel
theorem dL_law_288 : decode cL_law 288 = .ok (.invokevirtual 41, 3) := by decide +kernel
theorem dL_law_291 : decode cL_law 291 = .ok (.aload_n 2, 1) := by decide +kernel
theorem dL_law_292 : decode cL_law 292 = .ok (.aload_n 0, 1) := by decide +kernel
theorem dL_law_293 : decode cL_law 293 = .ok (.iload_n 3, 1) := by decide +kernel
theorem dL_law_294 : decode cL_law 294 = .ok (.iconst 1, 1) := by decide +kernel
theorem dL_law_295 : decode cL_law 295 = .ok (.iadd, 1) := by decide +kernel
theorem dL_law_296 : decode cL_law 296 = .ok (.iaload, 1) := by decide +kernel
theorem dL_law_297 : decode cL_law 297 = .ok (.invokevirtual 44, 3) := by decide +kernel
theorem dL_law_300 : decode cL_law 300 = .ok (.if_icmp .eq 476, 3) := by decide +kernel
theorem dL_law_303 : decode cL_law 303 = .ok (.iconst 0, 1) := by decide +kernel
theorem dL_law_304 : decode cL_law 304 = .ok (.ireturn, 1) := by decide +kernel
theorem dL_law_305 : decode cL_law 305 = .ok (.aload_n 1, 1) := by decide +kernel
theorem dL_law_306 : decode cL_law 306 = .ok (.invokevirtual 45, 3) := by decide +kernel
theorem dL_law_309 : decode cL_law 309 = .ok (.aload_n 2, 1) := by decide +kernel
theorem dL_law_310 : decode cL_law 310 = .ok (.invokevirtual 48, 3) := by decide +kernel
theorem dL_law_313 : decode cL_law 313 = .ok (.if_icmp .eq 463, 3) := by decide +kernel
theorem dL_law_316 : decode cL_law 316 = .ok (.iconst 0, 1) := by decide +kernel
theorem dL_law_317 : decode cL_law 317 = .ok (.ireturn, 1) := by decide +kernel
theorem dL_law_318 : decode cL_law 318 = .ok (.aload_n 1, 1) := by decide +kernel
theorem dL_law_319 : decode cL_law 319 = .ok (.aload_n 0, 1) := by decide +kernel
theorem dL_law_320 : decode cL_law 320 = .ok (.iload_n 3, 1) := by decide +kernel
theorem dL_law_321 : decode cL_law 321 = .ok (.iconst 1, 1) := by decide +kernel
theorem dL_law_322 : decode cL_law 322 = .ok (.iadd, 1) := by decide +kernel
theorem dL_law_323 : decode cL_law 323 = .ok (.iaload, 1) := by decide +kernel
theorem dL_law_324 : decode cL_law 324 = .ok (.aload_n 0, 1) := by decide +kernel
theorem dL_law_325 : decode cL_law 325 = .ok (.iload_n 3, 1) := by decide +kernel
theorem dL_law_326 : decode cL_law 326 = .ok (.iconst 2, 1) := by decide +kernel
theorem dL_law_327 : decode cL_law 327 = .ok (.iadd, 1) := by decide +kernel
theorem dL_law_328 : decode cL_law 328 = .ok (.iaload, 1) := by decide +kernel
theorem dL_law_329 : decode cL_law 329 = .ok (.aload_n 0, 1) := by decide +kernel
theorem dL_law_330 : decode cL_law 330 = .ok (.iload_n 3, 1) := by decide +kernel
theorem dL_law_331 : decode cL_law 331 = .ok (.iconst 3, 1) := by decide +kernel
theorem dL_law_332 : decode cL_law 332 = .ok (.iadd, 1) := by decide +kernel
theorem dL_law_333 : decode cL_law 333 = .ok (.iaload, 1) := by decide +kernel
theorem dL_law_334 : decode cL_law 334 = .ok (.invokevirtual 49, 3) := by decide +kernel
theorem dL_law_337 : decode cL_law 337 = .ok (.aload_n 2, 1) := by decide +kernel
theorem dL_law_338 : decode cL_law 338 = .ok (.aload_n 0, 1) := by decide +kernel
theorem dL_law_339 : decode cL_law 339 = .ok (.iload_n 3, 1) := by decide +kernel
theorem dL_law_340 : decode cL_law 340 = .ok (.iconst 1, 1) := by decide +kernel
theorem dL_law_341 : decode cL_law 341 = .ok (.iadd, 1) := by decide +kernel
theorem dL_law_342 : decode cL_law 342 = .ok (.iaload, 1) := by decide +kernel
theorem dL_law_343 : decode cL_law 343 = .ok (.aload_n 0, 1) := by decide +kernel
theorem dL_law_344 : decode cL_law 344 = .ok (.iload_n 3, 1) := by decide +kernel
theorem dL_law_345 : decode cL_law 345 = .ok (.iconst 2, 1) := by decide +kernel
theorem dL_law_346 : decode cL_law 346 = .ok (.iadd, 1) := by decide +kernel
theorem dL_law_347 : decode cL_law 347 = .ok (.iaload, 1) := by decide +kernel
theorem dL_law_348 : decode cL_law 348 = .ok (.aload_n 0, 1) := by decide +kernel
theorem dL_law_349 : decode cL_law 349 = .ok (.iload_n 3, 1) := by decide +kernel
theorem dL_law_350 : decode cL_law 350 = .ok (.iconst 3, 1) := by decide +kernel
theorem dL_law_351 : decode cL_law 351 = .ok (.iadd, 1) := by decide +kernel
theorem dL_law_352 : decode cL_law 352 = .ok (.iaload, 1) := by decide +kernel
theorem dL_law_353 : decode cL_law 353 = .ok (.invokevirtual 52, 3) := by decide +kernel
theorem dL_law_356 : decode cL_law 356 = .ok (.if_icmp .eq 420, 3) := by decide +kernel
theorem dL_law_359 : decode cL_law 359 = .ok (.iconst 0, 1) := by decide +kernel
theorem dL_law_360 : decode cL_law 360 = .ok (.ireturn, 1) := by decide +kernel
theorem dL_law_361 : decode cL_law 361 = .ok (.aload_n 1, 1) := by decide +kernel
theorem dL_law_362 : decode cL_law 362 = .ok (.aload_n 0, 1) := by decide +kernel
theorem dL_law_363 : decode cL_law 363 = .ok (.iload_n 3, 1) := by decide +kernel
theorem dL_law_364 : decode cL_law 364 = .ok (.iconst 1, 1) := by decide +kernel
theorem dL_law_365 : decode cL_law 365 = .ok (.iadd, 1) := by decide +kernel
theorem dL_law_366 : decode cL_law 366 = .ok (.iaload, 1) := by decide +kernel
theorem dL_law_367 : decode cL_law 367 = .ok (.aload_n 0, 1) := by decide +kernel
theorem dL_law_368 : decode cL_law 368 = .ok (.iload_n 3, 1) := by decide +kernel
theorem dL_law_369 : decode cL_law 369 = .ok (.iconst 2, 1) := by decide +kernel
theorem dL_law_370 : decode cL_law 370 = .ok (.iadd, 1) := by decide +kernel
theorem dL_law_371 : decode cL_law 371 = .ok (.iaload, 1) := by decide +kernel
theorem dL_law_372 : decode cL_law 372 = .ok (.aload_n 0, 1) := by decide +kernel
theorem dL_law_373 : decode cL_law 373 = .ok (.iload_n 3, 1) := by decide +kernel
theorem dL_law_374 : decode cL_law 374 = .ok (.iconst 3, 1) := by decide +kernel
theorem dL_law_375 : decode cL_law 375 = .ok (.iadd, 1) := by decide +kernel
theorem dL_law_376 : decode cL_law 376 = .ok (.iaload, 1) := by decide +kernel
theorem dL_law_377 : decode cL_law 377 = .ok (.invokevirtual 53, 3) := by decide +kernel
theorem dL_law_380 : decode cL_law 380 = .ok (.aload_n 2, 1) := by decide +kernel
theorem dL_law_381 : decode cL_law 381 = .ok (.aload_n 0, 1) := by decide +kernel
theorem dL_law_382 : decode cL_law 382 = .ok (.iload_n 3, 1) := by decide +kernel
theorem dL_law_383 : decode cL_law 383 = .ok (.iconst 1, 1) := by decide +kernel
theorem dL_law_384 : decode cL_law 384 = .ok (.iadd, 1) := by decide +kernel
theorem dL_law_385 : decode cL_law 385 = .ok (.iaload, 1) := by decide +kernel
theorem dL_law_386 : decode cL_law 386 = .ok (.aload_n 0, 1) := by decide +kernel
theorem dL_law_387 : decode cL_law 387 = .ok (.iload_n 3, 1) := by decide +kernel
theorem dL_law_388 : decode cL_law 388 = .ok (.iconst 2, 1) := by decide +kernel
theorem dL_law_389 : decode cL_law 389 = .ok (.iadd, 1) := by decide +kernel
theorem dL_law_390 : decode cL_law 390 = .ok (.iaload, 1) := by decide +kernel
theorem dL_law_391 : decode cL_law 391 = .ok (.aload_n 0, 1) := by decide +kernel
theorem dL_law_392 : decode cL_law 392 = .ok (.iload_n 3, 1) := by decide +kernel
theorem dL_law_393 : decode cL_law 393 = .ok (.iconst 3, 1) := by decide +kernel
theorem dL_law_394 : decode cL_law 394 = .ok (.iadd, 1) := by decide +kernel
theorem dL_law_395 : decode cL_law 395 = .ok (.iaload, 1) := by decide +kernel
theorem dL_law_396 : decode cL_law 396 = .ok (.invokevirtual 56, 3) := by decide +kernel
theorem dL_law_399 : decode cL_law 399 = .ok (.if_icmp .eq 377, 3) := by decide +kernel
theorem dL_law_402 : decode cL_law 402 = .ok (.iconst 0, 1) := by decide +kernel
theorem dL_law_403 : decode cL_law 403 = .ok (.ireturn, 1) := by decide +kernel
theorem dL_law_404 : decode cL_law 404 = .ok (.aload_n 1, 1) := by decide +kernel
theorem dL_law_405 : decode cL_law 405 = .ok (.aload_n 0, 1) := by decide +kernel
theorem dL_law_406 : decode cL_law 406 = .ok (.iload_n 3, 1) := by decide +kernel
theorem dL_law_407 : decode cL_law 407 = .ok (.iconst 1, 1) := by decide +kernel
theorem dL_law_408 : decode cL_law 408 = .ok (.iadd, 1) := by decide +kernel
theorem dL_law_409 : decode cL_law 409 = .ok (.iaload, 1) := by decide +kernel
theorem dL_law_410 : decode cL_law 410 = .ok (.aload_n 0, 1) := by decide +kernel
theorem dL_law_411 : decode cL_law 411 = .ok (.iload_n 3, 1) := by decide +kernel
theorem dL_law_412 : decode cL_law 412 = .ok (.iconst 2, 1) := by decide +kernel
theorem dL_law_413 : decode cL_law 413 = .ok (.iadd, 1) := by decide +kernel
theorem dL_law_414 : decode cL_law 414 = .ok (.iaload, 1) := by decide +kernel
theorem dL_law_415 : decode cL_law 415 = .ok (.invokevirtual 57, 3) := by decide +kernel
theorem dL_law_418 : decode cL_law 418 = .ok (.aload_n 2, 1) := by decide +kernel
theorem dL_law_419 : decode cL_law 419 = .ok (.aload_n 0, 1) := by decide +kernel
theorem dL_law_420 : decode cL_law 420 = .ok (.iload_n 3, 1) := by decide +kernel
theorem dL_law_421 : decode cL_law 421 = .ok (.iconst 1, 1) := by decide +kernel
theorem dL_law_422 : decode cL_law 422 = .ok (.iadd, 1) := by decide +kernel
theorem dL_law_423 : decode cL_law 423 = .ok (.iaload, 1) := by decide +kernel
theorem dL_law_424 : decode cL_law 424 = .ok (.aload_n 0, 1) := by decide +kernel
theorem dL_law_425 : decode cL_law 425 = .ok (.iload_n 3, 1) := by decide +kernel
theorem dL_law_426 : decode cL_law 426 = .ok (.iconst 2, 1) := by decide +kernel
theorem dL_law_427 : decode cL_law 427 = .ok (.iadd, 1) := by decide +kernel
theorem dL_law_428 : decode cL_law 428 = .ok (.iaload, 1) := by decide +kernel
theorem dL_law_429 : decode cL_law 429 = .ok (.invokevirtual 60, 3) := by decide +kernel
theorem dL_law_432 : decode cL_law 432 = .ok (.if_icmp .eq 344, 3) := by decide +kernel
theorem dL_law_435 : decode cL_law 435 = .ok (.iconst 0, 1) := by decide +kernel
theorem dL_law_436 : decode cL_law 436 = .ok (.ireturn, 1) := by decide +kernel
theorem dL_law_437 : decode cL_law 437 = .ok (.aload_n 1, 1) := by decide +kernel
theorem dL_law_438 : decode cL_law 438 = .ok (.aload_n 0, 1) := by decide +kernel
theorem dL_law_439 : decode cL_law 439 = .ok (.iload_n 3, 1) := by decide +kernel
theorem dL_law_440 : decode cL_law 440 = .ok (.iconst 1, 1) := by decide +kernel
theorem dL_law_441 : decode cL_law 441 = .ok (.iadd, 1) := by decide +kernel
theorem dL_law_442 : decode cL_law 442 = .ok (.iaload, 1) := by decide +kernel
theorem dL_law_443 : decode cL_law 443 = .ok (.aload_n 0, 1) := by decide +kernel
theorem dL_law_444 : decode cL_law 444 = .ok (.iload_n 3, 1) := by decide +kernel
theorem dL_law_445 : decode cL_law 445 = .ok (.iconst 2, 1) := by decide +kernel
theorem dL_law_446 : decode cL_law 446 = .ok (.iadd, 1) := by decide +kernel
theorem dL_law_447 : decode cL_law 447 = .ok (.iaload, 1) := by decide +kernel
theorem dL_law_448 : decode cL_law 448 = .ok (.invokevirtual 61, 3) := by decide +kernel
theorem dL_law_451 : decode cL_law 451 = .ok (.aload_n 2, 1) := by decide +kernel
theorem dL_law_452 : decode cL_law 452 = .ok (.aload_n 0, 1) := by decide +kernel
theorem dL_law_453 : decode cL_law 453 = .ok (.iload_n 3, 1) := by decide +kernel
theorem dL_law_454 : decode cL_law 454 = .ok (.iconst 1, 1) := by decide +kernel
theorem dL_law_455 : decode cL_law 455 = .ok (.iadd, 1) := by decide +kernel
theorem dL_law_456 : decode cL_law 456 = .ok (.iaload, 1) := by decide +kernel
theorem dL_law_457 : decode cL_law 457 = .ok (.aload_n 0, 1) := by decide +kernel
theorem dL_law_458 : decode cL_law 458 = .ok (.iload_n 3, 1) := by decide +kernel
theorem dL_law_459 : decode cL_law 459 = .ok (.iconst 2, 1) := by decide +kernel
theorem dL_law_460 : decode cL_law 460 = .ok (.iadd, 1) := by decide +kernel
theorem dL_law_461 : decode cL_law 461 = .ok (.iaload, 1) := by decide +kernel
theorem dL_law_462 : decode cL_law 462 = .ok (.invokevirtual 64, 3) := by decide +kernel
theorem dL_law_465 : decode cL_law 465 = .ok (.if_icmp .eq 311, 3) := by decide +kernel
theorem dL_law_468 : decode cL_law 468 = .ok (.iconst 0, 1) := by decide +kernel
theorem dL_law_469 : decode cL_law 469 = .ok (.ireturn, 1) := by decide +kernel
theorem dL_law_470 : decode cL_law 470 = .ok (.aload_n 1, 1) := by decide +kernel
theorem dL_law_471 : decode cL_law 471 = .ok (.aload_n 0, 1) := by decide +kernel
theorem dL_law_472 : decode cL_law 472 = .ok (.iload_n 3, 1) := by decide +kernel
theorem dL_law_473 : decode cL_law 473 = .ok (.iconst 1, 1) := by decide +kernel
theorem dL_law_474 : decode cL_law 474 = .ok (.iadd, 1) := by decide +kernel
theorem dL_law_475 : decode cL_law 475 = .ok (.iaload, 1) := by decide +kernel
theorem dL_law_476 : decode cL_law 476 = .ok (.invokevirtual 65, 3) := by decide +kernel
theorem dL_law_479 : decode cL_law 479 = .ok (.aload_n 2, 1) := by decide +kernel
theorem dL_law_480 : decode cL_law 480 = .ok (.aload_n 0, 1) := by decide +kernel
theorem dL_law_481 : decode cL_law 481 = .ok (.iload_n 3, 1) := by decide +kernel
theorem dL_law_482 : decode cL_law 482 = .ok (.iconst 1, 1) := by decide +kernel
theorem dL_law_483 : decode cL_law 483 = .ok (.iadd, 1) := by decide +kernel
theorem dL_law_484 : decode cL_law 484 = .ok (.iaload, 1) := by decide +kernel
theorem dL_law_485 : decode cL_law 485 = .ok (.invokevirtual 68, 3) := by decide +kernel
theorem dL_law_488 : decode cL_law 488 = .ok (.if_icmp .eq 288, 3) := by decide +kernel
theorem dL_law_491 : decode cL_law 491 = .ok (.iconst 0, 1) := by decide +kernel
theorem dL_law_492 : decode cL_law 492 = .ok (.ireturn, 1) := by decide +kernel
theorem dL_law_493 : decode cL_law 493 = .ok (.aload_n 1, 1) := by decide +kernel
theorem dL_law_494 : decode cL_law 494 = .ok (.invokevirtual 69, 3) := by decide +kernel
theorem dL_law_497 : decode cL_law 497 = .ok (.aload_n 2, 1) := by decide +kernel
theorem dL_law_498 : decode cL_law 498 = .ok (.invokevirtual 72, 3) := by decide +kernel
theorem dL_law_501 : decode cL_law 501 = .ok (.if_icmp .eq 275, 3) := by decide +kernel
theorem dL_law_504 : decode cL_law 504 = .ok (.iconst 0, 1) := by decide +kernel
theorem dL_law_505 : decode cL_law 505 = .ok (.ireturn, 1) := by decide +kernel
theorem dL_law_506 : decode cL_law 506 = .ok (.aload_n 1, 1) := by decide +kernel
theorem dL_law_507 : decode cL_law 507 = .ok (.aload_n 0, 1) := by decide +kernel
theorem dL_law_508 : decode cL_law 508 = .ok (.iload_n 3, 1) := by decide +kernel
theorem dL_law_509 : decode cL_law 509 = .ok (.iconst 1, 1) := by decide +kernel
theorem dL_law_510 : decode cL_law 510 = .ok (.iadd, 1) := by decide +kernel
theorem dL_law_511 : decode cL_law 511 = .ok (.iaload, 1) := by decide +kernel
theorem dL_law_512 : decode cL_law 512 = .ok (.invokevirtual 73, 3) := by decide +kernel
theorem dL_law_515 : decode cL_law 515 = .ok (.aload_n 2, 1) := by decide +kernel
theorem dL_law_516 : decode cL_law 516 = .ok (.aload_n 0, 1) := by decide +kernel
theorem dL_law_517 : decode cL_law 517 = .ok (.iload_n 3, 1) := by decide +kernel
theorem dL_law_518 : decode cL_law 518 = .ok (.iconst 1, 1) := by decide +kernel
theorem dL_law_519 : decode cL_law 519 = .ok (.iadd, 1) := by decide +kernel
theorem dL_law_520 : decode cL_law 520 = .ok (.iaload, 1) := by decide +kernel
theorem dL_law_521 : decode cL_law 521 = .ok (.invokevirtual 76, 3) := by decide +kernel
theorem dL_law_524 : decode cL_law 524 = .ok (.if_icmp .eq 252, 3) := by decide +kernel
theorem dL_law_527 : decode cL_law 527 = .ok (.iconst 0, 1) := by decide +kernel
theorem dL_law_528 : decode cL_law 528 = .ok (.ireturn, 1) := by decide +kernel
theorem dL_law_529 : decode cL_law 529 = .ok (.aload_n 1, 1) := by decide +kernel
theorem dL_law_530 : decode cL_law 530 = .ok (.aload_n 0, 1) := by decide +kernel
theorem dL_law_531 : decode cL_law 531 = .ok (.iload_n 3, 1) := by decide +kernel
theorem dL_law_532 : decode cL_law 532 = .ok (.iconst 1, 1) := by decide +kernel
theorem dL_law_533 : decode cL_law 533 = .ok (.iadd, 1) := by decide +kernel
theorem dL_law_534 : decode cL_law 534 = .ok (.iaload, 1) := by decide +kernel
theorem dL_law_535 : decode cL_law 535 = .ok (.invokevirtual 77, 3) := by decide +kernel
theorem dL_law_538 : decode cL_law 538 = .ok (.aload_n 2, 1) := by decide +kernel
theorem dL_law_539 : decode cL_law 539 = .ok (.aload_n 0, 1) := by decide +kernel
theorem dL_law_540 : decode cL_law 540 = .ok (.iload_n 3, 1) := by decide +kernel
theorem dL_law_541 : decode cL_law 541 = .ok (.iconst 1, 1) := by decide +kernel
theorem dL_law_542 : decode cL_law 542 = .ok (.iadd, 1) := by decide +kernel
theorem dL_law_543 : decode cL_law 543 = .ok (.iaload, 1) := by decide +kernel
theorem dL_law_544 : decode cL_law 544 = .ok (.invokevirtual 80, 3) := by decide +kernel
theorem dL_law_547 : decode cL_law 547 = .ok (.if_icmp .eq 229, 3) := by decide +kernel
theorem dL_law_550 : decode cL_law 550 = .ok (.iconst 0, 1) := by decide +kernel
theorem dL_law_551 : decode cL_law 551 = .ok (.ireturn, 1) := by decide +kernel
theorem dL_law_552 : decode cL_law 552 = .ok (.aload_n 1, 1) := by decide +kernel
theorem dL_law_553 : decode cL_law 553 = .ok (.aload_n 0, 1) := by decide +kernel
theorem dL_law_554 : decode cL_law 554 = .ok (.iload_n 3, 1) := by decide +kernel
theorem dL_law_555 : decode cL_law 555 = .ok (.iconst 1, 1) := by decide +kernel
theorem dL_law_556 : decode cL_law 556 = .ok (.iadd, 1) := by decide +kernel
theorem dL_law_557 : decode cL_law 557 = .ok (.iaload, 1) := by decide +kernel
theorem dL_law_558 : decode cL_law 558 = .ok (.aload_n 0, 1) := by decide +kernel
theorem dL_law_559 : decode cL_law 559 = .ok (.iload_n 3, 1) := by decide +kernel
theorem dL_law_560 : decode cL_law 560 = .ok (.iconst 2, 1) := by decide +kernel
theorem dL_law_561 : decode cL_law 561 = .ok (.iadd, 1) := by decide +kernel
theorem dL_law_562 : decode cL_law 562 = .ok (.iaload, 1) := by decide +kernel
theorem dL_law_563 : decode cL_law 563 = .ok (.invokevirtual 81, 3) := by decide +kernel
theorem dL_law_566 : decode cL_law 566 = .ok (.aload_n 2, 1) := by decide +kernel
theorem dL_law_567 : decode cL_law 567 = .ok (.aload_n 0, 1) := by decide +kernel
theorem dL_law_568 : decode cL_law 568 = .ok (.iload_n 3, 1) := by decide +kernel
theorem dL_law_569 : decode cL_law 569 = .ok (.iconst 1, 1) := by decide +kernel
theorem dL_law_570 : decode cL_law 570 = .ok (.iadd, 1) := by decide +kernel
theorem dL_law_571 : decode cL_law 571 = .ok (.iaload, 1) := by decide +kernel
theorem dL_law_572 : decode cL_law 572 = .ok (.aload_n 0, 1) := by decide +kernel
theorem dL_law_573 : decode cL_law 573 = .ok (.iload_n 3, 1) := by decide +kernel
theorem dL_law_574 : decode cL_law 574 = .ok (.iconst 2, 1) := by decide +kernel
theorem dL_law_575 : decode cL_law 575 = .ok (.iadd, 1) := by decide +kernel
theorem dL_law_576 : decode cL_law 576 = .ok (.iaload, 1) := by decide +kernel
theorem dL_law_577 : decode cL_law 577 = .ok (.invokevirtual 84, 3) := by decide +kernel
theorem dL_law_580 : decode cL_law 580 = .ok (.if_icmp .eq 196, 3) := by decide +kernel
theorem dL_law_583 : decode cL_law 583 = .ok (.iconst 0, 1) := by decide +kernel
theorem dL_law_584 : decode cL_law 584 = .ok (.ireturn, 1) := by decide +kernel
theorem dL_law_585 : decode cL_law 585 = .ok (.aload_n 1, 1) := by decide +kernel
theorem dL_law_586 : decode cL_law 586 = .ok (.aload_n 0, 1) := by decide +kernel
theorem dL_law_587 : decode cL_law 587 = .ok (.iload_n 3, 1) := by decide +kernel
theorem dL_law_588 : decode cL_law 588 = .ok (.iconst 1, 1) := by decide +kernel
theorem dL_law_589 : decode cL_law 589 = .ok (.iadd, 1) := by decide +kernel
theorem dL_law_590 : decode cL_law 590 = .ok (.iaload, 1) := by decide +kernel
theorem dL_law_591 : decode cL_law 591 = .ok (.aload_n 0, 1) := by decide +kernel
theorem dL_law_592 : decode cL_law 592 = .ok (.iload_n 3, 1) := by decide +kernel
theorem dL_law_593 : decode cL_law 593 = .ok (.iconst 2, 1) := by decide +kernel
theorem dL_law_594 : decode cL_law 594 = .ok (.iadd, 1) := by decide +kernel
theorem dL_law_595 : decode cL_law 595 = .ok (.iaload, 1) := by decide +kernel
theorem dL_law_596 : decode cL_law 596 = .ok (.invokevirtual 85, 3) := by decide +kernel
theorem dL_law_599 : decode cL_law 599 = .ok (.aload_n 2, 1) := by decide +kernel
theorem dL_law_600 : decode cL_law 600 = .ok (.aload_n 0, 1) := by decide +kernel
theorem dL_law_601 : decode cL_law 601 = .ok (.iload_n 3, 1) := by decide +kernel
theorem dL_law_602 : decode cL_law 602 = .ok (.iconst 1, 1) := by decide +kernel
theorem dL_law_603 : decode cL_law 603 = .ok (.iadd, 1) := by decide +kernel
theorem dL_law_604 : decode cL_law 604 = .ok (.iaload, 1) := by decide +kernel
theorem dL_law_605 : decode cL_law 605 = .ok (.aload_n 0, 1) := by decide +kernel
theorem dL_law_606 : decode cL_law 606 = .ok (.iload_n 3, 1) := by decide +kernel
theorem dL_law_607 : decode cL_law 607 = .ok (.iconst 2, 1) := by decide +kernel
theorem dL_law_608 : decode cL_law 608 = .ok (.iadd, 1) := by decide +kernel
theorem dL_law_609 : decode cL_law 609 = .ok (.iaload, 1) := by decide +kernel
theorem dL_law_610 : decode cL_law 610 = .ok (.invokevirtual 88, 3) := by decide +kernel
theorem dL_law_613 : decode cL_law 613 = .ok (.if_icmp .eq 163, 3) := by decide +kernel
theorem dL_law_616 : decode cL_law 616 = .ok (.iconst 0, 1) := by decide +kernel
theorem dL_law_617 : decode cL_law 617 = .ok (.ireturn, 1) := by decide +kernel
theorem dL_law_618 : decode cL_law 618 = .ok (.aload_n 1, 1) := by decide +kernel
theorem dL_law_619 : decode cL_law 619 = .ok (.aload_n 0, 1) := by decide +kernel
theorem dL_law_620 : decode cL_law 620 = .ok (.iload_n 3, 1) := by decide +kernel
theorem dL_law_621 : decode cL_law 621 = .ok (.iconst 1, 1) := by decide +kernel
theorem dL_law_622 : decode cL_law 622 = .ok (.iadd, 1) := by decide +kernel
theorem dL_law_623 : decode cL_law 623 = .ok (.iaload, 1) := by decide +kernel
theorem dL_law_624 : decode cL_law 624 = .ok (.aload_n 0, 1) := by decide +kernel
theorem dL_law_625 : decode cL_law 625 = .ok (.iload_n 3, 1) := by decide +kernel
theorem dL_law_626 : decode cL_law 626 = .ok (.iconst 2, 1) := by decide +kernel
theorem dL_law_627 : decode cL_law 627 = .ok (.iadd, 1) := by decide +kernel
theorem dL_law_628 : decode cL_law 628 = .ok (.iaload, 1) := by decide +kernel
theorem dL_law_629 : decode cL_law 629 = .ok (.invokevirtual 89, 3) := by decide +kernel
theorem dL_law_632 : decode cL_law 632 = .ok (.aload_n 2, 1) := by decide +kernel
theorem dL_law_633 : decode cL_law 633 = .ok (.aload_n 0, 1) := by decide +kernel
theorem dL_law_634 : decode cL_law 634 = .ok (.iload_n 3, 1) := by decide +kernel
theorem dL_law_635 : decode cL_law 635 = .ok (.iconst 1, 1) := by decide +kernel
theorem dL_law_636 : decode cL_law 636 = .ok (.iadd, 1) := by decide +kernel
theorem dL_law_637 : decode cL_law 637 = .ok (.iaload, 1) := by decide +kernel
theorem dL_law_638 : decode cL_law 638 = .ok (.aload_n 0, 1) := by decide +kernel
theorem dL_law_639 : decode cL_law 639 = .ok (.iload_n 3, 1) := by decide +kernel
theorem dL_law_640 : decode cL_law 640 = .ok (.iconst 2, 1) := by decide +kernel
theorem dL_law_641 : decode cL_law 641 = .ok (.iadd, 1) := by decide +kernel
theorem dL_law_642 : decode cL_law 642 = .ok (.iaload, 1) := by decide +kernel
theorem dL_law_643 : decode cL_law 643 = .ok (.invokevirtual 92, 3) := by decide +kernel
theorem dL_law_646 : decode cL_law 646 = .ok (.if_icmp .eq 130, 3) := by decide +kernel
theorem dL_law_649 : decode cL_law 649 = .ok (.iconst 0, 1) := by decide +kernel
theorem dL_law_650 : decode cL_law 650 = .ok (.ireturn, 1) := by decide +kernel
theorem dL_law_651 : decode cL_law 651 = .ok (.aload_n 1, 1) := by decide +kernel
theorem dL_law_652 : decode cL_law 652 = .ok (.aload_n 0, 1) := by decide +kernel
theorem dL_law_653 : decode cL_law 653 = .ok (.iload_n 3, 1) := by decide +kernel
theorem dL_law_654 : decode cL_law 654 = .ok (.iconst 1, 1) := by decide +kernel
theorem dL_law_655 : decode cL_law 655 = .ok (.iadd, 1) := by decide +kernel
theorem dL_law_656 : decode cL_law 656 = .ok (.iaload, 1) := by decide +kernel
theorem dL_law_657 : decode cL_law 657 = .ok (.invokevirtual 93, 3) := by decide +kernel
theorem dL_law_660 : decode cL_law 660 = .ok (.aload_n 2, 1) := by decide +kernel
theorem dL_law_661 : decode cL_law 661 = .ok (.aload_n 0, 1) := by decide +kernel
theorem dL_law_662 : decode cL_law 662 = .ok (.iload_n 3, 1) := by decide +kernel
theorem dL_law_663 : decode cL_law 663 = .ok (.iconst 1, 1) := by decide +kernel
theorem dL_law_664 : decode cL_law 664 = .ok (.iadd, 1) := by decide +kernel
theorem dL_law_665 : decode cL_law 665 = .ok (.iaload, 1) := by decide +kernel
theorem dL_law_666 : decode cL_law 666 = .ok (.invokevirtual 96, 3) := by decide +kernel
theorem dL_law_669 : decode cL_law 669 = .ok (.if_icmp .eq 107, 3) := by decide +kernel
theorem dL_law_672 : decode cL_law 672 = .ok (.iconst 0, 1) := by decide +kernel
theorem dL_law_673 : decode cL_law 673 = .ok (.ireturn, 1) := by decide +kernel
theorem dL_law_674 : decode cL_law 674 = .ok (.aload_n 1, 1) := by decide +kernel
theorem dL_law_675 : decode cL_law 675 = .ok (.invokevirtual 97, 3) := by decide +kernel
theorem dL_law_678 : decode cL_law 678 = .ok (.aload_n 2, 1) := by decide +kernel
theorem dL_law_679 : decode cL_law 679 = .ok (.invokevirtual 100, 3) := by decide +kernel
theorem dL_law_682 : decode cL_law 682 = .ok (.if_icmp .eq 94, 3) := by decide +kernel
theorem dL_law_685 : decode cL_law 685 = .ok (.iconst 0, 1) := by decide +kernel
theorem dL_law_686 : decode cL_law 686 = .ok (.ireturn, 1) := by decide +kernel
theorem dL_law_687 : decode cL_law 687 = .ok (.aload_n 1, 1) := by decide +kernel
theorem dL_law_688 : decode cL_law 688 = .ok (.aload_n 0, 1) := by decide +kernel
theorem dL_law_689 : decode cL_law 689 = .ok (.iload_n 3, 1) := by decide +kernel
theorem dL_law_690 : decode cL_law 690 = .ok (.iconst 1, 1) := by decide +kernel
theorem dL_law_691 : decode cL_law 691 = .ok (.iadd, 1) := by decide +kernel
theorem dL_law_692 : decode cL_law 692 = .ok (.iaload, 1) := by decide +kernel
theorem dL_law_693 : decode cL_law 693 = .ok (.aload_n 0, 1) := by decide +kernel
theorem dL_law_694 : decode cL_law 694 = .ok (.iload_n 3, 1) := by decide +kernel
theorem dL_law_695 : decode cL_law 695 = .ok (.iconst 2, 1) := by decide +kernel
theorem dL_law_696 : decode cL_law 696 = .ok (.iadd, 1) := by decide +kernel
theorem dL_law_697 : decode cL_law 697 = .ok (.iaload, 1) := by decide +kernel
theorem dL_law_698 : decode cL_law 698 = .ok (.invokevirtual 101, 3) := by decide +kernel
theorem dL_law_701 : decode cL_law 701 = .ok (.aload_n 2, 1) := by decide +kernel
theorem dL_law_702 : decode cL_law 702 = .ok (.aload_n 0, 1) := by decide +kernel
theorem dL_law_703 : decode cL_law 703 = .ok (.iload_n 3, 1) := by decide +kernel
theorem dL_law_704 : decode cL_law 704 = .ok (.iconst 1, 1) := by decide +kernel
theorem dL_law_705 : decode cL_law 705 = .ok (.iadd, 1) := by decide +kernel
theorem dL_law_706 : decode cL_law 706 = .ok (.iaload, 1) := by decide +kernel
theorem dL_law_707 : decode cL_law 707 = .ok (.aload_n 0, 1) := by decide +kernel
theorem dL_law_708 : decode cL_law 708 = .ok (.iload_n 3, 1) := by decide +kernel
theorem dL_law_709 : decode cL_law 709 = .ok (.iconst 2, 1) := by decide +kernel
theorem dL_law_710 : decode cL_law 710 = .ok (.iadd, 1) := by decide +kernel
theorem dL_law_711 : decode cL_law 711 = .ok (.iaload, 1) := by decide +kernel
theorem dL_law_712 : decode cL_law 712 = .ok (.invokevirtual 104, 3) := by decide +kernel
theorem dL_law_715 : decode cL_law 715 = .ok (.if_icmp .eq 61, 3) := by decide +kernel
theorem dL_law_718 : decode cL_law 718 = .ok (.iconst 0, 1) := by decide +kernel
theorem dL_law_719 : decode cL_law 719 = .ok (.ireturn, 1) := by decide +kernel
theorem dL_law_720 : decode cL_law 720 = .ok (.aload_n 1, 1) := by decide +kernel
theorem dL_law_721 : decode cL_law 721 = .ok (.aload_n 0, 1) := by decide +kernel
theorem dL_law_722 : decode cL_law 722 = .ok (.iload_n 3, 1) := by decide +kernel
theorem dL_law_723 : decode cL_law 723 = .ok (.iconst 1, 1) := by decide +kernel
theorem dL_law_724 : decode cL_law 724 = .ok (.iadd, 1) := by decide +kernel
theorem dL_law_725 : decode cL_law 725 = .ok (.iaload, 1) := by decide +kernel
theorem dL_law_726 : decode cL_law 726 = .ok (.aload_n 0, 1) := by decide +kernel
theorem dL_law_727 : decode cL_law 727 = .ok (.iload_n 3, 1) := by decide +kernel
theorem dL_law_728 : decode cL_law 728 = .ok (.iconst 2, 1) := by decide +kernel
theorem dL_law_729 : decode cL_law 729 = .ok (.iadd, 1) := by decide +kernel
theorem dL_law_730 : decode cL_law 730 = .ok (.iaload, 1) := by decide +kernel
theorem dL_law_731 : decode cL_law 731 = .ok (.invokevirtual 105, 3) := by decide +kernel
theorem dL_law_734 : decode cL_law 734 = .ok (.aload_n 2, 1) := by decide +kernel
theorem dL_law_735 : decode cL_law 735 = .ok (.aload_n 0, 1) := by decide +kernel
theorem dL_law_736 : decode cL_law 736 = .ok (.iload_n 3, 1) := by decide +kernel
theorem dL_law_737 : decode cL_law 737 = .ok (.iconst 1, 1) := by decide +kernel
theorem dL_law_738 : decode cL_law 738 = .ok (.iadd, 1) := by decide +kernel
theorem dL_law_739 : decode cL_law 739 = .ok (.iaload, 1) := by decide +kernel
theorem dL_law_740 : decode cL_law 740 = .ok (.aload_n 0, 1) := by decide +kernel
theorem dL_law_741 : decode cL_law 741 = .ok (.iload_n 3, 1) := by decide +kernel
theorem dL_law_742 : decode cL_law 742 = .ok (.iconst 2, 1) := by decide +kernel
theorem dL_law_743 : decode cL_law 743 = .ok (.iadd, 1) := by decide +kernel
theorem dL_law_744 : decode cL_law 744 = .ok (.iaload, 1) := by decide +kernel
theorem dL_law_745 : decode cL_law 745 = .ok (.invokevirtual 108, 3) := by decide +kernel
theorem dL_law_748 : decode cL_law 748 = .ok (.if_icmp .eq 28, 3) := by decide +kernel
theorem dL_law_751 : decode cL_law 751 = .ok (.iconst 0, 1) := by decide +kernel
theorem dL_law_752 : decode cL_law 752 = .ok (.ireturn, 1) := by decide +kernel
theorem dL_law_753 : decode cL_law 753 = .ok (.aload_n 1, 1) := by decide +kernel
theorem dL_law_754 : decode cL_law 754 = .ok (.aload_n 0, 1) := by decide +kernel
theorem dL_law_755 : decode cL_law 755 = .ok (.iload_n 3, 1) := by decide +kernel
theorem dL_law_756 : decode cL_law 756 = .ok (.iconst 1, 1) := by decide +kernel
theorem dL_law_757 : decode cL_law 757 = .ok (.iadd, 1) := by decide +kernel
theorem dL_law_758 : decode cL_law 758 = .ok (.iaload, 1) := by decide +kernel
theorem dL_law_759 : decode cL_law 759 = .ok (.invokevirtual 109, 3) := by decide +kernel
theorem dL_law_762 : decode cL_law 762 = .ok (.aload_n 2, 1) := by decide +kernel
theorem dL_law_763 : decode cL_law 763 = .ok (.aload_n 0, 1) := by decide +kernel
theorem dL_law_764 : decode cL_law 764 = .ok (.iload_n 3, 1) := by decide +kernel
theorem dL_law_765 : decode cL_law 765 = .ok (.iconst 1, 1) := by decide +kernel
theorem dL_law_766 : decode cL_law 766 = .ok (.iadd, 1) := by decide +kernel
theorem dL_law_767 : decode cL_law 767 = .ok (.iaload, 1) := by decide +kernel
theorem dL_law_768 : decode cL_law 768 = .ok (.invokevirtual 112, 3) := by decide +kernel
theorem dL_law_771 : decode cL_law 771 = .ok (.if_icmp .eq 5, 3) := by decide +kernel
theorem dL_law_774 : decode cL_law 774 = .ok (.iconst 0, 1) := by decide +kernel
theorem dL_law_775 : decode cL_law 775 = .ok (.ireturn, 1) := by decide +kernel
theorem dL_law_776 : decode cL_law 776 = .ok (.iinc 3 4, 3) := by decide +kernel
theorem dL_law_779 : decode cL_law 779 = .ok (.goto (-761), 3) := by decide +kernel
theorem dL_law_782 : decode cL_law 782 = .ok (.iconst 1, 1) := by decide +kernel
theorem dL_law_783 : decode cL_law 783 = .ok (.ireturn, 1) := by decide +kernel
