theorem dX9_byteAt_17 : decode cX9_byteAt 17 = .ok (.iconst 0, 1) := by decide +kernel
theorem dX9_byteAt_18 : decode cX9_byteAt 18 = .ok (.ireturn, 1) := by decide +kernel
theorem dX9_figures_0 : decode cX9_figures 0 = .ok (.iconst 0, 1) := by decide +kernel
theorem dX9_figures_1 : decode cX9_figures 1 = .ok (.istore 5, 2) := by decide +kernel
theorem dX9_figures_3 : decode cX9_figures 3 = .ok (.iload 5, 2) := by decide +kernel
theorem dX9_figures_5 : decode cX9_figures 5 = .ok (.iload_n 2, 1) := by decide +kernel
theorem dX9_figures_6 : decode cX9_figures 6 = .ok (.if_icmp .ge 59, 3) := by decide +kernel
theorem dX9_figures_9 : decode cX9_figures 9 = .ok (.aload_n 0, 1) := by decide +kernel
theorem dX9_figures_10 : decode cX9_figures 10 = .ok (.aload_n 0, 1) := by decide +kernel
theorem dX9_figures_11 : decode cX9_figures 11 = .ok (.getfield 64, 3) := by decide +kernel
theorem dX9_figures_14 : decode cX9_figures 14 = .ok (.invokevirtual 67, 3) := by decide +kernel
theorem dX9_figures_17 : decode cX9_figures 17 = .ok (.bipush 48, 2) := by decide +kernel
theorem dX9_figures_19 : decode cX9_figures 19 = .ok (.isub, 1) := by decide +kernel
theorem dX9_figures_20 : decode cX9_figures 20 = .ok (.istore 6, 2) := by decide +kernel
theorem dX9_figures_22 : decode cX9_figures 22 = .ok (.iload 6, 2) := by decide +kernel
theorem dX9_figures_24 : decode cX9_figures 24 = .ok (.i2l, 1) := by decide +kernel
theorem dX9_figures_25 : decode cX9_figures 25 = .ok (.iload_n 3, 1) := by decide +kernel
theorem dX9_figures_26 : decode cX9_figures 26 = .ok (.i2l, 1) := by decide +kernel
theorem dX9_figures_27 : decode cX9_figures 27 = .ok (.iload 4, 2) := by decide +kernel
theorem dX9_figures_29 : decode cX9_figures 29 = .ok (.i2l, 1) := by decide +kernel
theorem dX9_figures_30 : decode cX9_figures 30 = .ok (.invokestatic 56, 3) := by decide +kernel
theorem dX9_figures_33 : decode cX9_figures 33 = .ok (.ifCond .ne 5, 3) := by decide +kernel
theorem dX9_figures_36 : decode cX9_figures 36 = .ok (.iconst 0, 1) := by decide +kernel
theorem dX9_figures_37 : decode cX9_figures 37 = .ok (.ireturn, 1) := by decide +kernel
theorem dX9_figures_38 : decode cX9_figures 38 = .ok (.aload_n 0, 1) := by decide +kernel
theorem dX9_figures_39 : decode cX9_figures 39 = .ok (.getfield 16, 3) := by decide +kernel
theorem dX9_figures_42 : decode cX9_figures 42 = .ok (.iload_n 1, 1) := by decide +kernel
theorem dX9_figures_43 : decode cX9_figures 43 = .ok (.iload 5, 2) := by decide +kernel
theorem dX9_figures_45 : decode cX9_figures 45 = .ok (.iadd, 1) := by decide +kernel
theorem dX9_figures_46 : decode cX9_figures 46 = .ok (.iload 6, 2) := by decide +kernel
theorem dX9_figures_48 : decode cX9_figures 48 = .ok (.iastore, 1) := by decide +kernel
theorem dX9_figures_49 : decode cX9_figures 49 = .ok (.aload_n 0, 1) := by decide +kernel
theorem dX9_figures_50 : decode cX9_figures 50 = .ok (.dup, 1) := by decide +kernel
theorem dX9_figures_51 : decode cX9_figures 51 = .ok (.getfield 64, 3) := by decide +kernel
theorem dX9_figures_54 : decode cX9_figures 54 = .ok (.iconst 1, 1) := by decide +kernel
theorem dX9_figures_55 : decode cX9_figures 55 = .ok (.iadd, 1) := by decide +kernel
theorem dX9_figures_56 : decode cX9_figures 56 = .ok (.putfield 64, 3) := by decide +kernel
theorem dX9_figures_59 : decode cX9_figures 59 = .ok (.iinc 5 1, 3) := by decide +kernel
theorem dX9_figures_62 : decode cX9_figures 62 = .ok (.goto (-59), 3) := by decide +kernel
theorem dX9_figures_65 : decode cX9_figures 65 = .ok (.iconst 1, 1) := by decide +kernel
theorem dX9_figures_66 : decode cX9_figures 66 = .ok (.ireturn, 1) := by decide +kernel
theorem dX9_item_0 : decode cX9_item 0 = .ok (.iload_n 1, 1) := by decide +kernel
theorem dX9_item_1 : decode cX9_item 1 = .ok (.bipush 103, 2) := by decide +kernel
theorem dX9_item_3 : decode cX9_item 3 = .ok (.if_icmp .ne 7, 3) := by decide +kernel
theorem dX9_item_6 : decode cX9_item 6 = .ok (.iconst 1, 1) := by decide +kernel
theorem dX9_item_7 : decode cX9_item 7 = .ok (.goto 4, 3) := by decide +kernel
theorem dX9_item_10 : decode cX9_item 10 = .ok (.iconst 0, 1) := by decide +kernel
theorem dX9_item_11 : decode cX9_item 11 = .ok (.aload_n 0, 1) := by decide +kernel
theorem dX9_item_12 : decode cX9_item 12 = .ok (.getfield 16, 3) := by decide +kernel
theorem dX9_item_15 : decode cX9_item 15 = .ok (.iconst 0, 1) := by decide +kernel
theorem dX9_item_16 : decode cX9_item 16 = .ok (.iaload, 1) := by decide +kernel
theorem dX9_item_17 : decode cX9_item 17 = .ok (.ifCond .ne 7, 3) := by decide +kernel
theorem dX9_item_20 : decode cX9_item 20 = .ok (.iconst 1, 1) := by decide +kernel
theorem dX9_item_21 : decode cX9_item 21 = .ok (.goto 4, 3) := by decide +kernel
theorem dX9_item_24 : decode cX9_item 24 = .ok (.iconst 0, 1) := by decide +kernel
theorem dX9_item_25 : decode cX9_item 25 = .ok (.if_icmp .eq 5, 3) := by decide +kernel
theorem dX9_item_28 : decode cX9_item 28 = .ok (.iconst 0, 1) := by decide +kernel
theorem dX9_item_29 : decode cX9_item 29 = .ok (.ireturn, 1) := by decide +kernel
theorem dX9_item_30 : decode cX9_item 30 = .ok (.iload_n 1, 1) := by decide +kernel
theorem dX9_item_31 : decode cX9_item 31 = .ok (.lookupswitch 129 #[(103, 41), (108, 108), (114, 51), (115, 118)], 41) := by decide +kernel
theorem dX9_item_72 : decode cX9_item 72 = .ok (.aload_n 0, 1) := by decide +kernel
theorem dX9_item_73 : decode cX9_item 73 = .ok (.iconst 0, 1) := by decide +kernel
theorem dX9_item_74 : decode cX9_item 74 = .ok (.iconst 2, 1) := by decide +kernel
theorem dX9_item_75 : decode cX9_item 75 = .ok (.iconst 3, 1) := by decide +kernel
theorem dX9_item_76 : decode cX9_item 76 = .ok (.bipush 9, 2) := by decide +kernel
theorem dX9_item_78 : decode cX9_item 78 = .ok (.invokevirtual 71, 3) := by decide +kernel
theorem dX9_item_81 : decode cX9_item 81 = .ok (.ireturn, 1) := by decide +kernel
theorem dX9_item_82 : decode cX9_item 82 = .ok (.aload_n 0, 1) := by decide +kernel
theorem dX9_item_83 : decode cX9_item 83 = .ok (.dup, 1) := by decide +kernel
theorem dX9_item_84 : decode cX9_item 84 = .ok (.getfield 75, 3) := by decide +kernel
theorem dX9_item_87 : decode cX9_item 87 = .ok (.iconst 1, 1) := by decide +kernel
theorem dX9_item_88 : decode cX9_item 88 = .ok (.iadd, 1) := by decide +kernel
theorem dX9_item_89 : decode cX9_item 89 = .ok (.putfield 75, 3) := by decide +kernel
theorem dX9_item_92 : decode cX9_item 92 = .ok (.aload_n 0, 1) := by decide +kernel
theorem dX9_item_93 : decode cX9_item 93 = .ok (.getfield 75, 3) := by decide +kernel
theorem dX9_item_96 : decode cX9_item 96 = .ok (.aload_n 0, 1) := by decide +kernel
theorem dX9_item_97 : decode cX9_item 97 = .ok (.getfield 16, 3) := by decide +kernel
theorem dX9_item_100 : decode cX9_item 100 = .ok (.iconst 1, 1) := by decide +kernel
theorem dX9_item_101 : decode cX9_item 101 = .ok (.iaload, 1) := by decide +kernel
theorem dX9_item_102 : decode cX9_item 102 = .ok (.if_icmp .gt 35, 3) := by decide +kernel
theorem dX9_item_105 : decode cX9_item 105 = .ok (.aload_n 0, 1) := by decide +kernel
theorem dX9_item_106 : decode cX9_item 106 = .ok (.bipush 7, 2) := by decide +kernel
theorem dX9_item_108 : decode cX9_item 108 = .ok (.bipush 9, 2) := by decide +kernel
theorem dX9_item_110 : decode cX9_item 110 = .ok (.aload_n 0, 1) := by decide +kernel
theorem dX9_item_111 : decode cX9_item 111 = .ok (.getfield 75, 3) := by decide +kernel
theorem dX9_item_114 : decode cX9_item 114 = .ok (.iconst 1, 1) := by decide +kernel
theorem dX9_item_115 : decode cX9_item 115 = .ok (.isub, 1) := by decide +kernel
theorem dX9_item_116 : decode cX9_item 116 = .ok (.imul, 1) := by decide +kernel
theorem dX9_item_117 : decode cX9_item 117 = .ok (.iadd, 1) := by decide +kernel
theorem dX9_item_118 : decode cX9_item 118 = .ok (.aload_n 0, 1) := by decide +kernel
theorem dX9_item_119 : decode cX9_item 119 = .ok (.getfield 16, 3) := by decide +kernel
theorem dX9_item_122 : decode cX9_item 122 = .ok (.iconst 0, 1) := by decide +kernel
theorem dX9_item_123 : decode cX9_item 123 = .ok (.iaload, 1) := by decide +kernel
theorem dX9_item_124 : decode cX9_item 124 = .ok (.iconst 0, 1) := by decide +kernel
theorem dX9_item_125 : decode cX9_item 125 = .ok (.bipush 9, 2) := by decide +kernel
theorem dX9_item_127 : decode cX9_item 127 = .ok (.invokevirtual 71, 3) := by decide +kernel
theorem dX9_item_130 : decode cX9_item 130 = .ok (.ifCond .eq 7, 3) := by decide +kernel
theorem dX9_item_133 : decode cX9_item 133 = .ok (.iconst 1, 1) := by decide +kernel
theorem dX9_item_134 : decode cX9_item 134 = .ok (.goto 4, 3) := by decide +kernel
theorem dX9_item_137 : decode cX9_item 137 = .ok (.iconst 0, 1) := by decide +kernel
theorem dX9_item_138 : decode cX9_item 138 = .ok (.ireturn, 1) := by decide +kernel
theorem dX9_item_139 : decode cX9_item 139 = .ok (.aload_n 0, 1) := by decide +kernel
theorem dX9_item_140 : decode cX9_item 140 = .ok (.iconst 2, 1) := by decide +kernel
theorem dX9_item_141 : decode cX9_item 141 = .ok (.iconst 4, 1) := by decide +kernel
theorem dX9_item_142 : decode cX9_item 142 = .ok (.iconst 0, 1) := by decide +kernel
theorem dX9_item_143 : decode cX9_item 143 = .ok (.bipush 7, 2) := by decide +kernel
theorem dX9_item_145 : decode cX9_item 145 = .ok (.invokevirtual 71, 3) := by decide +kernel
theorem dX9_item_148 : decode cX9_item 148 = .ok (.ireturn, 1) := by decide +kernel
theorem dX9_item_149 : decode cX9_item 149 = .ok (.aload_n 0, 1) := by decide +kernel
theorem dX9_item_150 : decode cX9_item 150 = .ok (.bipush 6, 2) := by decide +kernel
theorem dX9_item_152 : decode cX9_item 152 = .ok (.iconst 1, 1) := by decide +kernel
theorem dX9_item_153 : decode cX9_item 153 = .ok (.iconst 2, 1) := by decide +kernel
theorem dX9_item_154 : decode cX9_item 154 = .ok (.bipush 6, 2) := by decide +kernel
theorem dX9_item_156 : decode cX9_item 156 = .ok (.invokevirtual 71, 3) := by decide +kernel
theorem dX9_item_159 : decode cX9_item 159 = .ok (.ireturn, 1) := by decide +kernel
theorem dX9_item_160 : decode cX9_item 160 = .ok (.iconst 0, 1) := by decide +kernel
theorem dX9_item_161 : decode cX9_item 161 = .ok (.ireturn, 1) := by decide +kernel
theorem dX9_fault_0 : decode cX9_fault 0 = .ok (.aload_n 0, 1) := by decide +kernel
theorem dX9_fault_1 : decode cX9_fault 1 = .ok (.getfield 16, 3) := by decide +kernel
theorem dX9_fault_4 : decode cX9_fault 4 = .ok (.invokestatic 48, 3) := by decide +kernel
theorem dX9_fault_7 : decode cX9_fault 7 = .ok (.aload_n 0, 1) := by decide +kernel
theorem dX9_fault_8 : decode cX9_fault 8 = .ok (.iconst 0, 1) := by decide +kernel
theorem dX9_fault_9 : decode cX9_fault 9 = .ok (.putfield 75, 3) := by decide +kernel
theorem dX9_fault_12 : decode cX9_fault 12 = .ok (.aload_n 0, 1) := by decide +kernel
theorem dX9_fault_13 : decode cX9_fault 13 = .ok (.iconst 0, 1) := by decide +kernel
theorem dX9_fault_14 : decode cX9_fault 14 = .ok (.putfield 64, 3) := by decide +kernel
theorem dX9_fault_17 : decode cX9_fault 17 = .ok (.aload_n 0, 1) := by decide +kernel
theorem dX9_fault_18 : decode cX9_fault 18 = .ok (.getfield 64, 3) := by decide +kernel
theorem dX9_fault_21 : decode cX9_fault 21 = .ok (.aload_n 0, 1) := by decide +kernel
theorem dX9_fault_22 : decode cX9_fault 22 = .ok (.getfield 60, 3) := by decide +kernel
theorem dX9_fault_25 : decode cX9_fault 25 = .ok (.if_icmp .ge 59, 3) := by decide +kernel
theorem dX9_fault_28 : decode cX9_fault 28 = .ok (.aload_n 0, 1) := by decide +kernel
theorem dX9_fault_29 : decode cX9_fault 29 = .ok (.getfield 64, 3) := by decide +kernel
theorem dX9_fault_32 : decode cX9_fault 32 = .ok (.istore_n 1, 1) := by decide +kernel
theorem dX9_fault_33 : decode cX9_fault 33 = .ok (.aload_n 0, 1) := by decide +kernel
theorem dX9_fault_34 : decode cX9_fault 34 = .ok (.dup, 1) := by decide +kernel
theorem dX9_fault_35 : decode cX9_fault 35 = .ok (.getfield 64, 3) := by decide +kernel
theorem dX9_fault_38 : decode cX9_fault 38 = .ok (.iconst 1, 1) := by decide +kernel
theorem dX9_fault_39 : decode cX9_fault 39 = .ok (.iadd, 1) := by decide +kernel
theorem dX9_fault_40 : decode cX9_fault 40 = .ok (.putfield 64, 3) := by decide +kernel
theorem dX9_fault_43 : decode cX9_fault 43 = .ok (.aload_n 0, 1) := by decide +kernel
theorem dX9_fault_44 : decode cX9_fault 44 = .ok (.aload_n 0, 1) := by decide +kernel
theorem dX9_fault_45 : decode cX9_fault 45 = .ok (.getfield 7, 3) := by decide +kernel
theorem dX9_fault_48 : decode cX9_fault 48 = .ok (.iload_n 1, 1) := by decide +kernel
theorem dX9_fault_49 : decode cX9_fault 49 = .ok (.iaload, 1) := by decide +kernel
theorem dX9_fault_50 : decode cX9_fault 50 = .ok (.invokevirtual 78, 3) := by decide +kernel
theorem dX9_fault_53 : decode cX9_fault 53 = .ok (.ifCond .eq 16, 3) := by decide +kernel
theorem dX9_fault_56 : decode cX9_fault 56 = .ok (.aload_n 0, 1) := by decide +kernel
theorem dX9_fault_57 : decode cX9_fault 57 = .ok (.aload_n 0, 1) := by decide +kernel
theorem dX9_fault_58 : decode cX9_fault 58 = .ok (.getfield 64, 3) := by decide +kernel
theorem dX9_fault_61 : decode cX9_fault 61 = .ok (.invokevirtual 67, 3) := by decide +kernel
theorem dX9_fault_64 : decode cX9_fault 64 = .ok (.bipush 59, 2) := by decide +kernel
theorem dX9_fault_66 : decode cX9_fault 66 = .ok (.if_icmp .eq 5, 3) := by decide +kernel
theorem dX9_fault_69 : decode cX9_fault 69 = .ok (.iload_n 1, 1) := by decide +kernel
theorem dX9_fault_70 : decode cX9_fault 70 = .ok (.ireturn, 1) := by decide +kernel
theorem dX9_fault_71 : decode cX9_fault 71 = .ok (.aload_n 0, 1) := by decide +kernel
theorem dX9_fault_72 : decode cX9_fault 72 = .ok (.dup, 1) := by decide +kernel
theorem dX9_fault_73 : decode cX9_fault 73 = .ok (.getfield 64, 3) := by decide +kernel
theorem dX9_fault_76 : decode cX9_fault 76 = .ok (.iconst 1, 1) := by decide +kernel
theorem dX9_fault_77 : decode cX9_fault 77 = .ok (.iadd, 1) := by decide +kernel
theorem dX9_fault_78 : decode cX9_fault 78 = .ok (.putfield 64, 3) := by decide +kernel
theorem dX9_fault_81 : decode cX9_fault 81 = .ok (.goto (-64), 3) := by decide +kernel
theorem dX9_fault_84 : decode cX9_fault 84 = .ok (.bipush (-4), 2) := by decide +kernel
theorem dX9_fault_86 : decode cX9_fault 86 = .ok (.ireturn, 1) := by decide +kernel
theorem dX9_lay_0 : decode cX9_lay 0 = .ok (.aload_n 0, 1) := by decide +kernel
theorem dX9_lay_1 : decode cX9_lay 1 = .ok (.invokevirtual 82, 3) := by decide +kernel
theorem dX9_lay_4 : decode cX9_lay 4 = .ok (.bipush (-4), 2) := by decide +kernel
theorem dX9_lay_6 : decode cX9_lay 6 = .ok (.if_icmp .ne 12, 3) := by decide +kernel
theorem dX9_lay_9 : decode cX9_lay 9 = .ok (.aload_n 0, 1) := by decide +kernel
theorem dX9_lay_10 : decode cX9_lay 10 = .ok (.getfield 16, 3) := by decide +kernel
theorem dX9_lay_13 : decode cX9_lay 13 = .ok (.iconst 0, 1) := by decide +kernel
theorem dX9_lay_14 : decode cX9_lay 14 = .ok (.iaload, 1) := by decide +kernel
theorem dX9_lay_15 : decode cX9_lay 15 = .ok (.ifCond .ne 6, 3) := by decide +kernel
theorem dX9_lay_18 : decode cX9_lay 18 = .ok (.bipush (-2), 2) := by decide +kernel
theorem dX9_lay_20 : decode cX9_lay 20 = .ok (.ireturn, 1) := by decide +kernel
theorem dX9_lay_21 : decode cX9_lay 21 = .ok (.iconst 0, 1) := by decide +kernel
theorem dX9_lay_22 : decode cX9_lay 22 = .ok (.istore_n 1, 1) := by decide +kernel
theorem dX9_lay_23 : decode cX9_lay 23 = .ok (.iload_n 1, 1) := by decide +kernel
theorem dX9_lay_24 : decode cX9_lay 24 = .ok (.sipush 249, 3) := by decide +kernel
theorem dX9_lay_27 : decode cX9_lay 27 = .ok (.if_icmp .ge 21, 3) := by decide +kernel
theorem dX9_lay_30 : decode cX9_lay 30 = .ok (.aload_n 0, 1) := by decide +kernel
theorem dX9_lay_31 : decode cX9_lay 31 = .ok (.getfield 13, 3) := by decide +kernel
theorem dX9_lay_34 : decode cX9_lay 34 = .ok (.iload_n 1, 1) := by decide +kernel
theorem dX9_lay_35 : decode cX9_lay 35 = .ok (.aload_n 0, 1) := by decide +kernel
theorem dX9_lay_36 : decode cX9_lay 36 = .ok (.getfield 16, 3) := by decide +kernel
theorem dX9_lay_39 : decode cX9_lay 39 = .ok (.iload_n 1, 1) := by decide +kernel
theorem dX9_lay_40 : decode cX9_lay 40 = .ok (.iaload, 1) := by decide +kernel
theorem dX9_lay_41 : decode cX9_lay 41 = .ok (.iastore, 1) := by decide +kernel
theorem dX9_lay_42 : decode cX9_lay 42 = .ok (.iinc 1 1, 3) := by decide +kernel
theorem dX9_lay_45 : decode cX9_lay 45 = .ok (.goto (-22), 3) := by decide +kernel
theorem dX9_lay_48 : decode cX9_lay 48 = .ok (.aload_n 0, 1) := by decide +kernel
theorem dX9_lay_49 : decode cX9_lay 49 = .ok (.iconst 0, 1) := by decide +kernel
theorem dX9_lay_50 : decode cX9_lay 50 = .ok (.putfield 86, 3) := by decide +kernel
theorem dX9_lay_53 : decode cX9_lay 53 = .ok (.aload_n 0, 1) := by decide +kernel
theorem dX9_lay_54 : decode cX9_lay 54 = .ok (.getfield 13, 3) := by decide +kernel
theorem dX9_lay_57 : decode cX9_lay 57 = .ok (.iconst 0, 1) := by decide +kernel
theorem dX9_lay_58 : decode cX9_lay 58 = .ok (.iaload, 1) := by decide +kernel
theorem dX9_lay_59 : decode cX9_lay 59 = .ok (.aload_n 0, 1) := by decide +kernel
theorem dX9_lay_60 : decode cX9_lay 60 = .ok (.getfield 13, 3) := by decide +kernel
theorem dX9_lay_63 : decode cX9_lay 63 = .ok (.iconst 1, 1) := by decide +kernel
theorem dX9_lay_64 : decode cX9_lay 64 = .ok (.iaload, 1) := by decide +kernel
theorem dX9_lay_65 : decode cX9_lay 65 = .ok (.imul, 1) := by decide +kernel
theorem dX9_lay_66 : decode cX9_lay 66 = .ok (.ireturn, 1) := by decide +kernel
theorem dX9_note_0 : decode cX9_note 0 = .ok (.aload_n 0, 1) := by decide +kernel
theorem dX9_note_1 : decode cX9_note 1 = .ok (.getfield 86, 3) := by decide +kernel
theorem dX9_note_4 : decode cX9_note 4 = .ok (.bipush 6, 2) := by decide +kernel
theorem dX9_note_6 : decode cX9_note 6 = .ok (.if_icmp .ne 44, 3) := by decide +kernel
theorem dX9_note_9 : decode cX9_note 9 = .ok (.iconst 0, 1) := by decide +kernel
theorem dX9_note_10 : decode cX9_note 10 = .ok (.istore_n 1, 1) := by decide +kernel
theorem dX9_note_11 : decode cX9_note 11 = .ok (.iload_n 1, 1) := by decide +kernel
theorem dX9_note_12 : decode cX9_note 12 = .ok (.sipush 1245, 3) := by decide +kernel
theorem dX9_note_15 : decode cX9_note 15 = .ok (.if_icmp .ge 25, 3) := by decide +kernel
theorem dX9_note_18 : decode cX9_note 18 = .ok (.aload_n 0, 1) := by decide +kernel
theorem dX9_note_19 : decode cX9_note 19 = .ok (.getfield 19, 3) := by decide +kernel
theorem dX9_note_22 : decode cX9_note 22 = .ok (.iload_n 1, 1) := by decide +kernel
theorem dX9_note_23 : decode cX9_note 23 = .ok (.aload_n 0, 1) := by decide +kernel
theorem dX9_note_24 : decode cX9_note 24 = .ok (.getfield 19, 3) := by decide +kernel
theorem dX9_note_27 : decode cX9_note 27 = .ok (.sipush 249, 3) := by decide +kernel
theorem dX9_note_30 : decode cX9_note 30 = .ok (.iload_n 1, 1) := by decide +kernel
theorem dX9_note_31 : decode cX9_note 31 = .ok (.iadd, 1) := by decide +kernel
theorem dX9_note_32 : decode cX9_note 32 = .ok (.iaload, 1) := by decide +kernel
theorem dX9_note_33 : decode cX9_note 33 = .ok (.iastore, 1) := by decide +kernel
theorem dX9_note_34 : decode cX9_note 34 = .ok (.iinc 1 1, 3) := by decide +kernel
theorem dX9_note_37 : decode cX9_note 37 = .ok (.goto (-26), 3) := by decide +kernel
theorem dX9_note_40 : decode cX9_note 40 = .ok (.aload_n 0, 1) := by decide +kernel
theorem dX9_note_41 : decode cX9_note 41 = .ok (.dup, 1) := by decide +kernel
theorem dX9_note_42 : decode cX9_note 42 = .ok (.getfield 86, 3) := by decide +kernel
theorem dX9_note_45 : decode cX9_note 45 = .ok (.iconst 1, 1) := by decide +kernel
theorem dX9_note_46 : decode cX9_note 46 = .ok (.isub, 1) := by decide +kernel
theorem dX9_note_47 : decode cX9_note 47 = .ok (.putfield 86, 3) := by decide +kernel
theorem dX9_note_50 : decode cX9_note 50 = .ok (.iconst 0, 1) := by decide +kernel
theorem dX9_note_51 : decode cX9_note 51 = .ok (.istore_n 1, 1) := by decide +kernel
theorem dX9_note_52 : decode cX9_note 52 = .ok (.iload_n 1, 1) := by decide +kernel
theorem dX9_note_53 : decode cX9_note 53 = .ok (.sipush 249, 3) := by decide +kernel
theorem dX9_note_56 : decode cX9_note 56 = .ok (.if_icmp .ge 30, 3) := by decide +kernel
theorem dX9_note_59 : decode cX9_note 59 = .ok (.aload_n 0, 1) := by decide +kernel
theorem dX9_note_60 : decode cX9_note 60 = .ok (.getfield 19, 3) := by decide +kernel
theorem dX9_note_63 : decode cX9_note 63 = .ok (.sipush 249, 3) := by decide +kernel
theorem dX9_note_66 : decode cX9_note 66 = .ok (.aload_n 0, 1) := by decide +kernel
theorem dX9_note_67 : decode cX9_note 67 = .ok (.getfield 86, 3) := by decide +kernel
theorem dX9_note_70 : decode cX9_note 70 = .ok (.imul, 1) := by decide +kernel
theorem dX9_note_71 : decode cX9_note 71 = .ok (.iload_n 1, 1) := by decide +kernel
theorem dX9_note_72 : decode cX9_note 72 = .ok (.iadd, 1) := by decide +kernel
theorem dX9_note_73 : decode cX9_note 73 = .ok (.aload_n 0, 1) := by decide +kernel
theorem dX9_note_74 : decode cX9_note 74 = .ok (.getfield 13, 3) := by decide +kernel
theorem dX9_note_77 : decode cX9_note 77 = .ok (.iload_n 1, 1) := by decide +kernel
theorem dX9_note_78 : decode cX9_note 78 = .ok (.iaload, 1) := by decide +kernel
theorem dX9_note_79 : decode cX9_note 79 = .ok (.iastore, 1) := by decide +kernel
theorem dX9_note_80 : decode cX9_note 80 = .ok (.iinc 1 1, 3) := by decide +kernel
theorem dX9_note_83 : decode cX9_note 83 = .ok (.goto (-31), 3) := by decide +kernel
theorem dX9_note_86 : decode cX9_note 86 = .ok (.aload_n 0, 1) := by decide +kernel
theorem dX9_note_87 : decode cX9_note 87 = .ok (.dup, 1) := by decide +kernel
theorem dX9_note_88 : decode cX9_note 88 = .ok (.getfield 86, 3) := by decide +kernel
theorem dX9_note_91 : decode cX9_note 91 = .ok (.iconst 1, 1) := by decide +kernel
theorem dX9_note_92 : decode cX9_note 92 = .ok (.iadd, 1) := by decide +kernel
theorem dX9_note_93 : decode cX9_note 93 = .ok (.putfield 86, 3) := by decide +kernel
theorem dX9_note_96 : decode cX9_note 96 = .ok (.return_, 1) := by decide +kernel
theorem dX9_undo_0 : decode cX9_undo 0 = .ok (.aload_n 0, 1) := by decide +kernel
theorem dX9_undo_1 : decode cX9_undo 1 = .ok (.getfield 86, 3) := by decide +kernel
theorem dX9_undo_4 : decode cX9_undo 4 = .ok (.ifCond .ne 6, 3) := by decide +kernel
theorem dX9_undo_7 : decode cX9_undo 7 = .ok (.bipush (-2), 2) := by decide +kernel
theorem dX9_undo_9 : decode cX9_undo 9 = .ok (.ireturn, 1) := by decide +kernel
theorem dX9_undo_10 : decode cX9_undo 10 = .ok (.aload_n 0, 1) := by decide +kernel
theorem dX9_undo_11 : decode cX9_undo 11 = .ok (.dup, 1) := by decide +kernel
theorem dX9_undo_12 : decode cX9_undo 12 = .ok (.getfield 86, 3) := by decide +kernel
theorem dX9_undo_15 : decode cX9_undo 15 = .ok (.iconst 1, 1) := by decide +kernel
theorem dX9_undo_16 : decode cX9_undo 16 = .ok (.isub, 1) := by decide +kernel
theorem dX9_undo_17 : decode cX9_undo 17 = .ok (.putfield 86, 3) := by decide +kernel
theorem dX9_undo_20 : decode cX9_undo 20 = .ok (.iconst 0, 1) := by decide +kernel
theorem dX9_undo_21 : decode cX9_undo 21 = .ok (.istore_n 1, 1) := by decide +kernel
theorem dX9_undo_22 : decode cX9_undo 22 = .ok (.iload_n 1, 1) := by decide +kernel
theorem dX9_undo_23 : decode cX9_undo 23 = .ok (.sipush 249, 3) := by decide +kernel
theorem dX9_undo_26 : decode cX9_undo 26 = .ok (.if_icmp .ge 30, 3) := by decide +kernel
theorem dX9_undo_29 : decode cX9_undo 29 = .ok (.aload_n 0, 1) := by decide +kernel
theorem dX9_undo_30 : decode cX9_undo 30 = .ok (.getfield 13, 3) := by decide +kernel
theorem dX9_undo_33 : decode cX9_undo 33 = .ok (.iload_n 1, 1) := by decide +kernel
theorem dX9_undo_34 : decode cX9_undo 34 = .ok (.aload_n 0, 1) := by decide +kernel
theorem dX9_undo_35 : decode cX9_undo 35 = .ok (.getfield 19, 3) := by decide +kernel
theorem dX9_undo_38 : decode cX9_undo 38 = .ok (.sipush 249, 3) := by decide +kernel
theorem dX9_undo_41 : decode cX9_undo 41 = .ok (.aload_n 0, 1) := by decide +kernel
theorem dX9_undo_42 : decode cX9_undo 42 = .ok (.getfield 86, 3) := by decide +kernel
theorem dX9_undo_45 : decode cX9_undo 45 = .ok (.imul, 1) := by decide +kernel
theorem dX9_undo_46 : decode cX9_undo 46 = .ok (.iload_n 1, 1) := by decide +kernel
theorem dX9_undo_47 : decode cX9_undo 47 = .ok (.iadd, 1) := by decide +kernel
theorem dX9_undo_48 : decode cX9_undo 48 = .ok (.iaload, 1) := by decide +kernel
theorem dX9_undo_49 : decode cX9_undo 49 = .ok (.iastore, 1) := by decide +kernel
theorem dX9_undo_50 : decode cX9_undo 50 = .ok (.iinc 1 1, 3) := by decide +kernel
theorem dX9_undo_53 : decode cX9_undo 53 = .ok (.goto (-31), 3) := by decide +kernel
theorem dX9_undo_56 : decode cX9_undo 56 = .ok (.aload_n 0, 1) := by decide +kernel
theorem dX9_undo_57 : decode cX9_undo 57 = .ok (.getfield 86, 3) := by decide +kernel
theorem dX9_undo_60 : decode cX9_undo 60 = .ok (.ireturn, 1) := by decide +kernel
theorem dX9_isCell_0 : decode cX9_isCell 0 = .ok (.iload_n 1, 1) := by decide +kernel
theorem dX9_isCell_1 : decode cX9_isCell 1 = .ok (.i2l, 1) := by decide +kernel
theorem dX9_isCell_2 : decode cX9_isCell 2 = .ok (.lconst 0, 1) := by decide +kernel
theorem dX9_isCell_3 : decode cX9_isCell 3 = .ok (.aload_n 0, 1) := by decide +kernel
theorem dX9_isCell_4 : decode cX9_isCell 4 = .ok (.getfield 13, 3) := by decide +kernel
theorem dX9_isCell_7 : decode cX9_isCell 7 = .ok (.iconst 0, 1) := by decide +kernel
theorem dX9_isCell_8 : decode cX9_isCell 8 = .ok (.iaload, 1) := by decide +kernel
theorem dX9_isCell_9 : decode cX9_isCell 9 = .ok (.iconst 1, 1) := by decide +kernel
theorem dX9_isCell_10 : decode cX9_isCell 10 = .ok (.isub, 1) := by decide +kernel
theorem dX9_isCell_11 : decode cX9_isCell 11 = .ok (.i2l, 1) := by decide +kernel
theorem dX9_isCell_12 : decode cX9_isCell 12 = .ok (.invokestatic 56, 3) := by decide +kernel
theorem dX9_isCell_15 : decode cX9_isCell 15 = .ok (.ifCond .eq 25, 3) := by decide +kernel
theorem dX9_isCell_18 : decode cX9_isCell 18 = .ok (.iload_n 2, 1) := by decide +kernel
theorem dX9_isCell_19 : decode cX9_isCell 19 = .ok (.i2l, 1) := by decide +kernel
theorem dX9_isCell_20 : decode cX9_isCell 20 = .ok (.lconst 0, 1) := by decide +kernel
theorem dX9_isCell_21 : decode cX9_isCell 21 = .ok (.aload_n 0, 1) := by decide +kernel
theorem dX9_isCell_22 : decode cX9_isCell 22 = .ok (.getfield 13, 3) := by decide +kernel
theorem dX9_isCell_25 : decode cX9_isCell 25 = .ok (.iconst 1, 1) := by decide +kernel
theorem dX9_isCell_26 : decode cX9_isCell 26 = .ok (.iaload, 1) := by decide +kernel
theorem dX9_isCell_27 : decode cX9_isCell 27 = .ok (.iconst 1, 1) := by decide +kernel
theorem dX9_isCell_28 : decode cX9_isCell 28 = .ok (.isub, 1) := by decide +kernel
theorem dX9_isCell_29 : decode cX9_isCell 29 = .ok (.i2l, 1) := by decide +kernel
theorem dX9_isCell_30 : decode cX9_isCell 30 = .ok (.invokestatic 56, 3) := by decide +kernel
theorem dX9_isCell_33 : decode cX9_isCell 33 = .ok (.ifCond .eq 7, 3) := by decide +kernel
theorem dX9_isCell_36 : decode cX9_isCell 36 = .ok (.iconst 1, 1) := by decide +kernel
theorem dX9_isCell_37 : decode cX9_isCell 37 = .ok (.goto 4, 3) := by decide +kernel
theorem dX9_isCell_40 : decode cX9_isCell 40 = .ok (.iconst 0, 1) := by decide +kernel
theorem dX9_isCell_41 : decode cX9_isCell 41 = .ok (.ireturn, 1) := by decide +kernel
theorem dX9_becomes_0 : decode cX9_becomes 0 = .ok (.aload_n 0, 1) := by decide +kernel
theorem dX9_becomes_1 : decode cX9_becomes 1 = .ok (.getfield 13, 3) := by decide +kernel
theorem dX9_becomes_4 : decode cX9_becomes 4 = .ok (.iload_n 1, 1) := by decide +kernel
theorem dX9_becomes_5 : decode cX9_becomes 5 = .ok (.iaload, 1) := by decide +kernel
theorem dX9_becomes_6 : decode cX9_becomes 6 = .ok (.istore_n 3, 1) := by decide +kernel
theorem dX9_becomes_7 : decode cX9_becomes 7 = .ok (.iload_n 3, 1) := by decide +kernel
theorem dX9_becomes_8 : decode cX9_becomes 8 = .ok (.iload_n 2, 1) := by decide +kernel
theorem dX9_becomes_9 : decode cX9_becomes 9 = .ok (.if_icmp .ne 6, 3) := by decide +kernel
theorem dX9_becomes_12 : decode cX9_becomes 12 = .ok (.bipush (-2), 2) := by decide +kernel
theorem dX9_becomes_14 : decode cX9_becomes 14 = .ok (.ireturn, 1) := by decide +kernel
theorem dX9_becomes_15 : decode cX9_becomes 15 = .ok (.aload_n 0, 1) := by decide +kernel
theorem dX9_becomes_16 : decode cX9_becomes 16 = .ok (.invokevirtual 89, 3) := by decide +kernel
theorem dX9_becomes_19 : decode cX9_becomes 19 = .ok (.aload_n 0, 1) := by decide +kernel
theorem dX9_becomes_20 : decode cX9_becomes 20 = .ok (.getfield 13, 3) := by decide +kernel
theorem dX9_becomes_23 : decode cX9_becomes 23 = .ok (.iload_n 1, 1) := by decide +kernel
theorem dX9_becomes_24 : decode cX9_becomes 24 = .ok (.iload_n 2, 1) := by decide +kernel
theorem dX9_becomes_25 : decode cX9_becomes 25 = .ok (.iastore, 1) := by decide +kernel
theorem dX9_becomes_26 : decode cX9_becomes 26 = .ok (.iload_n 3, 1) := by decide +kernel
theorem dX9_becomes_27 : decode cX9_becomes 27 = .ok (.ireturn, 1) := by decide +kernel
theorem dX9_light_0 : decode cX9_light 0 = .ok (.iload_n 1, 1) := by decide +kernel
theorem dX9_light_1 : decode cX9_light 1 = .ok (.i2l, 1) := by decide +kernel
theorem dX9_light_2 : decode cX9_light 2 = .ok (.lconst 0, 1) := by decide +kernel
theorem dX9_light_3 : decode cX9_light 3 = .ok (.ldc2_w 92, 3) := by decide +kernel
theorem dX9_light_6 : decode cX9_light 6 = .ok (.invokestatic 56, 3) := by decide +kernel
theorem dX9_light_9 : decode cX9_light 9 = .ok (.ifCond .eq 26, 3) := by decide +kernel
theorem dX9_light_12 : decode cX9_light 12 = .ok (.iload_n 2, 1) := by decide +kernel
theorem dX9_light_13 : decode cX9_light 13 = .ok (.i2l, 1) := by decide +kernel
theorem dX9_light_14 : decode cX9_light 14 = .ok (.lconst 0, 1) := by decide +kernel
theorem dX9_light_15 : decode cX9_light 15 = .ok (.ldc2_w 94, 3) := by decide +kernel
theorem dX9_light_18 : decode cX9_light 18 = .ok (.invokestatic 56, 3) := by decide +kernel
theorem dX9_light_21 : decode cX9_light 21 = .ok (.ifCond .eq 14, 3) := by decide +kernel
theorem dX9_light_24 : decode cX9_light 24 = .ok (.aload_n 0, 1) := by decide +kernel
theorem dX9_light_25 : decode cX9_light 25 = .ok (.iconst 2, 1) := by decide +kernel
theorem dX9_light_26 : decode cX9_light 26 = .ok (.iload_n 1, 1) := by decide +kernel
theorem dX9_light_27 : decode cX9_light 27 = .ok (.iadd, 1) := by decide +kernel
theorem dX9_light_28 : decode cX9_light 28 = .ok (.iload_n 2, 1) := by decide +kernel
theorem dX9_light_29 : decode cX9_light 29 = .ok (.invokevirtual 96, 3) := by decide +kernel
theorem dX9_light_32 : decode cX9_light 32 = .ok (.goto 4, 3) := by decide +kernel
theorem dX9_light_35 : decode cX9_light 35 = .ok (.iconst (-1), 1) := by decide +kernel
theorem dX9_light_36 : decode cX9_light 36 = .ok (.ireturn, 1) := by decide +kernel
theorem dX9_shades_0 : decode cX9_shades 0 = .ok (.iload_n 1, 1) := by decide +kernel
theorem dX9_shades_1 : decode cX9_shades 1 = .ok (.i2l, 1) := by decide +kernel
theorem dX9_shades_2 : decode cX9_shades 2 = .ok (.ldc2_w 100, 3) := by decide +kernel
theorem dX9_shades_5 : decode cX9_shades 5 = .ok (.ldc2_w 102, 3) := by decide +kernel
theorem dX9_shades_8 : decode cX9_shades 8 = .ok (.invokestatic 56, 3) := by decide +kernel
theorem dX9_shades_11 : decode cX9_shades 11 = .ok (.ifCond .eq 13, 3) := by decide +kernel
theorem dX9_shades_14 : decode cX9_shades 14 = .ok (.aload_n 0, 1) := by decide +kernel
theorem dX9_shades_15 : decode cX9_shades 15 = .ok (.bipush 6, 2) := by decide +kernel
theorem dX9_shades_17 : decode cX9_shades 17 = .ok (.iload_n 1, 1) := by decide +kernel
theorem dX9_shades_18 : decode cX9_shades 18 = .ok (.invokevirtual 96, 3) := by decide +kernel
theorem dX9_shades_21 : decode cX9_shades 21 = .ok (.goto 4, 3) := by decide +kernel
theorem dX9_shades_24 : decode cX9_shades 24 = .ok (.iconst (-1), 1) := by decide +kernel
theorem dX9_shades_25 : decode cX9_shades 25 = .ok (.ireturn, 1) := by decide +kernel
theorem dX9_rubs_0 : decode cX9_rubs 0 = .ok (.bipush 89, 2) := by decide +kernel
theorem dX9_rubs_2 : decode cX9_rubs 2 = .ok (.bipush 8, 2) := by decide +kernel
theorem dX9_rubs_4 : decode cX9_rubs 4 = .ok (.iload_n 1, 1) := by decide +kernel
theorem dX9_rubs_5 : decode cX9_rubs 5 = .ok (.imul, 1) := by decide +kernel
theorem dX9_rubs_6 : decode cX9_rubs 6 = .ok (.iadd, 1) := by decide +kernel
theorem dX9_rubs_7 : decode cX9_rubs 7 = .ok (.istore_n 2, 1) := by decide +kernel
theorem dX9_rubs_8 : decode cX9_rubs 8 = .ok (.iload_n 2, 1) := by decide +kernel
theorem dX9_rubs_9 : decode cX9_rubs 9 = .ok (.bipush 89, 2) := by decide +kernel
theorem dX9_rubs_11 : decode cX9_rubs 11 = .ok (.bipush 8, 2) := by decide +kernel
theorem dX9_rubs_13 : decode cX9_rubs 13 = .ok (.aload_n 0, 1) := by decide +kernel
theorem dX9_rubs_14 : decode cX9_rubs 14 = .ok (.getfield 13, 3) := by decide +kernel
theorem dX9_rubs_17 : decode cX9_rubs 17 = .ok (.bipush 88, 2) := by decide +kernel
theorem dX9_rubs_19 : decode cX9_rubs 19 = .ok (.iaload, 1) := by decide +kernel
theorem dX9_rubs_20 : decode cX9_rubs 20 = .ok (.iconst 1, 1) := by decide +kernel
theorem dX9_rubs_21 : decode cX9_rubs 21 = .ok (.isub, 1) := by decide +kernel
theorem dX9_rubs_22 : decode cX9_rubs 22 = .ok (.imul, 1) := by decide +kernel
theorem dX9_rubs_23 : decode cX9_rubs 23 = .ok (.iadd, 1) := by decide +kernel
theorem dX9_rubs_24 : decode cX9_rubs 24 = .ok (.if_icmp .ge 24, 3) := by decide +kernel
theorem dX9_rubs_27 : decode cX9_rubs 27 = .ok (.aload_n 0, 1) := by decide +kernel
theorem dX9_rubs_28 : decode cX9_rubs 28 = .ok (.getfield 13, 3) := by decide +kernel
theorem dX9_rubs_31 : decode cX9_rubs 31 = .ok (.iload_n 2, 1) := by decide +kernel
theorem dX9_rubs_32 : decode cX9_rubs 32 = .ok (.aload_n 0, 1) := by decide +kernel
theorem dX9_rubs_33 : decode cX9_rubs 33 = .ok (.getfield 13, 3) := by decide +kernel
theorem dX9_rubs_36 : decode cX9_rubs 36 = .ok (.iload_n 2, 1) := by decide +kernel
theorem dX9_rubs_37 : decode cX9_rubs 37 = .ok (.bipush 8, 2) := by decide +kernel
theorem dX9_rubs_39 : decode cX9_rubs 39 = .ok (.iadd, 1) := by decide +kernel
theorem dX9_rubs_40 : decode cX9_rubs 40 = .ok (.iaload, 1) := by decide +kernel
theorem dX9_rubs_41 : decode cX9_rubs 41 = .ok (.iastore, 1) := by decide +kernel
theorem dX9_rubs_42 : decode cX9_rubs 42 = .ok (.iinc 2 1, 3) := by decide +kernel
theorem dX9_rubs_45 : decode cX9_rubs 45 = .ok (.goto (-37), 3) := by decide +kernel
theorem dX9_rubs_48 : decode cX9_rubs 48 = .ok (.aload_n 0, 1) := by decide +kernel
theorem dX9_rubs_49 : decode cX9_rubs 49 = .ok (.getfield 13, 3) := by decide +kernel
theorem dX9_rubs_52 : decode cX9_rubs 52 = .ok (.bipush 88, 2) := by decide +kernel
theorem dX9_rubs_54 : decode cX9_rubs 54 = .ok (.dup2, 1) := by decide +kernel
theorem dX9_rubs_55 : decode cX9_rubs 55 = .ok (.iaload, 1) := by decide +kernel
theorem dX9_rubs_56 : decode cX9_rubs 56 = .ok (.iconst 1, 1) := by decide +kernel
theorem dX9_rubs_57 : decode cX9_rubs 57 = .ok (.isub, 1) := by decide +kernel
theorem dX9_rubs_58 : decode cX9_rubs 58 = .ok (.iastore, 1) := by decide +kernel
theorem dX9_rubs_59 : decode cX9_rubs 59 = .ok (.return_, 1) := by decide +kernel
theorem dX9_raise_0 : decode cX9_raise 0 = .ok (.aload_n 0, 1) := by decide +kernel
theorem dX9_raise_1 : decode cX9_raise 1 = .ok (.iload_n 1, 1) := by decide +kernel
theorem dX9_raise_2 : decode cX9_raise 2 = .ok (.iload_n 2, 1) := by decide +kernel
theorem dX9_raise_3 : decode cX9_raise 3 = .ok (.invokevirtual 104, 3) := by decide +kernel
theorem dX9_raise_6 : decode cX9_raise 6 = .ok (.ifCond .eq 15, 3) := by decide +kernel
theorem dX9_raise_9 : decode cX9_raise 9 = .ok (.iload_n 3, 1) := by decide +kernel
theorem dX9_raise_10 : decode cX9_raise 10 = .ok (.i2l, 1) := by decide +kernel
theorem dX9_raise_11 : decode cX9_raise 11 = .ok (.lconst 0, 1) := by decide +kernel
theorem dX9_raise_12 : decode cX9_raise 12 = .ok (.ldc2_w 108, 3) := by decide +kernel
theorem dX9_raise_15 : decode cX9_raise 15 = .ok (.invokestatic 56, 3) := by decide +kernel
theorem dX9_raise_18 : decode cX9_raise 18 = .ok (.ifCond .ne 5, 3) := by decide +kernel
theorem dX9_raise_21 : decode cX9_raise 21 = .ok (.iconst (-1), 1) := by decide +kernel
theorem dX9_raise_22 : decode cX9_raise 22 = .ok (.ireturn, 1) := by decide +kernel
theorem dX9_raise_23 : decode cX9_raise 23 = .ok (.aload_n 0, 1) := by decide +kernel
theorem dX9_raise_24 : decode cX9_raise 24 = .ok (.bipush 7, 2) := by decide +kernel
theorem dX9_raise_26 : decode cX9_raise 26 = .ok (.bipush 9, 2) := by decide +kernel
theorem dX9_raise_28 : decode cX9_raise 28 = .ok (.iload_n 2, 1) := by decide +kernel
theorem dX9_raise_29 : decode cX9_raise 29 = .ok (.imul, 1) := by decide +kernel
theorem dX9_raise_30 : decode cX9_raise 30 = .ok (.iadd, 1) := by decide +kernel
theorem dX9_raise_31 : decode cX9_raise 31 = .ok (.iload_n 1, 1) := by decide +kernel
theorem dX9_raise_32 : decode cX9_raise 32 = .ok (.iadd, 1) := by decide +kernel
theorem dX9_raise_33 : decode cX9_raise 33 = .ok (.iload_n 3, 1) := by decide +kernel
theorem dX9_raise_34 : decode cX9_raise 34 = .ok (.invokevirtual 96, 3) := by decide +kernel
theorem dX9_raise_37 : decode cX9_raise 37 = .ok (.istore 4, 2) := by decide +kernel
theorem dX9_raise_39 : decode cX9_raise 39 = .ok (.iconst 0, 1) := by decide +kernel
theorem dX9_raise_40 : decode cX9_raise 40 = .ok (.istore 5, 2) := by decide +kernel
theorem dX9_raise_42 : decode cX9_raise 42 = .ok (.iload 5, 2) := by decide +kernel
theorem dX9_raise_44 : decode cX9_raise 44 = .ok (.aload_n 0, 1) := by decide +kernel
theorem dX9_raise_45 : decode cX9_raise 45 = .ok (.getfield 13, 3) := by decide +kernel
theorem dX9_raise_48 : decode cX9_raise 48 = .ok (.bipush 88, 2) := by decide +kernel
theorem dX9_raise_50 : decode cX9_raise 50 = .ok (.iaload, 1) := by decide +kernel
theorem dX9_raise_51 : decode cX9_raise 51 = .ok (.if_icmp .ge 121, 3) := by decide +kernel
theorem dX9_raise_54 : decode cX9_raise 54 = .ok (.iload 4, 2) := by decide +kernel
theorem dX9_raise_56 : decode cX9_raise 56 = .ok (.bipush (-2), 2) := by decide +kernel
theorem dX9_raise_58 : decode cX9_raise 58 = .ok (.if_icmp .eq 114, 3) := by decide +kernel
theorem dX9_raise_61 : decode cX9_raise 61 = .ok (.iconst 0, 1) := by decide +kernel
theorem dX9_raise_62 : decode cX9_raise 62 = .ok (.istore 6, 2) := by decide +kernel
theorem dX9_raise_64 : decode cX9_raise 64 = .ok (.iconst 0, 1) := by decide +kernel
theorem dX9_raise_65 : decode cX9_raise 65 = .ok (.istore 7, 2) := by decide +kernel
theorem dX9_raise_67 : decode cX9_raise 67 = .ok (.iload 7, 2) := by decide +kernel
theorem dX9_raise_69 : decode cX9_raise 69 = .ok (.aload_n 0, 1) := by decide +kernel
theorem dX9_raise_70 : decode cX9_raise 70 = .ok (.getfield 13, 3) := by decide +kernel
theorem dX9_raise_73 : decode cX9_raise 73 = .ok (.bipush 89, 2) := by decide +kernel
theorem dX9_raise_75 : decode cX9_raise 75 = .ok (.bipush 8, 2) := by decide +kernel
theorem dX9_raise_77 : decode cX9_raise 77 = .ok (.iload 5, 2) := by decide +kernel
theorem dX9_raise_79 : decode cX9_raise 79 = .ok (.imul, 1) := by decide +kernel
theorem dX9_raise_80 : decode cX9_raise 80 = .ok (.iadd, 1) := by decide +kernel
theorem dX9_raise_81 : decode cX9_raise 81 = .ok (.bipush 6, 2) := by decide +kernel
theorem dX9_raise_83 : decode cX9_raise 83 = .ok (.iadd, 1) := by decide +kernel
theorem dX9_raise_84 : decode cX9_raise 84 = .ok (.iaload, 1) := by decide +kernel
theorem dX9_raise_85 : decode cX9_raise 85 = .ok (.if_icmp .ge 67, 3) := by decide +kernel
theorem dX9_raise_88 : decode cX9_raise 88 = .ok (.aload_n 0, 1) := by decide +kernel
theorem dX9_raise_89 : decode cX9_raise 89 = .ok (.getfield 13, 3) := by decide +kernel
theorem dX9_raise_92 : decode cX9_raise 92 = .ok (.bipush 89, 2) := by decide +kernel
theorem dX9_raise_94 : decode cX9_raise 94 = .ok (.bipush 8, 2) := by decide +kernel
theorem dX9_raise_96 : decode cX9_raise 96 = .ok (.iload 5, 2) := by decide +kernel
theorem dX9_raise_98 : decode cX9_raise 98 = .ok (.imul, 1) := by decide +kernel
theorem dX9_raise_99 : decode cX9_raise 99 = .ok (.iadd, 1) := by decide +kernel
theorem dX9_raise_100 : decode cX9_raise 100 = .ok (.iload 7, 2) := by decide +kernel
theorem dX9_raise_102 : decode cX9_raise 102 = .ok (.iadd, 1) := by decide +kernel
theorem dX9_raise_103 : decode cX9_raise 103 = .ok (.iaload, 1) := by decide +kernel
theorem dX9_raise_104 : decode cX9_raise 104 = .ok (.istore 8, 2) := by decide +kernel
theorem dX9_raise_106 : decode cX9_raise 106 = .ok (.iload 6, 2) := by decide +kernel
theorem dX9_raise_108 : decode cX9_raise 108 = .ok (.ifCond .ne 31, 3) := by decide +kernel
theorem dX9_raise_111 : decode cX9_raise 111 = .ok (.iload 8, 2) := by decide +kernel
theorem dX9_raise_113 : decode cX9_raise 113 = .ok (.bipush 9, 2) := by decide +kernel
theorem dX9_raise_115 : decode cX9_raise 115 = .ok (.irem, 1) := by decide +kernel
theorem dX9_raise_116 : decode cX9_raise 116 = .ok (.iload_n 1, 1) := by decide +kernel
theorem dX9_raise_117 : decode cX9_raise 117 = .ok (.isub, 1) := by decide +kernel
theorem dX9_raise_118 : decode cX9_raise 118 = .ok (.invokestatic 110, 3) := by decide +kernel
theorem dX9_raise_121 : decode cX9_raise 121 = .ok (.iconst 2, 1) := by decide +kernel
theorem dX9_raise_122 : decode cX9_raise 122 = .ok (.if_icmp .ge 21, 3) := by decide +kernel
theorem dX9_raise_125 : decode cX9_raise 125 = .ok (.iload 8, 2) := by decide +kernel
theorem dX9_raise_127 : decode cX9_raise 127 = .ok (.bipush 9, 2) := by decide +kernel
theorem dX9_raise_129 : decode cX9_raise 129 = .ok (.idiv, 1) := by decide +kernel
theorem dX9_raise_130 : decode cX9_raise 130 = .ok (.iload_n 2, 1) := by decide +kernel
theorem dX9_raise_131 : decode cX9_raise 131 = .ok (.isub, 1) := by decide +kernel
theorem dX9_raise_132 : decode cX9_raise 132 = .ok (.invokestatic 110, 3) := by decide +kernel
theorem dX9_raise_135 : decode cX9_raise 135 = .ok (.iconst 2, 1) := by decide +kernel
theorem dX9_raise_136 : decode cX9_raise 136 = .ok (.if_icmp .ge 7, 3) := by decide +kernel
theorem dX9_raise_139 : decode cX9_raise 139 = .ok (.iconst 1, 1) := by decide +kernel
theorem dX9_raise_140 : decode cX9_raise 140 = .ok (.goto 4, 3) := by decide +kernel
theorem dX9_raise_143 : decode cX9_raise 143 = .ok (.iconst 0, 1) := by decide +kernel
theorem dX9_raise_144 : decode cX9_raise 144 = .ok (.istore 6, 2) := by decide +kernel
theorem dX9_raise_146 : decode cX9_raise 146 = .ok (.iinc 7 1, 3) := by decide +kernel
theorem dX9_raise_149 : decode cX9_raise 149 = .ok (.goto (-82), 3) := by decide +kernel
theorem dX9_raise_152 : decode cX9_raise 152 = .ok (.iload 6, 2) := by decide +kernel
theorem dX9_raise_154 : decode cX9_raise 154 = .ok (.ifCond .eq 12, 3) := by decide +kernel
theorem dX9_raise_157 : decode cX9_raise 157 = .ok (.aload_n 0, 1) := by decide +kernel
theorem dX9_raise_158 : decode cX9_raise 158 = .ok (.iload 5, 2) := by decide +kernel
theorem dX9_raise_160 : decode cX9_raise 160 = .ok (.invokevirtual 113, 3) := by decide +kernel
theorem dX9_raise_163 : decode cX9_raise 163 = .ok (.goto 6, 3) := by decide +kernel
theorem dX9_raise_166 : decode cX9_raise 166 = .ok (.iinc 5 1, 3) := by decide +kernel
theorem dX9_raise_169 : decode cX9_raise 169 = .ok (.goto (-127), 3) := by decide +kernel
theorem dX9_raise_172 : decode cX9_raise 172 = .ok (.iload 4, 2) := by decide +kernel
theorem dX9_raise_174 : decode cX9_raise 174 = .ok (.ireturn, 1) := by decide +kernel
theorem dX9_height_0 : decode cX9_height 0 = .ok (.aload_n 0, 1) := by decide +kernel
theorem dX9_height_1 : decode cX9_height 1 = .ok (.getfield 13, 3) := by decide +kernel
theorem dX9_height_4 : decode cX9_height 4 = .ok (.bipush 7, 2) := by decide +kernel
theorem dX9_height_6 : decode cX9_height 6 = .ok (.bipush 9, 2) := by decide +kernel
theorem dX9_height_8 : decode cX9_height 8 = .ok (.iload_n 2, 1) := by decide +kernel
theorem dX9_height_9 : decode cX9_height 9 = .ok (.imul, 1) := by decide +kernel
theorem dX9_height_10 : decode cX9_height 10 = .ok (.iadd, 1) := by decide +kernel
theorem dX9_height_11 : decode cX9_height 11 = .ok (.iload_n 1, 1) := by decide +kernel
theorem dX9_height_12 : decode cX9_height 12 = .ok (.iadd, 1) := by decide +kernel
theorem dX9_height_13 : decode cX9_height 13 = .ok (.iaload, 1) := by decide +kernel
theorem dX9_height_14 : decode cX9_height 14 = .ok (.ireturn, 1) := by decide +kernel
theorem dX9_right_0 : decode cX9_right 0 = .ok (.iload_n 0, 1) := by decide +kernel
theorem dX9_right_1 : decode cX9_right 1 = .ok (.ifCond .eq 8, 3) := by decide +kernel
theorem dX9_right_4 : decode cX9_right 4 = .ok (.iload_n 0, 1) := by decide +kernel
theorem dX9_right_5 : decode cX9_right 5 = .ok (.iconst 4, 1) := by decide +kernel
theorem dX9_right_6 : decode cX9_right 6 = .ok (.if_icmp .ne 7, 3) := by decide +kernel
theorem dX9_right_9 : decode cX9_right 9 = .ok (.iconst 0, 1) := by decide +kernel
theorem dX9_right_10 : decode cX9_right 10 = .ok (.goto 13, 3) := by decide +kernel
theorem dX9_right_13 : decode cX9_right 13 = .ok (.iload_n 0, 1) := by decide +kernel
theorem dX9_right_14 : decode cX9_right 14 = .ok (.iconst 4, 1) := by decide +kernel
theorem dX9_right_15 : decode cX9_right 15 = .ok (.if_icmp .ge 7, 3) := by decide +kernel
theorem dX9_right_18 : decode cX9_right 18 = .ok (.iconst 1, 1) := by decide +kernel
theorem dX9_right_19 : decode cX9_right 19 = .ok (.goto 4, 3) := by decide +kernel
theorem dX9_right_22 : decode cX9_right 22 = .ok (.iconst (-1), 1) := by decide +kernel
theorem dX9_right_23 : decode cX9_right 23 = .ok (.ireturn, 1) := by decide +kernel
theorem dX9_below_0 : decode cX9_below 0 = .ok (.iload_n 0, 1) := by decide +kernel
theorem dX9_below_1 : decode cX9_below 1 = .ok (.iconst 2, 1) := by decide +kernel
theorem dX9_below_2 : decode cX9_below 2 = .ok (.if_icmp .eq 9, 3) := by decide +kernel
theorem dX9_below_5 : decode cX9_below 5 = .ok (.iload_n 0, 1) := by decide +kernel
theorem dX9_below_6 : decode cX9_below 6 = .ok (.bipush 6, 2) := by decide +kernel
theorem dX9_below_8 : decode cX9_below 8 = .ok (.if_icmp .ne 7, 3) := by decide +kernel
theorem dX9_below_11 : decode cX9_below 11 = .ok (.iconst 0, 1) := by decide +kernel
theorem dX9_below_12 : decode cX9_below 12 = .ok (.goto 19, 3) := by decide +kernel
theorem dX9_below_15 : decode cX9_below 15 = .ok (.iload_n 0, 1) := by decide +kernel
theorem dX9_below_16 : decode cX9_below 16 = .ok (.iconst 2, 1) := by decide +kernel
theorem dX9_below_17 : decode cX9_below 17 = .ok (.if_icmp .le 13, 3) := by decide +kernel
theorem dX9_below_20 : decode cX9_below 20 = .ok (.iload_n 0, 1) := by decide +kernel
theorem dX9_below_21 : decode cX9_below 21 = .ok (.bipush 6, 2) := by decide +kernel
theorem dX9_below_23 : decode cX9_below 23 = .ok (.if_icmp .ge 7, 3) := by decide +kernel
theorem dX9_below_26 : decode cX9_below 26 = .ok (.iconst 1, 1) := by decide +kernel
theorem dX9_below_27 : decode cX9_below 27 = .ok (.goto 4, 3) := by decide +kernel
theorem dX9_below_30 : decode cX9_below 30 = .ok (.iconst (-1), 1) := by decide +kernel
theorem dX9_below_31 : decode cX9_below 31 = .ok (.ireturn, 1) := by decide +kernel
theorem dX9_beside_0 : decode cX9_beside 0 = .ok (.aload_n 0, 1) := by decide +kernel
theorem dX9_beside_1 : decode cX9_beside 1 = .ok (.iload_n 1, 1) := by decide +kernel
theorem dX9_beside_2 : decode cX9_beside 2 = .ok (.iload_n 3, 1) := by decide +kernel
theorem dX9_beside_3 : decode cX9_beside 3 = .ok (.invokestatic 117, 3) := by decide +kernel
theorem dX9_beside_6 : decode cX9_beside 6 = .ok (.iadd, 1) := by decide +kernel
theorem dX9_beside_7 : decode cX9_beside 7 = .ok (.iload_n 2, 1) := by decide +kernel
theorem dX9_beside_8 : decode cX9_beside 8 = .ok (.iload_n 3, 1) := by decide +kernel
theorem dX9_beside_9 : decode cX9_beside 9 = .ok (.invokestatic 120, 3) := by decide +kernel
theorem dX9_beside_12 : decode cX9_beside 12 = .ok (.iadd, 1) := by decide +kernel
theorem dX9_beside_13 : decode cX9_beside 13 = .ok (.invokevirtual 104, 3) := by decide +kernel
theorem dX9_beside_16 : decode cX9_beside 16 = .ok (.ifCond .eq 22, 3) := by decide +kernel
theorem dX9_beside_19 : decode cX9_beside 19 = .ok (.aload_n 0, 1) := by decide +kernel
theorem dX9_beside_20 : decode cX9_beside 20 = .ok (.iload_n 1, 1) := by decide +kernel
theorem dX9_beside_21 : decode cX9_beside 21 = .ok (.iload_n 3, 1) := by decide +kernel
theorem dX9_beside_22 : decode cX9_beside 22 = .ok (.invokestatic 117, 3) := by decide +kernel
theorem dX9_beside_25 : decode cX9_beside 25 = .ok (.iadd, 1) := by decide +kernel
theorem dX9_beside_26 : decode cX9_beside 26 = .ok (.iload_n 2, 1) := by decide +kernel
theorem dX9_beside_27 : decode cX9_beside 27 = .ok (.iload_n 3, 1) := by decide +kernel
theorem dX9_beside_28 : decode cX9_beside 28 = .ok (.invokestatic 120, 3) := by decide +kernel
theorem dX9_beside_31 : decode cX9_beside 31 = .ok (.iadd, 1) := by decide +kernel
theorem dX9_beside_32 : decode cX9_beside 32 = .ok (.invokevirtual 123, 3) := by decide +kernel
theorem dX9_beside_35 : decode cX9_beside 35 = .ok (.goto 9, 3) := by decide +kernel
theorem dX9_beside_38 : decode cX9_beside 38 = .ok (.aload_n 0, 1) := by decide +kernel
theorem dX9_beside_39 : decode cX9_beside 39 = .ok (.iload_n 1, 1) := by decide +kernel
theorem dX9_beside_40 : decode cX9_beside 40 = .ok (.iload_n 2, 1) := by decide +kernel
theorem dX9_beside_41 : decode cX9_beside 41 = .ok (.invokevirtual 123, 3) := by decide +kernel
theorem dX9_beside_44 : decode cX9_beside 44 = .ok (.ireturn, 1) := by decide +kernel
theorem dX9_east_0 : decode cX9_east 0 = .ok (.aload_n 0, 1) := by decide +kernel
theorem dX9_east_1 : decode cX9_east 1 = .ok (.iload_n 1, 1) := by decide +kernel
theorem dX9_east_2 : decode cX9_east 2 = .ok (.iload_n 2, 1) := by decide +kernel
theorem dX9_east_3 : decode cX9_east 3 = .ok (.iconst 2, 1) := by decide +kernel
theorem dX9_east_4 : decode cX9_east 4 = .ok (.invokevirtual 126, 3) := by decide +kernel
theorem dX9_east_7 : decode cX9_east 7 = .ok (.aload_n 0, 1) := by decide +kernel
theorem dX9_east_8 : decode cX9_east 8 = .ok (.iload_n 1, 1) := by decide +kernel
theorem dX9_east_9 : decode cX9_east 9 = .ok (.iload_n 2, 1) := by decide +kernel
theorem dX9_east_10 : decode cX9_east 10 = .ok (.bipush 6, 2) := by decide +kernel
theorem dX9_east_12 : decode cX9_east 12 = .ok (.invokevirtual 126, 3) := by decide +kernel
theorem dX9_east_15 : decode cX9_east 15 = .ok (.isub, 1) := by decide +kernel
theorem dX9_east_16 : decode cX9_east 16 = .ok (.ireturn, 1) := by decide +kernel
theorem dX9_south_0 : decode cX9_south 0 = .ok (.aload_n 0, 1) := by decide +kernel
theorem dX9_south_1 : decode cX9_south 1 = .ok (.iload_n 1, 1) := by decide +kernel
theorem dX9_south_2 : decode cX9_south 2 = .ok (.iload_n 2, 1) := by decide +kernel
theorem dX9_south_3 : decode cX9_south 3 = .ok (.iconst 4, 1) := by decide +kernel
theorem dX9_south_4 : decode cX9_south 4 = .ok (.invokevirtual 126, 3) := by decide +kernel
theorem dX9_south_7 : decode cX9_south 7 = .ok (.aload_n 0, 1) := by decide +kernel
theorem dX9_south_8 : decode cX9_south 8 = .ok (.iload_n 1, 1) := by decide +kernel
theorem dX9_south_9 : decode cX9_south 9 = .ok (.iload_n 2, 1) := by decide +kernel
theorem dX9_south_10 : decode cX9_south 10 = .ok (.iconst 0, 1) := by decide +kernel
theorem dX9_south_11 : decode cX9_south 11 = .ok (.invokevirtual 126, 3) := by decide +kernel
theorem dX9_south_14 : decode cX9_south 14 = .ok (.isub, 1) := by decide +kernel
theorem dX9_south_15 : decode cX9_south 15 = .ok (.ireturn, 1) := by decide +kernel
theorem dX9_steep_0 : decode cX9_steep 0 = .ok (.aload_n 0, 1) := by decide +kernel
theorem dX9_steep_1 : decode cX9_steep 1 = .ok (.iload_n 1, 1) := by decide +kernel
theorem dX9_steep_2 : decode cX9_steep 2 = .ok (.iload_n 2, 1) := by decide +kernel
theorem dX9_steep_3 : decode cX9_steep 3 = .ok (.invokevirtual 130, 3) := by decide +kernel
theorem dX9_steep_6 : decode cX9_steep 6 = .ok (.invokestatic 110, 3) := by decide +kernel
theorem dX9_steep_9 : decode cX9_steep 9 = .ok (.aload_n 0, 1) := by decide +kernel
theorem dX9_steep_10 : decode cX9_steep 10 = .ok (.iload_n 1, 1) := by decide +kernel
theorem dX9_steep_11 : decode cX9_steep 11 = .ok (.iload_n 2, 1) := by decide +kernel
theorem dX9_steep_12 : decode cX9_steep 12 = .ok (.invokevirtual 133, 3) := by decide +kernel
theorem dX9_steep_15 : decode cX9_steep 15 = .ok (.invokestatic 110, 3) := by decide +kernel
theorem dX9_steep_18 : decode cX9_steep 18 = .ok (.iadd, 1) := by decide +kernel
theorem dX9_steep_19 : decode cX9_steep 19 = .ok (.ireturn, 1) := by decide +kernel
theorem dX9_down_0 : decode cX9_down 0 = .ok (.bipush (-4), 2) := by decide +kernel
theorem dX9_down_2 : decode cX9_down 2 = .ok (.istore_n 3, 1) := by decide +kernel
theorem dX9_down_3 : decode cX9_down 3 = .ok (.iconst 0, 1) := by decide +kernel
theorem dX9_down_4 : decode cX9_down 4 = .ok (.istore 4, 2) := by decide +kernel
theorem dX9_down_6 : decode cX9_down 6 = .ok (.iconst 0, 1) := by decide +kernel
theorem dX9_down_7 : decode cX9_down 7 = .ok (.istore 5, 2) := by decide +kernel
theorem dX9_down_9 : decode cX9_down 9 = .ok (.iload 5, 2) := by decide +kernel
theorem dX9_down_11 : decode cX9_down 11 = .ok (.bipush 8, 2) := by decide +kernel
theorem dX9_down_13 : decode cX9_down 13 = .ok (.if_icmp .ge 69, 3) := by decide +kernel
theorem dX9_down_16 : decode cX9_down 16 = .ok (.aload_n 0, 1) := by decide +kernel
theorem dX9_down_17 : decode cX9_down 17 = .ok (.iload_n 1, 1) := by decide +kernel
theorem dX9_down_18 : decode cX9_down 18 = .ok (.iload_n 2, 1) := by decide +kernel
theorem dX9_down_19 : decode cX9_down 19 = .ok (.invokevirtual 123, 3) := by decide +kernel
theorem dX9_down_22 : decode cX9_down 22 = .ok (.aload_n 0, 1) := by decide +kernel
theorem dX9_down_23 : decode cX9_down 23 = .ok (.iload_n 1, 1) := by decide +kernel
theorem dX9_down_24 : decode cX9_down 24 = .ok (.iload_n 2, 1) := by decide +kernel
theorem dX9_down_25 : decode cX9_down 25 = .ok (.iload 5, 2) := by decide +kernel
theorem dX9_down_27 : decode cX9_down 27 = .ok (.invokevirtual 126, 3) := by decide +kernel
theorem dX9_down_30 : decode cX9_down 30 = .ok (.isub, 1) := by decide +kernel
theorem dX9_down_31 : decode cX9_down 31 = .ok (.iload 5, 2) := by decide +kernel
theorem dX9_down_33 : decode cX9_down 33 = .ok (.iconst 2, 1) := by decide +kernel
theorem dX9_down_34 : decode cX9_down 34 = .ok (.irem, 1) := by decide +kernel
theorem dX9_down_35 : decode cX9_down 35 = .ok (.ifCond .ne 7, 3) := by decide +kernel
theorem dX9_down_38 : decode cX9_down 38 = .ok (.iconst 3, 1) := by decide +kernel
theorem dX9_down_39 : decode cX9_down 39 = .ok (.goto 4, 3) := by decide +kernel
theorem dX9_down_42 : decode cX9_down 42 = .ok (.iconst 2, 1) := by decide +kernel
theorem dX9_down_43 : decode cX9_down 43 = .ok (.imul, 1) := by decide +kernel
theorem dX9_down_44 : decode cX9_down 44 = .ok (.istore 6, 2) := by decide +kernel
theorem dX9_down_46 : decode cX9_down 46 = .ok (.iload 6, 2) := by decide +kernel
theorem dX9_down_48 : decode cX9_down 48 = .ok (.iload 4, 2) := by decide +kernel
theorem dX9_down_50 : decode cX9_down 50 = .ok (.if_icmp .le 8, 3) := by decide +kernel
theorem dX9_down_53 : decode cX9_down 53 = .ok (.iload 5, 2) := by decide +kernel
theorem dX9_down_55 : decode cX9_down 55 = .ok (.goto 4, 3) := by decide +kernel
theorem dX9_down_58 : decode cX9_down 58 = .ok (.iload_n 3, 1) := by decide +kernel
theorem dX9_down_59 : decode cX9_down 59 = .ok (.istore_n 3, 1) := by decide +kernel
theorem dX9_down_60 : decode cX9_down 60 = .ok (.iload 6, 2) := by decide +kernel
theorem dX9_down_62 : decode cX9_down 62 = .ok (.iload 4, 2) := by decide +kernel
theorem dX9_down_64 : decode cX9_down 64 = .ok (.if_icmp .le 8, 3) := by decide +kernel
theorem dX9_down_67 : decode cX9_down 67 = .ok (.iload 6, 2) := by decide +kernel
theorem dX9_down_69 : decode cX9_down 69 = .ok (.goto 5, 3) := by decide +kernel
theorem dX9_down_72 : decode cX9_down 72 = .ok (.iload 4, 2) := by decide +kernel
theorem dX9_down_74 : decode cX9_down 74 = .ok (.istore 4, 2) := by decide +kernel
theorem dX9_down_76 : decode cX9_down 76 = .ok (.iinc 5 1, 3) := by decide +kernel
theorem dX9_down_79 : decode cX9_down 79 = .ok (.goto (-70), 3) := by decide +kernel
theorem dX9_down_82 : decode cX9_down 82 = .ok (.iload_n 3, 1) := by decide +kernel
theorem dX9_down_83 : decode cX9_down 83 = .ok (.ireturn, 1) := by decide +kernel
theorem dX9_isCrest_0 : decode cX9_isCrest 0 = .ok (.iconst 0, 1) := by decide +kernel
theorem dX9_isCrest_1 : decode cX9_isCrest 1 = .ok (.istore 4, 2) := by decide +kernel
theorem dX9_isCrest_3 : decode cX9_isCrest 3 = .ok (.iconst 0, 1) := by decide +kernel
theorem dX9_isCrest_4 : decode cX9_isCrest 4 = .ok (.istore 5, 2) := by decide +kernel
theorem dX9_isCrest_6 : decode cX9_isCrest 6 = .ok (.iload 5, 2) := by decide +kernel
theorem dX9_isCrest_8 : decode cX9_isCrest 8 = .ok (.iconst 4, 1) := by decide +kernel
theorem dX9_isCrest_9 : decode cX9_isCrest 9 = .ok (.if_icmp .ge 117, 3) := by decide +kernel
theorem dX9_isCrest_12 : decode cX9_isCrest 12 = .ok (.aload_n 0, 1) := by decide +kernel
theorem dX9_isCrest_13 : decode cX9_isCrest 13 = .ok (.iload_n 1, 1) := by decide +kernel
theorem dX9_isCrest_14 : decode cX9_isCrest 14 = .ok (.iload 5, 2) := by decide +kernel
theorem dX9_isCrest_16 : decode cX9_isCrest 16 = .ok (.invokestatic 117, 3) := by decide +kernel
theorem dX9_isCrest_19 : decode cX9_isCrest 19 = .ok (.iadd, 1) := by decide +kernel
theorem dX9_isCrest_20 : decode cX9_isCrest 20 = .ok (.iload_n 2, 1) := by decide +kernel
theorem dX9_isCrest_21 : decode cX9_isCrest 21 = .ok (.iload 5, 2) := by decide +kernel
theorem dX9_isCrest_23 : decode cX9_isCrest 23 = .ok (.invokestatic 120, 3) := by decide +kernel
theorem dX9_isCrest_26 : decode cX9_isCrest 26 = .ok (.iadd, 1) := by decide +kernel
theorem dX9_isCrest_27 : decode cX9_isCrest 27 = .ok (.invokevirtual 104, 3) := by decide +kernel
theorem dX9_isCrest_30 : decode cX9_isCrest 30 = .ok (.ifCond .eq 28, 3) := by decide +kernel
theorem dX9_isCrest_33 : decode cX9_isCrest 33 = .ok (.aload_n 0, 1) := by decide +kernel
theorem dX9_isCrest_34 : decode cX9_isCrest 34 = .ok (.iload_n 1, 1) := by decide +kernel
theorem dX9_isCrest_35 : decode cX9_isCrest 35 = .ok (.iload 5, 2) := by decide +kernel
theorem dX9_isCrest_37 : decode cX9_isCrest 37 = .ok (.invokestatic 117, 3) := by decide +kernel
theorem dX9_isCrest_40 : decode cX9_isCrest 40 = .ok (.isub, 1) := by decide +kernel
theorem dX9_isCrest_41 : decode cX9_isCrest 41 = .ok (.iload_n 2, 1) := by decide +kernel
theorem dX9_isCrest_42 : decode cX9_isCrest 42 = .ok (.iload 5, 2) := by decide +kernel
theorem dX9_isCrest_44 : decode cX9_isCrest 44 = .ok (.invokestatic 120, 3) := by decide +kernel
theorem dX9_isCrest_47 : decode cX9_isCrest 47 = .ok (.isub, 1) := by decide +kernel
theorem dX9_isCrest_48 : decode cX9_isCrest 48 = .ok (.invokevirtual 104, 3) := by decide +kernel
theorem dX9_isCrest_51 : decode cX9_isCrest 51 = .ok (.ifCond .eq 7, 3) := by decide +kernel
theorem dX9_isCrest_54 : decode cX9_isCrest 54 = .ok (.iconst 1, 1) := by decide +kernel
theorem dX9_isCrest_55 : decode cX9_isCrest 55 = .ok (.goto 4, 3) := by decide +kernel
theorem dX9_isCrest_58 : decode cX9_isCrest 58 = .ok (.iconst 0, 1) := by decide +kernel
theorem dX9_isCrest_59 : decode cX9_isCrest 59 = .ok (.istore 6, 2) := by decide +kernel
theorem dX9_isCrest_61 : decode cX9_isCrest 61 = .ok (.iload 4, 2) := by decide +kernel
theorem dX9_isCrest_63 : decode cX9_isCrest 63 = .ok (.ifCond .ne 50, 3) := by decide +kernel
theorem dX9_isCrest_66 : decode cX9_isCrest 66 = .ok (.iload 6, 2) := by decide +kernel
theorem dX9_isCrest_68 : decode cX9_isCrest 68 = .ok (.ifCond .eq 49, 3) := by decide +kernel
theorem dX9_isCrest_71 : decode cX9_isCrest 71 = .ok (.iload_n 3, 1) := by decide +kernel
theorem dX9_isCrest_72 : decode cX9_isCrest 72 = .ok (.aload_n 0, 1) := by decide +kernel
theorem dX9_isCrest_73 : decode cX9_isCrest 73 = .ok (.iload_n 1, 1) := by decide +kernel
theorem dX9_isCrest_74 : decode cX9_isCrest 74 = .ok (.iload_n 2, 1) := by decide +kernel
theorem dX9_isCrest_75 : decode cX9_isCrest 75 = .ok (.invokevirtual 123, 3) := by decide +kernel
theorem dX9_isCrest_78 : decode cX9_isCrest 78 = .ok (.aload_n 0, 1) := by decide +kernel
theorem dX9_isCrest_79 : decode cX9_isCrest 79 = .ok (.iload_n 1, 1) := by decide +kernel
theorem dX9_isCrest_80 : decode cX9_isCrest 80 = .ok (.iload_n 2, 1) := by decide +kernel
theorem dX9_isCrest_81 : decode cX9_isCrest 81 = .ok (.iload 5, 2) := by decide +kernel
theorem dX9_isCrest_83 : decode cX9_isCrest 83 = .ok (.invokevirtual 126, 3) := by decide +kernel
theorem dX9_isCrest_86 : decode cX9_isCrest 86 = .ok (.isub, 1) := by decide +kernel
theorem dX9_isCrest_87 : decode cX9_isCrest 87 = .ok (.imul, 1) := by decide +kernel
theorem dX9_isCrest_88 : decode cX9_isCrest 88 = .ok (.ifCond .le 29, 3) := by decide +kernel
theorem dX9_isCrest_91 : decode cX9_isCrest 91 = .ok (.iload_n 3, 1) := by decide +kernel
theorem dX9_isCrest_92 : decode cX9_isCrest 92 = .ok (.aload_n 0, 1) := by decide +kernel
theorem dX9_isCrest_93 : decode cX9_isCrest 93 = .ok (.iload_n 1, 1) := by decide +kernel
theorem dX9_isCrest_94 : decode cX9_isCrest 94 = .ok (.iload_n 2, 1) := by decide +kernel
theorem dX9_isCrest_95 : decode cX9_isCrest 95 = .ok (.invokevirtual 123, 3) := by decide +kernel
theorem dX9_isCrest_98 : decode cX9_isCrest 98 = .ok (.aload_n 0, 1) := by decide +kernel
theorem dX9_isCrest_99 : decode cX9_isCrest 99 = .ok (.iload_n 1, 1) := by decide +kernel
theorem dX9_isCrest_100 : decode cX9_isCrest 100 = .ok (.iload_n 2, 1) := by decide +kernel
theorem dX9_isCrest_101 : decode cX9_isCrest 101 = .ok (.iload 5, 2) := by decide +kernel
theorem dX9_isCrest_103 : decode cX9_isCrest 103 = .ok (.iconst 4, 1) := by decide +kernel
theorem dX9_isCrest_104 : decode cX9_isCrest 104 = .ok (.iadd, 1) := by decide +kernel
theorem dX9_isCrest_105 : decode cX9_isCrest 105 = .ok (.invokevirtual 126, 3) := by decide +kernel
theorem dX9_isCrest_108 : decode cX9_isCrest 108 = .ok (.isub, 1) := by decide +kernel
theorem dX9_isCrest_109 : decode cX9_isCrest 109 = .ok (.imul, 1) := by decide +kernel
theorem dX9_isCrest_110 : decode cX9_isCrest 110 = .ok (.ifCond .le 7, 3) := by decide +kernel
theorem dX9_isCrest_113 : decode cX9_isCrest 113 = .ok (.iconst 1, 1) := by decide +kernel
theorem dX9_isCrest_114 : decode cX9_isCrest 114 = .ok (.goto 4, 3) := by decide +kernel
theorem dX9_isCrest_117 : decode cX9_isCrest 117 = .ok (.iconst 0, 1) := by decide +kernel
theorem dX9_isCrest_118 : decode cX9_isCrest 118 = .ok (.istore 4, 2) := by decide +kernel
theorem dX9_isCrest_120 : decode cX9_isCrest 120 = .ok (.iinc 5 1, 3) := by decide +kernel
theorem dX9_isCrest_123 : decode cX9_isCrest 123 = .ok (.goto (-117), 3) := by decide +kernel
theorem dX9_isCrest_126 : decode cX9_isCrest 126 = .ok (.iload 4, 2) := by decide +kernel
theorem dX9_isCrest_128 : decode cX9_isCrest 128 = .ok (.ireturn, 1) := by decide +kernel
theorem dX9_quarter_0 : decode cX9_quarter 0 = .ok (.iload_n 1, 1) := by decide +kernel
theorem dX9_quarter_1 : decode cX9_quarter 1 = .ok (.aload_n 0, 1) := by decide +kernel
theorem dX9_quarter_2 : decode cX9_quarter 2 = .ok (.getfield 13, 3) := by decide +kernel
theorem dX9_quarter_5 : decode cX9_quarter 5 = .ok (.iconst 0, 1) := by decide +kernel
theorem dX9_quarter_6 : decode cX9_quarter 6 = .ok (.iaload, 1) := by decide +kernel
theorem dX9_quarter_7 : decode cX9_quarter 7 = .ok (.iconst 2, 1) := by decide +kernel
theorem dX9_quarter_8 : decode cX9_quarter 8 = .ok (.idiv, 1) := by decide +kernel
theorem dX9_quarter_9 : decode cX9_quarter 9 = .ok (.if_icmp .ge 7, 3) := by decide +kernel
theorem dX9_quarter_12 : decode cX9_quarter 12 = .ok (.iconst 0, 1) := by decide +kernel
theorem dX9_quarter_13 : decode cX9_quarter 13 = .ok (.goto 4, 3) := by decide +kernel
theorem dX9_quarter_16 : decode cX9_quarter 16 = .ok (.iconst 1, 1) := by decide +kernel
theorem dX9_quarter_17 : decode cX9_quarter 17 = .ok (.iload_n 2, 1) := by decide +kernel
theorem dX9_quarter_18 : decode cX9_quarter 18 = .ok (.aload_n 0, 1) := by decide +kernel
theorem dX9_quarter_19 : decode cX9_quarter 19 = .ok (.getfield 13, 3) := by decide +kernel
theorem dX9_quarter_22 : decode cX9_quarter 22 = .ok (.iconst 1, 1) := by decide +kernel
theorem dX9_quarter_23 : decode cX9_quarter 23 = .ok (.iaload, 1) := by decide +kernel
theorem dX9_quarter_24 : decode cX9_quarter 24 = .ok (.iconst 2, 1) := by decide +kernel
theorem dX9_quarter_25 : decode cX9_quarter 25 = .ok (.idiv, 1) := by decide +kernel
theorem dX9_quarter_26 : decode cX9_quarter 26 = .ok (.if_icmp .ge 7, 3) := by decide +kernel
theorem dX9_quarter_29 : decode cX9_quarter 29 = .ok (.iconst 0, 1) := by decide +kernel
theorem dX9_quarter_30 : decode cX9_quarter 30 = .ok (.goto 4, 3) := by decide +kernel
theorem dX9_quarter_33 : decode cX9_quarter 33 = .ok (.iconst 2, 1) := by decide +kernel
theorem dX9_quarter_34 : decode cX9_quarter 34 = .ok (.iadd, 1) := by decide +kernel
theorem dX9_quarter_35 : decode cX9_quarter 35 = .ok (.ireturn, 1) := by decide +kernel
theorem dX9_toneBy_0 : decode cX9_toneBy 0 = .ok (.iload_n 3, 1) := by decide +kernel
theorem dX9_toneBy_1 : decode cX9_toneBy 1 = .ok (.invokestatic 117, 3) := by decide +kernel
theorem dX9_toneBy_4 : decode cX9_toneBy 4 = .ok (.ineg, 1) := by decide +kernel
theorem dX9_toneBy_5 : decode cX9_toneBy 5 = .ok (.aload_n 0, 1) := by decide +kernel
theorem dX9_toneBy_6 : decode cX9_toneBy 6 = .ok (.iload_n 1, 1) := by decide +kernel
theorem dX9_toneBy_7 : decode cX9_toneBy 7 = .ok (.iload_n 2, 1) := by decide +kernel
theorem dX9_toneBy_8 : decode cX9_toneBy 8 = .ok (.invokevirtual 130, 3) := by decide +kernel
theorem dX9_toneBy_11 : decode cX9_toneBy 11 = .ok (.imul, 1) := by decide +kernel
theorem dX9_toneBy_12 : decode cX9_toneBy 12 = .ok (.iload_n 3, 1) := by decide +kernel
theorem dX9_toneBy_13 : decode cX9_toneBy 13 = .ok (.invokestatic 120, 3) := by decide +kernel
theorem dX9_toneBy_16 : decode cX9_toneBy 16 = .ok (.aload_n 0, 1) := by decide +kernel
theorem dX9_toneBy_17 : decode cX9_toneBy 17 = .ok (.iload_n 1, 1) := by decide +kernel
theorem dX9_toneBy_18 : decode cX9_toneBy 18 = .ok (.iload_n 2, 1) := by decide +kernel
theorem dX9_toneBy_19 : decode cX9_toneBy 19 = .ok (.invokevirtual 133, 3) := by decide +kernel
theorem dX9_toneBy_22 : decode cX9_toneBy 22 = .ok (.imul, 1) := by decide +kernel
theorem dX9_toneBy_23 : decode cX9_toneBy 23 = .ok (.isub, 1) := by decide +kernel
theorem dX9_toneBy_24 : decode cX9_toneBy 24 = .ok (.istore 4, 2) := by decide +kernel
theorem dX9_toneBy_26 : decode cX9_toneBy 26 = .ok (.aload_n 0, 1) := by decide +kernel
theorem dX9_toneBy_27 : decode cX9_toneBy 27 = .ok (.iload_n 1, 1) := by decide +kernel
theorem dX9_toneBy_28 : decode cX9_toneBy 28 = .ok (.iload_n 2, 1) := by decide +kernel
theorem dX9_toneBy_29 : decode cX9_toneBy 29 = .ok (.iconst 1, 1) := by decide +kernel
theorem dX9_toneBy_30 : decode cX9_toneBy 30 = .ok (.invokevirtual 136, 3) := by decide +kernel
theorem dX9_toneBy_33 : decode cX9_toneBy 33 = .ok (.ifCond .eq 13, 3) := by decide +kernel
theorem dX9_toneBy_36 : decode cX9_toneBy 36 = .ok (.iload 4, 2) := by decide +kernel
theorem dX9_toneBy_38 : decode cX9_toneBy 38 = .ok (.iconst 4, 1) := by decide +kernel
theorem dX9_toneBy_39 : decode cX9_toneBy 39 = .ok (.if_icmp .ge 7, 3) := by decide +kernel
theorem dX9_toneBy_42 : decode cX9_toneBy 42 = .ok (.iconst 4, 1) := by decide +kernel
theorem dX9_toneBy_43 : decode cX9_toneBy 43 = .ok (.goto 5, 3) := by decide +kernel
theorem dX9_toneBy_46 : decode cX9_toneBy 46 = .ok (.iload 4, 2) := by decide +kernel
theorem dX9_toneBy_48 : decode cX9_toneBy 48 = .ok (.istore 4, 2) := by decide +kernel
theorem dX9_toneBy_50 : decode cX9_toneBy 50 = .ok (.aload_n 0, 1) := by decide +kernel
theorem dX9_toneBy_51 : decode cX9_toneBy 51 = .ok (.iload_n 1, 1) := by decide +kernel
theorem dX9_toneBy_52 : decode cX9_toneBy 52 = .ok (.iload_n 2, 1) := by decide +kernel
theorem dX9_toneBy_53 : decode cX9_toneBy 53 = .ok (.iconst (-1), 1) := by decide +kernel
theorem dX9_toneBy_54 : decode cX9_toneBy 54 = .ok (.invokevirtual 136, 3) := by decide +kernel
theorem dX9_toneBy_57 : decode cX9_toneBy 57 = .ok (.ifCond .eq 15, 3) := by decide +kernel
theorem dX9_toneBy_60 : decode cX9_toneBy 60 = .ok (.iload 4, 2) := by decide +kernel
theorem dX9_toneBy_62 : decode cX9_toneBy 62 = .ok (.bipush (-4), 2) := by decide +kernel
theorem dX9_toneBy_64 : decode cX9_toneBy 64 = .ok (.if_icmp .le 8, 3) := by decide +kernel
theorem dX9_toneBy_67 : decode cX9_toneBy 67 = .ok (.bipush (-4), 2) := by decide +kernel
theorem dX9_toneBy_69 : decode cX9_toneBy 69 = .ok (.goto 5, 3) := by decide +kernel
theorem dX9_toneBy_72 : decode cX9_toneBy 72 = .ok (.iload 4, 2) := by decide +kernel
theorem dX9_toneBy_74 : decode cX9_toneBy 74 = .ok (.ireturn, 1) := by decide +kernel
theorem dX9_tone_0 : decode cX9_tone 0 = .ok (.aload_n 0, 1) := by decide +kernel
theorem dX9_tone_1 : decode cX9_tone 1 = .ok (.iload_n 1, 1) := by decide +kernel
theorem dX9_tone_2 : decode cX9_tone 2 = .ok (.iload_n 2, 1) := by decide +kernel
theorem dX9_tone_3 : decode cX9_tone 3 = .ok (.aload_n 0, 1) := by decide +kernel
theorem dX9_tone_4 : decode cX9_tone 4 = .ok (.getfield 13, 3) := by decide +kernel
theorem dX9_tone_7 : decode cX9_tone 7 = .ok (.iconst 2, 1) := by decide +kernel
theorem dX9_tone_8 : decode cX9_tone 8 = .ok (.aload_n 0, 1) := by decide +kernel
theorem dX9_tone_9 : decode cX9_tone 9 = .ok (.iload_n 1, 1) := by decide +kernel
theorem dX9_tone_10 : decode cX9_tone 10 = .ok (.iload_n 2, 1) := by decide +kernel
theorem dX9_tone_11 : decode cX9_tone 11 = .ok (.invokevirtual 140, 3) := by decide +kernel
theorem dX9_tone_14 : decode cX9_tone 14 = .ok (.iadd, 1) := by decide +kernel
theorem dX9_tone_15 : decode cX9_tone 15 = .ok (.iaload, 1) := by decide +kernel
theorem dX9_tone_16 : decode cX9_tone 16 = .ok (.invokevirtual 143, 3) := by decide +kernel
theorem dX9_tone_19 : decode cX9_tone 19 = .ok (.ireturn, 1) := by decide +kernel
theorem dX9_cell_0 : decode cX9_cell 0 = .ok (.aload_n 0, 1) := by decide +kernel
theorem dX9_cell_1 : decode cX9_cell 1 = .ok (.iload_n 1, 1) := by decide +kernel
theorem dX9_cell_2 : decode cX9_cell 2 = .ok (.iload_n 2, 1) := by decide +kernel
theorem dX9_cell_3 : decode cX9_cell 3 = .ok (.invokevirtual 104, 3) := by decide +kernel
theorem dX9_cell_6 : decode cX9_cell 6 = .ok (.ifCond .eq 15, 3) := by decide +kernel
theorem dX9_cell_9 : decode cX9_cell 9 = .ok (.iload_n 3, 1) := by decide +kernel
theorem dX9_cell_10 : decode cX9_cell 10 = .ok (.i2l, 1) := by decide +kernel
theorem dX9_cell_11 : decode cX9_cell 11 = .ok (.lconst 0, 1) := by decide +kernel
theorem dX9_cell_12 : decode cX9_cell 12 = .ok (.ldc2_w 108, 3) := by decide +kernel
theorem dX9_cell_15 : decode cX9_cell 15 = .ok (.invokestatic 56, 3) := by decide +kernel
theorem dX9_cell_18 : decode cX9_cell 18 = .ok (.ifCond .ne 5, 3) := by decide +kernel
theorem dX9_cell_21 : decode cX9_cell 21 = .ok (.iconst (-1), 1) := by decide +kernel
theorem dX9_cell_22 : decode cX9_cell 22 = .ok (.ireturn, 1) := by decide +kernel
theorem dX9_cell_23 : decode cX9_cell 23 = .ok (.iload_n 3, 1) := by decide +kernel
theorem dX9_cell_24 : decode cX9_cell 24 = .ok (.tableswitch 142 0 8 #[52, 59, 69, 79, 86, 93, 109, 125, 132], 52) := by decide +kernel
theorem dX9_cell_76 : decode cX9_cell 76 = .ok (.aload_n 0, 1) := by decide +kernel
theorem dX9_cell_77 : decode cX9_cell 77 = .ok (.iload_n 1, 1) := by decide +kernel
theorem dX9_cell_78 : decode cX9_cell 78 = .ok (.iload_n 2, 1) := by decide +kernel
theorem dX9_cell_79 : decode cX9_cell 79 = .ok (.invokevirtual 123, 3) := by decide +kernel
theorem dX9_cell_82 : decode cX9_cell 82 = .ok (.ireturn, 1) := by decide +kernel
theorem dX9_cell_83 : decode cX9_cell 83 = .ok (.aload_n 0, 1) := by decide +kernel
theorem dX9_cell_84 : decode cX9_cell 84 = .ok (.iload_n 1, 1) := by decide +kernel
theorem dX9_cell_85 : decode cX9_cell 85 = .ok (.iload_n 2, 1) := by decide +kernel
theorem dX9_cell_86 : decode cX9_cell 86 = .ok (.invokevirtual 130, 3) := by decide +kernel
theorem dX9_cell_89 : decode cX9_cell 89 = .ok (.bipush 100, 2) := by decide +kernel
theorem dX9_cell_91 : decode cX9_cell 91 = .ok (.iadd, 1) := by decide +kernel
theorem dX9_cell_92 : decode cX9_cell 92 = .ok (.ireturn, 1) := by decide +kernel
theorem dX9_cell_93 : decode cX9_cell 93 = .ok (.aload_n 0, 1) := by decide +kernel
theorem dX9_cell_94 : decode cX9_cell 94 = .ok (.iload_n 1, 1) := by decide +kernel
theorem dX9_cell_95 : decode cX9_cell 95 = .ok (.iload_n 2, 1) := by decide +kernel
theorem dX9_cell_96 : decode cX9_cell 96 = .ok (.invokevirtual 133, 3) := by decide +kernel
theorem dX9_cell_99 : decode cX9_cell 99 = .ok (.bipush 100, 2) := by decide +kernel
theorem dX9_cell_101 : decode cX9_cell 101 = .ok (.iadd, 1) := by decide +kernel
theorem dX9_cell_102 : decode cX9_cell 102 = .ok (.ireturn, 1) := by decide +kernel
theorem dX9_cell_103 : decode cX9_cell 103 = .ok (.aload_n 0, 1) := by decide +kernel
theorem dX9_cell_104 : decode cX9_cell 104 = .ok (.iload_n 1, 1) := by decide +kernel
theorem dX9_cell_105 : decode cX9_cell 105 = .ok (.iload_n 2, 1) := by decide +kernel
theorem dX9_cell_106 : decode cX9_cell 106 = .ok (.invokevirtual 146, 3) := by decide +kernel
theorem dX9_cell_109 : decode cX9_cell 109 = .ok (.ireturn, 1) := by decide +kernel
theorem dX9_cell_110 : decode cX9_cell 110 = .ok (.aload_n 0, 1) := by decide +kernel
theorem dX9_cell_111 : decode cX9_cell 111 = .ok (.iload_n 1, 1) := by decide +kernel
theorem dX9_cell_112 : decode cX9_cell 112 = .ok (.iload_n 2, 1) := by decide +kernel
theorem dX9_cell_113 : decode cX9_cell 113 = .ok (.invokevirtual 149, 3) := by decide +kernel
theorem dX9_cell_116 : decode cX9_cell 116 = .ok (.ireturn, 1) := by decide +kernel
theorem dX9_cell_117 : decode cX9_cell 117 = .ok (.aload_n 0, 1) := by decide +kernel
theorem dX9_cell_118 : decode cX9_cell 118 = .ok (.iload_n 1, 1) := by decide +kernel
theorem dX9_cell_119 : decode cX9_cell 119 = .ok (.iload_n 2, 1) := by decide +kernel
theorem dX9_cell_120 : decode cX9_cell 120 = .ok (.iconst 1, 1) := by decide +kernel
theorem dX9_cell_121 : decode cX9_cell 121 = .ok (.invokevirtual 136, 3) := by decide +kernel
theorem dX9_cell_124 : decode cX9_cell 124 = .ok (.ifCond .eq 7, 3) := by decide +kernel
theorem dX9_cell_127 : decode cX9_cell 127 = .ok (.iconst 1, 1) := by decide +kernel
theorem dX9_cell_128 : decode cX9_cell 128 = .ok (.goto 4, 3) := by decide +kernel
theorem dX9_cell_131 : decode cX9_cell 131 = .ok (.iconst 0, 1) := by decide +kernel
theorem dX9_cell_132 : decode cX9_cell 132 = .ok (.ireturn, 1) := by decide +kernel
theorem dX9_cell_133 : decode cX9_cell 133 = .ok (.aload_n 0, 1) := by decide +kernel
theorem dX9_cell_134 : decode cX9_cell 134 = .ok (.iload_n 1, 1) := by decide +kernel
theorem dX9_cell_135 : decode cX9_cell 135 = .ok (.iload_n 2, 1) := by decide +kernel
theorem dX9_cell_136 : decode cX9_cell 136 = .ok (.iconst (-1), 1) := by decide +kernel
theorem dX9_cell_137 : decode cX9_cell 137 = .ok (.invokevirtual 136, 3) := by decide +kernel
theorem dX9_cell_140 : decode cX9_cell 140 = .ok (.ifCond .eq 7, 3) := by decide +kernel
theorem dX9_cell_143 : decode cX9_cell 143 = .ok (.iconst 1, 1) := by decide +kernel
theorem dX9_cell_144 : decode cX9_cell 144 = .ok (.goto 4, 3) := by decide +kernel
theorem dX9_cell_147 : decode cX9_cell 147 = .ok (.iconst 0, 1) := by decide +kernel
theorem dX9_cell_148 : decode cX9_cell 148 = .ok (.ireturn, 1) := by decide +kernel
theorem dX9_cell_149 : decode cX9_cell 149 = .ok (.aload_n 0, 1) := by decide +kernel
theorem dX9_cell_150 : decode cX9_cell 150 = .ok (.iload_n 1, 1) := by decide +kernel
theorem dX9_cell_151 : decode cX9_cell 151 = .ok (.iload_n 2, 1) := by decide +kernel
theorem dX9_cell_152 : decode cX9_cell 152 = .ok (.invokevirtual 140, 3) := by decide +kernel
theorem dX9_cell_155 : decode cX9_cell 155 = .ok (.ireturn, 1) := by decide +kernel
theorem dX9_cell_156 : decode cX9_cell 156 = .ok (.aload_n 0, 1) := by decide +kernel
theorem dX9_cell_157 : decode cX9_cell 157 = .ok (.iload_n 1, 1) := by decide +kernel
theorem dX9_cell_158 : decode cX9_cell 158 = .ok (.iload_n 2, 1) := by decide +kernel
theorem dX9_cell_159 : decode cX9_cell 159 = .ok (.invokevirtual 152, 3) := by decide +kernel
theorem dX9_cell_162 : decode cX9_cell 162 = .ok (.bipush 100, 2) := by decide +kernel
theorem dX9_cell_164 : decode cX9_cell 164 = .ok (.iadd, 1) := by decide +kernel
theorem dX9_cell_165 : decode cX9_cell 165 = .ok (.ireturn, 1) := by decide +kernel
theorem dX9_cell_166 : decode cX9_cell 166 = .ok (.aload_n 0, 1) := by decide +kernel
theorem dX9_cell_167 : decode cX9_cell 167 = .ok (.aload_n 0, 1) := by decide +kernel
theorem dX9_cell_168 : decode cX9_cell 168 = .ok (.iload_n 1, 1) := by decide +kernel
theorem dX9_cell_169 : decode cX9_cell 169 = .ok (.iload_n 2, 1) := by decide +kernel
theorem dX9_cell_170 : decode cX9_cell 170 = .ok (.invokevirtual 152, 3) := by decide +kernel
theorem dX9_cell_173 : decode cX9_cell 173 = .ok (.invokevirtual 155, 3) := by decide +kernel
theorem dX9_cell_176 : decode cX9_cell 176 = .ok (.ireturn, 1) := by decide +kernel
theorem dX9_flows_0 : decode cX9_flows 0 = .ok (.iload_n 1, 1) := by decide +kernel
theorem dX9_flows_1 : decode cX9_flows 1 = .ok (.istore_n 3, 1) := by decide +kernel
theorem dX9_flows_2 : decode cX9_flows 2 = .ok (.iload_n 2, 1) := by decide +kernel
theorem dX9_flows_3 : decode cX9_flows 3 = .ok (.istore 4, 2) := by decide +kernel
theorem dX9_flows_5 : decode cX9_flows 5 = .ok (.aload_n 0, 1) := by decide +kernel
theorem dX9_flows_6 : decode cX9_flows 6 = .ok (.iconst 0, 1) := by decide +kernel
theorem dX9_flows_7 : decode cX9_flows 7 = .ok (.putfield 158, 3) := by decide +kernel
theorem dX9_flows_10 : decode cX9_flows 10 = .ok (.aload_n 0, 1) := by decide +kernel
theorem dX9_flows_11 : decode cX9_flows 11 = .ok (.iload_n 3, 1) := by decide +kernel
theorem dX9_flows_12 : decode cX9_flows 12 = .ok (.iload 4, 2) := by decide +kernel
theorem dX9_flows_14 : decode cX9_flows 14 = .ok (.invokevirtual 149, 3) := by decide +kernel
theorem dX9_flows_17 : decode cX9_flows 17 = .ok (.istore 5, 2) := by decide +kernel
theorem dX9_flows_19 : decode cX9_flows 19 = .ok (.iload 5, 2) := by decide +kernel
theorem dX9_flows_21 : decode cX9_flows 21 = .ok (.bipush (-4), 2) := by decide +kernel
theorem dX9_flows_23 : decode cX9_flows 23 = .ok (.if_icmp .eq 43, 3) := by decide +kernel
theorem dX9_flows_26 : decode cX9_flows 26 = .ok (.iload_n 3, 1) := by decide +kernel
theorem dX9_flows_27 : decode cX9_flows 27 = .ok (.iload 5, 2) := by decide +kernel
theorem dX9_flows_29 : decode cX9_flows 29 = .ok (.invokestatic 117, 3) := by decide +kernel
theorem dX9_flows_32 : decode cX9_flows 32 = .ok (.iadd, 1) := by decide +kernel
theorem dX9_flows_33 : decode cX9_flows 33 = .ok (.istore_n 3, 1) := by decide +kernel
theorem dX9_flows_34 : decode cX9_flows 34 = .ok (.iload 4, 2) := by decide +kernel
theorem dX9_flows_36 : decode cX9_flows 36 = .ok (.iload 5, 2) := by decide +kernel
theorem dX9_flows_38 : decode cX9_flows 38 = .ok (.invokestatic 120, 3) := by decide +kernel
theorem dX9_flows_41 : decode cX9_flows 41 = .ok (.iadd, 1) := by decide +kernel
theorem dX9_flows_42 : decode cX9_flows 42 = .ok (.istore 4, 2) := by decide +kernel
theorem dX9_flows_44 : decode cX9_flows 44 = .ok (.aload_n 0, 1) := by decide +kernel
theorem dX9_flows_45 : decode cX9_flows 45 = .ok (.dup, 1) := by decide +kernel
theorem dX9_flows_46 : decode cX9_flows 46 = .ok (.getfield 158, 3) := by decide +kernel
theorem dX9_flows_49 : decode cX9_flows 49 = .ok (.iconst 1, 1) := by decide +kernel
theorem dX9_flows_50 : decode cX9_flows 50 = .ok (.iadd, 1) := by decide +kernel
theorem dX9_flows_51 : decode cX9_flows 51 = .ok (.putfield 158, 3) := by decide +kernel
theorem dX9_flows_54 : decode cX9_flows 54 = .ok (.aload_n 0, 1) := by decide +kernel
theorem dX9_flows_55 : decode cX9_flows 55 = .ok (.iload_n 3, 1) := by decide +kernel
theorem dX9_flows_56 : decode cX9_flows 56 = .ok (.iload 4, 2) := by decide +kernel
theorem dX9_flows_58 : decode cX9_flows 58 = .ok (.invokevirtual 149, 3) := by decide +kernel
theorem dX9_flows_61 : decode cX9_flows 61 = .ok (.istore 5, 2) := by decide +kernel
theorem dX9_flows_63 : decode cX9_flows 63 = .ok (.goto (-44), 3) := by decide +kernel
theorem dX9_flows_66 : decode cX9_flows 66 = .ok (.aload_n 0, 1) := by decide +kernel
theorem dX9_flows_67 : decode cX9_flows 67 = .ok (.bipush 9, 2) := by decide +kernel
theorem dX9_flows_69 : decode cX9_flows 69 = .ok (.iload 4, 2) := by decide +kernel
theorem dX9_flows_71 : decode cX9_flows 71 = .ok (.imul, 1) := by decide +kernel
theorem dX9_flows_72 : decode cX9_flows 72 = .ok (.iload_n 3, 1) := by decide +kernel
theorem dX9_flows_73 : decode cX9_flows 73 = .ok (.iadd, 1) := by decide +kernel
theorem dX9_flows_74 : decode cX9_flows 74 = .ok (.putfield 161, 3) := by decide +kernel
theorem dX9_flows_77 : decode cX9_flows 77 = .ok (.return_, 1) := by decide +kernel
theorem dX9_flow_0 : decode cX9_flow 0 = .ok (.aload_n 0, 1) := by decide +kernel
theorem dX9_flow_1 : decode cX9_flow 1 = .ok (.iload_n 1, 1) := by decide +kernel
theorem dX9_flow_2 : decode cX9_flow 2 = .ok (.iload_n 2, 1) := by decide +kernel
theorem dX9_flow_3 : decode cX9_flow 3 = .ok (.invokevirtual 104, 3) := by decide +kernel
theorem dX9_flow_6 : decode cX9_flow 6 = .ok (.ifCond .eq 13, 3) := by decide +kernel
theorem dX9_flow_9 : decode cX9_flow 9 = .ok (.iload_n 3, 1) := by decide +kernel
theorem dX9_flow_10 : decode cX9_flow 10 = .ok (.i2l, 1) := by decide +kernel
theorem dX9_flow_11 : decode cX9_flow 11 = .ok (.lconst 0, 1) := by decide +kernel
theorem dX9_flow_12 : decode cX9_flow 12 = .ok (.lconst 1, 1) := by decide +kernel
theorem dX9_flow_13 : decode cX9_flow 13 = .ok (.invokestatic 56, 3) := by decide +kernel
theorem dX9_flow_16 : decode cX9_flow 16 = .ok (.ifCond .ne 5, 3) := by decide +kernel
theorem dX9_flow_19 : decode cX9_flow 19 = .ok (.iconst (-1), 1) := by decide +kernel
theorem dX9_flow_20 : decode cX9_flow 20 = .ok (.ireturn, 1) := by decide +kernel
theorem dX9_flow_21 : decode cX9_flow 21 = .ok (.aload_n 0, 1) := by decide +kernel
theorem dX9_flow_22 : decode cX9_flow 22 = .ok (.iload_n 1, 1) := by decide +kernel
theorem dX9_flow_23 : decode cX9_flow 23 = .ok (.iload_n 2, 1) := by decide +kernel
theorem dX9_flow_24 : decode cX9_flow 24 = .ok (.invokevirtual 164, 3) := by decide +kernel
theorem dX9_flow_27 : decode cX9_flow 27 = .ok (.iload_n 3, 1) := by decide +kernel
theorem dX9_flow_28 : decode cX9_flow 28 = .ok (.ifCond .ne 10, 3) := by decide +kernel
theorem dX9_flow_31 : decode cX9_flow 31 = .ok (.aload_n 0, 1) := by decide +kernel
theorem dX9_flow_32 : decode cX9_flow 32 = .ok (.getfield 161, 3) := by decide +kernel
theorem dX9_flow_35 : decode cX9_flow 35 = .ok (.goto 7, 3) := by decide +kernel
theorem dX9_flow_38 : decode cX9_flow 38 = .ok (.aload_n 0, 1) := by decide +kernel
theorem dX9_flow_39 : decode cX9_flow 39 = .ok (.getfield 158, 3) := by decide +kernel
theorem dX9_flow_42 : decode cX9_flow 42 = .ok (.ireturn, 1) := by decide +kernel
theorem dX9_basin_0 : decode cX9_basin 0 = .ok (.aload_n 0, 1) := by decide +kernel
theorem dX9_basin_1 : decode cX9_basin 1 = .ok (.iload_n 1, 1) := by decide +kernel
theorem dX9_basin_2 : decode cX9_basin 2 = .ok (.iload_n 2, 1) := by decide +kernel
theorem dX9_basin_3 : decode cX9_basin 3 = .ok (.invokevirtual 104, 3) := by decide +kernel
theorem dX9_basin_6 : decode cX9_basin 6 = .ok (.ifCond .ne 5, 3) := by decide +kernel
theorem dX9_basin_9 : decode cX9_basin 9 = .ok (.iconst (-1), 1) := by decide +kernel
theorem dX9_basin_10 : decode cX9_basin 10 = .ok (.ireturn, 1) := by decide +kernel
theorem dX9_basin_11 : decode cX9_basin 11 = .ok (.iconst 0, 1) := by decide +kernel
theorem dX9_basin_12 : decode cX9_basin 12 = .ok (.istore_n 3, 1) := by decide +kernel
theorem dX9_basin_13 : decode cX9_basin 13 = .ok (.iconst 0, 1) := by decide +kernel
theorem dX9_basin_14 : decode cX9_basin 14 = .ok (.istore 4, 2) := by decide +kernel
theorem dX9_basin_16 : decode cX9_basin 16 = .ok (.iload 4, 2) := by decide +kernel
theorem dX9_basin_18 : decode cX9_basin 18 = .ok (.bipush 9, 2) := by decide +kernel
theorem dX9_basin_20 : decode cX9_basin 20 = .ok (.aload_n 0, 1) := by decide +kernel
theorem dX9_basin_21 : decode cX9_basin 21 = .ok (.getfield 13, 3) := by decide +kernel
theorem dX9_basin_24 : decode cX9_basin 24 = .ok (.iconst 1, 1) := by decide +kernel
theorem dX9_basin_25 : decode cX9_basin 25 = .ok (.iaload, 1) := by decide +kernel
theorem dX9_basin_26 : decode cX9_basin 26 = .ok (.imul, 1) := by decide +kernel
theorem dX9_basin_27 : decode cX9_basin 27 = .ok (.if_icmp .ge 58, 3) := by decide +kernel
theorem dX9_basin_30 : decode cX9_basin 30 = .ok (.iload 4, 2) := by decide +kernel
theorem dX9_basin_32 : decode cX9_basin 32 = .ok (.bipush 9, 2) := by decide +kernel
theorem dX9_basin_34 : decode cX9_basin 34 = .ok (.irem, 1) := by decide +kernel
theorem dX9_basin_35 : decode cX9_basin 35 = .ok (.aload_n 0, 1) := by decide +kernel
theorem dX9_basin_36 : decode cX9_basin 36 = .ok (.getfield 13, 3) := by decide +kernel
theorem dX9_basin_39 : decode cX9_basin 39 = .ok (.iconst 0, 1) := by decide +kernel
theorem dX9_basin_40 : decode cX9_basin 40 = .ok (.iaload, 1) := by decide +kernel
theorem dX9_basin_41 : decode cX9_basin 41 = .ok (.if_icmp .ge 38, 3) := by decide +kernel
theorem dX9_basin_44 : decode cX9_basin 44 = .ok (.aload_n 0, 1) := by decide +kernel
theorem dX9_basin_45 : decode cX9_basin 45 = .ok (.iload 4, 2) := by decide +kernel
theorem dX9_basin_47 : decode cX9_basin 47 = .ok (.bipush 9, 2) := by decide +kernel
theorem dX9_basin_49 : decode cX9_basin 49 = .ok (.irem, 1) := by decide +kernel
theorem dX9_basin_50 : decode cX9_basin 50 = .ok (.iload 4, 2) := by decide +kernel
theorem dX9_basin_52 : decode cX9_basin 52 = .ok (.bipush 9, 2) := by decide +kernel
theorem dX9_basin_54 : decode cX9_basin 54 = .ok (.idiv, 1) := by decide +kernel
theorem dX9_basin_55 : decode cX9_basin 55 = .ok (.invokevirtual 164, 3) := by decide +kernel
theorem dX9_basin_58 : decode cX9_basin 58 = .ok (.iload_n 3, 1) := by decide +kernel
theorem dX9_basin_59 : decode cX9_basin 59 = .ok (.aload_n 0, 1) := by decide +kernel
theorem dX9_basin_60 : decode cX9_basin 60 = .ok (.getfield 161, 3) := by decide +kernel
theorem dX9_basin_63 : decode cX9_basin 63 = .ok (.bipush 9, 2) := by decide +kernel
theorem dX9_basin_65 : decode cX9_basin 65 = .ok (.iload_n 2, 1) := by decide +kernel
theorem dX9_basin_66 : decode cX9_basin 66 = .ok (.imul, 1) := by decide +kernel
theorem dX9_basin_67 : decode cX9_basin 67 = .ok (.iload_n 1, 1) := by decide +kernel
theorem dX9_basin_68 : decode cX9_basin 68 = .ok (.iadd, 1) := by decide +kernel
theorem dX9_basin_69 : decode cX9_basin 69 = .ok (.if_icmp .ne 7, 3) := by decide +kernel
theorem dX9_basin_72 : decode cX9_basin 72 = .ok (.iconst 1, 1) := by decide +kernel
theorem dX9_basin_73 : decode cX9_basin 73 = .ok (.goto 4, 3) := by decide +kernel
theorem dX9_basin_76 : decode cX9_basin 76 = .ok (.iconst 0, 1) := by decide +kernel
theorem dX9_basin_77 : decode cX9_basin 77 = .ok (.iadd, 1) := by decide +kernel
theorem dX9_basin_78 : decode cX9_basin 78 = .ok (.istore_n 3, 1) := by decide +kernel
theorem dX9_basin_79 : decode cX9_basin 79 = .ok (.iinc 4 1, 3) := by decide +kernel
theorem dX9_basin_82 : decode cX9_basin 82 = .ok (.goto (-66), 3) := by decide +kernel
theorem dX9_basin_85 : decode cX9_basin 85 = .ok (.iload_n 3, 1) := by decide +kernel
theorem dX9_basin_86 : decode cX9_basin 86 = .ok (.ireturn, 1) := by decide +kernel
theorem dX9_contrastOf_0 : decode cX9_contrastOf 0 = .ok (.sipush 1000, 3) := by decide +kernel
theorem dX9_contrastOf_3 : decode cX9_contrastOf 3 = .ok (.istore_n 3, 1) := by decide +kernel
theorem dX9_contrastOf_4 : decode cX9_contrastOf 4 = .ok (.sipush (-1000), 3) := by decide +kernel
theorem dX9_contrastOf_7 : decode cX9_contrastOf 7 = .ok (.istore 4, 2) := by decide +kernel
theorem dX9_contrastOf_9 : decode cX9_contrastOf 9 = .ok (.iconst 0, 1) := by decide +kernel
theorem dX9_contrastOf_10 : decode cX9_contrastOf 10 = .ok (.istore 5, 2) := by decide +kernel
theorem dX9_contrastOf_12 : decode cX9_contrastOf 12 = .ok (.iload 5, 2) := by decide +kernel
theorem dX9_contrastOf_14 : decode cX9_contrastOf 14 = .ok (.bipush 9, 2) := by decide +kernel
theorem dX9_contrastOf_16 : decode cX9_contrastOf 16 = .ok (.aload_n 0, 1) := by decide +kernel
theorem dX9_contrastOf_17 : decode cX9_contrastOf 17 = .ok (.getfield 13, 3) := by decide +kernel
theorem dX9_contrastOf_20 : decode cX9_contrastOf 20 = .ok (.iconst 1, 1) := by decide +kernel
theorem dX9_contrastOf_21 : decode cX9_contrastOf 21 = .ok (.iaload, 1) := by decide +kernel
theorem dX9_contrastOf_22 : decode cX9_contrastOf 22 = .ok (.imul, 1) := by decide +kernel
theorem dX9_contrastOf_23 : decode cX9_contrastOf 23 = .ok (.if_icmp .ge 87, 3) := by decide +kernel
theorem dX9_contrastOf_26 : decode cX9_contrastOf 26 = .ok (.iload 5, 2) := by decide +kernel
theorem dX9_contrastOf_28 : decode cX9_contrastOf 28 = .ok (.bipush 9, 2) := by decide +kernel
theorem dX9_contrastOf_30 : decode cX9_contrastOf 30 = .ok (.irem, 1) := by decide +kernel
theorem dX9_contrastOf_31 : decode cX9_contrastOf 31 = .ok (.aload_n 0, 1) := by decide +kernel
theorem dX9_contrastOf_32 : decode cX9_contrastOf 32 = .ok (.getfield 13, 3) := by decide +kernel
theorem dX9_contrastOf_35 : decode cX9_contrastOf 35 = .ok (.iconst 0, 1) := by decide +kernel
theorem dX9_contrastOf_36 : decode cX9_contrastOf 36 = .ok (.iaload, 1) := by decide +kernel
theorem dX9_contrastOf_37 : decode cX9_contrastOf 37 = .ok (.if_icmp .ge 67, 3) := by decide +kernel
theorem dX9_contrastOf_40 : decode cX9_contrastOf 40 = .ok (.aload_n 0, 1) := by decide +kernel
theorem dX9_contrastOf_41 : decode cX9_contrastOf 41 = .ok (.iload 5, 2) := by decide +kernel
theorem dX9_contrastOf_43 : decode cX9_contrastOf 43 = .ok (.bipush 9, 2) := by decide +kernel
theorem dX9_contrastOf_45 : decode cX9_contrastOf 45 = .ok (.irem, 1) := by decide +kernel
theorem dX9_contrastOf_46 : decode cX9_contrastOf 46 = .ok (.iload 5, 2) := by decide +kernel
theorem dX9_contrastOf_48 : decode cX9_contrastOf 48 = .ok (.bipush 9, 2) := by decide +kernel
theorem dX9_contrastOf_50 : decode cX9_contrastOf 50 = .ok (.idiv, 1) := by decide +kernel
theorem dX9_contrastOf_51 : decode cX9_contrastOf 51 = .ok (.invokevirtual 140, 3) := by decide +kernel
theorem dX9_contrastOf_54 : decode cX9_contrastOf 54 = .ok (.iload_n 1, 1) := by decide +kernel
theorem dX9_contrastOf_55 : decode cX9_contrastOf 55 = .ok (.if_icmp .ne 49, 3) := by decide +kernel
theorem dX9_contrastOf_58 : decode cX9_contrastOf 58 = .ok (.aload_n 0, 1) := by decide +kernel
theorem dX9_contrastOf_59 : decode cX9_contrastOf 59 = .ok (.iload 5, 2) := by decide +kernel
theorem dX9_contrastOf_61 : decode cX9_contrastOf 61 = .ok (.bipush 9, 2) := by decide +kernel
theorem dX9_contrastOf_63 : decode cX9_contrastOf 63 = .ok (.irem, 1) := by decide +kernel
theorem dX9_contrastOf_64 : decode cX9_contrastOf 64 = .ok (.iload 5, 2) := by decide +kernel
theorem dX9_contrastOf_66 : decode cX9_contrastOf 66 = .ok (.bipush 9, 2) := by decide +kernel
theorem dX9_contrastOf_68 : decode cX9_contrastOf 68 = .ok (.idiv, 1) := by decide +kernel
theorem dX9_contrastOf_69 : decode cX9_contrastOf 69 = .ok (.iload_n 2, 1) := by decide +kernel
theorem dX9_contrastOf_70 : decode cX9_contrastOf 70 = .ok (.invokevirtual 143, 3) := by decide +kernel
theorem dX9_contrastOf_73 : decode cX9_contrastOf 73 = .ok (.istore 6, 2) := by decide +kernel
theorem dX9_contrastOf_75 : decode cX9_contrastOf 75 = .ok (.iload 6, 2) := by decide +kernel
theorem dX9_contrastOf_77 : decode cX9_contrastOf 77 = .ok (.iload_n 3, 1) := by decide +kernel
theorem dX9_contrastOf_78 : decode cX9_contrastOf 78 = .ok (.if_icmp .ge 8, 3) := by decide +kernel
theorem dX9_contrastOf_81 : decode cX9_contrastOf 81 = .ok (.iload 6, 2) := by decide +kernel
theorem dX9_contrastOf_83 : decode cX9_contrastOf 83 = .ok (.goto 4, 3) := by decide +kernel
theorem dX9_contrastOf_86 : decode cX9_contrastOf 86 = .ok (.iload_n 3, 1) := by decide +kernel
theorem dX9_contrastOf_87 : decode cX9_contrastOf 87 = .ok (.istore_n 3, 1) := by decide +kernel
theorem dX9_contrastOf_88 : decode cX9_contrastOf 88 = .ok (.iload 6, 2) := by decide +kernel
theorem dX9_contrastOf_90 : decode cX9_contrastOf 90 = .ok (.iload 4, 2) := by decide +kernel
theorem dX9_contrastOf_92 : decode cX9_contrastOf 92 = .ok (.if_icmp .le 8, 3) := by decide +kernel
theorem dX9_contrastOf_95 : decode cX9_contrastOf 95 = .ok (.iload 6, 2) := by decide +kernel
theorem dX9_contrastOf_97 : decode cX9_contrastOf 97 = .ok (.goto 5, 3) := by decide +kernel
theorem dX9_contrastOf_100 : decode cX9_contrastOf 100 = .ok (.iload 4, 2) := by decide +kernel
theorem dX9_contrastOf_102 : decode cX9_contrastOf 102 = .ok (.istore 4, 2) := by decide +kernel
theorem dX9_contrastOf_104 : decode cX9_contrastOf 104 = .ok (.iinc 5 1, 3) := by decide +kernel
theorem dX9_contrastOf_107 : decode cX9_contrastOf 107 = .ok (.goto (-95), 3) := by decide +kernel
theorem dX9_contrastOf_110 : decode cX9_contrastOf 110 = .ok (.iload 4, 2) := by decide +kernel
theorem dX9_contrastOf_112 : decode cX9_contrastOf 112 = .ok (.iload_n 3, 1) := by decide +kernel
theorem dX9_contrastOf_113 : decode cX9_contrastOf 113 = .ok (.isub, 1) := by decide +kernel
theorem dX9_contrastOf_114 : decode cX9_contrastOf 114 = .ok (.ireturn, 1) := by decide +kernel
theorem dX9_contrast_0 : decode cX9_contrast 0 = .ok (.iload_n 1, 1) := by decide +kernel
theorem dX9_contrast_1 : decode cX9_contrast 1 = .ok (.i2l, 1) := by decide +kernel
theorem dX9_contrast_2 : decode cX9_contrast 2 = .ok (.lconst 0, 1) := by decide +kernel
theorem dX9_contrast_3 : decode cX9_contrast 3 = .ok (.ldc2_w 92, 3) := by decide +kernel
theorem dX9_contrast_6 : decode cX9_contrast 6 = .ok (.invokestatic 56, 3) := by decide +kernel
theorem dX9_contrast_9 : decode cX9_contrast 9 = .ok (.ifCond .eq 24, 3) := by decide +kernel
theorem dX9_contrast_12 : decode cX9_contrast 12 = .ok (.iload_n 2, 1) := by decide +kernel
theorem dX9_contrast_13 : decode cX9_contrast 13 = .ok (.i2l, 1) := by decide +kernel
theorem dX9_contrast_14 : decode cX9_contrast 14 = .ok (.lconst 0, 1) := by decide +kernel
theorem dX9_contrast_15 : decode cX9_contrast 15 = .ok (.ldc2_w 94, 3) := by decide +kernel
theorem dX9_contrast_18 : decode cX9_contrast 18 = .ok (.invokestatic 56, 3) := by decide +kernel
theorem dX9_contrast_21 : decode cX9_contrast 21 = .ok (.ifCond .eq 12, 3) := by decide +kernel
theorem dX9_contrast_24 : decode cX9_contrast 24 = .ok (.aload_n 0, 1) := by decide +kernel
theorem dX9_contrast_25 : decode cX9_contrast 25 = .ok (.iload_n 1, 1) := by decide +kernel
theorem dX9_contrast_26 : decode cX9_contrast 26 = .ok (.iload_n 2, 1) := by decide +kernel
theorem dX9_contrast_27 : decode cX9_contrast 27 = .ok (.invokevirtual 168, 3) := by decide +kernel
theorem dX9_contrast_30 : decode cX9_contrast 30 = .ok (.goto 4, 3) := by decide +kernel
theorem dX9_contrast_33 : decode cX9_contrast 33 = .ok (.iconst (-1), 1) := by decide +kernel
theorem dX9_contrast_34 : decode cX9_contrast 34 = .ok (.ireturn, 1) := by decide +kernel
