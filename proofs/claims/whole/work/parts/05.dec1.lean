theorem dX4_steepestBeginning_37 : decode cX4_steepestBeginning 37 = .ok (.invokevirtual 74, 3) := by decide +kernel
theorem dX4_steepestBeginning_40 : decode cX4_steepestBeginning 40 = .ok (.ifCond .ne 14, 3) := by decide +kernel
theorem dX4_steepestBeginning_43 : decode cX4_steepestBeginning 43 = .ok (.aload_n 0, 1) := by decide +kernel
theorem dX4_steepestBeginning_44 : decode cX4_steepestBeginning 44 = .ok (.getfield 12, 3) := by decide +kernel
theorem dX4_steepestBeginning_47 : decode cX4_steepestBeginning 47 = .ok (.iload_n 3, 1) := by decide +kernel
theorem dX4_steepestBeginning_48 : decode cX4_steepestBeginning 48 = .ok (.invokevirtual 71, 3) := by decide +kernel
theorem dX4_steepestBeginning_51 : decode cX4_steepestBeginning 51 = .ok (.istore_n 2, 1) := by decide +kernel
theorem dX4_steepestBeginning_52 : decode cX4_steepestBeginning 52 = .ok (.iload_n 3, 1) := by decide +kernel
theorem dX4_steepestBeginning_53 : decode cX4_steepestBeginning 53 = .ok (.istore_n 1, 1) := by decide +kernel
theorem dX4_steepestBeginning_54 : decode cX4_steepestBeginning 54 = .ok (.iinc 3 1, 3) := by decide +kernel
theorem dX4_steepestBeginning_57 : decode cX4_steepestBeginning 57 = .ok (.goto (-51), 3) := by decide +kernel
theorem dX4_steepestBeginning_60 : decode cX4_steepestBeginning 60 = .ok (.iload_n 1, 1) := by decide +kernel
theorem dX4_steepestBeginning_61 : decode cX4_steepestBeginning 61 = .ok (.ireturn, 1) := by decide +kernel
theorem dX5_init_0 : decode cX5_init 0 = .ok (.aload_n 0, 1) := by decide +kernel
theorem dX5_init_1 : decode cX5_init 1 = .ok (.invokespecial 3, 3) := by decide +kernel
theorem dX5_init_4 : decode cX5_init 4 = .ok (.aload_n 0, 1) := by decide +kernel
theorem dX5_init_5 : decode cX5_init 5 = .ok (.sipush 200, 3) := by decide +kernel
theorem dX5_init_8 : decode cX5_init 8 = .ok (.newarray .char, 2) := by decide +kernel
theorem dX5_init_10 : decode cX5_init 10 = .ok (.putfield 9, 3) := by decide +kernel
theorem dX5_init_13 : decode cX5_init 13 = .ok (.return_, 1) := by decide +kernel
theorem dX5_add_0 : decode cX5_add 0 = .ok (.aload_n 0, 1) := by decide +kernel
theorem dX5_add_1 : decode cX5_add 1 = .ok (.getfield 15, 3) := by decide +kernel
theorem dX5_add_4 : decode cX5_add 4 = .ok (.sipush 200, 3) := by decide +kernel
theorem dX5_add_7 : decode cX5_add 7 = .ok (.if_icmp .ge 24, 3) := by decide +kernel
theorem dX5_add_10 : decode cX5_add 10 = .ok (.aload_n 0, 1) := by decide +kernel
theorem dX5_add_11 : decode cX5_add 11 = .ok (.getfield 9, 3) := by decide +kernel
theorem dX5_add_14 : decode cX5_add 14 = .ok (.aload_n 0, 1) := by decide +kernel
theorem dX5_add_15 : decode cX5_add 15 = .ok (.getfield 15, 3) := by decide +kernel
theorem dX5_add_18 : decode cX5_add 18 = .ok (.iload_n 1, 1) := by decide +kernel
theorem dX5_add_19 : decode cX5_add 19 = .ok (.i2c, 1) := by decide +kernel
theorem dX5_add_20 : decode cX5_add 20 = .ok (.castore, 1) := by decide +kernel
theorem dX5_add_21 : decode cX5_add 21 = .ok (.aload_n 0, 1) := by decide +kernel
theorem dX5_add_22 : decode cX5_add 22 = .ok (.dup, 1) := by decide +kernel
theorem dX5_add_23 : decode cX5_add 23 = .ok (.getfield 15, 3) := by decide +kernel
theorem dX5_add_26 : decode cX5_add 26 = .ok (.iconst 1, 1) := by decide +kernel
theorem dX5_add_27 : decode cX5_add 27 = .ok (.iadd, 1) := by decide +kernel
theorem dX5_add_28 : decode cX5_add 28 = .ok (.putfield 15, 3) := by decide +kernel
theorem dX5_add_31 : decode cX5_add 31 = .ok (.return_, 1) := by decide +kernel
theorem dX5_addAll_0 : decode cX5_addAll 0 = .ok (.iconst 0, 1) := by decide +kernel
theorem dX5_addAll_1 : decode cX5_addAll 1 = .ok (.istore_n 2, 1) := by decide +kernel
theorem dX5_addAll_2 : decode cX5_addAll 2 = .ok (.iload_n 2, 1) := by decide +kernel
theorem dX5_addAll_3 : decode cX5_addAll 3 = .ok (.aload_n 1, 1) := by decide +kernel
theorem dX5_addAll_4 : decode cX5_addAll 4 = .ok (.invokevirtual 19, 3) := by decide +kernel
theorem dX5_addAll_7 : decode cX5_addAll 7 = .ok (.if_icmp .ge 18, 3) := by decide +kernel
theorem dX5_addAll_10 : decode cX5_addAll 10 = .ok (.aload_n 0, 1) := by decide +kernel
theorem dX5_addAll_11 : decode cX5_addAll 11 = .ok (.aload_n 1, 1) := by decide +kernel
theorem dX5_addAll_12 : decode cX5_addAll 12 = .ok (.iload_n 2, 1) := by decide +kernel
theorem dX5_addAll_13 : decode cX5_addAll 13 = .ok (.invokevirtual 24, 3) := by decide +kernel
theorem dX5_addAll_16 : decode cX5_addAll 16 = .ok (.invokevirtual 28, 3) := by decide +kernel
theorem dX5_addAll_19 : decode cX5_addAll 19 = .ok (.iinc 2 1, 3) := by decide +kernel
theorem dX5_addAll_22 : decode cX5_addAll 22 = .ok (.goto (-20), 3) := by decide +kernel
theorem dX5_addAll_25 : decode cX5_addAll 25 = .ok (.return_, 1) := by decide +kernel
theorem dX5_clear_0 : decode cX5_clear 0 = .ok (.aload_n 0, 1) := by decide +kernel
theorem dX5_clear_1 : decode cX5_clear 1 = .ok (.iconst 0, 1) := by decide +kernel
theorem dX5_clear_2 : decode cX5_clear 2 = .ok (.putfield 15, 3) := by decide +kernel
theorem dX5_clear_5 : decode cX5_clear 5 = .ok (.return_, 1) := by decide +kernel
theorem dX5_readInto_0 : decode cX5_readInto 0 = .ok (.aload_n 1, 1) := by decide +kernel
theorem dX5_readInto_1 : decode cX5_readInto 1 = .ok (.invokevirtual 32, 3) := by decide +kernel
theorem dX5_readInto_4 : decode cX5_readInto 4 = .ok (.aload_n 0, 1) := by decide +kernel
theorem dX5_readInto_5 : decode cX5_readInto 5 = .ok (.iconst 0, 1) := by decide +kernel
theorem dX5_readInto_6 : decode cX5_readInto 6 = .ok (.putfield 37, 3) := by decide +kernel
theorem dX5_readInto_9 : decode cX5_readInto 9 = .ok (.iconst 0, 1) := by decide +kernel
theorem dX5_readInto_10 : decode cX5_readInto 10 = .ok (.istore_n 2, 1) := by decide +kernel
theorem dX5_readInto_11 : decode cX5_readInto 11 = .ok (.iconst 0, 1) := by decide +kernel
theorem dX5_readInto_12 : decode cX5_readInto 12 = .ok (.istore_n 3, 1) := by decide +kernel
theorem dX5_readInto_13 : decode cX5_readInto 13 = .ok (.iload_n 3, 1) := by decide +kernel
theorem dX5_readInto_14 : decode cX5_readInto 14 = .ok (.sipush 200, 3) := by decide +kernel
theorem dX5_readInto_17 : decode cX5_readInto 17 = .ok (.if_icmp .ge 48, 3) := by decide +kernel
theorem dX5_readInto_20 : decode cX5_readInto 20 = .ok (.iload_n 2, 1) := by decide +kernel
theorem dX5_readInto_21 : decode cX5_readInto 21 = .ok (.aload_n 0, 1) := by decide +kernel
theorem dX5_readInto_22 : decode cX5_readInto 22 = .ok (.getfield 15, 3) := by decide +kernel
theorem dX5_readInto_25 : decode cX5_readInto 25 = .ok (.if_icmp .ge 40, 3) := by decide +kernel
theorem dX5_readInto_28 : decode cX5_readInto 28 = .ok (.aload_n 0, 1) := by decide +kernel
theorem dX5_readInto_29 : decode cX5_readInto 29 = .ok (.aload_n 1, 1) := by decide +kernel
theorem dX5_readInto_30 : decode cX5_readInto 30 = .ok (.getfield 40, 3) := by decide +kernel
theorem dX5_readInto_33 : decode cX5_readInto 33 = .ok (.iload_n 2, 1) := by decide +kernel
theorem dX5_readInto_34 : decode cX5_readInto 34 = .ok (.invokevirtual 44, 3) := by decide +kernel
theorem dX5_readInto_37 : decode cX5_readInto 37 = .ok (.istore 4, 2) := by decide +kernel
theorem dX5_readInto_39 : decode cX5_readInto 39 = .ok (.iload 4, 2) := by decide +kernel
theorem dX5_readInto_41 : decode cX5_readInto 41 = .ok (.ifCond .ne 5, 3) := by decide +kernel
theorem dX5_readInto_44 : decode cX5_readInto 44 = .ok (.iload_n 2, 1) := by decide +kernel
theorem dX5_readInto_45 : decode cX5_readInto 45 = .ok (.ireturn, 1) := by decide +kernel
theorem dX5_readInto_46 : decode cX5_readInto 46 = .ok (.aload_n 0, 1) := by decide +kernel
theorem dX5_readInto_47 : decode cX5_readInto 47 = .ok (.aload_n 1, 1) := by decide +kernel
theorem dX5_readInto_48 : decode cX5_readInto 48 = .ok (.iload_n 2, 1) := by decide +kernel
theorem dX5_readInto_49 : decode cX5_readInto 49 = .ok (.invokevirtual 48, 3) := by decide +kernel
theorem dX5_readInto_52 : decode cX5_readInto 52 = .ok (.iload_n 2, 1) := by decide +kernel
theorem dX5_readInto_53 : decode cX5_readInto 53 = .ok (.iload 4, 2) := by decide +kernel
theorem dX5_readInto_55 : decode cX5_readInto 55 = .ok (.iconst 2, 1) := by decide +kernel
theorem dX5_readInto_56 : decode cX5_readInto 56 = .ok (.iadd, 1) := by decide +kernel
theorem dX5_readInto_57 : decode cX5_readInto 57 = .ok (.iadd, 1) := by decide +kernel
theorem dX5_readInto_58 : decode cX5_readInto 58 = .ok (.istore_n 2, 1) := by decide +kernel
theorem dX5_readInto_59 : decode cX5_readInto 59 = .ok (.iinc 3 1, 3) := by decide +kernel
theorem dX5_readInto_62 : decode cX5_readInto 62 = .ok (.goto (-49), 3) := by decide +kernel
theorem dX5_readInto_65 : decode cX5_readInto 65 = .ok (.bipush (-4), 2) := by decide +kernel
theorem dX5_readInto_67 : decode cX5_readInto 67 = .ok (.ireturn, 1) := by decide +kernel
theorem dX5_letter_0 : decode cX5_letter 0 = .ok (.iload_n 1, 1) := by decide +kernel
theorem dX5_letter_1 : decode cX5_letter 1 = .ok (.ifCond .lt 20, 3) := by decide +kernel
theorem dX5_letter_4 : decode cX5_letter 4 = .ok (.iload_n 1, 1) := by decide +kernel
theorem dX5_letter_5 : decode cX5_letter 5 = .ok (.aload_n 0, 1) := by decide +kernel
theorem dX5_letter_6 : decode cX5_letter 6 = .ok (.getfield 15, 3) := by decide +kernel
theorem dX5_letter_9 : decode cX5_letter 9 = .ok (.if_icmp .ge 12, 3) := by decide +kernel
theorem dX5_letter_12 : decode cX5_letter 12 = .ok (.aload_n 0, 1) := by decide +kernel
theorem dX5_letter_13 : decode cX5_letter 13 = .ok (.getfield 9, 3) := by decide +kernel
theorem dX5_letter_16 : decode cX5_letter 16 = .ok (.iload_n 1, 1) := by decide +kernel
theorem dX5_letter_17 : decode cX5_letter 17 = .ok (.caload, 1) := by decide +kernel
theorem dX5_letter_18 : decode cX5_letter 18 = .ok (.goto 5, 3) := by decide +kernel
theorem dX5_letter_21 : decode cX5_letter 21 = .ok (.bipush 32, 2) := by decide +kernel
theorem dX5_letter_23 : decode cX5_letter 23 = .ok (.ireturn, 1) := by decide +kernel
theorem dX5_figure_0 : decode cX5_figure 0 = .ok (.aload_n 0, 1) := by decide +kernel
theorem dX5_figure_1 : decode cX5_figure 1 = .ok (.iload_n 1, 1) := by decide +kernel
theorem dX5_figure_2 : decode cX5_figure 2 = .ok (.invokevirtual 52, 3) := by decide +kernel
theorem dX5_figure_5 : decode cX5_figure 5 = .ok (.bipush 48, 2) := by decide +kernel
theorem dX5_figure_7 : decode cX5_figure 7 = .ok (.isub, 1) := by decide +kernel
theorem dX5_figure_8 : decode cX5_figure 8 = .ok (.ireturn, 1) := by decide +kernel
theorem dX5_figuresOfItem_0 : decode cX5_figuresOfItem 0 = .ok (.aload_n 0, 1) := by decide +kernel
theorem dX5_figuresOfItem_1 : decode cX5_figuresOfItem 1 = .ok (.iload_n 2, 1) := by decide +kernel
theorem dX5_figuresOfItem_2 : decode cX5_figuresOfItem 2 = .ok (.invokevirtual 52, 3) := by decide +kernel
theorem dX5_figuresOfItem_5 : decode cX5_figuresOfItem 5 = .ok (.istore_n 3, 1) := by decide +kernel
theorem dX5_figuresOfItem_6 : decode cX5_figuresOfItem 6 = .ok (.aload_n 1, 1) := by decide +kernel
theorem dX5_figuresOfItem_7 : decode cX5_figuresOfItem 7 = .ok (.invokevirtual 56, 3) := by decide +kernel
theorem dX5_figuresOfItem_10 : decode cX5_figuresOfItem 10 = .ok (.iload_n 3, 1) := by decide +kernel
theorem dX5_figuresOfItem_11 : decode cX5_figuresOfItem 11 = .ok (.bipush 103, 2) := by decide +kernel
theorem dX5_figuresOfItem_13 : decode cX5_figuresOfItem 13 = .ok (.if_icmp .ne 7, 3) := by decide +kernel
theorem dX5_figuresOfItem_16 : decode cX5_figuresOfItem 16 = .ok (.iconst 1, 1) := by decide +kernel
theorem dX5_figuresOfItem_17 : decode cX5_figuresOfItem 17 = .ok (.goto 4, 3) := by decide +kernel
theorem dX5_figuresOfItem_20 : decode cX5_figuresOfItem 20 = .ok (.iconst 0, 1) := by decide +kernel
theorem dX5_figuresOfItem_21 : decode cX5_figuresOfItem 21 = .ok (.if_icmp .ne 5, 3) := by decide +kernel
theorem dX5_figuresOfItem_24 : decode cX5_figuresOfItem 24 = .ok (.iconst 0, 1) := by decide +kernel
theorem dX5_figuresOfItem_25 : decode cX5_figuresOfItem 25 = .ok (.ireturn, 1) := by decide +kernel
theorem dX5_figuresOfItem_26 : decode cX5_figuresOfItem 26 = .ok (.iload_n 3, 1) := by decide +kernel
theorem dX5_figuresOfItem_27 : decode cX5_figuresOfItem 27 = .ok (.lookupswitch 99 #[(103, 41), (108, 79), (114, 51), (115, 89)], 41) := by decide +kernel
theorem dX5_figuresOfItem_68 : decode cX5_figuresOfItem 68 = .ok (.aload_n 0, 1) := by decide +kernel
theorem dX5_figuresOfItem_69 : decode cX5_figuresOfItem 69 = .ok (.iload_n 2, 1) := by decide +kernel
theorem dX5_figuresOfItem_70 : decode cX5_figuresOfItem 70 = .ok (.iconst 2, 1) := by decide +kernel
theorem dX5_figuresOfItem_71 : decode cX5_figuresOfItem 71 = .ok (.iconst 3, 1) := by decide +kernel
theorem dX5_figuresOfItem_72 : decode cX5_figuresOfItem 72 = .ok (.bipush 9, 2) := by decide +kernel
theorem dX5_figuresOfItem_74 : decode cX5_figuresOfItem 74 = .ok (.invokevirtual 62, 3) := by decide +kernel
theorem dX5_figuresOfItem_77 : decode cX5_figuresOfItem 77 = .ok (.ireturn, 1) := by decide +kernel
theorem dX5_figuresOfItem_78 : decode cX5_figuresOfItem 78 = .ok (.aload_n 0, 1) := by decide +kernel
theorem dX5_figuresOfItem_79 : decode cX5_figuresOfItem 79 = .ok (.getfield 37, 3) := by decide +kernel
theorem dX5_figuresOfItem_82 : decode cX5_figuresOfItem 82 = .ok (.aload_n 1, 1) := by decide +kernel
theorem dX5_figuresOfItem_83 : decode cX5_figuresOfItem 83 = .ok (.getfield 66, 3) := by decide +kernel
theorem dX5_figuresOfItem_86 : decode cX5_figuresOfItem 86 = .ok (.if_icmp .ge 18, 3) := by decide +kernel
theorem dX5_figuresOfItem_89 : decode cX5_figuresOfItem 89 = .ok (.aload_n 0, 1) := by decide +kernel
theorem dX5_figuresOfItem_90 : decode cX5_figuresOfItem 90 = .ok (.iload_n 2, 1) := by decide +kernel
theorem dX5_figuresOfItem_91 : decode cX5_figuresOfItem 91 = .ok (.aload_n 1, 1) := by decide +kernel
theorem dX5_figuresOfItem_92 : decode cX5_figuresOfItem 92 = .ok (.getfield 69, 3) := by decide +kernel
theorem dX5_figuresOfItem_95 : decode cX5_figuresOfItem 95 = .ok (.iconst 0, 1) := by decide +kernel
theorem dX5_figuresOfItem_96 : decode cX5_figuresOfItem 96 = .ok (.bipush 9, 2) := by decide +kernel
theorem dX5_figuresOfItem_98 : decode cX5_figuresOfItem 98 = .ok (.invokevirtual 62, 3) := by decide +kernel
theorem dX5_figuresOfItem_101 : decode cX5_figuresOfItem 101 = .ok (.goto 4, 3) := by decide +kernel
theorem dX5_figuresOfItem_104 : decode cX5_figuresOfItem 104 = .ok (.iconst 0, 1) := by decide +kernel
theorem dX5_figuresOfItem_105 : decode cX5_figuresOfItem 105 = .ok (.ireturn, 1) := by decide +kernel
theorem dX5_figuresOfItem_106 : decode cX5_figuresOfItem 106 = .ok (.aload_n 0, 1) := by decide +kernel
theorem dX5_figuresOfItem_107 : decode cX5_figuresOfItem 107 = .ok (.iload_n 2, 1) := by decide +kernel
theorem dX5_figuresOfItem_108 : decode cX5_figuresOfItem 108 = .ok (.iconst 4, 1) := by decide +kernel
theorem dX5_figuresOfItem_109 : decode cX5_figuresOfItem 109 = .ok (.iconst 0, 1) := by decide +kernel
theorem dX5_figuresOfItem_110 : decode cX5_figuresOfItem 110 = .ok (.bipush 7, 2) := by decide +kernel
theorem dX5_figuresOfItem_112 : decode cX5_figuresOfItem 112 = .ok (.invokevirtual 62, 3) := by decide +kernel
theorem dX5_figuresOfItem_115 : decode cX5_figuresOfItem 115 = .ok (.ireturn, 1) := by decide +kernel
theorem dX5_figuresOfItem_116 : decode cX5_figuresOfItem 116 = .ok (.aload_n 0, 1) := by decide +kernel
theorem dX5_figuresOfItem_117 : decode cX5_figuresOfItem 117 = .ok (.iload_n 2, 1) := by decide +kernel
theorem dX5_figuresOfItem_118 : decode cX5_figuresOfItem 118 = .ok (.iconst 1, 1) := by decide +kernel
theorem dX5_figuresOfItem_119 : decode cX5_figuresOfItem 119 = .ok (.iconst 2, 1) := by decide +kernel
theorem dX5_figuresOfItem_120 : decode cX5_figuresOfItem 120 = .ok (.bipush 6, 2) := by decide +kernel
theorem dX5_figuresOfItem_122 : decode cX5_figuresOfItem 122 = .ok (.invokevirtual 62, 3) := by decide +kernel
theorem dX5_figuresOfItem_125 : decode cX5_figuresOfItem 125 = .ok (.ireturn, 1) := by decide +kernel
theorem dX5_figuresOfItem_126 : decode cX5_figuresOfItem 126 = .ok (.iconst 0, 1) := by decide +kernel
theorem dX5_figuresOfItem_127 : decode cX5_figuresOfItem 127 = .ok (.ireturn, 1) := by decide +kernel
theorem dX5_figuresWithin_0 : decode cX5_figuresWithin 0 = .ok (.iconst 1, 1) := by decide +kernel
theorem dX5_figuresWithin_1 : decode cX5_figuresWithin 1 = .ok (.istore 5, 2) := by decide +kernel
theorem dX5_figuresWithin_3 : decode cX5_figuresWithin 3 = .ok (.iload 5, 2) := by decide +kernel
theorem dX5_figuresWithin_5 : decode cX5_figuresWithin 5 = .ok (.iload_n 2, 1) := by decide +kernel
theorem dX5_figuresWithin_6 : decode cX5_figuresWithin 6 = .ok (.if_icmp .gt 36, 3) := by decide +kernel
theorem dX5_figuresWithin_9 : decode cX5_figuresWithin 9 = .ok (.aload_n 0, 1) := by decide +kernel
theorem dX5_figuresWithin_10 : decode cX5_figuresWithin 10 = .ok (.iload_n 1, 1) := by decide +kernel
theorem dX5_figuresWithin_11 : decode cX5_figuresWithin 11 = .ok (.iload 5, 2) := by decide +kernel
theorem dX5_figuresWithin_13 : decode cX5_figuresWithin 13 = .ok (.iadd, 1) := by decide +kernel
theorem dX5_figuresWithin_14 : decode cX5_figuresWithin 14 = .ok (.invokevirtual 72, 3) := by decide +kernel
theorem dX5_figuresWithin_17 : decode cX5_figuresWithin 17 = .ok (.iload_n 3, 1) := by decide +kernel
theorem dX5_figuresWithin_18 : decode cX5_figuresWithin 18 = .ok (.if_icmp .lt 16, 3) := by decide +kernel
theorem dX5_figuresWithin_21 : decode cX5_figuresWithin 21 = .ok (.aload_n 0, 1) := by decide +kernel
theorem dX5_figuresWithin_22 : decode cX5_figuresWithin 22 = .ok (.iload_n 1, 1) := by decide +kernel
theorem dX5_figuresWithin_23 : decode cX5_figuresWithin 23 = .ok (.iload 5, 2) := by decide +kernel
theorem dX5_figuresWithin_25 : decode cX5_figuresWithin 25 = .ok (.iadd, 1) := by decide +kernel
theorem dX5_figuresWithin_26 : decode cX5_figuresWithin 26 = .ok (.invokevirtual 72, 3) := by decide +kernel
theorem dX5_figuresWithin_29 : decode cX5_figuresWithin 29 = .ok (.iload 4, 2) := by decide +kernel
theorem dX5_figuresWithin_31 : decode cX5_figuresWithin 31 = .ok (.if_icmp .le 5, 3) := by decide +kernel
theorem dX5_figuresWithin_34 : decode cX5_figuresWithin 34 = .ok (.iconst 0, 1) := by decide +kernel
theorem dX5_figuresWithin_35 : decode cX5_figuresWithin 35 = .ok (.ireturn, 1) := by decide +kernel
theorem dX5_figuresWithin_36 : decode cX5_figuresWithin 36 = .ok (.iinc 5 1, 3) := by decide +kernel
theorem dX5_figuresWithin_39 : decode cX5_figuresWithin 39 = .ok (.goto (-36), 3) := by decide +kernel
theorem dX5_figuresWithin_42 : decode cX5_figuresWithin 42 = .ok (.aload_n 0, 1) := by decide +kernel
theorem dX5_figuresWithin_43 : decode cX5_figuresWithin 43 = .ok (.iload_n 1, 1) := by decide +kernel
theorem dX5_figuresWithin_44 : decode cX5_figuresWithin 44 = .ok (.iload_n 2, 1) := by decide +kernel
theorem dX5_figuresWithin_45 : decode cX5_figuresWithin 45 = .ok (.iadd, 1) := by decide +kernel
theorem dX5_figuresWithin_46 : decode cX5_figuresWithin 46 = .ok (.iconst 1, 1) := by decide +kernel
theorem dX5_figuresWithin_47 : decode cX5_figuresWithin 47 = .ok (.iadd, 1) := by decide +kernel
theorem dX5_figuresWithin_48 : decode cX5_figuresWithin 48 = .ok (.invokevirtual 52, 3) := by decide +kernel
theorem dX5_figuresWithin_51 : decode cX5_figuresWithin 51 = .ok (.bipush 59, 2) := by decide +kernel
theorem dX5_figuresWithin_53 : decode cX5_figuresWithin 53 = .ok (.if_icmp .ne 7, 3) := by decide +kernel
theorem dX5_figuresWithin_56 : decode cX5_figuresWithin 56 = .ok (.iload_n 2, 1) := by decide +kernel
theorem dX5_figuresWithin_57 : decode cX5_figuresWithin 57 = .ok (.goto 4, 3) := by decide +kernel
theorem dX5_figuresWithin_60 : decode cX5_figuresWithin 60 = .ok (.iconst 0, 1) := by decide +kernel
theorem dX5_figuresWithin_61 : decode cX5_figuresWithin 61 = .ok (.ireturn, 1) := by decide +kernel
theorem dX5_take_0 : decode cX5_take 0 = .ok (.aload_n 0, 1) := by decide +kernel
theorem dX5_take_1 : decode cX5_take 1 = .ok (.iload_n 2, 1) := by decide +kernel
theorem dX5_take_2 : decode cX5_take 2 = .ok (.invokevirtual 52, 3) := by decide +kernel
theorem dX5_take_5 : decode cX5_take 5 = .ok (.lookupswitch 154 #[(103, 35), (108, 123), (114, 66)], 35) := by decide +kernel
theorem dX5_take_40 : decode cX5_take 40 = .ok (.aload_n 1, 1) := by decide +kernel
theorem dX5_take_41 : decode cX5_take 41 = .ok (.getfield 40, 3) := by decide +kernel
theorem dX5_take_44 : decode cX5_take 44 = .ok (.aload_n 0, 1) := by decide +kernel
theorem dX5_take_45 : decode cX5_take 45 = .ok (.iload_n 2, 1) := by decide +kernel
theorem dX5_take_46 : decode cX5_take 46 = .ok (.iconst 1, 1) := by decide +kernel
theorem dX5_take_47 : decode cX5_take 47 = .ok (.iadd, 1) := by decide +kernel
theorem dX5_take_48 : decode cX5_take 48 = .ok (.invokevirtual 72, 3) := by decide +kernel
theorem dX5_take_51 : decode cX5_take 51 = .ok (.putfield 69, 3) := by decide +kernel
theorem dX5_take_54 : decode cX5_take 54 = .ok (.aload_n 1, 1) := by decide +kernel
theorem dX5_take_55 : decode cX5_take 55 = .ok (.getfield 40, 3) := by decide +kernel
theorem dX5_take_58 : decode cX5_take 58 = .ok (.aload_n 0, 1) := by decide +kernel
theorem dX5_take_59 : decode cX5_take 59 = .ok (.iload_n 2, 1) := by decide +kernel
theorem dX5_take_60 : decode cX5_take 60 = .ok (.iconst 2, 1) := by decide +kernel
theorem dX5_take_61 : decode cX5_take 61 = .ok (.iadd, 1) := by decide +kernel
theorem dX5_take_62 : decode cX5_take 62 = .ok (.invokevirtual 72, 3) := by decide +kernel
theorem dX5_take_65 : decode cX5_take 65 = .ok (.putfield 66, 3) := by decide +kernel
theorem dX5_take_68 : decode cX5_take 68 = .ok (.goto 102, 3) := by decide +kernel
theorem dX5_take_71 : decode cX5_take 71 = .ok (.iconst 0, 1) := by decide +kernel
theorem dX5_take_72 : decode cX5_take 72 = .ok (.istore_n 3, 1) := by decide +kernel
theorem dX5_take_73 : decode cX5_take 73 = .ok (.iload_n 3, 1) := by decide +kernel
theorem dX5_take_74 : decode cX5_take 74 = .ok (.aload_n 1, 1) := by decide +kernel
theorem dX5_take_75 : decode cX5_take 75 = .ok (.getfield 40, 3) := by decide +kernel
theorem dX5_take_78 : decode cX5_take 78 = .ok (.getfield 69, 3) := by decide +kernel
theorem dX5_take_81 : decode cX5_take 81 = .ok (.if_icmp .ge 34, 3) := by decide +kernel
theorem dX5_take_84 : decode cX5_take 84 = .ok (.aload_n 1, 1) := by decide +kernel
theorem dX5_take_85 : decode cX5_take 85 = .ok (.getfield 40, 3) := by decide +kernel
theorem dX5_take_88 : decode cX5_take 88 = .ok (.bipush 9, 2) := by decide +kernel
theorem dX5_take_90 : decode cX5_take 90 = .ok (.aload_n 0, 1) := by decide +kernel
theorem dX5_take_91 : decode cX5_take 91 = .ok (.getfield 37, 3) := by decide +kernel
theorem dX5_take_94 : decode cX5_take 94 = .ok (.imul, 1) := by decide +kernel
theorem dX5_take_95 : decode cX5_take 95 = .ok (.iload_n 3, 1) := by decide +kernel
theorem dX5_take_96 : decode cX5_take 96 = .ok (.iadd, 1) := by decide +kernel
theorem dX5_take_97 : decode cX5_take 97 = .ok (.aload_n 0, 1) := by decide +kernel
theorem dX5_take_98 : decode cX5_take 98 = .ok (.iload_n 2, 1) := by decide +kernel
theorem dX5_take_99 : decode cX5_take 99 = .ok (.iconst 1, 1) := by decide +kernel
theorem dX5_take_100 : decode cX5_take 100 = .ok (.iadd, 1) := by decide +kernel
theorem dX5_take_101 : decode cX5_take 101 = .ok (.iload_n 3, 1) := by decide +kernel
theorem dX5_take_102 : decode cX5_take 102 = .ok (.iadd, 1) := by decide +kernel
theorem dX5_take_103 : decode cX5_take 103 = .ok (.invokevirtual 72, 3) := by decide +kernel
theorem dX5_take_106 : decode cX5_take 106 = .ok (.invokevirtual 75, 3) := by decide +kernel
theorem dX5_take_109 : decode cX5_take 109 = .ok (.iinc 3 1, 3) := by decide +kernel
theorem dX5_take_112 : decode cX5_take 112 = .ok (.goto (-39), 3) := by decide +kernel
theorem dX5_take_115 : decode cX5_take 115 = .ok (.aload_n 0, 1) := by decide +kernel
theorem dX5_take_116 : decode cX5_take 116 = .ok (.dup, 1) := by decide +kernel
theorem dX5_take_117 : decode cX5_take 117 = .ok (.getfield 37, 3) := by decide +kernel
theorem dX5_take_120 : decode cX5_take 120 = .ok (.iconst 1, 1) := by decide +kernel
theorem dX5_take_121 : decode cX5_take 121 = .ok (.iadd, 1) := by decide +kernel
theorem dX5_take_122 : decode cX5_take 122 = .ok (.putfield 37, 3) := by decide +kernel
theorem dX5_take_125 : decode cX5_take 125 = .ok (.goto 45, 3) := by decide +kernel
theorem dX5_take_128 : decode cX5_take 128 = .ok (.iconst 0, 1) := by decide +kernel
theorem dX5_take_129 : decode cX5_take 129 = .ok (.istore_n 3, 1) := by decide +kernel
theorem dX5_take_130 : decode cX5_take 130 = .ok (.iload_n 3, 1) := by decide +kernel
theorem dX5_take_131 : decode cX5_take 131 = .ok (.iconst 4, 1) := by decide +kernel
theorem dX5_take_132 : decode cX5_take 132 = .ok (.if_icmp .ge 24, 3) := by decide +kernel
theorem dX5_take_135 : decode cX5_take 135 = .ok (.aload_n 1, 1) := by decide +kernel
theorem dX5_take_136 : decode cX5_take 136 = .ok (.getfield 79, 3) := by decide +kernel
theorem dX5_take_139 : decode cX5_take 139 = .ok (.iload_n 3, 1) := by decide +kernel
theorem dX5_take_140 : decode cX5_take 140 = .ok (.aload_n 0, 1) := by decide +kernel
theorem dX5_take_141 : decode cX5_take 141 = .ok (.iload_n 2, 1) := by decide +kernel
theorem dX5_take_142 : decode cX5_take 142 = .ok (.iconst 1, 1) := by decide +kernel
theorem dX5_take_143 : decode cX5_take 143 = .ok (.iadd, 1) := by decide +kernel
theorem dX5_take_144 : decode cX5_take 144 = .ok (.iload_n 3, 1) := by decide +kernel
theorem dX5_take_145 : decode cX5_take 145 = .ok (.iadd, 1) := by decide +kernel
theorem dX5_take_146 : decode cX5_take 146 = .ok (.invokevirtual 72, 3) := by decide +kernel
theorem dX5_take_149 : decode cX5_take 149 = .ok (.iastore, 1) := by decide +kernel
theorem dX5_take_150 : decode cX5_take 150 = .ok (.iinc 3 1, 3) := by decide +kernel
theorem dX5_take_153 : decode cX5_take 153 = .ok (.goto (-23), 3) := by decide +kernel
theorem dX5_take_156 : decode cX5_take 156 = .ok (.goto 14, 3) := by decide +kernel
theorem dX5_take_159 : decode cX5_take 159 = .ok (.aload_n 1, 1) := by decide +kernel
theorem dX5_take_160 : decode cX5_take 160 = .ok (.aload_n 0, 1) := by decide +kernel
theorem dX5_take_161 : decode cX5_take 161 = .ok (.iload_n 2, 1) := by decide +kernel
theorem dX5_take_162 : decode cX5_take 162 = .ok (.iconst 1, 1) := by decide +kernel
theorem dX5_take_163 : decode cX5_take 163 = .ok (.iadd, 1) := by decide +kernel
theorem dX5_take_164 : decode cX5_take 164 = .ok (.invokevirtual 72, 3) := by decide +kernel
theorem dX5_take_167 : decode cX5_take 167 = .ok (.putfield 83, 3) := by decide +kernel
theorem dX5_take_170 : decode cX5_take 170 = .ok (.return_, 1) := by decide +kernel
theorem dX6_init_0 : decode cX6_init 0 = .ok (.aload_n 0, 1) := by decide +kernel
theorem dX6_init_1 : decode cX6_init 1 = .ok (.invokespecial 5, 3) := by decide +kernel
theorem dX6_init_4 : decode cX6_init 4 = .ok (.aload_n 0, 1) := by decide +kernel
theorem dX6_init_5 : decode cX6_init 5 = .ok (.bipush 37, 2) := by decide +kernel
theorem dX6_init_7 : decode cX6_init 7 = .ok (.newarray .int, 2) := by decide +kernel
theorem dX6_init_9 : decode cX6_init 9 = .ok (.putfield 11, 3) := by decide +kernel
theorem dX6_init_12 : decode cX6_init 12 = .ok (.aload_n 0, 1) := by decide +kernel
theorem dX6_init_13 : decode cX6_init 13 = .ok (.bipush 37, 2) := by decide +kernel
theorem dX6_init_15 : decode cX6_init 15 = .ok (.newarray .int, 2) := by decide +kernel
theorem dX6_init_17 : decode cX6_init 17 = .ok (.putfield 15, 3) := by decide +kernel
theorem dX6_init_20 : decode cX6_init 20 = .ok (.aload_n 0, 1) := by decide +kernel
theorem dX6_init_21 : decode cX6_init 21 = .ok (.bipush 38, 2) := by decide +kernel
theorem dX6_init_23 : decode cX6_init 23 = .ok (.newarray .int, 2) := by decide +kernel
theorem dX6_init_25 : decode cX6_init 25 = .ok (.putfield 18, 3) := by decide +kernel
theorem dX6_init_28 : decode cX6_init 28 = .ok (.aload_n 0, 1) := by decide +kernel
theorem dX6_init_29 : decode cX6_init 29 = .ok (.bipush 38, 2) := by decide +kernel
theorem dX6_init_31 : decode cX6_init 31 = .ok (.newarray .int, 2) := by decide +kernel
theorem dX6_init_33 : decode cX6_init 33 = .ok (.putfield 21, 3) := by decide +kernel
theorem dX6_init_36 : decode cX6_init 36 = .ok (.aload_n 0, 1) := by decide +kernel
theorem dX6_init_37 : decode cX6_init 37 = .ok (.sipush 266, 3) := by decide +kernel
theorem dX6_init_40 : decode cX6_init 40 = .ok (.newarray .int, 2) := by decide +kernel
theorem dX6_init_42 : decode cX6_init 42 = .ok (.putfield 24, 3) := by decide +kernel
theorem dX6_init_45 : decode cX6_init 45 = .ok (.aload_n 0, 1) := by decide +kernel
theorem dX6_init_46 : decode cX6_init 46 = .ok (.sipush 266, 3) := by decide +kernel
theorem dX6_init_49 : decode cX6_init 49 = .ok (.newarray .int, 2) := by decide +kernel
theorem dX6_init_51 : decode cX6_init 51 = .ok (.putfield 27, 3) := by decide +kernel
theorem dX6_init_54 : decode cX6_init 54 = .ok (.aload_n 0, 1) := by decide +kernel
theorem dX6_init_55 : decode cX6_init 55 = .ok (.bipush 7, 2) := by decide +kernel
theorem dX6_init_57 : decode cX6_init 57 = .ok (.newarray .int, 2) := by decide +kernel
theorem dX6_init_59 : decode cX6_init 59 = .ok (.putfield 30, 3) := by decide +kernel
theorem dX6_init_62 : decode cX6_init 62 = .ok (.return_, 1) := by decide +kernel
theorem dX6_weigh_0 : decode cX6_weigh 0 = .ok (.aload_n 0, 1) := by decide +kernel
theorem dX6_weigh_1 : decode cX6_weigh 1 = .ok (.aload_n 1, 1) := by decide +kernel
theorem dX6_weigh_2 : decode cX6_weigh 2 = .ok (.invokevirtual 33, 3) := by decide +kernel
theorem dX6_weigh_5 : decode cX6_weigh 5 = .ok (.aload_n 0, 1) := by decide +kernel
theorem dX6_weigh_6 : decode cX6_weigh 6 = .ok (.invokevirtual 37, 3) := by decide +kernel
theorem dX6_weigh_9 : decode cX6_weigh 9 = .ok (.iconst 0, 1) := by decide +kernel
theorem dX6_weigh_10 : decode cX6_weigh 10 = .ok (.istore_n 2, 1) := by decide +kernel
theorem dX6_weigh_11 : decode cX6_weigh 11 = .ok (.iload_n 2, 1) := by decide +kernel
theorem dX6_weigh_12 : decode cX6_weigh 12 = .ok (.bipush 6, 2) := by decide +kernel
theorem dX6_weigh_14 : decode cX6_weigh 14 = .ok (.if_icmp .gt 33, 3) := by decide +kernel
theorem dX6_weigh_17 : decode cX6_weigh 17 = .ok (.aload_n 0, 1) := by decide +kernel
theorem dX6_weigh_18 : decode cX6_weigh 18 = .ok (.getfield 24, 3) := by decide +kernel
theorem dX6_weigh_21 : decode cX6_weigh 21 = .ok (.iload_n 2, 1) := by decide +kernel
theorem dX6_weigh_22 : decode cX6_weigh 22 = .ok (.bipush 38, 2) := by decide +kernel
theorem dX6_weigh_24 : decode cX6_weigh 24 = .ok (.imul, 1) := by decide +kernel
theorem dX6_weigh_25 : decode cX6_weigh 25 = .ok (.aload_n 0, 1) := by decide +kernel
theorem dX6_weigh_26 : decode cX6_weigh 26 = .ok (.getfield 40, 3) := by decide +kernel
theorem dX6_weigh_29 : decode cX6_weigh 29 = .ok (.iadd, 1) := by decide +kernel
theorem dX6_weigh_30 : decode cX6_weigh 30 = .ok (.iload_n 2, 1) := by decide +kernel
theorem dX6_weigh_31 : decode cX6_weigh 31 = .ok (.ifCond .ne 7, 3) := by decide +kernel
theorem dX6_weigh_34 : decode cX6_weigh 34 = .ok (.iconst 0, 1) := by decide +kernel
theorem dX6_weigh_35 : decode cX6_weigh 35 = .ok (.goto 5, 3) := by decide +kernel
theorem dX6_weigh_38 : decode cX6_weigh 38 = .ok (.ldc 44, 2) := by decide +kernel
theorem dX6_weigh_40 : decode cX6_weigh 40 = .ok (.iastore, 1) := by decide +kernel
theorem dX6_weigh_41 : decode cX6_weigh 41 = .ok (.iinc 2 1, 3) := by decide +kernel
theorem dX6_weigh_44 : decode cX6_weigh 44 = .ok (.goto (-33), 3) := by decide +kernel
theorem dX6_weigh_47 : decode cX6_weigh 47 = .ok (.aload_n 0, 1) := by decide +kernel
theorem dX6_weigh_48 : decode cX6_weigh 48 = .ok (.getfield 40, 3) := by decide +kernel
theorem dX6_weigh_51 : decode cX6_weigh 51 = .ok (.iconst 1, 1) := by decide +kernel
theorem dX6_weigh_52 : decode cX6_weigh 52 = .ok (.isub, 1) := by decide +kernel
theorem dX6_weigh_53 : decode cX6_weigh 53 = .ok (.istore_n 2, 1) := by decide +kernel
theorem dX6_weigh_54 : decode cX6_weigh 54 = .ok (.iload_n 2, 1) := by decide +kernel
theorem dX6_weigh_55 : decode cX6_weigh 55 = .ok (.ifCond .lt 14, 3) := by decide +kernel
theorem dX6_weigh_58 : decode cX6_weigh 58 = .ok (.aload_n 0, 1) := by decide +kernel
theorem dX6_weigh_59 : decode cX6_weigh 59 = .ok (.iload_n 2, 1) := by decide +kernel
theorem dX6_weigh_60 : decode cX6_weigh 60 = .ok (.invokevirtual 45, 3) := by decide +kernel
theorem dX6_weigh_63 : decode cX6_weigh 63 = .ok (.iinc 2 (-1), 3) := by decide +kernel
theorem dX6_weigh_66 : decode cX6_weigh 66 = .ok (.goto (-12), 3) := by decide +kernel
theorem dX6_weigh_69 : decode cX6_weigh 69 = .ok (.return_, 1) := by decide +kernel
theorem dX6_tallyTones_0 : decode cX6_tallyTones 0 = .ok (.iconst 0, 1) := by decide +kernel
theorem dX6_tallyTones_1 : decode cX6_tallyTones 1 = .ok (.istore_n 2, 1) := by decide +kernel
theorem dX6_tallyTones_2 : decode cX6_tallyTones 2 = .ok (.iload_n 2, 1) := by decide +kernel
theorem dX6_tallyTones_3 : decode cX6_tallyTones 3 = .ok (.bipush 37, 2) := by decide +kernel
theorem dX6_tallyTones_5 : decode cX6_tallyTones 5 = .ok (.if_icmp .ge 16, 3) := by decide +kernel
theorem dX6_tallyTones_8 : decode cX6_tallyTones 8 = .ok (.aload_n 0, 1) := by decide +kernel
theorem dX6_tallyTones_9 : decode cX6_tallyTones 9 = .ok (.getfield 11, 3) := by decide +kernel
theorem dX6_tallyTones_12 : decode cX6_tallyTones 12 = .ok (.iload_n 2, 1) := by decide +kernel
theorem dX6_tallyTones_13 : decode cX6_tallyTones 13 = .ok (.iconst 0, 1) := by decide +kernel
theorem dX6_tallyTones_14 : decode cX6_tallyTones 14 = .ok (.iastore, 1) := by decide +kernel
theorem dX6_tallyTones_15 : decode cX6_tallyTones 15 = .ok (.iinc 2 1, 3) := by decide +kernel
theorem dX6_tallyTones_18 : decode cX6_tallyTones 18 = .ok (.goto (-16), 3) := by decide +kernel
theorem dX6_tallyTones_21 : decode cX6_tallyTones 21 = .ok (.iconst 0, 1) := by decide +kernel
theorem dX6_tallyTones_22 : decode cX6_tallyTones 22 = .ok (.istore_n 2, 1) := by decide +kernel
theorem dX6_tallyTones_23 : decode cX6_tallyTones 23 = .ok (.iload_n 2, 1) := by decide +kernel
theorem dX6_tallyTones_24 : decode cX6_tallyTones 24 = .ok (.bipush 81, 2) := by decide +kernel
theorem dX6_tallyTones_26 : decode cX6_tallyTones 26 = .ok (.if_icmp .ge 73, 3) := by decide +kernel
theorem dX6_tallyTones_29 : decode cX6_tallyTones 29 = .ok (.aload_n 1, 1) := by decide +kernel
theorem dX6_tallyTones_30 : decode cX6_tallyTones 30 = .ok (.getfield 49, 3) := by decide +kernel
theorem dX6_tallyTones_33 : decode cX6_tallyTones 33 = .ok (.iload_n 2, 1) := by decide +kernel
theorem dX6_tallyTones_34 : decode cX6_tallyTones 34 = .ok (.invokevirtual 55, 3) := by decide +kernel
theorem dX6_tallyTones_37 : decode cX6_tallyTones 37 = .ok (.ifCond .eq 56, 3) := by decide +kernel
theorem dX6_tallyTones_40 : decode cX6_tallyTones 40 = .ok (.aload_n 1, 1) := by decide +kernel
theorem dX6_tallyTones_41 : decode cX6_tallyTones 41 = .ok (.getfield 61, 3) := by decide +kernel
theorem dX6_tallyTones_44 : decode cX6_tallyTones 44 = .ok (.aload_n 1, 1) := by decide +kernel
theorem dX6_tallyTones_45 : decode cX6_tallyTones 45 = .ok (.getfield 49, 3) := by decide +kernel
theorem dX6_tallyTones_48 : decode cX6_tallyTones 48 = .ok (.iload_n 2, 1) := by decide +kernel
theorem dX6_tallyTones_49 : decode cX6_tallyTones 49 = .ok (.invokevirtual 64, 3) := by decide +kernel
theorem dX6_tallyTones_52 : decode cX6_tallyTones 52 = .ok (.iconst 3, 1) := by decide +kernel
theorem dX6_tallyTones_53 : decode cX6_tallyTones 53 = .ok (.iand, 1) := by decide +kernel
theorem dX6_tallyTones_54 : decode cX6_tallyTones 54 = .ok (.iaload, 1) := by decide +kernel
theorem dX6_tallyTones_55 : decode cX6_tallyTones 55 = .ok (.istore_n 3, 1) := by decide +kernel
theorem dX6_tallyTones_56 : decode cX6_tallyTones 56 = .ok (.aload_n 1, 1) := by decide +kernel
theorem dX6_tallyTones_57 : decode cX6_tallyTones 57 = .ok (.getfield 49, 3) := by decide +kernel
theorem dX6_tallyTones_60 : decode cX6_tallyTones 60 = .ok (.iload_n 2, 1) := by decide +kernel
theorem dX6_tallyTones_61 : decode cX6_tallyTones 61 = .ok (.iload_n 3, 1) := by decide +kernel
theorem dX6_tallyTones_62 : decode cX6_tallyTones 62 = .ok (.invokevirtual 68, 3) := by decide +kernel
theorem dX6_tallyTones_65 : decode cX6_tallyTones 65 = .ok (.bipush 18, 2) := by decide +kernel
theorem dX6_tallyTones_67 : decode cX6_tallyTones 67 = .ok (.iadd, 1) := by decide +kernel
theorem dX6_tallyTones_68 : decode cX6_tallyTones 68 = .ok (.istore 4, 2) := by decide +kernel
theorem dX6_tallyTones_70 : decode cX6_tallyTones 70 = .ok (.iload 4, 2) := by decide +kernel
theorem dX6_tallyTones_72 : decode cX6_tallyTones 72 = .ok (.ifCond .lt 21, 3) := by decide +kernel
theorem dX6_tallyTones_75 : decode cX6_tallyTones 75 = .ok (.iload 4, 2) := by decide +kernel
theorem dX6_tallyTones_77 : decode cX6_tallyTones 77 = .ok (.bipush 37, 2) := by decide +kernel
theorem dX6_tallyTones_79 : decode cX6_tallyTones 79 = .ok (.if_icmp .ge 14, 3) := by decide +kernel
theorem dX6_tallyTones_82 : decode cX6_tallyTones 82 = .ok (.aload_n 0, 1) := by decide +kernel
theorem dX6_tallyTones_83 : decode cX6_tallyTones 83 = .ok (.getfield 11, 3) := by decide +kernel
theorem dX6_tallyTones_86 : decode cX6_tallyTones 86 = .ok (.iload 4, 2) := by decide +kernel
theorem dX6_tallyTones_88 : decode cX6_tallyTones 88 = .ok (.dup2, 1) := by decide +kernel
theorem dX6_tallyTones_89 : decode cX6_tallyTones 89 = .ok (.iaload, 1) := by decide +kernel
theorem dX6_tallyTones_90 : decode cX6_tallyTones 90 = .ok (.iconst 1, 1) := by decide +kernel
theorem dX6_tallyTones_91 : decode cX6_tallyTones 91 = .ok (.iadd, 1) := by decide +kernel
theorem dX6_tallyTones_92 : decode cX6_tallyTones 92 = .ok (.iastore, 1) := by decide +kernel
theorem dX6_tallyTones_93 : decode cX6_tallyTones 93 = .ok (.iinc 2 1, 3) := by decide +kernel
theorem dX6_tallyTones_96 : decode cX6_tallyTones 96 = .ok (.goto (-73), 3) := by decide +kernel
theorem dX6_tallyTones_99 : decode cX6_tallyTones 99 = .ok (.return_, 1) := by decide +kernel
theorem dX6_lineUpTones_0 : decode cX6_lineUpTones 0 = .ok (.aload_n 0, 1) := by decide +kernel
theorem dX6_lineUpTones_1 : decode cX6_lineUpTones 1 = .ok (.iconst 0, 1) := by decide +kernel
theorem dX6_lineUpTones_2 : decode cX6_lineUpTones 2 = .ok (.putfield 40, 3) := by decide +kernel
theorem dX6_lineUpTones_5 : decode cX6_lineUpTones 5 = .ok (.iconst 0, 1) := by decide +kernel
theorem dX6_lineUpTones_6 : decode cX6_lineUpTones 6 = .ok (.istore_n 1, 1) := by decide +kernel
theorem dX6_lineUpTones_7 : decode cX6_lineUpTones 7 = .ok (.iload_n 1, 1) := by decide +kernel
theorem dX6_lineUpTones_8 : decode cX6_lineUpTones 8 = .ok (.bipush 37, 2) := by decide +kernel
theorem dX6_lineUpTones_10 : decode cX6_lineUpTones 10 = .ok (.if_icmp .ge 99, 3) := by decide +kernel
theorem dX6_lineUpTones_13 : decode cX6_lineUpTones 13 = .ok (.aload_n 0, 1) := by decide +kernel
theorem dX6_lineUpTones_14 : decode cX6_lineUpTones 14 = .ok (.getfield 11, 3) := by decide +kernel
theorem dX6_lineUpTones_17 : decode cX6_lineUpTones 17 = .ok (.iload_n 1, 1) := by decide +kernel
theorem dX6_lineUpTones_18 : decode cX6_lineUpTones 18 = .ok (.iaload, 1) := by decide +kernel
theorem dX6_lineUpTones_19 : decode cX6_lineUpTones 19 = .ok (.ifCond .le 84, 3) := by decide +kernel
theorem dX6_lineUpTones_22 : decode cX6_lineUpTones 22 = .ok (.iload_n 1, 1) := by decide +kernel
theorem dX6_lineUpTones_23 : decode cX6_lineUpTones 23 = .ok (.bipush 18, 2) := by decide +kernel
theorem dX6_lineUpTones_25 : decode cX6_lineUpTones 25 = .ok (.isub, 1) := by decide +kernel
theorem dX6_lineUpTones_26 : decode cX6_lineUpTones 26 = .ok (.istore_n 2, 1) := by decide +kernel
theorem dX6_lineUpTones_27 : decode cX6_lineUpTones 27 = .ok (.aload_n 0, 1) := by decide +kernel
theorem dX6_lineUpTones_28 : decode cX6_lineUpTones 28 = .ok (.getfield 15, 3) := by decide +kernel
theorem dX6_lineUpTones_31 : decode cX6_lineUpTones 31 = .ok (.aload_n 0, 1) := by decide +kernel
theorem dX6_lineUpTones_32 : decode cX6_lineUpTones 32 = .ok (.getfield 40, 3) := by decide +kernel
theorem dX6_lineUpTones_35 : decode cX6_lineUpTones 35 = .ok (.iload_n 2, 1) := by decide +kernel
theorem dX6_lineUpTones_36 : decode cX6_lineUpTones 36 = .ok (.iastore, 1) := by decide +kernel
theorem dX6_lineUpTones_37 : decode cX6_lineUpTones 37 = .ok (.aload_n 0, 1) := by decide +kernel
theorem dX6_lineUpTones_38 : decode cX6_lineUpTones 38 = .ok (.getfield 18, 3) := by decide +kernel
theorem dX6_lineUpTones_41 : decode cX6_lineUpTones 41 = .ok (.aload_n 0, 1) := by decide +kernel
theorem dX6_lineUpTones_42 : decode cX6_lineUpTones 42 = .ok (.getfield 40, 3) := by decide +kernel
theorem dX6_lineUpTones_45 : decode cX6_lineUpTones 45 = .ok (.iconst 1, 1) := by decide +kernel
theorem dX6_lineUpTones_46 : decode cX6_lineUpTones 46 = .ok (.iadd, 1) := by decide +kernel
theorem dX6_lineUpTones_47 : decode cX6_lineUpTones 47 = .ok (.aload_n 0, 1) := by decide +kernel
theorem dX6_lineUpTones_48 : decode cX6_lineUpTones 48 = .ok (.getfield 18, 3) := by decide +kernel
theorem dX6_lineUpTones_51 : decode cX6_lineUpTones 51 = .ok (.aload_n 0, 1) := by decide +kernel
theorem dX6_lineUpTones_52 : decode cX6_lineUpTones 52 = .ok (.getfield 40, 3) := by decide +kernel
theorem dX6_lineUpTones_55 : decode cX6_lineUpTones 55 = .ok (.iaload, 1) := by decide +kernel
theorem dX6_lineUpTones_56 : decode cX6_lineUpTones 56 = .ok (.aload_n 0, 1) := by decide +kernel
theorem dX6_lineUpTones_57 : decode cX6_lineUpTones 57 = .ok (.getfield 11, 3) := by decide +kernel
theorem dX6_lineUpTones_60 : decode cX6_lineUpTones 60 = .ok (.iload_n 1, 1) := by decide +kernel
theorem dX6_lineUpTones_61 : decode cX6_lineUpTones 61 = .ok (.iaload, 1) := by decide +kernel
theorem dX6_lineUpTones_62 : decode cX6_lineUpTones 62 = .ok (.iadd, 1) := by decide +kernel
theorem dX6_lineUpTones_63 : decode cX6_lineUpTones 63 = .ok (.iastore, 1) := by decide +kernel
theorem dX6_lineUpTones_64 : decode cX6_lineUpTones 64 = .ok (.aload_n 0, 1) := by decide +kernel
theorem dX6_lineUpTones_65 : decode cX6_lineUpTones 65 = .ok (.getfield 21, 3) := by decide +kernel
theorem dX6_lineUpTones_68 : decode cX6_lineUpTones 68 = .ok (.aload_n 0, 1) := by decide +kernel
theorem dX6_lineUpTones_69 : decode cX6_lineUpTones 69 = .ok (.getfield 40, 3) := by decide +kernel
theorem dX6_lineUpTones_72 : decode cX6_lineUpTones 72 = .ok (.iconst 1, 1) := by decide +kernel
theorem dX6_lineUpTones_73 : decode cX6_lineUpTones 73 = .ok (.iadd, 1) := by decide +kernel
theorem dX6_lineUpTones_74 : decode cX6_lineUpTones 74 = .ok (.aload_n 0, 1) := by decide +kernel
theorem dX6_lineUpTones_75 : decode cX6_lineUpTones 75 = .ok (.getfield 21, 3) := by decide +kernel
theorem dX6_lineUpTones_78 : decode cX6_lineUpTones 78 = .ok (.aload_n 0, 1) := by decide +kernel
theorem dX6_lineUpTones_79 : decode cX6_lineUpTones 79 = .ok (.getfield 40, 3) := by decide +kernel
theorem dX6_lineUpTones_82 : decode cX6_lineUpTones 82 = .ok (.iaload, 1) := by decide +kernel
theorem dX6_lineUpTones_83 : decode cX6_lineUpTones 83 = .ok (.aload_n 0, 1) := by decide +kernel
theorem dX6_lineUpTones_84 : decode cX6_lineUpTones 84 = .ok (.getfield 11, 3) := by decide +kernel
theorem dX6_lineUpTones_87 : decode cX6_lineUpTones 87 = .ok (.iload_n 1, 1) := by decide +kernel
theorem dX6_lineUpTones_88 : decode cX6_lineUpTones 88 = .ok (.iaload, 1) := by decide +kernel
theorem dX6_lineUpTones_89 : decode cX6_lineUpTones 89 = .ok (.iload_n 2, 1) := by decide +kernel
theorem dX6_lineUpTones_90 : decode cX6_lineUpTones 90 = .ok (.imul, 1) := by decide +kernel
theorem dX6_lineUpTones_91 : decode cX6_lineUpTones 91 = .ok (.iadd, 1) := by decide +kernel
theorem dX6_lineUpTones_92 : decode cX6_lineUpTones 92 = .ok (.iastore, 1) := by decide +kernel
theorem dX6_lineUpTones_93 : decode cX6_lineUpTones 93 = .ok (.aload_n 0, 1) := by decide +kernel
theorem dX6_lineUpTones_94 : decode cX6_lineUpTones 94 = .ok (.dup, 1) := by decide +kernel
theorem dX6_lineUpTones_95 : decode cX6_lineUpTones 95 = .ok (.getfield 40, 3) := by decide +kernel
theorem dX6_lineUpTones_98 : decode cX6_lineUpTones 98 = .ok (.iconst 1, 1) := by decide +kernel
theorem dX6_lineUpTones_99 : decode cX6_lineUpTones 99 = .ok (.iadd, 1) := by decide +kernel
theorem dX6_lineUpTones_100 : decode cX6_lineUpTones 100 = .ok (.putfield 40, 3) := by decide +kernel
theorem dX6_lineUpTones_103 : decode cX6_lineUpTones 103 = .ok (.iinc 1 1, 3) := by decide +kernel
theorem dX6_lineUpTones_106 : decode cX6_lineUpTones 106 = .ok (.goto (-99), 3) := by decide +kernel
theorem dX6_lineUpTones_109 : decode cX6_lineUpTones 109 = .ok (.return_, 1) := by decide +kernel
theorem dX6_seekCutsFrom_0 : decode cX6_seekCutsFrom 0 = .ok (.iconst 0, 1) := by decide +kernel
theorem dX6_seekCutsFrom_1 : decode cX6_seekCutsFrom 1 = .ok (.istore_n 2, 1) := by decide +kernel
theorem dX6_seekCutsFrom_2 : decode cX6_seekCutsFrom 2 = .ok (.iload_n 2, 1) := by decide +kernel
theorem dX6_seekCutsFrom_3 : decode cX6_seekCutsFrom 3 = .ok (.bipush 6, 2) := by decide +kernel
theorem dX6_seekCutsFrom_5 : decode cX6_seekCutsFrom 5 = .ok (.if_icmp .gt 22, 3) := by decide +kernel
theorem dX6_seekCutsFrom_8 : decode cX6_seekCutsFrom 8 = .ok (.aload_n 0, 1) := by decide +kernel
theorem dX6_seekCutsFrom_9 : decode cX6_seekCutsFrom 9 = .ok (.getfield 24, 3) := by decide +kernel
theorem dX6_seekCutsFrom_12 : decode cX6_seekCutsFrom 12 = .ok (.iload_n 2, 1) := by decide +kernel
theorem dX6_seekCutsFrom_13 : decode cX6_seekCutsFrom 13 = .ok (.bipush 38, 2) := by decide +kernel
theorem dX6_seekCutsFrom_15 : decode cX6_seekCutsFrom 15 = .ok (.imul, 1) := by decide +kernel
theorem dX6_seekCutsFrom_16 : decode cX6_seekCutsFrom 16 = .ok (.iload_n 1, 1) := by decide +kernel
theorem dX6_seekCutsFrom_17 : decode cX6_seekCutsFrom 17 = .ok (.iadd, 1) := by decide +kernel
theorem dX6_seekCutsFrom_18 : decode cX6_seekCutsFrom 18 = .ok (.ldc 44, 2) := by decide +kernel
theorem dX6_seekCutsFrom_20 : decode cX6_seekCutsFrom 20 = .ok (.iastore, 1) := by decide +kernel
theorem dX6_seekCutsFrom_21 : decode cX6_seekCutsFrom 21 = .ok (.iinc 2 1, 3) := by decide +kernel
theorem dX6_seekCutsFrom_24 : decode cX6_seekCutsFrom 24 = .ok (.goto (-22), 3) := by decide +kernel
theorem dX6_seekCutsFrom_27 : decode cX6_seekCutsFrom 27 = .ok (.iload_n 1, 1) := by decide +kernel
theorem dX6_seekCutsFrom_28 : decode cX6_seekCutsFrom 28 = .ok (.istore_n 2, 1) := by decide +kernel
theorem dX6_seekCutsFrom_29 : decode cX6_seekCutsFrom 29 = .ok (.iload_n 1, 1) := by decide +kernel
theorem dX6_seekCutsFrom_30 : decode cX6_seekCutsFrom 30 = .ok (.iconst 1, 1) := by decide +kernel
theorem dX6_seekCutsFrom_31 : decode cX6_seekCutsFrom 31 = .ok (.iadd, 1) := by decide +kernel
theorem dX6_seekCutsFrom_32 : decode cX6_seekCutsFrom 32 = .ok (.istore_n 3, 1) := by decide +kernel
theorem dX6_seekCutsFrom_33 : decode cX6_seekCutsFrom 33 = .ok (.iload_n 3, 1) := by decide +kernel
theorem dX6_seekCutsFrom_34 : decode cX6_seekCutsFrom 34 = .ok (.aload_n 0, 1) := by decide +kernel
theorem dX6_seekCutsFrom_35 : decode cX6_seekCutsFrom 35 = .ok (.getfield 40, 3) := by decide +kernel
theorem dX6_seekCutsFrom_38 : decode cX6_seekCutsFrom 38 = .ok (.if_icmp .gt 105, 3) := by decide +kernel
theorem dX6_seekCutsFrom_41 : decode cX6_seekCutsFrom 41 = .ok (.aload_n 0, 1) := by decide +kernel
theorem dX6_seekCutsFrom_42 : decode cX6_seekCutsFrom 42 = .ok (.iload_n 1, 1) := by decide +kernel
theorem dX6_seekCutsFrom_43 : decode cX6_seekCutsFrom 43 = .ok (.iload_n 3, 1) := by decide +kernel
theorem dX6_seekCutsFrom_44 : decode cX6_seekCutsFrom 44 = .ok (.iload_n 2, 1) := by decide +kernel
theorem dX6_seekCutsFrom_45 : decode cX6_seekCutsFrom 45 = .ok (.invokevirtual 72, 3) := by decide +kernel
theorem dX6_seekCutsFrom_48 : decode cX6_seekCutsFrom 48 = .ok (.istore_n 2, 1) := by decide +kernel
theorem dX6_seekCutsFrom_49 : decode cX6_seekCutsFrom 49 = .ok (.aload_n 0, 1) := by decide +kernel
theorem dX6_seekCutsFrom_50 : decode cX6_seekCutsFrom 50 = .ok (.iload_n 1, 1) := by decide +kernel
theorem dX6_seekCutsFrom_51 : decode cX6_seekCutsFrom 51 = .ok (.iload_n 3, 1) := by decide +kernel
theorem dX6_seekCutsFrom_52 : decode cX6_seekCutsFrom 52 = .ok (.iload_n 2, 1) := by decide +kernel
theorem dX6_seekCutsFrom_53 : decode cX6_seekCutsFrom 53 = .ok (.invokevirtual 76, 3) := by decide +kernel
theorem dX6_seekCutsFrom_56 : decode cX6_seekCutsFrom 56 = .ok (.istore 4, 2) := by decide +kernel
theorem dX6_seekCutsFrom_58 : decode cX6_seekCutsFrom 58 = .ok (.iconst 1, 1) := by decide +kernel
theorem dX6_seekCutsFrom_59 : decode cX6_seekCutsFrom 59 = .ok (.istore 5, 2) := by decide +kernel
theorem dX6_seekCutsFrom_61 : decode cX6_seekCutsFrom 61 = .ok (.iload 5, 2) := by decide +kernel
theorem dX6_seekCutsFrom_63 : decode cX6_seekCutsFrom 63 = .ok (.bipush 6, 2) := by decide +kernel
theorem dX6_seekCutsFrom_65 : decode cX6_seekCutsFrom 65 = .ok (.if_icmp .gt 72, 3) := by decide +kernel
theorem dX6_seekCutsFrom_68 : decode cX6_seekCutsFrom 68 = .ok (.iload 4, 2) := by decide +kernel
theorem dX6_seekCutsFrom_70 : decode cX6_seekCutsFrom 70 = .ok (.aload_n 0, 1) := by decide +kernel
theorem dX6_seekCutsFrom_71 : decode cX6_seekCutsFrom 71 = .ok (.getfield 24, 3) := by decide +kernel
theorem dX6_seekCutsFrom_74 : decode cX6_seekCutsFrom 74 = .ok (.iload 5, 2) := by decide +kernel
theorem dX6_seekCutsFrom_76 : decode cX6_seekCutsFrom 76 = .ok (.iconst 1, 1) := by decide +kernel
theorem dX6_seekCutsFrom_77 : decode cX6_seekCutsFrom 77 = .ok (.isub, 1) := by decide +kernel
theorem dX6_seekCutsFrom_78 : decode cX6_seekCutsFrom 78 = .ok (.bipush 38, 2) := by decide +kernel
theorem dX6_seekCutsFrom_80 : decode cX6_seekCutsFrom 80 = .ok (.imul, 1) := by decide +kernel
theorem dX6_seekCutsFrom_81 : decode cX6_seekCutsFrom 81 = .ok (.iload_n 3, 1) := by decide +kernel
theorem dX6_seekCutsFrom_82 : decode cX6_seekCutsFrom 82 = .ok (.iadd, 1) := by decide +kernel
theorem dX6_seekCutsFrom_83 : decode cX6_seekCutsFrom 83 = .ok (.iaload, 1) := by decide +kernel
theorem dX6_seekCutsFrom_84 : decode cX6_seekCutsFrom 84 = .ok (.iadd, 1) := by decide +kernel
theorem dX6_seekCutsFrom_85 : decode cX6_seekCutsFrom 85 = .ok (.istore 6, 2) := by decide +kernel
theorem dX6_seekCutsFrom_87 : decode cX6_seekCutsFrom 87 = .ok (.iload 6, 2) := by decide +kernel
theorem dX6_seekCutsFrom_89 : decode cX6_seekCutsFrom 89 = .ok (.aload_n 0, 1) := by decide +kernel
theorem dX6_seekCutsFrom_90 : decode cX6_seekCutsFrom 90 = .ok (.getfield 24, 3) := by decide +kernel
theorem dX6_seekCutsFrom_93 : decode cX6_seekCutsFrom 93 = .ok (.iload 5, 2) := by decide +kernel
theorem dX6_seekCutsFrom_95 : decode cX6_seekCutsFrom 95 = .ok (.bipush 38, 2) := by decide +kernel
theorem dX6_seekCutsFrom_97 : decode cX6_seekCutsFrom 97 = .ok (.imul, 1) := by decide +kernel
theorem dX6_seekCutsFrom_98 : decode cX6_seekCutsFrom 98 = .ok (.iload_n 1, 1) := by decide +kernel
theorem dX6_seekCutsFrom_99 : decode cX6_seekCutsFrom 99 = .ok (.iadd, 1) := by decide +kernel
theorem dX6_seekCutsFrom_100 : decode cX6_seekCutsFrom 100 = .ok (.iaload, 1) := by decide +kernel
theorem dX6_seekCutsFrom_101 : decode cX6_seekCutsFrom 101 = .ok (.if_icmp .ge 30, 3) := by decide +kernel
theorem dX6_seekCutsFrom_104 : decode cX6_seekCutsFrom 104 = .ok (.aload_n 0, 1) := by decide +kernel
theorem dX6_seekCutsFrom_105 : decode cX6_seekCutsFrom 105 = .ok (.getfield 24, 3) := by decide +kernel
theorem dX6_seekCutsFrom_108 : decode cX6_seekCutsFrom 108 = .ok (.iload 5, 2) := by decide +kernel
theorem dX6_seekCutsFrom_110 : decode cX6_seekCutsFrom 110 = .ok (.bipush 38, 2) := by decide +kernel
theorem dX6_seekCutsFrom_112 : decode cX6_seekCutsFrom 112 = .ok (.imul, 1) := by decide +kernel
theorem dX6_seekCutsFrom_113 : decode cX6_seekCutsFrom 113 = .ok (.iload_n 1, 1) := by decide +kernel
theorem dX6_seekCutsFrom_114 : decode cX6_seekCutsFrom 114 = .ok (.iadd, 1) := by decide +kernel
theorem dX6_seekCutsFrom_115 : decode cX6_seekCutsFrom 115 = .ok (.iload 6, 2) := by decide +kernel
theorem dX6_seekCutsFrom_117 : decode cX6_seekCutsFrom 117 = .ok (.iastore, 1) := by decide +kernel
theorem dX6_seekCutsFrom_118 : decode cX6_seekCutsFrom 118 = .ok (.aload_n 0, 1) := by decide +kernel
theorem dX6_seekCutsFrom_119 : decode cX6_seekCutsFrom 119 = .ok (.getfield 27, 3) := by decide +kernel
theorem dX6_seekCutsFrom_122 : decode cX6_seekCutsFrom 122 = .ok (.iload 5, 2) := by decide +kernel
theorem dX6_seekCutsFrom_124 : decode cX6_seekCutsFrom 124 = .ok (.bipush 38, 2) := by decide +kernel
theorem dX6_seekCutsFrom_126 : decode cX6_seekCutsFrom 126 = .ok (.imul, 1) := by decide +kernel
theorem dX6_seekCutsFrom_127 : decode cX6_seekCutsFrom 127 = .ok (.iload_n 1, 1) := by decide +kernel
theorem dX6_seekCutsFrom_128 : decode cX6_seekCutsFrom 128 = .ok (.iadd, 1) := by decide +kernel
theorem dX6_seekCutsFrom_129 : decode cX6_seekCutsFrom 129 = .ok (.iload_n 3, 1) := by decide +kernel
theorem dX6_seekCutsFrom_130 : decode cX6_seekCutsFrom 130 = .ok (.iastore, 1) := by decide +kernel
theorem dX6_seekCutsFrom_131 : decode cX6_seekCutsFrom 131 = .ok (.iinc 5 1, 3) := by decide +kernel
theorem dX6_seekCutsFrom_134 : decode cX6_seekCutsFrom 134 = .ok (.goto (-73), 3) := by decide +kernel
theorem dX6_seekCutsFrom_137 : decode cX6_seekCutsFrom 137 = .ok (.iinc 3 1, 3) := by decide +kernel
theorem dX6_seekCutsFrom_140 : decode cX6_seekCutsFrom 140 = .ok (.goto (-107), 3) := by decide +kernel
theorem dX6_seekCutsFrom_143 : decode cX6_seekCutsFrom 143 = .ok (.return_, 1) := by decide +kernel
theorem dX6_middlePlace_0 : decode cX6_middlePlace 0 = .ok (.aload_n 0, 1) := by decide +kernel
theorem dX6_middlePlace_1 : decode cX6_middlePlace 1 = .ok (.getfield 18, 3) := by decide +kernel
theorem dX6_middlePlace_4 : decode cX6_middlePlace 4 = .ok (.iload_n 2, 1) := by decide +kernel
theorem dX6_middlePlace_5 : decode cX6_middlePlace 5 = .ok (.iaload, 1) := by decide +kernel
theorem dX6_middlePlace_6 : decode cX6_middlePlace 6 = .ok (.aload_n 0, 1) := by decide +kernel
theorem dX6_middlePlace_7 : decode cX6_middlePlace 7 = .ok (.getfield 18, 3) := by decide +kernel
theorem dX6_middlePlace_10 : decode cX6_middlePlace 10 = .ok (.iload_n 1, 1) := by decide +kernel
theorem dX6_middlePlace_11 : decode cX6_middlePlace 11 = .ok (.iaload, 1) := by decide +kernel
theorem dX6_middlePlace_12 : decode cX6_middlePlace 12 = .ok (.isub, 1) := by decide +kernel
theorem dX6_middlePlace_13 : decode cX6_middlePlace 13 = .ok (.iconst 1, 1) := by decide +kernel
theorem dX6_middlePlace_14 : decode cX6_middlePlace 14 = .ok (.iadd, 1) := by decide +kernel
theorem dX6_middlePlace_15 : decode cX6_middlePlace 15 = .ok (.iconst 2, 1) := by decide +kernel
theorem dX6_middlePlace_16 : decode cX6_middlePlace 16 = .ok (.idiv, 1) := by decide +kernel
theorem dX6_middlePlace_17 : decode cX6_middlePlace 17 = .ok (.istore 4, 2) := by decide +kernel
theorem dX6_middlePlace_19 : decode cX6_middlePlace 19 = .ok (.iload_n 3, 1) := by decide +kernel
theorem dX6_middlePlace_20 : decode cX6_middlePlace 20 = .ok (.istore 5, 2) := by decide +kernel
theorem dX6_middlePlace_22 : decode cX6_middlePlace 22 = .ok (.iload 5, 2) := by decide +kernel
theorem dX6_middlePlace_24 : decode cX6_middlePlace 24 = .ok (.iload_n 2, 1) := by decide +kernel
theorem dX6_middlePlace_25 : decode cX6_middlePlace 25 = .ok (.iconst 1, 1) := by decide +kernel
theorem dX6_middlePlace_26 : decode cX6_middlePlace 26 = .ok (.isub, 1) := by decide +kernel
theorem dX6_middlePlace_27 : decode cX6_middlePlace 27 = .ok (.if_icmp .ge 30, 3) := by decide +kernel
theorem dX6_middlePlace_30 : decode cX6_middlePlace 30 = .ok (.aload_n 0, 1) := by decide +kernel
theorem dX6_middlePlace_31 : decode cX6_middlePlace 31 = .ok (.getfield 18, 3) := by decide +kernel
theorem dX6_middlePlace_34 : decode cX6_middlePlace 34 = .ok (.iload 5, 2) := by decide +kernel
theorem dX6_middlePlace_36 : decode cX6_middlePlace 36 = .ok (.iconst 1, 1) := by decide +kernel
theorem dX6_middlePlace_37 : decode cX6_middlePlace 37 = .ok (.iadd, 1) := by decide +kernel
theorem dX6_middlePlace_38 : decode cX6_middlePlace 38 = .ok (.iaload, 1) := by decide +kernel
theorem dX6_middlePlace_39 : decode cX6_middlePlace 39 = .ok (.aload_n 0, 1) := by decide +kernel
theorem dX6_middlePlace_40 : decode cX6_middlePlace 40 = .ok (.getfield 18, 3) := by decide +kernel
theorem dX6_middlePlace_43 : decode cX6_middlePlace 43 = .ok (.iload_n 1, 1) := by decide +kernel
theorem dX6_middlePlace_44 : decode cX6_middlePlace 44 = .ok (.iaload, 1) := by decide +kernel
theorem dX6_middlePlace_45 : decode cX6_middlePlace 45 = .ok (.isub, 1) := by decide +kernel
theorem dX6_middlePlace_46 : decode cX6_middlePlace 46 = .ok (.iload 4, 2) := by decide +kernel
theorem dX6_middlePlace_48 : decode cX6_middlePlace 48 = .ok (.if_icmp .ge 9, 3) := by decide +kernel
theorem dX6_middlePlace_51 : decode cX6_middlePlace 51 = .ok (.iinc 5 1, 3) := by decide +kernel
theorem dX6_middlePlace_54 : decode cX6_middlePlace 54 = .ok (.goto (-32), 3) := by decide +kernel
theorem dX6_middlePlace_57 : decode cX6_middlePlace 57 = .ok (.iload 5, 2) := by decide +kernel
theorem dX6_middlePlace_59 : decode cX6_middlePlace 59 = .ok (.ireturn, 1) := by decide +kernel
theorem dX6_groupError_0 : decode cX6_groupError 0 = .ok (.aload_n 0, 1) := by decide +kernel
theorem dX6_groupError_1 : decode cX6_groupError 1 = .ok (.getfield 15, 3) := by decide +kernel
theorem dX6_groupError_4 : decode cX6_groupError 4 = .ok (.iload_n 3, 1) := by decide +kernel
theorem dX6_groupError_5 : decode cX6_groupError 5 = .ok (.iaload, 1) := by decide +kernel
theorem dX6_groupError_6 : decode cX6_groupError 6 = .ok (.istore 4, 2) := by decide +kernel
theorem dX6_groupError_8 : decode cX6_groupError 8 = .ok (.iload 4, 2) := by decide +kernel
theorem dX6_groupError_10 : decode cX6_groupError 10 = .ok (.aload_n 0, 1) := by decide +kernel
theorem dX6_groupError_11 : decode cX6_groupError 11 = .ok (.getfield 18, 3) := by decide +kernel
theorem dX6_groupError_14 : decode cX6_groupError 14 = .ok (.iload_n 3, 1) := by decide +kernel
theorem dX6_groupError_15 : decode cX6_groupError 15 = .ok (.iaload, 1) := by decide +kernel
theorem dX6_groupError_16 : decode cX6_groupError 16 = .ok (.aload_n 0, 1) := by decide +kernel
theorem dX6_groupError_17 : decode cX6_groupError 17 = .ok (.getfield 18, 3) := by decide +kernel
theorem dX6_groupError_20 : decode cX6_groupError 20 = .ok (.iload_n 1, 1) := by decide +kernel
theorem dX6_groupError_21 : decode cX6_groupError 21 = .ok (.iaload, 1) := by decide +kernel
theorem dX6_groupError_22 : decode cX6_groupError 22 = .ok (.isub, 1) := by decide +kernel
theorem dX6_groupError_23 : decode cX6_groupError 23 = .ok (.imul, 1) := by decide +kernel
theorem dX6_groupError_24 : decode cX6_groupError 24 = .ok (.aload_n 0, 1) := by decide +kernel
theorem dX6_groupError_25 : decode cX6_groupError 25 = .ok (.getfield 21, 3) := by decide +kernel
theorem dX6_groupError_28 : decode cX6_groupError 28 = .ok (.iload_n 3, 1) := by decide +kernel
theorem dX6_groupError_29 : decode cX6_groupError 29 = .ok (.iaload, 1) := by decide +kernel
theorem dX6_groupError_30 : decode cX6_groupError 30 = .ok (.aload_n 0, 1) := by decide +kernel
theorem dX6_groupError_31 : decode cX6_groupError 31 = .ok (.getfield 21, 3) := by decide +kernel
theorem dX6_groupError_34 : decode cX6_groupError 34 = .ok (.iload_n 1, 1) := by decide +kernel
theorem dX6_groupError_35 : decode cX6_groupError 35 = .ok (.iaload, 1) := by decide +kernel
theorem dX6_groupError_36 : decode cX6_groupError 36 = .ok (.isub, 1) := by decide +kernel
theorem dX6_groupError_37 : decode cX6_groupError 37 = .ok (.isub, 1) := by decide +kernel
theorem dX6_groupError_38 : decode cX6_groupError 38 = .ok (.istore 5, 2) := by decide +kernel
theorem dX6_groupError_40 : decode cX6_groupError 40 = .ok (.aload_n 0, 1) := by decide +kernel
theorem dX6_groupError_41 : decode cX6_groupError 41 = .ok (.getfield 21, 3) := by decide +kernel
theorem dX6_groupError_44 : decode cX6_groupError 44 = .ok (.iload_n 2, 1) := by decide +kernel
theorem dX6_groupError_45 : decode cX6_groupError 45 = .ok (.iaload, 1) := by decide +kernel
theorem dX6_groupError_46 : decode cX6_groupError 46 = .ok (.aload_n 0, 1) := by decide +kernel
theorem dX6_groupError_47 : decode cX6_groupError 47 = .ok (.getfield 21, 3) := by decide +kernel
theorem dX6_groupError_50 : decode cX6_groupError 50 = .ok (.iload_n 3, 1) := by decide +kernel
theorem dX6_groupError_51 : decode cX6_groupError 51 = .ok (.iaload, 1) := by decide +kernel
theorem dX6_groupError_52 : decode cX6_groupError 52 = .ok (.isub, 1) := by decide +kernel
theorem dX6_groupError_53 : decode cX6_groupError 53 = .ok (.iload 4, 2) := by decide +kernel
theorem dX6_groupError_55 : decode cX6_groupError 55 = .ok (.aload_n 0, 1) := by decide +kernel
theorem dX6_groupError_56 : decode cX6_groupError 56 = .ok (.getfield 18, 3) := by decide +kernel
theorem dX6_groupError_59 : decode cX6_groupError 59 = .ok (.iload_n 2, 1) := by decide +kernel
theorem dX6_groupError_60 : decode cX6_groupError 60 = .ok (.iaload, 1) := by decide +kernel
theorem dX6_groupError_61 : decode cX6_groupError 61 = .ok (.aload_n 0, 1) := by decide +kernel
theorem dX6_groupError_62 : decode cX6_groupError 62 = .ok (.getfield 18, 3) := by decide +kernel
theorem dX6_groupError_65 : decode cX6_groupError 65 = .ok (.iload_n 3, 1) := by decide +kernel
theorem dX6_groupError_66 : decode cX6_groupError 66 = .ok (.iaload, 1) := by decide +kernel
theorem dX6_groupError_67 : decode cX6_groupError 67 = .ok (.isub, 1) := by decide +kernel
theorem dX6_groupError_68 : decode cX6_groupError 68 = .ok (.imul, 1) := by decide +kernel
theorem dX6_groupError_69 : decode cX6_groupError 69 = .ok (.isub, 1) := by decide +kernel
theorem dX6_groupError_70 : decode cX6_groupError 70 = .ok (.istore 6, 2) := by decide +kernel
theorem dX6_groupError_72 : decode cX6_groupError 72 = .ok (.iload 5, 2) := by decide +kernel
theorem dX6_groupError_74 : decode cX6_groupError 74 = .ok (.iload 6, 2) := by decide +kernel
theorem dX6_groupError_76 : decode cX6_groupError 76 = .ok (.iadd, 1) := by decide +kernel
theorem dX6_groupError_77 : decode cX6_groupError 77 = .ok (.ireturn, 1) := by decide +kernel
theorem dX6_groupsFor_0 : decode cX6_groupsFor 0 = .ok (.iconst 0, 1) := by decide +kernel
theorem dX6_groupsFor_1 : decode cX6_groupsFor 1 = .ok (.iload_n 1, 1) := by decide +kernel
theorem dX6_groupsFor_2 : decode cX6_groupsFor 2 = .ok (.aload_n 0, 1) := by decide +kernel
theorem dX6_groupsFor_3 : decode cX6_groupsFor 3 = .ok (.getfield 40, 3) := by decide +kernel
theorem dX6_groupsFor_6 : decode cX6_groupsFor 6 = .ok (.invokestatic 79, 3) := by decide +kernel
theorem dX6_groupsFor_9 : decode cX6_groupsFor 9 = .ok (.bipush 6, 2) := by decide +kernel
theorem dX6_groupsFor_11 : decode cX6_groupsFor 11 = .ok (.invokestatic 79, 3) := by decide +kernel
theorem dX6_groupsFor_14 : decode cX6_groupsFor 14 = .ok (.invokestatic 84, 3) := by decide +kernel
theorem dX6_groupsFor_17 : decode cX6_groupsFor 17 = .ok (.ireturn, 1) := by decide +kernel
theorem dX6_leastError_0 : decode cX6_leastError 0 = .ok (.aload_n 0, 1) := by decide +kernel
theorem dX6_leastError_1 : decode cX6_leastError 1 = .ok (.getfield 24, 3) := by decide +kernel
theorem dX6_leastError_4 : decode cX6_leastError 4 = .ok (.aload_n 0, 1) := by decide +kernel
theorem dX6_leastError_5 : decode cX6_leastError 5 = .ok (.iload_n 1, 1) := by decide +kernel
theorem dX6_leastError_6 : decode cX6_leastError 6 = .ok (.invokevirtual 87, 3) := by decide +kernel
theorem dX6_leastError_9 : decode cX6_leastError 9 = .ok (.bipush 38, 2) := by decide +kernel
theorem dX6_leastError_11 : decode cX6_leastError 11 = .ok (.imul, 1) := by decide +kernel
theorem dX6_leastError_12 : decode cX6_leastError 12 = .ok (.iaload, 1) := by decide +kernel
theorem dX6_leastError_13 : decode cX6_leastError 13 = .ok (.ireturn, 1) := by decide +kernel
theorem dX6_cutInto_0 : decode cX6_cutInto 0 = .ok (.aload_n 0, 1) := by decide +kernel
theorem dX6_cutInto_1 : decode cX6_cutInto 1 = .ok (.aload_n 0, 1) := by decide +kernel
theorem dX6_cutInto_2 : decode cX6_cutInto 2 = .ok (.iload_n 1, 1) := by decide +kernel
theorem dX6_cutInto_3 : decode cX6_cutInto 3 = .ok (.invokevirtual 87, 3) := by decide +kernel
theorem dX6_cutInto_6 : decode cX6_cutInto 6 = .ok (.putfield 90, 3) := by decide +kernel
theorem dX6_cutInto_9 : decode cX6_cutInto 9 = .ok (.iconst 0, 1) := by decide +kernel
theorem dX6_cutInto_10 : decode cX6_cutInto 10 = .ok (.istore_n 2, 1) := by decide +kernel
theorem dX6_cutInto_11 : decode cX6_cutInto 11 = .ok (.iconst 0, 1) := by decide +kernel
theorem dX6_cutInto_12 : decode cX6_cutInto 12 = .ok (.istore_n 3, 1) := by decide +kernel
theorem dX6_cutInto_13 : decode cX6_cutInto 13 = .ok (.iload_n 3, 1) := by decide +kernel
theorem dX6_cutInto_14 : decode cX6_cutInto 14 = .ok (.aload_n 0, 1) := by decide +kernel
theorem dX6_cutInto_15 : decode cX6_cutInto 15 = .ok (.getfield 90, 3) := by decide +kernel
theorem dX6_cutInto_18 : decode cX6_cutInto 18 = .ok (.if_icmp .ge 33, 3) := by decide +kernel
theorem dX6_cutInto_21 : decode cX6_cutInto 21 = .ok (.aload_n 0, 1) := by decide +kernel
theorem dX6_cutInto_22 : decode cX6_cutInto 22 = .ok (.getfield 30, 3) := by decide +kernel
theorem dX6_cutInto_25 : decode cX6_cutInto 25 = .ok (.iload_n 3, 1) := by decide +kernel
theorem dX6_cutInto_26 : decode cX6_cutInto 26 = .ok (.iload_n 2, 1) := by decide +kernel
theorem dX6_cutInto_27 : decode cX6_cutInto 27 = .ok (.iastore, 1) := by decide +kernel
theorem dX6_cutInto_28 : decode cX6_cutInto 28 = .ok (.aload_n 0, 1) := by decide +kernel
theorem dX6_cutInto_29 : decode cX6_cutInto 29 = .ok (.getfield 27, 3) := by decide +kernel
theorem dX6_cutInto_32 : decode cX6_cutInto 32 = .ok (.aload_n 0, 1) := by decide +kernel
theorem dX6_cutInto_33 : decode cX6_cutInto 33 = .ok (.getfield 90, 3) := by decide +kernel
theorem dX6_cutInto_36 : decode cX6_cutInto 36 = .ok (.iload_n 3, 1) := by decide +kernel
theorem dX6_cutInto_37 : decode cX6_cutInto 37 = .ok (.isub, 1) := by decide +kernel
theorem dX6_cutInto_38 : decode cX6_cutInto 38 = .ok (.bipush 38, 2) := by decide +kernel
theorem dX6_cutInto_40 : decode cX6_cutInto 40 = .ok (.imul, 1) := by decide +kernel
theorem dX6_cutInto_41 : decode cX6_cutInto 41 = .ok (.iload_n 2, 1) := by decide +kernel
theorem dX6_cutInto_42 : decode cX6_cutInto 42 = .ok (.iadd, 1) := by decide +kernel
theorem dX6_cutInto_43 : decode cX6_cutInto 43 = .ok (.iaload, 1) := by decide +kernel
theorem dX6_cutInto_44 : decode cX6_cutInto 44 = .ok (.istore_n 2, 1) := by decide +kernel
theorem dX6_cutInto_45 : decode cX6_cutInto 45 = .ok (.iinc 3 1, 3) := by decide +kernel
theorem dX6_cutInto_48 : decode cX6_cutInto 48 = .ok (.goto (-35), 3) := by decide +kernel
theorem dX6_cutInto_51 : decode cX6_cutInto 51 = .ok (.aload_n 0, 1) := by decide +kernel
theorem dX6_cutInto_52 : decode cX6_cutInto 52 = .ok (.getfield 30, 3) := by decide +kernel
theorem dX6_cutInto_55 : decode cX6_cutInto 55 = .ok (.aload_n 0, 1) := by decide +kernel
theorem dX6_cutInto_56 : decode cX6_cutInto 56 = .ok (.getfield 90, 3) := by decide +kernel
theorem dX6_cutInto_59 : decode cX6_cutInto 59 = .ok (.iload_n 2, 1) := by decide +kernel
theorem dX6_cutInto_60 : decode cX6_cutInto 60 = .ok (.iastore, 1) := by decide +kernel
theorem dX6_cutInto_61 : decode cX6_cutInto 61 = .ok (.return_, 1) := by decide +kernel
theorem dX6_mark_0 : decode cX6_mark 0 = .ok (.iload_n 1, 1) := by decide +kernel
theorem dX6_mark_1 : decode cX6_mark 1 = .ok (.ifCond .lt 11, 3) := by decide +kernel
theorem dX6_mark_4 : decode cX6_mark 4 = .ok (.iload_n 1, 1) := by decide +kernel
theorem dX6_mark_5 : decode cX6_mark 5 = .ok (.aload_n 0, 1) := by decide +kernel
theorem dX6_mark_6 : decode cX6_mark 6 = .ok (.getfield 90, 3) := by decide +kernel
theorem dX6_mark_9 : decode cX6_mark 9 = .ok (.if_icmp .lt 5, 3) := by decide +kernel
theorem dX6_mark_12 : decode cX6_mark 12 = .ok (.iconst 0, 1) := by decide +kernel
theorem dX6_mark_13 : decode cX6_mark 13 = .ok (.ireturn, 1) := by decide +kernel
theorem dX6_mark_14 : decode cX6_mark 14 = .ok (.aload_n 0, 1) := by decide +kernel
theorem dX6_mark_15 : decode cX6_mark 15 = .ok (.getfield 15, 3) := by decide +kernel
theorem dX6_mark_18 : decode cX6_mark 18 = .ok (.aload_n 0, 1) := by decide +kernel
theorem dX6_mark_19 : decode cX6_mark 19 = .ok (.aload_n 0, 1) := by decide +kernel
theorem dX6_mark_20 : decode cX6_mark 20 = .ok (.getfield 30, 3) := by decide +kernel
theorem dX6_mark_23 : decode cX6_mark 23 = .ok (.iload_n 1, 1) := by decide +kernel
theorem dX6_mark_24 : decode cX6_mark 24 = .ok (.iaload, 1) := by decide +kernel
theorem dX6_mark_25 : decode cX6_mark 25 = .ok (.aload_n 0, 1) := by decide +kernel
theorem dX6_mark_26 : decode cX6_mark 26 = .ok (.getfield 30, 3) := by decide +kernel
theorem dX6_mark_29 : decode cX6_mark 29 = .ok (.iload_n 1, 1) := by decide +kernel
theorem dX6_mark_30 : decode cX6_mark 30 = .ok (.iconst 1, 1) := by decide +kernel
theorem dX6_mark_31 : decode cX6_mark 31 = .ok (.iadd, 1) := by decide +kernel
theorem dX6_mark_32 : decode cX6_mark 32 = .ok (.iaload, 1) := by decide +kernel
theorem dX6_mark_33 : decode cX6_mark 33 = .ok (.aload_n 0, 1) := by decide +kernel
theorem dX6_mark_34 : decode cX6_mark 34 = .ok (.getfield 30, 3) := by decide +kernel
theorem dX6_mark_37 : decode cX6_mark 37 = .ok (.iload_n 1, 1) := by decide +kernel
theorem dX6_mark_38 : decode cX6_mark 38 = .ok (.iaload, 1) := by decide +kernel
theorem dX6_mark_39 : decode cX6_mark 39 = .ok (.invokevirtual 72, 3) := by decide +kernel
theorem dX6_mark_42 : decode cX6_mark 42 = .ok (.iaload, 1) := by decide +kernel
theorem dX6_mark_43 : decode cX6_mark 43 = .ok (.ireturn, 1) := by decide +kernel
theorem dX6_groupOf_0 : decode cX6_groupOf 0 = .ok (.iconst 0, 1) := by decide +kernel
theorem dX6_groupOf_1 : decode cX6_groupOf 1 = .ok (.istore_n 2, 1) := by decide +kernel
theorem dX6_groupOf_2 : decode cX6_groupOf 2 = .ok (.iconst 0, 1) := by decide +kernel
theorem dX6_groupOf_3 : decode cX6_groupOf 3 = .ok (.istore_n 3, 1) := by decide +kernel
theorem dX6_groupOf_4 : decode cX6_groupOf 4 = .ok (.iload_n 3, 1) := by decide +kernel
theorem dX6_groupOf_5 : decode cX6_groupOf 5 = .ok (.aload_n 0, 1) := by decide +kernel
theorem dX6_groupOf_6 : decode cX6_groupOf 6 = .ok (.getfield 90, 3) := by decide +kernel
theorem dX6_groupOf_9 : decode cX6_groupOf 9 = .ok (.if_icmp .ge 26, 3) := by decide +kernel
theorem dX6_groupOf_12 : decode cX6_groupOf 12 = .ok (.aload_n 0, 1) := by decide +kernel
theorem dX6_groupOf_13 : decode cX6_groupOf 13 = .ok (.getfield 15, 3) := by decide +kernel
theorem dX6_groupOf_16 : decode cX6_groupOf 16 = .ok (.aload_n 0, 1) := by decide +kernel
theorem dX6_groupOf_17 : decode cX6_groupOf 17 = .ok (.getfield 30, 3) := by decide +kernel
theorem dX6_groupOf_20 : decode cX6_groupOf 20 = .ok (.iload_n 3, 1) := by decide +kernel
theorem dX6_groupOf_21 : decode cX6_groupOf 21 = .ok (.iaload, 1) := by decide +kernel
theorem dX6_groupOf_22 : decode cX6_groupOf 22 = .ok (.iaload, 1) := by decide +kernel
theorem dX6_groupOf_23 : decode cX6_groupOf 23 = .ok (.iload_n 1, 1) := by decide +kernel
theorem dX6_groupOf_24 : decode cX6_groupOf 24 = .ok (.if_icmp .gt 5, 3) := by decide +kernel
theorem dX6_groupOf_27 : decode cX6_groupOf 27 = .ok (.iload_n 3, 1) := by decide +kernel
theorem dX6_groupOf_28 : decode cX6_groupOf 28 = .ok (.istore_n 2, 1) := by decide +kernel
theorem dX6_groupOf_29 : decode cX6_groupOf 29 = .ok (.iinc 3 1, 3) := by decide +kernel
theorem dX6_groupOf_32 : decode cX6_groupOf 32 = .ok (.goto (-28), 3) := by decide +kernel
theorem dX6_groupOf_35 : decode cX6_groupOf 35 = .ok (.iload_n 2, 1) := by decide +kernel
theorem dX6_groupOf_36 : decode cX6_groupOf 36 = .ok (.ireturn, 1) := by decide +kernel
theorem dX7_init_0 : decode cX7_init 0 = .ok (.aload_n 0, 1) := by decide +kernel
theorem dX7_init_1 : decode cX7_init 1 = .ok (.invokespecial 3, 3) := by decide +kernel
theorem dX7_init_4 : decode cX7_init 4 = .ok (.aload_n 0, 1) := by decide +kernel
theorem dX7_init_5 : decode cX7_init 5 = .ok (.bipush 20, 2) := by decide +kernel
theorem dX7_init_7 : decode cX7_init 7 = .ok (.newarray .int, 2) := by decide +kernel
theorem dX7_init_9 : decode cX7_init 9 = .ok (.putfield 9, 3) := by decide +kernel
theorem dX7_init_12 : decode cX7_init 12 = .ok (.aload_n 0, 1) := by decide +kernel
theorem dX7_init_13 : decode cX7_init 13 = .ok (.bipush 20, 2) := by decide +kernel
theorem dX7_init_15 : decode cX7_init 15 = .ok (.newarray .int, 2) := by decide +kernel
theorem dX7_init_17 : decode cX7_init 17 = .ok (.putfield 15, 3) := by decide +kernel
theorem dX7_init_20 : decode cX7_init 20 = .ok (.aload_n 0, 1) := by decide +kernel
theorem dX7_init_21 : decode cX7_init 21 = .ok (.bipush 120, 2) := by decide +kernel
theorem dX7_init_23 : decode cX7_init 23 = .ok (.newarray .int, 2) := by decide +kernel
theorem dX7_init_25 : decode cX7_init 25 = .ok (.putfield 18, 3) := by decide +kernel
theorem dX7_init_28 : decode cX7_init 28 = .ok (.return_, 1) := by decide +kernel
theorem dX7_copyFrom_0 : decode cX7_copyFrom 0 = .ok (.iconst 0, 1) := by decide +kernel
theorem dX7_copyFrom_1 : decode cX7_copyFrom 1 = .ok (.istore_n 2, 1) := by decide +kernel
theorem dX7_copyFrom_2 : decode cX7_copyFrom 2 = .ok (.iload_n 2, 1) := by decide +kernel
theorem dX7_copyFrom_3 : decode cX7_copyFrom 3 = .ok (.aload_n 1, 1) := by decide +kernel
theorem dX7_copyFrom_4 : decode cX7_copyFrom 4 = .ok (.getfield 21, 3) := by decide +kernel
theorem dX7_copyFrom_7 : decode cX7_copyFrom 7 = .ok (.if_icmp .ge 22, 3) := by decide +kernel
theorem dX7_copyFrom_10 : decode cX7_copyFrom 10 = .ok (.iload_n 2, 1) := by decide +kernel
theorem dX7_copyFrom_11 : decode cX7_copyFrom 11 = .ok (.bipush 20, 2) := by decide +kernel
theorem dX7_copyFrom_13 : decode cX7_copyFrom 13 = .ok (.if_icmp .ge 16, 3) := by decide +kernel
theorem dX7_copyFrom_16 : decode cX7_copyFrom 16 = .ok (.aload_n 0, 1) := by decide +kernel
theorem dX7_copyFrom_17 : decode cX7_copyFrom 17 = .ok (.aload_n 1, 1) := by decide +kernel
theorem dX7_copyFrom_18 : decode cX7_copyFrom 18 = .ok (.iload_n 2, 1) := by decide +kernel
theorem dX7_copyFrom_19 : decode cX7_copyFrom 19 = .ok (.iload_n 2, 1) := by decide +kernel
theorem dX7_copyFrom_20 : decode cX7_copyFrom 20 = .ok (.invokevirtual 25, 3) := by decide +kernel
theorem dX7_copyFrom_23 : decode cX7_copyFrom 23 = .ok (.iinc 2 1, 3) := by decide +kernel
theorem dX7_copyFrom_26 : decode cX7_copyFrom 26 = .ok (.goto (-24), 3) := by decide +kernel
theorem dX7_copyFrom_29 : decode cX7_copyFrom 29 = .ok (.aload_n 0, 1) := by decide +kernel
theorem dX7_copyFrom_30 : decode cX7_copyFrom 30 = .ok (.aload_n 1, 1) := by decide +kernel
theorem dX7_copyFrom_31 : decode cX7_copyFrom 31 = .ok (.getfield 21, 3) := by decide +kernel
theorem dX7_copyFrom_34 : decode cX7_copyFrom 34 = .ok (.putfield 21, 3) := by decide +kernel
theorem dX7_copyFrom_37 : decode cX7_copyFrom 37 = .ok (.return_, 1) := by decide +kernel
theorem dX7_copyStroke_0 : decode cX7_copyStroke 0 = .ok (.aload_n 0, 1) := by decide +kernel
theorem dX7_copyStroke_1 : decode cX7_copyStroke 1 = .ok (.getfield 9, 3) := by decide +kernel
theorem dX7_copyStroke_4 : decode cX7_copyStroke 4 = .ok (.iload_n 3, 1) := by decide +kernel
theorem dX7_copyStroke_5 : decode cX7_copyStroke 5 = .ok (.aload_n 1, 1) := by decide +kernel
theorem dX7_copyStroke_6 : decode cX7_copyStroke 6 = .ok (.getfield 9, 3) := by decide +kernel
theorem dX7_copyStroke_9 : decode cX7_copyStroke 9 = .ok (.iload_n 2, 1) := by decide +kernel
theorem dX7_copyStroke_10 : decode cX7_copyStroke 10 = .ok (.iaload, 1) := by decide +kernel
theorem dX7_copyStroke_11 : decode cX7_copyStroke 11 = .ok (.iastore, 1) := by decide +kernel
theorem dX7_copyStroke_12 : decode cX7_copyStroke 12 = .ok (.aload_n 0, 1) := by decide +kernel
theorem dX7_copyStroke_13 : decode cX7_copyStroke 13 = .ok (.getfield 15, 3) := by decide +kernel
theorem dX7_copyStroke_16 : decode cX7_copyStroke 16 = .ok (.iload_n 3, 1) := by decide +kernel
theorem dX7_copyStroke_17 : decode cX7_copyStroke 17 = .ok (.aload_n 1, 1) := by decide +kernel
theorem dX7_copyStroke_18 : decode cX7_copyStroke 18 = .ok (.getfield 15, 3) := by decide +kernel
theorem dX7_copyStroke_21 : decode cX7_copyStroke 21 = .ok (.iload_n 2, 1) := by decide +kernel
theorem dX7_copyStroke_22 : decode cX7_copyStroke 22 = .ok (.iaload, 1) := by decide +kernel
theorem dX7_copyStroke_23 : decode cX7_copyStroke 23 = .ok (.iastore, 1) := by decide +kernel
theorem dX7_copyStroke_24 : decode cX7_copyStroke 24 = .ok (.aload_n 1, 1) := by decide +kernel
theorem dX7_copyStroke_25 : decode cX7_copyStroke 25 = .ok (.getfield 18, 3) := by decide +kernel
theorem dX7_copyStroke_28 : decode cX7_copyStroke 28 = .ok (.iload_n 2, 1) := by decide +kernel
theorem dX7_copyStroke_29 : decode cX7_copyStroke 29 = .ok (.bipush 6, 2) := by decide +kernel
theorem dX7_copyStroke_31 : decode cX7_copyStroke 31 = .ok (.imul, 1) := by decide +kernel
theorem dX7_copyStroke_32 : decode cX7_copyStroke 32 = .ok (.aload_n 0, 1) := by decide +kernel
theorem dX7_copyStroke_33 : decode cX7_copyStroke 33 = .ok (.getfield 18, 3) := by decide +kernel
theorem dX7_copyStroke_36 : decode cX7_copyStroke 36 = .ok (.iload_n 3, 1) := by decide +kernel
theorem dX7_copyStroke_37 : decode cX7_copyStroke 37 = .ok (.bipush 6, 2) := by decide +kernel
theorem dX7_copyStroke_39 : decode cX7_copyStroke 39 = .ok (.imul, 1) := by decide +kernel
theorem dX7_copyStroke_40 : decode cX7_copyStroke 40 = .ok (.bipush 6, 2) := by decide +kernel
theorem dX7_copyStroke_42 : decode cX7_copyStroke 42 = .ok (.invokestatic 29, 3) := by decide +kernel
theorem dX7_copyStroke_45 : decode cX7_copyStroke 45 = .ok (.return_, 1) := by decide +kernel
theorem dX7_clear_0 : decode cX7_clear 0 = .ok (.aload_n 0, 1) := by decide +kernel
theorem dX7_clear_1 : decode cX7_clear 1 = .ok (.iconst 0, 1) := by decide +kernel
theorem dX7_clear_2 : decode cX7_clear 2 = .ok (.putfield 21, 3) := by decide +kernel
theorem dX7_clear_5 : decode cX7_clear 5 = .ok (.return_, 1) := by decide +kernel
theorem dX7_has_0 : decode cX7_has 0 = .ok (.iload_n 1, 1) := by decide +kernel
theorem dX7_has_1 : decode cX7_has 1 = .ok (.ifCond .lt 15, 3) := by decide +kernel
theorem dX7_has_4 : decode cX7_has 4 = .ok (.iload_n 1, 1) := by decide +kernel
theorem dX7_has_5 : decode cX7_has 5 = .ok (.aload_n 0, 1) := by decide +kernel
theorem dX7_has_6 : decode cX7_has 6 = .ok (.getfield 21, 3) := by decide +kernel
theorem dX7_has_9 : decode cX7_has 9 = .ok (.if_icmp .ge 7, 3) := by decide +kernel
theorem dX7_has_12 : decode cX7_has 12 = .ok (.iconst 1, 1) := by decide +kernel
theorem dX7_has_13 : decode cX7_has 13 = .ok (.goto 4, 3) := by decide +kernel
theorem dX7_has_16 : decode cX7_has 16 = .ok (.iconst 0, 1) := by decide +kernel
theorem dX7_has_17 : decode cX7_has 17 = .ok (.ireturn, 1) := by decide +kernel
theorem dX7_cellAt_0 : decode cX7_cellAt 0 = .ok (.aload_n 0, 1) := by decide +kernel
theorem dX7_cellAt_1 : decode cX7_cellAt 1 = .ok (.iload_n 1, 1) := by decide +kernel
theorem dX7_cellAt_2 : decode cX7_cellAt 2 = .ok (.invokevirtual 35, 3) := by decide +kernel
theorem dX7_cellAt_5 : decode cX7_cellAt 5 = .ok (.ifCond .eq 17, 3) := by decide +kernel
theorem dX7_cellAt_8 : decode cX7_cellAt 8 = .ok (.iload_n 2, 1) := by decide +kernel
theorem dX7_cellAt_9 : decode cX7_cellAt 9 = .ok (.ifCond .lt 13, 3) := by decide +kernel
theorem dX7_cellAt_12 : decode cX7_cellAt 12 = .ok (.iload_n 2, 1) := by decide +kernel
theorem dX7_cellAt_13 : decode cX7_cellAt 13 = .ok (.aload_n 0, 1) := by decide +kernel
theorem dX7_cellAt_14 : decode cX7_cellAt 14 = .ok (.getfield 9, 3) := by decide +kernel
theorem dX7_cellAt_17 : decode cX7_cellAt 17 = .ok (.iload_n 1, 1) := by decide +kernel
theorem dX7_cellAt_18 : decode cX7_cellAt 18 = .ok (.iaload, 1) := by decide +kernel
theorem dX7_cellAt_19 : decode cX7_cellAt 19 = .ok (.if_icmp .lt 5, 3) := by decide +kernel
theorem dX7_cellAt_22 : decode cX7_cellAt 22 = .ok (.iconst (-1), 1) := by decide +kernel
theorem dX7_cellAt_23 : decode cX7_cellAt 23 = .ok (.ireturn, 1) := by decide +kernel
theorem dX7_cellAt_24 : decode cX7_cellAt 24 = .ok (.aload_n 0, 1) := by decide +kernel
theorem dX7_cellAt_25 : decode cX7_cellAt 25 = .ok (.getfield 18, 3) := by decide +kernel
theorem dX7_cellAt_28 : decode cX7_cellAt 28 = .ok (.iload_n 1, 1) := by decide +kernel
theorem dX7_cellAt_29 : decode cX7_cellAt 29 = .ok (.bipush 6, 2) := by decide +kernel
theorem dX7_cellAt_31 : decode cX7_cellAt 31 = .ok (.imul, 1) := by decide +kernel
theorem dX7_cellAt_32 : decode cX7_cellAt 32 = .ok (.iload_n 2, 1) := by decide +kernel
theorem dX7_cellAt_33 : decode cX7_cellAt 33 = .ok (.iadd, 1) := by decide +kernel
theorem dX7_cellAt_34 : decode cX7_cellAt 34 = .ok (.iaload, 1) := by decide +kernel
theorem dX7_cellAt_35 : decode cX7_cellAt 35 = .ok (.ireturn, 1) := by decide +kernel
theorem dX7_ownerOf_0 : decode cX7_ownerOf 0 = .ok (.iconst 0, 1) := by decide +kernel
theorem dX7_ownerOf_1 : decode cX7_ownerOf 1 = .ok (.istore_n 2, 1) := by decide +kernel
theorem dX7_ownerOf_2 : decode cX7_ownerOf 2 = .ok (.iload_n 2, 1) := by decide +kernel
theorem dX7_ownerOf_3 : decode cX7_ownerOf 3 = .ok (.aload_n 0, 1) := by decide +kernel
theorem dX7_ownerOf_4 : decode cX7_ownerOf 4 = .ok (.getfield 21, 3) := by decide +kernel
theorem dX7_ownerOf_7 : decode cX7_ownerOf 7 = .ok (.if_icmp .ge 39, 3) := by decide +kernel
theorem dX7_ownerOf_10 : decode cX7_ownerOf 10 = .ok (.iconst 0, 1) := by decide +kernel
theorem dX7_ownerOf_11 : decode cX7_ownerOf 11 = .ok (.istore_n 3, 1) := by decide +kernel
theorem dX7_ownerOf_12 : decode cX7_ownerOf 12 = .ok (.iload_n 3, 1) := by decide +kernel
theorem dX7_ownerOf_13 : decode cX7_ownerOf 13 = .ok (.aload_n 0, 1) := by decide +kernel
theorem dX7_ownerOf_14 : decode cX7_ownerOf 14 = .ok (.getfield 9, 3) := by decide +kernel
theorem dX7_ownerOf_17 : decode cX7_ownerOf 17 = .ok (.iload_n 2, 1) := by decide +kernel
theorem dX7_ownerOf_18 : decode cX7_ownerOf 18 = .ok (.iaload, 1) := by decide +kernel
theorem dX7_ownerOf_19 : decode cX7_ownerOf 19 = .ok (.if_icmp .ge 21, 3) := by decide +kernel
theorem dX7_ownerOf_22 : decode cX7_ownerOf 22 = .ok (.aload_n 0, 1) := by decide +kernel
theorem dX7_ownerOf_23 : decode cX7_ownerOf 23 = .ok (.iload_n 2, 1) := by decide +kernel
theorem dX7_ownerOf_24 : decode cX7_ownerOf 24 = .ok (.iload_n 3, 1) := by decide +kernel
theorem dX7_ownerOf_25 : decode cX7_ownerOf 25 = .ok (.invokevirtual 39, 3) := by decide +kernel
theorem dX7_ownerOf_28 : decode cX7_ownerOf 28 = .ok (.iload_n 1, 1) := by decide +kernel
theorem dX7_ownerOf_29 : decode cX7_ownerOf 29 = .ok (.if_icmp .ne 5, 3) := by decide +kernel
theorem dX7_ownerOf_32 : decode cX7_ownerOf 32 = .ok (.iload_n 2, 1) := by decide +kernel
theorem dX7_ownerOf_33 : decode cX7_ownerOf 33 = .ok (.ireturn, 1) := by decide +kernel
theorem dX7_ownerOf_34 : decode cX7_ownerOf 34 = .ok (.iinc 3 1, 3) := by decide +kernel
theorem dX7_ownerOf_37 : decode cX7_ownerOf 37 = .ok (.goto (-25), 3) := by decide +kernel
theorem dX7_ownerOf_40 : decode cX7_ownerOf 40 = .ok (.iinc 2 1, 3) := by decide +kernel
theorem dX7_ownerOf_43 : decode cX7_ownerOf 43 = .ok (.goto (-41), 3) := by decide +kernel
theorem dX7_ownerOf_46 : decode cX7_ownerOf 46 = .ok (.iconst (-1), 1) := by decide +kernel
theorem dX7_ownerOf_47 : decode cX7_ownerOf 47 = .ok (.ireturn, 1) := by decide +kernel
theorem dX7_isKeptOff_0 : decode cX7_isKeptOff 0 = .ok (.iconst 0, 1) := by decide +kernel
theorem dX7_isKeptOff_1 : decode cX7_isKeptOff 1 = .ok (.istore_n 2, 1) := by decide +kernel
theorem dX7_isKeptOff_2 : decode cX7_isKeptOff 2 = .ok (.iload_n 2, 1) := by decide +kernel
theorem dX7_isKeptOff_3 : decode cX7_isKeptOff 3 = .ok (.aload_n 0, 1) := by decide +kernel
theorem dX7_isKeptOff_4 : decode cX7_isKeptOff 4 = .ok (.getfield 21, 3) := by decide +kernel
theorem dX7_isKeptOff_7 : decode cX7_isKeptOff 7 = .ok (.if_icmp .ge 20, 3) := by decide +kernel
theorem dX7_isKeptOff_10 : decode cX7_isKeptOff 10 = .ok (.aload_n 0, 1) := by decide +kernel
theorem dX7_isKeptOff_11 : decode cX7_isKeptOff 11 = .ok (.iload_n 2, 1) := by decide +kernel
theorem dX7_isKeptOff_12 : decode cX7_isKeptOff 12 = .ok (.iload_n 1, 1) := by decide +kernel
theorem dX7_isKeptOff_13 : decode cX7_isKeptOff 13 = .ok (.invokevirtual 43, 3) := by decide +kernel
theorem dX7_isKeptOff_16 : decode cX7_isKeptOff 16 = .ok (.ifCond .eq 5, 3) := by decide +kernel
theorem dX7_isKeptOff_19 : decode cX7_isKeptOff 19 = .ok (.iconst 0, 1) := by decide +kernel
theorem dX7_isKeptOff_20 : decode cX7_isKeptOff 20 = .ok (.ireturn, 1) := by decide +kernel
theorem dX7_isKeptOff_21 : decode cX7_isKeptOff 21 = .ok (.iinc 2 1, 3) := by decide +kernel
theorem dX7_isKeptOff_24 : decode cX7_isKeptOff 24 = .ok (.goto (-22), 3) := by decide +kernel
theorem dX7_isKeptOff_27 : decode cX7_isKeptOff 27 = .ok (.iconst 1, 1) := by decide +kernel
theorem dX7_isKeptOff_28 : decode cX7_isKeptOff 28 = .ok (.ireturn, 1) := by decide +kernel
theorem dX7_isNear_0 : decode cX7_isNear 0 = .ok (.iconst 0, 1) := by decide +kernel
theorem dX7_isNear_1 : decode cX7_isNear 1 = .ok (.istore_n 3, 1) := by decide +kernel
theorem dX7_isNear_2 : decode cX7_isNear 2 = .ok (.iload_n 3, 1) := by decide +kernel
theorem dX7_isNear_3 : decode cX7_isNear 3 = .ok (.aload_n 0, 1) := by decide +kernel
theorem dX7_isNear_4 : decode cX7_isNear 4 = .ok (.getfield 9, 3) := by decide +kernel
theorem dX7_isNear_7 : decode cX7_isNear 7 = .ok (.iload_n 1, 1) := by decide +kernel
theorem dX7_isNear_8 : decode cX7_isNear 8 = .ok (.iaload, 1) := by decide +kernel
theorem dX7_isNear_9 : decode cX7_isNear 9 = .ok (.if_icmp .ge 53, 3) := by decide +kernel
theorem dX7_isNear_12 : decode cX7_isNear 12 = .ok (.aload_n 0, 1) := by decide +kernel
theorem dX7_isNear_13 : decode cX7_isNear 13 = .ok (.iload_n 1, 1) := by decide +kernel
theorem dX7_isNear_14 : decode cX7_isNear 14 = .ok (.iload_n 3, 1) := by decide +kernel
theorem dX7_isNear_15 : decode cX7_isNear 15 = .ok (.invokevirtual 39, 3) := by decide +kernel
theorem dX7_isNear_18 : decode cX7_isNear 18 = .ok (.istore 4, 2) := by decide +kernel
theorem dX7_isNear_20 : decode cX7_isNear 20 = .ok (.iload 4, 2) := by decide +kernel
theorem dX7_isNear_22 : decode cX7_isNear 22 = .ok (.bipush 9, 2) := by decide +kernel
theorem dX7_isNear_24 : decode cX7_isNear 24 = .ok (.irem, 1) := by decide +kernel
theorem dX7_isNear_25 : decode cX7_isNear 25 = .ok (.iload_n 2, 1) := by decide +kernel
theorem dX7_isNear_26 : decode cX7_isNear 26 = .ok (.bipush 9, 2) := by decide +kernel
theorem dX7_isNear_28 : decode cX7_isNear 28 = .ok (.irem, 1) := by decide +kernel
theorem dX7_isNear_29 : decode cX7_isNear 29 = .ok (.isub, 1) := by decide +kernel
theorem dX7_isNear_30 : decode cX7_isNear 30 = .ok (.invokestatic 47, 3) := by decide +kernel
theorem dX7_isNear_33 : decode cX7_isNear 33 = .ok (.iconst 1, 1) := by decide +kernel
theorem dX7_isNear_34 : decode cX7_isNear 34 = .ok (.if_icmp .gt 22, 3) := by decide +kernel
theorem dX7_isNear_37 : decode cX7_isNear 37 = .ok (.iload 4, 2) := by decide +kernel
theorem dX7_isNear_39 : decode cX7_isNear 39 = .ok (.bipush 9, 2) := by decide +kernel
theorem dX7_isNear_41 : decode cX7_isNear 41 = .ok (.idiv, 1) := by decide +kernel
theorem dX7_isNear_42 : decode cX7_isNear 42 = .ok (.iload_n 2, 1) := by decide +kernel
theorem dX7_isNear_43 : decode cX7_isNear 43 = .ok (.bipush 9, 2) := by decide +kernel
theorem dX7_isNear_45 : decode cX7_isNear 45 = .ok (.idiv, 1) := by decide +kernel
theorem dX7_isNear_46 : decode cX7_isNear 46 = .ok (.isub, 1) := by decide +kernel
theorem dX7_isNear_47 : decode cX7_isNear 47 = .ok (.invokestatic 47, 3) := by decide +kernel
theorem dX7_isNear_50 : decode cX7_isNear 50 = .ok (.iconst 1, 1) := by decide +kernel
theorem dX7_isNear_51 : decode cX7_isNear 51 = .ok (.if_icmp .gt 5, 3) := by decide +kernel
theorem dX7_isNear_54 : decode cX7_isNear 54 = .ok (.iconst 1, 1) := by decide +kernel
theorem dX7_isNear_55 : decode cX7_isNear 55 = .ok (.ireturn, 1) := by decide +kernel
theorem dX7_isNear_56 : decode cX7_isNear 56 = .ok (.iinc 3 1, 3) := by decide +kernel
theorem dX7_isNear_59 : decode cX7_isNear 59 = .ok (.goto (-57), 3) := by decide +kernel
theorem dX7_isNear_62 : decode cX7_isNear 62 = .ok (.iconst 0, 1) := by decide +kernel
theorem dX7_isNear_63 : decode cX7_isNear 63 = .ok (.ireturn, 1) := by decide +kernel
theorem dX7_add_0 : decode cX7_add 0 = .ok (.aload_n 0, 1) := by decide +kernel
theorem dX7_add_1 : decode cX7_add 1 = .ok (.getfield 21, 3) := by decide +kernel
theorem dX7_add_4 : decode cX7_add 4 = .ok (.bipush 20, 2) := by decide +kernel
theorem dX7_add_6 : decode cX7_add 6 = .ok (.if_icmp .lt 4, 3) := by decide +kernel
theorem dX7_add_9 : decode cX7_add 9 = .ok (.return_, 1) := by decide +kernel
theorem dX7_add_10 : decode cX7_add 10 = .ok (.iload_n 2, 1) := by decide +kernel
theorem dX7_add_11 : decode cX7_add 11 = .ok (.istore_n 3, 1) := by decide +kernel
theorem dX7_add_12 : decode cX7_add 12 = .ok (.iconst 0, 1) := by decide +kernel
theorem dX7_add_13 : decode cX7_add 13 = .ok (.istore 4, 2) := by decide +kernel
theorem dX7_add_15 : decode cX7_add 15 = .ok (.iconst 0, 1) := by decide +kernel
theorem dX7_add_16 : decode cX7_add 16 = .ok (.istore 5, 2) := by decide +kernel
theorem dX7_add_18 : decode cX7_add 18 = .ok (.iload 4, 2) := by decide +kernel
theorem dX7_add_20 : decode cX7_add 20 = .ok (.ifCond .ne 47, 3) := by decide +kernel
theorem dX7_add_23 : decode cX7_add 23 = .ok (.iload 5, 2) := by decide +kernel
theorem dX7_add_25 : decode cX7_add 25 = .ok (.bipush 6, 2) := by decide +kernel
theorem dX7_add_27 : decode cX7_add 27 = .ok (.if_icmp .ge 40, 3) := by decide +kernel
theorem dX7_add_30 : decode cX7_add 30 = .ok (.aload_n 0, 1) := by decide +kernel
theorem dX7_add_31 : decode cX7_add 31 = .ok (.getfield 18, 3) := by decide +kernel
theorem dX7_add_34 : decode cX7_add 34 = .ok (.aload_n 0, 1) := by decide +kernel
theorem dX7_add_35 : decode cX7_add 35 = .ok (.getfield 21, 3) := by decide +kernel
theorem dX7_add_38 : decode cX7_add 38 = .ok (.bipush 6, 2) := by decide +kernel
theorem dX7_add_40 : decode cX7_add 40 = .ok (.imul, 1) := by decide +kernel
theorem dX7_add_41 : decode cX7_add 41 = .ok (.iload 5, 2) := by decide +kernel
theorem dX7_add_43 : decode cX7_add 43 = .ok (.iadd, 1) := by decide +kernel
theorem dX7_add_44 : decode cX7_add 44 = .ok (.iload_n 3, 1) := by decide +kernel
theorem dX7_add_45 : decode cX7_add 45 = .ok (.iastore, 1) := by decide +kernel
theorem dX7_add_46 : decode cX7_add 46 = .ok (.iinc 5 1, 3) := by decide +kernel
theorem dX7_add_49 : decode cX7_add 49 = .ok (.aload_n 1, 1) := by decide +kernel
theorem dX7_add_50 : decode cX7_add 50 = .ok (.iload_n 3, 1) := by decide +kernel
theorem dX7_add_51 : decode cX7_add 51 = .ok (.invokevirtual 53, 3) := by decide +kernel
theorem dX7_add_54 : decode cX7_add 54 = .ok (.istore_n 3, 1) := by decide +kernel
theorem dX7_add_55 : decode cX7_add 55 = .ok (.aload_n 0, 1) := by decide +kernel
theorem dX7_add_56 : decode cX7_add 56 = .ok (.iload_n 3, 1) := by decide +kernel
theorem dX7_add_57 : decode cX7_add 57 = .ok (.iload 5, 2) := by decide +kernel
theorem dX7_add_59 : decode cX7_add 59 = .ok (.invokevirtual 58, 3) := by decide +kernel
theorem dX7_add_62 : decode cX7_add 62 = .ok (.istore 4, 2) := by decide +kernel
theorem dX7_add_64 : decode cX7_add 64 = .ok (.goto (-46), 3) := by decide +kernel
theorem dX7_add_67 : decode cX7_add 67 = .ok (.aload_n 0, 1) := by decide +kernel
theorem dX7_add_68 : decode cX7_add 68 = .ok (.getfield 9, 3) := by decide +kernel
theorem dX7_add_71 : decode cX7_add 71 = .ok (.aload_n 0, 1) := by decide +kernel
theorem dX7_add_72 : decode cX7_add 72 = .ok (.getfield 21, 3) := by decide +kernel
theorem dX7_add_75 : decode cX7_add 75 = .ok (.iload 5, 2) := by decide +kernel
theorem dX7_add_77 : decode cX7_add 77 = .ok (.iastore, 1) := by decide +kernel
theorem dX7_add_78 : decode cX7_add 78 = .ok (.aload_n 0, 1) := by decide +kernel
theorem dX7_add_79 : decode cX7_add 79 = .ok (.getfield 15, 3) := by decide +kernel
theorem dX7_add_82 : decode cX7_add 82 = .ok (.aload_n 0, 1) := by decide +kernel
theorem dX7_add_83 : decode cX7_add 83 = .ok (.getfield 21, 3) := by decide +kernel
theorem dX7_add_86 : decode cX7_add 86 = .ok (.iload 4, 2) := by decide +kernel
theorem dX7_add_88 : decode cX7_add 88 = .ok (.iastore, 1) := by decide +kernel
theorem dX7_add_89 : decode cX7_add 89 = .ok (.aload_n 0, 1) := by decide +kernel
theorem dX7_add_90 : decode cX7_add 90 = .ok (.dup, 1) := by decide +kernel
theorem dX7_add_91 : decode cX7_add 91 = .ok (.getfield 21, 3) := by decide +kernel
theorem dX7_add_94 : decode cX7_add 94 = .ok (.iconst 1, 1) := by decide +kernel
theorem dX7_add_95 : decode cX7_add 95 = .ok (.iadd, 1) := by decide +kernel
theorem dX7_add_96 : decode cX7_add 96 = .ok (.putfield 21, 3) := by decide +kernel
theorem dX7_add_99 : decode cX7_add 99 = .ok (.return_, 1) := by decide +kernel
theorem dX7_endBefore_0 : decode cX7_endBefore 0 = .ok (.iload_n 1, 1) := by decide +kernel
theorem dX7_endBefore_1 : decode cX7_endBefore 1 = .ok (.iconst (-1), 1) := by decide +kernel
theorem dX7_endBefore_2 : decode cX7_endBefore 2 = .ok (.if_icmp .ne 5, 3) := by decide +kernel
theorem dX7_endBefore_5 : decode cX7_endBefore 5 = .ok (.iconst 1, 1) := by decide +kernel
theorem dX7_endBefore_6 : decode cX7_endBefore 6 = .ok (.ireturn, 1) := by decide +kernel
theorem dX7_endBefore_7 : decode cX7_endBefore 7 = .ok (.aload_n 0, 1) := by decide +kernel
theorem dX7_endBefore_8 : decode cX7_endBefore 8 = .ok (.iload_n 1, 1) := by decide +kernel
theorem dX7_endBefore_9 : decode cX7_endBefore 9 = .ok (.invokevirtual 61, 3) := by decide +kernel
theorem dX7_endBefore_12 : decode cX7_endBefore 12 = .ok (.ifCond .ne 5, 3) := by decide +kernel
theorem dX7_endBefore_15 : decode cX7_endBefore 15 = .ok (.iconst 2, 1) := by decide +kernel
theorem dX7_endBefore_16 : decode cX7_endBefore 16 = .ok (.ireturn, 1) := by decide +kernel
theorem dX7_endBefore_17 : decode cX7_endBefore 17 = .ok (.iload_n 2, 1) := by decide +kernel
theorem dX7_endBefore_18 : decode cX7_endBefore 18 = .ok (.bipush 6, 2) := by decide +kernel
theorem dX7_endBefore_20 : decode cX7_endBefore 20 = .ok (.if_icmp .ne 7, 3) := by decide +kernel
theorem dX7_endBefore_23 : decode cX7_endBefore 23 = .ok (.iconst 3, 1) := by decide +kernel
theorem dX7_endBefore_24 : decode cX7_endBefore 24 = .ok (.goto 4, 3) := by decide +kernel
theorem dX7_endBefore_27 : decode cX7_endBefore 27 = .ok (.iconst 0, 1) := by decide +kernel
theorem dX7_endBefore_28 : decode cX7_endBefore 28 = .ok (.ireturn, 1) := by decide +kernel
theorem dX7_remove_0 : decode cX7_remove 0 = .ok (.aload_n 0, 1) := by decide +kernel
theorem dX7_remove_1 : decode cX7_remove 1 = .ok (.iload_n 1, 1) := by decide +kernel
theorem dX7_remove_2 : decode cX7_remove 2 = .ok (.invokevirtual 35, 3) := by decide +kernel
theorem dX7_remove_5 : decode cX7_remove 5 = .ok (.ifCond .ne 4, 3) := by decide +kernel
theorem dX7_remove_8 : decode cX7_remove 8 = .ok (.return_, 1) := by decide +kernel
theorem dX7_remove_9 : decode cX7_remove 9 = .ok (.iload_n 1, 1) := by decide +kernel
theorem dX7_remove_10 : decode cX7_remove 10 = .ok (.iconst 1, 1) := by decide +kernel
theorem dX7_remove_11 : decode cX7_remove 11 = .ok (.iadd, 1) := by decide +kernel
theorem dX7_remove_12 : decode cX7_remove 12 = .ok (.istore_n 2, 1) := by decide +kernel
theorem dX7_remove_13 : decode cX7_remove 13 = .ok (.iload_n 2, 1) := by decide +kernel
theorem dX7_remove_14 : decode cX7_remove 14 = .ok (.aload_n 0, 1) := by decide +kernel
theorem dX7_remove_15 : decode cX7_remove 15 = .ok (.getfield 21, 3) := by decide +kernel
theorem dX7_remove_18 : decode cX7_remove 18 = .ok (.if_icmp .ge 24, 3) := by decide +kernel
theorem dX7_remove_21 : decode cX7_remove 21 = .ok (.iload_n 2, 1) := by decide +kernel
theorem dX7_remove_22 : decode cX7_remove 22 = .ok (.bipush 20, 2) := by decide +kernel
theorem dX7_remove_24 : decode cX7_remove 24 = .ok (.if_icmp .ge 18, 3) := by decide +kernel
theorem dX7_remove_27 : decode cX7_remove 27 = .ok (.aload_n 0, 1) := by decide +kernel
theorem dX7_remove_28 : decode cX7_remove 28 = .ok (.aload_n 0, 1) := by decide +kernel
theorem dX7_remove_29 : decode cX7_remove 29 = .ok (.iload_n 2, 1) := by decide +kernel
theorem dX7_remove_30 : decode cX7_remove 30 = .ok (.iload_n 2, 1) := by decide +kernel
theorem dX7_remove_31 : decode cX7_remove 31 = .ok (.iconst 1, 1) := by decide +kernel
theorem dX7_remove_32 : decode cX7_remove 32 = .ok (.isub, 1) := by decide +kernel
theorem dX7_remove_33 : decode cX7_remove 33 = .ok (.invokevirtual 25, 3) := by decide +kernel
theorem dX7_remove_36 : decode cX7_remove 36 = .ok (.iinc 2 1, 3) := by decide +kernel
theorem dX7_remove_39 : decode cX7_remove 39 = .ok (.goto (-26), 3) := by decide +kernel
theorem dX7_remove_42 : decode cX7_remove 42 = .ok (.aload_n 0, 1) := by decide +kernel
theorem dX7_remove_43 : decode cX7_remove 43 = .ok (.dup, 1) := by decide +kernel
theorem dX7_remove_44 : decode cX7_remove 44 = .ok (.getfield 21, 3) := by decide +kernel
theorem dX7_remove_47 : decode cX7_remove 47 = .ok (.iconst 1, 1) := by decide +kernel
theorem dX7_remove_48 : decode cX7_remove 48 = .ok (.isub, 1) := by decide +kernel
theorem dX7_remove_49 : decode cX7_remove 49 = .ok (.putfield 21, 3) := by decide +kernel
theorem dX7_remove_52 : decode cX7_remove 52 = .ok (.return_, 1) := by decide +kernel
theorem dX7_removeNear_0 : decode cX7_removeNear 0 = .ok (.aload_n 0, 1) := by decide +kernel
theorem dX7_removeNear_1 : decode cX7_removeNear 1 = .ok (.getfield 21, 3) := by decide +kernel
theorem dX7_removeNear_4 : decode cX7_removeNear 4 = .ok (.iconst 1, 1) := by decide +kernel
theorem dX7_removeNear_5 : decode cX7_removeNear 5 = .ok (.isub, 1) := by decide +kernel
theorem dX7_removeNear_6 : decode cX7_removeNear 6 = .ok (.istore_n 2, 1) := by decide +kernel
theorem dX7_removeNear_7 : decode cX7_removeNear 7 = .ok (.iload_n 2, 1) := by decide +kernel
theorem dX7_removeNear_8 : decode cX7_removeNear 8 = .ok (.ifCond .lt 23, 3) := by decide +kernel
theorem dX7_removeNear_11 : decode cX7_removeNear 11 = .ok (.aload_n 0, 1) := by decide +kernel
theorem dX7_removeNear_12 : decode cX7_removeNear 12 = .ok (.iload_n 2, 1) := by decide +kernel
theorem dX7_removeNear_13 : decode cX7_removeNear 13 = .ok (.iload_n 1, 1) := by decide +kernel
theorem dX7_removeNear_14 : decode cX7_removeNear 14 = .ok (.invokevirtual 43, 3) := by decide +kernel
theorem dX7_removeNear_17 : decode cX7_removeNear 17 = .ok (.ifCond .eq 8, 3) := by decide +kernel
theorem dX7_removeNear_20 : decode cX7_removeNear 20 = .ok (.aload_n 0, 1) := by decide +kernel
theorem dX7_removeNear_21 : decode cX7_removeNear 21 = .ok (.iload_n 2, 1) := by decide +kernel
theorem dX7_removeNear_22 : decode cX7_removeNear 22 = .ok (.invokevirtual 64, 3) := by decide +kernel
theorem dX7_removeNear_25 : decode cX7_removeNear 25 = .ok (.iinc 2 (-1), 3) := by decide +kernel
theorem dX7_removeNear_28 : decode cX7_removeNear 28 = .ok (.goto (-21), 3) := by decide +kernel
theorem dX7_removeNear_31 : decode cX7_removeNear 31 = .ok (.return_, 1) := by decide +kernel
theorem dX7_cellsInAll_0 : decode cX7_cellsInAll 0 = .ok (.iconst 0, 1) := by decide +kernel
theorem dX7_cellsInAll_1 : decode cX7_cellsInAll 1 = .ok (.istore_n 1, 1) := by decide +kernel
theorem dX7_cellsInAll_2 : decode cX7_cellsInAll 2 = .ok (.iconst 0, 1) := by decide +kernel
theorem dX7_cellsInAll_3 : decode cX7_cellsInAll 3 = .ok (.istore_n 2, 1) := by decide +kernel
theorem dX7_cellsInAll_4 : decode cX7_cellsInAll 4 = .ok (.iload_n 2, 1) := by decide +kernel
theorem dX7_cellsInAll_5 : decode cX7_cellsInAll 5 = .ok (.aload_n 0, 1) := by decide +kernel
theorem dX7_cellsInAll_6 : decode cX7_cellsInAll 6 = .ok (.getfield 21, 3) := by decide +kernel
theorem dX7_cellsInAll_9 : decode cX7_cellsInAll 9 = .ok (.if_icmp .ge 18, 3) := by decide +kernel
theorem dX7_cellsInAll_12 : decode cX7_cellsInAll 12 = .ok (.iload_n 1, 1) := by decide +kernel
theorem dX7_cellsInAll_13 : decode cX7_cellsInAll 13 = .ok (.aload_n 0, 1) := by decide +kernel
theorem dX7_cellsInAll_14 : decode cX7_cellsInAll 14 = .ok (.getfield 9, 3) := by decide +kernel
theorem dX7_cellsInAll_17 : decode cX7_cellsInAll 17 = .ok (.iload_n 2, 1) := by decide +kernel
theorem dX7_cellsInAll_18 : decode cX7_cellsInAll 18 = .ok (.iaload, 1) := by decide +kernel
theorem dX7_cellsInAll_19 : decode cX7_cellsInAll 19 = .ok (.iadd, 1) := by decide +kernel
theorem dX7_cellsInAll_20 : decode cX7_cellsInAll 20 = .ok (.istore_n 1, 1) := by decide +kernel
theorem dX7_cellsInAll_21 : decode cX7_cellsInAll 21 = .ok (.iinc 2 1, 3) := by decide +kernel
theorem dX7_cellsInAll_24 : decode cX7_cellsInAll 24 = .ok (.goto (-20), 3) := by decide +kernel
theorem dX7_cellsInAll_27 : decode cX7_cellsInAll 27 = .ok (.iload_n 1, 1) := by decide +kernel
theorem dX7_cellsInAll_28 : decode cX7_cellsInAll 28 = .ok (.ireturn, 1) := by decide +kernel
theorem dX8_init_0 : decode cX8_init 0 = .ok (.aload_n 0, 1) := by decide +kernel
theorem dX8_init_1 : decode cX8_init 1 = .ok (.invokespecial 3, 3) := by decide +kernel
theorem dX8_init_4 : decode cX8_init 4 = .ok (.aload_n 0, 1) := by decide +kernel
