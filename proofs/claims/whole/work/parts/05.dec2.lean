theorem dX8_init_5 : decode cX8_init 5 = .ok (.new 9, 3) := by decide +kernel
theorem dX8_init_8 : decode cX8_init 8 = .ok (.dup, 1) := by decide +kernel
theorem dX8_init_9 : decode cX8_init 9 = .ok (.invokespecial 11, 3) := by decide +kernel
theorem dX8_init_12 : decode cX8_init 12 = .ok (.putfield 12, 3) := by decide +kernel
theorem dX8_init_15 : decode cX8_init 15 = .ok (.aload_n 0, 1) := by decide +kernel
theorem dX8_init_16 : decode cX8_init 16 = .ok (.new 9, 3) := by decide +kernel
theorem dX8_init_19 : decode cX8_init 19 = .ok (.dup, 1) := by decide +kernel
theorem dX8_init_20 : decode cX8_init 20 = .ok (.invokespecial 11, 3) := by decide +kernel
theorem dX8_init_23 : decode cX8_init 23 = .ok (.putfield 16, 3) := by decide +kernel
theorem dX8_init_26 : decode cX8_init 26 = .ok (.aload_n 0, 1) := by decide +kernel
theorem dX8_init_27 : decode cX8_init 27 = .ok (.new 19, 3) := by decide +kernel
theorem dX8_init_30 : decode cX8_init 30 = .ok (.dup, 1) := by decide +kernel
theorem dX8_init_31 : decode cX8_init 31 = .ok (.invokespecial 21, 3) := by decide +kernel
theorem dX8_init_34 : decode cX8_init 34 = .ok (.putfield 22, 3) := by decide +kernel
theorem dX8_init_37 : decode cX8_init 37 = .ok (.aload_n 0, 1) := by decide +kernel
theorem dX8_init_38 : decode cX8_init 38 = .ok (.new 26, 3) := by decide +kernel
theorem dX8_init_41 : decode cX8_init 41 = .ok (.dup, 1) := by decide +kernel
theorem dX8_init_42 : decode cX8_init 42 = .ok (.invokespecial 28, 3) := by decide +kernel
theorem dX8_init_45 : decode cX8_init 45 = .ok (.putfield 29, 3) := by decide +kernel
theorem dX8_init_48 : decode cX8_init 48 = .ok (.aload_n 0, 1) := by decide +kernel
theorem dX8_init_49 : decode cX8_init 49 = .ok (.new 33, 3) := by decide +kernel
theorem dX8_init_52 : decode cX8_init 52 = .ok (.dup, 1) := by decide +kernel
theorem dX8_init_53 : decode cX8_init 53 = .ok (.invokespecial 35, 3) := by decide +kernel
theorem dX8_init_56 : decode cX8_init 56 = .ok (.putfield 36, 3) := by decide +kernel
theorem dX8_init_59 : decode cX8_init 59 = .ok (.aload_n 0, 1) := by decide +kernel
theorem dX8_init_60 : decode cX8_init 60 = .ok (.new 40, 3) := by decide +kernel
theorem dX8_init_63 : decode cX8_init 63 = .ok (.dup, 1) := by decide +kernel
theorem dX8_init_64 : decode cX8_init 64 = .ok (.invokespecial 42, 3) := by decide +kernel
theorem dX8_init_67 : decode cX8_init 67 = .ok (.putfield 43, 3) := by decide +kernel
theorem dX8_init_70 : decode cX8_init 70 = .ok (.aload_n 0, 1) := by decide +kernel
theorem dX8_init_71 : decode cX8_init 71 = .ok (.new 47, 3) := by decide +kernel
theorem dX8_init_74 : decode cX8_init 74 = .ok (.dup, 1) := by decide +kernel
theorem dX8_init_75 : decode cX8_init 75 = .ok (.invokespecial 49, 3) := by decide +kernel
theorem dX8_init_78 : decode cX8_init 78 = .ok (.putfield 50, 3) := by decide +kernel
theorem dX8_init_81 : decode cX8_init 81 = .ok (.aload_n 0, 1) := by decide +kernel
theorem dX8_init_82 : decode cX8_init 82 = .ok (.getfield 29, 3) := by decide +kernel
theorem dX8_init_85 : decode cX8_init 85 = .ok (.ldc 54, 2) := by decide +kernel
theorem dX8_init_87 : decode cX8_init 87 = .ok (.invokevirtual 56, 3) := by decide +kernel
theorem dX8_init_90 : decode cX8_init 90 = .ok (.aload_n 0, 1) := by decide +kernel
theorem dX8_init_91 : decode cX8_init 91 = .ok (.getfield 29, 3) := by decide +kernel
theorem dX8_init_94 : decode cX8_init 94 = .ok (.aload_n 0, 1) := by decide +kernel
theorem dX8_init_95 : decode cX8_init 95 = .ok (.getfield 12, 3) := by decide +kernel
theorem dX8_init_98 : decode cX8_init 98 = .ok (.invokevirtual 60, 3) := by decide +kernel
theorem dX8_init_101 : decode cX8_init 101 = .ok (.pop, 1) := by decide +kernel
theorem dX8_init_102 : decode cX8_init 102 = .ok (.aload_n 0, 1) := by decide +kernel
theorem dX8_init_103 : decode cX8_init 103 = .ok (.getfield 29, 3) := by decide +kernel
theorem dX8_init_106 : decode cX8_init 106 = .ok (.invokevirtual 64, 3) := by decide +kernel
theorem dX8_init_109 : decode cX8_init 109 = .ok (.return_, 1) := by decide +kernel
theorem dX8_write_0 : decode cX8_write 0 = .ok (.iload_n 1, 1) := by decide +kernel
theorem dX8_write_1 : decode cX8_write 1 = .ok (.bipush 32, 2) := by decide +kernel
theorem dX8_write_3 : decode cX8_write 3 = .ok (.if_icmp .lt 9, 3) := by decide +kernel
theorem dX8_write_6 : decode cX8_write 6 = .ok (.iload_n 1, 1) := by decide +kernel
theorem dX8_write_7 : decode cX8_write 7 = .ok (.bipush 126, 2) := by decide +kernel
theorem dX8_write_9 : decode cX8_write 9 = .ok (.if_icmp .le 5, 3) := by decide +kernel
theorem dX8_write_12 : decode cX8_write 12 = .ok (.iconst (-1), 1) := by decide +kernel
theorem dX8_write_13 : decode cX8_write 13 = .ok (.ireturn, 1) := by decide +kernel
theorem dX8_write_14 : decode cX8_write 14 = .ok (.aload_n 0, 1) := by decide +kernel
theorem dX8_write_15 : decode cX8_write 15 = .ok (.getfield 29, 3) := by decide +kernel
theorem dX8_write_18 : decode cX8_write 18 = .ok (.getfield 67, 3) := by decide +kernel
theorem dX8_write_21 : decode cX8_write 21 = .ok (.sipush 200, 3) := by decide +kernel
theorem dX8_write_24 : decode cX8_write 24 = .ok (.if_icmp .lt 6, 3) := by decide +kernel
theorem dX8_write_27 : decode cX8_write 27 = .ok (.bipush (-3), 2) := by decide +kernel
theorem dX8_write_29 : decode cX8_write 29 = .ok (.ireturn, 1) := by decide +kernel
theorem dX8_write_30 : decode cX8_write 30 = .ok (.aload_n 0, 1) := by decide +kernel
theorem dX8_write_31 : decode cX8_write 31 = .ok (.getfield 29, 3) := by decide +kernel
theorem dX8_write_34 : decode cX8_write 34 = .ok (.iload_n 1, 1) := by decide +kernel
theorem dX8_write_35 : decode cX8_write 35 = .ok (.invokevirtual 71, 3) := by decide +kernel
theorem dX8_write_38 : decode cX8_write 38 = .ok (.aload_n 0, 1) := by decide +kernel
theorem dX8_write_39 : decode cX8_write 39 = .ok (.getfield 29, 3) := by decide +kernel
theorem dX8_write_42 : decode cX8_write 42 = .ok (.getfield 67, 3) := by decide +kernel
theorem dX8_write_45 : decode cX8_write 45 = .ok (.ireturn, 1) := by decide +kernel
theorem dX8_wipe_0 : decode cX8_wipe 0 = .ok (.aload_n 0, 1) := by decide +kernel
theorem dX8_wipe_1 : decode cX8_wipe 1 = .ok (.getfield 29, 3) := by decide +kernel
theorem dX8_wipe_4 : decode cX8_wipe 4 = .ok (.getfield 67, 3) := by decide +kernel
theorem dX8_wipe_7 : decode cX8_wipe 7 = .ok (.istore_n 1, 1) := by decide +kernel
theorem dX8_wipe_8 : decode cX8_wipe 8 = .ok (.aload_n 0, 1) := by decide +kernel
theorem dX8_wipe_9 : decode cX8_wipe 9 = .ok (.getfield 29, 3) := by decide +kernel
theorem dX8_wipe_12 : decode cX8_wipe 12 = .ok (.invokevirtual 64, 3) := by decide +kernel
theorem dX8_wipe_15 : decode cX8_wipe 15 = .ok (.iload_n 1, 1) := by decide +kernel
theorem dX8_wipe_16 : decode cX8_wipe 16 = .ok (.ireturn, 1) := by decide +kernel
theorem dX8_fault_0 : decode cX8_fault 0 = .ok (.aload_n 0, 1) := by decide +kernel
theorem dX8_fault_1 : decode cX8_fault 1 = .ok (.getfield 29, 3) := by decide +kernel
theorem dX8_fault_4 : decode cX8_fault 4 = .ok (.aload_n 0, 1) := by decide +kernel
theorem dX8_fault_5 : decode cX8_fault 5 = .ok (.getfield 16, 3) := by decide +kernel
theorem dX8_fault_8 : decode cX8_fault 8 = .ok (.invokevirtual 60, 3) := by decide +kernel
theorem dX8_fault_11 : decode cX8_fault 11 = .ok (.ireturn, 1) := by decide +kernel
theorem dX8_lay_0 : decode cX8_lay 0 = .ok (.aload_n 0, 1) := by decide +kernel
theorem dX8_lay_1 : decode cX8_lay 1 = .ok (.getfield 29, 3) := by decide +kernel
theorem dX8_lay_4 : decode cX8_lay 4 = .ok (.aload_n 0, 1) := by decide +kernel
theorem dX8_lay_5 : decode cX8_lay 5 = .ok (.getfield 16, 3) := by decide +kernel
theorem dX8_lay_8 : decode cX8_lay 8 = .ok (.invokevirtual 60, 3) := by decide +kernel
theorem dX8_lay_11 : decode cX8_lay 11 = .ok (.bipush (-4), 2) := by decide +kernel
theorem dX8_lay_13 : decode cX8_lay 13 = .ok (.if_icmp .eq 7, 3) := by decide +kernel
theorem dX8_lay_16 : decode cX8_lay 16 = .ok (.iconst 1, 1) := by decide +kernel
theorem dX8_lay_17 : decode cX8_lay 17 = .ok (.goto 4, 3) := by decide +kernel
theorem dX8_lay_20 : decode cX8_lay 20 = .ok (.iconst 0, 1) := by decide +kernel
theorem dX8_lay_21 : decode cX8_lay 21 = .ok (.istore_n 1, 1) := by decide +kernel
theorem dX8_lay_22 : decode cX8_lay 22 = .ok (.iload_n 1, 1) := by decide +kernel
theorem dX8_lay_23 : decode cX8_lay 23 = .ok (.ifCond .ne 16, 3) := by decide +kernel
theorem dX8_lay_26 : decode cX8_lay 26 = .ok (.aload_n 0, 1) := by decide +kernel
theorem dX8_lay_27 : decode cX8_lay 27 = .ok (.getfield 16, 3) := by decide +kernel
theorem dX8_lay_30 : decode cX8_lay 30 = .ok (.getfield 75, 3) := by decide +kernel
theorem dX8_lay_33 : decode cX8_lay 33 = .ok (.invokevirtual 79, 3) := by decide +kernel
theorem dX8_lay_36 : decode cX8_lay 36 = .ok (.ifCond .ne 6, 3) := by decide +kernel
theorem dX8_lay_39 : decode cX8_lay 39 = .ok (.bipush (-2), 2) := by decide +kernel
theorem dX8_lay_41 : decode cX8_lay 41 = .ok (.ireturn, 1) := by decide +kernel
theorem dX8_lay_42 : decode cX8_lay 42 = .ok (.aload_n 0, 1) := by decide +kernel
theorem dX8_lay_43 : decode cX8_lay 43 = .ok (.getfield 12, 3) := by decide +kernel
theorem dX8_lay_46 : decode cX8_lay 46 = .ok (.aload_n 0, 1) := by decide +kernel
theorem dX8_lay_47 : decode cX8_lay 47 = .ok (.getfield 16, 3) := by decide +kernel
theorem dX8_lay_50 : decode cX8_lay 50 = .ok (.invokevirtual 85, 3) := by decide +kernel
theorem dX8_lay_53 : decode cX8_lay 53 = .ok (.aload_n 0, 1) := by decide +kernel
theorem dX8_lay_54 : decode cX8_lay 54 = .ok (.getfield 22, 3) := by decide +kernel
theorem dX8_lay_57 : decode cX8_lay 57 = .ok (.invokevirtual 89, 3) := by decide +kernel
theorem dX8_lay_60 : decode cX8_lay 60 = .ok (.aload_n 0, 1) := by decide +kernel
theorem dX8_lay_61 : decode cX8_lay 61 = .ok (.getfield 12, 3) := by decide +kernel
theorem dX8_lay_64 : decode cX8_lay 64 = .ok (.getfield 75, 3) := by decide +kernel
theorem dX8_lay_67 : decode cX8_lay 67 = .ok (.getfield 92, 3) := by decide +kernel
theorem dX8_lay_70 : decode cX8_lay 70 = .ok (.aload_n 0, 1) := by decide +kernel
theorem dX8_lay_71 : decode cX8_lay 71 = .ok (.getfield 12, 3) := by decide +kernel
theorem dX8_lay_74 : decode cX8_lay 74 = .ok (.getfield 75, 3) := by decide +kernel
theorem dX8_lay_77 : decode cX8_lay 77 = .ok (.getfield 95, 3) := by decide +kernel
theorem dX8_lay_80 : decode cX8_lay 80 = .ok (.imul, 1) := by decide +kernel
theorem dX8_lay_81 : decode cX8_lay 81 = .ok (.ireturn, 1) := by decide +kernel
theorem dX8_raise_0 : decode cX8_raise 0 = .ok (.aload_n 0, 1) := by decide +kernel
theorem dX8_raise_1 : decode cX8_raise 1 = .ok (.getfield 12, 3) := by decide +kernel
theorem dX8_raise_4 : decode cX8_raise 4 = .ok (.getfield 75, 3) := by decide +kernel
theorem dX8_raise_7 : decode cX8_raise 7 = .ok (.iload_n 1, 1) := by decide +kernel
theorem dX8_raise_8 : decode cX8_raise 8 = .ok (.iload_n 2, 1) := by decide +kernel
theorem dX8_raise_9 : decode cX8_raise 9 = .ok (.invokevirtual 98, 3) := by decide +kernel
theorem dX8_raise_12 : decode cX8_raise 12 = .ok (.ifCond .eq 13, 3) := by decide +kernel
theorem dX8_raise_15 : decode cX8_raise 15 = .ok (.iload_n 3, 1) := by decide +kernel
theorem dX8_raise_16 : decode cX8_raise 16 = .ok (.ifCond .lt 9, 3) := by decide +kernel
theorem dX8_raise_19 : decode cX8_raise 19 = .ok (.iload_n 3, 1) := by decide +kernel
theorem dX8_raise_20 : decode cX8_raise 20 = .ok (.bipush 9, 2) := by decide +kernel
theorem dX8_raise_22 : decode cX8_raise 22 = .ok (.if_icmp .le 5, 3) := by decide +kernel
theorem dX8_raise_25 : decode cX8_raise 25 = .ok (.iconst (-1), 1) := by decide +kernel
theorem dX8_raise_26 : decode cX8_raise 26 = .ok (.ireturn, 1) := by decide +kernel
theorem dX8_raise_27 : decode cX8_raise 27 = .ok (.iload_n 1, 1) := by decide +kernel
theorem dX8_raise_28 : decode cX8_raise 28 = .ok (.iload_n 2, 1) := by decide +kernel
theorem dX8_raise_29 : decode cX8_raise 29 = .ok (.invokestatic 102, 3) := by decide +kernel
theorem dX8_raise_32 : decode cX8_raise 32 = .ok (.istore 4, 2) := by decide +kernel
theorem dX8_raise_34 : decode cX8_raise 34 = .ok (.aload_n 0, 1) := by decide +kernel
theorem dX8_raise_35 : decode cX8_raise 35 = .ok (.getfield 12, 3) := by decide +kernel
theorem dX8_raise_38 : decode cX8_raise 38 = .ok (.getfield 75, 3) := by decide +kernel
theorem dX8_raise_41 : decode cX8_raise 41 = .ok (.iload 4, 2) := by decide +kernel
theorem dX8_raise_43 : decode cX8_raise 43 = .ok (.invokevirtual 106, 3) := by decide +kernel
theorem dX8_raise_46 : decode cX8_raise 46 = .ok (.istore 5, 2) := by decide +kernel
theorem dX8_raise_48 : decode cX8_raise 48 = .ok (.iload 5, 2) := by decide +kernel
theorem dX8_raise_50 : decode cX8_raise 50 = .ok (.iload_n 3, 1) := by decide +kernel
theorem dX8_raise_51 : decode cX8_raise 51 = .ok (.if_icmp .ne 6, 3) := by decide +kernel
theorem dX8_raise_54 : decode cX8_raise 54 = .ok (.bipush (-2), 2) := by decide +kernel
theorem dX8_raise_56 : decode cX8_raise 56 = .ok (.ireturn, 1) := by decide +kernel
theorem dX8_raise_57 : decode cX8_raise 57 = .ok (.aload_n 0, 1) := by decide +kernel
theorem dX8_raise_58 : decode cX8_raise 58 = .ok (.getfield 22, 3) := by decide +kernel
theorem dX8_raise_61 : decode cX8_raise 61 = .ok (.aload_n 0, 1) := by decide +kernel
theorem dX8_raise_62 : decode cX8_raise 62 = .ok (.getfield 12, 3) := by decide +kernel
theorem dX8_raise_65 : decode cX8_raise 65 = .ok (.invokevirtual 110, 3) := by decide +kernel
theorem dX8_raise_68 : decode cX8_raise 68 = .ok (.aload_n 0, 1) := by decide +kernel
theorem dX8_raise_69 : decode cX8_raise 69 = .ok (.getfield 12, 3) := by decide +kernel
theorem dX8_raise_72 : decode cX8_raise 72 = .ok (.getfield 75, 3) := by decide +kernel
theorem dX8_raise_75 : decode cX8_raise 75 = .ok (.iload 4, 2) := by decide +kernel
theorem dX8_raise_77 : decode cX8_raise 77 = .ok (.iload_n 3, 1) := by decide +kernel
theorem dX8_raise_78 : decode cX8_raise 78 = .ok (.invokevirtual 113, 3) := by decide +kernel
theorem dX8_raise_81 : decode cX8_raise 81 = .ok (.aload_n 0, 1) := by decide +kernel
theorem dX8_raise_82 : decode cX8_raise 82 = .ok (.getfield 12, 3) := by decide +kernel
theorem dX8_raise_85 : decode cX8_raise 85 = .ok (.getfield 117, 3) := by decide +kernel
theorem dX8_raise_88 : decode cX8_raise 88 = .ok (.iload 4, 2) := by decide +kernel
theorem dX8_raise_90 : decode cX8_raise 90 = .ok (.invokevirtual 121, 3) := by decide +kernel
theorem dX8_raise_93 : decode cX8_raise 93 = .ok (.iload 5, 2) := by decide +kernel
theorem dX8_raise_95 : decode cX8_raise 95 = .ok (.ireturn, 1) := by decide +kernel
theorem dX8_light_0 : decode cX8_light 0 = .ok (.iload_n 1, 1) := by decide +kernel
theorem dX8_light_1 : decode cX8_light 1 = .ok (.invokestatic 126, 3) := by decide +kernel
theorem dX8_light_4 : decode cX8_light 4 = .ok (.ifCond .eq 10, 3) := by decide +kernel
theorem dX8_light_7 : decode cX8_light 7 = .ok (.iload_n 2, 1) := by decide +kernel
theorem dX8_light_8 : decode cX8_light 8 = .ok (.invokestatic 130, 3) := by decide +kernel
theorem dX8_light_11 : decode cX8_light 11 = .ok (.ifCond .ne 5, 3) := by decide +kernel
theorem dX8_light_14 : decode cX8_light 14 = .ok (.iconst (-1), 1) := by decide +kernel
theorem dX8_light_15 : decode cX8_light 15 = .ok (.ireturn, 1) := by decide +kernel
theorem dX8_light_16 : decode cX8_light 16 = .ok (.aload_n 0, 1) := by decide +kernel
theorem dX8_light_17 : decode cX8_light 17 = .ok (.getfield 12, 3) := by decide +kernel
theorem dX8_light_20 : decode cX8_light 20 = .ok (.getfield 133, 3) := by decide +kernel
theorem dX8_light_23 : decode cX8_light 23 = .ok (.iload_n 1, 1) := by decide +kernel
theorem dX8_light_24 : decode cX8_light 24 = .ok (.iaload, 1) := by decide +kernel
theorem dX8_light_25 : decode cX8_light 25 = .ok (.istore_n 3, 1) := by decide +kernel
theorem dX8_light_26 : decode cX8_light 26 = .ok (.iload_n 3, 1) := by decide +kernel
theorem dX8_light_27 : decode cX8_light 27 = .ok (.iload_n 2, 1) := by decide +kernel
theorem dX8_light_28 : decode cX8_light 28 = .ok (.if_icmp .ne 6, 3) := by decide +kernel
theorem dX8_light_31 : decode cX8_light 31 = .ok (.bipush (-2), 2) := by decide +kernel
theorem dX8_light_33 : decode cX8_light 33 = .ok (.ireturn, 1) := by decide +kernel
theorem dX8_light_34 : decode cX8_light 34 = .ok (.aload_n 0, 1) := by decide +kernel
theorem dX8_light_35 : decode cX8_light 35 = .ok (.getfield 22, 3) := by decide +kernel
theorem dX8_light_38 : decode cX8_light 38 = .ok (.aload_n 0, 1) := by decide +kernel
theorem dX8_light_39 : decode cX8_light 39 = .ok (.getfield 12, 3) := by decide +kernel
theorem dX8_light_42 : decode cX8_light 42 = .ok (.invokevirtual 110, 3) := by decide +kernel
theorem dX8_light_45 : decode cX8_light 45 = .ok (.aload_n 0, 1) := by decide +kernel
theorem dX8_light_46 : decode cX8_light 46 = .ok (.getfield 12, 3) := by decide +kernel
theorem dX8_light_49 : decode cX8_light 49 = .ok (.getfield 133, 3) := by decide +kernel
theorem dX8_light_52 : decode cX8_light 52 = .ok (.iload_n 1, 1) := by decide +kernel
theorem dX8_light_53 : decode cX8_light 53 = .ok (.iload_n 2, 1) := by decide +kernel
theorem dX8_light_54 : decode cX8_light 54 = .ok (.iastore, 1) := by decide +kernel
theorem dX8_light_55 : decode cX8_light 55 = .ok (.iload_n 3, 1) := by decide +kernel
theorem dX8_light_56 : decode cX8_light 56 = .ok (.ireturn, 1) := by decide +kernel
theorem dX8_shades_0 : decode cX8_shades 0 = .ok (.iload_n 1, 1) := by decide +kernel
theorem dX8_shades_1 : decode cX8_shades 1 = .ok (.invokestatic 137, 3) := by decide +kernel
theorem dX8_shades_4 : decode cX8_shades 4 = .ok (.ifCond .ne 5, 3) := by decide +kernel
theorem dX8_shades_7 : decode cX8_shades 7 = .ok (.iconst (-1), 1) := by decide +kernel
theorem dX8_shades_8 : decode cX8_shades 8 = .ok (.ireturn, 1) := by decide +kernel
theorem dX8_shades_9 : decode cX8_shades 9 = .ok (.aload_n 0, 1) := by decide +kernel
theorem dX8_shades_10 : decode cX8_shades 10 = .ok (.getfield 12, 3) := by decide +kernel
theorem dX8_shades_13 : decode cX8_shades 13 = .ok (.getfield 140, 3) := by decide +kernel
theorem dX8_shades_16 : decode cX8_shades 16 = .ok (.istore_n 2, 1) := by decide +kernel
theorem dX8_shades_17 : decode cX8_shades 17 = .ok (.iload_n 2, 1) := by decide +kernel
theorem dX8_shades_18 : decode cX8_shades 18 = .ok (.iload_n 1, 1) := by decide +kernel
theorem dX8_shades_19 : decode cX8_shades 19 = .ok (.if_icmp .ne 6, 3) := by decide +kernel
theorem dX8_shades_22 : decode cX8_shades 22 = .ok (.bipush (-2), 2) := by decide +kernel
theorem dX8_shades_24 : decode cX8_shades 24 = .ok (.ireturn, 1) := by decide +kernel
theorem dX8_shades_25 : decode cX8_shades 25 = .ok (.aload_n 0, 1) := by decide +kernel
theorem dX8_shades_26 : decode cX8_shades 26 = .ok (.getfield 22, 3) := by decide +kernel
theorem dX8_shades_29 : decode cX8_shades 29 = .ok (.aload_n 0, 1) := by decide +kernel
theorem dX8_shades_30 : decode cX8_shades 30 = .ok (.getfield 12, 3) := by decide +kernel
theorem dX8_shades_33 : decode cX8_shades 33 = .ok (.invokevirtual 110, 3) := by decide +kernel
theorem dX8_shades_36 : decode cX8_shades 36 = .ok (.aload_n 0, 1) := by decide +kernel
theorem dX8_shades_37 : decode cX8_shades 37 = .ok (.getfield 12, 3) := by decide +kernel
theorem dX8_shades_40 : decode cX8_shades 40 = .ok (.iload_n 1, 1) := by decide +kernel
theorem dX8_shades_41 : decode cX8_shades 41 = .ok (.putfield 140, 3) := by decide +kernel
theorem dX8_shades_44 : decode cX8_shades 44 = .ok (.iload_n 2, 1) := by decide +kernel
theorem dX8_shades_45 : decode cX8_shades 45 = .ok (.ireturn, 1) := by decide +kernel
theorem dX8_undo_0 : decode cX8_undo 0 = .ok (.aload_n 0, 1) := by decide +kernel
theorem dX8_undo_1 : decode cX8_undo 1 = .ok (.getfield 22, 3) := by decide +kernel
theorem dX8_undo_4 : decode cX8_undo 4 = .ok (.getfield 143, 3) := by decide +kernel
theorem dX8_undo_7 : decode cX8_undo 7 = .ok (.ifCond .ne 6, 3) := by decide +kernel
theorem dX8_undo_10 : decode cX8_undo 10 = .ok (.bipush (-2), 2) := by decide +kernel
theorem dX8_undo_12 : decode cX8_undo 12 = .ok (.ireturn, 1) := by decide +kernel
theorem dX8_undo_13 : decode cX8_undo 13 = .ok (.aload_n 0, 1) := by decide +kernel
theorem dX8_undo_14 : decode cX8_undo 14 = .ok (.getfield 22, 3) := by decide +kernel
theorem dX8_undo_17 : decode cX8_undo 17 = .ok (.aload_n 0, 1) := by decide +kernel
theorem dX8_undo_18 : decode cX8_undo 18 = .ok (.getfield 12, 3) := by decide +kernel
theorem dX8_undo_21 : decode cX8_undo 21 = .ok (.invokevirtual 146, 3) := by decide +kernel
theorem dX8_undo_24 : decode cX8_undo 24 = .ok (.aload_n 0, 1) := by decide +kernel
theorem dX8_undo_25 : decode cX8_undo 25 = .ok (.getfield 22, 3) := by decide +kernel
theorem dX8_undo_28 : decode cX8_undo 28 = .ok (.getfield 143, 3) := by decide +kernel
theorem dX8_undo_31 : decode cX8_undo 31 = .ok (.ireturn, 1) := by decide +kernel
theorem dX8_cell_0 : decode cX8_cell 0 = .ok (.aload_n 0, 1) := by decide +kernel
theorem dX8_cell_1 : decode cX8_cell 1 = .ok (.getfield 12, 3) := by decide +kernel
theorem dX8_cell_4 : decode cX8_cell 4 = .ok (.getfield 75, 3) := by decide +kernel
theorem dX8_cell_7 : decode cX8_cell 7 = .ok (.astore 4, 2) := by decide +kernel
theorem dX8_cell_9 : decode cX8_cell 9 = .ok (.aload 4, 2) := by decide +kernel
theorem dX8_cell_11 : decode cX8_cell 11 = .ok (.iload_n 1, 1) := by decide +kernel
theorem dX8_cell_12 : decode cX8_cell 12 = .ok (.iload_n 2, 1) := by decide +kernel
theorem dX8_cell_13 : decode cX8_cell 13 = .ok (.invokevirtual 98, 3) := by decide +kernel
theorem dX8_cell_16 : decode cX8_cell 16 = .ok (.ifCond .ne 5, 3) := by decide +kernel
theorem dX8_cell_19 : decode cX8_cell 19 = .ok (.iconst (-1), 1) := by decide +kernel
theorem dX8_cell_20 : decode cX8_cell 20 = .ok (.ireturn, 1) := by decide +kernel
theorem dX8_cell_21 : decode cX8_cell 21 = .ok (.iload_n 1, 1) := by decide +kernel
theorem dX8_cell_22 : decode cX8_cell 22 = .ok (.iload_n 2, 1) := by decide +kernel
theorem dX8_cell_23 : decode cX8_cell 23 = .ok (.invokestatic 102, 3) := by decide +kernel
theorem dX8_cell_26 : decode cX8_cell 26 = .ok (.istore 5, 2) := by decide +kernel
theorem dX8_cell_28 : decode cX8_cell 28 = .ok (.iload_n 3, 1) := by decide +kernel
theorem dX8_cell_29 : decode cX8_cell 29 = .ok (.tableswitch 199 0 9 #[55, 63, 74, 85, 93, 104, 120, 136, 144, 157], 55) := by decide +kernel
theorem dX8_cell_84 : decode cX8_cell 84 = .ok (.aload 4, 2) := by decide +kernel
theorem dX8_cell_86 : decode cX8_cell 86 = .ok (.iload 5, 2) := by decide +kernel
theorem dX8_cell_88 : decode cX8_cell 88 = .ok (.invokevirtual 106, 3) := by decide +kernel
theorem dX8_cell_91 : decode cX8_cell 91 = .ok (.ireturn, 1) := by decide +kernel
theorem dX8_cell_92 : decode cX8_cell 92 = .ok (.aload 4, 2) := by decide +kernel
theorem dX8_cell_94 : decode cX8_cell 94 = .ok (.iload 5, 2) := by decide +kernel
theorem dX8_cell_96 : decode cX8_cell 96 = .ok (.invokevirtual 149, 3) := by decide +kernel
theorem dX8_cell_99 : decode cX8_cell 99 = .ok (.bipush 100, 2) := by decide +kernel
theorem dX8_cell_101 : decode cX8_cell 101 = .ok (.iadd, 1) := by decide +kernel
theorem dX8_cell_102 : decode cX8_cell 102 = .ok (.ireturn, 1) := by decide +kernel
theorem dX8_cell_103 : decode cX8_cell 103 = .ok (.aload 4, 2) := by decide +kernel
theorem dX8_cell_105 : decode cX8_cell 105 = .ok (.iload 5, 2) := by decide +kernel
theorem dX8_cell_107 : decode cX8_cell 107 = .ok (.invokevirtual 152, 3) := by decide +kernel
theorem dX8_cell_110 : decode cX8_cell 110 = .ok (.bipush 100, 2) := by decide +kernel
theorem dX8_cell_112 : decode cX8_cell 112 = .ok (.iadd, 1) := by decide +kernel
theorem dX8_cell_113 : decode cX8_cell 113 = .ok (.ireturn, 1) := by decide +kernel
theorem dX8_cell_114 : decode cX8_cell 114 = .ok (.aload 4, 2) := by decide +kernel
theorem dX8_cell_116 : decode cX8_cell 116 = .ok (.iload 5, 2) := by decide +kernel
theorem dX8_cell_118 : decode cX8_cell 118 = .ok (.invokevirtual 155, 3) := by decide +kernel
theorem dX8_cell_121 : decode cX8_cell 121 = .ok (.ireturn, 1) := by decide +kernel
theorem dX8_cell_122 : decode cX8_cell 122 = .ok (.aload 4, 2) := by decide +kernel
theorem dX8_cell_124 : decode cX8_cell 124 = .ok (.iload 5, 2) := by decide +kernel
theorem dX8_cell_126 : decode cX8_cell 126 = .ok (.invokevirtual 158, 3) := by decide +kernel
theorem dX8_cell_129 : decode cX8_cell 129 = .ok (.invokestatic 161, 3) := by decide +kernel
theorem dX8_cell_132 : decode cX8_cell 132 = .ok (.ireturn, 1) := by decide +kernel
theorem dX8_cell_133 : decode cX8_cell 133 = .ok (.aload 4, 2) := by decide +kernel
theorem dX8_cell_135 : decode cX8_cell 135 = .ok (.iload 5, 2) := by decide +kernel
theorem dX8_cell_137 : decode cX8_cell 137 = .ok (.invokevirtual 164, 3) := by decide +kernel
theorem dX8_cell_140 : decode cX8_cell 140 = .ok (.ifCond .eq 7, 3) := by decide +kernel
theorem dX8_cell_143 : decode cX8_cell 143 = .ok (.iconst 1, 1) := by decide +kernel
theorem dX8_cell_144 : decode cX8_cell 144 = .ok (.goto 4, 3) := by decide +kernel
theorem dX8_cell_147 : decode cX8_cell 147 = .ok (.iconst 0, 1) := by decide +kernel
theorem dX8_cell_148 : decode cX8_cell 148 = .ok (.ireturn, 1) := by decide +kernel
theorem dX8_cell_149 : decode cX8_cell 149 = .ok (.aload 4, 2) := by decide +kernel
theorem dX8_cell_151 : decode cX8_cell 151 = .ok (.iload 5, 2) := by decide +kernel
theorem dX8_cell_153 : decode cX8_cell 153 = .ok (.invokevirtual 167, 3) := by decide +kernel
theorem dX8_cell_156 : decode cX8_cell 156 = .ok (.ifCond .eq 7, 3) := by decide +kernel
theorem dX8_cell_159 : decode cX8_cell 159 = .ok (.iconst 1, 1) := by decide +kernel
theorem dX8_cell_160 : decode cX8_cell 160 = .ok (.goto 4, 3) := by decide +kernel
theorem dX8_cell_163 : decode cX8_cell 163 = .ok (.iconst 0, 1) := by decide +kernel
theorem dX8_cell_164 : decode cX8_cell 164 = .ok (.ireturn, 1) := by decide +kernel
theorem dX8_cell_165 : decode cX8_cell 165 = .ok (.aload 4, 2) := by decide +kernel
theorem dX8_cell_167 : decode cX8_cell 167 = .ok (.iload 5, 2) := by decide +kernel
theorem dX8_cell_169 : decode cX8_cell 169 = .ok (.invokevirtual 170, 3) := by decide +kernel
theorem dX8_cell_172 : decode cX8_cell 172 = .ok (.ireturn, 1) := by decide +kernel
theorem dX8_cell_173 : decode cX8_cell 173 = .ok (.aload_n 0, 1) := by decide +kernel
theorem dX8_cell_174 : decode cX8_cell 174 = .ok (.getfield 12, 3) := by decide +kernel
theorem dX8_cell_177 : decode cX8_cell 177 = .ok (.iload 5, 2) := by decide +kernel
theorem dX8_cell_179 : decode cX8_cell 179 = .ok (.invokevirtual 173, 3) := by decide +kernel
theorem dX8_cell_182 : decode cX8_cell 182 = .ok (.bipush 100, 2) := by decide +kernel
theorem dX8_cell_184 : decode cX8_cell 184 = .ok (.iadd, 1) := by decide +kernel
theorem dX8_cell_185 : decode cX8_cell 185 = .ok (.ireturn, 1) := by decide +kernel
theorem dX8_cell_186 : decode cX8_cell 186 = .ok (.aload_n 0, 1) := by decide +kernel
theorem dX8_cell_187 : decode cX8_cell 187 = .ok (.getfield 43, 3) := by decide +kernel
theorem dX8_cell_190 : decode cX8_cell 190 = .ok (.aload_n 0, 1) := by decide +kernel
theorem dX8_cell_191 : decode cX8_cell 191 = .ok (.getfield 12, 3) := by decide +kernel
theorem dX8_cell_194 : decode cX8_cell 194 = .ok (.invokevirtual 176, 3) := by decide +kernel
theorem dX8_cell_197 : decode cX8_cell 197 = .ok (.aload_n 0, 1) := by decide +kernel
theorem dX8_cell_198 : decode cX8_cell 198 = .ok (.getfield 43, 3) := by decide +kernel
theorem dX8_cell_201 : decode cX8_cell 201 = .ok (.aload_n 0, 1) := by decide +kernel
theorem dX8_cell_202 : decode cX8_cell 202 = .ok (.getfield 12, 3) := by decide +kernel
theorem dX8_cell_205 : decode cX8_cell 205 = .ok (.getfield 140, 3) := by decide +kernel
theorem dX8_cell_208 : decode cX8_cell 208 = .ok (.invokevirtual 179, 3) := by decide +kernel
theorem dX8_cell_211 : decode cX8_cell 211 = .ok (.aload_n 0, 1) := by decide +kernel
theorem dX8_cell_212 : decode cX8_cell 212 = .ok (.getfield 43, 3) := by decide +kernel
theorem dX8_cell_215 : decode cX8_cell 215 = .ok (.aload_n 0, 1) := by decide +kernel
theorem dX8_cell_216 : decode cX8_cell 216 = .ok (.getfield 12, 3) := by decide +kernel
theorem dX8_cell_219 : decode cX8_cell 219 = .ok (.iload 5, 2) := by decide +kernel
theorem dX8_cell_221 : decode cX8_cell 221 = .ok (.invokevirtual 173, 3) := by decide +kernel
theorem dX8_cell_224 : decode cX8_cell 224 = .ok (.invokevirtual 182, 3) := by decide +kernel
theorem dX8_cell_227 : decode cX8_cell 227 = .ok (.ireturn, 1) := by decide +kernel
theorem dX8_cell_228 : decode cX8_cell 228 = .ok (.iconst (-1), 1) := by decide +kernel
theorem dX8_cell_229 : decode cX8_cell 229 = .ok (.ireturn, 1) := by decide +kernel
theorem dX8_flow_0 : decode cX8_flow 0 = .ok (.aload_n 0, 1) := by decide +kernel
theorem dX8_flow_1 : decode cX8_flow 1 = .ok (.getfield 12, 3) := by decide +kernel
theorem dX8_flow_4 : decode cX8_flow 4 = .ok (.getfield 75, 3) := by decide +kernel
theorem dX8_flow_7 : decode cX8_flow 7 = .ok (.iload_n 1, 1) := by decide +kernel
theorem dX8_flow_8 : decode cX8_flow 8 = .ok (.iload_n 2, 1) := by decide +kernel
theorem dX8_flow_9 : decode cX8_flow 9 = .ok (.invokevirtual 98, 3) := by decide +kernel
theorem dX8_flow_12 : decode cX8_flow 12 = .ok (.ifCond .eq 12, 3) := by decide +kernel
theorem dX8_flow_15 : decode cX8_flow 15 = .ok (.iload_n 3, 1) := by decide +kernel
theorem dX8_flow_16 : decode cX8_flow 16 = .ok (.ifCond .lt 8, 3) := by decide +kernel
theorem dX8_flow_19 : decode cX8_flow 19 = .ok (.iload_n 3, 1) := by decide +kernel
theorem dX8_flow_20 : decode cX8_flow 20 = .ok (.iconst 1, 1) := by decide +kernel
theorem dX8_flow_21 : decode cX8_flow 21 = .ok (.if_icmp .le 5, 3) := by decide +kernel
theorem dX8_flow_24 : decode cX8_flow 24 = .ok (.iconst (-1), 1) := by decide +kernel
theorem dX8_flow_25 : decode cX8_flow 25 = .ok (.ireturn, 1) := by decide +kernel
theorem dX8_flow_26 : decode cX8_flow 26 = .ok (.iload_n 1, 1) := by decide +kernel
theorem dX8_flow_27 : decode cX8_flow 27 = .ok (.iload_n 2, 1) := by decide +kernel
theorem dX8_flow_28 : decode cX8_flow 28 = .ok (.invokestatic 102, 3) := by decide +kernel
theorem dX8_flow_31 : decode cX8_flow 31 = .ok (.istore 4, 2) := by decide +kernel
theorem dX8_flow_33 : decode cX8_flow 33 = .ok (.iload_n 3, 1) := by decide +kernel
theorem dX8_flow_34 : decode cX8_flow 34 = .ok (.ifCond .ne 18, 3) := by decide +kernel
theorem dX8_flow_37 : decode cX8_flow 37 = .ok (.aload_n 0, 1) := by decide +kernel
theorem dX8_flow_38 : decode cX8_flow 38 = .ok (.getfield 12, 3) := by decide +kernel
theorem dX8_flow_41 : decode cX8_flow 41 = .ok (.getfield 75, 3) := by decide +kernel
theorem dX8_flow_44 : decode cX8_flow 44 = .ok (.iload 4, 2) := by decide +kernel
theorem dX8_flow_46 : decode cX8_flow 46 = .ok (.invokevirtual 185, 3) := by decide +kernel
theorem dX8_flow_49 : decode cX8_flow 49 = .ok (.goto 15, 3) := by decide +kernel
theorem dX8_flow_52 : decode cX8_flow 52 = .ok (.aload_n 0, 1) := by decide +kernel
theorem dX8_flow_53 : decode cX8_flow 53 = .ok (.getfield 12, 3) := by decide +kernel
theorem dX8_flow_56 : decode cX8_flow 56 = .ok (.getfield 75, 3) := by decide +kernel
theorem dX8_flow_59 : decode cX8_flow 59 = .ok (.iload 4, 2) := by decide +kernel
theorem dX8_flow_61 : decode cX8_flow 61 = .ok (.invokevirtual 188, 3) := by decide +kernel
theorem dX8_flow_64 : decode cX8_flow 64 = .ok (.ireturn, 1) := by decide +kernel
theorem dX8_basin_0 : decode cX8_basin 0 = .ok (.aload_n 0, 1) := by decide +kernel
theorem dX8_basin_1 : decode cX8_basin 1 = .ok (.getfield 12, 3) := by decide +kernel
theorem dX8_basin_4 : decode cX8_basin 4 = .ok (.getfield 75, 3) := by decide +kernel
theorem dX8_basin_7 : decode cX8_basin 7 = .ok (.iload_n 1, 1) := by decide +kernel
theorem dX8_basin_8 : decode cX8_basin 8 = .ok (.iload_n 2, 1) := by decide +kernel
theorem dX8_basin_9 : decode cX8_basin 9 = .ok (.invokevirtual 98, 3) := by decide +kernel
theorem dX8_basin_12 : decode cX8_basin 12 = .ok (.ifCond .ne 5, 3) := by decide +kernel
theorem dX8_basin_15 : decode cX8_basin 15 = .ok (.iconst (-1), 1) := by decide +kernel
theorem dX8_basin_16 : decode cX8_basin 16 = .ok (.ireturn, 1) := by decide +kernel
theorem dX8_basin_17 : decode cX8_basin 17 = .ok (.aload_n 0, 1) := by decide +kernel
theorem dX8_basin_18 : decode cX8_basin 18 = .ok (.getfield 12, 3) := by decide +kernel
theorem dX8_basin_21 : decode cX8_basin 21 = .ok (.getfield 75, 3) := by decide +kernel
theorem dX8_basin_24 : decode cX8_basin 24 = .ok (.iload_n 1, 1) := by decide +kernel
theorem dX8_basin_25 : decode cX8_basin 25 = .ok (.iload_n 2, 1) := by decide +kernel
theorem dX8_basin_26 : decode cX8_basin 26 = .ok (.invokestatic 102, 3) := by decide +kernel
theorem dX8_basin_29 : decode cX8_basin 29 = .ok (.invokevirtual 191, 3) := by decide +kernel
theorem dX8_basin_32 : decode cX8_basin 32 = .ok (.ireturn, 1) := by decide +kernel
theorem dX8_contrast_0 : decode cX8_contrast 0 = .ok (.iload_n 1, 1) := by decide +kernel
theorem dX8_contrast_1 : decode cX8_contrast 1 = .ok (.invokestatic 126, 3) := by decide +kernel
theorem dX8_contrast_4 : decode cX8_contrast 4 = .ok (.ifCond .eq 10, 3) := by decide +kernel
theorem dX8_contrast_7 : decode cX8_contrast 7 = .ok (.iload_n 2, 1) := by decide +kernel
theorem dX8_contrast_8 : decode cX8_contrast 8 = .ok (.invokestatic 130, 3) := by decide +kernel
theorem dX8_contrast_11 : decode cX8_contrast 11 = .ok (.ifCond .ne 5, 3) := by decide +kernel
theorem dX8_contrast_14 : decode cX8_contrast 14 = .ok (.iconst (-1), 1) := by decide +kernel
theorem dX8_contrast_15 : decode cX8_contrast 15 = .ok (.ireturn, 1) := by decide +kernel
theorem dX8_contrast_16 : decode cX8_contrast 16 = .ok (.aload_n 0, 1) := by decide +kernel
theorem dX8_contrast_17 : decode cX8_contrast 17 = .ok (.getfield 12, 3) := by decide +kernel
theorem dX8_contrast_20 : decode cX8_contrast 20 = .ok (.getfield 75, 3) := by decide +kernel
theorem dX8_contrast_23 : decode cX8_contrast 23 = .ok (.iload_n 1, 1) := by decide +kernel
theorem dX8_contrast_24 : decode cX8_contrast 24 = .ok (.iload_n 2, 1) := by decide +kernel
theorem dX8_contrast_25 : decode cX8_contrast 25 = .ok (.invokevirtual 194, 3) := by decide +kernel
theorem dX8_contrast_28 : decode cX8_contrast 28 = .ok (.ireturn, 1) := by decide +kernel
theorem dX8_best_0 : decode cX8_best 0 = .ok (.iload_n 1, 1) := by decide +kernel
theorem dX8_best_1 : decode cX8_best 1 = .ok (.iconst (-1), 1) := by decide +kernel
theorem dX8_best_2 : decode cX8_best 2 = .ok (.if_icmp .eq 12, 3) := by decide +kernel
theorem dX8_best_5 : decode cX8_best 5 = .ok (.iload_n 1, 1) := by decide +kernel
theorem dX8_best_6 : decode cX8_best 6 = .ok (.invokestatic 126, 3) := by decide +kernel
theorem dX8_best_9 : decode cX8_best 9 = .ok (.ifCond .ne 5, 3) := by decide +kernel
theorem dX8_best_12 : decode cX8_best 12 = .ok (.iconst (-1), 1) := by decide +kernel
theorem dX8_best_13 : decode cX8_best 13 = .ok (.ireturn, 1) := by decide +kernel
theorem dX8_best_14 : decode cX8_best 14 = .ok (.aload_n 0, 1) := by decide +kernel
theorem dX8_best_15 : decode cX8_best 15 = .ok (.getfield 36, 3) := by decide +kernel
theorem dX8_best_18 : decode cX8_best 18 = .ok (.aload_n 0, 1) := by decide +kernel
theorem dX8_best_19 : decode cX8_best 19 = .ok (.getfield 12, 3) := by decide +kernel
theorem dX8_best_22 : decode cX8_best 22 = .ok (.getfield 75, 3) := by decide +kernel
theorem dX8_best_25 : decode cX8_best 25 = .ok (.invokevirtual 197, 3) := by decide +kernel
theorem dX8_best_28 : decode cX8_best 28 = .ok (.iload_n 1, 1) := by decide +kernel
theorem dX8_best_29 : decode cX8_best 29 = .ok (.iconst (-1), 1) := by decide +kernel
theorem dX8_best_30 : decode cX8_best 30 = .ok (.if_icmp .ne 13, 3) := by decide +kernel
theorem dX8_best_33 : decode cX8_best 33 = .ok (.aload_n 0, 1) := by decide +kernel
theorem dX8_best_34 : decode cX8_best 34 = .ok (.getfield 36, 3) := by decide +kernel
theorem dX8_best_37 : decode cX8_best 37 = .ok (.getfield 201, 3) := by decide +kernel
theorem dX8_best_40 : decode cX8_best 40 = .ok (.goto 12, 3) := by decide +kernel
theorem dX8_best_43 : decode cX8_best 43 = .ok (.aload_n 0, 1) := by decide +kernel
theorem dX8_best_44 : decode cX8_best 44 = .ok (.getfield 36, 3) := by decide +kernel
theorem dX8_best_47 : decode cX8_best 47 = .ok (.getfield 204, 3) := by decide +kernel
theorem dX8_best_50 : decode cX8_best 50 = .ok (.iload_n 1, 1) := by decide +kernel
theorem dX8_best_51 : decode cX8_best 51 = .ok (.iaload, 1) := by decide +kernel
theorem dX8_best_52 : decode cX8_best 52 = .ok (.ireturn, 1) := by decide +kernel
theorem dX8_turn_0 : decode cX8_turn 0 = .ok (.aload_n 0, 1) := by decide +kernel
theorem dX8_turn_1 : decode cX8_turn 1 = .ok (.getfield 36, 3) := by decide +kernel
theorem dX8_turn_4 : decode cX8_turn 4 = .ok (.aload_n 0, 1) := by decide +kernel
theorem dX8_turn_5 : decode cX8_turn 5 = .ok (.getfield 12, 3) := by decide +kernel
theorem dX8_turn_8 : decode cX8_turn 8 = .ok (.getfield 75, 3) := by decide +kernel
theorem dX8_turn_11 : decode cX8_turn 11 = .ok (.invokevirtual 197, 3) := by decide +kernel
theorem dX8_turn_14 : decode cX8_turn 14 = .ok (.aload_n 0, 1) := by decide +kernel
theorem dX8_turn_15 : decode cX8_turn 15 = .ok (.getfield 22, 3) := by decide +kernel
theorem dX8_turn_18 : decode cX8_turn 18 = .ok (.aload_n 0, 1) := by decide +kernel
theorem dX8_turn_19 : decode cX8_turn 19 = .ok (.getfield 12, 3) := by decide +kernel
theorem dX8_turn_22 : decode cX8_turn 22 = .ok (.invokevirtual 110, 3) := by decide +kernel
theorem dX8_turn_25 : decode cX8_turn 25 = .ok (.iconst 0, 1) := by decide +kernel
theorem dX8_turn_26 : decode cX8_turn 26 = .ok (.istore_n 1, 1) := by decide +kernel
theorem dX8_turn_27 : decode cX8_turn 27 = .ok (.iconst 0, 1) := by decide +kernel
theorem dX8_turn_28 : decode cX8_turn 28 = .ok (.istore_n 2, 1) := by decide +kernel
theorem dX8_turn_29 : decode cX8_turn 29 = .ok (.iload_n 2, 1) := by decide +kernel
theorem dX8_turn_30 : decode cX8_turn 30 = .ok (.iconst 4, 1) := by decide +kernel
theorem dX8_turn_31 : decode cX8_turn 31 = .ok (.if_icmp .ge 51, 3) := by decide +kernel
theorem dX8_turn_34 : decode cX8_turn 34 = .ok (.aload_n 0, 1) := by decide +kernel
theorem dX8_turn_35 : decode cX8_turn 35 = .ok (.getfield 12, 3) := by decide +kernel
theorem dX8_turn_38 : decode cX8_turn 38 = .ok (.getfield 133, 3) := by decide +kernel
theorem dX8_turn_41 : decode cX8_turn 41 = .ok (.iload_n 2, 1) := by decide +kernel
theorem dX8_turn_42 : decode cX8_turn 42 = .ok (.iaload, 1) := by decide +kernel
theorem dX8_turn_43 : decode cX8_turn 43 = .ok (.aload_n 0, 1) := by decide +kernel
theorem dX8_turn_44 : decode cX8_turn 44 = .ok (.getfield 36, 3) := by decide +kernel
theorem dX8_turn_47 : decode cX8_turn 47 = .ok (.getfield 204, 3) := by decide +kernel
theorem dX8_turn_50 : decode cX8_turn 50 = .ok (.iload_n 2, 1) := by decide +kernel
theorem dX8_turn_51 : decode cX8_turn 51 = .ok (.iaload, 1) := by decide +kernel
theorem dX8_turn_52 : decode cX8_turn 52 = .ok (.if_icmp .eq 6, 3) := by decide +kernel
theorem dX8_turn_55 : decode cX8_turn 55 = .ok (.iinc 1 1, 3) := by decide +kernel
theorem dX8_turn_58 : decode cX8_turn 58 = .ok (.aload_n 0, 1) := by decide +kernel
theorem dX8_turn_59 : decode cX8_turn 59 = .ok (.getfield 12, 3) := by decide +kernel
theorem dX8_turn_62 : decode cX8_turn 62 = .ok (.getfield 133, 3) := by decide +kernel
theorem dX8_turn_65 : decode cX8_turn 65 = .ok (.iload_n 2, 1) := by decide +kernel
theorem dX8_turn_66 : decode cX8_turn 66 = .ok (.aload_n 0, 1) := by decide +kernel
theorem dX8_turn_67 : decode cX8_turn 67 = .ok (.getfield 36, 3) := by decide +kernel
theorem dX8_turn_70 : decode cX8_turn 70 = .ok (.getfield 204, 3) := by decide +kernel
theorem dX8_turn_73 : decode cX8_turn 73 = .ok (.iload_n 2, 1) := by decide +kernel
theorem dX8_turn_74 : decode cX8_turn 74 = .ok (.iaload, 1) := by decide +kernel
theorem dX8_turn_75 : decode cX8_turn 75 = .ok (.iastore, 1) := by decide +kernel
theorem dX8_turn_76 : decode cX8_turn 76 = .ok (.iinc 2 1, 3) := by decide +kernel
theorem dX8_turn_79 : decode cX8_turn 79 = .ok (.goto (-50), 3) := by decide +kernel
theorem dX8_turn_82 : decode cX8_turn 82 = .ok (.iload_n 1, 1) := by decide +kernel
theorem dX8_turn_83 : decode cX8_turn 83 = .ok (.ireturn, 1) := by decide +kernel
theorem dX8_shade_0 : decode cX8_shade 0 = .ok (.iload_n 1, 1) := by decide +kernel
theorem dX8_shade_1 : decode cX8_shade 1 = .ok (.bipush (-2), 2) := by decide +kernel
theorem dX8_shade_3 : decode cX8_shade 3 = .ok (.if_icmp .ge 5, 3) := by decide +kernel
theorem dX8_shade_6 : decode cX8_shade 6 = .ok (.iconst (-1), 1) := by decide +kernel
theorem dX8_shade_7 : decode cX8_shade 7 = .ok (.ireturn, 1) := by decide +kernel
theorem dX8_shade_8 : decode cX8_shade 8 = .ok (.aload_n 0, 1) := by decide +kernel
theorem dX8_shade_9 : decode cX8_shade 9 = .ok (.getfield 43, 3) := by decide +kernel
theorem dX8_shade_12 : decode cX8_shade 12 = .ok (.aload_n 0, 1) := by decide +kernel
theorem dX8_shade_13 : decode cX8_shade 13 = .ok (.getfield 12, 3) := by decide +kernel
theorem dX8_shade_16 : decode cX8_shade 16 = .ok (.invokevirtual 176, 3) := by decide +kernel
theorem dX8_shade_19 : decode cX8_shade 19 = .ok (.iload_n 1, 1) := by decide +kernel
theorem dX8_shade_20 : decode cX8_shade 20 = .ok (.bipush (-2), 2) := by decide +kernel
theorem dX8_shade_22 : decode cX8_shade 22 = .ok (.if_icmp .ne 18, 3) := by decide +kernel
theorem dX8_shade_25 : decode cX8_shade 25 = .ok (.aload_n 0, 1) := by decide +kernel
theorem dX8_shade_26 : decode cX8_shade 26 = .ok (.getfield 43, 3) := by decide +kernel
theorem dX8_shade_29 : decode cX8_shade 29 = .ok (.aload_n 0, 1) := by decide +kernel
theorem dX8_shade_30 : decode cX8_shade 30 = .ok (.getfield 12, 3) := by decide +kernel
theorem dX8_shade_33 : decode cX8_shade 33 = .ok (.getfield 140, 3) := by decide +kernel
theorem dX8_shade_36 : decode cX8_shade 36 = .ok (.invokevirtual 207, 3) := by decide +kernel
theorem dX8_shade_39 : decode cX8_shade 39 = .ok (.ireturn, 1) := by decide +kernel
theorem dX8_shade_40 : decode cX8_shade 40 = .ok (.aload_n 0, 1) := by decide +kernel
theorem dX8_shade_41 : decode cX8_shade 41 = .ok (.getfield 43, 3) := by decide +kernel
theorem dX8_shade_44 : decode cX8_shade 44 = .ok (.aload_n 0, 1) := by decide +kernel
theorem dX8_shade_45 : decode cX8_shade 45 = .ok (.getfield 12, 3) := by decide +kernel
theorem dX8_shade_48 : decode cX8_shade 48 = .ok (.getfield 140, 3) := by decide +kernel
theorem dX8_shade_51 : decode cX8_shade 51 = .ok (.invokevirtual 179, 3) := by decide +kernel
theorem dX8_shade_54 : decode cX8_shade 54 = .ok (.iload_n 1, 1) := by decide +kernel
theorem dX8_shade_55 : decode cX8_shade 55 = .ok (.iconst (-1), 1) := by decide +kernel
theorem dX8_shade_56 : decode cX8_shade 56 = .ok (.if_icmp .ne 11, 3) := by decide +kernel
theorem dX8_shade_59 : decode cX8_shade 59 = .ok (.aload_n 0, 1) := by decide +kernel
theorem dX8_shade_60 : decode cX8_shade 60 = .ok (.getfield 43, 3) := by decide +kernel
theorem dX8_shade_63 : decode cX8_shade 63 = .ok (.getfield 210, 3) := by decide +kernel
theorem dX8_shade_66 : decode cX8_shade 66 = .ok (.ireturn, 1) := by decide +kernel
theorem dX8_shade_67 : decode cX8_shade 67 = .ok (.iload_n 1, 1) := by decide +kernel
theorem dX8_shade_68 : decode cX8_shade 68 = .ok (.aload_n 0, 1) := by decide +kernel
theorem dX8_shade_69 : decode cX8_shade 69 = .ok (.getfield 43, 3) := by decide +kernel
theorem dX8_shade_72 : decode cX8_shade 72 = .ok (.getfield 210, 3) := by decide +kernel
theorem dX8_shade_75 : decode cX8_shade 75 = .ok (.if_icmp .ge 17, 3) := by decide +kernel
theorem dX8_shade_78 : decode cX8_shade 78 = .ok (.aload_n 0, 1) := by decide +kernel
theorem dX8_shade_79 : decode cX8_shade 79 = .ok (.getfield 43, 3) := by decide +kernel
theorem dX8_shade_82 : decode cX8_shade 82 = .ok (.iload_n 1, 1) := by decide +kernel
theorem dX8_shade_83 : decode cX8_shade 83 = .ok (.invokevirtual 213, 3) := by decide +kernel
theorem dX8_shade_86 : decode cX8_shade 86 = .ok (.bipush 100, 2) := by decide +kernel
theorem dX8_shade_88 : decode cX8_shade 88 = .ok (.iadd, 1) := by decide +kernel
theorem dX8_shade_89 : decode cX8_shade 89 = .ok (.goto 5, 3) := by decide +kernel
theorem dX8_shade_92 : decode cX8_shade 92 = .ok (.bipush (-4), 2) := by decide +kernel
theorem dX8_shade_94 : decode cX8_shade 94 = .ok (.ireturn, 1) := by decide +kernel
theorem dX8_error_0 : decode cX8_error 0 = .ok (.iload_n 1, 1) := by decide +kernel
theorem dX8_error_1 : decode cX8_error 1 = .ok (.invokestatic 137, 3) := by decide +kernel
theorem dX8_error_4 : decode cX8_error 4 = .ok (.ifCond .ne 5, 3) := by decide +kernel
theorem dX8_error_7 : decode cX8_error 7 = .ok (.iconst (-1), 1) := by decide +kernel
theorem dX8_error_8 : decode cX8_error 8 = .ok (.ireturn, 1) := by decide +kernel
theorem dX8_error_9 : decode cX8_error 9 = .ok (.aload_n 0, 1) := by decide +kernel
theorem dX8_error_10 : decode cX8_error 10 = .ok (.getfield 43, 3) := by decide +kernel
theorem dX8_error_13 : decode cX8_error 13 = .ok (.aload_n 0, 1) := by decide +kernel
theorem dX8_error_14 : decode cX8_error 14 = .ok (.getfield 12, 3) := by decide +kernel
theorem dX8_error_17 : decode cX8_error 17 = .ok (.invokevirtual 176, 3) := by decide +kernel
theorem dX8_error_20 : decode cX8_error 20 = .ok (.aload_n 0, 1) := by decide +kernel
theorem dX8_error_21 : decode cX8_error 21 = .ok (.getfield 43, 3) := by decide +kernel
theorem dX8_error_24 : decode cX8_error 24 = .ok (.iload_n 1, 1) := by decide +kernel
theorem dX8_error_25 : decode cX8_error 25 = .ok (.invokevirtual 207, 3) := by decide +kernel
theorem dX8_error_28 : decode cX8_error 28 = .ok (.ireturn, 1) := by decide +kernel
theorem dX8_level_0 : decode cX8_level 0 = .ok (.iload_n 1, 1) := by decide +kernel
theorem dX8_level_1 : decode cX8_level 1 = .ok (.iconst 1, 1) := by decide +kernel
theorem dX8_level_2 : decode cX8_level 2 = .ok (.if_icmp .lt 9, 3) := by decide +kernel
theorem dX8_level_5 : decode cX8_level 5 = .ok (.iload_n 1, 1) := by decide +kernel
theorem dX8_level_6 : decode cX8_level 6 = .ok (.bipush 9, 2) := by decide +kernel
theorem dX8_level_8 : decode cX8_level 8 = .ok (.if_icmp .le 5, 3) := by decide +kernel
theorem dX8_level_11 : decode cX8_level 11 = .ok (.iconst (-1), 1) := by decide +kernel
theorem dX8_level_12 : decode cX8_level 12 = .ok (.ireturn, 1) := by decide +kernel
theorem dX8_level_13 : decode cX8_level 13 = .ok (.iload_n 2, 1) := by decide +kernel
theorem dX8_level_14 : decode cX8_level 14 = .ok (.tableswitch 74 0 2 #[26, 42, 58], 26) := by decide +kernel
theorem dX8_level_40 : decode cX8_level 40 = .ok (.aload_n 0, 1) := by decide +kernel
theorem dX8_level_41 : decode cX8_level 41 = .ok (.getfield 50, 3) := by decide +kernel
theorem dX8_level_44 : decode cX8_level 44 = .ok (.aload_n 0, 1) := by decide +kernel
theorem dX8_level_45 : decode cX8_level 45 = .ok (.getfield 12, 3) := by decide +kernel
theorem dX8_level_48 : decode cX8_level 48 = .ok (.getfield 75, 3) := by decide +kernel
theorem dX8_level_51 : decode cX8_level 51 = .ok (.iload_n 1, 1) := by decide +kernel
theorem dX8_level_52 : decode cX8_level 52 = .ok (.invokevirtual 216, 3) := by decide +kernel
theorem dX8_level_55 : decode cX8_level 55 = .ok (.ireturn, 1) := by decide +kernel
theorem dX8_level_56 : decode cX8_level 56 = .ok (.aload_n 0, 1) := by decide +kernel
theorem dX8_level_57 : decode cX8_level 57 = .ok (.getfield 50, 3) := by decide +kernel
theorem dX8_level_60 : decode cX8_level 60 = .ok (.aload_n 0, 1) := by decide +kernel
theorem dX8_level_61 : decode cX8_level 61 = .ok (.getfield 12, 3) := by decide +kernel
theorem dX8_level_64 : decode cX8_level 64 = .ok (.getfield 75, 3) := by decide +kernel
theorem dX8_level_67 : decode cX8_level 67 = .ok (.iload_n 1, 1) := by decide +kernel
theorem dX8_level_68 : decode cX8_level 68 = .ok (.invokevirtual 220, 3) := by decide +kernel
theorem dX8_level_71 : decode cX8_level 71 = .ok (.ireturn, 1) := by decide +kernel
theorem dX8_level_72 : decode cX8_level 72 = .ok (.aload_n 0, 1) := by decide +kernel
theorem dX8_level_73 : decode cX8_level 73 = .ok (.getfield 50, 3) := by decide +kernel
theorem dX8_level_76 : decode cX8_level 76 = .ok (.aload_n 0, 1) := by decide +kernel
theorem dX8_level_77 : decode cX8_level 77 = .ok (.getfield 12, 3) := by decide +kernel
theorem dX8_level_80 : decode cX8_level 80 = .ok (.getfield 75, 3) := by decide +kernel
theorem dX8_level_83 : decode cX8_level 83 = .ok (.iload_n 1, 1) := by decide +kernel
theorem dX8_level_84 : decode cX8_level 84 = .ok (.invokevirtual 223, 3) := by decide +kernel
theorem dX8_level_87 : decode cX8_level 87 = .ok (.ireturn, 1) := by decide +kernel
theorem dX8_level_88 : decode cX8_level 88 = .ok (.iconst (-1), 1) := by decide +kernel
theorem dX8_level_89 : decode cX8_level 89 = .ok (.ireturn, 1) := by decide +kernel
theorem dX8_why_0 : decode cX8_why 0 = .ok (.aload_n 0, 1) := by decide +kernel
theorem dX8_why_1 : decode cX8_why 1 = .ok (.getfield 12, 3) := by decide +kernel
theorem dX8_why_4 : decode cX8_why 4 = .ok (.getfield 75, 3) := by decide +kernel
theorem dX8_why_7 : decode cX8_why 7 = .ok (.iload_n 1, 1) := by decide +kernel
theorem dX8_why_8 : decode cX8_why 8 = .ok (.iload_n 2, 1) := by decide +kernel
theorem dX8_why_9 : decode cX8_why 9 = .ok (.invokevirtual 98, 3) := by decide +kernel
theorem dX8_why_12 : decode cX8_why 12 = .ok (.ifCond .ne 5, 3) := by decide +kernel
theorem dX8_why_15 : decode cX8_why 15 = .ok (.iconst (-1), 1) := by decide +kernel
theorem dX8_why_16 : decode cX8_why 16 = .ok (.ireturn, 1) := by decide +kernel
theorem dX8_why_17 : decode cX8_why 17 = .ok (.aload_n 0, 1) := by decide +kernel
theorem dX8_why_18 : decode cX8_why 18 = .ok (.getfield 12, 3) := by decide +kernel
theorem dX8_why_21 : decode cX8_why 21 = .ok (.iload_n 1, 1) := by decide +kernel
theorem dX8_why_22 : decode cX8_why 22 = .ok (.iload_n 2, 1) := by decide +kernel
theorem dX8_why_23 : decode cX8_why 23 = .ok (.invokestatic 102, 3) := by decide +kernel
theorem dX8_why_26 : decode cX8_why 26 = .ok (.invokevirtual 226, 3) := by decide +kernel
theorem dX8_why_29 : decode cX8_why 29 = .ok (.ireturn, 1) := by decide +kernel
theorem dX8_draw_0 : decode cX8_draw 0 = .ok (.aload_n 0, 1) := by decide +kernel
theorem dX8_draw_1 : decode cX8_draw 1 = .ok (.getfield 12, 3) := by decide +kernel
theorem dX8_draw_4 : decode cX8_draw 4 = .ok (.getfield 75, 3) := by decide +kernel
theorem dX8_draw_7 : decode cX8_draw 7 = .ok (.iload_n 1, 1) := by decide +kernel
theorem dX8_draw_8 : decode cX8_draw 8 = .ok (.iload_n 2, 1) := by decide +kernel
theorem dX8_draw_9 : decode cX8_draw 9 = .ok (.invokevirtual 98, 3) := by decide +kernel
theorem dX8_draw_12 : decode cX8_draw 12 = .ok (.ifCond .ne 5, 3) := by decide +kernel
theorem dX8_draw_15 : decode cX8_draw 15 = .ok (.iconst (-1), 1) := by decide +kernel
theorem dX8_draw_16 : decode cX8_draw 16 = .ok (.ireturn, 1) := by decide +kernel
theorem dX8_draw_17 : decode cX8_draw 17 = .ok (.iload_n 1, 1) := by decide +kernel
theorem dX8_draw_18 : decode cX8_draw 18 = .ok (.iload_n 2, 1) := by decide +kernel
theorem dX8_draw_19 : decode cX8_draw 19 = .ok (.invokestatic 102, 3) := by decide +kernel
theorem dX8_draw_22 : decode cX8_draw 22 = .ok (.istore_n 3, 1) := by decide +kernel
theorem dX8_draw_23 : decode cX8_draw 23 = .ok (.aload_n 0, 1) := by decide +kernel
theorem dX8_draw_24 : decode cX8_draw 24 = .ok (.getfield 12, 3) := by decide +kernel
theorem dX8_draw_27 : decode cX8_draw 27 = .ok (.iload_n 3, 1) := by decide +kernel
theorem dX8_draw_28 : decode cX8_draw 28 = .ok (.invokevirtual 226, 3) := by decide +kernel
theorem dX8_draw_31 : decode cX8_draw 31 = .ok (.ifCond .eq 6, 3) := by decide +kernel
theorem dX8_draw_34 : decode cX8_draw 34 = .ok (.bipush (-2), 2) := by decide +kernel
theorem dX8_draw_36 : decode cX8_draw 36 = .ok (.ireturn, 1) := by decide +kernel
theorem dX8_draw_37 : decode cX8_draw 37 = .ok (.aload_n 0, 1) := by decide +kernel
theorem dX8_draw_38 : decode cX8_draw 38 = .ok (.getfield 12, 3) := by decide +kernel
theorem dX8_draw_41 : decode cX8_draw 41 = .ok (.getfield 117, 3) := by decide +kernel
theorem dX8_draw_44 : decode cX8_draw 44 = .ok (.getfield 229, 3) := by decide +kernel
theorem dX8_draw_47 : decode cX8_draw 47 = .ok (.bipush 20, 2) := by decide +kernel
theorem dX8_draw_49 : decode cX8_draw 49 = .ok (.if_icmp .lt 6, 3) := by decide +kernel
theorem dX8_draw_52 : decode cX8_draw 52 = .ok (.bipush (-3), 2) := by decide +kernel
theorem dX8_draw_54 : decode cX8_draw 54 = .ok (.ireturn, 1) := by decide +kernel
theorem dX8_draw_55 : decode cX8_draw 55 = .ok (.aload_n 0, 1) := by decide +kernel
theorem dX8_draw_56 : decode cX8_draw 56 = .ok (.getfield 22, 3) := by decide +kernel
theorem dX8_draw_59 : decode cX8_draw 59 = .ok (.aload_n 0, 1) := by decide +kernel
theorem dX8_draw_60 : decode cX8_draw 60 = .ok (.getfield 12, 3) := by decide +kernel
theorem dX8_draw_63 : decode cX8_draw 63 = .ok (.invokevirtual 110, 3) := by decide +kernel
theorem dX8_draw_66 : decode cX8_draw 66 = .ok (.aload_n 0, 1) := by decide +kernel
theorem dX8_draw_67 : decode cX8_draw 67 = .ok (.getfield 12, 3) := by decide +kernel
theorem dX8_draw_70 : decode cX8_draw 70 = .ok (.getfield 117, 3) := by decide +kernel
theorem dX8_draw_73 : decode cX8_draw 73 = .ok (.aload_n 0, 1) := by decide +kernel
theorem dX8_draw_74 : decode cX8_draw 74 = .ok (.getfield 12, 3) := by decide +kernel
theorem dX8_draw_77 : decode cX8_draw 77 = .ok (.getfield 75, 3) := by decide +kernel
theorem dX8_draw_80 : decode cX8_draw 80 = .ok (.iload_n 3, 1) := by decide +kernel
theorem dX8_draw_81 : decode cX8_draw 81 = .ok (.invokevirtual 230, 3) := by decide +kernel
theorem dX8_draw_84 : decode cX8_draw 84 = .ok (.aload_n 0, 1) := by decide +kernel
theorem dX8_draw_85 : decode cX8_draw 85 = .ok (.getfield 12, 3) := by decide +kernel
theorem dX8_draw_88 : decode cX8_draw 88 = .ok (.getfield 117, 3) := by decide +kernel
theorem dX8_draw_91 : decode cX8_draw 91 = .ok (.getfield 229, 3) := by decide +kernel
theorem dX8_draw_94 : decode cX8_draw 94 = .ok (.iconst 1, 1) := by decide +kernel
theorem dX8_draw_95 : decode cX8_draw 95 = .ok (.isub, 1) := by decide +kernel
theorem dX8_draw_96 : decode cX8_draw 96 = .ok (.ireturn, 1) := by decide +kernel
theorem dX8_rub_0 : decode cX8_rub 0 = .ok (.aload_n 0, 1) := by decide +kernel
theorem dX8_rub_1 : decode cX8_rub 1 = .ok (.getfield 12, 3) := by decide +kernel
theorem dX8_rub_4 : decode cX8_rub 4 = .ok (.getfield 117, 3) := by decide +kernel
theorem dX8_rub_7 : decode cX8_rub 7 = .ok (.iload_n 1, 1) := by decide +kernel
theorem dX8_rub_8 : decode cX8_rub 8 = .ok (.invokevirtual 233, 3) := by decide +kernel
theorem dX8_rub_11 : decode cX8_rub 11 = .ok (.ifCond .ne 5, 3) := by decide +kernel
theorem dX8_rub_14 : decode cX8_rub 14 = .ok (.iconst (-1), 1) := by decide +kernel
theorem dX8_rub_15 : decode cX8_rub 15 = .ok (.ireturn, 1) := by decide +kernel
theorem dX8_rub_16 : decode cX8_rub 16 = .ok (.aload_n 0, 1) := by decide +kernel
theorem dX8_rub_17 : decode cX8_rub 17 = .ok (.getfield 22, 3) := by decide +kernel
theorem dX8_rub_20 : decode cX8_rub 20 = .ok (.aload_n 0, 1) := by decide +kernel
theorem dX8_rub_21 : decode cX8_rub 21 = .ok (.getfield 12, 3) := by decide +kernel
theorem dX8_rub_24 : decode cX8_rub 24 = .ok (.invokevirtual 110, 3) := by decide +kernel
theorem dX8_rub_27 : decode cX8_rub 27 = .ok (.aload_n 0, 1) := by decide +kernel
theorem dX8_rub_28 : decode cX8_rub 28 = .ok (.getfield 12, 3) := by decide +kernel
theorem dX8_rub_31 : decode cX8_rub 31 = .ok (.getfield 117, 3) := by decide +kernel
theorem dX8_rub_34 : decode cX8_rub 34 = .ok (.iload_n 1, 1) := by decide +kernel
theorem dX8_rub_35 : decode cX8_rub 35 = .ok (.invokevirtual 235, 3) := by decide +kernel
theorem dX8_rub_38 : decode cX8_rub 38 = .ok (.aload_n 0, 1) := by decide +kernel
theorem dX8_rub_39 : decode cX8_rub 39 = .ok (.getfield 12, 3) := by decide +kernel
theorem dX8_rub_42 : decode cX8_rub 42 = .ok (.getfield 117, 3) := by decide +kernel
theorem dX8_rub_45 : decode cX8_rub 45 = .ok (.getfield 229, 3) := by decide +kernel
theorem dX8_rub_48 : decode cX8_rub 48 = .ok (.ireturn, 1) := by decide +kernel
theorem dX8_hatch_0 : decode cX8_hatch 0 = .ok (.aload_n 0, 1) := by decide +kernel
theorem dX8_hatch_1 : decode cX8_hatch 1 = .ok (.getfield 22, 3) := by decide +kernel
theorem dX8_hatch_4 : decode cX8_hatch 4 = .ok (.aload_n 0, 1) := by decide +kernel
theorem dX8_hatch_5 : decode cX8_hatch 5 = .ok (.getfield 12, 3) := by decide +kernel
theorem dX8_hatch_8 : decode cX8_hatch 8 = .ok (.invokevirtual 110, 3) := by decide +kernel
theorem dX8_hatch_11 : decode cX8_hatch 11 = .ok (.aload_n 0, 1) := by decide +kernel
theorem dX8_hatch_12 : decode cX8_hatch 12 = .ok (.getfield 12, 3) := by decide +kernel
theorem dX8_hatch_15 : decode cX8_hatch 15 = .ok (.getfield 117, 3) := by decide +kernel
theorem dX8_hatch_18 : decode cX8_hatch 18 = .ok (.getfield 229, 3) := by decide +kernel
theorem dX8_hatch_21 : decode cX8_hatch 21 = .ok (.istore_n 1, 1) := by decide +kernel
theorem dX8_hatch_22 : decode cX8_hatch 22 = .ok (.iload_n 1, 1) := by decide +kernel
theorem dX8_hatch_23 : decode cX8_hatch 23 = .ok (.istore_n 2, 1) := by decide +kernel
theorem dX8_hatch_24 : decode cX8_hatch 24 = .ok (.iload_n 2, 1) := by decide +kernel
theorem dX8_hatch_25 : decode cX8_hatch 25 = .ok (.bipush 20, 2) := by decide +kernel
theorem dX8_hatch_27 : decode cX8_hatch 27 = .ok (.if_icmp .ge 43, 3) := by decide +kernel
theorem dX8_hatch_30 : decode cX8_hatch 30 = .ok (.aload_n 0, 1) := by decide +kernel
theorem dX8_hatch_31 : decode cX8_hatch 31 = .ok (.getfield 12, 3) := by decide +kernel
theorem dX8_hatch_34 : decode cX8_hatch 34 = .ok (.invokevirtual 238, 3) := by decide +kernel
theorem dX8_hatch_37 : decode cX8_hatch 37 = .ok (.istore_n 3, 1) := by decide +kernel
theorem dX8_hatch_38 : decode cX8_hatch 38 = .ok (.iload_n 3, 1) := by decide +kernel
theorem dX8_hatch_39 : decode cX8_hatch 39 = .ok (.iconst (-1), 1) := by decide +kernel
theorem dX8_hatch_40 : decode cX8_hatch 40 = .ok (.if_icmp .ne 6, 3) := by decide +kernel
theorem dX8_hatch_43 : decode cX8_hatch 43 = .ok (.goto 27, 3) := by decide +kernel
theorem dX8_hatch_46 : decode cX8_hatch 46 = .ok (.aload_n 0, 1) := by decide +kernel
theorem dX8_hatch_47 : decode cX8_hatch 47 = .ok (.getfield 12, 3) := by decide +kernel
theorem dX8_hatch_50 : decode cX8_hatch 50 = .ok (.getfield 117, 3) := by decide +kernel
theorem dX8_hatch_53 : decode cX8_hatch 53 = .ok (.aload_n 0, 1) := by decide +kernel
theorem dX8_hatch_54 : decode cX8_hatch 54 = .ok (.getfield 12, 3) := by decide +kernel
theorem dX8_hatch_57 : decode cX8_hatch 57 = .ok (.getfield 75, 3) := by decide +kernel
theorem dX8_hatch_60 : decode cX8_hatch 60 = .ok (.iload_n 3, 1) := by decide +kernel
theorem dX8_hatch_61 : decode cX8_hatch 61 = .ok (.invokevirtual 230, 3) := by decide +kernel
theorem dX8_hatch_64 : decode cX8_hatch 64 = .ok (.iinc 2 1, 3) := by decide +kernel
theorem dX8_hatch_67 : decode cX8_hatch 67 = .ok (.goto (-43), 3) := by decide +kernel
theorem dX8_hatch_70 : decode cX8_hatch 70 = .ok (.aload_n 0, 1) := by decide +kernel
theorem dX8_hatch_71 : decode cX8_hatch 71 = .ok (.getfield 12, 3) := by decide +kernel
theorem dX8_hatch_74 : decode cX8_hatch 74 = .ok (.getfield 117, 3) := by decide +kernel
theorem dX8_hatch_77 : decode cX8_hatch 77 = .ok (.getfield 229, 3) := by decide +kernel
theorem dX8_hatch_80 : decode cX8_hatch 80 = .ok (.iload_n 1, 1) := by decide +kernel
theorem dX8_hatch_81 : decode cX8_hatch 81 = .ok (.isub, 1) := by decide +kernel
theorem dX8_hatch_82 : decode cX8_hatch 82 = .ok (.ireturn, 1) := by decide +kernel
theorem dX8_stroke_0 : decode cX8_stroke 0 = .ok (.aload_n 0, 1) := by decide +kernel
theorem dX8_stroke_1 : decode cX8_stroke 1 = .ok (.getfield 12, 3) := by decide +kernel
theorem dX8_stroke_4 : decode cX8_stroke 4 = .ok (.getfield 117, 3) := by decide +kernel
theorem dX8_stroke_7 : decode cX8_stroke 7 = .ok (.astore_n 3, 1) := by decide +kernel
theorem dX8_stroke_8 : decode cX8_stroke 8 = .ok (.aload_n 3, 1) := by decide +kernel
theorem dX8_stroke_9 : decode cX8_stroke 9 = .ok (.iload_n 1, 1) := by decide +kernel
theorem dX8_stroke_10 : decode cX8_stroke 10 = .ok (.invokevirtual 233, 3) := by decide +kernel
theorem dX8_stroke_13 : decode cX8_stroke 13 = .ok (.ifCond .eq 9, 3) := by decide +kernel
theorem dX8_stroke_16 : decode cX8_stroke 16 = .ok (.iload_n 2, 1) := by decide +kernel
theorem dX8_stroke_17 : decode cX8_stroke 17 = .ok (.bipush (-3), 2) := by decide +kernel
theorem dX8_stroke_19 : decode cX8_stroke 19 = .ok (.if_icmp .ge 5, 3) := by decide +kernel
theorem dX8_stroke_22 : decode cX8_stroke 22 = .ok (.iconst (-1), 1) := by decide +kernel
theorem dX8_stroke_23 : decode cX8_stroke 23 = .ok (.ireturn, 1) := by decide +kernel
theorem dX8_stroke_24 : decode cX8_stroke 24 = .ok (.aload_n 3, 1) := by decide +kernel
theorem dX8_stroke_25 : decode cX8_stroke 25 = .ok (.getfield 242, 3) := by decide +kernel
theorem dX8_stroke_28 : decode cX8_stroke 28 = .ok (.iload_n 1, 1) := by decide +kernel
theorem dX8_stroke_29 : decode cX8_stroke 29 = .ok (.iaload, 1) := by decide +kernel
theorem dX8_stroke_30 : decode cX8_stroke 30 = .ok (.istore 4, 2) := by decide +kernel
theorem dX8_stroke_32 : decode cX8_stroke 32 = .ok (.iload_n 2, 1) := by decide +kernel
theorem dX8_stroke_33 : decode cX8_stroke 33 = .ok (.iconst (-1), 1) := by decide +kernel
theorem dX8_stroke_34 : decode cX8_stroke 34 = .ok (.if_icmp .ne 6, 3) := by decide +kernel
theorem dX8_stroke_37 : decode cX8_stroke 37 = .ok (.iload 4, 2) := by decide +kernel
theorem dX8_stroke_39 : decode cX8_stroke 39 = .ok (.ireturn, 1) := by decide +kernel
theorem dX8_stroke_40 : decode cX8_stroke 40 = .ok (.iload_n 2, 1) := by decide +kernel
theorem dX8_stroke_41 : decode cX8_stroke 41 = .ok (.bipush (-2), 2) := by decide +kernel
theorem dX8_stroke_43 : decode cX8_stroke 43 = .ok (.if_icmp .ne 10, 3) := by decide +kernel
theorem dX8_stroke_46 : decode cX8_stroke 46 = .ok (.aload_n 3, 1) := by decide +kernel
theorem dX8_stroke_47 : decode cX8_stroke 47 = .ok (.getfield 245, 3) := by decide +kernel
theorem dX8_stroke_50 : decode cX8_stroke 50 = .ok (.iload_n 1, 1) := by decide +kernel
theorem dX8_stroke_51 : decode cX8_stroke 51 = .ok (.iaload, 1) := by decide +kernel
theorem dX8_stroke_52 : decode cX8_stroke 52 = .ok (.ireturn, 1) := by decide +kernel
theorem dX8_stroke_53 : decode cX8_stroke 53 = .ok (.iload_n 2, 1) := by decide +kernel
theorem dX8_stroke_54 : decode cX8_stroke 54 = .ok (.bipush (-3), 2) := by decide +kernel
theorem dX8_stroke_56 : decode cX8_stroke 56 = .ok (.if_icmp .ne 40, 3) := by decide +kernel
theorem dX8_stroke_59 : decode cX8_stroke 59 = .ok (.aload_n 0, 1) := by decide +kernel
theorem dX8_stroke_60 : decode cX8_stroke 60 = .ok (.getfield 12, 3) := by decide +kernel
theorem dX8_stroke_63 : decode cX8_stroke 63 = .ok (.getfield 75, 3) := by decide +kernel
theorem dX8_stroke_66 : decode cX8_stroke 66 = .ok (.aload_n 3, 1) := by decide +kernel
theorem dX8_stroke_67 : decode cX8_stroke 67 = .ok (.iload_n 1, 1) := by decide +kernel
theorem dX8_stroke_68 : decode cX8_stroke 68 = .ok (.iconst 0, 1) := by decide +kernel
theorem dX8_stroke_69 : decode cX8_stroke 69 = .ok (.invokevirtual 248, 3) := by decide +kernel
theorem dX8_stroke_72 : decode cX8_stroke 72 = .ok (.invokevirtual 106, 3) := by decide +kernel
theorem dX8_stroke_75 : decode cX8_stroke 75 = .ok (.aload_n 0, 1) := by decide +kernel
theorem dX8_stroke_76 : decode cX8_stroke 76 = .ok (.getfield 12, 3) := by decide +kernel
theorem dX8_stroke_79 : decode cX8_stroke 79 = .ok (.getfield 75, 3) := by decide +kernel
theorem dX8_stroke_82 : decode cX8_stroke 82 = .ok (.aload_n 3, 1) := by decide +kernel
theorem dX8_stroke_83 : decode cX8_stroke 83 = .ok (.iload_n 1, 1) := by decide +kernel
theorem dX8_stroke_84 : decode cX8_stroke 84 = .ok (.iload 4, 2) := by decide +kernel
theorem dX8_stroke_86 : decode cX8_stroke 86 = .ok (.iconst 1, 1) := by decide +kernel
theorem dX8_stroke_87 : decode cX8_stroke 87 = .ok (.isub, 1) := by decide +kernel
theorem dX8_stroke_88 : decode cX8_stroke 88 = .ok (.invokevirtual 248, 3) := by decide +kernel
theorem dX8_stroke_91 : decode cX8_stroke 91 = .ok (.invokevirtual 106, 3) := by decide +kernel
theorem dX8_stroke_94 : decode cX8_stroke 94 = .ok (.isub, 1) := by decide +kernel
theorem dX8_stroke_95 : decode cX8_stroke 95 = .ok (.ireturn, 1) := by decide +kernel
theorem dX8_stroke_96 : decode cX8_stroke 96 = .ok (.aload_n 3, 1) := by decide +kernel
theorem dX8_stroke_97 : decode cX8_stroke 97 = .ok (.iload_n 1, 1) := by decide +kernel
theorem dX8_stroke_98 : decode cX8_stroke 98 = .ok (.iload_n 2, 1) := by decide +kernel
theorem dX8_stroke_99 : decode cX8_stroke 99 = .ok (.invokevirtual 248, 3) := by decide +kernel
theorem dX8_stroke_102 : decode cX8_stroke 102 = .ok (.invokestatic 161, 3) := by decide +kernel
theorem dX8_stroke_105 : decode cX8_stroke 105 = .ok (.ireturn, 1) := by decide +kernel
theorem dX8_whose_0 : decode cX8_whose 0 = .ok (.aload_n 0, 1) := by decide +kernel
theorem dX8_whose_1 : decode cX8_whose 1 = .ok (.getfield 12, 3) := by decide +kernel
theorem dX8_whose_4 : decode cX8_whose 4 = .ok (.getfield 75, 3) := by decide +kernel
theorem dX8_whose_7 : decode cX8_whose 7 = .ok (.iload_n 1, 1) := by decide +kernel
theorem dX8_whose_8 : decode cX8_whose 8 = .ok (.iload_n 2, 1) := by decide +kernel
theorem dX8_whose_9 : decode cX8_whose 9 = .ok (.invokevirtual 98, 3) := by decide +kernel
theorem dX8_whose_12 : decode cX8_whose 12 = .ok (.ifCond .ne 5, 3) := by decide +kernel
theorem dX8_whose_15 : decode cX8_whose 15 = .ok (.iconst (-1), 1) := by decide +kernel
theorem dX8_whose_16 : decode cX8_whose 16 = .ok (.ireturn, 1) := by decide +kernel
theorem dX8_whose_17 : decode cX8_whose 17 = .ok (.aload_n 0, 1) := by decide +kernel
theorem dX8_whose_18 : decode cX8_whose 18 = .ok (.getfield 12, 3) := by decide +kernel
theorem dX8_whose_21 : decode cX8_whose 21 = .ok (.getfield 117, 3) := by decide +kernel
theorem dX8_whose_24 : decode cX8_whose 24 = .ok (.iload_n 1, 1) := by decide +kernel
theorem dX8_whose_25 : decode cX8_whose 25 = .ok (.iload_n 2, 1) := by decide +kernel
theorem dX8_whose_26 : decode cX8_whose 26 = .ok (.invokestatic 102, 3) := by decide +kernel
theorem dX8_whose_29 : decode cX8_whose 29 = .ok (.invokevirtual 251, 3) := by decide +kernel
theorem dX8_whose_32 : decode cX8_whose 32 = .ok (.invokestatic 161, 3) := by decide +kernel
theorem dX8_whose_35 : decode cX8_whose 35 = .ok (.ireturn, 1) := by decide +kernel
theorem dX8_count_0 : decode cX8_count 0 = .ok (.iload_n 1, 1) := by decide +kernel
theorem dX8_count_1 : decode cX8_count 1 = .ok (.tableswitch 174 0 10 #[59, 70, 81, 89, 100, 111, 123, 135, 147, 155, 163], 59) := by decide +kernel
theorem dX8_count_60 : decode cX8_count 60 = .ok (.aload_n 0, 1) := by decide +kernel
theorem dX8_count_61 : decode cX8_count 61 = .ok (.getfield 12, 3) := by decide +kernel
theorem dX8_count_64 : decode cX8_count 64 = .ok (.getfield 75, 3) := by decide +kernel
theorem dX8_count_67 : decode cX8_count 67 = .ok (.getfield 92, 3) := by decide +kernel
theorem dX8_count_70 : decode cX8_count 70 = .ok (.ireturn, 1) := by decide +kernel
theorem dX8_count_71 : decode cX8_count 71 = .ok (.aload_n 0, 1) := by decide +kernel
theorem dX8_count_72 : decode cX8_count 72 = .ok (.getfield 12, 3) := by decide +kernel
theorem dX8_count_75 : decode cX8_count 75 = .ok (.getfield 75, 3) := by decide +kernel
theorem dX8_count_78 : decode cX8_count 78 = .ok (.getfield 95, 3) := by decide +kernel
theorem dX8_count_81 : decode cX8_count 81 = .ok (.ireturn, 1) := by decide +kernel
theorem dX8_count_82 : decode cX8_count 82 = .ok (.aload_n 0, 1) := by decide +kernel
theorem dX8_count_83 : decode cX8_count 83 = .ok (.getfield 12, 3) := by decide +kernel
theorem dX8_count_86 : decode cX8_count 86 = .ok (.getfield 140, 3) := by decide +kernel
theorem dX8_count_89 : decode cX8_count 89 = .ok (.ireturn, 1) := by decide +kernel
theorem dX8_count_90 : decode cX8_count 90 = .ok (.aload_n 0, 1) := by decide +kernel
theorem dX8_count_91 : decode cX8_count 91 = .ok (.getfield 12, 3) := by decide +kernel
theorem dX8_count_94 : decode cX8_count 94 = .ok (.getfield 117, 3) := by decide +kernel
theorem dX8_count_97 : decode cX8_count 97 = .ok (.getfield 229, 3) := by decide +kernel
theorem dX8_count_100 : decode cX8_count 100 = .ok (.ireturn, 1) := by decide +kernel
theorem dX8_count_101 : decode cX8_count 101 = .ok (.aload_n 0, 1) := by decide +kernel
theorem dX8_count_102 : decode cX8_count 102 = .ok (.getfield 12, 3) := by decide +kernel
theorem dX8_count_105 : decode cX8_count 105 = .ok (.getfield 117, 3) := by decide +kernel
theorem dX8_count_108 : decode cX8_count 108 = .ok (.invokevirtual 254, 3) := by decide +kernel
theorem dX8_count_111 : decode cX8_count 111 = .ok (.ireturn, 1) := by decide +kernel
theorem dX8_count_112 : decode cX8_count 112 = .ok (.aload_n 0, 1) := by decide +kernel
theorem dX8_count_113 : decode cX8_count 113 = .ok (.getfield 12, 3) := by decide +kernel
theorem dX8_count_116 : decode cX8_count 116 = .ok (.getfield 75, 3) := by decide +kernel
theorem dX8_count_119 : decode cX8_count 119 = .ok (.iconst 0, 1) := by decide +kernel
theorem dX8_count_120 : decode cX8_count 120 = .ok (.invokevirtual 257, 3) := by decide +kernel
theorem dX8_count_123 : decode cX8_count 123 = .ok (.ireturn, 1) := by decide +kernel
theorem dX8_count_124 : decode cX8_count 124 = .ok (.aload_n 0, 1) := by decide +kernel
theorem dX8_count_125 : decode cX8_count 125 = .ok (.getfield 12, 3) := by decide +kernel
theorem dX8_count_128 : decode cX8_count 128 = .ok (.getfield 75, 3) := by decide +kernel
theorem dX8_count_131 : decode cX8_count 131 = .ok (.iconst 1, 1) := by decide +kernel
theorem dX8_count_132 : decode cX8_count 132 = .ok (.invokevirtual 257, 3) := by decide +kernel
theorem dX8_count_135 : decode cX8_count 135 = .ok (.ireturn, 1) := by decide +kernel
theorem dX8_count_136 : decode cX8_count 136 = .ok (.aload_n 0, 1) := by decide +kernel
theorem dX8_count_137 : decode cX8_count 137 = .ok (.getfield 12, 3) := by decide +kernel
theorem dX8_count_140 : decode cX8_count 140 = .ok (.getfield 75, 3) := by decide +kernel
theorem dX8_count_143 : decode cX8_count 143 = .ok (.iconst 2, 1) := by decide +kernel
theorem dX8_count_144 : decode cX8_count 144 = .ok (.invokevirtual 257, 3) := by decide +kernel
theorem dX8_count_147 : decode cX8_count 147 = .ok (.ireturn, 1) := by decide +kernel
theorem dX8_count_148 : decode cX8_count 148 = .ok (.aload_n 0, 1) := by decide +kernel
theorem dX8_count_149 : decode cX8_count 149 = .ok (.getfield 22, 3) := by decide +kernel
theorem dX8_count_152 : decode cX8_count 152 = .ok (.getfield 143, 3) := by decide +kernel
theorem dX8_count_155 : decode cX8_count 155 = .ok (.ireturn, 1) := by decide +kernel
theorem dX8_count_156 : decode cX8_count 156 = .ok (.aload_n 0, 1) := by decide +kernel
theorem dX8_count_157 : decode cX8_count 157 = .ok (.getfield 29, 3) := by decide +kernel
theorem dX8_count_160 : decode cX8_count 160 = .ok (.getfield 67, 3) := by decide +kernel
theorem dX8_count_163 : decode cX8_count 163 = .ok (.ireturn, 1) := by decide +kernel
theorem dX8_count_164 : decode cX8_count 164 = .ok (.aload_n 0, 1) := by decide +kernel
theorem dX8_count_165 : decode cX8_count 165 = .ok (.getfield 12, 3) := by decide +kernel
theorem dX8_count_168 : decode cX8_count 168 = .ok (.getfield 75, 3) := by decide +kernel
theorem dX8_count_171 : decode cX8_count 171 = .ok (.invokevirtual 260, 3) := by decide +kernel
theorem dX8_count_174 : decode cX8_count 174 = .ok (.ireturn, 1) := by decide +kernel
theorem dX8_count_175 : decode cX8_count 175 = .ok (.iconst (-1), 1) := by decide +kernel
theorem dX8_count_176 : decode cX8_count 176 = .ok (.ireturn, 1) := by decide +kernel
theorem dX8_number_0 : decode cX8_number 0 = .ok (.bipush 9, 2) := by decide +kernel
theorem dX8_number_2 : decode cX8_number 2 = .ok (.iload_n 1, 1) := by decide +kernel
theorem dX8_number_3 : decode cX8_number 3 = .ok (.imul, 1) := by decide +kernel
theorem dX8_number_4 : decode cX8_number 4 = .ok (.iload_n 0, 1) := by decide +kernel
theorem dX8_number_5 : decode cX8_number 5 = .ok (.iadd, 1) := by decide +kernel
theorem dX8_number_6 : decode cX8_number 6 = .ok (.ireturn, 1) := by decide +kernel
theorem dX8_orNone_0 : decode cX8_orNone 0 = .ok (.iload_n 0, 1) := by decide +kernel
theorem dX8_orNone_1 : decode cX8_orNone 1 = .ok (.iconst (-1), 1) := by decide +kernel
theorem dX8_orNone_2 : decode cX8_orNone 2 = .ok (.if_icmp .ne 8, 3) := by decide +kernel
theorem dX8_orNone_5 : decode cX8_orNone 5 = .ok (.bipush (-4), 2) := by decide +kernel
theorem dX8_orNone_7 : decode cX8_orNone 7 = .ok (.goto 4, 3) := by decide +kernel
theorem dX8_orNone_10 : decode cX8_orNone 10 = .ok (.iload_n 0, 1) := by decide +kernel
theorem dX8_orNone_11 : decode cX8_orNone 11 = .ok (.ireturn, 1) := by decide +kernel
theorem dX8_isQuarter_0 : decode cX8_isQuarter 0 = .ok (.iload_n 0, 1) := by decide +kernel
theorem dX8_isQuarter_1 : decode cX8_isQuarter 1 = .ok (.ifCond .lt 12, 3) := by decide +kernel
theorem dX8_isQuarter_4 : decode cX8_isQuarter 4 = .ok (.iload_n 0, 1) := by decide +kernel
theorem dX8_isQuarter_5 : decode cX8_isQuarter 5 = .ok (.iconst 4, 1) := by decide +kernel
theorem dX8_isQuarter_6 : decode cX8_isQuarter 6 = .ok (.if_icmp .ge 7, 3) := by decide +kernel
theorem dX8_isQuarter_9 : decode cX8_isQuarter 9 = .ok (.iconst 1, 1) := by decide +kernel
theorem dX8_isQuarter_10 : decode cX8_isQuarter 10 = .ok (.goto 4, 3) := by decide +kernel
theorem dX8_isQuarter_13 : decode cX8_isQuarter 13 = .ok (.iconst 0, 1) := by decide +kernel
theorem dX8_isQuarter_14 : decode cX8_isQuarter 14 = .ok (.ireturn, 1) := by decide +kernel
theorem dX8_isDirection_0 : decode cX8_isDirection 0 = .ok (.iload_n 0, 1) := by decide +kernel
theorem dX8_isDirection_1 : decode cX8_isDirection 1 = .ok (.ifCond .lt 13, 3) := by decide +kernel
theorem dX8_isDirection_4 : decode cX8_isDirection 4 = .ok (.iload_n 0, 1) := by decide +kernel
theorem dX8_isDirection_5 : decode cX8_isDirection 5 = .ok (.bipush 8, 2) := by decide +kernel
theorem dX8_isDirection_7 : decode cX8_isDirection 7 = .ok (.if_icmp .ge 7, 3) := by decide +kernel
theorem dX8_isDirection_10 : decode cX8_isDirection 10 = .ok (.iconst 1, 1) := by decide +kernel
theorem dX8_isDirection_11 : decode cX8_isDirection 11 = .ok (.goto 4, 3) := by decide +kernel
theorem dX8_isDirection_14 : decode cX8_isDirection 14 = .ok (.iconst 0, 1) := by decide +kernel
theorem dX8_isDirection_15 : decode cX8_isDirection 15 = .ok (.ireturn, 1) := by decide +kernel
theorem dX8_isShadeNumber_0 : decode cX8_isShadeNumber 0 = .ok (.iload_n 0, 1) := by decide +kernel
theorem dX8_isShadeNumber_1 : decode cX8_isShadeNumber 1 = .ok (.iconst 2, 1) := by decide +kernel
theorem dX8_isShadeNumber_2 : decode cX8_isShadeNumber 2 = .ok (.if_icmp .lt 13, 3) := by decide +kernel
theorem dX8_isShadeNumber_5 : decode cX8_isShadeNumber 5 = .ok (.iload_n 0, 1) := by decide +kernel
theorem dX8_isShadeNumber_6 : decode cX8_isShadeNumber 6 = .ok (.bipush 6, 2) := by decide +kernel
theorem dX8_isShadeNumber_8 : decode cX8_isShadeNumber 8 = .ok (.if_icmp .gt 7, 3) := by decide +kernel
theorem dX8_isShadeNumber_11 : decode cX8_isShadeNumber 11 = .ok (.iconst 1, 1) := by decide +kernel
theorem dX8_isShadeNumber_12 : decode cX8_isShadeNumber 12 = .ok (.goto 4, 3) := by decide +kernel
theorem dX8_isShadeNumber_15 : decode cX8_isShadeNumber 15 = .ok (.iconst 0, 1) := by decide +kernel
theorem dX8_isShadeNumber_16 : decode cX8_isShadeNumber 16 = .ok (.ireturn, 1) := by decide +kernel
theorem dX9_init_0 : decode cX9_init 0 = .ok (.aload_n 0, 1) := by decide +kernel
theorem dX9_init_1 : decode cX9_init 1 = .ok (.invokespecial 1, 3) := by decide +kernel
theorem dX9_init_4 : decode cX9_init 4 = .ok (.aload_n 0, 1) := by decide +kernel
theorem dX9_init_5 : decode cX9_init 5 = .ok (.sipush 200, 3) := by decide +kernel
theorem dX9_init_8 : decode cX9_init 8 = .ok (.newarray .int, 2) := by decide +kernel
theorem dX9_init_10 : decode cX9_init 10 = .ok (.putfield 7, 3) := by decide +kernel
theorem dX9_init_13 : decode cX9_init 13 = .ok (.aload_n 0, 1) := by decide +kernel
theorem dX9_init_14 : decode cX9_init 14 = .ok (.sipush 249, 3) := by decide +kernel
theorem dX9_init_17 : decode cX9_init 17 = .ok (.newarray .int, 2) := by decide +kernel
theorem dX9_init_19 : decode cX9_init 19 = .ok (.putfield 13, 3) := by decide +kernel
theorem dX9_init_22 : decode cX9_init 22 = .ok (.aload_n 0, 1) := by decide +kernel
theorem dX9_init_23 : decode cX9_init 23 = .ok (.sipush 249, 3) := by decide +kernel
theorem dX9_init_26 : decode cX9_init 26 = .ok (.newarray .int, 2) := by decide +kernel
theorem dX9_init_28 : decode cX9_init 28 = .ok (.putfield 16, 3) := by decide +kernel
theorem dX9_init_31 : decode cX9_init 31 = .ok (.aload_n 0, 1) := by decide +kernel
theorem dX9_init_32 : decode cX9_init 32 = .ok (.sipush 1494, 3) := by decide +kernel
theorem dX9_init_35 : decode cX9_init 35 = .ok (.newarray .int, 2) := by decide +kernel
theorem dX9_init_37 : decode cX9_init 37 = .ok (.putfield 19, 3) := by decide +kernel
theorem dX9_init_40 : decode cX9_init 40 = .ok (.aload_n 0, 1) := by decide +kernel
theorem dX9_init_41 : decode cX9_init 41 = .ok (.bipush 32, 2) := by decide +kernel
theorem dX9_init_43 : decode cX9_init 43 = .ok (.newarray .int, 2) := by decide +kernel
theorem dX9_init_45 : decode cX9_init 45 = .ok (.putfield 22, 3) := by decide +kernel
theorem dX9_init_48 : decode cX9_init 48 = .ok (.aload_n 0, 1) := by decide +kernel
theorem dX9_init_49 : decode cX9_init 49 = .ok (.iconst 4, 1) := by decide +kernel
theorem dX9_init_50 : decode cX9_init 50 = .ok (.newarray .int, 2) := by decide +kernel
theorem dX9_init_52 : decode cX9_init 52 = .ok (.putfield 25, 3) := by decide +kernel
theorem dX9_init_55 : decode cX9_init 55 = .ok (.aload_n 0, 1) := by decide +kernel
theorem dX9_init_56 : decode cX9_init 56 = .ok (.bipush 40, 2) := by decide +kernel
theorem dX9_init_58 : decode cX9_init 58 = .ok (.newarray .int, 2) := by decide +kernel
theorem dX9_init_60 : decode cX9_init 60 = .ok (.putfield 28, 3) := by decide +kernel
theorem dX9_init_63 : decode cX9_init 63 = .ok (.aload_n 0, 1) := by decide +kernel
theorem dX9_init_64 : decode cX9_init 64 = .ok (.bipush 40, 2) := by decide +kernel
theorem dX9_init_66 : decode cX9_init 66 = .ok (.newarray .int, 2) := by decide +kernel
theorem dX9_init_68 : decode cX9_init 68 = .ok (.putfield 31, 3) := by decide +kernel
theorem dX9_init_71 : decode cX9_init 71 = .ok (.aload_n 0, 1) := by decide +kernel
theorem dX9_init_72 : decode cX9_init 72 = .ok (.sipush 287, 3) := by decide +kernel
theorem dX9_init_75 : decode cX9_init 75 = .ok (.newarray .int, 2) := by decide +kernel
theorem dX9_init_77 : decode cX9_init 77 = .ok (.putfield 34, 3) := by decide +kernel
theorem dX9_init_80 : decode cX9_init 80 = .ok (.aload_n 0, 1) := by decide +kernel
theorem dX9_init_81 : decode cX9_init 81 = .ok (.sipush 287, 3) := by decide +kernel
theorem dX9_init_84 : decode cX9_init 84 = .ok (.newarray .int, 2) := by decide +kernel
theorem dX9_init_86 : decode cX9_init 86 = .ok (.putfield 37, 3) := by decide +kernel
theorem dX9_init_89 : decode cX9_init 89 = .ok (.aload_n 0, 1) := by decide +kernel
theorem dX9_init_90 : decode cX9_init 90 = .ok (.bipush 81, 2) := by decide +kernel
theorem dX9_init_92 : decode cX9_init 92 = .ok (.newarray .int, 2) := by decide +kernel
theorem dX9_init_94 : decode cX9_init 94 = .ok (.putfield 40, 3) := by decide +kernel
theorem dX9_init_97 : decode cX9_init 97 = .ok (.bipush 7, 2) := by decide +kernel
theorem dX9_init_99 : decode cX9_init 99 = .ok (.newarray .int, 2) := by decide +kernel
theorem dX9_init_101 : decode cX9_init 101 = .ok (.dup, 1) := by decide +kernel
theorem dX9_init_102 : decode cX9_init 102 = .ok (.iconst 0, 1) := by decide +kernel
theorem dX9_init_103 : decode cX9_init 103 = .ok (.sipush 12100, 3) := by decide +kernel
theorem dX9_init_106 : decode cX9_init 106 = .ok (.iastore, 1) := by decide +kernel
theorem dX9_init_107 : decode cX9_init 107 = .ok (.dup, 1) := by decide +kernel
theorem dX9_init_108 : decode cX9_init 108 = .ok (.iconst 1, 1) := by decide +kernel
theorem dX9_init_109 : decode cX9_init 109 = .ok (.ldc 43, 2) := by decide +kernel
theorem dX9_init_111 : decode cX9_init 111 = .ok (.iastore, 1) := by decide +kernel
theorem dX9_init_112 : decode cX9_init 112 = .ok (.dup, 1) := by decide +kernel
theorem dX9_init_113 : decode cX9_init 113 = .ok (.iconst 2, 1) := by decide +kernel
theorem dX9_init_114 : decode cX9_init 114 = .ok (.ldc 44, 2) := by decide +kernel
theorem dX9_init_116 : decode cX9_init 116 = .ok (.iastore, 1) := by decide +kernel
theorem dX9_init_117 : decode cX9_init 117 = .ok (.dup, 1) := by decide +kernel
theorem dX9_init_118 : decode cX9_init 118 = .ok (.iconst 3, 1) := by decide +kernel
theorem dX9_init_119 : decode cX9_init 119 = .ok (.ldc 45, 2) := by decide +kernel
theorem dX9_init_121 : decode cX9_init 121 = .ok (.iastore, 1) := by decide +kernel
theorem dX9_init_122 : decode cX9_init 122 = .ok (.dup, 1) := by decide +kernel
theorem dX9_init_123 : decode cX9_init 123 = .ok (.iconst 4, 1) := by decide +kernel
theorem dX9_init_124 : decode cX9_init 124 = .ok (.ldc 46, 2) := by decide +kernel
theorem dX9_init_126 : decode cX9_init 126 = .ok (.iastore, 1) := by decide +kernel
theorem dX9_init_127 : decode cX9_init 127 = .ok (.dup, 1) := by decide +kernel
theorem dX9_init_128 : decode cX9_init 128 = .ok (.iconst 5, 1) := by decide +kernel
theorem dX9_init_129 : decode cX9_init 129 = .ok (.ldc 47, 2) := by decide +kernel
theorem dX9_init_131 : decode cX9_init 131 = .ok (.iastore, 1) := by decide +kernel
theorem dX9_init_132 : decode cX9_init 132 = .ok (.dup, 1) := by decide +kernel
theorem dX9_init_133 : decode cX9_init 133 = .ok (.bipush 6, 2) := by decide +kernel
theorem dX9_init_135 : decode cX9_init 135 = .ok (.sipush 11100, 3) := by decide +kernel
theorem dX9_init_138 : decode cX9_init 138 = .ok (.iastore, 1) := by decide +kernel
theorem dX9_init_139 : decode cX9_init 139 = .ok (.astore_n 1, 1) := by decide +kernel
theorem dX9_init_140 : decode cX9_init 140 = .ok (.aload_n 0, 1) := by decide +kernel
theorem dX9_init_141 : decode cX9_init 141 = .ok (.getfield 13, 3) := by decide +kernel
theorem dX9_init_144 : decode cX9_init 144 = .ok (.invokestatic 48, 3) := by decide +kernel
theorem dX9_init_147 : decode cX9_init 147 = .ok (.aload_n 0, 1) := by decide +kernel
theorem dX9_init_148 : decode cX9_init 148 = .ok (.getfield 13, 3) := by decide +kernel
theorem dX9_init_151 : decode cX9_init 151 = .ok (.iconst 0, 1) := by decide +kernel
theorem dX9_init_152 : decode cX9_init 152 = .ok (.bipush 7, 2) := by decide +kernel
theorem dX9_init_154 : decode cX9_init 154 = .ok (.iastore, 1) := by decide +kernel
theorem dX9_init_155 : decode cX9_init 155 = .ok (.aload_n 0, 1) := by decide +kernel
theorem dX9_init_156 : decode cX9_init 156 = .ok (.getfield 13, 3) := by decide +kernel
theorem dX9_init_159 : decode cX9_init 159 = .ok (.iconst 1, 1) := by decide +kernel
theorem dX9_init_160 : decode cX9_init 160 = .ok (.bipush 7, 2) := by decide +kernel
theorem dX9_init_162 : decode cX9_init 162 = .ok (.iastore, 1) := by decide +kernel
theorem dX9_init_163 : decode cX9_init 163 = .ok (.aload_n 0, 1) := by decide +kernel
theorem dX9_init_164 : decode cX9_init 164 = .ok (.getfield 13, 3) := by decide +kernel
theorem dX9_init_167 : decode cX9_init 167 = .ok (.iconst 3, 1) := by decide +kernel
theorem dX9_init_168 : decode cX9_init 168 = .ok (.iconst 0, 1) := by decide +kernel
theorem dX9_init_169 : decode cX9_init 169 = .ok (.iastore, 1) := by decide +kernel
theorem dX9_init_170 : decode cX9_init 170 = .ok (.aload_n 0, 1) := by decide +kernel
theorem dX9_init_171 : decode cX9_init 171 = .ok (.getfield 13, 3) := by decide +kernel
theorem dX9_init_174 : decode cX9_init 174 = .ok (.iconst 4, 1) := by decide +kernel
theorem dX9_init_175 : decode cX9_init 175 = .ok (.iconst 0, 1) := by decide +kernel
theorem dX9_init_176 : decode cX9_init 176 = .ok (.iastore, 1) := by decide +kernel
theorem dX9_init_177 : decode cX9_init 177 = .ok (.iconst 0, 1) := by decide +kernel
theorem dX9_init_178 : decode cX9_init 178 = .ok (.istore_n 2, 1) := by decide +kernel
theorem dX9_init_179 : decode cX9_init 179 = .ok (.iload_n 2, 1) := by decide +kernel
theorem dX9_init_180 : decode cX9_init 180 = .ok (.bipush 7, 2) := by decide +kernel
theorem dX9_init_182 : decode cX9_init 182 = .ok (.if_icmp .ge 52, 3) := by decide +kernel
theorem dX9_init_185 : decode cX9_init 185 = .ok (.aload_n 1, 1) := by decide +kernel
theorem dX9_init_186 : decode cX9_init 186 = .ok (.iload_n 2, 1) := by decide +kernel
theorem dX9_init_187 : decode cX9_init 187 = .ok (.iaload, 1) := by decide +kernel
theorem dX9_init_188 : decode cX9_init 188 = .ok (.istore_n 3, 1) := by decide +kernel
theorem dX9_init_189 : decode cX9_init 189 = .ok (.bipush 6, 2) := by decide +kernel
theorem dX9_init_191 : decode cX9_init 191 = .ok (.istore 4, 2) := by decide +kernel
theorem dX9_init_193 : decode cX9_init 193 = .ok (.iload 4, 2) := by decide +kernel
theorem dX9_init_195 : decode cX9_init 195 = .ok (.ifCond .lt 33, 3) := by decide +kernel
theorem dX9_init_198 : decode cX9_init 198 = .ok (.aload_n 0, 1) := by decide +kernel
theorem dX9_init_199 : decode cX9_init 199 = .ok (.getfield 13, 3) := by decide +kernel
theorem dX9_init_202 : decode cX9_init 202 = .ok (.bipush 7, 2) := by decide +kernel
theorem dX9_init_204 : decode cX9_init 204 = .ok (.bipush 9, 2) := by decide +kernel
theorem dX9_init_206 : decode cX9_init 206 = .ok (.iload_n 2, 1) := by decide +kernel
theorem dX9_init_207 : decode cX9_init 207 = .ok (.imul, 1) := by decide +kernel
theorem dX9_init_208 : decode cX9_init 208 = .ok (.iadd, 1) := by decide +kernel
theorem dX9_init_209 : decode cX9_init 209 = .ok (.iload 4, 2) := by decide +kernel
theorem dX9_init_211 : decode cX9_init 211 = .ok (.iadd, 1) := by decide +kernel
theorem dX9_init_212 : decode cX9_init 212 = .ok (.iload_n 3, 1) := by decide +kernel
theorem dX9_init_213 : decode cX9_init 213 = .ok (.bipush 10, 2) := by decide +kernel
theorem dX9_init_215 : decode cX9_init 215 = .ok (.irem, 1) := by decide +kernel
theorem dX9_init_216 : decode cX9_init 216 = .ok (.iastore, 1) := by decide +kernel
theorem dX9_init_217 : decode cX9_init 217 = .ok (.iload_n 3, 1) := by decide +kernel
theorem dX9_init_218 : decode cX9_init 218 = .ok (.bipush 10, 2) := by decide +kernel
theorem dX9_init_220 : decode cX9_init 220 = .ok (.idiv, 1) := by decide +kernel
theorem dX9_init_221 : decode cX9_init 221 = .ok (.istore_n 3, 1) := by decide +kernel
theorem dX9_init_222 : decode cX9_init 222 = .ok (.iinc 4 (-1), 3) := by decide +kernel
theorem dX9_init_225 : decode cX9_init 225 = .ok (.goto (-32), 3) := by decide +kernel
theorem dX9_init_228 : decode cX9_init 228 = .ok (.iinc 2 1, 3) := by decide +kernel
theorem dX9_init_231 : decode cX9_init 231 = .ok (.goto (-52), 3) := by decide +kernel
theorem dX9_init_234 : decode cX9_init 234 = .ok (.return_, 1) := by decide +kernel
theorem dX9_clear_0 : decode cX9_clear 0 = .ok (.iconst 0, 1) := by decide +kernel
theorem dX9_clear_1 : decode cX9_clear 1 = .ok (.istore_n 1, 1) := by decide +kernel
theorem dX9_clear_2 : decode cX9_clear 2 = .ok (.iload_n 1, 1) := by decide +kernel
theorem dX9_clear_3 : decode cX9_clear 3 = .ok (.sipush 249, 3) := by decide +kernel
theorem dX9_clear_6 : decode cX9_clear 6 = .ok (.if_icmp .ge 13, 3) := by decide +kernel
theorem dX9_clear_9 : decode cX9_clear 9 = .ok (.aload_n 0, 1) := by decide +kernel
theorem dX9_clear_10 : decode cX9_clear 10 = .ok (.iload_n 1, 1) := by decide +kernel
theorem dX9_clear_11 : decode cX9_clear 11 = .ok (.iconst 0, 1) := by decide +kernel
theorem dX9_clear_12 : decode cX9_clear 12 = .ok (.iastore, 1) := by decide +kernel
theorem dX9_clear_13 : decode cX9_clear 13 = .ok (.iinc 1 1, 3) := by decide +kernel
theorem dX9_clear_16 : decode cX9_clear 16 = .ok (.goto (-14), 3) := by decide +kernel
theorem dX9_clear_19 : decode cX9_clear 19 = .ok (.iconst 0, 1) := by decide +kernel
theorem dX9_clear_20 : decode cX9_clear 20 = .ok (.istore_n 1, 1) := by decide +kernel
theorem dX9_clear_21 : decode cX9_clear 21 = .ok (.iload_n 1, 1) := by decide +kernel
theorem dX9_clear_22 : decode cX9_clear 22 = .ok (.iconst 4, 1) := by decide +kernel
theorem dX9_clear_23 : decode cX9_clear 23 = .ok (.if_icmp .ge 16, 3) := by decide +kernel
theorem dX9_clear_26 : decode cX9_clear 26 = .ok (.aload_n 0, 1) := by decide +kernel
theorem dX9_clear_27 : decode cX9_clear 27 = .ok (.iconst 2, 1) := by decide +kernel
theorem dX9_clear_28 : decode cX9_clear 28 = .ok (.iload_n 1, 1) := by decide +kernel
theorem dX9_clear_29 : decode cX9_clear 29 = .ok (.iadd, 1) := by decide +kernel
theorem dX9_clear_30 : decode cX9_clear 30 = .ok (.bipush 7, 2) := by decide +kernel
theorem dX9_clear_32 : decode cX9_clear 32 = .ok (.iastore, 1) := by decide +kernel
theorem dX9_clear_33 : decode cX9_clear 33 = .ok (.iinc 1 1, 3) := by decide +kernel
theorem dX9_clear_36 : decode cX9_clear 36 = .ok (.goto (-15), 3) := by decide +kernel
theorem dX9_clear_39 : decode cX9_clear 39 = .ok (.aload_n 0, 1) := by decide +kernel
theorem dX9_clear_40 : decode cX9_clear 40 = .ok (.bipush 6, 2) := by decide +kernel
theorem dX9_clear_42 : decode cX9_clear 42 = .ok (.iconst 4, 1) := by decide +kernel
theorem dX9_clear_43 : decode cX9_clear 43 = .ok (.iastore, 1) := by decide +kernel
theorem dX9_clear_44 : decode cX9_clear 44 = .ok (.return_, 1) := by decide +kernel
theorem dX9_in_0 : decode cX9_in 0 = .ok (.lload_n 0, 1) := by decide +kernel
theorem dX9_in_1 : decode cX9_in 1 = .ok (.lload_n 2, 1) := by decide +kernel
theorem dX9_in_2 : decode cX9_in 2 = .ok (.lcmp, 1) := by decide +kernel
theorem dX9_in_3 : decode cX9_in 3 = .ok (.ifCond .lt 14, 3) := by decide +kernel
theorem dX9_in_6 : decode cX9_in 6 = .ok (.lload_n 0, 1) := by decide +kernel
theorem dX9_in_7 : decode cX9_in 7 = .ok (.lload 4, 2) := by decide +kernel
theorem dX9_in_9 : decode cX9_in 9 = .ok (.lcmp, 1) := by decide +kernel
theorem dX9_in_10 : decode cX9_in 10 = .ok (.ifCond .gt 7, 3) := by decide +kernel
theorem dX9_in_13 : decode cX9_in 13 = .ok (.iconst 1, 1) := by decide +kernel
theorem dX9_in_14 : decode cX9_in 14 = .ok (.goto 4, 3) := by decide +kernel
theorem dX9_in_17 : decode cX9_in 17 = .ok (.iconst 0, 1) := by decide +kernel
theorem dX9_in_18 : decode cX9_in 18 = .ok (.ireturn, 1) := by decide +kernel
theorem dX9_abs_0 : decode cX9_abs 0 = .ok (.iload_n 0, 1) := by decide +kernel
theorem dX9_abs_1 : decode cX9_abs 1 = .ok (.ifCond .ge 8, 3) := by decide +kernel
theorem dX9_abs_4 : decode cX9_abs 4 = .ok (.iload_n 0, 1) := by decide +kernel
theorem dX9_abs_5 : decode cX9_abs 5 = .ok (.ineg, 1) := by decide +kernel
theorem dX9_abs_6 : decode cX9_abs 6 = .ok (.goto 4, 3) := by decide +kernel
theorem dX9_abs_9 : decode cX9_abs 9 = .ok (.iload_n 0, 1) := by decide +kernel
theorem dX9_abs_10 : decode cX9_abs 10 = .ok (.ireturn, 1) := by decide +kernel
theorem dX9_write_0 : decode cX9_write 0 = .ok (.iload_n 1, 1) := by decide +kernel
theorem dX9_write_1 : decode cX9_write 1 = .ok (.i2l, 1) := by decide +kernel
theorem dX9_write_2 : decode cX9_write 2 = .ok (.ldc2_w 52, 3) := by decide +kernel
theorem dX9_write_5 : decode cX9_write 5 = .ok (.ldc2_w 54, 3) := by decide +kernel
theorem dX9_write_8 : decode cX9_write 8 = .ok (.invokestatic 56, 3) := by decide +kernel
theorem dX9_write_11 : decode cX9_write 11 = .ok (.ifCond .ne 5, 3) := by decide +kernel
theorem dX9_write_14 : decode cX9_write 14 = .ok (.iconst (-1), 1) := by decide +kernel
theorem dX9_write_15 : decode cX9_write 15 = .ok (.ireturn, 1) := by decide +kernel
theorem dX9_write_16 : decode cX9_write 16 = .ok (.aload_n 0, 1) := by decide +kernel
theorem dX9_write_17 : decode cX9_write 17 = .ok (.getfield 60, 3) := by decide +kernel
theorem dX9_write_20 : decode cX9_write 20 = .ok (.sipush 200, 3) := by decide +kernel
theorem dX9_write_23 : decode cX9_write 23 = .ok (.if_icmp .ne 6, 3) := by decide +kernel
theorem dX9_write_26 : decode cX9_write 26 = .ok (.bipush (-3), 2) := by decide +kernel
theorem dX9_write_28 : decode cX9_write 28 = .ok (.ireturn, 1) := by decide +kernel
theorem dX9_write_29 : decode cX9_write 29 = .ok (.aload_n 0, 1) := by decide +kernel
theorem dX9_write_30 : decode cX9_write 30 = .ok (.getfield 7, 3) := by decide +kernel
theorem dX9_write_33 : decode cX9_write 33 = .ok (.aload_n 0, 1) := by decide +kernel
theorem dX9_write_34 : decode cX9_write 34 = .ok (.getfield 60, 3) := by decide +kernel
theorem dX9_write_37 : decode cX9_write 37 = .ok (.iload_n 1, 1) := by decide +kernel
theorem dX9_write_38 : decode cX9_write 38 = .ok (.iastore, 1) := by decide +kernel
theorem dX9_write_39 : decode cX9_write 39 = .ok (.aload_n 0, 1) := by decide +kernel
theorem dX9_write_40 : decode cX9_write 40 = .ok (.dup, 1) := by decide +kernel
theorem dX9_write_41 : decode cX9_write 41 = .ok (.getfield 60, 3) := by decide +kernel
theorem dX9_write_44 : decode cX9_write 44 = .ok (.iconst 1, 1) := by decide +kernel
theorem dX9_write_45 : decode cX9_write 45 = .ok (.iadd, 1) := by decide +kernel
theorem dX9_write_46 : decode cX9_write 46 = .ok (.putfield 60, 3) := by decide +kernel
theorem dX9_write_49 : decode cX9_write 49 = .ok (.aload_n 0, 1) := by decide +kernel
theorem dX9_write_50 : decode cX9_write 50 = .ok (.getfield 60, 3) := by decide +kernel
theorem dX9_write_53 : decode cX9_write 53 = .ok (.ireturn, 1) := by decide +kernel
theorem dX9_wipe_0 : decode cX9_wipe 0 = .ok (.aload_n 0, 1) := by decide +kernel
theorem dX9_wipe_1 : decode cX9_wipe 1 = .ok (.getfield 60, 3) := by decide +kernel
theorem dX9_wipe_4 : decode cX9_wipe 4 = .ok (.istore_n 1, 1) := by decide +kernel
theorem dX9_wipe_5 : decode cX9_wipe 5 = .ok (.aload_n 0, 1) := by decide +kernel
theorem dX9_wipe_6 : decode cX9_wipe 6 = .ok (.iconst 0, 1) := by decide +kernel
theorem dX9_wipe_7 : decode cX9_wipe 7 = .ok (.putfield 60, 3) := by decide +kernel
theorem dX9_wipe_10 : decode cX9_wipe 10 = .ok (.iload_n 1, 1) := by decide +kernel
theorem dX9_wipe_11 : decode cX9_wipe 11 = .ok (.ireturn, 1) := by decide +kernel
theorem dX9_byteAt_0 : decode cX9_byteAt 0 = .ok (.iload_n 1, 1) := by decide +kernel
theorem dX9_byteAt_1 : decode cX9_byteAt 1 = .ok (.aload_n 0, 1) := by decide +kernel
theorem dX9_byteAt_2 : decode cX9_byteAt 2 = .ok (.getfield 60, 3) := by decide +kernel
theorem dX9_byteAt_5 : decode cX9_byteAt 5 = .ok (.if_icmp .ge 12, 3) := by decide +kernel
theorem dX9_byteAt_8 : decode cX9_byteAt 8 = .ok (.aload_n 0, 1) := by decide +kernel
theorem dX9_byteAt_9 : decode cX9_byteAt 9 = .ok (.getfield 7, 3) := by decide +kernel
theorem dX9_byteAt_12 : decode cX9_byteAt 12 = .ok (.iload_n 1, 1) := by decide +kernel
theorem dX9_byteAt_13 : decode cX9_byteAt 13 = .ok (.iaload, 1) := by decide +kernel
theorem dX9_byteAt_14 : decode cX9_byteAt 14 = .ok (.goto 4, 3) := by decide +kernel
