theorem dX0_init_0 : decode cX0_init 0 = .ok (.aload_n 0, 1) := by decide +kernel
theorem dX0_init_1 : decode cX0_init 1 = .ok (.invokespecial 3, 3) := by decide +kernel
theorem dX0_init_4 : decode cX0_init 4 = .ok (.aload_n 0, 1) := by decide +kernel
theorem dX0_init_5 : decode cX0_init 5 = .ok (.bipush 81, 2) := by decide +kernel
theorem dX0_init_7 : decode cX0_init 7 = .ok (.newarray .int, 2) := by decide +kernel
theorem dX0_init_9 : decode cX0_init 9 = .ok (.putfield 9, 3) := by decide +kernel
theorem dX0_init_12 : decode cX0_init 12 = .ok (.return_, 1) := by decide +kernel
theorem dX0_copyFrom_0 : decode cX0_copyFrom 0 = .ok (.aload_n 0, 1) := by decide +kernel
theorem dX0_copyFrom_1 : decode cX0_copyFrom 1 = .ok (.aload_n 1, 1) := by decide +kernel
theorem dX0_copyFrom_2 : decode cX0_copyFrom 2 = .ok (.getfield 15, 3) := by decide +kernel
theorem dX0_copyFrom_5 : decode cX0_copyFrom 5 = .ok (.putfield 15, 3) := by decide +kernel
theorem dX0_copyFrom_8 : decode cX0_copyFrom 8 = .ok (.aload_n 0, 1) := by decide +kernel
theorem dX0_copyFrom_9 : decode cX0_copyFrom 9 = .ok (.aload_n 1, 1) := by decide +kernel
theorem dX0_copyFrom_10 : decode cX0_copyFrom 10 = .ok (.getfield 19, 3) := by decide +kernel
theorem dX0_copyFrom_13 : decode cX0_copyFrom 13 = .ok (.putfield 19, 3) := by decide +kernel
theorem dX0_copyFrom_16 : decode cX0_copyFrom 16 = .ok (.aload_n 1, 1) := by decide +kernel
theorem dX0_copyFrom_17 : decode cX0_copyFrom 17 = .ok (.getfield 9, 3) := by decide +kernel
theorem dX0_copyFrom_20 : decode cX0_copyFrom 20 = .ok (.iconst 0, 1) := by decide +kernel
theorem dX0_copyFrom_21 : decode cX0_copyFrom 21 = .ok (.aload_n 0, 1) := by decide +kernel
theorem dX0_copyFrom_22 : decode cX0_copyFrom 22 = .ok (.getfield 9, 3) := by decide +kernel
theorem dX0_copyFrom_25 : decode cX0_copyFrom 25 = .ok (.iconst 0, 1) := by decide +kernel
theorem dX0_copyFrom_26 : decode cX0_copyFrom 26 = .ok (.bipush 81, 2) := by decide +kernel
theorem dX0_copyFrom_28 : decode cX0_copyFrom 28 = .ok (.invokestatic 22, 3) := by decide +kernel
theorem dX0_copyFrom_31 : decode cX0_copyFrom 31 = .ok (.return_, 1) := by decide +kernel
theorem dX0_clear_0 : decode cX0_clear 0 = .ok (.aload_n 0, 1) := by decide +kernel
theorem dX0_clear_1 : decode cX0_clear 1 = .ok (.iconst 0, 1) := by decide +kernel
theorem dX0_clear_2 : decode cX0_clear 2 = .ok (.putfield 15, 3) := by decide +kernel
theorem dX0_clear_5 : decode cX0_clear 5 = .ok (.aload_n 0, 1) := by decide +kernel
theorem dX0_clear_6 : decode cX0_clear 6 = .ok (.iconst 0, 1) := by decide +kernel
theorem dX0_clear_7 : decode cX0_clear 7 = .ok (.putfield 19, 3) := by decide +kernel
theorem dX0_clear_10 : decode cX0_clear 10 = .ok (.iconst 0, 1) := by decide +kernel
theorem dX0_clear_11 : decode cX0_clear 11 = .ok (.istore_n 1, 1) := by decide +kernel
theorem dX0_clear_12 : decode cX0_clear 12 = .ok (.iload_n 1, 1) := by decide +kernel
theorem dX0_clear_13 : decode cX0_clear 13 = .ok (.bipush 81, 2) := by decide +kernel
theorem dX0_clear_15 : decode cX0_clear 15 = .ok (.if_icmp .ge 16, 3) := by decide +kernel
theorem dX0_clear_18 : decode cX0_clear 18 = .ok (.aload_n 0, 1) := by decide +kernel
theorem dX0_clear_19 : decode cX0_clear 19 = .ok (.getfield 9, 3) := by decide +kernel
theorem dX0_clear_22 : decode cX0_clear 22 = .ok (.iload_n 1, 1) := by decide +kernel
theorem dX0_clear_23 : decode cX0_clear 23 = .ok (.iconst 0, 1) := by decide +kernel
theorem dX0_clear_24 : decode cX0_clear 24 = .ok (.iastore, 1) := by decide +kernel
theorem dX0_clear_25 : decode cX0_clear 25 = .ok (.iinc 1 1, 3) := by decide +kernel
theorem dX0_clear_28 : decode cX0_clear 28 = .ok (.goto (-16), 3) := by decide +kernel
theorem dX0_clear_31 : decode cX0_clear 31 = .ok (.return_, 1) := by decide +kernel
theorem dX0_isTold_0 : decode cX0_isTold 0 = .ok (.aload_n 0, 1) := by decide +kernel
theorem dX0_isTold_1 : decode cX0_isTold 1 = .ok (.getfield 15, 3) := by decide +kernel
theorem dX0_isTold_4 : decode cX0_isTold 4 = .ok (.ifCond .le 7, 3) := by decide +kernel
theorem dX0_isTold_7 : decode cX0_isTold 7 = .ok (.iconst 1, 1) := by decide +kernel
theorem dX0_isTold_8 : decode cX0_isTold 8 = .ok (.goto 4, 3) := by decide +kernel
theorem dX0_isTold_11 : decode cX0_isTold 11 = .ok (.iconst 0, 1) := by decide +kernel
theorem dX0_isTold_12 : decode cX0_isTold 12 = .ok (.ireturn, 1) := by decide +kernel
theorem dX0_has_0 : decode cX0_has 0 = .ok (.iload_n 1, 1) := by decide +kernel
theorem dX0_has_1 : decode cX0_has 1 = .ok (.ifCond .lt 27, 3) := by decide +kernel
theorem dX0_has_4 : decode cX0_has 4 = .ok (.iload_n 1, 1) := by decide +kernel
theorem dX0_has_5 : decode cX0_has 5 = .ok (.aload_n 0, 1) := by decide +kernel
theorem dX0_has_6 : decode cX0_has 6 = .ok (.getfield 15, 3) := by decide +kernel
theorem dX0_has_9 : decode cX0_has 9 = .ok (.if_icmp .ge 19, 3) := by decide +kernel
theorem dX0_has_12 : decode cX0_has 12 = .ok (.iload_n 2, 1) := by decide +kernel
theorem dX0_has_13 : decode cX0_has 13 = .ok (.ifCond .lt 15, 3) := by decide +kernel
theorem dX0_has_16 : decode cX0_has 16 = .ok (.iload_n 2, 1) := by decide +kernel
theorem dX0_has_17 : decode cX0_has 17 = .ok (.aload_n 0, 1) := by decide +kernel
theorem dX0_has_18 : decode cX0_has 18 = .ok (.getfield 19, 3) := by decide +kernel
theorem dX0_has_21 : decode cX0_has 21 = .ok (.if_icmp .ge 7, 3) := by decide +kernel
theorem dX0_has_24 : decode cX0_has 24 = .ok (.iconst 1, 1) := by decide +kernel
theorem dX0_has_25 : decode cX0_has 25 = .ok (.goto 4, 3) := by decide +kernel
theorem dX0_has_28 : decode cX0_has 28 = .ok (.iconst 0, 1) := by decide +kernel
theorem dX0_has_29 : decode cX0_has 29 = .ok (.ireturn, 1) := by decide +kernel
theorem dX0_hasNumber_0 : decode cX0_hasNumber 0 = .ok (.iload_n 1, 1) := by decide +kernel
theorem dX0_hasNumber_1 : decode cX0_hasNumber 1 = .ok (.ifCond .lt 22, 3) := by decide +kernel
theorem dX0_hasNumber_4 : decode cX0_hasNumber 4 = .ok (.aload_n 0, 1) := by decide +kernel
theorem dX0_hasNumber_5 : decode cX0_hasNumber 5 = .ok (.iload_n 1, 1) := by decide +kernel
theorem dX0_hasNumber_6 : decode cX0_hasNumber 6 = .ok (.bipush 9, 2) := by decide +kernel
theorem dX0_hasNumber_8 : decode cX0_hasNumber 8 = .ok (.irem, 1) := by decide +kernel
theorem dX0_hasNumber_9 : decode cX0_hasNumber 9 = .ok (.iload_n 1, 1) := by decide +kernel
theorem dX0_hasNumber_10 : decode cX0_hasNumber 10 = .ok (.bipush 9, 2) := by decide +kernel
theorem dX0_hasNumber_12 : decode cX0_hasNumber 12 = .ok (.idiv, 1) := by decide +kernel
theorem dX0_hasNumber_13 : decode cX0_hasNumber 13 = .ok (.invokevirtual 28, 3) := by decide +kernel
theorem dX0_hasNumber_16 : decode cX0_hasNumber 16 = .ok (.ifCond .eq 7, 3) := by decide +kernel
theorem dX0_hasNumber_19 : decode cX0_hasNumber 19 = .ok (.iconst 1, 1) := by decide +kernel
theorem dX0_hasNumber_20 : decode cX0_hasNumber 20 = .ok (.goto 4, 3) := by decide +kernel
theorem dX0_hasNumber_23 : decode cX0_hasNumber 23 = .ok (.iconst 0, 1) := by decide +kernel
theorem dX0_hasNumber_24 : decode cX0_hasNumber 24 = .ok (.ireturn, 1) := by decide +kernel
theorem dX0_height_0 : decode cX0_height 0 = .ok (.iload_n 1, 1) := by decide +kernel
theorem dX0_height_1 : decode cX0_height 1 = .ok (.ifCond .lt 18, 3) := by decide +kernel
theorem dX0_height_4 : decode cX0_height 4 = .ok (.iload_n 1, 1) := by decide +kernel
theorem dX0_height_5 : decode cX0_height 5 = .ok (.bipush 81, 2) := by decide +kernel
theorem dX0_height_7 : decode cX0_height 7 = .ok (.if_icmp .ge 12, 3) := by decide +kernel
theorem dX0_height_10 : decode cX0_height 10 = .ok (.aload_n 0, 1) := by decide +kernel
theorem dX0_height_11 : decode cX0_height 11 = .ok (.getfield 9, 3) := by decide +kernel
theorem dX0_height_14 : decode cX0_height 14 = .ok (.iload_n 1, 1) := by decide +kernel
theorem dX0_height_15 : decode cX0_height 15 = .ok (.iaload, 1) := by decide +kernel
theorem dX0_height_16 : decode cX0_height 16 = .ok (.goto 4, 3) := by decide +kernel
theorem dX0_height_19 : decode cX0_height 19 = .ok (.iconst 0, 1) := by decide +kernel
theorem dX0_height_20 : decode cX0_height 20 = .ok (.ireturn, 1) := by decide +kernel
theorem dX0_setHeight_0 : decode cX0_setHeight 0 = .ok (.iload_n 1, 1) := by decide +kernel
theorem dX0_setHeight_1 : decode cX0_setHeight 1 = .ok (.ifCond .lt 16, 3) := by decide +kernel
theorem dX0_setHeight_4 : decode cX0_setHeight 4 = .ok (.iload_n 1, 1) := by decide +kernel
theorem dX0_setHeight_5 : decode cX0_setHeight 5 = .ok (.bipush 81, 2) := by decide +kernel
theorem dX0_setHeight_7 : decode cX0_setHeight 7 = .ok (.if_icmp .ge 10, 3) := by decide +kernel
theorem dX0_setHeight_10 : decode cX0_setHeight 10 = .ok (.aload_n 0, 1) := by decide +kernel
theorem dX0_setHeight_11 : decode cX0_setHeight 11 = .ok (.getfield 9, 3) := by decide +kernel
theorem dX0_setHeight_14 : decode cX0_setHeight 14 = .ok (.iload_n 1, 1) := by decide +kernel
theorem dX0_setHeight_15 : decode cX0_setHeight 15 = .ok (.iload_n 2, 1) := by decide +kernel
theorem dX0_setHeight_16 : decode cX0_setHeight 16 = .ok (.iastore, 1) := by decide +kernel
theorem dX0_setHeight_17 : decode cX0_setHeight 17 = .ok (.return_, 1) := by decide +kernel
theorem dX0_beside_0 : decode cX0_beside 0 = .ok (.iload_n 1, 1) := by decide +kernel
theorem dX0_beside_1 : decode cX0_beside 1 = .ok (.bipush 9, 2) := by decide +kernel
theorem dX0_beside_3 : decode cX0_beside 3 = .ok (.irem, 1) := by decide +kernel
theorem dX0_beside_4 : decode cX0_beside 4 = .ok (.getstatic 32, 3) := by decide +kernel
theorem dX0_beside_7 : decode cX0_beside 7 = .ok (.iload_n 2, 1) := by decide +kernel
theorem dX0_beside_8 : decode cX0_beside 8 = .ok (.bipush 7, 2) := by decide +kernel
theorem dX0_beside_10 : decode cX0_beside 10 = .ok (.iand, 1) := by decide +kernel
theorem dX0_beside_11 : decode cX0_beside 11 = .ok (.iaload, 1) := by decide +kernel
theorem dX0_beside_12 : decode cX0_beside 12 = .ok (.iadd, 1) := by decide +kernel
theorem dX0_beside_13 : decode cX0_beside 13 = .ok (.istore_n 3, 1) := by decide +kernel
theorem dX0_beside_14 : decode cX0_beside 14 = .ok (.iload_n 1, 1) := by decide +kernel
theorem dX0_beside_15 : decode cX0_beside 15 = .ok (.bipush 9, 2) := by decide +kernel
theorem dX0_beside_17 : decode cX0_beside 17 = .ok (.idiv, 1) := by decide +kernel
theorem dX0_beside_18 : decode cX0_beside 18 = .ok (.getstatic 35, 3) := by decide +kernel
theorem dX0_beside_21 : decode cX0_beside 21 = .ok (.iload_n 2, 1) := by decide +kernel
theorem dX0_beside_22 : decode cX0_beside 22 = .ok (.bipush 7, 2) := by decide +kernel
theorem dX0_beside_24 : decode cX0_beside 24 = .ok (.iand, 1) := by decide +kernel
theorem dX0_beside_25 : decode cX0_beside 25 = .ok (.iaload, 1) := by decide +kernel
theorem dX0_beside_26 : decode cX0_beside 26 = .ok (.iadd, 1) := by decide +kernel
theorem dX0_beside_27 : decode cX0_beside 27 = .ok (.istore 4, 2) := by decide +kernel
theorem dX0_beside_29 : decode cX0_beside 29 = .ok (.iload_n 3, 1) := by decide +kernel
theorem dX0_beside_30 : decode cX0_beside 30 = .ok (.ifCond .lt 29, 3) := by decide +kernel
theorem dX0_beside_33 : decode cX0_beside 33 = .ok (.iload_n 3, 1) := by decide +kernel
theorem dX0_beside_34 : decode cX0_beside 34 = .ok (.aload_n 0, 1) := by decide +kernel
theorem dX0_beside_35 : decode cX0_beside 35 = .ok (.getfield 15, 3) := by decide +kernel
theorem dX0_beside_38 : decode cX0_beside 38 = .ok (.if_icmp .ge 21, 3) := by decide +kernel
theorem dX0_beside_41 : decode cX0_beside 41 = .ok (.iload 4, 2) := by decide +kernel
theorem dX0_beside_43 : decode cX0_beside 43 = .ok (.ifCond .lt 16, 3) := by decide +kernel
theorem dX0_beside_46 : decode cX0_beside 46 = .ok (.iload 4, 2) := by decide +kernel
theorem dX0_beside_48 : decode cX0_beside 48 = .ok (.aload_n 0, 1) := by decide +kernel
theorem dX0_beside_49 : decode cX0_beside 49 = .ok (.getfield 19, 3) := by decide +kernel
theorem dX0_beside_52 : decode cX0_beside 52 = .ok (.if_icmp .ge 7, 3) := by decide +kernel
theorem dX0_beside_55 : decode cX0_beside 55 = .ok (.iconst 1, 1) := by decide +kernel
theorem dX0_beside_56 : decode cX0_beside 56 = .ok (.goto 4, 3) := by decide +kernel
theorem dX0_beside_59 : decode cX0_beside 59 = .ok (.iconst 0, 1) := by decide +kernel
theorem dX0_beside_60 : decode cX0_beside 60 = .ok (.istore 5, 2) := by decide +kernel
theorem dX0_beside_62 : decode cX0_beside 62 = .ok (.iload 5, 2) := by decide +kernel
theorem dX0_beside_64 : decode cX0_beside 64 = .ok (.ifCond .eq 13, 3) := by decide +kernel
theorem dX0_beside_67 : decode cX0_beside 67 = .ok (.bipush 9, 2) := by decide +kernel
theorem dX0_beside_69 : decode cX0_beside 69 = .ok (.iload 4, 2) := by decide +kernel
theorem dX0_beside_71 : decode cX0_beside 71 = .ok (.imul, 1) := by decide +kernel
theorem dX0_beside_72 : decode cX0_beside 72 = .ok (.iload_n 3, 1) := by decide +kernel
theorem dX0_beside_73 : decode cX0_beside 73 = .ok (.iadd, 1) := by decide +kernel
theorem dX0_beside_74 : decode cX0_beside 74 = .ok (.goto 4, 3) := by decide +kernel
theorem dX0_beside_77 : decode cX0_beside 77 = .ok (.iconst (-1), 1) := by decide +kernel
theorem dX0_beside_78 : decode cX0_beside 78 = .ok (.ireturn, 1) := by decide +kernel
theorem dX0_heightBesideOrOwn_0 : decode cX0_heightBesideOrOwn 0 = .ok (.aload_n 0, 1) := by decide +kernel
theorem dX0_heightBesideOrOwn_1 : decode cX0_heightBesideOrOwn 1 = .ok (.iload_n 1, 1) := by decide +kernel
theorem dX0_heightBesideOrOwn_2 : decode cX0_heightBesideOrOwn 2 = .ok (.iload_n 2, 1) := by decide +kernel
theorem dX0_heightBesideOrOwn_3 : decode cX0_heightBesideOrOwn 3 = .ok (.invokevirtual 38, 3) := by decide +kernel
theorem dX0_heightBesideOrOwn_6 : decode cX0_heightBesideOrOwn 6 = .ok (.istore_n 3, 1) := by decide +kernel
theorem dX0_heightBesideOrOwn_7 : decode cX0_heightBesideOrOwn 7 = .ok (.aload_n 0, 1) := by decide +kernel
theorem dX0_heightBesideOrOwn_8 : decode cX0_heightBesideOrOwn 8 = .ok (.iload_n 3, 1) := by decide +kernel
theorem dX0_heightBesideOrOwn_9 : decode cX0_heightBesideOrOwn 9 = .ok (.iconst (-1), 1) := by decide +kernel
theorem dX0_heightBesideOrOwn_10 : decode cX0_heightBesideOrOwn 10 = .ok (.if_icmp .ne 7, 3) := by decide +kernel
theorem dX0_heightBesideOrOwn_13 : decode cX0_heightBesideOrOwn 13 = .ok (.iload_n 1, 1) := by decide +kernel
theorem dX0_heightBesideOrOwn_14 : decode cX0_heightBesideOrOwn 14 = .ok (.goto 4, 3) := by decide +kernel
theorem dX0_heightBesideOrOwn_17 : decode cX0_heightBesideOrOwn 17 = .ok (.iload_n 3, 1) := by decide +kernel
theorem dX0_heightBesideOrOwn_18 : decode cX0_heightBesideOrOwn 18 = .ok (.invokevirtual 42, 3) := by decide +kernel
theorem dX0_heightBesideOrOwn_21 : decode cX0_heightBesideOrOwn 21 = .ok (.ireturn, 1) := by decide +kernel
theorem dX0_east_0 : decode cX0_east 0 = .ok (.aload_n 0, 1) := by decide +kernel
theorem dX0_east_1 : decode cX0_east 1 = .ok (.iload_n 1, 1) := by decide +kernel
theorem dX0_east_2 : decode cX0_east 2 = .ok (.iconst 2, 1) := by decide +kernel
theorem dX0_east_3 : decode cX0_east 3 = .ok (.invokevirtual 46, 3) := by decide +kernel
theorem dX0_east_6 : decode cX0_east 6 = .ok (.aload_n 0, 1) := by decide +kernel
theorem dX0_east_7 : decode cX0_east 7 = .ok (.iload_n 1, 1) := by decide +kernel
theorem dX0_east_8 : decode cX0_east 8 = .ok (.bipush 6, 2) := by decide +kernel
theorem dX0_east_10 : decode cX0_east 10 = .ok (.invokevirtual 46, 3) := by decide +kernel
theorem dX0_east_13 : decode cX0_east 13 = .ok (.isub, 1) := by decide +kernel
theorem dX0_east_14 : decode cX0_east 14 = .ok (.ireturn, 1) := by decide +kernel
theorem dX0_south_0 : decode cX0_south 0 = .ok (.aload_n 0, 1) := by decide +kernel
theorem dX0_south_1 : decode cX0_south 1 = .ok (.iload_n 1, 1) := by decide +kernel
theorem dX0_south_2 : decode cX0_south 2 = .ok (.iconst 4, 1) := by decide +kernel
theorem dX0_south_3 : decode cX0_south 3 = .ok (.invokevirtual 46, 3) := by decide +kernel
theorem dX0_south_6 : decode cX0_south 6 = .ok (.aload_n 0, 1) := by decide +kernel
theorem dX0_south_7 : decode cX0_south 7 = .ok (.iload_n 1, 1) := by decide +kernel
theorem dX0_south_8 : decode cX0_south 8 = .ok (.iconst 0, 1) := by decide +kernel
theorem dX0_south_9 : decode cX0_south 9 = .ok (.invokevirtual 46, 3) := by decide +kernel
theorem dX0_south_12 : decode cX0_south 12 = .ok (.isub, 1) := by decide +kernel
theorem dX0_south_13 : decode cX0_south 13 = .ok (.ireturn, 1) := by decide +kernel
theorem dX0_steep_0 : decode cX0_steep 0 = .ok (.aload_n 0, 1) := by decide +kernel
theorem dX0_steep_1 : decode cX0_steep 1 = .ok (.iload_n 1, 1) := by decide +kernel
theorem dX0_steep_2 : decode cX0_steep 2 = .ok (.invokevirtual 49, 3) := by decide +kernel
theorem dX0_steep_5 : decode cX0_steep 5 = .ok (.invokestatic 52, 3) := by decide +kernel
theorem dX0_steep_8 : decode cX0_steep 8 = .ok (.aload_n 0, 1) := by decide +kernel
theorem dX0_steep_9 : decode cX0_steep 9 = .ok (.iload_n 1, 1) := by decide +kernel
theorem dX0_steep_10 : decode cX0_steep 10 = .ok (.invokevirtual 57, 3) := by decide +kernel
theorem dX0_steep_13 : decode cX0_steep 13 = .ok (.invokestatic 52, 3) := by decide +kernel
theorem dX0_steep_16 : decode cX0_steep 16 = .ok (.iadd, 1) := by decide +kernel
theorem dX0_steep_17 : decode cX0_steep 17 = .ok (.ireturn, 1) := by decide +kernel
theorem dX0_downFrom_0 : decode cX0_downFrom 0 = .ok (.iconst (-1), 1) := by decide +kernel
theorem dX0_downFrom_1 : decode cX0_downFrom 1 = .ok (.istore_n 2, 1) := by decide +kernel
theorem dX0_downFrom_2 : decode cX0_downFrom 2 = .ok (.iconst 0, 1) := by decide +kernel
theorem dX0_downFrom_3 : decode cX0_downFrom 3 = .ok (.istore_n 3, 1) := by decide +kernel
theorem dX0_downFrom_4 : decode cX0_downFrom 4 = .ok (.iconst 0, 1) := by decide +kernel
theorem dX0_downFrom_5 : decode cX0_downFrom 5 = .ok (.istore 4, 2) := by decide +kernel
theorem dX0_downFrom_7 : decode cX0_downFrom 7 = .ok (.iload 4, 2) := by decide +kernel
theorem dX0_downFrom_9 : decode cX0_downFrom 9 = .ok (.bipush 8, 2) := by decide +kernel
theorem dX0_downFrom_11 : decode cX0_downFrom 11 = .ok (.if_icmp .ge 53, 3) := by decide +kernel
theorem dX0_downFrom_14 : decode cX0_downFrom 14 = .ok (.iload 4, 2) := by decide +kernel
theorem dX0_downFrom_16 : decode cX0_downFrom 16 = .ok (.iconst 2, 1) := by decide +kernel
theorem dX0_downFrom_17 : decode cX0_downFrom 17 = .ok (.irem, 1) := by decide +kernel
theorem dX0_downFrom_18 : decode cX0_downFrom 18 = .ok (.ifCond .ne 7, 3) := by decide +kernel
theorem dX0_downFrom_21 : decode cX0_downFrom 21 = .ok (.iconst 3, 1) := by decide +kernel
theorem dX0_downFrom_22 : decode cX0_downFrom 22 = .ok (.goto 4, 3) := by decide +kernel
theorem dX0_downFrom_25 : decode cX0_downFrom 25 = .ok (.iconst 2, 1) := by decide +kernel
theorem dX0_downFrom_26 : decode cX0_downFrom 26 = .ok (.istore 5, 2) := by decide +kernel
theorem dX0_downFrom_28 : decode cX0_downFrom 28 = .ok (.aload_n 0, 1) := by decide +kernel
theorem dX0_downFrom_29 : decode cX0_downFrom 29 = .ok (.iload_n 1, 1) := by decide +kernel
theorem dX0_downFrom_30 : decode cX0_downFrom 30 = .ok (.invokevirtual 42, 3) := by decide +kernel
theorem dX0_downFrom_33 : decode cX0_downFrom 33 = .ok (.aload_n 0, 1) := by decide +kernel
theorem dX0_downFrom_34 : decode cX0_downFrom 34 = .ok (.iload_n 1, 1) := by decide +kernel
theorem dX0_downFrom_35 : decode cX0_downFrom 35 = .ok (.iload 4, 2) := by decide +kernel
theorem dX0_downFrom_37 : decode cX0_downFrom 37 = .ok (.invokevirtual 46, 3) := by decide +kernel
theorem dX0_downFrom_40 : decode cX0_downFrom 40 = .ok (.isub, 1) := by decide +kernel
theorem dX0_downFrom_41 : decode cX0_downFrom 41 = .ok (.iload 5, 2) := by decide +kernel
theorem dX0_downFrom_43 : decode cX0_downFrom 43 = .ok (.imul, 1) := by decide +kernel
theorem dX0_downFrom_44 : decode cX0_downFrom 44 = .ok (.istore 6, 2) := by decide +kernel
theorem dX0_downFrom_46 : decode cX0_downFrom 46 = .ok (.iload 6, 2) := by decide +kernel
theorem dX0_downFrom_48 : decode cX0_downFrom 48 = .ok (.iload_n 3, 1) := by decide +kernel
theorem dX0_downFrom_49 : decode cX0_downFrom 49 = .ok (.if_icmp .le 9, 3) := by decide +kernel
theorem dX0_downFrom_52 : decode cX0_downFrom 52 = .ok (.iload 6, 2) := by decide +kernel
theorem dX0_downFrom_54 : decode cX0_downFrom 54 = .ok (.istore_n 3, 1) := by decide +kernel
theorem dX0_downFrom_55 : decode cX0_downFrom 55 = .ok (.iload 4, 2) := by decide +kernel
theorem dX0_downFrom_57 : decode cX0_downFrom 57 = .ok (.istore_n 2, 1) := by decide +kernel
theorem dX0_downFrom_58 : decode cX0_downFrom 58 = .ok (.iinc 4 1, 3) := by decide +kernel
theorem dX0_downFrom_61 : decode cX0_downFrom 61 = .ok (.goto (-54), 3) := by decide +kernel
theorem dX0_downFrom_64 : decode cX0_downFrom 64 = .ok (.iload_n 2, 1) := by decide +kernel
theorem dX0_downFrom_65 : decode cX0_downFrom 65 = .ok (.ireturn, 1) := by decide +kernel
theorem dX0_nextDown_0 : decode cX0_nextDown 0 = .ok (.aload_n 0, 1) := by decide +kernel
theorem dX0_nextDown_1 : decode cX0_nextDown 1 = .ok (.iload_n 1, 1) := by decide +kernel
theorem dX0_nextDown_2 : decode cX0_nextDown 2 = .ok (.invokevirtual 60, 3) := by decide +kernel
theorem dX0_nextDown_5 : decode cX0_nextDown 5 = .ok (.istore_n 2, 1) := by decide +kernel
theorem dX0_nextDown_6 : decode cX0_nextDown 6 = .ok (.iload_n 2, 1) := by decide +kernel
theorem dX0_nextDown_7 : decode cX0_nextDown 7 = .ok (.iconst (-1), 1) := by decide +kernel
theorem dX0_nextDown_8 : decode cX0_nextDown 8 = .ok (.if_icmp .ne 7, 3) := by decide +kernel
theorem dX0_nextDown_11 : decode cX0_nextDown 11 = .ok (.iconst (-1), 1) := by decide +kernel
theorem dX0_nextDown_12 : decode cX0_nextDown 12 = .ok (.goto 9, 3) := by decide +kernel
theorem dX0_nextDown_15 : decode cX0_nextDown 15 = .ok (.aload_n 0, 1) := by decide +kernel
theorem dX0_nextDown_16 : decode cX0_nextDown 16 = .ok (.iload_n 1, 1) := by decide +kernel
theorem dX0_nextDown_17 : decode cX0_nextDown 17 = .ok (.iload_n 2, 1) := by decide +kernel
theorem dX0_nextDown_18 : decode cX0_nextDown 18 = .ok (.invokevirtual 38, 3) := by decide +kernel
theorem dX0_nextDown_21 : decode cX0_nextDown 21 = .ok (.ireturn, 1) := by decide +kernel
theorem dX0_isRidge_0 : decode cX0_isRidge 0 = .ok (.aload_n 0, 1) := by decide +kernel
theorem dX0_isRidge_1 : decode cX0_isRidge 1 = .ok (.iload_n 1, 1) := by decide +kernel
theorem dX0_isRidge_2 : decode cX0_isRidge 2 = .ok (.iconst 1, 1) := by decide +kernel
theorem dX0_isRidge_3 : decode cX0_isRidge 3 = .ok (.invokevirtual 63, 3) := by decide +kernel
theorem dX0_isRidge_6 : decode cX0_isRidge 6 = .ok (.ireturn, 1) := by decide +kernel
theorem dX0_isRiver_0 : decode cX0_isRiver 0 = .ok (.aload_n 0, 1) := by decide +kernel
theorem dX0_isRiver_1 : decode cX0_isRiver 1 = .ok (.iload_n 1, 1) := by decide +kernel
theorem dX0_isRiver_2 : decode cX0_isRiver 2 = .ok (.iconst (-1), 1) := by decide +kernel
theorem dX0_isRiver_3 : decode cX0_isRiver 3 = .ok (.invokevirtual 63, 3) := by decide +kernel
theorem dX0_isRiver_6 : decode cX0_isRiver 6 = .ok (.ireturn, 1) := by decide +kernel
theorem dX0_isBeyondBoth_0 : decode cX0_isBeyondBoth 0 = .ok (.iload_n 2, 1) := by decide +kernel
theorem dX0_isBeyondBoth_1 : decode cX0_isBeyondBoth 1 = .ok (.aload_n 0, 1) := by decide +kernel
theorem dX0_isBeyondBoth_2 : decode cX0_isBeyondBoth 2 = .ok (.iload_n 1, 1) := by decide +kernel
theorem dX0_isBeyondBoth_3 : decode cX0_isBeyondBoth 3 = .ok (.invokevirtual 42, 3) := by decide +kernel
theorem dX0_isBeyondBoth_6 : decode cX0_isBeyondBoth 6 = .ok (.imul, 1) := by decide +kernel
theorem dX0_isBeyondBoth_7 : decode cX0_isBeyondBoth 7 = .ok (.istore_n 3, 1) := by decide +kernel
theorem dX0_isBeyondBoth_8 : decode cX0_isBeyondBoth 8 = .ok (.iconst 0, 1) := by decide +kernel
theorem dX0_isBeyondBoth_9 : decode cX0_isBeyondBoth 9 = .ok (.istore 4, 2) := by decide +kernel
theorem dX0_isBeyondBoth_11 : decode cX0_isBeyondBoth 11 = .ok (.iload 4, 2) := by decide +kernel
theorem dX0_isBeyondBoth_13 : decode cX0_isBeyondBoth 13 = .ok (.iconst 4, 1) := by decide +kernel
theorem dX0_isBeyondBoth_14 : decode cX0_isBeyondBoth 14 = .ok (.if_icmp .ge 67, 3) := by decide +kernel
theorem dX0_isBeyondBoth_17 : decode cX0_isBeyondBoth 17 = .ok (.aload_n 0, 1) := by decide +kernel
theorem dX0_isBeyondBoth_18 : decode cX0_isBeyondBoth 18 = .ok (.iload_n 1, 1) := by decide +kernel
theorem dX0_isBeyondBoth_19 : decode cX0_isBeyondBoth 19 = .ok (.iload 4, 2) := by decide +kernel
theorem dX0_isBeyondBoth_21 : decode cX0_isBeyondBoth 21 = .ok (.invokevirtual 38, 3) := by decide +kernel
theorem dX0_isBeyondBoth_24 : decode cX0_isBeyondBoth 24 = .ok (.istore 5, 2) := by decide +kernel
theorem dX0_isBeyondBoth_26 : decode cX0_isBeyondBoth 26 = .ok (.aload_n 0, 1) := by decide +kernel
theorem dX0_isBeyondBoth_27 : decode cX0_isBeyondBoth 27 = .ok (.iload_n 1, 1) := by decide +kernel
theorem dX0_isBeyondBoth_28 : decode cX0_isBeyondBoth 28 = .ok (.iload 4, 2) := by decide +kernel
theorem dX0_isBeyondBoth_30 : decode cX0_isBeyondBoth 30 = .ok (.iconst 4, 1) := by decide +kernel
theorem dX0_isBeyondBoth_31 : decode cX0_isBeyondBoth 31 = .ok (.iadd, 1) := by decide +kernel
theorem dX0_isBeyondBoth_32 : decode cX0_isBeyondBoth 32 = .ok (.invokevirtual 38, 3) := by decide +kernel
theorem dX0_isBeyondBoth_35 : decode cX0_isBeyondBoth 35 = .ok (.istore 6, 2) := by decide +kernel
theorem dX0_isBeyondBoth_37 : decode cX0_isBeyondBoth 37 = .ok (.iload 5, 2) := by decide +kernel
theorem dX0_isBeyondBoth_39 : decode cX0_isBeyondBoth 39 = .ok (.iconst (-1), 1) := by decide +kernel
theorem dX0_isBeyondBoth_40 : decode cX0_isBeyondBoth 40 = .ok (.if_icmp .eq 35, 3) := by decide +kernel
theorem dX0_isBeyondBoth_43 : decode cX0_isBeyondBoth 43 = .ok (.iload 6, 2) := by decide +kernel
theorem dX0_isBeyondBoth_45 : decode cX0_isBeyondBoth 45 = .ok (.iconst (-1), 1) := by decide +kernel
theorem dX0_isBeyondBoth_46 : decode cX0_isBeyondBoth 46 = .ok (.if_icmp .eq 29, 3) := by decide +kernel
theorem dX0_isBeyondBoth_49 : decode cX0_isBeyondBoth 49 = .ok (.iload_n 3, 1) := by decide +kernel
theorem dX0_isBeyondBoth_50 : decode cX0_isBeyondBoth 50 = .ok (.iload_n 2, 1) := by decide +kernel
theorem dX0_isBeyondBoth_51 : decode cX0_isBeyondBoth 51 = .ok (.aload_n 0, 1) := by decide +kernel
theorem dX0_isBeyondBoth_52 : decode cX0_isBeyondBoth 52 = .ok (.iload 5, 2) := by decide +kernel
theorem dX0_isBeyondBoth_54 : decode cX0_isBeyondBoth 54 = .ok (.invokevirtual 42, 3) := by decide +kernel
theorem dX0_isBeyondBoth_57 : decode cX0_isBeyondBoth 57 = .ok (.imul, 1) := by decide +kernel
theorem dX0_isBeyondBoth_58 : decode cX0_isBeyondBoth 58 = .ok (.if_icmp .le 17, 3) := by decide +kernel
theorem dX0_isBeyondBoth_61 : decode cX0_isBeyondBoth 61 = .ok (.iload_n 3, 1) := by decide +kernel
theorem dX0_isBeyondBoth_62 : decode cX0_isBeyondBoth 62 = .ok (.iload_n 2, 1) := by decide +kernel
theorem dX0_isBeyondBoth_63 : decode cX0_isBeyondBoth 63 = .ok (.aload_n 0, 1) := by decide +kernel
theorem dX0_isBeyondBoth_64 : decode cX0_isBeyondBoth 64 = .ok (.iload 6, 2) := by decide +kernel
theorem dX0_isBeyondBoth_66 : decode cX0_isBeyondBoth 66 = .ok (.invokevirtual 42, 3) := by decide +kernel
theorem dX0_isBeyondBoth_69 : decode cX0_isBeyondBoth 69 = .ok (.imul, 1) := by decide +kernel
theorem dX0_isBeyondBoth_70 : decode cX0_isBeyondBoth 70 = .ok (.if_icmp .le 5, 3) := by decide +kernel
theorem dX0_isBeyondBoth_73 : decode cX0_isBeyondBoth 73 = .ok (.iconst 1, 1) := by decide +kernel
theorem dX0_isBeyondBoth_74 : decode cX0_isBeyondBoth 74 = .ok (.ireturn, 1) := by decide +kernel
theorem dX0_isBeyondBoth_75 : decode cX0_isBeyondBoth 75 = .ok (.iinc 4 1, 3) := by decide +kernel
theorem dX0_isBeyondBoth_78 : decode cX0_isBeyondBoth 78 = .ok (.goto (-67), 3) := by decide +kernel
theorem dX0_isBeyondBoth_81 : decode cX0_isBeyondBoth 81 = .ok (.iconst 0, 1) := by decide +kernel
theorem dX0_isBeyondBoth_82 : decode cX0_isBeyondBoth 82 = .ok (.ireturn, 1) := by decide +kernel
theorem dX0_pitOf_0 : decode cX0_pitOf 0 = .ok (.iload_n 1, 1) := by decide +kernel
theorem dX0_pitOf_1 : decode cX0_pitOf 1 = .ok (.istore_n 2, 1) := by decide +kernel
theorem dX0_pitOf_2 : decode cX0_pitOf 2 = .ok (.iconst 0, 1) := by decide +kernel
theorem dX0_pitOf_3 : decode cX0_pitOf 3 = .ok (.istore_n 3, 1) := by decide +kernel
theorem dX0_pitOf_4 : decode cX0_pitOf 4 = .ok (.iload_n 3, 1) := by decide +kernel
theorem dX0_pitOf_5 : decode cX0_pitOf 5 = .ok (.bipush 81, 2) := by decide +kernel
theorem dX0_pitOf_7 : decode cX0_pitOf 7 = .ok (.if_icmp .ge 28, 3) := by decide +kernel
theorem dX0_pitOf_10 : decode cX0_pitOf 10 = .ok (.aload_n 0, 1) := by decide +kernel
theorem dX0_pitOf_11 : decode cX0_pitOf 11 = .ok (.iload_n 2, 1) := by decide +kernel
theorem dX0_pitOf_12 : decode cX0_pitOf 12 = .ok (.invokevirtual 66, 3) := by decide +kernel
theorem dX0_pitOf_15 : decode cX0_pitOf 15 = .ok (.istore 4, 2) := by decide +kernel
theorem dX0_pitOf_17 : decode cX0_pitOf 17 = .ok (.iload 4, 2) := by decide +kernel
theorem dX0_pitOf_19 : decode cX0_pitOf 19 = .ok (.iconst (-1), 1) := by decide +kernel
theorem dX0_pitOf_20 : decode cX0_pitOf 20 = .ok (.if_icmp .ne 6, 3) := by decide +kernel
theorem dX0_pitOf_23 : decode cX0_pitOf 23 = .ok (.goto 12, 3) := by decide +kernel
theorem dX0_pitOf_26 : decode cX0_pitOf 26 = .ok (.iload 4, 2) := by decide +kernel
theorem dX0_pitOf_28 : decode cX0_pitOf 28 = .ok (.istore_n 2, 1) := by decide +kernel
theorem dX0_pitOf_29 : decode cX0_pitOf 29 = .ok (.iinc 3 1, 3) := by decide +kernel
theorem dX0_pitOf_32 : decode cX0_pitOf 32 = .ok (.goto (-28), 3) := by decide +kernel
theorem dX0_pitOf_35 : decode cX0_pitOf 35 = .ok (.iload_n 2, 1) := by decide +kernel
theorem dX0_pitOf_36 : decode cX0_pitOf 36 = .ok (.ireturn, 1) := by decide +kernel
theorem dX0_stepsToPit_0 : decode cX0_stepsToPit 0 = .ok (.iload_n 1, 1) := by decide +kernel
theorem dX0_stepsToPit_1 : decode cX0_stepsToPit 1 = .ok (.istore_n 2, 1) := by decide +kernel
theorem dX0_stepsToPit_2 : decode cX0_stepsToPit 2 = .ok (.iconst 0, 1) := by decide +kernel
theorem dX0_stepsToPit_3 : decode cX0_stepsToPit 3 = .ok (.istore_n 3, 1) := by decide +kernel
theorem dX0_stepsToPit_4 : decode cX0_stepsToPit 4 = .ok (.iconst 0, 1) := by decide +kernel
theorem dX0_stepsToPit_5 : decode cX0_stepsToPit 5 = .ok (.istore 4, 2) := by decide +kernel
theorem dX0_stepsToPit_7 : decode cX0_stepsToPit 7 = .ok (.iload 4, 2) := by decide +kernel
theorem dX0_stepsToPit_9 : decode cX0_stepsToPit 9 = .ok (.bipush 81, 2) := by decide +kernel
theorem dX0_stepsToPit_11 : decode cX0_stepsToPit 11 = .ok (.if_icmp .ge 26, 3) := by decide +kernel
theorem dX0_stepsToPit_14 : decode cX0_stepsToPit 14 = .ok (.aload_n 0, 1) := by decide +kernel
theorem dX0_stepsToPit_15 : decode cX0_stepsToPit 15 = .ok (.iload_n 2, 1) := by decide +kernel
theorem dX0_stepsToPit_16 : decode cX0_stepsToPit 16 = .ok (.invokevirtual 66, 3) := by decide +kernel
theorem dX0_stepsToPit_19 : decode cX0_stepsToPit 19 = .ok (.istore_n 2, 1) := by decide +kernel
theorem dX0_stepsToPit_20 : decode cX0_stepsToPit 20 = .ok (.iload_n 2, 1) := by decide +kernel
theorem dX0_stepsToPit_21 : decode cX0_stepsToPit 21 = .ok (.iconst (-1), 1) := by decide +kernel
theorem dX0_stepsToPit_22 : decode cX0_stepsToPit 22 = .ok (.if_icmp .ne 6, 3) := by decide +kernel
theorem dX0_stepsToPit_25 : decode cX0_stepsToPit 25 = .ok (.goto 12, 3) := by decide +kernel
theorem dX0_stepsToPit_28 : decode cX0_stepsToPit 28 = .ok (.iinc 3 1, 3) := by decide +kernel
theorem dX0_stepsToPit_31 : decode cX0_stepsToPit 31 = .ok (.iinc 4 1, 3) := by decide +kernel
theorem dX0_stepsToPit_34 : decode cX0_stepsToPit 34 = .ok (.goto (-27), 3) := by decide +kernel
theorem dX0_stepsToPit_37 : decode cX0_stepsToPit 37 = .ok (.iload_n 3, 1) := by decide +kernel
theorem dX0_stepsToPit_38 : decode cX0_stepsToPit 38 = .ok (.ireturn, 1) := by decide +kernel
theorem dX0_cellsFlowingTo_0 : decode cX0_cellsFlowingTo 0 = .ok (.iconst 0, 1) := by decide +kernel
theorem dX0_cellsFlowingTo_1 : decode cX0_cellsFlowingTo 1 = .ok (.istore_n 2, 1) := by decide +kernel
theorem dX0_cellsFlowingTo_2 : decode cX0_cellsFlowingTo 2 = .ok (.iconst 0, 1) := by decide +kernel
theorem dX0_cellsFlowingTo_3 : decode cX0_cellsFlowingTo 3 = .ok (.istore_n 3, 1) := by decide +kernel
theorem dX0_cellsFlowingTo_4 : decode cX0_cellsFlowingTo 4 = .ok (.iload_n 3, 1) := by decide +kernel
theorem dX0_cellsFlowingTo_5 : decode cX0_cellsFlowingTo 5 = .ok (.bipush 81, 2) := by decide +kernel
theorem dX0_cellsFlowingTo_7 : decode cX0_cellsFlowingTo 7 = .ok (.if_icmp .ge 29, 3) := by decide +kernel
theorem dX0_cellsFlowingTo_10 : decode cX0_cellsFlowingTo 10 = .ok (.aload_n 0, 1) := by decide +kernel
theorem dX0_cellsFlowingTo_11 : decode cX0_cellsFlowingTo 11 = .ok (.iload_n 3, 1) := by decide +kernel
theorem dX0_cellsFlowingTo_12 : decode cX0_cellsFlowingTo 12 = .ok (.invokevirtual 69, 3) := by decide +kernel
theorem dX0_cellsFlowingTo_15 : decode cX0_cellsFlowingTo 15 = .ok (.ifCond .eq 15, 3) := by decide +kernel
theorem dX0_cellsFlowingTo_18 : decode cX0_cellsFlowingTo 18 = .ok (.aload_n 0, 1) := by decide +kernel
theorem dX0_cellsFlowingTo_19 : decode cX0_cellsFlowingTo 19 = .ok (.iload_n 3, 1) := by decide +kernel
theorem dX0_cellsFlowingTo_20 : decode cX0_cellsFlowingTo 20 = .ok (.invokevirtual 73, 3) := by decide +kernel
theorem dX0_cellsFlowingTo_23 : decode cX0_cellsFlowingTo 23 = .ok (.iload_n 1, 1) := by decide +kernel
theorem dX0_cellsFlowingTo_24 : decode cX0_cellsFlowingTo 24 = .ok (.if_icmp .ne 6, 3) := by decide +kernel
theorem dX0_cellsFlowingTo_27 : decode cX0_cellsFlowingTo 27 = .ok (.iinc 2 1, 3) := by decide +kernel
theorem dX0_cellsFlowingTo_30 : decode cX0_cellsFlowingTo 30 = .ok (.iinc 3 1, 3) := by decide +kernel
theorem dX0_cellsFlowingTo_33 : decode cX0_cellsFlowingTo 33 = .ok (.goto (-29), 3) := by decide +kernel
theorem dX0_cellsFlowingTo_36 : decode cX0_cellsFlowingTo 36 = .ok (.iload_n 2, 1) := by decide +kernel
theorem dX0_cellsFlowingTo_37 : decode cX0_cellsFlowingTo 37 = .ok (.ireturn, 1) := by decide +kernel
theorem dX0_quarter_0 : decode cX0_quarter 0 = .ok (.iload_n 1, 1) := by decide +kernel
theorem dX0_quarter_1 : decode cX0_quarter 1 = .ok (.bipush 9, 2) := by decide +kernel
theorem dX0_quarter_3 : decode cX0_quarter 3 = .ok (.irem, 1) := by decide +kernel
theorem dX0_quarter_4 : decode cX0_quarter 4 = .ok (.aload_n 0, 1) := by decide +kernel
theorem dX0_quarter_5 : decode cX0_quarter 5 = .ok (.getfield 15, 3) := by decide +kernel
theorem dX0_quarter_8 : decode cX0_quarter 8 = .ok (.iconst 2, 1) := by decide +kernel
theorem dX0_quarter_9 : decode cX0_quarter 9 = .ok (.idiv, 1) := by decide +kernel
theorem dX0_quarter_10 : decode cX0_quarter 10 = .ok (.if_icmp .ge 7, 3) := by decide +kernel
theorem dX0_quarter_13 : decode cX0_quarter 13 = .ok (.iconst 0, 1) := by decide +kernel
theorem dX0_quarter_14 : decode cX0_quarter 14 = .ok (.goto 4, 3) := by decide +kernel
theorem dX0_quarter_17 : decode cX0_quarter 17 = .ok (.iconst 1, 1) := by decide +kernel
theorem dX0_quarter_18 : decode cX0_quarter 18 = .ok (.istore_n 2, 1) := by decide +kernel
theorem dX0_quarter_19 : decode cX0_quarter 19 = .ok (.iload_n 1, 1) := by decide +kernel
theorem dX0_quarter_20 : decode cX0_quarter 20 = .ok (.bipush 9, 2) := by decide +kernel
theorem dX0_quarter_22 : decode cX0_quarter 22 = .ok (.idiv, 1) := by decide +kernel
theorem dX0_quarter_23 : decode cX0_quarter 23 = .ok (.aload_n 0, 1) := by decide +kernel
theorem dX0_quarter_24 : decode cX0_quarter 24 = .ok (.getfield 19, 3) := by decide +kernel
theorem dX0_quarter_27 : decode cX0_quarter 27 = .ok (.iconst 2, 1) := by decide +kernel
theorem dX0_quarter_28 : decode cX0_quarter 28 = .ok (.idiv, 1) := by decide +kernel
theorem dX0_quarter_29 : decode cX0_quarter 29 = .ok (.if_icmp .ge 7, 3) := by decide +kernel
theorem dX0_quarter_32 : decode cX0_quarter 32 = .ok (.iconst 0, 1) := by decide +kernel
theorem dX0_quarter_33 : decode cX0_quarter 33 = .ok (.goto 4, 3) := by decide +kernel
theorem dX0_quarter_36 : decode cX0_quarter 36 = .ok (.iconst 2, 1) := by decide +kernel
theorem dX0_quarter_37 : decode cX0_quarter 37 = .ok (.istore_n 3, 1) := by decide +kernel
theorem dX0_quarter_38 : decode cX0_quarter 38 = .ok (.iload_n 3, 1) := by decide +kernel
theorem dX0_quarter_39 : decode cX0_quarter 39 = .ok (.iload_n 2, 1) := by decide +kernel
theorem dX0_quarter_40 : decode cX0_quarter 40 = .ok (.iadd, 1) := by decide +kernel
theorem dX0_quarter_41 : decode cX0_quarter 41 = .ok (.ireturn, 1) := by decide +kernel
theorem dX0_toneBy_0 : decode cX0_toneBy 0 = .ok (.getstatic 32, 3) := by decide +kernel
theorem dX0_toneBy_3 : decode cX0_toneBy 3 = .ok (.iload_n 2, 1) := by decide +kernel
theorem dX0_toneBy_4 : decode cX0_toneBy 4 = .ok (.bipush 7, 2) := by decide +kernel
theorem dX0_toneBy_6 : decode cX0_toneBy 6 = .ok (.iand, 1) := by decide +kernel
theorem dX0_toneBy_7 : decode cX0_toneBy 7 = .ok (.iaload, 1) := by decide +kernel
theorem dX0_toneBy_8 : decode cX0_toneBy 8 = .ok (.aload_n 0, 1) := by decide +kernel
theorem dX0_toneBy_9 : decode cX0_toneBy 9 = .ok (.iload_n 1, 1) := by decide +kernel
theorem dX0_toneBy_10 : decode cX0_toneBy 10 = .ok (.invokevirtual 49, 3) := by decide +kernel
theorem dX0_toneBy_13 : decode cX0_toneBy 13 = .ok (.imul, 1) := by decide +kernel
theorem dX0_toneBy_14 : decode cX0_toneBy 14 = .ok (.getstatic 35, 3) := by decide +kernel
theorem dX0_toneBy_17 : decode cX0_toneBy 17 = .ok (.iload_n 2, 1) := by decide +kernel
theorem dX0_toneBy_18 : decode cX0_toneBy 18 = .ok (.bipush 7, 2) := by decide +kernel
theorem dX0_toneBy_20 : decode cX0_toneBy 20 = .ok (.iand, 1) := by decide +kernel
theorem dX0_toneBy_21 : decode cX0_toneBy 21 = .ok (.iaload, 1) := by decide +kernel
theorem dX0_toneBy_22 : decode cX0_toneBy 22 = .ok (.aload_n 0, 1) := by decide +kernel
theorem dX0_toneBy_23 : decode cX0_toneBy 23 = .ok (.iload_n 1, 1) := by decide +kernel
theorem dX0_toneBy_24 : decode cX0_toneBy 24 = .ok (.invokevirtual 57, 3) := by decide +kernel
theorem dX0_toneBy_27 : decode cX0_toneBy 27 = .ok (.imul, 1) := by decide +kernel
theorem dX0_toneBy_28 : decode cX0_toneBy 28 = .ok (.iadd, 1) := by decide +kernel
theorem dX0_toneBy_29 : decode cX0_toneBy 29 = .ok (.ineg, 1) := by decide +kernel
theorem dX0_toneBy_30 : decode cX0_toneBy 30 = .ok (.istore_n 3, 1) := by decide +kernel
theorem dX0_toneBy_31 : decode cX0_toneBy 31 = .ok (.aload_n 0, 1) := by decide +kernel
theorem dX0_toneBy_32 : decode cX0_toneBy 32 = .ok (.iload_n 1, 1) := by decide +kernel
theorem dX0_toneBy_33 : decode cX0_toneBy 33 = .ok (.invokevirtual 76, 3) := by decide +kernel
theorem dX0_toneBy_36 : decode cX0_toneBy 36 = .ok (.ifCond .eq 9, 3) := by decide +kernel
theorem dX0_toneBy_39 : decode cX0_toneBy 39 = .ok (.iload_n 3, 1) := by decide +kernel
theorem dX0_toneBy_40 : decode cX0_toneBy 40 = .ok (.iconst 4, 1) := by decide +kernel
theorem dX0_toneBy_41 : decode cX0_toneBy 41 = .ok (.invokestatic 79, 3) := by decide +kernel
theorem dX0_toneBy_44 : decode cX0_toneBy 44 = .ok (.istore_n 3, 1) := by decide +kernel
theorem dX0_toneBy_45 : decode cX0_toneBy 45 = .ok (.aload_n 0, 1) := by decide +kernel
theorem dX0_toneBy_46 : decode cX0_toneBy 46 = .ok (.iload_n 1, 1) := by decide +kernel
theorem dX0_toneBy_47 : decode cX0_toneBy 47 = .ok (.invokevirtual 82, 3) := by decide +kernel
theorem dX0_toneBy_50 : decode cX0_toneBy 50 = .ok (.ifCond .eq 10, 3) := by decide +kernel
theorem dX0_toneBy_53 : decode cX0_toneBy 53 = .ok (.iload_n 3, 1) := by decide +kernel
theorem dX0_toneBy_54 : decode cX0_toneBy 54 = .ok (.bipush (-4), 2) := by decide +kernel
theorem dX0_toneBy_56 : decode cX0_toneBy 56 = .ok (.invokestatic 85, 3) := by decide +kernel
theorem dX0_toneBy_59 : decode cX0_toneBy 59 = .ok (.istore_n 3, 1) := by decide +kernel
theorem dX0_toneBy_60 : decode cX0_toneBy 60 = .ok (.iload_n 3, 1) := by decide +kernel
theorem dX0_toneBy_61 : decode cX0_toneBy 61 = .ok (.ireturn, 1) := by decide +kernel
theorem dX0_contrastOf_0 : decode cX0_contrastOf 0 = .ok (.bipush 18, 2) := by decide +kernel
theorem dX0_contrastOf_2 : decode cX0_contrastOf 2 = .ok (.istore_n 3, 1) := by decide +kernel
theorem dX0_contrastOf_3 : decode cX0_contrastOf 3 = .ok (.bipush (-18), 2) := by decide +kernel
theorem dX0_contrastOf_5 : decode cX0_contrastOf 5 = .ok (.istore 4, 2) := by decide +kernel
theorem dX0_contrastOf_7 : decode cX0_contrastOf 7 = .ok (.iconst 0, 1) := by decide +kernel
theorem dX0_contrastOf_8 : decode cX0_contrastOf 8 = .ok (.istore 5, 2) := by decide +kernel
theorem dX0_contrastOf_10 : decode cX0_contrastOf 10 = .ok (.iload 5, 2) := by decide +kernel
theorem dX0_contrastOf_12 : decode cX0_contrastOf 12 = .ok (.bipush 81, 2) := by decide +kernel
theorem dX0_contrastOf_14 : decode cX0_contrastOf 14 = .ok (.if_icmp .ge 53, 3) := by decide +kernel
theorem dX0_contrastOf_17 : decode cX0_contrastOf 17 = .ok (.aload_n 0, 1) := by decide +kernel
theorem dX0_contrastOf_18 : decode cX0_contrastOf 18 = .ok (.iload 5, 2) := by decide +kernel
theorem dX0_contrastOf_20 : decode cX0_contrastOf 20 = .ok (.invokevirtual 69, 3) := by decide +kernel
theorem dX0_contrastOf_23 : decode cX0_contrastOf 23 = .ok (.ifCond .eq 38, 3) := by decide +kernel
theorem dX0_contrastOf_26 : decode cX0_contrastOf 26 = .ok (.aload_n 0, 1) := by decide +kernel
theorem dX0_contrastOf_27 : decode cX0_contrastOf 27 = .ok (.iload 5, 2) := by decide +kernel
theorem dX0_contrastOf_29 : decode cX0_contrastOf 29 = .ok (.invokevirtual 88, 3) := by decide +kernel
theorem dX0_contrastOf_32 : decode cX0_contrastOf 32 = .ok (.iload_n 1, 1) := by decide +kernel
theorem dX0_contrastOf_33 : decode cX0_contrastOf 33 = .ok (.if_icmp .ne 28, 3) := by decide +kernel
theorem dX0_contrastOf_36 : decode cX0_contrastOf 36 = .ok (.aload_n 0, 1) := by decide +kernel
theorem dX0_contrastOf_37 : decode cX0_contrastOf 37 = .ok (.iload 5, 2) := by decide +kernel
theorem dX0_contrastOf_39 : decode cX0_contrastOf 39 = .ok (.iload_n 2, 1) := by decide +kernel
theorem dX0_contrastOf_40 : decode cX0_contrastOf 40 = .ok (.invokevirtual 91, 3) := by decide +kernel
theorem dX0_contrastOf_43 : decode cX0_contrastOf 43 = .ok (.istore 6, 2) := by decide +kernel
theorem dX0_contrastOf_45 : decode cX0_contrastOf 45 = .ok (.iload_n 3, 1) := by decide +kernel
theorem dX0_contrastOf_46 : decode cX0_contrastOf 46 = .ok (.iload 6, 2) := by decide +kernel
theorem dX0_contrastOf_48 : decode cX0_contrastOf 48 = .ok (.invokestatic 85, 3) := by decide +kernel
theorem dX0_contrastOf_51 : decode cX0_contrastOf 51 = .ok (.istore_n 3, 1) := by decide +kernel
theorem dX0_contrastOf_52 : decode cX0_contrastOf 52 = .ok (.iload 4, 2) := by decide +kernel
theorem dX0_contrastOf_54 : decode cX0_contrastOf 54 = .ok (.iload 6, 2) := by decide +kernel
theorem dX0_contrastOf_56 : decode cX0_contrastOf 56 = .ok (.invokestatic 79, 3) := by decide +kernel
theorem dX0_contrastOf_59 : decode cX0_contrastOf 59 = .ok (.istore 4, 2) := by decide +kernel
theorem dX0_contrastOf_61 : decode cX0_contrastOf 61 = .ok (.iinc 5 1, 3) := by decide +kernel
theorem dX0_contrastOf_64 : decode cX0_contrastOf 64 = .ok (.goto (-54), 3) := by decide +kernel
theorem dX0_contrastOf_67 : decode cX0_contrastOf 67 = .ok (.iload 4, 2) := by decide +kernel
theorem dX0_contrastOf_69 : decode cX0_contrastOf 69 = .ok (.iload_n 3, 1) := by decide +kernel
theorem dX0_contrastOf_70 : decode cX0_contrastOf 70 = .ok (.isub, 1) := by decide +kernel
theorem dX0_contrastOf_71 : decode cX0_contrastOf 71 = .ok (.ireturn, 1) := by decide +kernel
theorem dX0_cellsOfKind_0 : decode cX0_cellsOfKind 0 = .ok (.iconst 0, 1) := by decide +kernel
theorem dX0_cellsOfKind_1 : decode cX0_cellsOfKind 1 = .ok (.istore_n 2, 1) := by decide +kernel
theorem dX0_cellsOfKind_2 : decode cX0_cellsOfKind 2 = .ok (.iconst 0, 1) := by decide +kernel
theorem dX0_cellsOfKind_3 : decode cX0_cellsOfKind 3 = .ok (.istore_n 3, 1) := by decide +kernel
theorem dX0_cellsOfKind_4 : decode cX0_cellsOfKind 4 = .ok (.iload_n 3, 1) := by decide +kernel
theorem dX0_cellsOfKind_5 : decode cX0_cellsOfKind 5 = .ok (.bipush 81, 2) := by decide +kernel
theorem dX0_cellsOfKind_7 : decode cX0_cellsOfKind 7 = .ok (.if_icmp .ge 29, 3) := by decide +kernel
theorem dX0_cellsOfKind_10 : decode cX0_cellsOfKind 10 = .ok (.aload_n 0, 1) := by decide +kernel
theorem dX0_cellsOfKind_11 : decode cX0_cellsOfKind 11 = .ok (.iload_n 3, 1) := by decide +kernel
theorem dX0_cellsOfKind_12 : decode cX0_cellsOfKind 12 = .ok (.invokevirtual 69, 3) := by decide +kernel
theorem dX0_cellsOfKind_15 : decode cX0_cellsOfKind 15 = .ok (.ifCond .eq 15, 3) := by decide +kernel
theorem dX0_cellsOfKind_18 : decode cX0_cellsOfKind 18 = .ok (.aload_n 0, 1) := by decide +kernel
theorem dX0_cellsOfKind_19 : decode cX0_cellsOfKind 19 = .ok (.iload_n 3, 1) := by decide +kernel
theorem dX0_cellsOfKind_20 : decode cX0_cellsOfKind 20 = .ok (.iload_n 1, 1) := by decide +kernel
theorem dX0_cellsOfKind_21 : decode cX0_cellsOfKind 21 = .ok (.invokevirtual 94, 3) := by decide +kernel
theorem dX0_cellsOfKind_24 : decode cX0_cellsOfKind 24 = .ok (.ifCond .eq 6, 3) := by decide +kernel
theorem dX0_cellsOfKind_27 : decode cX0_cellsOfKind 27 = .ok (.iinc 2 1, 3) := by decide +kernel
theorem dX0_cellsOfKind_30 : decode cX0_cellsOfKind 30 = .ok (.iinc 3 1, 3) := by decide +kernel
theorem dX0_cellsOfKind_33 : decode cX0_cellsOfKind 33 = .ok (.goto (-29), 3) := by decide +kernel
theorem dX0_cellsOfKind_36 : decode cX0_cellsOfKind 36 = .ok (.iload_n 2, 1) := by decide +kernel
theorem dX0_cellsOfKind_37 : decode cX0_cellsOfKind 37 = .ok (.ireturn, 1) := by decide +kernel
theorem dX0_isOfKind_0 : decode cX0_isOfKind 0 = .ok (.iload_n 2, 1) := by decide +kernel
theorem dX0_isOfKind_1 : decode cX0_isOfKind 1 = .ok (.lookupswitch 39 #[(0, 27), (1, 33)], 27) := by decide +kernel
theorem dX0_isOfKind_28 : decode cX0_isOfKind 28 = .ok (.aload_n 0, 1) := by decide +kernel
theorem dX0_isOfKind_29 : decode cX0_isOfKind 29 = .ok (.iload_n 1, 1) := by decide +kernel
theorem dX0_isOfKind_30 : decode cX0_isOfKind 30 = .ok (.invokevirtual 76, 3) := by decide +kernel
theorem dX0_isOfKind_33 : decode cX0_isOfKind 33 = .ok (.ireturn, 1) := by decide +kernel
theorem dX0_isOfKind_34 : decode cX0_isOfKind 34 = .ok (.aload_n 0, 1) := by decide +kernel
theorem dX0_isOfKind_35 : decode cX0_isOfKind 35 = .ok (.iload_n 1, 1) := by decide +kernel
theorem dX0_isOfKind_36 : decode cX0_isOfKind 36 = .ok (.invokevirtual 82, 3) := by decide +kernel
theorem dX0_isOfKind_39 : decode cX0_isOfKind 39 = .ok (.ireturn, 1) := by decide +kernel
theorem dX0_isOfKind_40 : decode cX0_isOfKind 40 = .ok (.aload_n 0, 1) := by decide +kernel
theorem dX0_isOfKind_41 : decode cX0_isOfKind 41 = .ok (.iload_n 1, 1) := by decide +kernel
theorem dX0_isOfKind_42 : decode cX0_isOfKind 42 = .ok (.invokevirtual 60, 3) := by decide +kernel
theorem dX0_isOfKind_45 : decode cX0_isOfKind 45 = .ok (.iconst (-1), 1) := by decide +kernel
theorem dX0_isOfKind_46 : decode cX0_isOfKind 46 = .ok (.if_icmp .ne 7, 3) := by decide +kernel
theorem dX0_isOfKind_49 : decode cX0_isOfKind 49 = .ok (.iconst 1, 1) := by decide +kernel
theorem dX0_isOfKind_50 : decode cX0_isOfKind 50 = .ok (.goto 4, 3) := by decide +kernel
theorem dX0_isOfKind_53 : decode cX0_isOfKind 53 = .ok (.iconst 0, 1) := by decide +kernel
theorem dX0_isOfKind_54 : decode cX0_isOfKind 54 = .ok (.ireturn, 1) := by decide +kernel
theorem dX0_heightsTogether_0 : decode cX0_heightsTogether 0 = .ok (.iconst 0, 1) := by decide +kernel
theorem dX0_heightsTogether_1 : decode cX0_heightsTogether 1 = .ok (.istore_n 1, 1) := by decide +kernel
theorem dX0_heightsTogether_2 : decode cX0_heightsTogether 2 = .ok (.iconst 0, 1) := by decide +kernel
theorem dX0_heightsTogether_3 : decode cX0_heightsTogether 3 = .ok (.istore_n 2, 1) := by decide +kernel
theorem dX0_heightsTogether_4 : decode cX0_heightsTogether 4 = .ok (.iload_n 2, 1) := by decide +kernel
theorem dX0_heightsTogether_5 : decode cX0_heightsTogether 5 = .ok (.bipush 81, 2) := by decide +kernel
theorem dX0_heightsTogether_7 : decode cX0_heightsTogether 7 = .ok (.if_icmp .ge 26, 3) := by decide +kernel
theorem dX0_heightsTogether_10 : decode cX0_heightsTogether 10 = .ok (.aload_n 0, 1) := by decide +kernel
theorem dX0_heightsTogether_11 : decode cX0_heightsTogether 11 = .ok (.iload_n 2, 1) := by decide +kernel
theorem dX0_heightsTogether_12 : decode cX0_heightsTogether 12 = .ok (.invokevirtual 69, 3) := by decide +kernel
theorem dX0_heightsTogether_15 : decode cX0_heightsTogether 15 = .ok (.ifCond .eq 12, 3) := by decide +kernel
theorem dX0_heightsTogether_18 : decode cX0_heightsTogether 18 = .ok (.iload_n 1, 1) := by decide +kernel
theorem dX0_heightsTogether_19 : decode cX0_heightsTogether 19 = .ok (.aload_n 0, 1) := by decide +kernel
theorem dX0_heightsTogether_20 : decode cX0_heightsTogether 20 = .ok (.getfield 9, 3) := by decide +kernel
theorem dX0_heightsTogether_23 : decode cX0_heightsTogether 23 = .ok (.iload_n 2, 1) := by decide +kernel
theorem dX0_heightsTogether_24 : decode cX0_heightsTogether 24 = .ok (.iaload, 1) := by decide +kernel
theorem dX0_heightsTogether_25 : decode cX0_heightsTogether 25 = .ok (.iadd, 1) := by decide +kernel
theorem dX0_heightsTogether_26 : decode cX0_heightsTogether 26 = .ok (.istore_n 1, 1) := by decide +kernel
theorem dX0_heightsTogether_27 : decode cX0_heightsTogether 27 = .ok (.iinc 2 1, 3) := by decide +kernel
theorem dX0_heightsTogether_30 : decode cX0_heightsTogether 30 = .ok (.goto (-26), 3) := by decide +kernel
theorem dX0_heightsTogether_33 : decode cX0_heightsTogether 33 = .ok (.iload_n 1, 1) := by decide +kernel
theorem dX0_heightsTogether_34 : decode cX0_heightsTogether 34 = .ok (.ireturn, 1) := by decide +kernel
theorem dX1_init_0 : decode cX1_init 0 = .ok (.aload_n 0, 1) := by decide +kernel
theorem dX1_init_1 : decode cX1_init 1 = .ok (.invokespecial 3, 3) := by decide +kernel
theorem dX1_init_4 : decode cX1_init 4 = .ok (.aload_n 0, 1) := by decide +kernel
theorem dX1_init_5 : decode cX1_init 5 = .ok (.iconst 4, 1) := by decide +kernel
theorem dX1_init_6 : decode cX1_init 6 = .ok (.newarray .int, 2) := by decide +kernel
theorem dX1_init_8 : decode cX1_init 8 = .ok (.putfield 9, 3) := by decide +kernel
theorem dX1_init_11 : decode cX1_init 11 = .ok (.aload_n 0, 1) := by decide +kernel
theorem dX1_init_12 : decode cX1_init 12 = .ok (.bipush 32, 2) := by decide +kernel
theorem dX1_init_14 : decode cX1_init 14 = .ok (.newarray .int, 2) := by decide +kernel
theorem dX1_init_16 : decode cX1_init 16 = .ok (.putfield 15, 3) := by decide +kernel
theorem dX1_init_19 : decode cX1_init 19 = .ok (.return_, 1) := by decide +kernel
theorem dX1_seekBest_0 : decode cX1_seekBest 0 = .ok (.iconst 0, 1) := by decide +kernel
theorem dX1_seekBest_1 : decode cX1_seekBest 1 = .ok (.istore_n 2, 1) := by decide +kernel
theorem dX1_seekBest_2 : decode cX1_seekBest 2 = .ok (.iload_n 2, 1) := by decide +kernel
theorem dX1_seekBest_3 : decode cX1_seekBest 3 = .ok (.iconst 4, 1) := by decide +kernel
theorem dX1_seekBest_4 : decode cX1_seekBest 4 = .ok (.if_icmp .ge 40, 3) := by decide +kernel
theorem dX1_seekBest_7 : decode cX1_seekBest 7 = .ok (.iconst 0, 1) := by decide +kernel
theorem dX1_seekBest_8 : decode cX1_seekBest 8 = .ok (.istore_n 3, 1) := by decide +kernel
theorem dX1_seekBest_9 : decode cX1_seekBest 9 = .ok (.iload_n 3, 1) := by decide +kernel
theorem dX1_seekBest_10 : decode cX1_seekBest 10 = .ok (.bipush 8, 2) := by decide +kernel
theorem dX1_seekBest_12 : decode cX1_seekBest 12 = .ok (.if_icmp .ge 26, 3) := by decide +kernel
theorem dX1_seekBest_15 : decode cX1_seekBest 15 = .ok (.aload_n 0, 1) := by decide +kernel
theorem dX1_seekBest_16 : decode cX1_seekBest 16 = .ok (.getfield 15, 3) := by decide +kernel
theorem dX1_seekBest_19 : decode cX1_seekBest 19 = .ok (.iload_n 2, 1) := by decide +kernel
theorem dX1_seekBest_20 : decode cX1_seekBest 20 = .ok (.bipush 8, 2) := by decide +kernel
theorem dX1_seekBest_22 : decode cX1_seekBest 22 = .ok (.imul, 1) := by decide +kernel
theorem dX1_seekBest_23 : decode cX1_seekBest 23 = .ok (.iload_n 3, 1) := by decide +kernel
theorem dX1_seekBest_24 : decode cX1_seekBest 24 = .ok (.iadd, 1) := by decide +kernel
theorem dX1_seekBest_25 : decode cX1_seekBest 25 = .ok (.aload_n 1, 1) := by decide +kernel
theorem dX1_seekBest_26 : decode cX1_seekBest 26 = .ok (.iload_n 2, 1) := by decide +kernel
theorem dX1_seekBest_27 : decode cX1_seekBest 27 = .ok (.iload_n 3, 1) := by decide +kernel
theorem dX1_seekBest_28 : decode cX1_seekBest 28 = .ok (.invokevirtual 18, 3) := by decide +kernel
theorem dX1_seekBest_31 : decode cX1_seekBest 31 = .ok (.iastore, 1) := by decide +kernel
theorem dX1_seekBest_32 : decode cX1_seekBest 32 = .ok (.iinc 3 1, 3) := by decide +kernel
theorem dX1_seekBest_35 : decode cX1_seekBest 35 = .ok (.goto (-26), 3) := by decide +kernel
theorem dX1_seekBest_38 : decode cX1_seekBest 38 = .ok (.iinc 2 1, 3) := by decide +kernel
theorem dX1_seekBest_41 : decode cX1_seekBest 41 = .ok (.goto (-39), 3) := by decide +kernel
theorem dX1_seekBest_44 : decode cX1_seekBest 44 = .ok (.aload_n 0, 1) := by decide +kernel
theorem dX1_seekBest_45 : decode cX1_seekBest 45 = .ok (.iconst (-1), 1) := by decide +kernel
theorem dX1_seekBest_46 : decode cX1_seekBest 46 = .ok (.putfield 24, 3) := by decide +kernel
theorem dX1_seekBest_49 : decode cX1_seekBest 49 = .ok (.iconst 0, 1) := by decide +kernel
theorem dX1_seekBest_50 : decode cX1_seekBest 50 = .ok (.istore_n 2, 1) := by decide +kernel
theorem dX1_seekBest_51 : decode cX1_seekBest 51 = .ok (.iload_n 2, 1) := by decide +kernel
theorem dX1_seekBest_52 : decode cX1_seekBest 52 = .ok (.bipush 8, 2) := by decide +kernel
theorem dX1_seekBest_54 : decode cX1_seekBest 54 = .ok (.if_icmp .ge 37, 3) := by decide +kernel
theorem dX1_seekBest_57 : decode cX1_seekBest 57 = .ok (.iconst 0, 1) := by decide +kernel
theorem dX1_seekBest_58 : decode cX1_seekBest 58 = .ok (.istore_n 3, 1) := by decide +kernel
theorem dX1_seekBest_59 : decode cX1_seekBest 59 = .ok (.iload_n 3, 1) := by decide +kernel
theorem dX1_seekBest_60 : decode cX1_seekBest 60 = .ok (.bipush 8, 2) := by decide +kernel
theorem dX1_seekBest_62 : decode cX1_seekBest 62 = .ok (.if_icmp .ge 23, 3) := by decide +kernel
theorem dX1_seekBest_65 : decode cX1_seekBest 65 = .ok (.iload_n 2, 1) := by decide +kernel
theorem dX1_seekBest_66 : decode cX1_seekBest 66 = .ok (.iload_n 3, 1) := by decide +kernel
theorem dX1_seekBest_67 : decode cX1_seekBest 67 = .ok (.invokestatic 28, 3) := by decide +kernel
theorem dX1_seekBest_70 : decode cX1_seekBest 70 = .ok (.ifCond .eq 9, 3) := by decide +kernel
theorem dX1_seekBest_73 : decode cX1_seekBest 73 = .ok (.aload_n 0, 1) := by decide +kernel
theorem dX1_seekBest_74 : decode cX1_seekBest 74 = .ok (.iload_n 2, 1) := by decide +kernel
theorem dX1_seekBest_75 : decode cX1_seekBest 75 = .ok (.iload_n 3, 1) := by decide +kernel
theorem dX1_seekBest_76 : decode cX1_seekBest 76 = .ok (.invokevirtual 32, 3) := by decide +kernel
theorem dX1_seekBest_79 : decode cX1_seekBest 79 = .ok (.iinc 3 1, 3) := by decide +kernel
theorem dX1_seekBest_82 : decode cX1_seekBest 82 = .ok (.goto (-23), 3) := by decide +kernel
theorem dX1_seekBest_85 : decode cX1_seekBest 85 = .ok (.iinc 2 1, 3) := by decide +kernel
theorem dX1_seekBest_88 : decode cX1_seekBest 88 = .ok (.goto (-37), 3) := by decide +kernel
theorem dX1_seekBest_91 : decode cX1_seekBest 91 = .ok (.return_, 1) := by decide +kernel
theorem dX1_seekLower_0 : decode cX1_seekLower 0 = .ok (.iconst 0, 1) := by decide +kernel
theorem dX1_seekLower_1 : decode cX1_seekLower 1 = .ok (.istore_n 3, 1) := by decide +kernel
theorem dX1_seekLower_2 : decode cX1_seekLower 2 = .ok (.iload_n 3, 1) := by decide +kernel
theorem dX1_seekLower_3 : decode cX1_seekLower 3 = .ok (.bipush 8, 2) := by decide +kernel
theorem dX1_seekLower_5 : decode cX1_seekLower 5 = .ok (.if_icmp .ge 60, 3) := by decide +kernel
theorem dX1_seekLower_8 : decode cX1_seekLower 8 = .ok (.iconst 0, 1) := by decide +kernel
theorem dX1_seekLower_9 : decode cX1_seekLower 9 = .ok (.istore 4, 2) := by decide +kernel
theorem dX1_seekLower_11 : decode cX1_seekLower 11 = .ok (.iload 4, 2) := by decide +kernel
theorem dX1_seekLower_13 : decode cX1_seekLower 13 = .ok (.bipush 8, 2) := by decide +kernel
theorem dX1_seekLower_15 : decode cX1_seekLower 15 = .ok (.if_icmp .ge 44, 3) := by decide +kernel
theorem dX1_seekLower_18 : decode cX1_seekLower 18 = .ok (.iload_n 1, 1) := by decide +kernel
theorem dX1_seekLower_19 : decode cX1_seekLower 19 = .ok (.iload_n 3, 1) := by decide +kernel
theorem dX1_seekLower_20 : decode cX1_seekLower 20 = .ok (.invokestatic 28, 3) := by decide +kernel
theorem dX1_seekLower_23 : decode cX1_seekLower 23 = .ok (.ifCond .eq 30, 3) := by decide +kernel
theorem dX1_seekLower_26 : decode cX1_seekLower 26 = .ok (.iload_n 2, 1) := by decide +kernel
theorem dX1_seekLower_27 : decode cX1_seekLower 27 = .ok (.iload 4, 2) := by decide +kernel
theorem dX1_seekLower_29 : decode cX1_seekLower 29 = .ok (.invokestatic 28, 3) := by decide +kernel
theorem dX1_seekLower_32 : decode cX1_seekLower 32 = .ok (.ifCond .eq 21, 3) := by decide +kernel
theorem dX1_seekLower_35 : decode cX1_seekLower 35 = .ok (.iload_n 3, 1) := by decide +kernel
theorem dX1_seekLower_36 : decode cX1_seekLower 36 = .ok (.iload 4, 2) := by decide +kernel
theorem dX1_seekLower_38 : decode cX1_seekLower 38 = .ok (.invokestatic 28, 3) := by decide +kernel
theorem dX1_seekLower_41 : decode cX1_seekLower 41 = .ok (.ifCond .eq 12, 3) := by decide +kernel
theorem dX1_seekLower_44 : decode cX1_seekLower 44 = .ok (.aload_n 0, 1) := by decide +kernel
theorem dX1_seekLower_45 : decode cX1_seekLower 45 = .ok (.iload_n 1, 1) := by decide +kernel
theorem dX1_seekLower_46 : decode cX1_seekLower 46 = .ok (.iload_n 2, 1) := by decide +kernel
theorem dX1_seekLower_47 : decode cX1_seekLower 47 = .ok (.iload_n 3, 1) := by decide +kernel
theorem dX1_seekLower_48 : decode cX1_seekLower 48 = .ok (.iload 4, 2) := by decide +kernel
theorem dX1_seekLower_50 : decode cX1_seekLower 50 = .ok (.invokevirtual 36, 3) := by decide +kernel
theorem dX1_seekLower_53 : decode cX1_seekLower 53 = .ok (.iinc 4 1, 3) := by decide +kernel
theorem dX1_seekLower_56 : decode cX1_seekLower 56 = .ok (.goto (-45), 3) := by decide +kernel
theorem dX1_seekLower_59 : decode cX1_seekLower 59 = .ok (.iinc 3 1, 3) := by decide +kernel
theorem dX1_seekLower_62 : decode cX1_seekLower 62 = .ok (.goto (-60), 3) := by decide +kernel
theorem dX1_seekLower_65 : decode cX1_seekLower 65 = .ok (.return_, 1) := by decide +kernel
theorem dX1_isSmallTurn_0 : decode cX1_isSmallTurn 0 = .ok (.iload_n 1, 1) := by decide +kernel
theorem dX1_isSmallTurn_1 : decode cX1_isSmallTurn 1 = .ok (.iload_n 0, 1) := by decide +kernel
theorem dX1_isSmallTurn_2 : decode cX1_isSmallTurn 2 = .ok (.isub, 1) := by decide +kernel
theorem dX1_isSmallTurn_3 : decode cX1_isSmallTurn 3 = .ok (.bipush 7, 2) := by decide +kernel
theorem dX1_isSmallTurn_5 : decode cX1_isSmallTurn 5 = .ok (.iand, 1) := by decide +kernel
theorem dX1_isSmallTurn_6 : decode cX1_isSmallTurn 6 = .ok (.istore_n 2, 1) := by decide +kernel
theorem dX1_isSmallTurn_7 : decode cX1_isSmallTurn 7 = .ok (.iload_n 2, 1) := by decide +kernel
theorem dX1_isSmallTurn_8 : decode cX1_isSmallTurn 8 = .ok (.iconst 1, 1) := by decide +kernel
theorem dX1_isSmallTurn_9 : decode cX1_isSmallTurn 9 = .ok (.if_icmp .le 9, 3) := by decide +kernel
theorem dX1_isSmallTurn_12 : decode cX1_isSmallTurn 12 = .ok (.iload_n 2, 1) := by decide +kernel
theorem dX1_isSmallTurn_13 : decode cX1_isSmallTurn 13 = .ok (.bipush 7, 2) := by decide +kernel
theorem dX1_isSmallTurn_15 : decode cX1_isSmallTurn 15 = .ok (.if_icmp .ne 7, 3) := by decide +kernel
theorem dX1_isSmallTurn_18 : decode cX1_isSmallTurn 18 = .ok (.iconst 1, 1) := by decide +kernel
theorem dX1_isSmallTurn_19 : decode cX1_isSmallTurn 19 = .ok (.goto 4, 3) := by decide +kernel
theorem dX1_isSmallTurn_22 : decode cX1_isSmallTurn 22 = .ok (.iconst 0, 1) := by decide +kernel
theorem dX1_isSmallTurn_23 : decode cX1_isSmallTurn 23 = .ok (.ireturn, 1) := by decide +kernel
theorem dX1_keepIfBetter_0 : decode cX1_keepIfBetter 0 = .ok (.aload_n 0, 1) := by decide +kernel
theorem dX1_keepIfBetter_1 : decode cX1_keepIfBetter 1 = .ok (.getfield 15, 3) := by decide +kernel
theorem dX1_keepIfBetter_4 : decode cX1_keepIfBetter 4 = .ok (.iload_n 1, 1) := by decide +kernel
theorem dX1_keepIfBetter_5 : decode cX1_keepIfBetter 5 = .ok (.iaload, 1) := by decide +kernel
theorem dX1_keepIfBetter_6 : decode cX1_keepIfBetter 6 = .ok (.aload_n 0, 1) := by decide +kernel
theorem dX1_keepIfBetter_7 : decode cX1_keepIfBetter 7 = .ok (.getfield 15, 3) := by decide +kernel
theorem dX1_keepIfBetter_10 : decode cX1_keepIfBetter 10 = .ok (.bipush 8, 2) := by decide +kernel
theorem dX1_keepIfBetter_12 : decode cX1_keepIfBetter 12 = .ok (.iload_n 2, 1) := by decide +kernel
theorem dX1_keepIfBetter_13 : decode cX1_keepIfBetter 13 = .ok (.iadd, 1) := by decide +kernel
theorem dX1_keepIfBetter_14 : decode cX1_keepIfBetter 14 = .ok (.iaload, 1) := by decide +kernel
theorem dX1_keepIfBetter_15 : decode cX1_keepIfBetter 15 = .ok (.iadd, 1) := by decide +kernel
theorem dX1_keepIfBetter_16 : decode cX1_keepIfBetter 16 = .ok (.aload_n 0, 1) := by decide +kernel
theorem dX1_keepIfBetter_17 : decode cX1_keepIfBetter 17 = .ok (.getfield 15, 3) := by decide +kernel
theorem dX1_keepIfBetter_20 : decode cX1_keepIfBetter 20 = .ok (.bipush 16, 2) := by decide +kernel
theorem dX1_keepIfBetter_22 : decode cX1_keepIfBetter 22 = .ok (.iload_n 3, 1) := by decide +kernel
theorem dX1_keepIfBetter_23 : decode cX1_keepIfBetter 23 = .ok (.iadd, 1) := by decide +kernel
theorem dX1_keepIfBetter_24 : decode cX1_keepIfBetter 24 = .ok (.iaload, 1) := by decide +kernel
theorem dX1_keepIfBetter_25 : decode cX1_keepIfBetter 25 = .ok (.iadd, 1) := by decide +kernel
theorem dX1_keepIfBetter_26 : decode cX1_keepIfBetter 26 = .ok (.aload_n 0, 1) := by decide +kernel
theorem dX1_keepIfBetter_27 : decode cX1_keepIfBetter 27 = .ok (.getfield 15, 3) := by decide +kernel
theorem dX1_keepIfBetter_30 : decode cX1_keepIfBetter 30 = .ok (.bipush 24, 2) := by decide +kernel
theorem dX1_keepIfBetter_32 : decode cX1_keepIfBetter 32 = .ok (.iload 4, 2) := by decide +kernel
theorem dX1_keepIfBetter_34 : decode cX1_keepIfBetter 34 = .ok (.iadd, 1) := by decide +kernel
theorem dX1_keepIfBetter_35 : decode cX1_keepIfBetter 35 = .ok (.iaload, 1) := by decide +kernel
theorem dX1_keepIfBetter_36 : decode cX1_keepIfBetter 36 = .ok (.iadd, 1) := by decide +kernel
theorem dX1_keepIfBetter_37 : decode cX1_keepIfBetter 37 = .ok (.istore 5, 2) := by decide +kernel
theorem dX1_keepIfBetter_39 : decode cX1_keepIfBetter 39 = .ok (.iload 5, 2) := by decide +kernel
theorem dX1_keepIfBetter_41 : decode cX1_keepIfBetter 41 = .ok (.aload_n 0, 1) := by decide +kernel
theorem dX1_keepIfBetter_42 : decode cX1_keepIfBetter 42 = .ok (.getfield 24, 3) := by decide +kernel
theorem dX1_keepIfBetter_45 : decode cX1_keepIfBetter 45 = .ok (.if_icmp .le 38, 3) := by decide +kernel
theorem dX1_keepIfBetter_48 : decode cX1_keepIfBetter 48 = .ok (.aload_n 0, 1) := by decide +kernel
theorem dX1_keepIfBetter_49 : decode cX1_keepIfBetter 49 = .ok (.iload 5, 2) := by decide +kernel
theorem dX1_keepIfBetter_51 : decode cX1_keepIfBetter 51 = .ok (.putfield 24, 3) := by decide +kernel
theorem dX1_keepIfBetter_54 : decode cX1_keepIfBetter 54 = .ok (.aload_n 0, 1) := by decide +kernel
theorem dX1_keepIfBetter_55 : decode cX1_keepIfBetter 55 = .ok (.getfield 9, 3) := by decide +kernel
theorem dX1_keepIfBetter_58 : decode cX1_keepIfBetter 58 = .ok (.iconst 0, 1) := by decide +kernel
theorem dX1_keepIfBetter_59 : decode cX1_keepIfBetter 59 = .ok (.iload_n 1, 1) := by decide +kernel
theorem dX1_keepIfBetter_60 : decode cX1_keepIfBetter 60 = .ok (.iastore, 1) := by decide +kernel
theorem dX1_keepIfBetter_61 : decode cX1_keepIfBetter 61 = .ok (.aload_n 0, 1) := by decide +kernel
theorem dX1_keepIfBetter_62 : decode cX1_keepIfBetter 62 = .ok (.getfield 9, 3) := by decide +kernel
theorem dX1_keepIfBetter_65 : decode cX1_keepIfBetter 65 = .ok (.iconst 1, 1) := by decide +kernel
theorem dX1_keepIfBetter_66 : decode cX1_keepIfBetter 66 = .ok (.iload_n 2, 1) := by decide +kernel
theorem dX1_keepIfBetter_67 : decode cX1_keepIfBetter 67 = .ok (.iastore, 1) := by decide +kernel
theorem dX1_keepIfBetter_68 : decode cX1_keepIfBetter 68 = .ok (.aload_n 0, 1) := by decide +kernel
theorem dX1_keepIfBetter_69 : decode cX1_keepIfBetter 69 = .ok (.getfield 9, 3) := by decide +kernel
theorem dX1_keepIfBetter_72 : decode cX1_keepIfBetter 72 = .ok (.iconst 2, 1) := by decide +kernel
theorem dX1_keepIfBetter_73 : decode cX1_keepIfBetter 73 = .ok (.iload_n 3, 1) := by decide +kernel
theorem dX1_keepIfBetter_74 : decode cX1_keepIfBetter 74 = .ok (.iastore, 1) := by decide +kernel
theorem dX1_keepIfBetter_75 : decode cX1_keepIfBetter 75 = .ok (.aload_n 0, 1) := by decide +kernel
theorem dX1_keepIfBetter_76 : decode cX1_keepIfBetter 76 = .ok (.getfield 9, 3) := by decide +kernel
theorem dX1_keepIfBetter_79 : decode cX1_keepIfBetter 79 = .ok (.iconst 3, 1) := by decide +kernel
theorem dX1_keepIfBetter_80 : decode cX1_keepIfBetter 80 = .ok (.iload 4, 2) := by decide +kernel
theorem dX1_keepIfBetter_82 : decode cX1_keepIfBetter 82 = .ok (.iastore, 1) := by decide +kernel
theorem dX1_keepIfBetter_83 : decode cX1_keepIfBetter 83 = .ok (.return_, 1) := by decide +kernel
theorem dX2_init_0 : decode cX2_init 0 = .ok (.aload_n 0, 1) := by decide +kernel
theorem dX2_init_1 : decode cX2_init 1 = .ok (.invokespecial 3, 3) := by decide +kernel
theorem dX2_init_4 : decode cX2_init 4 = .ok (.aload_n 0, 1) := by decide +kernel
theorem dX2_init_5 : decode cX2_init 5 = .ok (.bipush 81, 2) := by decide +kernel
theorem dX2_init_7 : decode cX2_init 7 = .ok (.newarray .boolean, 2) := by decide +kernel
theorem dX2_init_9 : decode cX2_init 9 = .ok (.putfield 9, 3) := by decide +kernel
theorem dX2_init_12 : decode cX2_init 12 = .ok (.aload_n 0, 1) := by decide +kernel
theorem dX2_init_13 : decode cX2_init 13 = .ok (.bipush 81, 2) := by decide +kernel
theorem dX2_init_15 : decode cX2_init 15 = .ok (.newarray .int, 2) := by decide +kernel
theorem dX2_init_17 : decode cX2_init 17 = .ok (.putfield 15, 3) := by decide +kernel
theorem dX2_init_20 : decode cX2_init 20 = .ok (.return_, 1) := by decide +kernel
theorem dX2_isUp_0 : decode cX2_isUp 0 = .ok (.aload_n 0, 1) := by decide +kernel
theorem dX2_isUp_1 : decode cX2_isUp 1 = .ok (.iload_n 1, 1) := by decide +kernel
theorem dX2_isUp_2 : decode cX2_isUp 2 = .ok (.invokevirtual 19, 3) := by decide +kernel
theorem dX2_isUp_5 : decode cX2_isUp 5 = .ok (.ifCond .eq 16, 3) := by decide +kernel
theorem dX2_isUp_8 : decode cX2_isUp 8 = .ok (.aload_n 0, 1) := by decide +kernel
theorem dX2_isUp_9 : decode cX2_isUp 9 = .ok (.iload_n 1, 1) := by decide +kernel
theorem dX2_isUp_10 : decode cX2_isUp 10 = .ok (.invokevirtual 25, 3) := by decide +kernel
theorem dX2_isUp_13 : decode cX2_isUp 13 = .ok (.iload_n 2, 1) := by decide +kernel
theorem dX2_isUp_14 : decode cX2_isUp 14 = .ok (.if_icmp .lt 7, 3) := by decide +kernel
theorem dX2_isUp_17 : decode cX2_isUp 17 = .ok (.iconst 1, 1) := by decide +kernel
theorem dX2_isUp_18 : decode cX2_isUp 18 = .ok (.goto 4, 3) := by decide +kernel
theorem dX2_isUp_21 : decode cX2_isUp 21 = .ok (.iconst 0, 1) := by decide +kernel
theorem dX2_isUp_22 : decode cX2_isUp 22 = .ok (.ireturn, 1) := by decide +kernel
theorem dX2_hills_0 : decode cX2_hills 0 = .ok (.iconst 0, 1) := by decide +kernel
theorem dX2_hills_1 : decode cX2_hills 1 = .ok (.istore_n 3, 1) := by decide +kernel
theorem dX2_hills_2 : decode cX2_hills 2 = .ok (.iload_n 3, 1) := by decide +kernel
theorem dX2_hills_3 : decode cX2_hills 3 = .ok (.bipush 81, 2) := by decide +kernel
theorem dX2_hills_5 : decode cX2_hills 5 = .ok (.if_icmp .ge 16, 3) := by decide +kernel
theorem dX2_hills_8 : decode cX2_hills 8 = .ok (.aload_n 0, 1) := by decide +kernel
theorem dX2_hills_9 : decode cX2_hills 9 = .ok (.getfield 9, 3) := by decide +kernel
theorem dX2_hills_12 : decode cX2_hills 12 = .ok (.iload_n 3, 1) := by decide +kernel
theorem dX2_hills_13 : decode cX2_hills 13 = .ok (.iconst 0, 1) := by decide +kernel
theorem dX2_hills_14 : decode cX2_hills 14 = .ok (.bastore, 1) := by decide +kernel
theorem dX2_hills_15 : decode cX2_hills 15 = .ok (.iinc 3 1, 3) := by decide +kernel
theorem dX2_hills_18 : decode cX2_hills 18 = .ok (.goto (-16), 3) := by decide +kernel
theorem dX2_hills_21 : decode cX2_hills 21 = .ok (.iconst 0, 1) := by decide +kernel
theorem dX2_hills_22 : decode cX2_hills 22 = .ok (.istore_n 3, 1) := by decide +kernel
theorem dX2_hills_23 : decode cX2_hills 23 = .ok (.iconst 0, 1) := by decide +kernel
theorem dX2_hills_24 : decode cX2_hills 24 = .ok (.istore 4, 2) := by decide +kernel
theorem dX2_hills_26 : decode cX2_hills 26 = .ok (.iload 4, 2) := by decide +kernel
theorem dX2_hills_28 : decode cX2_hills 28 = .ok (.bipush 81, 2) := by decide +kernel
theorem dX2_hills_30 : decode cX2_hills 30 = .ok (.if_icmp .ge 40, 3) := by decide +kernel
theorem dX2_hills_33 : decode cX2_hills 33 = .ok (.aload_n 1, 1) := by decide +kernel
theorem dX2_hills_34 : decode cX2_hills 34 = .ok (.iload 4, 2) := by decide +kernel
theorem dX2_hills_36 : decode cX2_hills 36 = .ok (.iload_n 2, 1) := by decide +kernel
theorem dX2_hills_37 : decode cX2_hills 37 = .ok (.invokestatic 29, 3) := by decide +kernel
theorem dX2_hills_40 : decode cX2_hills 40 = .ok (.ifCond .eq 24, 3) := by decide +kernel
theorem dX2_hills_43 : decode cX2_hills 43 = .ok (.aload_n 0, 1) := by decide +kernel
theorem dX2_hills_44 : decode cX2_hills 44 = .ok (.getfield 9, 3) := by decide +kernel
theorem dX2_hills_47 : decode cX2_hills 47 = .ok (.iload 4, 2) := by decide +kernel
theorem dX2_hills_49 : decode cX2_hills 49 = .ok (.baload, 1) := by decide +kernel
theorem dX2_hills_50 : decode cX2_hills 50 = .ok (.ifCond .ne 14, 3) := by decide +kernel
theorem dX2_hills_53 : decode cX2_hills 53 = .ok (.aload_n 0, 1) := by decide +kernel
theorem dX2_hills_54 : decode cX2_hills 54 = .ok (.aload_n 1, 1) := by decide +kernel
theorem dX2_hills_55 : decode cX2_hills 55 = .ok (.iload 4, 2) := by decide +kernel
theorem dX2_hills_57 : decode cX2_hills 57 = .ok (.iload_n 2, 1) := by decide +kernel
theorem dX2_hills_58 : decode cX2_hills 58 = .ok (.invokevirtual 33, 3) := by decide +kernel
theorem dX2_hills_61 : decode cX2_hills 61 = .ok (.iinc 3 1, 3) := by decide +kernel
theorem dX2_hills_64 : decode cX2_hills 64 = .ok (.iinc 4 1, 3) := by decide +kernel
theorem dX2_hills_67 : decode cX2_hills 67 = .ok (.goto (-41), 3) := by decide +kernel
theorem dX2_hills_70 : decode cX2_hills 70 = .ok (.iload_n 3, 1) := by decide +kernel
theorem dX2_hills_71 : decode cX2_hills 71 = .ok (.ireturn, 1) := by decide +kernel
theorem dX2_walkPiece_0 : decode cX2_walkPiece 0 = .ok (.iconst 1, 1) := by decide +kernel
theorem dX2_walkPiece_1 : decode cX2_walkPiece 1 = .ok (.istore 4, 2) := by decide +kernel
theorem dX2_walkPiece_3 : decode cX2_walkPiece 3 = .ok (.aload_n 0, 1) := by decide +kernel
theorem dX2_walkPiece_4 : decode cX2_walkPiece 4 = .ok (.getfield 15, 3) := by decide +kernel
theorem dX2_walkPiece_7 : decode cX2_walkPiece 7 = .ok (.iconst 0, 1) := by decide +kernel
theorem dX2_walkPiece_8 : decode cX2_walkPiece 8 = .ok (.iload_n 2, 1) := by decide +kernel
theorem dX2_walkPiece_9 : decode cX2_walkPiece 9 = .ok (.iastore, 1) := by decide +kernel
theorem dX2_walkPiece_10 : decode cX2_walkPiece 10 = .ok (.aload_n 0, 1) := by decide +kernel
theorem dX2_walkPiece_11 : decode cX2_walkPiece 11 = .ok (.getfield 9, 3) := by decide +kernel
theorem dX2_walkPiece_14 : decode cX2_walkPiece 14 = .ok (.iload_n 2, 1) := by decide +kernel
theorem dX2_walkPiece_15 : decode cX2_walkPiece 15 = .ok (.iconst 1, 1) := by decide +kernel
theorem dX2_walkPiece_16 : decode cX2_walkPiece 16 = .ok (.bastore, 1) := by decide +kernel
theorem dX2_walkPiece_17 : decode cX2_walkPiece 17 = .ok (.iconst 0, 1) := by decide +kernel
theorem dX2_walkPiece_18 : decode cX2_walkPiece 18 = .ok (.istore 5, 2) := by decide +kernel
theorem dX2_walkPiece_20 : decode cX2_walkPiece 20 = .ok (.iload 5, 2) := by decide +kernel
theorem dX2_walkPiece_22 : decode cX2_walkPiece 22 = .ok (.iload 4, 2) := by decide +kernel
theorem dX2_walkPiece_24 : decode cX2_walkPiece 24 = .ok (.if_icmp .ge 94, 3) := by decide +kernel
theorem dX2_walkPiece_27 : decode cX2_walkPiece 27 = .ok (.iload 5, 2) := by decide +kernel
theorem dX2_walkPiece_29 : decode cX2_walkPiece 29 = .ok (.bipush 81, 2) := by decide +kernel
theorem dX2_walkPiece_31 : decode cX2_walkPiece 31 = .ok (.if_icmp .ge 87, 3) := by decide +kernel
theorem dX2_walkPiece_34 : decode cX2_walkPiece 34 = .ok (.iconst 0, 1) := by decide +kernel
theorem dX2_walkPiece_35 : decode cX2_walkPiece 35 = .ok (.istore 6, 2) := by decide +kernel
theorem dX2_walkPiece_37 : decode cX2_walkPiece 37 = .ok (.iload 6, 2) := by decide +kernel
theorem dX2_walkPiece_39 : decode cX2_walkPiece 39 = .ok (.bipush 8, 2) := by decide +kernel
theorem dX2_walkPiece_41 : decode cX2_walkPiece 41 = .ok (.if_icmp .ge 71, 3) := by decide +kernel
theorem dX2_walkPiece_44 : decode cX2_walkPiece 44 = .ok (.aload_n 1, 1) := by decide +kernel
theorem dX2_walkPiece_45 : decode cX2_walkPiece 45 = .ok (.aload_n 0, 1) := by decide +kernel
theorem dX2_walkPiece_46 : decode cX2_walkPiece 46 = .ok (.getfield 15, 3) := by decide +kernel
theorem dX2_walkPiece_49 : decode cX2_walkPiece 49 = .ok (.iload 5, 2) := by decide +kernel
theorem dX2_walkPiece_51 : decode cX2_walkPiece 51 = .ok (.iaload, 1) := by decide +kernel
theorem dX2_walkPiece_52 : decode cX2_walkPiece 52 = .ok (.iload 6, 2) := by decide +kernel
theorem dX2_walkPiece_54 : decode cX2_walkPiece 54 = .ok (.invokevirtual 37, 3) := by decide +kernel
theorem dX2_walkPiece_57 : decode cX2_walkPiece 57 = .ok (.istore 7, 2) := by decide +kernel
theorem dX2_walkPiece_59 : decode cX2_walkPiece 59 = .ok (.aload_n 1, 1) := by decide +kernel
theorem dX2_walkPiece_60 : decode cX2_walkPiece 60 = .ok (.iload 7, 2) := by decide +kernel
theorem dX2_walkPiece_62 : decode cX2_walkPiece 62 = .ok (.iload_n 3, 1) := by decide +kernel
theorem dX2_walkPiece_63 : decode cX2_walkPiece 63 = .ok (.invokestatic 29, 3) := by decide +kernel
theorem dX2_walkPiece_66 : decode cX2_walkPiece 66 = .ok (.ifCond .eq 40, 3) := by decide +kernel
theorem dX2_walkPiece_69 : decode cX2_walkPiece 69 = .ok (.aload_n 0, 1) := by decide +kernel
theorem dX2_walkPiece_70 : decode cX2_walkPiece 70 = .ok (.getfield 9, 3) := by decide +kernel
theorem dX2_walkPiece_73 : decode cX2_walkPiece 73 = .ok (.iload 7, 2) := by decide +kernel
theorem dX2_walkPiece_75 : decode cX2_walkPiece 75 = .ok (.baload, 1) := by decide +kernel
theorem dX2_walkPiece_76 : decode cX2_walkPiece 76 = .ok (.ifCond .ne 30, 3) := by decide +kernel
theorem dX2_walkPiece_79 : decode cX2_walkPiece 79 = .ok (.iload 4, 2) := by decide +kernel
theorem dX2_walkPiece_81 : decode cX2_walkPiece 81 = .ok (.bipush 81, 2) := by decide +kernel
theorem dX2_walkPiece_83 : decode cX2_walkPiece 83 = .ok (.if_icmp .ge 23, 3) := by decide +kernel
theorem dX2_walkPiece_86 : decode cX2_walkPiece 86 = .ok (.aload_n 0, 1) := by decide +kernel
theorem dX2_walkPiece_87 : decode cX2_walkPiece 87 = .ok (.getfield 9, 3) := by decide +kernel
theorem dX2_walkPiece_90 : decode cX2_walkPiece 90 = .ok (.iload 7, 2) := by decide +kernel
theorem dX2_walkPiece_92 : decode cX2_walkPiece 92 = .ok (.iconst 1, 1) := by decide +kernel
theorem dX2_walkPiece_93 : decode cX2_walkPiece 93 = .ok (.bastore, 1) := by decide +kernel
theorem dX2_walkPiece_94 : decode cX2_walkPiece 94 = .ok (.aload_n 0, 1) := by decide +kernel
theorem dX2_walkPiece_95 : decode cX2_walkPiece 95 = .ok (.getfield 15, 3) := by decide +kernel
theorem dX2_walkPiece_98 : decode cX2_walkPiece 98 = .ok (.iload 4, 2) := by decide +kernel
theorem dX2_walkPiece_100 : decode cX2_walkPiece 100 = .ok (.iload 7, 2) := by decide +kernel
theorem dX2_walkPiece_102 : decode cX2_walkPiece 102 = .ok (.iastore, 1) := by decide +kernel
theorem dX2_walkPiece_103 : decode cX2_walkPiece 103 = .ok (.iinc 4 1, 3) := by decide +kernel
theorem dX2_walkPiece_106 : decode cX2_walkPiece 106 = .ok (.iinc 6 2, 3) := by decide +kernel
theorem dX2_walkPiece_109 : decode cX2_walkPiece 109 = .ok (.goto (-72), 3) := by decide +kernel
theorem dX2_walkPiece_112 : decode cX2_walkPiece 112 = .ok (.iinc 5 1, 3) := by decide +kernel
theorem dX2_walkPiece_115 : decode cX2_walkPiece 115 = .ok (.goto (-95), 3) := by decide +kernel
theorem dX2_walkPiece_118 : decode cX2_walkPiece 118 = .ok (.return_, 1) := by decide +kernel
theorem dX2_lineLength_0 : decode cX2_lineLength 0 = .ok (.iconst 0, 1) := by decide +kernel
theorem dX2_lineLength_1 : decode cX2_lineLength 1 = .ok (.istore_n 3, 1) := by decide +kernel
theorem dX2_lineLength_2 : decode cX2_lineLength 2 = .ok (.iconst 0, 1) := by decide +kernel
theorem dX2_lineLength_3 : decode cX2_lineLength 3 = .ok (.istore 4, 2) := by decide +kernel
theorem dX2_lineLength_5 : decode cX2_lineLength 5 = .ok (.iload 4, 2) := by decide +kernel
theorem dX2_lineLength_7 : decode cX2_lineLength 7 = .ok (.bipush 81, 2) := by decide +kernel
theorem dX2_lineLength_9 : decode cX2_lineLength 9 = .ok (.if_icmp .ge 29, 3) := by decide +kernel
theorem dX2_lineLength_12 : decode cX2_lineLength 12 = .ok (.aload_n 1, 1) := by decide +kernel
theorem dX2_lineLength_13 : decode cX2_lineLength 13 = .ok (.iload 4, 2) := by decide +kernel
theorem dX2_lineLength_15 : decode cX2_lineLength 15 = .ok (.iload_n 2, 1) := by decide +kernel
theorem dX2_lineLength_16 : decode cX2_lineLength 16 = .ok (.invokestatic 29, 3) := by decide +kernel
theorem dX2_lineLength_19 : decode cX2_lineLength 19 = .ok (.ifCond .eq 13, 3) := by decide +kernel
theorem dX2_lineLength_22 : decode cX2_lineLength 22 = .ok (.iload_n 3, 1) := by decide +kernel
theorem dX2_lineLength_23 : decode cX2_lineLength 23 = .ok (.aload_n 1, 1) := by decide +kernel
theorem dX2_lineLength_24 : decode cX2_lineLength 24 = .ok (.iload 4, 2) := by decide +kernel
theorem dX2_lineLength_26 : decode cX2_lineLength 26 = .ok (.iload_n 2, 1) := by decide +kernel
theorem dX2_lineLength_27 : decode cX2_lineLength 27 = .ok (.invokestatic 41, 3) := by decide +kernel
theorem dX2_lineLength_30 : decode cX2_lineLength 30 = .ok (.iadd, 1) := by decide +kernel
theorem dX2_lineLength_31 : decode cX2_lineLength 31 = .ok (.istore_n 3, 1) := by decide +kernel
theorem dX2_lineLength_32 : decode cX2_lineLength 32 = .ok (.iinc 4 1, 3) := by decide +kernel
theorem dX2_lineLength_35 : decode cX2_lineLength 35 = .ok (.goto (-30), 3) := by decide +kernel
theorem dX2_lineLength_38 : decode cX2_lineLength 38 = .ok (.iload_n 3, 1) := by decide +kernel
theorem dX2_lineLength_39 : decode cX2_lineLength 39 = .ok (.ireturn, 1) := by decide +kernel
theorem dX2_lowSides_0 : decode cX2_lowSides 0 = .ok (.iconst 0, 1) := by decide +kernel
theorem dX2_lowSides_1 : decode cX2_lowSides 1 = .ok (.istore_n 3, 1) := by decide +kernel
theorem dX2_lowSides_2 : decode cX2_lowSides 2 = .ok (.iconst 0, 1) := by decide +kernel
theorem dX2_lowSides_3 : decode cX2_lowSides 3 = .ok (.istore 4, 2) := by decide +kernel
theorem dX2_lowSides_5 : decode cX2_lowSides 5 = .ok (.iload 4, 2) := by decide +kernel
theorem dX2_lowSides_7 : decode cX2_lowSides 7 = .ok (.bipush 8, 2) := by decide +kernel
theorem dX2_lowSides_9 : decode cX2_lowSides 9 = .ok (.if_icmp .ge 37, 3) := by decide +kernel
theorem dX2_lowSides_12 : decode cX2_lowSides 12 = .ok (.aload_n 0, 1) := by decide +kernel
theorem dX2_lowSides_13 : decode cX2_lowSides 13 = .ok (.iload_n 1, 1) := by decide +kernel
theorem dX2_lowSides_14 : decode cX2_lowSides 14 = .ok (.iload 4, 2) := by decide +kernel
theorem dX2_lowSides_16 : decode cX2_lowSides 16 = .ok (.invokevirtual 37, 3) := by decide +kernel
theorem dX2_lowSides_19 : decode cX2_lowSides 19 = .ok (.istore 5, 2) := by decide +kernel
theorem dX2_lowSides_21 : decode cX2_lowSides 21 = .ok (.iload 5, 2) := by decide +kernel
theorem dX2_lowSides_23 : decode cX2_lowSides 23 = .ok (.iconst (-1), 1) := by decide +kernel
theorem dX2_lowSides_24 : decode cX2_lowSides 24 = .ok (.if_icmp .eq 16, 3) := by decide +kernel
theorem dX2_lowSides_27 : decode cX2_lowSides 27 = .ok (.aload_n 0, 1) := by decide +kernel
theorem dX2_lowSides_28 : decode cX2_lowSides 28 = .ok (.iload 5, 2) := by decide +kernel
theorem dX2_lowSides_30 : decode cX2_lowSides 30 = .ok (.iload_n 2, 1) := by decide +kernel
theorem dX2_lowSides_31 : decode cX2_lowSides 31 = .ok (.invokestatic 29, 3) := by decide +kernel
theorem dX2_lowSides_34 : decode cX2_lowSides 34 = .ok (.ifCond .ne 6, 3) := by decide +kernel
theorem dX2_lowSides_37 : decode cX2_lowSides 37 = .ok (.iinc 3 1, 3) := by decide +kernel
theorem dX2_lowSides_40 : decode cX2_lowSides 40 = .ok (.iinc 4 2, 3) := by decide +kernel
theorem dX2_lowSides_43 : decode cX2_lowSides 43 = .ok (.goto (-38), 3) := by decide +kernel
theorem dX2_lowSides_46 : decode cX2_lowSides 46 = .ok (.iload_n 3, 1) := by decide +kernel
theorem dX2_lowSides_47 : decode cX2_lowSides 47 = .ok (.ireturn, 1) := by decide +kernel
theorem dX2_cellsUp_0 : decode cX2_cellsUp 0 = .ok (.iconst 0, 1) := by decide +kernel
theorem dX2_cellsUp_1 : decode cX2_cellsUp 1 = .ok (.istore_n 3, 1) := by decide +kernel
theorem dX2_cellsUp_2 : decode cX2_cellsUp 2 = .ok (.iconst 0, 1) := by decide +kernel
theorem dX2_cellsUp_3 : decode cX2_cellsUp 3 = .ok (.istore 4, 2) := by decide +kernel
theorem dX2_cellsUp_5 : decode cX2_cellsUp 5 = .ok (.iload 4, 2) := by decide +kernel
theorem dX2_cellsUp_7 : decode cX2_cellsUp 7 = .ok (.bipush 81, 2) := by decide +kernel
theorem dX2_cellsUp_9 : decode cX2_cellsUp 9 = .ok (.if_icmp .ge 22, 3) := by decide +kernel
theorem dX2_cellsUp_12 : decode cX2_cellsUp 12 = .ok (.aload_n 1, 1) := by decide +kernel
theorem dX2_cellsUp_13 : decode cX2_cellsUp 13 = .ok (.iload 4, 2) := by decide +kernel
theorem dX2_cellsUp_15 : decode cX2_cellsUp 15 = .ok (.iload_n 2, 1) := by decide +kernel
theorem dX2_cellsUp_16 : decode cX2_cellsUp 16 = .ok (.invokestatic 29, 3) := by decide +kernel
theorem dX2_cellsUp_19 : decode cX2_cellsUp 19 = .ok (.ifCond .eq 6, 3) := by decide +kernel
theorem dX2_cellsUp_22 : decode cX2_cellsUp 22 = .ok (.iinc 3 1, 3) := by decide +kernel
theorem dX2_cellsUp_25 : decode cX2_cellsUp 25 = .ok (.iinc 4 1, 3) := by decide +kernel
theorem dX2_cellsUp_28 : decode cX2_cellsUp 28 = .ok (.goto (-23), 3) := by decide +kernel
theorem dX2_cellsUp_31 : decode cX2_cellsUp 31 = .ok (.iload_n 3, 1) := by decide +kernel
theorem dX2_cellsUp_32 : decode cX2_cellsUp 32 = .ok (.ireturn, 1) := by decide +kernel
theorem dX3_init_0 : decode cX3_init 0 = .ok (.aload_n 0, 1) := by decide +kernel
theorem dX3_init_1 : decode cX3_init 1 = .ok (.invokespecial 3, 3) := by decide +kernel
theorem dX3_init_4 : decode cX3_init 4 = .ok (.aload_n 0, 1) := by decide +kernel
theorem dX3_init_5 : decode cX3_init 5 = .ok (.bipush 6, 2) := by decide +kernel
theorem dX3_init_7 : decode cX3_init 7 = .ok (.anewarray 9, 3) := by decide +kernel
theorem dX3_init_10 : decode cX3_init 10 = .ok (.putfield 11, 3) := by decide +kernel
theorem dX3_init_13 : decode cX3_init 13 = .ok (.iconst 0, 1) := by decide +kernel
theorem dX3_init_14 : decode cX3_init 14 = .ok (.istore_n 1, 1) := by decide +kernel
theorem dX3_init_15 : decode cX3_init 15 = .ok (.iload_n 1, 1) := by decide +kernel
theorem dX3_init_16 : decode cX3_init 16 = .ok (.bipush 6, 2) := by decide +kernel
theorem dX3_init_18 : decode cX3_init 18 = .ok (.if_icmp .ge 22, 3) := by decide +kernel
theorem dX3_init_21 : decode cX3_init 21 = .ok (.aload_n 0, 1) := by decide +kernel
theorem dX3_init_22 : decode cX3_init 22 = .ok (.getfield 11, 3) := by decide +kernel
theorem dX3_init_25 : decode cX3_init 25 = .ok (.iload_n 1, 1) := by decide +kernel
theorem dX3_init_26 : decode cX3_init 26 = .ok (.new 9, 3) := by decide +kernel
theorem dX3_init_29 : decode cX3_init 29 = .ok (.dup, 1) := by decide +kernel
theorem dX3_init_30 : decode cX3_init 30 = .ok (.invokespecial 17, 3) := by decide +kernel
theorem dX3_init_33 : decode cX3_init 33 = .ok (.aastore, 1) := by decide +kernel
theorem dX3_init_34 : decode cX3_init 34 = .ok (.iinc 1 1, 3) := by decide +kernel
theorem dX3_init_37 : decode cX3_init 37 = .ok (.goto (-22), 3) := by decide +kernel
theorem dX3_init_40 : decode cX3_init 40 = .ok (.return_, 1) := by decide +kernel
theorem dX3_keep_0 : decode cX3_keep 0 = .ok (.aload_n 0, 1) := by decide +kernel
theorem dX3_keep_1 : decode cX3_keep 1 = .ok (.getfield 11, 3) := by decide +kernel
theorem dX3_keep_4 : decode cX3_keep 4 = .ok (.aload_n 0, 1) := by decide +kernel
theorem dX3_keep_5 : decode cX3_keep 5 = .ok (.getfield 18, 3) := by decide +kernel
theorem dX3_keep_8 : decode cX3_keep 8 = .ok (.aaload, 1) := by decide +kernel
theorem dX3_keep_9 : decode cX3_keep 9 = .ok (.aload_n 1, 1) := by decide +kernel
theorem dX3_keep_10 : decode cX3_keep 10 = .ok (.invokevirtual 22, 3) := by decide +kernel
theorem dX3_keep_13 : decode cX3_keep 13 = .ok (.aload_n 0, 1) := by decide +kernel
theorem dX3_keep_14 : decode cX3_keep 14 = .ok (.aload_n 0, 1) := by decide +kernel
theorem dX3_keep_15 : decode cX3_keep 15 = .ok (.getfield 18, 3) := by decide +kernel
theorem dX3_keep_18 : decode cX3_keep 18 = .ok (.iconst 1, 1) := by decide +kernel
theorem dX3_keep_19 : decode cX3_keep 19 = .ok (.iadd, 1) := by decide +kernel
theorem dX3_keep_20 : decode cX3_keep 20 = .ok (.bipush 6, 2) := by decide +kernel
theorem dX3_keep_22 : decode cX3_keep 22 = .ok (.irem, 1) := by decide +kernel
theorem dX3_keep_23 : decode cX3_keep 23 = .ok (.putfield 18, 3) := by decide +kernel
theorem dX3_keep_26 : decode cX3_keep 26 = .ok (.aload_n 0, 1) := by decide +kernel
theorem dX3_keep_27 : decode cX3_keep 27 = .ok (.aload_n 0, 1) := by decide +kernel
theorem dX3_keep_28 : decode cX3_keep 28 = .ok (.getfield 26, 3) := by decide +kernel
theorem dX3_keep_31 : decode cX3_keep 31 = .ok (.iconst 1, 1) := by decide +kernel
theorem dX3_keep_32 : decode cX3_keep 32 = .ok (.iadd, 1) := by decide +kernel
theorem dX3_keep_33 : decode cX3_keep 33 = .ok (.bipush 6, 2) := by decide +kernel
theorem dX3_keep_35 : decode cX3_keep 35 = .ok (.invokestatic 29, 3) := by decide +kernel
theorem dX3_keep_38 : decode cX3_keep 38 = .ok (.putfield 26, 3) := by decide +kernel
theorem dX3_keep_41 : decode cX3_keep 41 = .ok (.return_, 1) := by decide +kernel
theorem dX3_bringBack_0 : decode cX3_bringBack 0 = .ok (.aload_n 0, 1) := by decide +kernel
theorem dX3_bringBack_1 : decode cX3_bringBack 1 = .ok (.getfield 26, 3) := by decide +kernel
theorem dX3_bringBack_4 : decode cX3_bringBack 4 = .ok (.ifCond .ne 4, 3) := by decide +kernel
theorem dX3_bringBack_7 : decode cX3_bringBack 7 = .ok (.return_, 1) := by decide +kernel
theorem dX3_bringBack_8 : decode cX3_bringBack 8 = .ok (.aload_n 0, 1) := by decide +kernel
theorem dX3_bringBack_9 : decode cX3_bringBack 9 = .ok (.aload_n 0, 1) := by decide +kernel
theorem dX3_bringBack_10 : decode cX3_bringBack 10 = .ok (.getfield 18, 3) := by decide +kernel
theorem dX3_bringBack_13 : decode cX3_bringBack 13 = .ok (.bipush 6, 2) := by decide +kernel
theorem dX3_bringBack_15 : decode cX3_bringBack 15 = .ok (.iadd, 1) := by decide +kernel
theorem dX3_bringBack_16 : decode cX3_bringBack 16 = .ok (.iconst 1, 1) := by decide +kernel
theorem dX3_bringBack_17 : decode cX3_bringBack 17 = .ok (.isub, 1) := by decide +kernel
theorem dX3_bringBack_18 : decode cX3_bringBack 18 = .ok (.bipush 6, 2) := by decide +kernel
theorem dX3_bringBack_20 : decode cX3_bringBack 20 = .ok (.irem, 1) := by decide +kernel
theorem dX3_bringBack_21 : decode cX3_bringBack 21 = .ok (.putfield 18, 3) := by decide +kernel
theorem dX3_bringBack_24 : decode cX3_bringBack 24 = .ok (.aload_n 0, 1) := by decide +kernel
theorem dX3_bringBack_25 : decode cX3_bringBack 25 = .ok (.dup, 1) := by decide +kernel
theorem dX3_bringBack_26 : decode cX3_bringBack 26 = .ok (.getfield 26, 3) := by decide +kernel
theorem dX3_bringBack_29 : decode cX3_bringBack 29 = .ok (.iconst 1, 1) := by decide +kernel
theorem dX3_bringBack_30 : decode cX3_bringBack 30 = .ok (.isub, 1) := by decide +kernel
theorem dX3_bringBack_31 : decode cX3_bringBack 31 = .ok (.putfield 26, 3) := by decide +kernel
theorem dX3_bringBack_34 : decode cX3_bringBack 34 = .ok (.aload_n 1, 1) := by decide +kernel
theorem dX3_bringBack_35 : decode cX3_bringBack 35 = .ok (.aload_n 0, 1) := by decide +kernel
theorem dX3_bringBack_36 : decode cX3_bringBack 36 = .ok (.getfield 11, 3) := by decide +kernel
theorem dX3_bringBack_39 : decode cX3_bringBack 39 = .ok (.aload_n 0, 1) := by decide +kernel
theorem dX3_bringBack_40 : decode cX3_bringBack 40 = .ok (.getfield 18, 3) := by decide +kernel
theorem dX3_bringBack_43 : decode cX3_bringBack 43 = .ok (.aaload, 1) := by decide +kernel
theorem dX3_bringBack_44 : decode cX3_bringBack 44 = .ok (.invokevirtual 22, 3) := by decide +kernel
theorem dX3_bringBack_47 : decode cX3_bringBack 47 = .ok (.return_, 1) := by decide +kernel
theorem dX3_forget_0 : decode cX3_forget 0 = .ok (.aload_n 0, 1) := by decide +kernel
theorem dX3_forget_1 : decode cX3_forget 1 = .ok (.iconst 0, 1) := by decide +kernel
theorem dX3_forget_2 : decode cX3_forget 2 = .ok (.putfield 26, 3) := by decide +kernel
theorem dX3_forget_5 : decode cX3_forget 5 = .ok (.return_, 1) := by decide +kernel
theorem dX4_init_0 : decode cX4_init 0 = .ok (.aload_n 0, 1) := by decide +kernel
theorem dX4_init_1 : decode cX4_init 1 = .ok (.invokespecial 3, 3) := by decide +kernel
theorem dX4_init_4 : decode cX4_init 4 = .ok (.aload_n 0, 1) := by decide +kernel
theorem dX4_init_5 : decode cX4_init 5 = .ok (.new 9, 3) := by decide +kernel
theorem dX4_init_8 : decode cX4_init 8 = .ok (.dup, 1) := by decide +kernel
theorem dX4_init_9 : decode cX4_init 9 = .ok (.invokespecial 11, 3) := by decide +kernel
theorem dX4_init_12 : decode cX4_init 12 = .ok (.putfield 12, 3) := by decide +kernel
theorem dX4_init_15 : decode cX4_init 15 = .ok (.aload_n 0, 1) := by decide +kernel
theorem dX4_init_16 : decode cX4_init 16 = .ok (.new 18, 3) := by decide +kernel
theorem dX4_init_19 : decode cX4_init 19 = .ok (.dup, 1) := by decide +kernel
theorem dX4_init_20 : decode cX4_init 20 = .ok (.invokespecial 20, 3) := by decide +kernel
theorem dX4_init_23 : decode cX4_init 23 = .ok (.putfield 21, 3) := by decide +kernel
theorem dX4_init_26 : decode cX4_init 26 = .ok (.aload_n 0, 1) := by decide +kernel
theorem dX4_init_27 : decode cX4_init 27 = .ok (.iconst 4, 1) := by decide +kernel
theorem dX4_init_28 : decode cX4_init 28 = .ok (.newarray .int, 2) := by decide +kernel
theorem dX4_init_30 : decode cX4_init 30 = .ok (.putfield 25, 3) := by decide +kernel
theorem dX4_init_33 : decode cX4_init 33 = .ok (.return_, 1) := by decide +kernel
theorem dX4_copyFrom_0 : decode cX4_copyFrom 0 = .ok (.aload_n 0, 1) := by decide +kernel
theorem dX4_copyFrom_1 : decode cX4_copyFrom 1 = .ok (.getfield 12, 3) := by decide +kernel
theorem dX4_copyFrom_4 : decode cX4_copyFrom 4 = .ok (.aload_n 1, 1) := by decide +kernel
theorem dX4_copyFrom_5 : decode cX4_copyFrom 5 = .ok (.getfield 12, 3) := by decide +kernel
theorem dX4_copyFrom_8 : decode cX4_copyFrom 8 = .ok (.invokevirtual 29, 3) := by decide +kernel
theorem dX4_copyFrom_11 : decode cX4_copyFrom 11 = .ok (.aload_n 0, 1) := by decide +kernel
theorem dX4_copyFrom_12 : decode cX4_copyFrom 12 = .ok (.getfield 21, 3) := by decide +kernel
theorem dX4_copyFrom_15 : decode cX4_copyFrom 15 = .ok (.aload_n 1, 1) := by decide +kernel
theorem dX4_copyFrom_16 : decode cX4_copyFrom 16 = .ok (.getfield 21, 3) := by decide +kernel
theorem dX4_copyFrom_19 : decode cX4_copyFrom 19 = .ok (.invokevirtual 33, 3) := by decide +kernel
theorem dX4_copyFrom_22 : decode cX4_copyFrom 22 = .ok (.aload_n 1, 1) := by decide +kernel
theorem dX4_copyFrom_23 : decode cX4_copyFrom 23 = .ok (.getfield 25, 3) := by decide +kernel
theorem dX4_copyFrom_26 : decode cX4_copyFrom 26 = .ok (.iconst 0, 1) := by decide +kernel
theorem dX4_copyFrom_27 : decode cX4_copyFrom 27 = .ok (.aload_n 0, 1) := by decide +kernel
theorem dX4_copyFrom_28 : decode cX4_copyFrom 28 = .ok (.getfield 25, 3) := by decide +kernel
theorem dX4_copyFrom_31 : decode cX4_copyFrom 31 = .ok (.iconst 0, 1) := by decide +kernel
theorem dX4_copyFrom_32 : decode cX4_copyFrom 32 = .ok (.iconst 4, 1) := by decide +kernel
theorem dX4_copyFrom_33 : decode cX4_copyFrom 33 = .ok (.invokestatic 36, 3) := by decide +kernel
theorem dX4_copyFrom_36 : decode cX4_copyFrom 36 = .ok (.aload_n 0, 1) := by decide +kernel
theorem dX4_copyFrom_37 : decode cX4_copyFrom 37 = .ok (.aload_n 1, 1) := by decide +kernel
theorem dX4_copyFrom_38 : decode cX4_copyFrom 38 = .ok (.getfield 42, 3) := by decide +kernel
theorem dX4_copyFrom_41 : decode cX4_copyFrom 41 = .ok (.putfield 42, 3) := by decide +kernel
theorem dX4_copyFrom_44 : decode cX4_copyFrom 44 = .ok (.return_, 1) := by decide +kernel
theorem dX4_clear_0 : decode cX4_clear 0 = .ok (.aload_n 0, 1) := by decide +kernel
theorem dX4_clear_1 : decode cX4_clear 1 = .ok (.getfield 12, 3) := by decide +kernel
theorem dX4_clear_4 : decode cX4_clear 4 = .ok (.invokevirtual 46, 3) := by decide +kernel
theorem dX4_clear_7 : decode cX4_clear 7 = .ok (.aload_n 0, 1) := by decide +kernel
theorem dX4_clear_8 : decode cX4_clear 8 = .ok (.getfield 21, 3) := by decide +kernel
theorem dX4_clear_11 : decode cX4_clear 11 = .ok (.invokevirtual 49, 3) := by decide +kernel
theorem dX4_clear_14 : decode cX4_clear 14 = .ok (.iconst 0, 1) := by decide +kernel
theorem dX4_clear_15 : decode cX4_clear 15 = .ok (.istore_n 1, 1) := by decide +kernel
theorem dX4_clear_16 : decode cX4_clear 16 = .ok (.iload_n 1, 1) := by decide +kernel
theorem dX4_clear_17 : decode cX4_clear 17 = .ok (.iconst 4, 1) := by decide +kernel
theorem dX4_clear_18 : decode cX4_clear 18 = .ok (.if_icmp .ge 17, 3) := by decide +kernel
theorem dX4_clear_21 : decode cX4_clear 21 = .ok (.aload_n 0, 1) := by decide +kernel
theorem dX4_clear_22 : decode cX4_clear 22 = .ok (.getfield 25, 3) := by decide +kernel
theorem dX4_clear_25 : decode cX4_clear 25 = .ok (.iload_n 1, 1) := by decide +kernel
theorem dX4_clear_26 : decode cX4_clear 26 = .ok (.bipush 7, 2) := by decide +kernel
theorem dX4_clear_28 : decode cX4_clear 28 = .ok (.iastore, 1) := by decide +kernel
theorem dX4_clear_29 : decode cX4_clear 29 = .ok (.iinc 1 1, 3) := by decide +kernel
theorem dX4_clear_32 : decode cX4_clear 32 = .ok (.goto (-16), 3) := by decide +kernel
theorem dX4_clear_35 : decode cX4_clear 35 = .ok (.aload_n 0, 1) := by decide +kernel
theorem dX4_clear_36 : decode cX4_clear 36 = .ok (.iconst 4, 1) := by decide +kernel
theorem dX4_clear_37 : decode cX4_clear 37 = .ok (.putfield 42, 3) := by decide +kernel
theorem dX4_clear_40 : decode cX4_clear 40 = .ok (.return_, 1) := by decide +kernel
theorem dX4_tone_0 : decode cX4_tone 0 = .ok (.aload_n 0, 1) := by decide +kernel
theorem dX4_tone_1 : decode cX4_tone 1 = .ok (.getfield 12, 3) := by decide +kernel
theorem dX4_tone_4 : decode cX4_tone 4 = .ok (.iload_n 1, 1) := by decide +kernel
theorem dX4_tone_5 : decode cX4_tone 5 = .ok (.aload_n 0, 1) := by decide +kernel
theorem dX4_tone_6 : decode cX4_tone 6 = .ok (.getfield 25, 3) := by decide +kernel
theorem dX4_tone_9 : decode cX4_tone 9 = .ok (.aload_n 0, 1) := by decide +kernel
theorem dX4_tone_10 : decode cX4_tone 10 = .ok (.getfield 12, 3) := by decide +kernel
theorem dX4_tone_13 : decode cX4_tone 13 = .ok (.iload_n 1, 1) := by decide +kernel
theorem dX4_tone_14 : decode cX4_tone 14 = .ok (.invokevirtual 50, 3) := by decide +kernel
theorem dX4_tone_17 : decode cX4_tone 17 = .ok (.iconst 3, 1) := by decide +kernel
theorem dX4_tone_18 : decode cX4_tone 18 = .ok (.iand, 1) := by decide +kernel
theorem dX4_tone_19 : decode cX4_tone 19 = .ok (.iaload, 1) := by decide +kernel
theorem dX4_tone_20 : decode cX4_tone 20 = .ok (.invokevirtual 54, 3) := by decide +kernel
theorem dX4_tone_23 : decode cX4_tone 23 = .ok (.ireturn, 1) := by decide +kernel
theorem dX4_hindrance_0 : decode cX4_hindrance 0 = .ok (.aload_n 0, 1) := by decide +kernel
theorem dX4_hindrance_1 : decode cX4_hindrance 1 = .ok (.getfield 12, 3) := by decide +kernel
theorem dX4_hindrance_4 : decode cX4_hindrance 4 = .ok (.iload_n 1, 1) := by decide +kernel
theorem dX4_hindrance_5 : decode cX4_hindrance 5 = .ok (.invokevirtual 58, 3) := by decide +kernel
theorem dX4_hindrance_8 : decode cX4_hindrance 8 = .ok (.istore_n 2, 1) := by decide +kernel
theorem dX4_hindrance_9 : decode cX4_hindrance 9 = .ok (.iload_n 2, 1) := by decide +kernel
theorem dX4_hindrance_10 : decode cX4_hindrance 10 = .ok (.iconst (-1), 1) := by decide +kernel
theorem dX4_hindrance_11 : decode cX4_hindrance 11 = .ok (.if_icmp .ne 5, 3) := by decide +kernel
theorem dX4_hindrance_14 : decode cX4_hindrance 14 = .ok (.iconst 1, 1) := by decide +kernel
theorem dX4_hindrance_15 : decode cX4_hindrance 15 = .ok (.ireturn, 1) := by decide +kernel
theorem dX4_hindrance_16 : decode cX4_hindrance 16 = .ok (.aload_n 0, 1) := by decide +kernel
theorem dX4_hindrance_17 : decode cX4_hindrance 17 = .ok (.getfield 12, 3) := by decide +kernel
theorem dX4_hindrance_20 : decode cX4_hindrance 20 = .ok (.iload_n 1, 1) := by decide +kernel
theorem dX4_hindrance_21 : decode cX4_hindrance 21 = .ok (.invokevirtual 61, 3) := by decide +kernel
theorem dX4_hindrance_24 : decode cX4_hindrance 24 = .ok (.ifCond .eq 5, 3) := by decide +kernel
theorem dX4_hindrance_27 : decode cX4_hindrance 27 = .ok (.iconst 2, 1) := by decide +kernel
theorem dX4_hindrance_28 : decode cX4_hindrance 28 = .ok (.ireturn, 1) := by decide +kernel
theorem dX4_hindrance_29 : decode cX4_hindrance 29 = .ok (.aload_n 0, 1) := by decide +kernel
theorem dX4_hindrance_30 : decode cX4_hindrance 30 = .ok (.getfield 21, 3) := by decide +kernel
theorem dX4_hindrance_33 : decode cX4_hindrance 33 = .ok (.iload_n 1, 1) := by decide +kernel
theorem dX4_hindrance_34 : decode cX4_hindrance 34 = .ok (.invokevirtual 65, 3) := by decide +kernel
theorem dX4_hindrance_37 : decode cX4_hindrance 37 = .ok (.ifCond .ne 5, 3) := by decide +kernel
theorem dX4_hindrance_40 : decode cX4_hindrance 40 = .ok (.iconst 3, 1) := by decide +kernel
theorem dX4_hindrance_41 : decode cX4_hindrance 41 = .ok (.ireturn, 1) := by decide +kernel
theorem dX4_hindrance_42 : decode cX4_hindrance 42 = .ok (.aload_n 0, 1) := by decide +kernel
theorem dX4_hindrance_43 : decode cX4_hindrance 43 = .ok (.getfield 21, 3) := by decide +kernel
theorem dX4_hindrance_46 : decode cX4_hindrance 46 = .ok (.iload_n 2, 1) := by decide +kernel
theorem dX4_hindrance_47 : decode cX4_hindrance 47 = .ok (.invokevirtual 65, 3) := by decide +kernel
theorem dX4_hindrance_50 : decode cX4_hindrance 50 = .ok (.ifCond .eq 7, 3) := by decide +kernel
theorem dX4_hindrance_53 : decode cX4_hindrance 53 = .ok (.iconst 0, 1) := by decide +kernel
theorem dX4_hindrance_54 : decode cX4_hindrance 54 = .ok (.goto 4, 3) := by decide +kernel
theorem dX4_hindrance_57 : decode cX4_hindrance 57 = .ok (.iconst 4, 1) := by decide +kernel
theorem dX4_hindrance_58 : decode cX4_hindrance 58 = .ok (.ireturn, 1) := by decide +kernel
theorem dX4_steepestBeginning_0 : decode cX4_steepestBeginning 0 = .ok (.iconst (-1), 1) := by decide +kernel
theorem dX4_steepestBeginning_1 : decode cX4_steepestBeginning 1 = .ok (.istore_n 1, 1) := by decide +kernel
theorem dX4_steepestBeginning_2 : decode cX4_steepestBeginning 2 = .ok (.iconst (-1), 1) := by decide +kernel
theorem dX4_steepestBeginning_3 : decode cX4_steepestBeginning 3 = .ok (.istore_n 2, 1) := by decide +kernel
theorem dX4_steepestBeginning_4 : decode cX4_steepestBeginning 4 = .ok (.iconst 0, 1) := by decide +kernel
theorem dX4_steepestBeginning_5 : decode cX4_steepestBeginning 5 = .ok (.istore_n 3, 1) := by decide +kernel
theorem dX4_steepestBeginning_6 : decode cX4_steepestBeginning 6 = .ok (.iload_n 3, 1) := by decide +kernel
theorem dX4_steepestBeginning_7 : decode cX4_steepestBeginning 7 = .ok (.bipush 81, 2) := by decide +kernel
theorem dX4_steepestBeginning_9 : decode cX4_steepestBeginning 9 = .ok (.if_icmp .ge 51, 3) := by decide +kernel
theorem dX4_steepestBeginning_12 : decode cX4_steepestBeginning 12 = .ok (.aload_n 0, 1) := by decide +kernel
theorem dX4_steepestBeginning_13 : decode cX4_steepestBeginning 13 = .ok (.getfield 12, 3) := by decide +kernel
theorem dX4_steepestBeginning_16 : decode cX4_steepestBeginning 16 = .ok (.iload_n 3, 1) := by decide +kernel
theorem dX4_steepestBeginning_17 : decode cX4_steepestBeginning 17 = .ok (.invokevirtual 68, 3) := by decide +kernel
theorem dX4_steepestBeginning_20 : decode cX4_steepestBeginning 20 = .ok (.ifCond .eq 34, 3) := by decide +kernel
theorem dX4_steepestBeginning_23 : decode cX4_steepestBeginning 23 = .ok (.aload_n 0, 1) := by decide +kernel
theorem dX4_steepestBeginning_24 : decode cX4_steepestBeginning 24 = .ok (.getfield 12, 3) := by decide +kernel
theorem dX4_steepestBeginning_27 : decode cX4_steepestBeginning 27 = .ok (.iload_n 3, 1) := by decide +kernel
theorem dX4_steepestBeginning_28 : decode cX4_steepestBeginning 28 = .ok (.invokevirtual 71, 3) := by decide +kernel
theorem dX4_steepestBeginning_31 : decode cX4_steepestBeginning 31 = .ok (.iload_n 2, 1) := by decide +kernel
theorem dX4_steepestBeginning_32 : decode cX4_steepestBeginning 32 = .ok (.if_icmp .le 22, 3) := by decide +kernel
theorem dX4_steepestBeginning_35 : decode cX4_steepestBeginning 35 = .ok (.aload_n 0, 1) := by decide +kernel
theorem dX4_steepestBeginning_36 : decode cX4_steepestBeginning 36 = .ok (.iload_n 3, 1) := by decide +kernel
