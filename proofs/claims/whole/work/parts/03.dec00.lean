theorem dJ6_numberOfTrailingZeros_0f7a4_0 : decode cJ6_numberOfTrailingZeros_0f7a4 0 = .ok (.iload_n 0, 1) := by decide +kernel
theorem dJ6_numberOfTrailingZeros_0f7a4_1 : decode cJ6_numberOfTrailingZeros_0f7a4 1 = .ok (.iconst (-1), 1) := by decide +kernel
theorem dJ6_numberOfTrailingZeros_0f7a4_2 : decode cJ6_numberOfTrailingZeros_0f7a4 2 = .ok (.ixor, 1) := by decide +kernel
theorem dJ6_numberOfTrailingZeros_0f7a4_3 : decode cJ6_numberOfTrailingZeros_0f7a4 3 = .ok (.iload_n 0, 1) := by decide +kernel
theorem dJ6_numberOfTrailingZeros_0f7a4_4 : decode cJ6_numberOfTrailingZeros_0f7a4 4 = .ok (.iconst 1, 1) := by decide +kernel
theorem dJ6_numberOfTrailingZeros_0f7a4_5 : decode cJ6_numberOfTrailingZeros_0f7a4 5 = .ok (.isub, 1) := by decide +kernel
theorem dJ6_numberOfTrailingZeros_0f7a4_6 : decode cJ6_numberOfTrailingZeros_0f7a4 6 = .ok (.iand, 1) := by decide +kernel
theorem dJ6_numberOfTrailingZeros_0f7a4_7 : decode cJ6_numberOfTrailingZeros_0f7a4 7 = .ok (.istore_n 0, 1) := by decide +kernel
theorem dJ6_numberOfTrailingZeros_0f7a4_8 : decode cJ6_numberOfTrailingZeros_0f7a4 8 = .ok (.iload_n 0, 1) := by decide +kernel
theorem dJ6_numberOfTrailingZeros_0f7a4_9 : decode cJ6_numberOfTrailingZeros_0f7a4 9 = .ok (.ifCond .gt 8, 3) := by decide +kernel
theorem dJ6_numberOfTrailingZeros_0f7a4_12 : decode cJ6_numberOfTrailingZeros_0f7a4 12 = .ok (.iload_n 0, 1) := by decide +kernel
theorem dJ6_numberOfTrailingZeros_0f7a4_13 : decode cJ6_numberOfTrailingZeros_0f7a4 13 = .ok (.bipush 32, 2) := by decide +kernel
theorem dJ6_numberOfTrailingZeros_0f7a4_15 : decode cJ6_numberOfTrailingZeros_0f7a4 15 = .ok (.iand, 1) := by decide +kernel
theorem dJ6_numberOfTrailingZeros_0f7a4_16 : decode cJ6_numberOfTrailingZeros_0f7a4 16 = .ok (.ireturn, 1) := by decide +kernel
theorem dJ6_numberOfTrailingZeros_0f7a4_17 : decode cJ6_numberOfTrailingZeros_0f7a4 17 = .ok (.iconst 1, 1) := by decide +kernel
theorem dJ6_numberOfTrailingZeros_0f7a4_18 : decode cJ6_numberOfTrailingZeros_0f7a4 18 = .ok (.istore_n 1, 1) := by decide +kernel
theorem dJ6_numberOfTrailingZeros_0f7a4_19 : decode cJ6_numberOfTrailingZeros_0f7a4 19 = .ok (.iload_n 0, 1) := by decide +kernel
theorem dJ6_numberOfTrailingZeros_0f7a4_20 : decode cJ6_numberOfTrailingZeros_0f7a4 20 = .ok (.ldc_w 264, 3) := by decide +kernel
theorem dJ6_numberOfTrailingZeros_0f7a4_23 : decode cJ6_numberOfTrailingZeros_0f7a4 23 = .ok (.if_icmp .le 11, 3) := by decide +kernel
theorem dJ6_numberOfTrailingZeros_0f7a4_26 : decode cJ6_numberOfTrailingZeros_0f7a4 26 = .ok (.iinc 1 16, 3) := by decide +kernel
theorem dJ6_numberOfTrailingZeros_0f7a4_29 : decode cJ6_numberOfTrailingZeros_0f7a4 29 = .ok (.iload_n 0, 1) := by decide +kernel
theorem dJ6_numberOfTrailingZeros_0f7a4_30 : decode cJ6_numberOfTrailingZeros_0f7a4 30 = .ok (.bipush 16, 2) := by decide +kernel
theorem dJ6_numberOfTrailingZeros_0f7a4_32 : decode cJ6_numberOfTrailingZeros_0f7a4 32 = .ok (.iushr, 1) := by decide +kernel
theorem dJ6_numberOfTrailingZeros_0f7a4_33 : decode cJ6_numberOfTrailingZeros_0f7a4 33 = .ok (.istore_n 0, 1) := by decide +kernel
theorem dJ6_numberOfTrailingZeros_0f7a4_34 : decode cJ6_numberOfTrailingZeros_0f7a4 34 = .ok (.iload_n 0, 1) := by decide +kernel
theorem dJ6_numberOfTrailingZeros_0f7a4_35 : decode cJ6_numberOfTrailingZeros_0f7a4 35 = .ok (.sipush 256, 3) := by decide +kernel
theorem dJ6_numberOfTrailingZeros_0f7a4_38 : decode cJ6_numberOfTrailingZeros_0f7a4 38 = .ok (.if_icmp .le 11, 3) := by decide +kernel
theorem dJ6_numberOfTrailingZeros_0f7a4_41 : decode cJ6_numberOfTrailingZeros_0f7a4 41 = .ok (.iinc 1 8, 3) := by decide +kernel
theorem dJ6_numberOfTrailingZeros_0f7a4_44 : decode cJ6_numberOfTrailingZeros_0f7a4 44 = .ok (.iload_n 0, 1) := by decide +kernel
theorem dJ6_numberOfTrailingZeros_0f7a4_45 : decode cJ6_numberOfTrailingZeros_0f7a4 45 = .ok (.bipush 8, 2) := by decide +kernel
theorem dJ6_numberOfTrailingZeros_0f7a4_47 : decode cJ6_numberOfTrailingZeros_0f7a4 47 = .ok (.iushr, 1) := by decide +kernel
theorem dJ6_numberOfTrailingZeros_0f7a4_48 : decode cJ6_numberOfTrailingZeros_0f7a4 48 = .ok (.istore_n 0, 1) := by decide +kernel
theorem dJ6_numberOfTrailingZeros_0f7a4_49 : decode cJ6_numberOfTrailingZeros_0f7a4 49 = .ok (.iload_n 0, 1) := by decide +kernel
theorem dJ6_numberOfTrailingZeros_0f7a4_50 : decode cJ6_numberOfTrailingZeros_0f7a4 50 = .ok (.bipush 16, 2) := by decide +kernel
theorem dJ6_numberOfTrailingZeros_0f7a4_52 : decode cJ6_numberOfTrailingZeros_0f7a4 52 = .ok (.if_icmp .le 10, 3) := by decide +kernel
theorem dJ6_numberOfTrailingZeros_0f7a4_55 : decode cJ6_numberOfTrailingZeros_0f7a4 55 = .ok (.iinc 1 4, 3) := by decide +kernel
theorem dJ6_numberOfTrailingZeros_0f7a4_58 : decode cJ6_numberOfTrailingZeros_0f7a4 58 = .ok (.iload_n 0, 1) := by decide +kernel
theorem dJ6_numberOfTrailingZeros_0f7a4_59 : decode cJ6_numberOfTrailingZeros_0f7a4 59 = .ok (.iconst 4, 1) := by decide +kernel
theorem dJ6_numberOfTrailingZeros_0f7a4_60 : decode cJ6_numberOfTrailingZeros_0f7a4 60 = .ok (.iushr, 1) := by decide +kernel
theorem dJ6_numberOfTrailingZeros_0f7a4_61 : decode cJ6_numberOfTrailingZeros_0f7a4 61 = .ok (.istore_n 0, 1) := by decide +kernel
theorem dJ6_numberOfTrailingZeros_0f7a4_62 : decode cJ6_numberOfTrailingZeros_0f7a4 62 = .ok (.iload_n 0, 1) := by decide +kernel
theorem dJ6_numberOfTrailingZeros_0f7a4_63 : decode cJ6_numberOfTrailingZeros_0f7a4 63 = .ok (.iconst 4, 1) := by decide +kernel
theorem dJ6_numberOfTrailingZeros_0f7a4_64 : decode cJ6_numberOfTrailingZeros_0f7a4 64 = .ok (.if_icmp .le 10, 3) := by decide +kernel
theorem dJ6_numberOfTrailingZeros_0f7a4_67 : decode cJ6_numberOfTrailingZeros_0f7a4 67 = .ok (.iinc 1 2, 3) := by decide +kernel
theorem dJ6_numberOfTrailingZeros_0f7a4_70 : decode cJ6_numberOfTrailingZeros_0f7a4 70 = .ok (.iload_n 0, 1) := by decide +kernel
theorem dJ6_numberOfTrailingZeros_0f7a4_71 : decode cJ6_numberOfTrailingZeros_0f7a4 71 = .ok (.iconst 2, 1) := by decide +kernel
theorem dJ6_numberOfTrailingZeros_0f7a4_72 : decode cJ6_numberOfTrailingZeros_0f7a4 72 = .ok (.iushr, 1) := by decide +kernel
theorem dJ6_numberOfTrailingZeros_0f7a4_73 : decode cJ6_numberOfTrailingZeros_0f7a4 73 = .ok (.istore_n 0, 1) := by decide +kernel
theorem dJ6_numberOfTrailingZeros_0f7a4_74 : decode cJ6_numberOfTrailingZeros_0f7a4 74 = .ok (.iload_n 1, 1) := by decide +kernel
theorem dJ6_numberOfTrailingZeros_0f7a4_75 : decode cJ6_numberOfTrailingZeros_0f7a4 75 = .ok (.iload_n 0, 1) := by decide +kernel
theorem dJ6_numberOfTrailingZeros_0f7a4_76 : decode cJ6_numberOfTrailingZeros_0f7a4 76 = .ok (.iconst 1, 1) := by decide +kernel
theorem dJ6_numberOfTrailingZeros_0f7a4_77 : decode cJ6_numberOfTrailingZeros_0f7a4 77 = .ok (.iushr, 1) := by decide +kernel
theorem dJ6_numberOfTrailingZeros_0f7a4_78 : decode cJ6_numberOfTrailingZeros_0f7a4 78 = .ok (.iadd, 1) := by decide +kernel
theorem dJ6_numberOfTrailingZeros_0f7a4_79 : decode cJ6_numberOfTrailingZeros_0f7a4 79 = .ok (.ireturn, 1) := by decide +kernel
theorem dJ6_bitCount_0f7a4_0 : decode cJ6_bitCount_0f7a4 0 = .ok (.iload_n 0, 1) := by decide +kernel
theorem dJ6_bitCount_0f7a4_1 : decode cJ6_bitCount_0f7a4 1 = .ok (.iload_n 0, 1) := by decide +kernel
theorem dJ6_bitCount_0f7a4_2 : decode cJ6_bitCount_0f7a4 2 = .ok (.iconst 1, 1) := by decide +kernel
theorem dJ6_bitCount_0f7a4_3 : decode cJ6_bitCount_0f7a4 3 = .ok (.iushr, 1) := by decide +kernel
theorem dJ6_bitCount_0f7a4_4 : decode cJ6_bitCount_0f7a4 4 = .ok (.ldc_w 265, 3) := by decide +kernel
theorem dJ6_bitCount_0f7a4_7 : decode cJ6_bitCount_0f7a4 7 = .ok (.iand, 1) := by decide +kernel
theorem dJ6_bitCount_0f7a4_8 : decode cJ6_bitCount_0f7a4 8 = .ok (.isub, 1) := by decide +kernel
theorem dJ6_bitCount_0f7a4_9 : decode cJ6_bitCount_0f7a4 9 = .ok (.istore_n 0, 1) := by decide +kernel
theorem dJ6_bitCount_0f7a4_10 : decode cJ6_bitCount_0f7a4 10 = .ok (.iload_n 0, 1) := by decide +kernel
theorem dJ6_bitCount_0f7a4_11 : decode cJ6_bitCount_0f7a4 11 = .ok (.ldc_w 266, 3) := by decide +kernel
theorem dJ6_bitCount_0f7a4_14 : decode cJ6_bitCount_0f7a4 14 = .ok (.iand, 1) := by decide +kernel
theorem dJ6_bitCount_0f7a4_15 : decode cJ6_bitCount_0f7a4 15 = .ok (.iload_n 0, 1) := by decide +kernel
theorem dJ6_bitCount_0f7a4_16 : decode cJ6_bitCount_0f7a4 16 = .ok (.iconst 2, 1) := by decide +kernel
theorem dJ6_bitCount_0f7a4_17 : decode cJ6_bitCount_0f7a4 17 = .ok (.iushr, 1) := by decide +kernel
theorem dJ6_bitCount_0f7a4_18 : decode cJ6_bitCount_0f7a4 18 = .ok (.ldc_w 266, 3) := by decide +kernel
theorem dJ6_bitCount_0f7a4_21 : decode cJ6_bitCount_0f7a4 21 = .ok (.iand, 1) := by decide +kernel
theorem dJ6_bitCount_0f7a4_22 : decode cJ6_bitCount_0f7a4 22 = .ok (.iadd, 1) := by decide +kernel
theorem dJ6_bitCount_0f7a4_23 : decode cJ6_bitCount_0f7a4 23 = .ok (.istore_n 0, 1) := by decide +kernel
theorem dJ6_bitCount_0f7a4_24 : decode cJ6_bitCount_0f7a4 24 = .ok (.iload_n 0, 1) := by decide +kernel
theorem dJ6_bitCount_0f7a4_25 : decode cJ6_bitCount_0f7a4 25 = .ok (.iload_n 0, 1) := by decide +kernel
theorem dJ6_bitCount_0f7a4_26 : decode cJ6_bitCount_0f7a4 26 = .ok (.iconst 4, 1) := by decide +kernel
theorem dJ6_bitCount_0f7a4_27 : decode cJ6_bitCount_0f7a4 27 = .ok (.iushr, 1) := by decide +kernel
theorem dJ6_bitCount_0f7a4_28 : decode cJ6_bitCount_0f7a4 28 = .ok (.iadd, 1) := by decide +kernel
theorem dJ6_bitCount_0f7a4_29 : decode cJ6_bitCount_0f7a4 29 = .ok (.ldc_w 267, 3) := by decide +kernel
theorem dJ6_bitCount_0f7a4_32 : decode cJ6_bitCount_0f7a4 32 = .ok (.iand, 1) := by decide +kernel
theorem dJ6_bitCount_0f7a4_33 : decode cJ6_bitCount_0f7a4 33 = .ok (.istore_n 0, 1) := by decide +kernel
theorem dJ6_bitCount_0f7a4_34 : decode cJ6_bitCount_0f7a4 34 = .ok (.iload_n 0, 1) := by decide +kernel
theorem dJ6_bitCount_0f7a4_35 : decode cJ6_bitCount_0f7a4 35 = .ok (.iload_n 0, 1) := by decide +kernel
theorem dJ6_bitCount_0f7a4_36 : decode cJ6_bitCount_0f7a4 36 = .ok (.bipush 8, 2) := by decide +kernel
theorem dJ6_bitCount_0f7a4_38 : decode cJ6_bitCount_0f7a4 38 = .ok (.iushr, 1) := by decide +kernel
theorem dJ6_bitCount_0f7a4_39 : decode cJ6_bitCount_0f7a4 39 = .ok (.iadd, 1) := by decide +kernel
theorem dJ6_bitCount_0f7a4_40 : decode cJ6_bitCount_0f7a4 40 = .ok (.istore_n 0, 1) := by decide +kernel
theorem dJ6_bitCount_0f7a4_41 : decode cJ6_bitCount_0f7a4 41 = .ok (.iload_n 0, 1) := by decide +kernel
theorem dJ6_bitCount_0f7a4_42 : decode cJ6_bitCount_0f7a4 42 = .ok (.iload_n 0, 1) := by decide +kernel
theorem dJ6_bitCount_0f7a4_43 : decode cJ6_bitCount_0f7a4 43 = .ok (.bipush 16, 2) := by decide +kernel
theorem dJ6_bitCount_0f7a4_45 : decode cJ6_bitCount_0f7a4 45 = .ok (.iushr, 1) := by decide +kernel
theorem dJ6_bitCount_0f7a4_46 : decode cJ6_bitCount_0f7a4 46 = .ok (.iadd, 1) := by decide +kernel
theorem dJ6_bitCount_0f7a4_47 : decode cJ6_bitCount_0f7a4 47 = .ok (.istore_n 0, 1) := by decide +kernel
theorem dJ6_bitCount_0f7a4_48 : decode cJ6_bitCount_0f7a4 48 = .ok (.iload_n 0, 1) := by decide +kernel
theorem dJ6_bitCount_0f7a4_49 : decode cJ6_bitCount_0f7a4 49 = .ok (.bipush 63, 2) := by decide +kernel
theorem dJ6_bitCount_0f7a4_51 : decode cJ6_bitCount_0f7a4 51 = .ok (.iand, 1) := by decide +kernel
theorem dJ6_bitCount_0f7a4_52 : decode cJ6_bitCount_0f7a4 52 = .ok (.ireturn, 1) := by decide +kernel
theorem dJ9_max_7cf53_0 : decode cJ9_max_7cf53 0 = .ok (.iload_n 0, 1) := by decide +kernel
theorem dJ9_max_7cf53_1 : decode cJ9_max_7cf53 1 = .ok (.iload_n 1, 1) := by decide +kernel
theorem dJ9_max_7cf53_2 : decode cJ9_max_7cf53 2 = .ok (.if_icmp .lt 7, 3) := by decide +kernel
theorem dJ9_max_7cf53_5 : decode cJ9_max_7cf53 5 = .ok (.iload_n 0, 1) := by decide +kernel
theorem dJ9_max_7cf53_6 : decode cJ9_max_7cf53 6 = .ok (.goto 4, 3) := by decide +kernel
theorem dJ9_max_7cf53_9 : decode cJ9_max_7cf53 9 = .ok (.iload_n 1, 1) := by decide +kernel
theorem dJ9_max_7cf53_10 : decode cJ9_max_7cf53 10 = .ok (.ireturn, 1) := by decide +kernel
theorem dJ9_min_7cf53_0 : decode cJ9_min_7cf53 0 = .ok (.iload_n 0, 1) := by decide +kernel
theorem dJ9_min_7cf53_1 : decode cJ9_min_7cf53 1 = .ok (.iload_n 1, 1) := by decide +kernel
theorem dJ9_min_7cf53_2 : decode cJ9_min_7cf53 2 = .ok (.if_icmp .gt 7, 3) := by decide +kernel
theorem dJ9_min_7cf53_5 : decode cJ9_min_7cf53 5 = .ok (.iload_n 0, 1) := by decide +kernel
theorem dJ9_min_7cf53_6 : decode cJ9_min_7cf53 6 = .ok (.goto 4, 3) := by decide +kernel
theorem dJ9_min_7cf53_9 : decode cJ9_min_7cf53 9 = .ok (.iload_n 1, 1) := by decide +kernel
theorem dJ9_min_7cf53_10 : decode cJ9_min_7cf53 10 = .ok (.ireturn, 1) := by decide +kernel
theorem dX0_init_0 : decode cX0_init 0 = .ok (.aload_n 0, 1) := by decide +kernel
theorem dX0_init_1 : decode cX0_init 1 = .ok (.invokespecial 3, 3) := by decide +kernel
theorem dX0_init_4 : decode cX0_init 4 = .ok (.aload_n 0, 1) := by decide +kernel
theorem dX0_init_5 : decode cX0_init 5 = .ok (.sipush 12000, 3) := by decide +kernel
theorem dX0_init_8 : decode cX0_init 8 = .ok (.newarray .int, 2) := by decide +kernel
theorem dX0_init_10 : decode cX0_init 10 = .ok (.putfield 9, 3) := by decide +kernel
theorem dX0_init_13 : decode cX0_init 13 = .ok (.aload_n 0, 1) := by decide +kernel
theorem dX0_init_14 : decode cX0_init 14 = .ok (.iconst 0, 1) := by decide +kernel
theorem dX0_init_15 : decode cX0_init 15 = .ok (.putfield 15, 3) := by decide +kernel
theorem dX0_init_18 : decode cX0_init 18 = .ok (.aload_n 0, 1) := by decide +kernel
theorem dX0_init_19 : decode cX0_init 19 = .ok (.iconst 0, 1) := by decide +kernel
theorem dX0_init_20 : decode cX0_init 20 = .ok (.putfield 19, 3) := by decide +kernel
theorem dX0_init_23 : decode cX0_init 23 = .ok (.return_, 1) := by decide +kernel
theorem dX0_clear_0 : decode cX0_clear 0 = .ok (.aload_n 0, 1) := by decide +kernel
theorem dX0_clear_1 : decode cX0_clear 1 = .ok (.iconst 0, 1) := by decide +kernel
theorem dX0_clear_2 : decode cX0_clear 2 = .ok (.putfield 15, 3) := by decide +kernel
theorem dX0_clear_5 : decode cX0_clear 5 = .ok (.aload_n 0, 1) := by decide +kernel
theorem dX0_clear_6 : decode cX0_clear 6 = .ok (.iconst 0, 1) := by decide +kernel
theorem dX0_clear_7 : decode cX0_clear 7 = .ok (.putfield 19, 3) := by decide +kernel
theorem dX0_clear_10 : decode cX0_clear 10 = .ok (.return_, 1) := by decide +kernel
theorem dX0_add_0 : decode cX0_add 0 = .ok (.aload_n 0, 1) := by decide +kernel
theorem dX0_add_1 : decode cX0_add 1 = .ok (.getfield 15, 3) := by decide +kernel
theorem dX0_add_4 : decode cX0_add 4 = .ok (.sipush 12000, 3) := by decide +kernel
theorem dX0_add_7 : decode cX0_add 7 = .ok (.if_icmp .lt 9, 3) := by decide +kernel
theorem dX0_add_10 : decode cX0_add 10 = .ok (.aload_n 0, 1) := by decide +kernel
theorem dX0_add_11 : decode cX0_add 11 = .ok (.iconst 1, 1) := by decide +kernel
theorem dX0_add_12 : decode cX0_add 12 = .ok (.putfield 19, 3) := by decide +kernel
theorem dX0_add_15 : decode cX0_add 15 = .ok (.return_, 1) := by decide +kernel
theorem dX0_add_16 : decode cX0_add 16 = .ok (.aload_n 0, 1) := by decide +kernel
theorem dX0_add_17 : decode cX0_add 17 = .ok (.getfield 9, 3) := by decide +kernel
theorem dX0_add_20 : decode cX0_add 20 = .ok (.aload_n 0, 1) := by decide +kernel
theorem dX0_add_21 : decode cX0_add 21 = .ok (.getfield 15, 3) := by decide +kernel
theorem dX0_add_24 : decode cX0_add 24 = .ok (.iload_n 1, 1) := by decide +kernel
theorem dX0_add_25 : decode cX0_add 25 = .ok (.sipush 255, 3) := by decide +kernel
theorem dX0_add_28 : decode cX0_add 28 = .ok (.iand, 1) := by decide +kernel
theorem dX0_add_29 : decode cX0_add 29 = .ok (.iastore, 1) := by decide +kernel
theorem dX0_add_30 : decode cX0_add 30 = .ok (.aload_n 0, 1) := by decide +kernel
theorem dX0_add_31 : decode cX0_add 31 = .ok (.dup, 1) := by decide +kernel
theorem dX0_add_32 : decode cX0_add 32 = .ok (.getfield 15, 3) := by decide +kernel
theorem dX0_add_35 : decode cX0_add 35 = .ok (.iconst 1, 1) := by decide +kernel
theorem dX0_add_36 : decode cX0_add 36 = .ok (.iadd, 1) := by decide +kernel
theorem dX0_add_37 : decode cX0_add 37 = .ok (.putfield 15, 3) := by decide +kernel
theorem dX0_add_40 : decode cX0_add 40 = .ok (.return_, 1) := by decide +kernel
theorem dX0_addTwo_0 : decode cX0_addTwo 0 = .ok (.aload_n 0, 1) := by decide +kernel
theorem dX0_addTwo_1 : decode cX0_addTwo 1 = .ok (.iload_n 1, 1) := by decide +kernel
theorem dX0_addTwo_2 : decode cX0_addTwo 2 = .ok (.invokevirtual 23, 3) := by decide +kernel
theorem dX0_addTwo_5 : decode cX0_addTwo 5 = .ok (.aload_n 0, 1) := by decide +kernel
theorem dX0_addTwo_6 : decode cX0_addTwo 6 = .ok (.iload_n 1, 1) := by decide +kernel
theorem dX0_addTwo_7 : decode cX0_addTwo 7 = .ok (.bipush 8, 2) := by decide +kernel
theorem dX0_addTwo_9 : decode cX0_addTwo 9 = .ok (.ishr, 1) := by decide +kernel
theorem dX0_addTwo_10 : decode cX0_addTwo 10 = .ok (.invokevirtual 23, 3) := by decide +kernel
theorem dX0_addTwo_13 : decode cX0_addTwo 13 = .ok (.return_, 1) := by decide +kernel
theorem dX0_addFour_0 : decode cX0_addFour 0 = .ok (.aload_n 0, 1) := by decide +kernel
theorem dX0_addFour_1 : decode cX0_addFour 1 = .ok (.iload_n 1, 1) := by decide +kernel
theorem dX0_addFour_2 : decode cX0_addFour 2 = .ok (.bipush 24, 2) := by decide +kernel
theorem dX0_addFour_4 : decode cX0_addFour 4 = .ok (.ishr, 1) := by decide +kernel
theorem dX0_addFour_5 : decode cX0_addFour 5 = .ok (.invokevirtual 23, 3) := by decide +kernel
theorem dX0_addFour_8 : decode cX0_addFour 8 = .ok (.aload_n 0, 1) := by decide +kernel
theorem dX0_addFour_9 : decode cX0_addFour 9 = .ok (.iload_n 1, 1) := by decide +kernel
theorem dX0_addFour_10 : decode cX0_addFour 10 = .ok (.bipush 16, 2) := by decide +kernel
theorem dX0_addFour_12 : decode cX0_addFour 12 = .ok (.ishr, 1) := by decide +kernel
theorem dX0_addFour_13 : decode cX0_addFour 13 = .ok (.invokevirtual 23, 3) := by decide +kernel
theorem dX0_addFour_16 : decode cX0_addFour 16 = .ok (.aload_n 0, 1) := by decide +kernel
theorem dX0_addFour_17 : decode cX0_addFour 17 = .ok (.iload_n 1, 1) := by decide +kernel
theorem dX0_addFour_18 : decode cX0_addFour 18 = .ok (.bipush 8, 2) := by decide +kernel
theorem dX0_addFour_20 : decode cX0_addFour 20 = .ok (.ishr, 1) := by decide +kernel
theorem dX0_addFour_21 : decode cX0_addFour 21 = .ok (.invokevirtual 23, 3) := by decide +kernel
theorem dX0_addFour_24 : decode cX0_addFour 24 = .ok (.aload_n 0, 1) := by decide +kernel
theorem dX0_addFour_25 : decode cX0_addFour 25 = .ok (.iload_n 1, 1) := by decide +kernel
theorem dX0_addFour_26 : decode cX0_addFour 26 = .ok (.invokevirtual 23, 3) := by decide +kernel
theorem dX0_addFour_29 : decode cX0_addFour 29 = .ok (.return_, 1) := by decide +kernel
theorem dX0_at_0 : decode cX0_at 0 = .ok (.iload_n 1, 1) := by decide +kernel
theorem dX0_at_1 : decode cX0_at 1 = .ok (.ifCond .lt 20, 3) := by decide +kernel
theorem dX0_at_4 : decode cX0_at 4 = .ok (.iload_n 1, 1) := by decide +kernel
theorem dX0_at_5 : decode cX0_at 5 = .ok (.aload_n 0, 1) := by decide +kernel
theorem dX0_at_6 : decode cX0_at 6 = .ok (.getfield 15, 3) := by decide +kernel
theorem dX0_at_9 : decode cX0_at 9 = .ok (.if_icmp .ge 12, 3) := by decide +kernel
theorem dX0_at_12 : decode cX0_at 12 = .ok (.aload_n 0, 1) := by decide +kernel
theorem dX0_at_13 : decode cX0_at 13 = .ok (.getfield 9, 3) := by decide +kernel
theorem dX0_at_16 : decode cX0_at 16 = .ok (.iload_n 1, 1) := by decide +kernel
theorem dX0_at_17 : decode cX0_at 17 = .ok (.iaload, 1) := by decide +kernel
theorem dX0_at_18 : decode cX0_at 18 = .ok (.goto 4, 3) := by decide +kernel
theorem dX0_at_21 : decode cX0_at 21 = .ok (.iconst (-1), 1) := by decide +kernel
theorem dX0_at_22 : decode cX0_at 22 = .ok (.ireturn, 1) := by decide +kernel
theorem dX0_copyFrom_0 : decode cX0_copyFrom 0 = .ok (.aload_n 1, 1) := by decide +kernel
theorem dX0_copyFrom_1 : decode cX0_copyFrom 1 = .ok (.getfield 9, 3) := by decide +kernel
theorem dX0_copyFrom_4 : decode cX0_copyFrom 4 = .ok (.iconst 0, 1) := by decide +kernel
theorem dX0_copyFrom_5 : decode cX0_copyFrom 5 = .ok (.aload_n 0, 1) := by decide +kernel
theorem dX0_copyFrom_6 : decode cX0_copyFrom 6 = .ok (.getfield 9, 3) := by decide +kernel
theorem dX0_copyFrom_9 : decode cX0_copyFrom 9 = .ok (.iconst 0, 1) := by decide +kernel
theorem dX0_copyFrom_10 : decode cX0_copyFrom 10 = .ok (.aload_n 1, 1) := by decide +kernel
theorem dX0_copyFrom_11 : decode cX0_copyFrom 11 = .ok (.getfield 15, 3) := by decide +kernel
theorem dX0_copyFrom_14 : decode cX0_copyFrom 14 = .ok (.invokestatic 27, 3) := by decide +kernel
theorem dX0_copyFrom_17 : decode cX0_copyFrom 17 = .ok (.aload_n 0, 1) := by decide +kernel
theorem dX0_copyFrom_18 : decode cX0_copyFrom 18 = .ok (.aload_n 1, 1) := by decide +kernel
theorem dX0_copyFrom_19 : decode cX0_copyFrom 19 = .ok (.getfield 15, 3) := by decide +kernel
theorem dX0_copyFrom_22 : decode cX0_copyFrom 22 = .ok (.putfield 15, 3) := by decide +kernel
theorem dX0_copyFrom_25 : decode cX0_copyFrom 25 = .ok (.aload_n 0, 1) := by decide +kernel
theorem dX0_copyFrom_26 : decode cX0_copyFrom 26 = .ok (.aload_n 1, 1) := by decide +kernel
theorem dX0_copyFrom_27 : decode cX0_copyFrom 27 = .ok (.getfield 19, 3) := by decide +kernel
theorem dX0_copyFrom_30 : decode cX0_copyFrom 30 = .ok (.putfield 19, 3) := by decide +kernel
theorem dX0_copyFrom_33 : decode cX0_copyFrom 33 = .ok (.return_, 1) := by decide +kernel
theorem dX1_init_0 : decode cX1_init 0 = .ok (.aload_n 0, 1) := by decide +kernel
theorem dX1_init_1 : decode cX1_init 1 = .ok (.invokespecial 3, 3) := by decide +kernel
theorem dX1_init_4 : decode cX1_init 4 = .ok (.aload_n 0, 1) := by decide +kernel
theorem dX1_init_5 : decode cX1_init 5 = .ok (.new 9, 3) := by decide +kernel
theorem dX1_init_8 : decode cX1_init 8 = .ok (.dup, 1) := by decide +kernel
theorem dX1_init_9 : decode cX1_init 9 = .ok (.invokespecial 11, 3) := by decide +kernel
theorem dX1_init_12 : decode cX1_init 12 = .ok (.putfield 12, 3) := by decide +kernel
theorem dX1_init_15 : decode cX1_init 15 = .ok (.aload_n 0, 1) := by decide +kernel
theorem dX1_init_16 : decode cX1_init 16 = .ok (.sipush 4096, 3) := by decide +kernel
theorem dX1_init_19 : decode cX1_init 19 = .ok (.newarray .int, 2) := by decide +kernel
theorem dX1_init_21 : decode cX1_init 21 = .ok (.putfield 18, 3) := by decide +kernel
theorem dX1_init_24 : decode cX1_init 24 = .ok (.aload_n 0, 1) := by decide +kernel
theorem dX1_init_25 : decode cX1_init 25 = .ok (.sipush 4096, 3) := by decide +kernel
theorem dX1_init_28 : decode cX1_init 28 = .ok (.newarray .int, 2) := by decide +kernel
theorem dX1_init_30 : decode cX1_init 30 = .ok (.putfield 22, 3) := by decide +kernel
theorem dX1_init_33 : decode cX1_init 33 = .ok (.aload_n 0, 1) := by decide +kernel
theorem dX1_init_34 : decode cX1_init 34 = .ok (.sipush 4096, 3) := by decide +kernel
theorem dX1_init_37 : decode cX1_init 37 = .ok (.newarray .int, 2) := by decide +kernel
theorem dX1_init_39 : decode cX1_init 39 = .ok (.putfield 25, 3) := by decide +kernel
theorem dX1_init_42 : decode cX1_init 42 = .ok (.aload_n 0, 1) := by decide +kernel
theorem dX1_init_43 : decode cX1_init 43 = .ok (.sipush 4096, 3) := by decide +kernel
theorem dX1_init_46 : decode cX1_init 46 = .ok (.newarray .int, 2) := by decide +kernel
theorem dX1_init_48 : decode cX1_init 48 = .ok (.putfield 28, 3) := by decide +kernel
theorem dX1_init_51 : decode cX1_init 51 = .ok (.aload_n 0, 1) := by decide +kernel
theorem dX1_init_52 : decode cX1_init 52 = .ok (.sipush 4096, 3) := by decide +kernel
theorem dX1_init_55 : decode cX1_init 55 = .ok (.newarray .int, 2) := by decide +kernel
theorem dX1_init_57 : decode cX1_init 57 = .ok (.putfield 31, 3) := by decide +kernel
theorem dX1_init_60 : decode cX1_init 60 = .ok (.return_, 1) := by decide +kernel
theorem dX1_decode_0 : decode cX1_decode 0 = .ok (.iconst 1, 1) := by decide +kernel
theorem dX1_decode_1 : decode cX1_decode 1 = .ok (.iload_n 1, 1) := by decide +kernel
theorem dX1_decode_2 : decode cX1_decode 2 = .ok (.ishl, 1) := by decide +kernel
theorem dX1_decode_3 : decode cX1_decode 3 = .ok (.istore 4, 2) := by decide +kernel
theorem dX1_decode_5 : decode cX1_decode 5 = .ok (.aload_n 0, 1) := by decide +kernel
theorem dX1_decode_6 : decode cX1_decode 6 = .ok (.iload_n 1, 1) := by decide +kernel
theorem dX1_decode_7 : decode cX1_decode 7 = .ok (.invokevirtual 34, 3) := by decide +kernel
theorem dX1_decode_10 : decode cX1_decode 10 = .ok (.aload_n 0, 1) := by decide +kernel
theorem dX1_decode_11 : decode cX1_decode 11 = .ok (.invokevirtual 38, 3) := by decide +kernel
theorem dX1_decode_14 : decode cX1_decode 14 = .ok (.iload 4, 2) := by decide +kernel
theorem dX1_decode_16 : decode cX1_decode 16 = .ok (.if_icmp .eq 5, 3) := by decide +kernel
theorem dX1_decode_19 : decode cX1_decode 19 = .ok (.iconst 0, 1) := by decide +kernel
theorem dX1_decode_20 : decode cX1_decode 20 = .ok (.ireturn, 1) := by decide +kernel
theorem dX1_decode_21 : decode cX1_decode 21 = .ok (.iconst 0, 1) := by decide +kernel
theorem dX1_decode_22 : decode cX1_decode 22 = .ok (.istore 5, 2) := by decide +kernel
theorem dX1_decode_24 : decode cX1_decode 24 = .ok (.iload 5, 2) := by decide +kernel
theorem dX1_decode_26 : decode cX1_decode 26 = .ok (.aload_n 0, 1) := by decide +kernel
theorem dX1_decode_27 : decode cX1_decode 27 = .ok (.getfield 12, 3) := by decide +kernel
theorem dX1_decode_30 : decode cX1_decode 30 = .ok (.getfield 42, 3) := by decide +kernel
theorem dX1_decode_33 : decode cX1_decode 33 = .ok (.bipush 8, 2) := by decide +kernel
theorem dX1_decode_35 : decode cX1_decode 35 = .ok (.imul, 1) := by decide +kernel
theorem dX1_decode_36 : decode cX1_decode 36 = .ok (.if_icmp .ge 94, 3) := by decide +kernel
theorem dX1_decode_39 : decode cX1_decode 39 = .ok (.aload_n 0, 1) := by decide +kernel
theorem dX1_decode_40 : decode cX1_decode 40 = .ok (.invokevirtual 38, 3) := by decide +kernel
theorem dX1_decode_43 : decode cX1_decode 43 = .ok (.istore 6, 2) := by decide +kernel
theorem dX1_decode_45 : decode cX1_decode 45 = .ok (.iload 6, 2) := by decide +kernel
theorem dX1_decode_47 : decode cX1_decode 47 = .ok (.iload 4, 2) := by decide +kernel
theorem dX1_decode_49 : decode cX1_decode 49 = .ok (.iconst 1, 1) := by decide +kernel
theorem dX1_decode_50 : decode cX1_decode 50 = .ok (.iadd, 1) := by decide +kernel
theorem dX1_decode_51 : decode cX1_decode 51 = .ok (.if_icmp .ne 37, 3) := by decide +kernel
theorem dX1_decode_54 : decode cX1_decode 54 = .ok (.aload_n 0, 1) := by decide +kernel
theorem dX1_decode_55 : decode cX1_decode 55 = .ok (.getfield 46, 3) := by decide +kernel
theorem dX1_decode_58 : decode cX1_decode 58 = .ok (.iload_n 2, 1) := by decide +kernel
theorem dX1_decode_59 : decode cX1_decode 59 = .ok (.if_icmp .ne 27, 3) := by decide +kernel
theorem dX1_decode_62 : decode cX1_decode 62 = .ok (.aload_n 0, 1) := by decide +kernel
theorem dX1_decode_63 : decode cX1_decode 63 = .ok (.getfield 49, 3) := by decide +kernel
theorem dX1_decode_66 : decode cX1_decode 66 = .ok (.iconst 1, 1) := by decide +kernel
theorem dX1_decode_67 : decode cX1_decode 67 = .ok (.isub, 1) := by decide +kernel
theorem dX1_decode_68 : decode cX1_decode 68 = .ok (.iconst 3, 1) := by decide +kernel
theorem dX1_decode_69 : decode cX1_decode 69 = .ok (.ishr, 1) := by decide +kernel
theorem dX1_decode_70 : decode cX1_decode 70 = .ok (.aload_n 0, 1) := by decide +kernel
theorem dX1_decode_71 : decode cX1_decode 71 = .ok (.getfield 12, 3) := by decide +kernel
theorem dX1_decode_74 : decode cX1_decode 74 = .ok (.getfield 42, 3) := by decide +kernel
theorem dX1_decode_77 : decode cX1_decode 77 = .ok (.iconst 1, 1) := by decide +kernel
theorem dX1_decode_78 : decode cX1_decode 78 = .ok (.isub, 1) := by decide +kernel
theorem dX1_decode_79 : decode cX1_decode 79 = .ok (.if_icmp .ne 7, 3) := by decide +kernel
theorem dX1_decode_82 : decode cX1_decode 82 = .ok (.iconst 1, 1) := by decide +kernel
theorem dX1_decode_83 : decode cX1_decode 83 = .ok (.goto 4, 3) := by decide +kernel
theorem dX1_decode_86 : decode cX1_decode 86 = .ok (.iconst 0, 1) := by decide +kernel
theorem dX1_decode_87 : decode cX1_decode 87 = .ok (.ireturn, 1) := by decide +kernel
theorem dX1_decode_88 : decode cX1_decode 88 = .ok (.iload 6, 2) := by decide +kernel
theorem dX1_decode_90 : decode cX1_decode 90 = .ok (.iload 4, 2) := by decide +kernel
theorem dX1_decode_92 : decode cX1_decode 92 = .ok (.if_icmp .ne 10, 3) := by decide +kernel
theorem dX1_decode_95 : decode cX1_decode 95 = .ok (.aload_n 0, 1) := by decide +kernel
theorem dX1_decode_96 : decode cX1_decode 96 = .ok (.invokevirtual 52, 3) := by decide +kernel
theorem dX1_decode_99 : decode cX1_decode 99 = .ok (.goto 25, 3) := by decide +kernel
theorem dX1_decode_102 : decode cX1_decode 102 = .ok (.aload_n 0, 1) := by decide +kernel
theorem dX1_decode_103 : decode cX1_decode 103 = .ok (.iload 6, 2) := by decide +kernel
theorem dX1_decode_105 : decode cX1_decode 105 = .ok (.invokevirtual 55, 3) := by decide +kernel
theorem dX1_decode_108 : decode cX1_decode 108 = .ok (.ifCond .eq 14, 3) := by decide +kernel
theorem dX1_decode_111 : decode cX1_decode 111 = .ok (.aload_n 0, 1) := by decide +kernel
theorem dX1_decode_112 : decode cX1_decode 112 = .ok (.iload 6, 2) := by decide +kernel
theorem dX1_decode_114 : decode cX1_decode 114 = .ok (.iload_n 2, 1) := by decide +kernel
theorem dX1_decode_115 : decode cX1_decode 115 = .ok (.iload_n 3, 1) := by decide +kernel
theorem dX1_decode_116 : decode cX1_decode 116 = .ok (.invokevirtual 59, 3) := by decide +kernel
theorem dX1_decode_119 : decode cX1_decode 119 = .ok (.ifCond .ne 5, 3) := by decide +kernel
theorem dX1_decode_122 : decode cX1_decode 122 = .ok (.iconst 0, 1) := by decide +kernel
theorem dX1_decode_123 : decode cX1_decode 123 = .ok (.ireturn, 1) := by decide +kernel
theorem dX1_decode_124 : decode cX1_decode 124 = .ok (.iinc 5 1, 3) := by decide +kernel
theorem dX1_decode_127 : decode cX1_decode 127 = .ok (.goto (-103), 3) := by decide +kernel
theorem dX1_decode_130 : decode cX1_decode 130 = .ok (.iconst 0, 1) := by decide +kernel
theorem dX1_decode_131 : decode cX1_decode 131 = .ok (.ireturn, 1) := by decide +kernel
theorem dX1_start_0 : decode cX1_start 0 = .ok (.aload_n 0, 1) := by decide +kernel
theorem dX1_start_1 : decode cX1_start 1 = .ok (.iload_n 1, 1) := by decide +kernel
theorem dX1_start_2 : decode cX1_start 2 = .ok (.putfield 63, 3) := by decide +kernel
theorem dX1_start_5 : decode cX1_start 5 = .ok (.aload_n 0, 1) := by decide +kernel
theorem dX1_start_6 : decode cX1_start 6 = .ok (.iconst 0, 1) := by decide +kernel
theorem dX1_start_7 : decode cX1_start 7 = .ok (.putfield 49, 3) := by decide +kernel
theorem dX1_start_10 : decode cX1_start 10 = .ok (.aload_n 0, 1) := by decide +kernel
theorem dX1_start_11 : decode cX1_start 11 = .ok (.iconst 0, 1) := by decide +kernel
theorem dX1_start_12 : decode cX1_start 12 = .ok (.putfield 46, 3) := by decide +kernel
theorem dX1_start_15 : decode cX1_start 15 = .ok (.iconst 0, 1) := by decide +kernel
theorem dX1_start_16 : decode cX1_start 16 = .ok (.istore_n 2, 1) := by decide +kernel
theorem dX1_start_17 : decode cX1_start 17 = .ok (.iload_n 2, 1) := by decide +kernel
theorem dX1_start_18 : decode cX1_start 18 = .ok (.iconst 1, 1) := by decide +kernel
theorem dX1_start_19 : decode cX1_start 19 = .ok (.aload_n 0, 1) := by decide +kernel
theorem dX1_start_20 : decode cX1_start 20 = .ok (.getfield 63, 3) := by decide +kernel
theorem dX1_start_23 : decode cX1_start 23 = .ok (.ishl, 1) := by decide +kernel
theorem dX1_start_24 : decode cX1_start 24 = .ok (.if_icmp .ge 30, 3) := by decide +kernel
theorem dX1_start_27 : decode cX1_start 27 = .ok (.aload_n 0, 1) := by decide +kernel
theorem dX1_start_28 : decode cX1_start 28 = .ok (.getfield 25, 3) := by decide +kernel
theorem dX1_start_31 : decode cX1_start 31 = .ok (.iload_n 2, 1) := by decide +kernel
theorem dX1_start_32 : decode cX1_start 32 = .ok (.iload_n 2, 1) := by decide +kernel
theorem dX1_start_33 : decode cX1_start 33 = .ok (.iastore, 1) := by decide +kernel
theorem dX1_start_34 : decode cX1_start 34 = .ok (.aload_n 0, 1) := by decide +kernel
theorem dX1_start_35 : decode cX1_start 35 = .ok (.getfield 28, 3) := by decide +kernel
theorem dX1_start_38 : decode cX1_start 38 = .ok (.iload_n 2, 1) := by decide +kernel
theorem dX1_start_39 : decode cX1_start 39 = .ok (.iload_n 2, 1) := by decide +kernel
theorem dX1_start_40 : decode cX1_start 40 = .ok (.iastore, 1) := by decide +kernel
theorem dX1_start_41 : decode cX1_start 41 = .ok (.aload_n 0, 1) := by decide +kernel
theorem dX1_start_42 : decode cX1_start 42 = .ok (.getfield 31, 3) := by decide +kernel
theorem dX1_start_45 : decode cX1_start 45 = .ok (.iload_n 2, 1) := by decide +kernel
theorem dX1_start_46 : decode cX1_start 46 = .ok (.iconst 1, 1) := by decide +kernel
theorem dX1_start_47 : decode cX1_start 47 = .ok (.iastore, 1) := by decide +kernel
theorem dX1_start_48 : decode cX1_start 48 = .ok (.iinc 2 1, 3) := by decide +kernel
theorem dX1_start_51 : decode cX1_start 51 = .ok (.goto (-34), 3) := by decide +kernel
theorem dX1_start_54 : decode cX1_start 54 = .ok (.aload_n 0, 1) := by decide +kernel
theorem dX1_start_55 : decode cX1_start 55 = .ok (.invokevirtual 52, 3) := by decide +kernel
theorem dX1_start_58 : decode cX1_start 58 = .ok (.return_, 1) := by decide +kernel
theorem dX1_forget_0 : decode cX1_forget 0 = .ok (.aload_n 0, 1) := by decide +kernel
theorem dX1_forget_1 : decode cX1_forget 1 = .ok (.aload_n 0, 1) := by decide +kernel
theorem dX1_forget_2 : decode cX1_forget 2 = .ok (.getfield 63, 3) := by decide +kernel
theorem dX1_forget_5 : decode cX1_forget 5 = .ok (.iconst 1, 1) := by decide +kernel
theorem dX1_forget_6 : decode cX1_forget 6 = .ok (.iadd, 1) := by decide +kernel
theorem dX1_forget_7 : decode cX1_forget 7 = .ok (.putfield 66, 3) := by decide +kernel
theorem dX1_forget_10 : decode cX1_forget 10 = .ok (.aload_n 0, 1) := by decide +kernel
theorem dX1_forget_11 : decode cX1_forget 11 = .ok (.iconst 1, 1) := by decide +kernel
theorem dX1_forget_12 : decode cX1_forget 12 = .ok (.aload_n 0, 1) := by decide +kernel
theorem dX1_forget_13 : decode cX1_forget 13 = .ok (.getfield 63, 3) := by decide +kernel
theorem dX1_forget_16 : decode cX1_forget 16 = .ok (.ishl, 1) := by decide +kernel
theorem dX1_forget_17 : decode cX1_forget 17 = .ok (.iconst 2, 1) := by decide +kernel
theorem dX1_forget_18 : decode cX1_forget 18 = .ok (.iadd, 1) := by decide +kernel
theorem dX1_forget_19 : decode cX1_forget 19 = .ok (.putfield 69, 3) := by decide +kernel
theorem dX1_forget_22 : decode cX1_forget 22 = .ok (.aload_n 0, 1) := by decide +kernel
theorem dX1_forget_23 : decode cX1_forget 23 = .ok (.iconst (-1), 1) := by decide +kernel
theorem dX1_forget_24 : decode cX1_forget 24 = .ok (.putfield 72, 3) := by decide +kernel
theorem dX1_forget_27 : decode cX1_forget 27 = .ok (.return_, 1) := by decide +kernel
theorem dX1_nextCode_0 : decode cX1_nextCode 0 = .ok (.aload_n 0, 1) := by decide +kernel
theorem dX1_nextCode_1 : decode cX1_nextCode 1 = .ok (.getfield 49, 3) := by decide +kernel
theorem dX1_nextCode_4 : decode cX1_nextCode 4 = .ok (.aload_n 0, 1) := by decide +kernel
theorem dX1_nextCode_5 : decode cX1_nextCode 5 = .ok (.getfield 66, 3) := by decide +kernel
theorem dX1_nextCode_8 : decode cX1_nextCode 8 = .ok (.iadd, 1) := by decide +kernel
theorem dX1_nextCode_9 : decode cX1_nextCode 9 = .ok (.aload_n 0, 1) := by decide +kernel
theorem dX1_nextCode_10 : decode cX1_nextCode 10 = .ok (.getfield 12, 3) := by decide +kernel
theorem dX1_nextCode_13 : decode cX1_nextCode 13 = .ok (.getfield 42, 3) := by decide +kernel
theorem dX1_nextCode_16 : decode cX1_nextCode 16 = .ok (.bipush 8, 2) := by decide +kernel
theorem dX1_nextCode_18 : decode cX1_nextCode 18 = .ok (.imul, 1) := by decide +kernel
theorem dX1_nextCode_19 : decode cX1_nextCode 19 = .ok (.if_icmp .le 5, 3) := by decide +kernel
theorem dX1_nextCode_22 : decode cX1_nextCode 22 = .ok (.iconst (-1), 1) := by decide +kernel
theorem dX1_nextCode_23 : decode cX1_nextCode 23 = .ok (.ireturn, 1) := by decide +kernel
theorem dX1_nextCode_24 : decode cX1_nextCode 24 = .ok (.aload_n 0, 1) := by decide +kernel
theorem dX1_nextCode_25 : decode cX1_nextCode 25 = .ok (.getfield 49, 3) := by decide +kernel
theorem dX1_nextCode_28 : decode cX1_nextCode 28 = .ok (.iconst 3, 1) := by decide +kernel
theorem dX1_nextCode_29 : decode cX1_nextCode 29 = .ok (.ishr, 1) := by decide +kernel
theorem dX1_nextCode_30 : decode cX1_nextCode 30 = .ok (.istore_n 1, 1) := by decide +kernel
theorem dX1_nextCode_31 : decode cX1_nextCode 31 = .ok (.aload_n 0, 1) := by decide +kernel
theorem dX1_nextCode_32 : decode cX1_nextCode 32 = .ok (.getfield 12, 3) := by decide +kernel
theorem dX1_nextCode_35 : decode cX1_nextCode 35 = .ok (.iload_n 1, 1) := by decide +kernel
theorem dX1_nextCode_36 : decode cX1_nextCode 36 = .ok (.invokevirtual 75, 3) := by decide +kernel
theorem dX1_nextCode_39 : decode cX1_nextCode 39 = .ok (.aload_n 0, 1) := by decide +kernel
theorem dX1_nextCode_40 : decode cX1_nextCode 40 = .ok (.getfield 12, 3) := by decide +kernel
theorem dX1_nextCode_43 : decode cX1_nextCode 43 = .ok (.iload_n 1, 1) := by decide +kernel
theorem dX1_nextCode_44 : decode cX1_nextCode 44 = .ok (.iconst 1, 1) := by decide +kernel
theorem dX1_nextCode_45 : decode cX1_nextCode 45 = .ok (.iadd, 1) := by decide +kernel
theorem dX1_nextCode_46 : decode cX1_nextCode 46 = .ok (.invokevirtual 75, 3) := by decide +kernel
theorem dX1_nextCode_49 : decode cX1_nextCode 49 = .ok (.iconst 0, 1) := by decide +kernel
theorem dX1_nextCode_50 : decode cX1_nextCode 50 = .ok (.invokestatic 79, 3) := by decide +kernel
theorem dX1_nextCode_53 : decode cX1_nextCode 53 = .ok (.bipush 8, 2) := by decide +kernel
theorem dX1_nextCode_55 : decode cX1_nextCode 55 = .ok (.ishl, 1) := by decide +kernel
theorem dX1_nextCode_56 : decode cX1_nextCode 56 = .ok (.ior, 1) := by decide +kernel
theorem dX1_nextCode_57 : decode cX1_nextCode 57 = .ok (.aload_n 0, 1) := by decide +kernel
theorem dX1_nextCode_58 : decode cX1_nextCode 58 = .ok (.getfield 12, 3) := by decide +kernel
theorem dX1_nextCode_61 : decode cX1_nextCode 61 = .ok (.iload_n 1, 1) := by decide +kernel
theorem dX1_nextCode_62 : decode cX1_nextCode 62 = .ok (.iconst 2, 1) := by decide +kernel
theorem dX1_nextCode_63 : decode cX1_nextCode 63 = .ok (.iadd, 1) := by decide +kernel
theorem dX1_nextCode_64 : decode cX1_nextCode 64 = .ok (.invokevirtual 75, 3) := by decide +kernel
theorem dX1_nextCode_67 : decode cX1_nextCode 67 = .ok (.iconst 0, 1) := by decide +kernel
theorem dX1_nextCode_68 : decode cX1_nextCode 68 = .ok (.invokestatic 79, 3) := by decide +kernel
theorem dX1_nextCode_71 : decode cX1_nextCode 71 = .ok (.bipush 16, 2) := by decide +kernel
theorem dX1_nextCode_73 : decode cX1_nextCode 73 = .ok (.ishl, 1) := by decide +kernel
theorem dX1_nextCode_74 : decode cX1_nextCode 74 = .ok (.ior, 1) := by decide +kernel
theorem dX1_nextCode_75 : decode cX1_nextCode 75 = .ok (.istore_n 2, 1) := by decide +kernel
theorem dX1_nextCode_76 : decode cX1_nextCode 76 = .ok (.iload_n 2, 1) := by decide +kernel
theorem dX1_nextCode_77 : decode cX1_nextCode 77 = .ok (.aload_n 0, 1) := by decide +kernel
theorem dX1_nextCode_78 : decode cX1_nextCode 78 = .ok (.getfield 49, 3) := by decide +kernel
theorem dX1_nextCode_81 : decode cX1_nextCode 81 = .ok (.bipush 7, 2) := by decide +kernel
theorem dX1_nextCode_83 : decode cX1_nextCode 83 = .ok (.iand, 1) := by decide +kernel
theorem dX1_nextCode_84 : decode cX1_nextCode 84 = .ok (.ishr, 1) := by decide +kernel
theorem dX1_nextCode_85 : decode cX1_nextCode 85 = .ok (.iconst 1, 1) := by decide +kernel
theorem dX1_nextCode_86 : decode cX1_nextCode 86 = .ok (.aload_n 0, 1) := by decide +kernel
theorem dX1_nextCode_87 : decode cX1_nextCode 87 = .ok (.getfield 66, 3) := by decide +kernel
theorem dX1_nextCode_90 : decode cX1_nextCode 90 = .ok (.ishl, 1) := by decide +kernel
theorem dX1_nextCode_91 : decode cX1_nextCode 91 = .ok (.iconst 1, 1) := by decide +kernel
theorem dX1_nextCode_92 : decode cX1_nextCode 92 = .ok (.isub, 1) := by decide +kernel
theorem dX1_nextCode_93 : decode cX1_nextCode 93 = .ok (.iand, 1) := by decide +kernel
theorem dX1_nextCode_94 : decode cX1_nextCode 94 = .ok (.istore_n 3, 1) := by decide +kernel
theorem dX1_nextCode_95 : decode cX1_nextCode 95 = .ok (.aload_n 0, 1) := by decide +kernel
theorem dX1_nextCode_96 : decode cX1_nextCode 96 = .ok (.dup, 1) := by decide +kernel
theorem dX1_nextCode_97 : decode cX1_nextCode 97 = .ok (.getfield 49, 3) := by decide +kernel
theorem dX1_nextCode_100 : decode cX1_nextCode 100 = .ok (.aload_n 0, 1) := by decide +kernel
theorem dX1_nextCode_101 : decode cX1_nextCode 101 = .ok (.getfield 66, 3) := by decide +kernel
theorem dX1_nextCode_104 : decode cX1_nextCode 104 = .ok (.iadd, 1) := by decide +kernel
theorem dX1_nextCode_105 : decode cX1_nextCode 105 = .ok (.putfield 49, 3) := by decide +kernel
theorem dX1_nextCode_108 : decode cX1_nextCode 108 = .ok (.iload_n 3, 1) := by decide +kernel
theorem dX1_nextCode_109 : decode cX1_nextCode 109 = .ok (.ireturn, 1) := by decide +kernel
theorem dX1_isKnown_0 : decode cX1_isKnown 0 = .ok (.aload_n 0, 1) := by decide +kernel
theorem dX1_isKnown_1 : decode cX1_isKnown 1 = .ok (.getfield 72, 3) := by decide +kernel
theorem dX1_isKnown_4 : decode cX1_isKnown 4 = .ok (.iconst (-1), 1) := by decide +kernel
theorem dX1_isKnown_5 : decode cX1_isKnown 5 = .ok (.if_icmp .eq 17, 3) := by decide +kernel
theorem dX1_isKnown_8 : decode cX1_isKnown 8 = .ok (.aload_n 0, 1) := by decide +kernel
theorem dX1_isKnown_9 : decode cX1_isKnown 9 = .ok (.getfield 69, 3) := by decide +kernel
theorem dX1_isKnown_12 : decode cX1_isKnown 12 = .ok (.sipush 4096, 3) := by decide +kernel
theorem dX1_isKnown_15 : decode cX1_isKnown 15 = .ok (.if_icmp .ge 7, 3) := by decide +kernel
theorem dX1_isKnown_18 : decode cX1_isKnown 18 = .ok (.iconst 1, 1) := by decide +kernel
theorem dX1_isKnown_19 : decode cX1_isKnown 19 = .ok (.goto 4, 3) := by decide +kernel
theorem dX1_isKnown_22 : decode cX1_isKnown 22 = .ok (.iconst 0, 1) := by decide +kernel
theorem dX1_isKnown_23 : decode cX1_isKnown 23 = .ok (.istore_n 2, 1) := by decide +kernel
theorem dX1_isKnown_24 : decode cX1_isKnown 24 = .ok (.iload_n 1, 1) := by decide +kernel
theorem dX1_isKnown_25 : decode cX1_isKnown 25 = .ok (.ifCond .lt 23, 3) := by decide +kernel
theorem dX1_isKnown_28 : decode cX1_isKnown 28 = .ok (.iload_n 1, 1) := by decide +kernel
theorem dX1_isKnown_29 : decode cX1_isKnown 29 = .ok (.aload_n 0, 1) := by decide +kernel
theorem dX1_isKnown_30 : decode cX1_isKnown 30 = .ok (.getfield 69, 3) := by decide +kernel
theorem dX1_isKnown_33 : decode cX1_isKnown 33 = .ok (.if_icmp .gt 15, 3) := by decide +kernel
theorem dX1_isKnown_36 : decode cX1_isKnown 36 = .ok (.iload_n 1, 1) := by decide +kernel
theorem dX1_isKnown_37 : decode cX1_isKnown 37 = .ok (.aload_n 0, 1) := by decide +kernel
theorem dX1_isKnown_38 : decode cX1_isKnown 38 = .ok (.getfield 69, 3) := by decide +kernel
theorem dX1_isKnown_41 : decode cX1_isKnown 41 = .ok (.if_icmp .ne 9, 3) := by decide +kernel
theorem dX1_isKnown_44 : decode cX1_isKnown 44 = .ok (.iload_n 2, 1) := by decide +kernel
theorem dX1_isKnown_45 : decode cX1_isKnown 45 = .ok (.ifCond .ne 5, 3) := by decide +kernel
theorem dX1_isKnown_48 : decode cX1_isKnown 48 = .ok (.iconst 0, 1) := by decide +kernel
theorem dX1_isKnown_49 : decode cX1_isKnown 49 = .ok (.ireturn, 1) := by decide +kernel
theorem dX1_isKnown_50 : decode cX1_isKnown 50 = .ok (.iload_n 2, 1) := by decide +kernel
theorem dX1_isKnown_51 : decode cX1_isKnown 51 = .ok (.ifCond .eq 28, 3) := by decide +kernel
theorem dX1_isKnown_54 : decode cX1_isKnown 54 = .ok (.aload_n 0, 1) := by decide +kernel
theorem dX1_isKnown_55 : decode cX1_isKnown 55 = .ok (.aload_n 0, 1) := by decide +kernel
theorem dX1_isKnown_56 : decode cX1_isKnown 56 = .ok (.getfield 25, 3) := by decide +kernel
theorem dX1_isKnown_59 : decode cX1_isKnown 59 = .ok (.iload_n 1, 1) := by decide +kernel
theorem dX1_isKnown_60 : decode cX1_isKnown 60 = .ok (.aload_n 0, 1) := by decide +kernel
theorem dX1_isKnown_61 : decode cX1_isKnown 61 = .ok (.getfield 69, 3) := by decide +kernel
theorem dX1_isKnown_64 : decode cX1_isKnown 64 = .ok (.if_icmp .ne 10, 3) := by decide +kernel
theorem dX1_isKnown_67 : decode cX1_isKnown 67 = .ok (.aload_n 0, 1) := by decide +kernel
theorem dX1_isKnown_68 : decode cX1_isKnown 68 = .ok (.getfield 72, 3) := by decide +kernel
theorem dX1_isKnown_71 : decode cX1_isKnown 71 = .ok (.goto 4, 3) := by decide +kernel
theorem dX1_isKnown_74 : decode cX1_isKnown 74 = .ok (.iload_n 1, 1) := by decide +kernel
theorem dX1_isKnown_75 : decode cX1_isKnown 75 = .ok (.iaload, 1) := by decide +kernel
theorem dX1_isKnown_76 : decode cX1_isKnown 76 = .ok (.invokevirtual 85, 3) := by decide +kernel
theorem dX1_isKnown_79 : decode cX1_isKnown 79 = .ok (.aload_n 0, 1) := by decide +kernel
theorem dX1_isKnown_80 : decode cX1_isKnown 80 = .ok (.iload_n 1, 1) := by decide +kernel
theorem dX1_isKnown_81 : decode cX1_isKnown 81 = .ok (.putfield 72, 3) := by decide +kernel
theorem dX1_isKnown_84 : decode cX1_isKnown 84 = .ok (.iconst 1, 1) := by decide +kernel
theorem dX1_isKnown_85 : decode cX1_isKnown 85 = .ok (.ireturn, 1) := by decide +kernel
theorem dX1_tell_0 : decode cX1_tell 0 = .ok (.aload_n 0, 1) := by decide +kernel
theorem dX1_tell_1 : decode cX1_tell 1 = .ok (.getfield 22, 3) := by decide +kernel
theorem dX1_tell_4 : decode cX1_tell 4 = .ok (.aload_n 0, 1) := by decide +kernel
theorem dX1_tell_5 : decode cX1_tell 5 = .ok (.getfield 69, 3) := by decide +kernel
theorem dX1_tell_8 : decode cX1_tell 8 = .ok (.aload_n 0, 1) := by decide +kernel
theorem dX1_tell_9 : decode cX1_tell 9 = .ok (.getfield 72, 3) := by decide +kernel
theorem dX1_tell_12 : decode cX1_tell 12 = .ok (.iastore, 1) := by decide +kernel
theorem dX1_tell_13 : decode cX1_tell 13 = .ok (.aload_n 0, 1) := by decide +kernel
theorem dX1_tell_14 : decode cX1_tell 14 = .ok (.getfield 25, 3) := by decide +kernel
theorem dX1_tell_17 : decode cX1_tell 17 = .ok (.aload_n 0, 1) := by decide +kernel
theorem dX1_tell_18 : decode cX1_tell 18 = .ok (.getfield 69, 3) := by decide +kernel
theorem dX1_tell_21 : decode cX1_tell 21 = .ok (.aload_n 0, 1) := by decide +kernel
theorem dX1_tell_22 : decode cX1_tell 22 = .ok (.getfield 25, 3) := by decide +kernel
theorem dX1_tell_25 : decode cX1_tell 25 = .ok (.aload_n 0, 1) := by decide +kernel
theorem dX1_tell_26 : decode cX1_tell 26 = .ok (.getfield 72, 3) := by decide +kernel
theorem dX1_tell_29 : decode cX1_tell 29 = .ok (.iaload, 1) := by decide +kernel
theorem dX1_tell_30 : decode cX1_tell 30 = .ok (.iastore, 1) := by decide +kernel
theorem dX1_tell_31 : decode cX1_tell 31 = .ok (.aload_n 0, 1) := by decide +kernel
theorem dX1_tell_32 : decode cX1_tell 32 = .ok (.getfield 28, 3) := by decide +kernel
theorem dX1_tell_35 : decode cX1_tell 35 = .ok (.aload_n 0, 1) := by decide +kernel
theorem dX1_tell_36 : decode cX1_tell 36 = .ok (.getfield 69, 3) := by decide +kernel
theorem dX1_tell_39 : decode cX1_tell 39 = .ok (.iload_n 1, 1) := by decide +kernel
theorem dX1_tell_40 : decode cX1_tell 40 = .ok (.iastore, 1) := by decide +kernel
theorem dX1_tell_41 : decode cX1_tell 41 = .ok (.aload_n 0, 1) := by decide +kernel
theorem dX1_tell_42 : decode cX1_tell 42 = .ok (.getfield 31, 3) := by decide +kernel
theorem dX1_tell_45 : decode cX1_tell 45 = .ok (.aload_n 0, 1) := by decide +kernel
theorem dX1_tell_46 : decode cX1_tell 46 = .ok (.getfield 69, 3) := by decide +kernel
theorem dX1_tell_49 : decode cX1_tell 49 = .ok (.aload_n 0, 1) := by decide +kernel
theorem dX1_tell_50 : decode cX1_tell 50 = .ok (.getfield 31, 3) := by decide +kernel
theorem dX1_tell_53 : decode cX1_tell 53 = .ok (.aload_n 0, 1) := by decide +kernel
theorem dX1_tell_54 : decode cX1_tell 54 = .ok (.getfield 72, 3) := by decide +kernel
theorem dX1_tell_57 : decode cX1_tell 57 = .ok (.iaload, 1) := by decide +kernel
theorem dX1_tell_58 : decode cX1_tell 58 = .ok (.iconst 1, 1) := by decide +kernel
theorem dX1_tell_59 : decode cX1_tell 59 = .ok (.iadd, 1) := by decide +kernel
theorem dX1_tell_60 : decode cX1_tell 60 = .ok (.iastore, 1) := by decide +kernel
theorem dX1_tell_61 : decode cX1_tell 61 = .ok (.aload_n 0, 1) := by decide +kernel
theorem dX1_tell_62 : decode cX1_tell 62 = .ok (.dup, 1) := by decide +kernel
theorem dX1_tell_63 : decode cX1_tell 63 = .ok (.getfield 69, 3) := by decide +kernel
theorem dX1_tell_66 : decode cX1_tell 66 = .ok (.iconst 1, 1) := by decide +kernel
theorem dX1_tell_67 : decode cX1_tell 67 = .ok (.iadd, 1) := by decide +kernel
theorem dX1_tell_68 : decode cX1_tell 68 = .ok (.putfield 69, 3) := by decide +kernel
theorem dX1_tell_71 : decode cX1_tell 71 = .ok (.aload_n 0, 1) := by decide +kernel
theorem dX1_tell_72 : decode cX1_tell 72 = .ok (.getfield 69, 3) := by decide +kernel
theorem dX1_tell_75 : decode cX1_tell 75 = .ok (.iconst 1, 1) := by decide +kernel
theorem dX1_tell_76 : decode cX1_tell 76 = .ok (.aload_n 0, 1) := by decide +kernel
theorem dX1_tell_77 : decode cX1_tell 77 = .ok (.getfield 66, 3) := by decide +kernel
theorem dX1_tell_80 : decode cX1_tell 80 = .ok (.ishl, 1) := by decide +kernel
theorem dX1_tell_81 : decode cX1_tell 81 = .ok (.if_icmp .ne 22, 3) := by decide +kernel
theorem dX1_tell_84 : decode cX1_tell 84 = .ok (.aload_n 0, 1) := by decide +kernel
theorem dX1_tell_85 : decode cX1_tell 85 = .ok (.getfield 66, 3) := by decide +kernel
theorem dX1_tell_88 : decode cX1_tell 88 = .ok (.bipush 12, 2) := by decide +kernel
theorem dX1_tell_90 : decode cX1_tell 90 = .ok (.if_icmp .ge 13, 3) := by decide +kernel
theorem dX1_tell_93 : decode cX1_tell 93 = .ok (.aload_n 0, 1) := by decide +kernel
theorem dX1_tell_94 : decode cX1_tell 94 = .ok (.dup, 1) := by decide +kernel
theorem dX1_tell_95 : decode cX1_tell 95 = .ok (.getfield 66, 3) := by decide +kernel
theorem dX1_tell_98 : decode cX1_tell 98 = .ok (.iconst 1, 1) := by decide +kernel
theorem dX1_tell_99 : decode cX1_tell 99 = .ok (.iadd, 1) := by decide +kernel
theorem dX1_tell_100 : decode cX1_tell 100 = .ok (.putfield 66, 3) := by decide +kernel
theorem dX1_tell_103 : decode cX1_tell 103 = .ok (.return_, 1) := by decide +kernel
theorem dX1_putOut_0 : decode cX1_putOut 0 = .ok (.aload_n 0, 1) := by decide +kernel
theorem dX1_putOut_1 : decode cX1_putOut 1 = .ok (.getfield 31, 3) := by decide +kernel
theorem dX1_putOut_4 : decode cX1_putOut 4 = .ok (.iload_n 1, 1) := by decide +kernel
theorem dX1_putOut_5 : decode cX1_putOut 5 = .ok (.iaload, 1) := by decide +kernel
theorem dX1_putOut_6 : decode cX1_putOut 6 = .ok (.istore 4, 2) := by decide +kernel
theorem dX1_putOut_8 : decode cX1_putOut 8 = .ok (.iload 4, 2) := by decide +kernel
theorem dX1_putOut_10 : decode cX1_putOut 10 = .ok (.iload_n 2, 1) := by decide +kernel
theorem dX1_putOut_11 : decode cX1_putOut 11 = .ok (.aload_n 0, 1) := by decide +kernel
theorem dX1_putOut_12 : decode cX1_putOut 12 = .ok (.getfield 46, 3) := by decide +kernel
theorem dX1_putOut_15 : decode cX1_putOut 15 = .ok (.isub, 1) := by decide +kernel
theorem dX1_putOut_16 : decode cX1_putOut 16 = .ok (.if_icmp .le 5, 3) := by decide +kernel
theorem dX1_putOut_19 : decode cX1_putOut 19 = .ok (.iconst 0, 1) := by decide +kernel
theorem dX1_putOut_20 : decode cX1_putOut 20 = .ok (.ireturn, 1) := by decide +kernel
theorem dX1_putOut_21 : decode cX1_putOut 21 = .ok (.iload_n 1, 1) := by decide +kernel
theorem dX1_putOut_22 : decode cX1_putOut 22 = .ok (.istore 5, 2) := by decide +kernel
theorem dX1_putOut_24 : decode cX1_putOut 24 = .ok (.iload 4, 2) := by decide +kernel
theorem dX1_putOut_26 : decode cX1_putOut 26 = .ok (.iconst 1, 1) := by decide +kernel
theorem dX1_putOut_27 : decode cX1_putOut 27 = .ok (.isub, 1) := by decide +kernel
theorem dX1_putOut_28 : decode cX1_putOut 28 = .ok (.istore 6, 2) := by decide +kernel
theorem dX1_putOut_30 : decode cX1_putOut 30 = .ok (.iload 6, 2) := by decide +kernel
theorem dX1_putOut_32 : decode cX1_putOut 32 = .ok (.ifCond .lt 60, 3) := by decide +kernel
theorem dX1_putOut_35 : decode cX1_putOut 35 = .ok (.aload_n 0, 1) := by decide +kernel
theorem dX1_putOut_36 : decode cX1_putOut 36 = .ok (.getfield 28, 3) := by decide +kernel
theorem dX1_putOut_39 : decode cX1_putOut 39 = .ok (.iload 5, 2) := by decide +kernel
theorem dX1_putOut_41 : decode cX1_putOut 41 = .ok (.iaload, 1) := by decide +kernel
theorem dX1_putOut_42 : decode cX1_putOut 42 = .ok (.iload_n 3, 1) := by decide +kernel
theorem dX1_putOut_43 : decode cX1_putOut 43 = .ok (.if_icmp .lt 5, 3) := by decide +kernel
theorem dX1_putOut_46 : decode cX1_putOut 46 = .ok (.iconst 0, 1) := by decide +kernel
theorem dX1_putOut_47 : decode cX1_putOut 47 = .ok (.ireturn, 1) := by decide +kernel
theorem dX1_putOut_48 : decode cX1_putOut 48 = .ok (.aload_n 0, 1) := by decide +kernel
theorem dX1_putOut_49 : decode cX1_putOut 49 = .ok (.getfield 18, 3) := by decide +kernel
theorem dX1_putOut_52 : decode cX1_putOut 52 = .ok (.aload_n 0, 1) := by decide +kernel
theorem dX1_putOut_53 : decode cX1_putOut 53 = .ok (.getfield 46, 3) := by decide +kernel
theorem dX1_putOut_56 : decode cX1_putOut 56 = .ok (.iload 6, 2) := by decide +kernel
theorem dX1_putOut_58 : decode cX1_putOut 58 = .ok (.iadd, 1) := by decide +kernel
theorem dX1_putOut_59 : decode cX1_putOut 59 = .ok (.aload_n 0, 1) := by decide +kernel
theorem dX1_putOut_60 : decode cX1_putOut 60 = .ok (.getfield 28, 3) := by decide +kernel
theorem dX1_putOut_63 : decode cX1_putOut 63 = .ok (.iload 5, 2) := by decide +kernel
theorem dX1_putOut_65 : decode cX1_putOut 65 = .ok (.iaload, 1) := by decide +kernel
theorem dX1_putOut_66 : decode cX1_putOut 66 = .ok (.iastore, 1) := by decide +kernel
theorem dX1_putOut_67 : decode cX1_putOut 67 = .ok (.iload 6, 2) := by decide +kernel
theorem dX1_putOut_69 : decode cX1_putOut 69 = .ok (.ifCond .le 13, 3) := by decide +kernel
theorem dX1_putOut_72 : decode cX1_putOut 72 = .ok (.aload_n 0, 1) := by decide +kernel
theorem dX1_putOut_73 : decode cX1_putOut 73 = .ok (.getfield 22, 3) := by decide +kernel
theorem dX1_putOut_76 : decode cX1_putOut 76 = .ok (.iload 5, 2) := by decide +kernel
theorem dX1_putOut_78 : decode cX1_putOut 78 = .ok (.iaload, 1) := by decide +kernel
theorem dX1_putOut_79 : decode cX1_putOut 79 = .ok (.goto 5, 3) := by decide +kernel
theorem dX1_putOut_82 : decode cX1_putOut 82 = .ok (.iload 5, 2) := by decide +kernel
theorem dX1_putOut_84 : decode cX1_putOut 84 = .ok (.istore 5, 2) := by decide +kernel
theorem dX1_putOut_86 : decode cX1_putOut 86 = .ok (.iinc 6 (-1), 3) := by decide +kernel
theorem dX1_putOut_89 : decode cX1_putOut 89 = .ok (.goto (-59), 3) := by decide +kernel
theorem dX1_putOut_92 : decode cX1_putOut 92 = .ok (.aload_n 0, 1) := by decide +kernel
theorem dX1_putOut_93 : decode cX1_putOut 93 = .ok (.dup, 1) := by decide +kernel
theorem dX1_putOut_94 : decode cX1_putOut 94 = .ok (.getfield 46, 3) := by decide +kernel
theorem dX1_putOut_97 : decode cX1_putOut 97 = .ok (.iload 4, 2) := by decide +kernel
theorem dX1_putOut_99 : decode cX1_putOut 99 = .ok (.iadd, 1) := by decide +kernel
theorem dX1_putOut_100 : decode cX1_putOut 100 = .ok (.putfield 46, 3) := by decide +kernel
theorem dX1_putOut_103 : decode cX1_putOut 103 = .ok (.iconst 1, 1) := by decide +kernel
theorem dX1_putOut_104 : decode cX1_putOut 104 = .ok (.ireturn, 1) := by decide +kernel
theorem dX2_init_0 : decode cX2_init 0 = .ok (.aload_n 0, 1) := by decide +kernel
theorem dX2_init_1 : decode cX2_init 1 = .ok (.invokespecial 3, 3) := by decide +kernel
theorem dX2_init_4 : decode cX2_init 4 = .ok (.aload_n 0, 1) := by decide +kernel
theorem dX2_init_5 : decode cX2_init 5 = .ok (.new 9, 3) := by decide +kernel
theorem dX2_init_8 : decode cX2_init 8 = .ok (.dup, 1) := by decide +kernel
theorem dX2_init_9 : decode cX2_init 9 = .ok (.invokespecial 11, 3) := by decide +kernel
theorem dX2_init_12 : decode cX2_init 12 = .ok (.putfield 12, 3) := by decide +kernel
theorem dX2_init_15 : decode cX2_init 15 = .ok (.aload_n 0, 1) := by decide +kernel
theorem dX2_init_16 : decode cX2_init 16 = .ok (.sipush 4096, 3) := by decide +kernel
theorem dX2_init_19 : decode cX2_init 19 = .ok (.newarray .int, 2) := by decide +kernel
theorem dX2_init_21 : decode cX2_init 21 = .ok (.putfield 18, 3) := by decide +kernel
theorem dX2_init_24 : decode cX2_init 24 = .ok (.aload_n 0, 1) := by decide +kernel
theorem dX2_init_25 : decode cX2_init 25 = .ok (.sipush 4096, 3) := by decide +kernel
theorem dX2_init_28 : decode cX2_init 28 = .ok (.newarray .int, 2) := by decide +kernel
theorem dX2_init_30 : decode cX2_init 30 = .ok (.putfield 22, 3) := by decide +kernel
theorem dX2_init_33 : decode cX2_init 33 = .ok (.aload_n 0, 1) := by decide +kernel
theorem dX2_init_34 : decode cX2_init 34 = .ok (.sipush 4096, 3) := by decide +kernel
theorem dX2_init_37 : decode cX2_init 37 = .ok (.newarray .int, 2) := by decide +kernel
theorem dX2_init_39 : decode cX2_init 39 = .ok (.putfield 25, 3) := by decide +kernel
theorem dX2_init_42 : decode cX2_init 42 = .ok (.aload_n 0, 1) := by decide +kernel
theorem dX2_init_43 : decode cX2_init 43 = .ok (.sipush 4096, 3) := by decide +kernel
theorem dX2_init_46 : decode cX2_init 46 = .ok (.newarray .int, 2) := by decide +kernel
theorem dX2_init_48 : decode cX2_init 48 = .ok (.putfield 28, 3) := by decide +kernel
theorem dX2_init_51 : decode cX2_init 51 = .ok (.return_, 1) := by decide +kernel
theorem dX2_encode_0 : decode cX2_encode 0 = .ok (.aload_n 0, 1) := by decide +kernel
theorem dX2_encode_1 : decode cX2_encode 1 = .ok (.iload_n 2, 1) := by decide +kernel
theorem dX2_encode_2 : decode cX2_encode 2 = .ok (.putfield 31, 3) := by decide +kernel
theorem dX2_encode_5 : decode cX2_encode 5 = .ok (.aload_n 0, 1) := by decide +kernel
theorem dX2_encode_6 : decode cX2_encode 6 = .ok (.getfield 12, 3) := by decide +kernel
theorem dX2_encode_9 : decode cX2_encode 9 = .ok (.invokevirtual 35, 3) := by decide +kernel
theorem dX2_encode_12 : decode cX2_encode 12 = .ok (.aload_n 0, 1) := by decide +kernel
theorem dX2_encode_13 : decode cX2_encode 13 = .ok (.iconst 0, 1) := by decide +kernel
theorem dX2_encode_14 : decode cX2_encode 14 = .ok (.putfield 38, 3) := by decide +kernel
theorem dX2_encode_17 : decode cX2_encode 17 = .ok (.aload_n 0, 1) := by decide +kernel
theorem dX2_encode_18 : decode cX2_encode 18 = .ok (.iconst 0, 1) := by decide +kernel
theorem dX2_encode_19 : decode cX2_encode 19 = .ok (.putfield 41, 3) := by decide +kernel
theorem dX2_encode_22 : decode cX2_encode 22 = .ok (.aload_n 0, 1) := by decide +kernel
theorem dX2_encode_23 : decode cX2_encode 23 = .ok (.iconst 0, 1) := by decide +kernel
theorem dX2_encode_24 : decode cX2_encode 24 = .ok (.putfield 44, 3) := by decide +kernel
theorem dX2_encode_27 : decode cX2_encode 27 = .ok (.aload_n 0, 1) := by decide +kernel
theorem dX2_encode_28 : decode cX2_encode 28 = .ok (.aload_n 0, 1) := by decide +kernel
theorem dX2_encode_29 : decode cX2_encode 29 = .ok (.getfield 31, 3) := by decide +kernel
theorem dX2_encode_32 : decode cX2_encode 32 = .ok (.iconst 1, 1) := by decide +kernel
theorem dX2_encode_33 : decode cX2_encode 33 = .ok (.iadd, 1) := by decide +kernel
theorem dX2_encode_34 : decode cX2_encode 34 = .ok (.invokevirtual 47, 3) := by decide +kernel
theorem dX2_encode_37 : decode cX2_encode 37 = .ok (.iconst 0, 1) := by decide +kernel
theorem dX2_encode_38 : decode cX2_encode 38 = .ok (.istore_n 3, 1) := by decide +kernel
theorem dX2_encode_39 : decode cX2_encode 39 = .ok (.iload_n 3, 1) := by decide +kernel
theorem dX2_encode_40 : decode cX2_encode 40 = .ok (.iload_n 1, 1) := by decide +kernel
theorem dX2_encode_41 : decode cX2_encode 41 = .ok (.if_icmp .ge 40, 3) := by decide +kernel
theorem dX2_encode_44 : decode cX2_encode 44 = .ok (.aload_n 0, 1) := by decide +kernel
theorem dX2_encode_45 : decode cX2_encode 45 = .ok (.getfield 44, 3) := by decide +kernel
theorem dX2_encode_48 : decode cX2_encode 48 = .ok (.iload_n 1, 1) := by decide +kernel
theorem dX2_encode_49 : decode cX2_encode 49 = .ok (.if_icmp .ge 32, 3) := by decide +kernel
theorem dX2_encode_52 : decode cX2_encode 52 = .ok (.aload_n 0, 1) := by decide +kernel
theorem dX2_encode_53 : decode cX2_encode 53 = .ok (.getfield 51, 3) := by decide +kernel
theorem dX2_encode_56 : decode cX2_encode 56 = .ok (.sipush 4096, 3) := by decide +kernel
theorem dX2_encode_59 : decode cX2_encode 59 = .ok (.if_icmp .ne 11, 3) := by decide +kernel
theorem dX2_encode_62 : decode cX2_encode 62 = .ok (.aload_n 0, 1) := by decide +kernel
theorem dX2_encode_63 : decode cX2_encode 63 = .ok (.aload_n 0, 1) := by decide +kernel
theorem dX2_encode_64 : decode cX2_encode 64 = .ok (.getfield 54, 3) := by decide +kernel
theorem dX2_encode_67 : decode cX2_encode 67 = .ok (.invokevirtual 47, 3) := by decide +kernel
theorem dX2_encode_70 : decode cX2_encode 70 = .ok (.aload_n 0, 1) := by decide +kernel
theorem dX2_encode_71 : decode cX2_encode 71 = .ok (.iload_n 1, 1) := by decide +kernel
theorem dX2_encode_72 : decode cX2_encode 72 = .ok (.invokevirtual 57, 3) := by decide +kernel
theorem dX2_encode_75 : decode cX2_encode 75 = .ok (.iinc 3 1, 3) := by decide +kernel
theorem dX2_encode_78 : decode cX2_encode 78 = .ok (.goto (-39), 3) := by decide +kernel
theorem dX2_encode_81 : decode cX2_encode 81 = .ok (.aload_n 0, 1) := by decide +kernel
theorem dX2_encode_82 : decode cX2_encode 82 = .ok (.iconst 1, 1) := by decide +kernel
theorem dX2_encode_83 : decode cX2_encode 83 = .ok (.aload_n 0, 1) := by decide +kernel
theorem dX2_encode_84 : decode cX2_encode 84 = .ok (.getfield 31, 3) := by decide +kernel
theorem dX2_encode_87 : decode cX2_encode 87 = .ok (.ishl, 1) := by decide +kernel
theorem dX2_encode_88 : decode cX2_encode 88 = .ok (.iconst 1, 1) := by decide +kernel
theorem dX2_encode_89 : decode cX2_encode 89 = .ok (.iadd, 1) := by decide +kernel
theorem dX2_encode_90 : decode cX2_encode 90 = .ok (.aload_n 0, 1) := by decide +kernel
theorem dX2_encode_91 : decode cX2_encode 91 = .ok (.getfield 54, 3) := by decide +kernel
theorem dX2_encode_94 : decode cX2_encode 94 = .ok (.invokevirtual 60, 3) := by decide +kernel
theorem dX2_encode_97 : decode cX2_encode 97 = .ok (.aload_n 0, 1) := by decide +kernel
theorem dX2_encode_98 : decode cX2_encode 98 = .ok (.getfield 41, 3) := by decide +kernel
theorem dX2_encode_101 : decode cX2_encode 101 = .ok (.ifCond .le 14, 3) := by decide +kernel
theorem dX2_encode_104 : decode cX2_encode 104 = .ok (.aload_n 0, 1) := by decide +kernel
theorem dX2_encode_105 : decode cX2_encode 105 = .ok (.getfield 12, 3) := by decide +kernel
theorem dX2_encode_108 : decode cX2_encode 108 = .ok (.aload_n 0, 1) := by decide +kernel
theorem dX2_encode_109 : decode cX2_encode 109 = .ok (.getfield 38, 3) := by decide +kernel
theorem dX2_encode_112 : decode cX2_encode 112 = .ok (.invokevirtual 64, 3) := by decide +kernel
theorem dX2_encode_115 : decode cX2_encode 115 = .ok (.return_, 1) := by decide +kernel
theorem dX2_putClear_0 : decode cX2_putClear 0 = .ok (.iconst 1, 1) := by decide +kernel
theorem dX2_putClear_1 : decode cX2_putClear 1 = .ok (.aload_n 0, 1) := by decide +kernel
theorem dX2_putClear_2 : decode cX2_putClear 2 = .ok (.getfield 31, 3) := by decide +kernel
theorem dX2_putClear_5 : decode cX2_putClear 5 = .ok (.ishl, 1) := by decide +kernel
theorem dX2_putClear_6 : decode cX2_putClear 6 = .ok (.istore_n 2, 1) := by decide +kernel
theorem dX2_putClear_7 : decode cX2_putClear 7 = .ok (.aload_n 0, 1) := by decide +kernel
theorem dX2_putClear_8 : decode cX2_putClear 8 = .ok (.iload_n 2, 1) := by decide +kernel
theorem dX2_putClear_9 : decode cX2_putClear 9 = .ok (.iload_n 1, 1) := by decide +kernel
theorem dX2_putClear_10 : decode cX2_putClear 10 = .ok (.invokevirtual 60, 3) := by decide +kernel
theorem dX2_putClear_13 : decode cX2_putClear 13 = .ok (.iconst 0, 1) := by decide +kernel
theorem dX2_putClear_14 : decode cX2_putClear 14 = .ok (.istore_n 3, 1) := by decide +kernel
theorem dX2_putClear_15 : decode cX2_putClear 15 = .ok (.iload_n 3, 1) := by decide +kernel
theorem dX2_putClear_16 : decode cX2_putClear 16 = .ok (.iload_n 2, 1) := by decide +kernel
theorem dX2_putClear_17 : decode cX2_putClear 17 = .ok (.if_icmp .ge 16, 3) := by decide +kernel
theorem dX2_putClear_20 : decode cX2_putClear 20 = .ok (.aload_n 0, 1) := by decide +kernel
theorem dX2_putClear_21 : decode cX2_putClear 21 = .ok (.getfield 22, 3) := by decide +kernel
theorem dX2_putClear_24 : decode cX2_putClear 24 = .ok (.iload_n 3, 1) := by decide +kernel
theorem dX2_putClear_25 : decode cX2_putClear 25 = .ok (.iconst (-1), 1) := by decide +kernel
theorem dX2_putClear_26 : decode cX2_putClear 26 = .ok (.iastore, 1) := by decide +kernel
theorem dX2_putClear_27 : decode cX2_putClear 27 = .ok (.iinc 3 1, 3) := by decide +kernel
theorem dX2_putClear_30 : decode cX2_putClear 30 = .ok (.goto (-15), 3) := by decide +kernel
theorem dX2_putClear_33 : decode cX2_putClear 33 = .ok (.aload_n 0, 1) := by decide +kernel
theorem dX2_putClear_34 : decode cX2_putClear 34 = .ok (.aload_n 0, 1) := by decide +kernel
theorem dX2_putClear_35 : decode cX2_putClear 35 = .ok (.getfield 31, 3) := by decide +kernel
theorem dX2_putClear_38 : decode cX2_putClear 38 = .ok (.iconst 1, 1) := by decide +kernel
theorem dX2_putClear_39 : decode cX2_putClear 39 = .ok (.iadd, 1) := by decide +kernel
theorem dX2_putClear_40 : decode cX2_putClear 40 = .ok (.putfield 54, 3) := by decide +kernel
theorem dX2_putClear_43 : decode cX2_putClear 43 = .ok (.aload_n 0, 1) := by decide +kernel
theorem dX2_putClear_44 : decode cX2_putClear 44 = .ok (.iload_n 2, 1) := by decide +kernel
theorem dX2_putClear_45 : decode cX2_putClear 45 = .ok (.iconst 2, 1) := by decide +kernel
theorem dX2_putClear_46 : decode cX2_putClear 46 = .ok (.iadd, 1) := by decide +kernel
theorem dX2_putClear_47 : decode cX2_putClear 47 = .ok (.putfield 51, 3) := by decide +kernel
theorem dX2_putClear_50 : decode cX2_putClear 50 = .ok (.aload_n 0, 1) := by decide +kernel
theorem dX2_putClear_51 : decode cX2_putClear 51 = .ok (.iconst (-1), 1) := by decide +kernel
theorem dX2_putClear_52 : decode cX2_putClear 52 = .ok (.putfield 67, 3) := by decide +kernel
theorem dX2_putClear_55 : decode cX2_putClear 55 = .ok (.return_, 1) := by decide +kernel
theorem dX2_putLongest_0 : decode cX2_putLongest 0 = .ok (.aload_n 0, 1) := by decide +kernel
theorem dX2_putLongest_1 : decode cX2_putLongest 1 = .ok (.getfield 67, 3) := by decide +kernel
theorem dX2_putLongest_4 : decode cX2_putLongest 4 = .ok (.iconst (-1), 1) := by decide +kernel
theorem dX2_putLongest_5 : decode cX2_putLongest 5 = .ok (.if_icmp .eq 7, 3) := by decide +kernel
theorem dX2_putLongest_8 : decode cX2_putLongest 8 = .ok (.iconst 1, 1) := by decide +kernel
theorem dX2_putLongest_9 : decode cX2_putLongest 9 = .ok (.goto 4, 3) := by decide +kernel
theorem dX2_putLongest_12 : decode cX2_putLongest 12 = .ok (.iconst 0, 1) := by decide +kernel
theorem dX2_putLongest_13 : decode cX2_putLongest 13 = .ok (.istore_n 2, 1) := by decide +kernel
theorem dX2_putLongest_14 : decode cX2_putLongest 14 = .ok (.iload_n 2, 1) := by decide +kernel
theorem dX2_putLongest_15 : decode cX2_putLongest 15 = .ok (.ifCond .eq 16, 3) := by decide +kernel
theorem dX2_putLongest_18 : decode cX2_putLongest 18 = .ok (.aload_n 0, 1) := by decide +kernel
theorem dX2_putLongest_19 : decode cX2_putLongest 19 = .ok (.aload_n 0, 1) := by decide +kernel
theorem dX2_putLongest_20 : decode cX2_putLongest 20 = .ok (.getfield 18, 3) := by decide +kernel
theorem dX2_putLongest_23 : decode cX2_putLongest 23 = .ok (.aload_n 0, 1) := by decide +kernel
theorem dX2_putLongest_24 : decode cX2_putLongest 24 = .ok (.getfield 44, 3) := by decide +kernel
theorem dX2_putLongest_27 : decode cX2_putLongest 27 = .ok (.iaload, 1) := by decide +kernel
theorem dX2_putLongest_28 : decode cX2_putLongest 28 = .ok (.invokevirtual 70, 3) := by decide +kernel
theorem dX2_putLongest_31 : decode cX2_putLongest 31 = .ok (.aload_n 0, 1) := by decide +kernel
theorem dX2_putLongest_32 : decode cX2_putLongest 32 = .ok (.aload_n 0, 1) := by decide +kernel
theorem dX2_putLongest_33 : decode cX2_putLongest 33 = .ok (.iload_n 1, 1) := by decide +kernel
theorem dX2_putLongest_34 : decode cX2_putLongest 34 = .ok (.invokevirtual 73, 3) := by decide +kernel
theorem dX2_putLongest_37 : decode cX2_putLongest 37 = .ok (.putfield 67, 3) := by decide +kernel
theorem dX2_putLongest_40 : decode cX2_putLongest 40 = .ok (.aload_n 0, 1) := by decide +kernel
theorem dX2_putLongest_41 : decode cX2_putLongest 41 = .ok (.aload_n 0, 1) := by decide +kernel
theorem dX2_putLongest_42 : decode cX2_putLongest 42 = .ok (.getfield 67, 3) := by decide +kernel
theorem dX2_putLongest_45 : decode cX2_putLongest 45 = .ok (.aload_n 0, 1) := by decide +kernel
theorem dX2_putLongest_46 : decode cX2_putLongest 46 = .ok (.getfield 54, 3) := by decide +kernel
theorem dX2_putLongest_49 : decode cX2_putLongest 49 = .ok (.invokevirtual 60, 3) := by decide +kernel
theorem dX2_putLongest_52 : decode cX2_putLongest 52 = .ok (.iload_n 2, 1) := by decide +kernel
theorem dX2_putLongest_53 : decode cX2_putLongest 53 = .ok (.ifCond .eq 45, 3) := by decide +kernel
theorem dX2_putLongest_56 : decode cX2_putLongest 56 = .ok (.aload_n 0, 1) := by decide +kernel
theorem dX2_putLongest_57 : decode cX2_putLongest 57 = .ok (.dup, 1) := by decide +kernel
theorem dX2_putLongest_58 : decode cX2_putLongest 58 = .ok (.getfield 51, 3) := by decide +kernel
theorem dX2_putLongest_61 : decode cX2_putLongest 61 = .ok (.iconst 1, 1) := by decide +kernel
theorem dX2_putLongest_62 : decode cX2_putLongest 62 = .ok (.iadd, 1) := by decide +kernel
theorem dX2_putLongest_63 : decode cX2_putLongest 63 = .ok (.putfield 51, 3) := by decide +kernel
theorem dX2_putLongest_66 : decode cX2_putLongest 66 = .ok (.aload_n 0, 1) := by decide +kernel
theorem dX2_putLongest_67 : decode cX2_putLongest 67 = .ok (.getfield 51, 3) := by decide +kernel
theorem dX2_putLongest_70 : decode cX2_putLongest 70 = .ok (.iconst 1, 1) := by decide +kernel
theorem dX2_putLongest_71 : decode cX2_putLongest 71 = .ok (.aload_n 0, 1) := by decide +kernel
theorem dX2_putLongest_72 : decode cX2_putLongest 72 = .ok (.getfield 54, 3) := by decide +kernel
theorem dX2_putLongest_75 : decode cX2_putLongest 75 = .ok (.ishl, 1) := by decide +kernel
theorem dX2_putLongest_76 : decode cX2_putLongest 76 = .ok (.if_icmp .ne 22, 3) := by decide +kernel
theorem dX2_putLongest_79 : decode cX2_putLongest 79 = .ok (.aload_n 0, 1) := by decide +kernel
theorem dX2_putLongest_80 : decode cX2_putLongest 80 = .ok (.getfield 54, 3) := by decide +kernel
theorem dX2_putLongest_83 : decode cX2_putLongest 83 = .ok (.bipush 12, 2) := by decide +kernel
theorem dX2_putLongest_85 : decode cX2_putLongest 85 = .ok (.if_icmp .ge 13, 3) := by decide +kernel
theorem dX2_putLongest_88 : decode cX2_putLongest 88 = .ok (.aload_n 0, 1) := by decide +kernel
theorem dX2_putLongest_89 : decode cX2_putLongest 89 = .ok (.dup, 1) := by decide +kernel
theorem dX2_putLongest_90 : decode cX2_putLongest 90 = .ok (.getfield 54, 3) := by decide +kernel
theorem dX2_putLongest_93 : decode cX2_putLongest 93 = .ok (.iconst 1, 1) := by decide +kernel
theorem dX2_putLongest_94 : decode cX2_putLongest 94 = .ok (.iadd, 1) := by decide +kernel
theorem dX2_putLongest_95 : decode cX2_putLongest 95 = .ok (.putfield 54, 3) := by decide +kernel
theorem dX2_putLongest_98 : decode cX2_putLongest 98 = .ok (.return_, 1) := by decide +kernel
theorem dX2_tell_0 : decode cX2_tell 0 = .ok (.aload_n 0, 1) := by decide +kernel
theorem dX2_tell_1 : decode cX2_tell 1 = .ok (.getfield 28, 3) := by decide +kernel
theorem dX2_tell_4 : decode cX2_tell 4 = .ok (.aload_n 0, 1) := by decide +kernel
theorem dX2_tell_5 : decode cX2_tell 5 = .ok (.getfield 51, 3) := by decide +kernel
theorem dX2_tell_8 : decode cX2_tell 8 = .ok (.iload_n 1, 1) := by decide +kernel
theorem dX2_tell_9 : decode cX2_tell 9 = .ok (.iastore, 1) := by decide +kernel
theorem dX2_tell_10 : decode cX2_tell 10 = .ok (.aload_n 0, 1) := by decide +kernel
theorem dX2_tell_11 : decode cX2_tell 11 = .ok (.getfield 22, 3) := by decide +kernel
theorem dX2_tell_14 : decode cX2_tell 14 = .ok (.aload_n 0, 1) := by decide +kernel
theorem dX2_tell_15 : decode cX2_tell 15 = .ok (.getfield 51, 3) := by decide +kernel
theorem dX2_tell_18 : decode cX2_tell 18 = .ok (.iconst (-1), 1) := by decide +kernel
theorem dX2_tell_19 : decode cX2_tell 19 = .ok (.iastore, 1) := by decide +kernel
theorem dX2_tell_20 : decode cX2_tell 20 = .ok (.aload_n 0, 1) := by decide +kernel
theorem dX2_tell_21 : decode cX2_tell 21 = .ok (.getfield 25, 3) := by decide +kernel
theorem dX2_tell_24 : decode cX2_tell 24 = .ok (.aload_n 0, 1) := by decide +kernel
theorem dX2_tell_25 : decode cX2_tell 25 = .ok (.getfield 51, 3) := by decide +kernel
theorem dX2_tell_28 : decode cX2_tell 28 = .ok (.aload_n 0, 1) := by decide +kernel
theorem dX2_tell_29 : decode cX2_tell 29 = .ok (.getfield 22, 3) := by decide +kernel
theorem dX2_tell_32 : decode cX2_tell 32 = .ok (.aload_n 0, 1) := by decide +kernel
theorem dX2_tell_33 : decode cX2_tell 33 = .ok (.getfield 67, 3) := by decide +kernel
theorem dX2_tell_36 : decode cX2_tell 36 = .ok (.iaload, 1) := by decide +kernel
theorem dX2_tell_37 : decode cX2_tell 37 = .ok (.iastore, 1) := by decide +kernel
theorem dX2_tell_38 : decode cX2_tell 38 = .ok (.aload_n 0, 1) := by decide +kernel
theorem dX2_tell_39 : decode cX2_tell 39 = .ok (.getfield 22, 3) := by decide +kernel
theorem dX2_tell_42 : decode cX2_tell 42 = .ok (.aload_n 0, 1) := by decide +kernel
theorem dX2_tell_43 : decode cX2_tell 43 = .ok (.getfield 67, 3) := by decide +kernel
theorem dX2_tell_46 : decode cX2_tell 46 = .ok (.aload_n 0, 1) := by decide +kernel
theorem dX2_tell_47 : decode cX2_tell 47 = .ok (.getfield 51, 3) := by decide +kernel
theorem dX2_tell_50 : decode cX2_tell 50 = .ok (.iastore, 1) := by decide +kernel
theorem dX2_tell_51 : decode cX2_tell 51 = .ok (.return_, 1) := by decide +kernel
theorem dX2_longest_0 : decode cX2_longest 0 = .ok (.aload_n 0, 1) := by decide +kernel
theorem dX2_longest_1 : decode cX2_longest 1 = .ok (.getfield 18, 3) := by decide +kernel
theorem dX2_longest_4 : decode cX2_longest 4 = .ok (.aload_n 0, 1) := by decide +kernel
theorem dX2_longest_5 : decode cX2_longest 5 = .ok (.getfield 44, 3) := by decide +kernel
theorem dX2_longest_8 : decode cX2_longest 8 = .ok (.iaload, 1) := by decide +kernel
theorem dX2_longest_9 : decode cX2_longest 9 = .ok (.istore_n 2, 1) := by decide +kernel
theorem dX2_longest_10 : decode cX2_longest 10 = .ok (.aload_n 0, 1) := by decide +kernel
theorem dX2_longest_11 : decode cX2_longest 11 = .ok (.dup, 1) := by decide +kernel
theorem dX2_longest_12 : decode cX2_longest 12 = .ok (.getfield 44, 3) := by decide +kernel
theorem dX2_longest_15 : decode cX2_longest 15 = .ok (.iconst 1, 1) := by decide +kernel
theorem dX2_longest_16 : decode cX2_longest 16 = .ok (.iadd, 1) := by decide +kernel
theorem dX2_longest_17 : decode cX2_longest 17 = .ok (.putfield 44, 3) := by decide +kernel
theorem dX2_longest_20 : decode cX2_longest 20 = .ok (.aload_n 0, 1) := by decide +kernel
theorem dX2_longest_21 : decode cX2_longest 21 = .ok (.getfield 44, 3) := by decide +kernel
theorem dX2_longest_24 : decode cX2_longest 24 = .ok (.iload_n 1, 1) := by decide +kernel
theorem dX2_longest_25 : decode cX2_longest 25 = .ok (.if_icmp .ge 40, 3) := by decide +kernel
theorem dX2_longest_28 : decode cX2_longest 28 = .ok (.aload_n 0, 1) := by decide +kernel
theorem dX2_longest_29 : decode cX2_longest 29 = .ok (.iload_n 2, 1) := by decide +kernel
theorem dX2_longest_30 : decode cX2_longest 30 = .ok (.aload_n 0, 1) := by decide +kernel
theorem dX2_longest_31 : decode cX2_longest 31 = .ok (.getfield 18, 3) := by decide +kernel
theorem dX2_longest_34 : decode cX2_longest 34 = .ok (.aload_n 0, 1) := by decide +kernel
theorem dX2_longest_35 : decode cX2_longest 35 = .ok (.getfield 44, 3) := by decide +kernel
theorem dX2_longest_38 : decode cX2_longest 38 = .ok (.iaload, 1) := by decide +kernel
theorem dX2_longest_39 : decode cX2_longest 39 = .ok (.invokevirtual 77, 3) := by decide +kernel
theorem dX2_longest_42 : decode cX2_longest 42 = .ok (.istore_n 3, 1) := by decide +kernel
theorem dX2_longest_43 : decode cX2_longest 43 = .ok (.iload_n 3, 1) := by decide +kernel
theorem dX2_longest_44 : decode cX2_longest 44 = .ok (.iconst (-1), 1) := by decide +kernel
theorem dX2_longest_45 : decode cX2_longest 45 = .ok (.if_icmp .ne 5, 3) := by decide +kernel
theorem dX2_longest_48 : decode cX2_longest 48 = .ok (.iload_n 2, 1) := by decide +kernel
theorem dX2_longest_49 : decode cX2_longest 49 = .ok (.ireturn, 1) := by decide +kernel
theorem dX2_longest_50 : decode cX2_longest 50 = .ok (.iload_n 3, 1) := by decide +kernel
theorem dX2_longest_51 : decode cX2_longest 51 = .ok (.istore_n 2, 1) := by decide +kernel
theorem dX2_longest_52 : decode cX2_longest 52 = .ok (.aload_n 0, 1) := by decide +kernel
theorem dX2_longest_53 : decode cX2_longest 53 = .ok (.dup, 1) := by decide +kernel
theorem dX2_longest_54 : decode cX2_longest 54 = .ok (.getfield 44, 3) := by decide +kernel
theorem dX2_longest_57 : decode cX2_longest 57 = .ok (.iconst 1, 1) := by decide +kernel
theorem dX2_longest_58 : decode cX2_longest 58 = .ok (.iadd, 1) := by decide +kernel
theorem dX2_longest_59 : decode cX2_longest 59 = .ok (.putfield 44, 3) := by decide +kernel
theorem dX2_longest_62 : decode cX2_longest 62 = .ok (.goto (-42), 3) := by decide +kernel
theorem dX2_longest_65 : decode cX2_longest 65 = .ok (.iload_n 2, 1) := by decide +kernel
theorem dX2_longest_66 : decode cX2_longest 66 = .ok (.ireturn, 1) := by decide +kernel
theorem dX2_childOf_0 : decode cX2_childOf 0 = .ok (.aload_n 0, 1) := by decide +kernel
theorem dX2_childOf_1 : decode cX2_childOf 1 = .ok (.getfield 22, 3) := by decide +kernel
theorem dX2_childOf_4 : decode cX2_childOf 4 = .ok (.iload_n 1, 1) := by decide +kernel
theorem dX2_childOf_5 : decode cX2_childOf 5 = .ok (.iaload, 1) := by decide +kernel
theorem dX2_childOf_6 : decode cX2_childOf 6 = .ok (.istore_n 3, 1) := by decide +kernel
theorem dX2_childOf_7 : decode cX2_childOf 7 = .ok (.iconst 0, 1) := by decide +kernel
theorem dX2_childOf_8 : decode cX2_childOf 8 = .ok (.istore 4, 2) := by decide +kernel
theorem dX2_childOf_10 : decode cX2_childOf 10 = .ok (.iload 4, 2) := by decide +kernel
theorem dX2_childOf_12 : decode cX2_childOf 12 = .ok (.sipush 256, 3) := by decide +kernel
theorem dX2_childOf_15 : decode cX2_childOf 15 = .ok (.if_icmp .ge 33, 3) := by decide +kernel
theorem dX2_childOf_18 : decode cX2_childOf 18 = .ok (.iload_n 3, 1) := by decide +kernel
theorem dX2_childOf_19 : decode cX2_childOf 19 = .ok (.iconst (-1), 1) := by decide +kernel
theorem dX2_childOf_20 : decode cX2_childOf 20 = .ok (.if_icmp .eq 28, 3) := by decide +kernel
theorem dX2_childOf_23 : decode cX2_childOf 23 = .ok (.aload_n 0, 1) := by decide +kernel
theorem dX2_childOf_24 : decode cX2_childOf 24 = .ok (.getfield 28, 3) := by decide +kernel
theorem dX2_childOf_27 : decode cX2_childOf 27 = .ok (.iload_n 3, 1) := by decide +kernel
theorem dX2_childOf_28 : decode cX2_childOf 28 = .ok (.iaload, 1) := by decide +kernel
theorem dX2_childOf_29 : decode cX2_childOf 29 = .ok (.iload_n 2, 1) := by decide +kernel
theorem dX2_childOf_30 : decode cX2_childOf 30 = .ok (.if_icmp .ne 5, 3) := by decide +kernel
theorem dX2_childOf_33 : decode cX2_childOf 33 = .ok (.iload_n 3, 1) := by decide +kernel
theorem dX2_childOf_34 : decode cX2_childOf 34 = .ok (.ireturn, 1) := by decide +kernel
theorem dX2_childOf_35 : decode cX2_childOf 35 = .ok (.aload_n 0, 1) := by decide +kernel
theorem dX2_childOf_36 : decode cX2_childOf 36 = .ok (.getfield 25, 3) := by decide +kernel
theorem dX2_childOf_39 : decode cX2_childOf 39 = .ok (.iload_n 3, 1) := by decide +kernel
theorem dX2_childOf_40 : decode cX2_childOf 40 = .ok (.iaload, 1) := by decide +kernel
theorem dX2_childOf_41 : decode cX2_childOf 41 = .ok (.istore_n 3, 1) := by decide +kernel
theorem dX2_childOf_42 : decode cX2_childOf 42 = .ok (.iinc 4 1, 3) := by decide +kernel
theorem dX2_childOf_45 : decode cX2_childOf 45 = .ok (.goto (-35), 3) := by decide +kernel
theorem dX2_childOf_48 : decode cX2_childOf 48 = .ok (.iconst (-1), 1) := by decide +kernel
theorem dX2_childOf_49 : decode cX2_childOf 49 = .ok (.ireturn, 1) := by decide +kernel
theorem dX2_putCode_0 : decode cX2_putCode 0 = .ok (.aload_n 0, 1) := by decide +kernel
theorem dX2_putCode_1 : decode cX2_putCode 1 = .ok (.dup, 1) := by decide +kernel
theorem dX2_putCode_2 : decode cX2_putCode 2 = .ok (.getfield 38, 3) := by decide +kernel
theorem dX2_putCode_5 : decode cX2_putCode 5 = .ok (.iload_n 1, 1) := by decide +kernel
theorem dX2_putCode_6 : decode cX2_putCode 6 = .ok (.aload_n 0, 1) := by decide +kernel
theorem dX2_putCode_7 : decode cX2_putCode 7 = .ok (.getfield 41, 3) := by decide +kernel
theorem dX2_putCode_10 : decode cX2_putCode 10 = .ok (.ishl, 1) := by decide +kernel
theorem dX2_putCode_11 : decode cX2_putCode 11 = .ok (.ior, 1) := by decide +kernel
theorem dX2_putCode_12 : decode cX2_putCode 12 = .ok (.putfield 38, 3) := by decide +kernel
theorem dX2_putCode_15 : decode cX2_putCode 15 = .ok (.aload_n 0, 1) := by decide +kernel
theorem dX2_putCode_16 : decode cX2_putCode 16 = .ok (.dup, 1) := by decide +kernel
theorem dX2_putCode_17 : decode cX2_putCode 17 = .ok (.getfield 41, 3) := by decide +kernel
theorem dX2_putCode_20 : decode cX2_putCode 20 = .ok (.iload_n 2, 1) := by decide +kernel
theorem dX2_putCode_21 : decode cX2_putCode 21 = .ok (.iadd, 1) := by decide +kernel
theorem dX2_putCode_22 : decode cX2_putCode 22 = .ok (.putfield 41, 3) := by decide +kernel
theorem dX2_putCode_25 : decode cX2_putCode 25 = .ok (.aload_n 0, 1) := by decide +kernel
theorem dX2_putCode_26 : decode cX2_putCode 26 = .ok (.getfield 41, 3) := by decide +kernel
theorem dX2_putCode_29 : decode cX2_putCode 29 = .ok (.bipush 8, 2) := by decide +kernel
theorem dX2_putCode_31 : decode cX2_putCode 31 = .ok (.if_icmp .lt 39, 3) := by decide +kernel
theorem dX2_putCode_34 : decode cX2_putCode 34 = .ok (.aload_n 0, 1) := by decide +kernel
theorem dX2_putCode_35 : decode cX2_putCode 35 = .ok (.getfield 12, 3) := by decide +kernel
theorem dX2_putCode_38 : decode cX2_putCode 38 = .ok (.aload_n 0, 1) := by decide +kernel
theorem dX2_putCode_39 : decode cX2_putCode 39 = .ok (.getfield 38, 3) := by decide +kernel
theorem dX2_putCode_42 : decode cX2_putCode 42 = .ok (.invokevirtual 64, 3) := by decide +kernel
theorem dX2_putCode_45 : decode cX2_putCode 45 = .ok (.aload_n 0, 1) := by decide +kernel
theorem dX2_putCode_46 : decode cX2_putCode 46 = .ok (.dup, 1) := by decide +kernel
theorem dX2_putCode_47 : decode cX2_putCode 47 = .ok (.getfield 38, 3) := by decide +kernel
theorem dX2_putCode_50 : decode cX2_putCode 50 = .ok (.bipush 8, 2) := by decide +kernel
theorem dX2_putCode_52 : decode cX2_putCode 52 = .ok (.ishr, 1) := by decide +kernel
theorem dX2_putCode_53 : decode cX2_putCode 53 = .ok (.putfield 38, 3) := by decide +kernel
theorem dX2_putCode_56 : decode cX2_putCode 56 = .ok (.aload_n 0, 1) := by decide +kernel
theorem dX2_putCode_57 : decode cX2_putCode 57 = .ok (.dup, 1) := by decide +kernel
theorem dX2_putCode_58 : decode cX2_putCode 58 = .ok (.getfield 41, 3) := by decide +kernel
theorem dX2_putCode_61 : decode cX2_putCode 61 = .ok (.bipush 8, 2) := by decide +kernel
theorem dX2_putCode_63 : decode cX2_putCode 63 = .ok (.isub, 1) := by decide +kernel
theorem dX2_putCode_64 : decode cX2_putCode 64 = .ok (.putfield 41, 3) := by decide +kernel
theorem dX2_putCode_67 : decode cX2_putCode 67 = .ok (.goto (-42), 3) := by decide +kernel
theorem dX2_putCode_70 : decode cX2_putCode 70 = .ok (.return_, 1) := by decide +kernel
theorem dX3_init_0 : decode cX3_init 0 = .ok (.aload_n 0, 1) := by decide +kernel
theorem dX3_init_1 : decode cX3_init 1 = .ok (.invokespecial 3, 3) := by decide +kernel
theorem dX3_init_4 : decode cX3_init 4 = .ok (.aload_n 0, 1) := by decide +kernel
theorem dX3_init_5 : decode cX3_init 5 = .ok (.iconst 0, 1) := by decide +kernel
theorem dX3_init_6 : decode cX3_init 6 = .ok (.putfield 9, 3) := by decide +kernel
theorem dX3_init_9 : decode cX3_init 9 = .ok (.aload_n 0, 1) := by decide +kernel
theorem dX3_init_10 : decode cX3_init 10 = .ok (.iconst 0, 1) := by decide +kernel
theorem dX3_init_11 : decode cX3_init 11 = .ok (.putfield 15, 3) := by decide +kernel
theorem dX3_init_14 : decode cX3_init 14 = .ok (.aload_n 0, 1) := by decide +kernel
theorem dX3_init_15 : decode cX3_init 15 = .ok (.iconst 1, 1) := by decide +kernel
theorem dX3_init_16 : decode cX3_init 16 = .ok (.putfield 18, 3) := by decide +kernel
theorem dX3_init_19 : decode cX3_init 19 = .ok (.aload_n 0, 1) := by decide +kernel
theorem dX3_init_20 : decode cX3_init 20 = .ok (.iconst 1, 1) := by decide +kernel
theorem dX3_init_21 : decode cX3_init 21 = .ok (.putfield 21, 3) := by decide +kernel
theorem dX3_init_24 : decode cX3_init 24 = .ok (.aload_n 0, 1) := by decide +kernel
theorem dX3_init_25 : decode cX3_init 25 = .ok (.iconst 0, 1) := by decide +kernel
theorem dX3_init_26 : decode cX3_init 26 = .ok (.putfield 24, 3) := by decide +kernel
theorem dX3_init_29 : decode cX3_init 29 = .ok (.aload_n 0, 1) := by decide +kernel
theorem dX3_init_30 : decode cX3_init 30 = .ok (.new 28, 3) := by decide +kernel
theorem dX3_init_33 : decode cX3_init 33 = .ok (.dup, 1) := by decide +kernel
theorem dX3_init_34 : decode cX3_init 34 = .ok (.invokespecial 30, 3) := by decide +kernel
theorem dX3_init_37 : decode cX3_init 37 = .ok (.putfield 31, 3) := by decide +kernel
theorem dX3_init_40 : decode cX3_init 40 = .ok (.aload_n 0, 1) := by decide +kernel
theorem dX3_init_41 : decode cX3_init 41 = .ok (.new 35, 3) := by decide +kernel
theorem dX3_init_44 : decode cX3_init 44 = .ok (.dup, 1) := by decide +kernel
theorem dX3_init_45 : decode cX3_init 45 = .ok (.invokespecial 37, 3) := by decide +kernel
theorem dX3_init_48 : decode cX3_init 48 = .ok (.putfield 38, 3) := by decide +kernel
theorem dX3_init_51 : decode cX3_init 51 = .ok (.aload_n 0, 1) := by decide +kernel
theorem dX3_init_52 : decode cX3_init 52 = .ok (.sipush 4096, 3) := by decide +kernel
theorem dX3_init_55 : decode cX3_init 55 = .ok (.newarray .int, 2) := by decide +kernel
theorem dX3_init_57 : decode cX3_init 57 = .ok (.putfield 42, 3) := by decide +kernel
theorem dX3_init_60 : decode cX3_init 60 = .ok (.return_, 1) := by decide +kernel
theorem dX3_reset_0 : decode cX3_reset 0 = .ok (.aload_n 0, 1) := by decide +kernel
theorem dX3_reset_1 : decode cX3_reset 1 = .ok (.iload_n 1, 1) := by decide +kernel
theorem dX3_reset_2 : decode cX3_reset 2 = .ok (.putfield 9, 3) := by decide +kernel
theorem dX3_reset_5 : decode cX3_reset 5 = .ok (.aload_n 0, 1) := by decide +kernel
theorem dX3_reset_6 : decode cX3_reset 6 = .ok (.iload_n 2, 1) := by decide +kernel
theorem dX3_reset_7 : decode cX3_reset 7 = .ok (.putfield 15, 3) := by decide +kernel
theorem dX3_reset_10 : decode cX3_reset 10 = .ok (.aload_n 0, 1) := by decide +kernel
theorem dX3_reset_11 : decode cX3_reset 11 = .ok (.iload_n 3, 1) := by decide +kernel
theorem dX3_reset_12 : decode cX3_reset 12 = .ok (.putfield 18, 3) := by decide +kernel
theorem dX3_reset_15 : decode cX3_reset 15 = .ok (.aload_n 0, 1) := by decide +kernel
theorem dX3_reset_16 : decode cX3_reset 16 = .ok (.iload 4, 2) := by decide +kernel
theorem dX3_reset_18 : decode cX3_reset 18 = .ok (.putfield 21, 3) := by decide +kernel
theorem dX3_reset_21 : decode cX3_reset 21 = .ok (.aload_n 0, 1) := by decide +kernel
theorem dX3_reset_22 : decode cX3_reset 22 = .ok (.getfield 38, 3) := by decide +kernel
theorem dX3_reset_25 : decode cX3_reset 25 = .ok (.invokevirtual 46, 3) := by decide +kernel
theorem dX3_reset_28 : decode cX3_reset 28 = .ok (.aload_n 0, 1) := by decide +kernel
theorem dX3_reset_29 : decode cX3_reset 29 = .ok (.iconst 0, 1) := by decide +kernel
theorem dX3_reset_30 : decode cX3_reset 30 = .ok (.aload_n 0, 1) := by decide +kernel
theorem dX3_reset_31 : decode cX3_reset 31 = .ok (.invokevirtual 49, 3) := by decide +kernel
theorem dX3_reset_34 : decode cX3_reset 34 = .ok (.iconst 0, 1) := by decide +kernel
theorem dX3_reset_35 : decode cX3_reset 35 = .ok (.invokevirtual 53, 3) := by decide +kernel
theorem dX3_reset_38 : decode cX3_reset 38 = .ok (.return_, 1) := by decide +kernel
theorem dX3_size_0 : decode cX3_size 0 = .ok (.aload_n 0, 1) := by decide +kernel
theorem dX3_size_1 : decode cX3_size 1 = .ok (.getfield 18, 3) := by decide +kernel
theorem dX3_size_4 : decode cX3_size 4 = .ok (.aload_n 0, 1) := by decide +kernel
theorem dX3_size_5 : decode cX3_size 5 = .ok (.getfield 21, 3) := by decide +kernel
theorem dX3_size_8 : decode cX3_size 8 = .ok (.imul, 1) := by decide +kernel
theorem dX3_size_9 : decode cX3_size 9 = .ok (.ireturn, 1) := by decide +kernel
theorem dX3_fill_0 : decode cX3_fill 0 = .ok (.iload_n 1, 1) := by decide +kernel
theorem dX3_fill_1 : decode cX3_fill 1 = .ok (.istore 4, 2) := by decide +kernel
theorem dX3_fill_3 : decode cX3_fill 3 = .ok (.iload 4, 2) := by decide +kernel
theorem dX3_fill_5 : decode cX3_fill 5 = .ok (.iload_n 2, 1) := by decide +kernel
theorem dX3_fill_6 : decode cX3_fill 6 = .ok (.if_icmp .ge 17, 3) := by decide +kernel
theorem dX3_fill_9 : decode cX3_fill 9 = .ok (.aload_n 0, 1) := by decide +kernel
theorem dX3_fill_10 : decode cX3_fill 10 = .ok (.getfield 42, 3) := by decide +kernel
theorem dX3_fill_13 : decode cX3_fill 13 = .ok (.iload 4, 2) := by decide +kernel
theorem dX3_fill_15 : decode cX3_fill 15 = .ok (.iload_n 3, 1) := by decide +kernel
theorem dX3_fill_16 : decode cX3_fill 16 = .ok (.iastore, 1) := by decide +kernel
theorem dX3_fill_17 : decode cX3_fill 17 = .ok (.iinc 4 1, 3) := by decide +kernel
theorem dX3_fill_20 : decode cX3_fill 20 = .ok (.goto (-17), 3) := by decide +kernel
theorem dX3_fill_23 : decode cX3_fill 23 = .ok (.return_, 1) := by decide +kernel
theorem dX3_covers_0 : decode cX3_covers 0 = .ok (.iload_n 1, 1) := by decide +kernel
theorem dX3_covers_1 : decode cX3_covers 1 = .ok (.aload_n 0, 1) := by decide +kernel
theorem dX3_covers_2 : decode cX3_covers 2 = .ok (.getfield 9, 3) := by decide +kernel
theorem dX3_covers_5 : decode cX3_covers 5 = .ok (.if_icmp .lt 41, 3) := by decide +kernel
theorem dX3_covers_8 : decode cX3_covers 8 = .ok (.iload_n 1, 1) := by decide +kernel
theorem dX3_covers_9 : decode cX3_covers 9 = .ok (.aload_n 0, 1) := by decide +kernel
theorem dX3_covers_10 : decode cX3_covers 10 = .ok (.getfield 9, 3) := by decide +kernel
theorem dX3_covers_13 : decode cX3_covers 13 = .ok (.aload_n 0, 1) := by decide +kernel
theorem dX3_covers_14 : decode cX3_covers 14 = .ok (.getfield 18, 3) := by decide +kernel
theorem dX3_covers_17 : decode cX3_covers 17 = .ok (.iadd, 1) := by decide +kernel
theorem dX3_covers_18 : decode cX3_covers 18 = .ok (.if_icmp .ge 28, 3) := by decide +kernel
theorem dX3_covers_21 : decode cX3_covers 21 = .ok (.iload_n 2, 1) := by decide +kernel
theorem dX3_covers_22 : decode cX3_covers 22 = .ok (.aload_n 0, 1) := by decide +kernel
theorem dX3_covers_23 : decode cX3_covers 23 = .ok (.getfield 15, 3) := by decide +kernel
theorem dX3_covers_26 : decode cX3_covers 26 = .ok (.if_icmp .lt 20, 3) := by decide +kernel
theorem dX3_covers_29 : decode cX3_covers 29 = .ok (.iload_n 2, 1) := by decide +kernel
theorem dX3_covers_30 : decode cX3_covers 30 = .ok (.aload_n 0, 1) := by decide +kernel
theorem dX3_covers_31 : decode cX3_covers 31 = .ok (.getfield 15, 3) := by decide +kernel
theorem dX3_covers_34 : decode cX3_covers 34 = .ok (.aload_n 0, 1) := by decide +kernel
theorem dX3_covers_35 : decode cX3_covers 35 = .ok (.getfield 21, 3) := by decide +kernel
theorem dX3_covers_38 : decode cX3_covers 38 = .ok (.iadd, 1) := by decide +kernel
theorem dX3_covers_39 : decode cX3_covers 39 = .ok (.if_icmp .ge 7, 3) := by decide +kernel
theorem dX3_covers_42 : decode cX3_covers 42 = .ok (.iconst 1, 1) := by decide +kernel
theorem dX3_covers_43 : decode cX3_covers 43 = .ok (.goto 4, 3) := by decide +kernel
theorem dX3_covers_46 : decode cX3_covers 46 = .ok (.iconst 0, 1) := by decide +kernel
theorem dX3_covers_47 : decode cX3_covers 47 = .ok (.ireturn, 1) := by decide +kernel
theorem dX3_indexAt_0 : decode cX3_indexAt 0 = .ok (.aload_n 0, 1) := by decide +kernel
theorem dX3_indexAt_1 : decode cX3_indexAt 1 = .ok (.getfield 42, 3) := by decide +kernel
theorem dX3_indexAt_4 : decode cX3_indexAt 4 = .ok (.iload_n 2, 1) := by decide +kernel
theorem dX3_indexAt_5 : decode cX3_indexAt 5 = .ok (.aload_n 0, 1) := by decide +kernel
theorem dX3_indexAt_6 : decode cX3_indexAt 6 = .ok (.getfield 15, 3) := by decide +kernel
theorem dX3_indexAt_9 : decode cX3_indexAt 9 = .ok (.isub, 1) := by decide +kernel
theorem dX3_indexAt_10 : decode cX3_indexAt 10 = .ok (.aload_n 0, 1) := by decide +kernel
theorem dX3_indexAt_11 : decode cX3_indexAt 11 = .ok (.getfield 18, 3) := by decide +kernel
theorem dX3_indexAt_14 : decode cX3_indexAt 14 = .ok (.imul, 1) := by decide +kernel
theorem dX3_indexAt_15 : decode cX3_indexAt 15 = .ok (.iload_n 1, 1) := by decide +kernel
theorem dX3_indexAt_16 : decode cX3_indexAt 16 = .ok (.iadd, 1) := by decide +kernel
theorem dX3_indexAt_17 : decode cX3_indexAt 17 = .ok (.aload_n 0, 1) := by decide +kernel
theorem dX3_indexAt_18 : decode cX3_indexAt 18 = .ok (.getfield 9, 3) := by decide +kernel
theorem dX3_indexAt_21 : decode cX3_indexAt 21 = .ok (.isub, 1) := by decide +kernel
theorem dX3_indexAt_22 : decode cX3_indexAt 22 = .ok (.iaload, 1) := by decide +kernel
theorem dX3_indexAt_23 : decode cX3_indexAt 23 = .ok (.ireturn, 1) := by decide +kernel
theorem dX3_fromStreamOrder_0 : decode cX3_fromStreamOrder 0 = .ok (.iconst 0, 1) := by decide +kernel
theorem dX3_fromStreamOrder_1 : decode cX3_fromStreamOrder 1 = .ok (.istore_n 2, 1) := by decide +kernel
theorem dX3_fromStreamOrder_2 : decode cX3_fromStreamOrder 2 = .ok (.iload_n 2, 1) := by decide +kernel
theorem dX3_fromStreamOrder_3 : decode cX3_fromStreamOrder 3 = .ok (.aload_n 0, 1) := by decide +kernel
theorem dX3_fromStreamOrder_4 : decode cX3_fromStreamOrder 4 = .ok (.getfield 21, 3) := by decide +kernel
theorem dX3_fromStreamOrder_7 : decode cX3_fromStreamOrder 7 = .ok (.if_icmp .ge 37, 3) := by decide +kernel
theorem dX3_fromStreamOrder_10 : decode cX3_fromStreamOrder 10 = .ok (.aload_n 1, 1) := by decide +kernel
theorem dX3_fromStreamOrder_11 : decode cX3_fromStreamOrder 11 = .ok (.iload_n 2, 1) := by decide +kernel
theorem dX3_fromStreamOrder_12 : decode cX3_fromStreamOrder 12 = .ok (.aload_n 0, 1) := by decide +kernel
theorem dX3_fromStreamOrder_13 : decode cX3_fromStreamOrder 13 = .ok (.getfield 18, 3) := by decide +kernel
theorem dX3_fromStreamOrder_16 : decode cX3_fromStreamOrder 16 = .ok (.imul, 1) := by decide +kernel
theorem dX3_fromStreamOrder_17 : decode cX3_fromStreamOrder 17 = .ok (.aload_n 0, 1) := by decide +kernel
theorem dX3_fromStreamOrder_18 : decode cX3_fromStreamOrder 18 = .ok (.getfield 42, 3) := by decide +kernel
theorem dX3_fromStreamOrder_21 : decode cX3_fromStreamOrder 21 = .ok (.aload_n 0, 1) := by decide +kernel
theorem dX3_fromStreamOrder_22 : decode cX3_fromStreamOrder 22 = .ok (.iload_n 2, 1) := by decide +kernel
theorem dX3_fromStreamOrder_23 : decode cX3_fromStreamOrder 23 = .ok (.invokevirtual 57, 3) := by decide +kernel
theorem dX3_fromStreamOrder_26 : decode cX3_fromStreamOrder 26 = .ok (.aload_n 0, 1) := by decide +kernel
theorem dX3_fromStreamOrder_27 : decode cX3_fromStreamOrder 27 = .ok (.getfield 18, 3) := by decide +kernel
theorem dX3_fromStreamOrder_30 : decode cX3_fromStreamOrder 30 = .ok (.imul, 1) := by decide +kernel
theorem dX3_fromStreamOrder_31 : decode cX3_fromStreamOrder 31 = .ok (.aload_n 0, 1) := by decide +kernel
theorem dX3_fromStreamOrder_32 : decode cX3_fromStreamOrder 32 = .ok (.getfield 18, 3) := by decide +kernel
theorem dX3_fromStreamOrder_35 : decode cX3_fromStreamOrder 35 = .ok (.invokestatic 61, 3) := by decide +kernel
theorem dX3_fromStreamOrder_38 : decode cX3_fromStreamOrder 38 = .ok (.iinc 2 1, 3) := by decide +kernel
theorem dX3_fromStreamOrder_41 : decode cX3_fromStreamOrder 41 = .ok (.goto (-39), 3) := by decide +kernel
theorem dX3_fromStreamOrder_44 : decode cX3_fromStreamOrder 44 = .ok (.return_, 1) := by decide +kernel
theorem dX3_toStreamOrder_0 : decode cX3_toStreamOrder 0 = .ok (.iconst 0, 1) := by decide +kernel
theorem dX3_toStreamOrder_1 : decode cX3_toStreamOrder 1 = .ok (.istore_n 2, 1) := by decide +kernel
theorem dX3_toStreamOrder_2 : decode cX3_toStreamOrder 2 = .ok (.iload_n 2, 1) := by decide +kernel
theorem dX3_toStreamOrder_3 : decode cX3_toStreamOrder 3 = .ok (.aload_n 0, 1) := by decide +kernel
theorem dX3_toStreamOrder_4 : decode cX3_toStreamOrder 4 = .ok (.getfield 21, 3) := by decide +kernel
theorem dX3_toStreamOrder_7 : decode cX3_toStreamOrder 7 = .ok (.if_icmp .ge 37, 3) := by decide +kernel
theorem dX3_toStreamOrder_10 : decode cX3_toStreamOrder 10 = .ok (.aload_n 0, 1) := by decide +kernel
theorem dX3_toStreamOrder_11 : decode cX3_toStreamOrder 11 = .ok (.getfield 42, 3) := by decide +kernel
theorem dX3_toStreamOrder_14 : decode cX3_toStreamOrder 14 = .ok (.aload_n 0, 1) := by decide +kernel
theorem dX3_toStreamOrder_15 : decode cX3_toStreamOrder 15 = .ok (.iload_n 2, 1) := by decide +kernel
theorem dX3_toStreamOrder_16 : decode cX3_toStreamOrder 16 = .ok (.invokevirtual 57, 3) := by decide +kernel
theorem dX3_toStreamOrder_19 : decode cX3_toStreamOrder 19 = .ok (.aload_n 0, 1) := by decide +kernel
theorem dX3_toStreamOrder_20 : decode cX3_toStreamOrder 20 = .ok (.getfield 18, 3) := by decide +kernel
theorem dX3_toStreamOrder_23 : decode cX3_toStreamOrder 23 = .ok (.imul, 1) := by decide +kernel
theorem dX3_toStreamOrder_24 : decode cX3_toStreamOrder 24 = .ok (.aload_n 1, 1) := by decide +kernel
theorem dX3_toStreamOrder_25 : decode cX3_toStreamOrder 25 = .ok (.iload_n 2, 1) := by decide +kernel
theorem dX3_toStreamOrder_26 : decode cX3_toStreamOrder 26 = .ok (.aload_n 0, 1) := by decide +kernel
theorem dX3_toStreamOrder_27 : decode cX3_toStreamOrder 27 = .ok (.getfield 18, 3) := by decide +kernel
theorem dX3_toStreamOrder_30 : decode cX3_toStreamOrder 30 = .ok (.imul, 1) := by decide +kernel
theorem dX3_toStreamOrder_31 : decode cX3_toStreamOrder 31 = .ok (.aload_n 0, 1) := by decide +kernel
theorem dX3_toStreamOrder_32 : decode cX3_toStreamOrder 32 = .ok (.getfield 18, 3) := by decide +kernel
theorem dX3_toStreamOrder_35 : decode cX3_toStreamOrder 35 = .ok (.invokestatic 61, 3) := by decide +kernel
theorem dX3_toStreamOrder_38 : decode cX3_toStreamOrder 38 = .ok (.iinc 2 1, 3) := by decide +kernel
theorem dX3_toStreamOrder_41 : decode cX3_toStreamOrder 41 = .ok (.goto (-39), 3) := by decide +kernel
theorem dX3_toStreamOrder_44 : decode cX3_toStreamOrder 44 = .ok (.return_, 1) := by decide +kernel
theorem dX3_lineOf_0 : decode cX3_lineOf 0 = .ok (.aload_n 0, 1) := by decide +kernel
theorem dX3_lineOf_1 : decode cX3_lineOf 1 = .ok (.getfield 24, 3) := by decide +kernel
theorem dX3_lineOf_4 : decode cX3_lineOf 4 = .ok (.ifCond .ne 5, 3) := by decide +kernel
theorem dX3_lineOf_7 : decode cX3_lineOf 7 = .ok (.iload_n 1, 1) := by decide +kernel
theorem dX3_lineOf_8 : decode cX3_lineOf 8 = .ok (.ireturn, 1) := by decide +kernel
theorem dX3_lineOf_9 : decode cX3_lineOf 9 = .ok (.iload_n 1, 1) := by decide +kernel
theorem dX3_lineOf_10 : decode cX3_lineOf 10 = .ok (.istore_n 2, 1) := by decide +kernel
theorem dX3_lineOf_11 : decode cX3_lineOf 11 = .ok (.iconst 0, 1) := by decide +kernel
theorem dX3_lineOf_12 : decode cX3_lineOf 12 = .ok (.istore_n 3, 1) := by decide +kernel
theorem dX3_lineOf_13 : decode cX3_lineOf 13 = .ok (.iload_n 3, 1) := by decide +kernel
theorem dX3_lineOf_14 : decode cX3_lineOf 14 = .ok (.getstatic 67, 3) := by decide +kernel
theorem dX3_lineOf_17 : decode cX3_lineOf 17 = .ok (.arraylength, 1) := by decide +kernel
theorem dX3_lineOf_18 : decode cX3_lineOf 18 = .ok (.if_icmp .ge 61, 3) := by decide +kernel
theorem dX3_lineOf_21 : decode cX3_lineOf 21 = .ok (.getstatic 67, 3) := by decide +kernel
theorem dX3_lineOf_24 : decode cX3_lineOf 24 = .ok (.iload_n 3, 1) := by decide +kernel
theorem dX3_lineOf_25 : decode cX3_lineOf 25 = .ok (.iaload, 1) := by decide +kernel
theorem dX3_lineOf_26 : decode cX3_lineOf 26 = .ok (.istore 4, 2) := by decide +kernel
theorem dX3_lineOf_28 : decode cX3_lineOf 28 = .ok (.getstatic 70, 3) := by decide +kernel
theorem dX3_lineOf_31 : decode cX3_lineOf 31 = .ok (.iload_n 3, 1) := by decide +kernel
theorem dX3_lineOf_32 : decode cX3_lineOf 32 = .ok (.iaload, 1) := by decide +kernel
theorem dX3_lineOf_33 : decode cX3_lineOf 33 = .ok (.istore 5, 2) := by decide +kernel
theorem dX3_lineOf_35 : decode cX3_lineOf 35 = .ok (.aload_n 0, 1) := by decide +kernel
theorem dX3_lineOf_36 : decode cX3_lineOf 36 = .ok (.getfield 21, 3) := by decide +kernel
theorem dX3_lineOf_39 : decode cX3_lineOf 39 = .ok (.iload 4, 2) := by decide +kernel
theorem dX3_lineOf_41 : decode cX3_lineOf 41 = .ok (.isub, 1) := by decide +kernel
theorem dX3_lineOf_42 : decode cX3_lineOf 42 = .ok (.iconst 1, 1) := by decide +kernel
theorem dX3_lineOf_43 : decode cX3_lineOf 43 = .ok (.iload 5, 2) := by decide +kernel
theorem dX3_lineOf_45 : decode cX3_lineOf 45 = .ok (.ishl, 1) := by decide +kernel
theorem dX3_lineOf_46 : decode cX3_lineOf 46 = .ok (.iadd, 1) := by decide +kernel
theorem dX3_lineOf_47 : decode cX3_lineOf 47 = .ok (.iconst 1, 1) := by decide +kernel
theorem dX3_lineOf_48 : decode cX3_lineOf 48 = .ok (.isub, 1) := by decide +kernel
theorem dX3_lineOf_49 : decode cX3_lineOf 49 = .ok (.iload 5, 2) := by decide +kernel
theorem dX3_lineOf_51 : decode cX3_lineOf 51 = .ok (.ishr, 1) := by decide +kernel
theorem dX3_lineOf_52 : decode cX3_lineOf 52 = .ok (.istore 6, 2) := by decide +kernel
theorem dX3_lineOf_54 : decode cX3_lineOf 54 = .ok (.iload_n 2, 1) := by decide +kernel
theorem dX3_lineOf_55 : decode cX3_lineOf 55 = .ok (.iload 6, 2) := by decide +kernel
theorem dX3_lineOf_57 : decode cX3_lineOf 57 = .ok (.if_icmp .ge 11, 3) := by decide +kernel
theorem dX3_lineOf_60 : decode cX3_lineOf 60 = .ok (.iload 4, 2) := by decide +kernel
theorem dX3_lineOf_62 : decode cX3_lineOf 62 = .ok (.iload_n 2, 1) := by decide +kernel
theorem dX3_lineOf_63 : decode cX3_lineOf 63 = .ok (.iload 5, 2) := by decide +kernel
theorem dX3_lineOf_65 : decode cX3_lineOf 65 = .ok (.ishl, 1) := by decide +kernel
theorem dX3_lineOf_66 : decode cX3_lineOf 66 = .ok (.iadd, 1) := by decide +kernel
theorem dX3_lineOf_67 : decode cX3_lineOf 67 = .ok (.ireturn, 1) := by decide +kernel
theorem dX3_lineOf_68 : decode cX3_lineOf 68 = .ok (.iload_n 2, 1) := by decide +kernel
theorem dX3_lineOf_69 : decode cX3_lineOf 69 = .ok (.iload 6, 2) := by decide +kernel
theorem dX3_lineOf_71 : decode cX3_lineOf 71 = .ok (.isub, 1) := by decide +kernel
theorem dX3_lineOf_72 : decode cX3_lineOf 72 = .ok (.istore_n 2, 1) := by decide +kernel
theorem dX3_lineOf_73 : decode cX3_lineOf 73 = .ok (.iinc 3 1, 3) := by decide +kernel
theorem dX3_lineOf_76 : decode cX3_lineOf 76 = .ok (.goto (-63), 3) := by decide +kernel
theorem dX3_lineOf_79 : decode cX3_lineOf 79 = .ok (.iload_n 1, 1) := by decide +kernel
theorem dX3_lineOf_80 : decode cX3_lineOf 80 = .ok (.ireturn, 1) := by decide +kernel
theorem dX4_init_0 : decode cX4_init 0 = .ok (.aload_n 0, 1) := by decide +kernel
theorem dX4_init_1 : decode cX4_init 1 = .ok (.invokespecial 3, 3) := by decide +kernel
theorem dX4_init_4 : decode cX4_init 4 = .ok (.aload_n 0, 1) := by decide +kernel
theorem dX4_init_5 : decode cX4_init 5 = .ok (.new 9, 3) := by decide +kernel
theorem dX4_init_8 : decode cX4_init 8 = .ok (.dup, 1) := by decide +kernel
theorem dX4_init_9 : decode cX4_init 9 = .ok (.invokespecial 11, 3) := by decide +kernel
theorem dX4_init_12 : decode cX4_init 12 = .ok (.putfield 12, 3) := by decide +kernel
theorem dX4_init_15 : decode cX4_init 15 = .ok (.aload_n 0, 1) := by decide +kernel
theorem dX4_init_16 : decode cX4_init 16 = .ok (.bipush 24, 2) := by decide +kernel
theorem dX4_init_18 : decode cX4_init 18 = .ok (.anewarray 18, 3) := by decide +kernel
theorem dX4_init_21 : decode cX4_init 21 = .ok (.putfield 20, 3) := by decide +kernel
theorem dX4_init_24 : decode cX4_init 24 = .ok (.iconst 0, 1) := by decide +kernel
theorem dX4_init_25 : decode cX4_init 25 = .ok (.istore_n 1, 1) := by decide +kernel
theorem dX4_init_26 : decode cX4_init 26 = .ok (.iload_n 1, 1) := by decide +kernel
theorem dX4_init_27 : decode cX4_init 27 = .ok (.bipush 24, 2) := by decide +kernel
theorem dX4_init_29 : decode cX4_init 29 = .ok (.if_icmp .ge 22, 3) := by decide +kernel
theorem dX4_init_32 : decode cX4_init 32 = .ok (.aload_n 0, 1) := by decide +kernel
theorem dX4_init_33 : decode cX4_init 33 = .ok (.getfield 20, 3) := by decide +kernel
theorem dX4_init_36 : decode cX4_init 36 = .ok (.iload_n 1, 1) := by decide +kernel
theorem dX4_init_37 : decode cX4_init 37 = .ok (.new 18, 3) := by decide +kernel
theorem dX4_init_40 : decode cX4_init 40 = .ok (.dup, 1) := by decide +kernel
theorem dX4_init_41 : decode cX4_init 41 = .ok (.invokespecial 24, 3) := by decide +kernel
theorem dX4_init_44 : decode cX4_init 44 = .ok (.aastore, 1) := by decide +kernel
theorem dX4_init_45 : decode cX4_init 45 = .ok (.iinc 1 1, 3) := by decide +kernel
theorem dX4_init_48 : decode cX4_init 48 = .ok (.goto (-22), 3) := by decide +kernel
theorem dX4_init_51 : decode cX4_init 51 = .ok (.aload_n 0, 1) := by decide +kernel
theorem dX4_init_52 : decode cX4_init 52 = .ok (.iconst 1, 1) := by decide +kernel
theorem dX4_init_53 : decode cX4_init 53 = .ok (.iconst 1, 1) := by decide +kernel
theorem dX4_init_54 : decode cX4_init 54 = .ok (.iconst 0, 1) := by decide +kernel
theorem dX4_init_55 : decode cX4_init 55 = .ok (.iconst 0, 1) := by decide +kernel
theorem dX4_init_56 : decode cX4_init 56 = .ok (.iconst 0, 1) := by decide +kernel
theorem dX4_init_57 : decode cX4_init 57 = .ok (.invokevirtual 25, 3) := by decide +kernel
theorem dX4_init_60 : decode cX4_init 60 = .ok (.return_, 1) := by decide +kernel
theorem dX4_reset_0 : decode cX4_reset 0 = .ok (.aload_n 0, 1) := by decide +kernel
theorem dX4_reset_1 : decode cX4_reset 1 = .ok (.iload_n 1, 1) := by decide +kernel
theorem dX4_reset_2 : decode cX4_reset 2 = .ok (.putfield 29, 3) := by decide +kernel
theorem dX4_reset_5 : decode cX4_reset 5 = .ok (.aload_n 0, 1) := by decide +kernel
theorem dX4_reset_6 : decode cX4_reset 6 = .ok (.iload_n 2, 1) := by decide +kernel
theorem dX4_reset_7 : decode cX4_reset 7 = .ok (.putfield 33, 3) := by decide +kernel
theorem dX4_reset_10 : decode cX4_reset 10 = .ok (.aload_n 0, 1) := by decide +kernel
theorem dX4_reset_11 : decode cX4_reset 11 = .ok (.iload 4, 2) := by decide +kernel
theorem dX4_reset_13 : decode cX4_reset 13 = .ok (.putfield 36, 3) := by decide +kernel
theorem dX4_reset_16 : decode cX4_reset 16 = .ok (.aload_n 0, 1) := by decide +kernel
theorem dX4_reset_17 : decode cX4_reset 17 = .ok (.iload 5, 2) := by decide +kernel
theorem dX4_reset_19 : decode cX4_reset 19 = .ok (.putfield 39, 3) := by decide +kernel
theorem dX4_reset_22 : decode cX4_reset 22 = .ok (.aload_n 0, 1) := by decide +kernel
theorem dX4_reset_23 : decode cX4_reset 23 = .ok (.iconst 0, 1) := by decide +kernel
theorem dX4_reset_24 : decode cX4_reset 24 = .ok (.putfield 42, 3) := by decide +kernel
theorem dX4_reset_27 : decode cX4_reset 27 = .ok (.aload_n 0, 1) := by decide +kernel
theorem dX4_reset_28 : decode cX4_reset 28 = .ok (.getfield 12, 3) := by decide +kernel
theorem dX4_reset_31 : decode cX4_reset 31 = .ok (.iload_n 3, 1) := by decide +kernel
theorem dX4_reset_32 : decode cX4_reset 32 = .ok (.invokevirtual 45, 3) := by decide +kernel
theorem dX4_reset_35 : decode cX4_reset 35 = .ok (.return_, 1) := by decide +kernel
theorem dX4_hasRoom_0 : decode cX4_hasRoom 0 = .ok (.aload_n 0, 1) := by decide +kernel
theorem dX4_hasRoom_1 : decode cX4_hasRoom 1 = .ok (.getfield 42, 3) := by decide +kernel
theorem dX4_hasRoom_4 : decode cX4_hasRoom 4 = .ok (.bipush 24, 2) := by decide +kernel
theorem dX4_hasRoom_6 : decode cX4_hasRoom 6 = .ok (.if_icmp .ge 7, 3) := by decide +kernel
theorem dX4_hasRoom_9 : decode cX4_hasRoom 9 = .ok (.iconst 1, 1) := by decide +kernel
theorem dX4_hasRoom_10 : decode cX4_hasRoom 10 = .ok (.goto 4, 3) := by decide +kernel
theorem dX4_hasRoom_13 : decode cX4_hasRoom 13 = .ok (.iconst 0, 1) := by decide +kernel
theorem dX4_hasRoom_14 : decode cX4_hasRoom 14 = .ok (.ireturn, 1) := by decide +kernel
theorem dX4_holds_0 : decode cX4_holds 0 = .ok (.iload_n 3, 1) := by decide +kernel
theorem dX4_holds_1 : decode cX4_holds 1 = .ok (.iconst 1, 1) := by decide +kernel
theorem dX4_holds_2 : decode cX4_holds 2 = .ok (.if_icmp .lt 59, 3) := by decide +kernel
theorem dX4_holds_5 : decode cX4_holds 5 = .ok (.iload_n 3, 1) := by decide +kernel
theorem dX4_holds_6 : decode cX4_holds 6 = .ok (.aload_n 0, 1) := by decide +kernel
theorem dX4_holds_7 : decode cX4_holds 7 = .ok (.getfield 29, 3) := by decide +kernel
theorem dX4_holds_10 : decode cX4_holds 10 = .ok (.if_icmp .gt 51, 3) := by decide +kernel
theorem dX4_holds_13 : decode cX4_holds 13 = .ok (.iload_n 1, 1) := by decide +kernel
theorem dX4_holds_14 : decode cX4_holds 14 = .ok (.ifCond .lt 47, 3) := by decide +kernel
theorem dX4_holds_17 : decode cX4_holds 17 = .ok (.iload_n 1, 1) := by decide +kernel
theorem dX4_holds_18 : decode cX4_holds 18 = .ok (.aload_n 0, 1) := by decide +kernel
theorem dX4_holds_19 : decode cX4_holds 19 = .ok (.getfield 29, 3) := by decide +kernel
theorem dX4_holds_22 : decode cX4_holds 22 = .ok (.iload_n 3, 1) := by decide +kernel
theorem dX4_holds_23 : decode cX4_holds 23 = .ok (.isub, 1) := by decide +kernel
theorem dX4_holds_24 : decode cX4_holds 24 = .ok (.if_icmp .gt 37, 3) := by decide +kernel
theorem dX4_holds_27 : decode cX4_holds 27 = .ok (.iload 4, 2) := by decide +kernel
theorem dX4_holds_29 : decode cX4_holds 29 = .ok (.iconst 1, 1) := by decide +kernel
theorem dX4_holds_30 : decode cX4_holds 30 = .ok (.if_icmp .lt 31, 3) := by decide +kernel
theorem dX4_holds_33 : decode cX4_holds 33 = .ok (.iload 4, 2) := by decide +kernel
theorem dX4_holds_35 : decode cX4_holds 35 = .ok (.aload_n 0, 1) := by decide +kernel
theorem dX4_holds_36 : decode cX4_holds 36 = .ok (.getfield 33, 3) := by decide +kernel
theorem dX4_holds_39 : decode cX4_holds 39 = .ok (.if_icmp .gt 22, 3) := by decide +kernel
theorem dX4_holds_42 : decode cX4_holds 42 = .ok (.iload_n 2, 1) := by decide +kernel
theorem dX4_holds_43 : decode cX4_holds 43 = .ok (.ifCond .lt 18, 3) := by decide +kernel
theorem dX4_holds_46 : decode cX4_holds 46 = .ok (.iload_n 2, 1) := by decide +kernel
theorem dX4_holds_47 : decode cX4_holds 47 = .ok (.aload_n 0, 1) := by decide +kernel
theorem dX4_holds_48 : decode cX4_holds 48 = .ok (.getfield 33, 3) := by decide +kernel
theorem dX4_holds_51 : decode cX4_holds 51 = .ok (.iload 4, 2) := by decide +kernel
theorem dX4_holds_53 : decode cX4_holds 53 = .ok (.isub, 1) := by decide +kernel
theorem dX4_holds_54 : decode cX4_holds 54 = .ok (.if_icmp .gt 7, 3) := by decide +kernel
theorem dX4_holds_57 : decode cX4_holds 57 = .ok (.iconst 1, 1) := by decide +kernel
theorem dX4_holds_58 : decode cX4_holds 58 = .ok (.goto 4, 3) := by decide +kernel
theorem dX4_holds_61 : decode cX4_holds 61 = .ok (.iconst 0, 1) := by decide +kernel
theorem dX4_holds_62 : decode cX4_holds 62 = .ok (.ireturn, 1) := by decide +kernel
theorem dX4_givesTable_0 : decode cX4_givesTable 0 = .ok (.iload_n 1, 1) := by decide +kernel
theorem dX4_givesTable_1 : decode cX4_givesTable 1 = .ok (.ifCond .ne 13, 3) := by decide +kernel
theorem dX4_givesTable_4 : decode cX4_givesTable 4 = .ok (.aload_n 0, 1) := by decide +kernel
theorem dX4_givesTable_5 : decode cX4_givesTable 5 = .ok (.getfield 12, 3) := by decide +kernel
theorem dX4_givesTable_8 : decode cX4_givesTable 8 = .ok (.getfield 48, 3) := by decide +kernel
theorem dX4_givesTable_11 : decode cX4_givesTable 11 = .ok (.ifCond .eq 7, 3) := by decide +kernel
theorem dX4_givesTable_14 : decode cX4_givesTable 14 = .ok (.iconst 1, 1) := by decide +kernel
theorem dX4_givesTable_15 : decode cX4_givesTable 15 = .ok (.goto 4, 3) := by decide +kernel
theorem dX4_givesTable_18 : decode cX4_givesTable 18 = .ok (.iconst 0, 1) := by decide +kernel
theorem dX4_givesTable_19 : decode cX4_givesTable 19 = .ok (.ireturn, 1) := by decide +kernel
theorem dX4_frameAt_0 : decode cX4_frameAt 0 = .ok (.iload_n 1, 1) := by decide +kernel
theorem dX4_frameAt_1 : decode cX4_frameAt 1 = .ok (.ifCond .lt 20, 3) := by decide +kernel
theorem dX4_frameAt_4 : decode cX4_frameAt 4 = .ok (.iload_n 1, 1) := by decide +kernel
theorem dX4_frameAt_5 : decode cX4_frameAt 5 = .ok (.aload_n 0, 1) := by decide +kernel
theorem dX4_frameAt_6 : decode cX4_frameAt 6 = .ok (.getfield 42, 3) := by decide +kernel
theorem dX4_frameAt_9 : decode cX4_frameAt 9 = .ok (.if_icmp .ge 12, 3) := by decide +kernel
theorem dX4_frameAt_12 : decode cX4_frameAt 12 = .ok (.aload_n 0, 1) := by decide +kernel
theorem dX4_frameAt_13 : decode cX4_frameAt 13 = .ok (.getfield 20, 3) := by decide +kernel
theorem dX4_frameAt_16 : decode cX4_frameAt 16 = .ok (.iload_n 1, 1) := by decide +kernel
theorem dX4_frameAt_17 : decode cX4_frameAt 17 = .ok (.aaload, 1) := by decide +kernel
theorem dX4_frameAt_18 : decode cX4_frameAt 18 = .ok (.goto 4, 3) := by decide +kernel
theorem dX4_frameAt_21 : decode cX4_frameAt 21 = .ok (.aconst_null, 1) := by decide +kernel
theorem dX4_frameAt_22 : decode cX4_frameAt 22 = .ok (.areturn, 1) := by decide +kernel
theorem dX4_tableOf_0 : decode cX4_tableOf 0 = .ok (.aload_n 1, 1) := by decide +kernel
theorem dX4_tableOf_1 : decode cX4_tableOf 1 = .ok (.getfield 51, 3) := by decide +kernel
theorem dX4_tableOf_4 : decode cX4_tableOf 4 = .ok (.getfield 48, 3) := by decide +kernel
theorem dX4_tableOf_7 : decode cX4_tableOf 7 = .ok (.ifCond .eq 10, 3) := by decide +kernel
theorem dX4_tableOf_10 : decode cX4_tableOf 10 = .ok (.aload_n 1, 1) := by decide +kernel
theorem dX4_tableOf_11 : decode cX4_tableOf 11 = .ok (.getfield 51, 3) := by decide +kernel
theorem dX4_tableOf_14 : decode cX4_tableOf 14 = .ok (.goto 7, 3) := by decide +kernel
theorem dX4_tableOf_17 : decode cX4_tableOf 17 = .ok (.aload_n 0, 1) := by decide +kernel
theorem dX4_tableOf_18 : decode cX4_tableOf 18 = .ok (.getfield 12, 3) := by decide +kernel
theorem dX4_tableOf_21 : decode cX4_tableOf 21 = .ok (.areturn, 1) := by decide +kernel
theorem dX4_addFrame_0 : decode cX4_addFrame 0 = .ok (.aload_n 0, 1) := by decide +kernel
theorem dX4_addFrame_1 : decode cX4_addFrame 1 = .ok (.getfield 20, 3) := by decide +kernel
theorem dX4_addFrame_4 : decode cX4_addFrame 4 = .ok (.aload_n 0, 1) := by decide +kernel
theorem dX4_addFrame_5 : decode cX4_addFrame 5 = .ok (.getfield 42, 3) := by decide +kernel
theorem dX4_addFrame_8 : decode cX4_addFrame 8 = .ok (.aaload, 1) := by decide +kernel
theorem dX4_addFrame_9 : decode cX4_addFrame 9 = .ok (.astore 7, 2) := by decide +kernel
theorem dX4_addFrame_11 : decode cX4_addFrame 11 = .ok (.aload 7, 2) := by decide +kernel
theorem dX4_addFrame_13 : decode cX4_addFrame 13 = .ok (.iload_n 1, 1) := by decide +kernel
theorem dX4_addFrame_14 : decode cX4_addFrame 14 = .ok (.iload_n 2, 1) := by decide +kernel
theorem dX4_addFrame_15 : decode cX4_addFrame 15 = .ok (.iload_n 3, 1) := by decide +kernel
theorem dX4_addFrame_16 : decode cX4_addFrame 16 = .ok (.iload 4, 2) := by decide +kernel
theorem dX4_addFrame_18 : decode cX4_addFrame 18 = .ok (.invokevirtual 54, 3) := by decide +kernel
theorem dX4_addFrame_21 : decode cX4_addFrame 21 = .ok (.aload 7, 2) := by decide +kernel
theorem dX4_addFrame_23 : decode cX4_addFrame 23 = .ok (.getfield 51, 3) := by decide +kernel
theorem dX4_addFrame_26 : decode cX4_addFrame 26 = .ok (.iload 5, 2) := by decide +kernel
theorem dX4_addFrame_28 : decode cX4_addFrame 28 = .ok (.invokevirtual 45, 3) := by decide +kernel
theorem dX4_addFrame_31 : decode cX4_addFrame 31 = .ok (.aload 7, 2) := by decide +kernel
theorem dX4_addFrame_33 : decode cX4_addFrame 33 = .ok (.iload 6, 2) := by decide +kernel
theorem dX4_addFrame_35 : decode cX4_addFrame 35 = .ok (.putfield 57, 3) := by decide +kernel
theorem dX4_addFrame_38 : decode cX4_addFrame 38 = .ok (.aload_n 0, 1) := by decide +kernel
theorem dX4_addFrame_39 : decode cX4_addFrame 39 = .ok (.dup, 1) := by decide +kernel
theorem dX4_addFrame_40 : decode cX4_addFrame 40 = .ok (.getfield 42, 3) := by decide +kernel
theorem dX4_addFrame_43 : decode cX4_addFrame 43 = .ok (.iconst 1, 1) := by decide +kernel
theorem dX4_addFrame_44 : decode cX4_addFrame 44 = .ok (.iadd, 1) := by decide +kernel
theorem dX4_addFrame_45 : decode cX4_addFrame 45 = .ok (.putfield 42, 3) := by decide +kernel
theorem dX4_addFrame_48 : decode cX4_addFrame 48 = .ok (.aload 7, 2) := by decide +kernel
theorem dX4_addFrame_50 : decode cX4_addFrame 50 = .ok (.areturn, 1) := by decide +kernel
theorem dX4_colourAt_0 : decode cX4_colourAt 0 = .ok (.aload_n 0, 1) := by decide +kernel
theorem dX4_colourAt_1 : decode cX4_colourAt 1 = .ok (.getfield 12, 3) := by decide +kernel
theorem dX4_colourAt_4 : decode cX4_colourAt 4 = .ok (.aload_n 0, 1) := by decide +kernel
theorem dX4_colourAt_5 : decode cX4_colourAt 5 = .ok (.getfield 36, 3) := by decide +kernel
theorem dX4_colourAt_8 : decode cX4_colourAt 8 = .ok (.invokevirtual 61, 3) := by decide +kernel
theorem dX4_colourAt_11 : decode cX4_colourAt 11 = .ok (.ifCond .eq 18, 3) := by decide +kernel
theorem dX4_colourAt_14 : decode cX4_colourAt 14 = .ok (.aload_n 0, 1) := by decide +kernel
theorem dX4_colourAt_15 : decode cX4_colourAt 15 = .ok (.getfield 12, 3) := by decide +kernel
theorem dX4_colourAt_18 : decode cX4_colourAt 18 = .ok (.getfield 65, 3) := by decide +kernel
theorem dX4_colourAt_21 : decode cX4_colourAt 21 = .ok (.aload_n 0, 1) := by decide +kernel
theorem dX4_colourAt_22 : decode cX4_colourAt 22 = .ok (.getfield 36, 3) := by decide +kernel
theorem dX4_colourAt_25 : decode cX4_colourAt 25 = .ok (.iaload, 1) := by decide +kernel
theorem dX4_colourAt_26 : decode cX4_colourAt 26 = .ok (.goto 4, 3) := by decide +kernel
theorem dX4_colourAt_29 : decode cX4_colourAt 29 = .ok (.iconst (-1), 1) := by decide +kernel
theorem dX4_colourAt_30 : decode cX4_colourAt 30 = .ok (.istore 4, 2) := by decide +kernel
theorem dX4_colourAt_32 : decode cX4_colourAt 32 = .ok (.iload 4, 2) := by decide +kernel
theorem dX4_colourAt_34 : decode cX4_colourAt 34 = .ok (.istore 5, 2) := by decide +kernel
theorem dX4_colourAt_36 : decode cX4_colourAt 36 = .ok (.iconst 0, 1) := by decide +kernel
theorem dX4_colourAt_37 : decode cX4_colourAt 37 = .ok (.istore 6, 2) := by decide +kernel
theorem dX4_colourAt_39 : decode cX4_colourAt 39 = .ok (.iload 6, 2) := by decide +kernel
theorem dX4_colourAt_41 : decode cX4_colourAt 41 = .ok (.iload_n 1, 1) := by decide +kernel
theorem dX4_colourAt_42 : decode cX4_colourAt 42 = .ok (.if_icmp .ge 28, 3) := by decide +kernel
theorem dX4_colourAt_45 : decode cX4_colourAt 45 = .ok (.aload_n 0, 1) := by decide +kernel
theorem dX4_colourAt_46 : decode cX4_colourAt 46 = .ok (.aload_n 0, 1) := by decide +kernel
theorem dX4_colourAt_47 : decode cX4_colourAt 47 = .ok (.getfield 20, 3) := by decide +kernel
theorem dX4_colourAt_50 : decode cX4_colourAt 50 = .ok (.iload 6, 2) := by decide +kernel
theorem dX4_colourAt_52 : decode cX4_colourAt 52 = .ok (.aaload, 1) := by decide +kernel
theorem dX4_colourAt_53 : decode cX4_colourAt 53 = .ok (.iload_n 2, 1) := by decide +kernel
theorem dX4_colourAt_54 : decode cX4_colourAt 54 = .ok (.iload_n 3, 1) := by decide +kernel
theorem dX4_colourAt_55 : decode cX4_colourAt 55 = .ok (.iload 5, 2) := by decide +kernel
theorem dX4_colourAt_57 : decode cX4_colourAt 57 = .ok (.iload 4, 2) := by decide +kernel
theorem dX4_colourAt_59 : decode cX4_colourAt 59 = .ok (.invokevirtual 69, 3) := by decide +kernel
theorem dX4_colourAt_62 : decode cX4_colourAt 62 = .ok (.istore 5, 2) := by decide +kernel
theorem dX4_colourAt_64 : decode cX4_colourAt 64 = .ok (.iinc 6 1, 3) := by decide +kernel
theorem dX4_colourAt_67 : decode cX4_colourAt 67 = .ok (.goto (-28), 3) := by decide +kernel
theorem dX4_colourAt_70 : decode cX4_colourAt 70 = .ok (.aload_n 0, 1) := by decide +kernel
theorem dX4_colourAt_71 : decode cX4_colourAt 71 = .ok (.aload_n 0, 1) := by decide +kernel
theorem dX4_colourAt_72 : decode cX4_colourAt 72 = .ok (.getfield 20, 3) := by decide +kernel
theorem dX4_colourAt_75 : decode cX4_colourAt 75 = .ok (.iload_n 1, 1) := by decide +kernel
theorem dX4_colourAt_76 : decode cX4_colourAt 76 = .ok (.aaload, 1) := by decide +kernel
theorem dX4_colourAt_77 : decode cX4_colourAt 77 = .ok (.iload_n 2, 1) := by decide +kernel
theorem dX4_colourAt_78 : decode cX4_colourAt 78 = .ok (.iload_n 3, 1) := by decide +kernel
theorem dX4_colourAt_79 : decode cX4_colourAt 79 = .ok (.iload 5, 2) := by decide +kernel
theorem dX4_colourAt_81 : decode cX4_colourAt 81 = .ok (.invokevirtual 73, 3) := by decide +kernel
theorem dX4_colourAt_84 : decode cX4_colourAt 84 = .ok (.ireturn, 1) := by decide +kernel
theorem dX4_shown_0 : decode cX4_shown 0 = .ok (.aload_n 1, 1) := by decide +kernel
theorem dX4_shown_1 : decode cX4_shown 1 = .ok (.iload_n 2, 1) := by decide +kernel
theorem dX4_shown_2 : decode cX4_shown 2 = .ok (.iload_n 3, 1) := by decide +kernel
theorem dX4_shown_3 : decode cX4_shown 3 = .ok (.invokevirtual 77, 3) := by decide +kernel
theorem dX4_shown_6 : decode cX4_shown 6 = .ok (.ifCond .ne 6, 3) := by decide +kernel
theorem dX4_shown_9 : decode cX4_shown 9 = .ok (.iload 4, 2) := by decide +kernel
theorem dX4_shown_11 : decode cX4_shown 11 = .ok (.ireturn, 1) := by decide +kernel
theorem dX4_shown_12 : decode cX4_shown 12 = .ok (.aload_n 1, 1) := by decide +kernel
theorem dX4_shown_13 : decode cX4_shown 13 = .ok (.iload_n 2, 1) := by decide +kernel
theorem dX4_shown_14 : decode cX4_shown 14 = .ok (.iload_n 3, 1) := by decide +kernel
theorem dX4_shown_15 : decode cX4_shown 15 = .ok (.invokevirtual 81, 3) := by decide +kernel
theorem dX4_shown_18 : decode cX4_shown 18 = .ok (.istore 5, 2) := by decide +kernel
theorem dX4_shown_20 : decode cX4_shown 20 = .ok (.iload 5, 2) := by decide +kernel
theorem dX4_shown_22 : decode cX4_shown 22 = .ok (.aload_n 1, 1) := by decide +kernel
theorem dX4_shown_23 : decode cX4_shown 23 = .ok (.getfield 85, 3) := by decide +kernel
theorem dX4_shown_26 : decode cX4_shown 26 = .ok (.getfield 89, 3) := by decide +kernel
theorem dX4_shown_29 : decode cX4_shown 29 = .ok (.if_icmp .ne 8, 3) := by decide +kernel
theorem dX4_shown_32 : decode cX4_shown 32 = .ok (.iload 4, 2) := by decide +kernel
theorem dX4_shown_34 : decode cX4_shown 34 = .ok (.goto 14, 3) := by decide +kernel
theorem dX4_shown_37 : decode cX4_shown 37 = .ok (.aload_n 0, 1) := by decide +kernel
theorem dX4_shown_38 : decode cX4_shown 38 = .ok (.aload_n 1, 1) := by decide +kernel
theorem dX4_shown_39 : decode cX4_shown 39 = .ok (.invokevirtual 94, 3) := by decide +kernel
theorem dX4_shown_42 : decode cX4_shown 42 = .ok (.getfield 65, 3) := by decide +kernel
theorem dX4_shown_45 : decode cX4_shown 45 = .ok (.iload 5, 2) := by decide +kernel
theorem dX4_shown_47 : decode cX4_shown 47 = .ok (.iaload, 1) := by decide +kernel
theorem dX4_shown_48 : decode cX4_shown 48 = .ok (.ireturn, 1) := by decide +kernel
theorem dX4_leftBehind_0 : decode cX4_leftBehind 0 = .ok (.aload_n 1, 1) := by decide +kernel
theorem dX4_leftBehind_1 : decode cX4_leftBehind 1 = .ok (.iload_n 2, 1) := by decide +kernel
theorem dX4_leftBehind_2 : decode cX4_leftBehind 2 = .ok (.iload_n 3, 1) := by decide +kernel
theorem dX4_leftBehind_3 : decode cX4_leftBehind 3 = .ok (.invokevirtual 77, 3) := by decide +kernel
theorem dX4_leftBehind_6 : decode cX4_leftBehind 6 = .ok (.ifCond .eq 14, 3) := by decide +kernel
theorem dX4_leftBehind_9 : decode cX4_leftBehind 9 = .ok (.aload_n 1, 1) := by decide +kernel
theorem dX4_leftBehind_10 : decode cX4_leftBehind 10 = .ok (.getfield 85, 3) := by decide +kernel
theorem dX4_leftBehind_13 : decode cX4_leftBehind 13 = .ok (.getfield 98, 3) := by decide +kernel
theorem dX4_leftBehind_16 : decode cX4_leftBehind 16 = .ok (.iconst 3, 1) := by decide +kernel
theorem dX4_leftBehind_17 : decode cX4_leftBehind 17 = .ok (.if_icmp .ne 6, 3) := by decide +kernel
theorem dX4_leftBehind_20 : decode cX4_leftBehind 20 = .ok (.iload 4, 2) := by decide +kernel
theorem dX4_leftBehind_22 : decode cX4_leftBehind 22 = .ok (.ireturn, 1) := by decide +kernel
theorem dX4_leftBehind_23 : decode cX4_leftBehind 23 = .ok (.aload_n 1, 1) := by decide +kernel
theorem dX4_leftBehind_24 : decode cX4_leftBehind 24 = .ok (.getfield 85, 3) := by decide +kernel
theorem dX4_leftBehind_27 : decode cX4_leftBehind 27 = .ok (.getfield 98, 3) := by decide +kernel
theorem dX4_leftBehind_30 : decode cX4_leftBehind 30 = .ok (.iconst 2, 1) := by decide +kernel
theorem dX4_leftBehind_31 : decode cX4_leftBehind 31 = .ok (.if_icmp .ne 8, 3) := by decide +kernel
theorem dX4_leftBehind_34 : decode cX4_leftBehind 34 = .ok (.iload 5, 2) := by decide +kernel
theorem dX4_leftBehind_36 : decode cX4_leftBehind 36 = .ok (.goto 12, 3) := by decide +kernel
theorem dX4_leftBehind_39 : decode cX4_leftBehind 39 = .ok (.aload_n 0, 1) := by decide +kernel
theorem dX4_leftBehind_40 : decode cX4_leftBehind 40 = .ok (.aload_n 1, 1) := by decide +kernel
theorem dX4_leftBehind_41 : decode cX4_leftBehind 41 = .ok (.iload_n 2, 1) := by decide +kernel
theorem dX4_leftBehind_42 : decode cX4_leftBehind 42 = .ok (.iload_n 3, 1) := by decide +kernel
theorem dX4_leftBehind_43 : decode cX4_leftBehind 43 = .ok (.iload 4, 2) := by decide +kernel
theorem dX4_leftBehind_45 : decode cX4_leftBehind 45 = .ok (.invokevirtual 73, 3) := by decide +kernel
theorem dX4_leftBehind_48 : decode cX4_leftBehind 48 = .ok (.ireturn, 1) := by decide +kernel
theorem dX5_init_0 : decode cX5_init 0 = .ok (.aload_n 0, 1) := by decide +kernel
theorem dX5_init_1 : decode cX5_init 1 = .ok (.invokespecial 3, 3) := by decide +kernel
theorem dX5_init_4 : decode cX5_init 4 = .ok (.aload_n 0, 1) := by decide +kernel
theorem dX5_init_5 : decode cX5_init 5 = .ok (.new 9, 3) := by decide +kernel
theorem dX5_init_8 : decode cX5_init 8 = .ok (.dup, 1) := by decide +kernel
theorem dX5_init_9 : decode cX5_init 9 = .ok (.invokespecial 11, 3) := by decide +kernel
theorem dX5_init_12 : decode cX5_init 12 = .ok (.putfield 12, 3) := by decide +kernel
theorem dX5_init_15 : decode cX5_init 15 = .ok (.aload_n 0, 1) := by decide +kernel
theorem dX5_init_16 : decode cX5_init 16 = .ok (.new 18, 3) := by decide +kernel
theorem dX5_init_19 : decode cX5_init 19 = .ok (.dup, 1) := by decide +kernel
theorem dX5_init_20 : decode cX5_init 20 = .ok (.invokespecial 20, 3) := by decide +kernel
theorem dX5_init_23 : decode cX5_init 23 = .ok (.putfield 21, 3) := by decide +kernel
theorem dX5_init_26 : decode cX5_init 26 = .ok (.aload_n 0, 1) := by decide +kernel
theorem dX5_init_27 : decode cX5_init 27 = .ok (.new 25, 3) := by decide +kernel
theorem dX5_init_30 : decode cX5_init 30 = .ok (.dup, 1) := by decide +kernel
theorem dX5_init_31 : decode cX5_init 31 = .ok (.invokespecial 27, 3) := by decide +kernel
theorem dX5_init_34 : decode cX5_init 34 = .ok (.putfield 28, 3) := by decide +kernel
theorem dX5_init_37 : decode cX5_init 37 = .ok (.aload_n 0, 1) := by decide +kernel
