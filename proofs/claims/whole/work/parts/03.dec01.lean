theorem dX5_init_38 : decode cX5_init 38 = .ok (.new 32, 3) := by decide +kernel
theorem dX5_init_41 : decode cX5_init 41 = .ok (.dup, 1) := by decide +kernel
theorem dX5_init_42 : decode cX5_init 42 = .ok (.invokespecial 34, 3) := by decide +kernel
theorem dX5_init_45 : decode cX5_init 45 = .ok (.putfield 35, 3) := by decide +kernel
theorem dX5_init_48 : decode cX5_init 48 = .ok (.aload_n 0, 1) := by decide +kernel
theorem dX5_init_49 : decode cX5_init 49 = .ok (.iconst 0, 1) := by decide +kernel
theorem dX5_init_50 : decode cX5_init 50 = .ok (.putfield 39, 3) := by decide +kernel
theorem dX5_init_53 : decode cX5_init 53 = .ok (.aload_n 0, 1) := by decide +kernel
theorem dX5_init_54 : decode cX5_init 54 = .ok (.iconst (-1), 1) := by decide +kernel
theorem dX5_init_55 : decode cX5_init 55 = .ok (.putfield 43, 3) := by decide +kernel
theorem dX5_init_58 : decode cX5_init 58 = .ok (.return_, 1) := by decide +kernel
theorem dX5_exchange_0 : decode cX5_exchange 0 = .ok (.aload_n 0, 1) := by decide +kernel
theorem dX5_exchange_1 : decode cX5_exchange 1 = .ok (.getfield 35, 3) := by decide +kernel
theorem dX5_exchange_4 : decode cX5_exchange 4 = .ok (.astore_n 2, 1) := by decide +kernel
theorem dX5_exchange_5 : decode cX5_exchange 5 = .ok (.aload_n 0, 1) := by decide +kernel
theorem dX5_exchange_6 : decode cX5_exchange 6 = .ok (.aload_n 1, 1) := by decide +kernel
theorem dX5_exchange_7 : decode cX5_exchange 7 = .ok (.putfield 35, 3) := by decide +kernel
theorem dX5_exchange_10 : decode cX5_exchange 10 = .ok (.aload_n 2, 1) := by decide +kernel
theorem dX5_exchange_11 : decode cX5_exchange 11 = .ok (.areturn, 1) := by decide +kernel
theorem dX5_parse_0 : decode cX5_parse 0 = .ok (.aload_n 0, 1) := by decide +kernel
theorem dX5_parse_1 : decode cX5_parse 1 = .ok (.iload_n 1, 1) := by decide +kernel
theorem dX5_parse_2 : decode cX5_parse 2 = .ok (.aload_n 0, 1) := by decide +kernel
theorem dX5_parse_3 : decode cX5_parse 3 = .ok (.getfield 12, 3) := by decide +kernel
theorem dX5_parse_6 : decode cX5_parse 6 = .ok (.getfield 46, 3) := by decide +kernel
theorem dX5_parse_9 : decode cX5_parse 9 = .ok (.invokestatic 49, 3) := by decide +kernel
theorem dX5_parse_12 : decode cX5_parse 12 = .ok (.putfield 55, 3) := by decide +kernel
theorem dX5_parse_15 : decode cX5_parse 15 = .ok (.aload_n 0, 1) := by decide +kernel
theorem dX5_parse_16 : decode cX5_parse 16 = .ok (.iconst 0, 1) := by decide +kernel
theorem dX5_parse_17 : decode cX5_parse 17 = .ok (.putfield 58, 3) := by decide +kernel
theorem dX5_parse_20 : decode cX5_parse 20 = .ok (.aload_n 0, 1) := by decide +kernel
theorem dX5_parse_21 : decode cX5_parse 21 = .ok (.iconst 0, 1) := by decide +kernel
theorem dX5_parse_22 : decode cX5_parse 22 = .ok (.putfield 61, 3) := by decide +kernel
theorem dX5_parse_25 : decode cX5_parse 25 = .ok (.aload_n 0, 1) := by decide +kernel
theorem dX5_parse_26 : decode cX5_parse 26 = .ok (.iconst 0, 1) := by decide +kernel
theorem dX5_parse_27 : decode cX5_parse 27 = .ok (.putfield 65, 3) := by decide +kernel
theorem dX5_parse_30 : decode cX5_parse 30 = .ok (.aload_n 0, 1) := by decide +kernel
theorem dX5_parse_31 : decode cX5_parse 31 = .ok (.iconst 0, 1) := by decide +kernel
theorem dX5_parse_32 : decode cX5_parse 32 = .ok (.putfield 39, 3) := by decide +kernel
theorem dX5_parse_35 : decode cX5_parse 35 = .ok (.aload_n 0, 1) := by decide +kernel
theorem dX5_parse_36 : decode cX5_parse 36 = .ok (.iconst (-1), 1) := by decide +kernel
theorem dX5_parse_37 : decode cX5_parse 37 = .ok (.putfield 43, 3) := by decide +kernel
theorem dX5_parse_40 : decode cX5_parse 40 = .ok (.aload_n 0, 1) := by decide +kernel
theorem dX5_parse_41 : decode cX5_parse 41 = .ok (.invokevirtual 68, 3) := by decide +kernel
theorem dX5_parse_44 : decode cX5_parse 44 = .ok (.aload_n 0, 1) := by decide +kernel
theorem dX5_parse_45 : decode cX5_parse 45 = .ok (.invokevirtual 71, 3) := by decide +kernel
theorem dX5_parse_48 : decode cX5_parse 48 = .ok (.aload_n 0, 1) := by decide +kernel
theorem dX5_parse_49 : decode cX5_parse 49 = .ok (.invokevirtual 74, 3) := by decide +kernel
theorem dX5_parse_52 : decode cX5_parse 52 = .ok (.iconst 0, 1) := by decide +kernel
theorem dX5_parse_53 : decode cX5_parse 53 = .ok (.istore_n 2, 1) := by decide +kernel
theorem dX5_parse_54 : decode cX5_parse 54 = .ok (.iload_n 2, 1) := by decide +kernel
theorem dX5_parse_55 : decode cX5_parse 55 = .ok (.aload_n 0, 1) := by decide +kernel
theorem dX5_parse_56 : decode cX5_parse 56 = .ok (.getfield 55, 3) := by decide +kernel
theorem dX5_parse_59 : decode cX5_parse 59 = .ok (.if_icmp .gt 27, 3) := by decide +kernel
theorem dX5_parse_62 : decode cX5_parse 62 = .ok (.aload_n 0, 1) := by decide +kernel
theorem dX5_parse_63 : decode cX5_parse 63 = .ok (.getfield 39, 3) := by decide +kernel
theorem dX5_parse_66 : decode cX5_parse 66 = .ok (.ifCond .ne 20, 3) := by decide +kernel
theorem dX5_parse_69 : decode cX5_parse 69 = .ok (.aload_n 0, 1) := by decide +kernel
theorem dX5_parse_70 : decode cX5_parse 70 = .ok (.getfield 65, 3) := by decide +kernel
theorem dX5_parse_73 : decode cX5_parse 73 = .ok (.ifCond .ne 13, 3) := by decide +kernel
theorem dX5_parse_76 : decode cX5_parse 76 = .ok (.aload_n 0, 1) := by decide +kernel
theorem dX5_parse_77 : decode cX5_parse 77 = .ok (.invokevirtual 77, 3) := by decide +kernel
theorem dX5_parse_80 : decode cX5_parse 80 = .ok (.iinc 2 1, 3) := by decide +kernel
theorem dX5_parse_83 : decode cX5_parse 83 = .ok (.goto (-29), 3) := by decide +kernel
theorem dX5_parse_86 : decode cX5_parse 86 = .ok (.return_, 1) := by decide +kernel
theorem dX5_refuse_0 : decode cX5_refuse 0 = .ok (.aload_n 0, 1) := by decide +kernel
theorem dX5_refuse_1 : decode cX5_refuse 1 = .ok (.getfield 39, 3) := by decide +kernel
theorem dX5_refuse_4 : decode cX5_refuse 4 = .ok (.ifCond .ne 13, 3) := by decide +kernel
theorem dX5_refuse_7 : decode cX5_refuse 7 = .ok (.aload_n 0, 1) := by decide +kernel
theorem dX5_refuse_8 : decode cX5_refuse 8 = .ok (.iload_n 1, 1) := by decide +kernel
theorem dX5_refuse_9 : decode cX5_refuse 9 = .ok (.putfield 39, 3) := by decide +kernel
theorem dX5_refuse_12 : decode cX5_refuse 12 = .ok (.aload_n 0, 1) := by decide +kernel
theorem dX5_refuse_13 : decode cX5_refuse 13 = .ok (.iload_n 2, 1) := by decide +kernel
theorem dX5_refuse_14 : decode cX5_refuse 14 = .ok (.putfield 43, 3) := by decide +kernel
theorem dX5_refuse_17 : decode cX5_refuse 17 = .ok (.return_, 1) := by decide +kernel
theorem dX5_nextByte_0 : decode cX5_nextByte 0 = .ok (.aload_n 0, 1) := by decide +kernel
theorem dX5_nextByte_1 : decode cX5_nextByte 1 = .ok (.getfield 58, 3) := by decide +kernel
theorem dX5_nextByte_4 : decode cX5_nextByte 4 = .ok (.aload_n 0, 1) := by decide +kernel
theorem dX5_nextByte_5 : decode cX5_nextByte 5 = .ok (.getfield 55, 3) := by decide +kernel
theorem dX5_nextByte_8 : decode cX5_nextByte 8 = .ok (.if_icmp .lt 12, 3) := by decide +kernel
theorem dX5_nextByte_11 : decode cX5_nextByte 11 = .ok (.aload_n 0, 1) := by decide +kernel
theorem dX5_nextByte_12 : decode cX5_nextByte 12 = .ok (.iconst 2, 1) := by decide +kernel
theorem dX5_nextByte_13 : decode cX5_nextByte 13 = .ok (.aload_n 0, 1) := by decide +kernel
theorem dX5_nextByte_14 : decode cX5_nextByte 14 = .ok (.getfield 55, 3) := by decide +kernel
theorem dX5_nextByte_17 : decode cX5_nextByte 17 = .ok (.invokevirtual 80, 3) := by decide +kernel
theorem dX5_nextByte_20 : decode cX5_nextByte 20 = .ok (.aload_n 0, 1) := by decide +kernel
theorem dX5_nextByte_21 : decode cX5_nextByte 21 = .ok (.getfield 39, 3) := by decide +kernel
theorem dX5_nextByte_24 : decode cX5_nextByte 24 = .ok (.ifCond .eq 5, 3) := by decide +kernel
theorem dX5_nextByte_27 : decode cX5_nextByte 27 = .ok (.iconst 0, 1) := by decide +kernel
theorem dX5_nextByte_28 : decode cX5_nextByte 28 = .ok (.ireturn, 1) := by decide +kernel
theorem dX5_nextByte_29 : decode cX5_nextByte 29 = .ok (.aload_n 0, 1) := by decide +kernel
theorem dX5_nextByte_30 : decode cX5_nextByte 30 = .ok (.dup, 1) := by decide +kernel
theorem dX5_nextByte_31 : decode cX5_nextByte 31 = .ok (.getfield 58, 3) := by decide +kernel
theorem dX5_nextByte_34 : decode cX5_nextByte 34 = .ok (.iconst 1, 1) := by decide +kernel
theorem dX5_nextByte_35 : decode cX5_nextByte 35 = .ok (.iadd, 1) := by decide +kernel
theorem dX5_nextByte_36 : decode cX5_nextByte 36 = .ok (.putfield 58, 3) := by decide +kernel
theorem dX5_nextByte_39 : decode cX5_nextByte 39 = .ok (.aload_n 0, 1) := by decide +kernel
theorem dX5_nextByte_40 : decode cX5_nextByte 40 = .ok (.getfield 12, 3) := by decide +kernel
theorem dX5_nextByte_43 : decode cX5_nextByte 43 = .ok (.aload_n 0, 1) := by decide +kernel
theorem dX5_nextByte_44 : decode cX5_nextByte 44 = .ok (.getfield 58, 3) := by decide +kernel
theorem dX5_nextByte_47 : decode cX5_nextByte 47 = .ok (.iconst 1, 1) := by decide +kernel
theorem dX5_nextByte_48 : decode cX5_nextByte 48 = .ok (.isub, 1) := by decide +kernel
theorem dX5_nextByte_49 : decode cX5_nextByte 49 = .ok (.invokevirtual 84, 3) := by decide +kernel
theorem dX5_nextByte_52 : decode cX5_nextByte 52 = .ok (.ireturn, 1) := by decide +kernel
theorem dX5_nextNumber_0 : decode cX5_nextNumber 0 = .ok (.aload_n 0, 1) := by decide +kernel
theorem dX5_nextNumber_1 : decode cX5_nextNumber 1 = .ok (.invokevirtual 87, 3) := by decide +kernel
theorem dX5_nextNumber_4 : decode cX5_nextNumber 4 = .ok (.istore_n 1, 1) := by decide +kernel
theorem dX5_nextNumber_5 : decode cX5_nextNumber 5 = .ok (.iload_n 1, 1) := by decide +kernel
theorem dX5_nextNumber_6 : decode cX5_nextNumber 6 = .ok (.aload_n 0, 1) := by decide +kernel
theorem dX5_nextNumber_7 : decode cX5_nextNumber 7 = .ok (.invokevirtual 87, 3) := by decide +kernel
theorem dX5_nextNumber_10 : decode cX5_nextNumber 10 = .ok (.bipush 8, 2) := by decide +kernel
theorem dX5_nextNumber_12 : decode cX5_nextNumber 12 = .ok (.ishl, 1) := by decide +kernel
theorem dX5_nextNumber_13 : decode cX5_nextNumber 13 = .ok (.iadd, 1) := by decide +kernel
theorem dX5_nextNumber_14 : decode cX5_nextNumber 14 = .ok (.ireturn, 1) := by decide +kernel
theorem dX5_skip_0 : decode cX5_skip 0 = .ok (.iconst 0, 1) := by decide +kernel
theorem dX5_skip_1 : decode cX5_skip 1 = .ok (.istore_n 2, 1) := by decide +kernel
theorem dX5_skip_2 : decode cX5_skip 2 = .ok (.iload_n 2, 1) := by decide +kernel
theorem dX5_skip_3 : decode cX5_skip 3 = .ok (.iload_n 1, 1) := by decide +kernel
theorem dX5_skip_4 : decode cX5_skip 4 = .ok (.if_icmp .ge 14, 3) := by decide +kernel
theorem dX5_skip_7 : decode cX5_skip 7 = .ok (.aload_n 0, 1) := by decide +kernel
theorem dX5_skip_8 : decode cX5_skip 8 = .ok (.invokevirtual 87, 3) := by decide +kernel
theorem dX5_skip_11 : decode cX5_skip 11 = .ok (.pop, 1) := by decide +kernel
theorem dX5_skip_12 : decode cX5_skip 12 = .ok (.iinc 2 1, 3) := by decide +kernel
theorem dX5_skip_15 : decode cX5_skip 15 = .ok (.goto (-13), 3) := by decide +kernel
theorem dX5_skip_18 : decode cX5_skip 18 = .ok (.return_, 1) := by decide +kernel
theorem dX5_expect_0 : decode cX5_expect 0 = .ok (.aload_n 0, 1) := by decide +kernel
theorem dX5_expect_1 : decode cX5_expect 1 = .ok (.getfield 58, 3) := by decide +kernel
theorem dX5_expect_4 : decode cX5_expect 4 = .ok (.istore_n 2, 1) := by decide +kernel
theorem dX5_expect_5 : decode cX5_expect 5 = .ok (.aload_n 0, 1) := by decide +kernel
theorem dX5_expect_6 : decode cX5_expect 6 = .ok (.invokevirtual 87, 3) := by decide +kernel
theorem dX5_expect_9 : decode cX5_expect 9 = .ok (.iload_n 1, 1) := by decide +kernel
theorem dX5_expect_10 : decode cX5_expect 10 = .ok (.if_icmp .eq 9, 3) := by decide +kernel
theorem dX5_expect_13 : decode cX5_expect 13 = .ok (.aload_n 0, 1) := by decide +kernel
theorem dX5_expect_14 : decode cX5_expect 14 = .ok (.iconst 5, 1) := by decide +kernel
theorem dX5_expect_15 : decode cX5_expect 15 = .ok (.iload_n 2, 1) := by decide +kernel
theorem dX5_expect_16 : decode cX5_expect 16 = .ok (.invokevirtual 80, 3) := by decide +kernel
theorem dX5_expect_19 : decode cX5_expect 19 = .ok (.return_, 1) := by decide +kernel
theorem dX5_parseStart_0 : decode cX5_parseStart 0 = .ok (.iconst 0, 1) := by decide +kernel
theorem dX5_parseStart_1 : decode cX5_parseStart 1 = .ok (.istore_n 1, 1) := by decide +kernel
theorem dX5_parseStart_2 : decode cX5_parseStart 2 = .ok (.iload_n 1, 1) := by decide +kernel
theorem dX5_parseStart_3 : decode cX5_parseStart 3 = .ok (.bipush 6, 2) := by decide +kernel
theorem dX5_parseStart_5 : decode cX5_parseStart 5 = .ok (.if_icmp .ge 70, 3) := by decide +kernel
theorem dX5_parseStart_8 : decode cX5_parseStart 8 = .ok (.aload_n 0, 1) := by decide +kernel
theorem dX5_parseStart_9 : decode cX5_parseStart 9 = .ok (.invokevirtual 87, 3) := by decide +kernel
theorem dX5_parseStart_12 : decode cX5_parseStart 12 = .ok (.istore_n 2, 1) := by decide +kernel
theorem dX5_parseStart_13 : decode cX5_parseStart 13 = .ok (.iload_n 1, 1) := by decide +kernel
theorem dX5_parseStart_14 : decode cX5_parseStart 14 = .ok (.iconst 4, 1) := by decide +kernel
theorem dX5_parseStart_15 : decode cX5_parseStart 15 = .ok (.if_icmp .ne 13, 3) := by decide +kernel
theorem dX5_parseStart_18 : decode cX5_parseStart 18 = .ok (.iload_n 2, 1) := by decide +kernel
theorem dX5_parseStart_19 : decode cX5_parseStart 19 = .ok (.bipush 55, 2) := by decide +kernel
theorem dX5_parseStart_21 : decode cX5_parseStart 21 = .ok (.if_icmp .ne 7, 3) := by decide +kernel
theorem dX5_parseStart_24 : decode cX5_parseStart 24 = .ok (.iconst 1, 1) := by decide +kernel
theorem dX5_parseStart_25 : decode cX5_parseStart 25 = .ok (.goto 4, 3) := by decide +kernel
theorem dX5_parseStart_28 : decode cX5_parseStart 28 = .ok (.iconst 0, 1) := by decide +kernel
theorem dX5_parseStart_29 : decode cX5_parseStart 29 = .ok (.istore_n 3, 1) := by decide +kernel
theorem dX5_parseStart_30 : decode cX5_parseStart 30 = .ok (.iload_n 2, 1) := by decide +kernel
theorem dX5_parseStart_31 : decode cX5_parseStart 31 = .ok (.getstatic 91, 3) := by decide +kernel
theorem dX5_parseStart_34 : decode cX5_parseStart 34 = .ok (.iload_n 1, 1) := by decide +kernel
theorem dX5_parseStart_35 : decode cX5_parseStart 35 = .ok (.iaload, 1) := by decide +kernel
theorem dX5_parseStart_36 : decode cX5_parseStart 36 = .ok (.if_icmp .eq 13, 3) := by decide +kernel
theorem dX5_parseStart_39 : decode cX5_parseStart 39 = .ok (.iload_n 3, 1) := by decide +kernel
theorem dX5_parseStart_40 : decode cX5_parseStart 40 = .ok (.ifCond .ne 9, 3) := by decide +kernel
theorem dX5_parseStart_43 : decode cX5_parseStart 43 = .ok (.aload_n 0, 1) := by decide +kernel
theorem dX5_parseStart_44 : decode cX5_parseStart 44 = .ok (.iconst 1, 1) := by decide +kernel
theorem dX5_parseStart_45 : decode cX5_parseStart 45 = .ok (.iconst 0, 1) := by decide +kernel
theorem dX5_parseStart_46 : decode cX5_parseStart 46 = .ok (.invokevirtual 80, 3) := by decide +kernel
theorem dX5_parseStart_49 : decode cX5_parseStart 49 = .ok (.aload_n 0, 1) := by decide +kernel
theorem dX5_parseStart_50 : decode cX5_parseStart 50 = .ok (.aload_n 0, 1) := by decide +kernel
theorem dX5_parseStart_51 : decode cX5_parseStart 51 = .ok (.getfield 61, 3) := by decide +kernel
theorem dX5_parseStart_54 : decode cX5_parseStart 54 = .ok (.ifCond .ne 7, 3) := by decide +kernel
theorem dX5_parseStart_57 : decode cX5_parseStart 57 = .ok (.iload_n 3, 1) := by decide +kernel
theorem dX5_parseStart_58 : decode cX5_parseStart 58 = .ok (.ifCond .eq 7, 3) := by decide +kernel
theorem dX5_parseStart_61 : decode cX5_parseStart 61 = .ok (.iconst 1, 1) := by decide +kernel
theorem dX5_parseStart_62 : decode cX5_parseStart 62 = .ok (.goto 4, 3) := by decide +kernel
theorem dX5_parseStart_65 : decode cX5_parseStart 65 = .ok (.iconst 0, 1) := by decide +kernel
theorem dX5_parseStart_66 : decode cX5_parseStart 66 = .ok (.putfield 61, 3) := by decide +kernel
theorem dX5_parseStart_69 : decode cX5_parseStart 69 = .ok (.iinc 1 1, 3) := by decide +kernel
theorem dX5_parseStart_72 : decode cX5_parseStart 72 = .ok (.goto (-70), 3) := by decide +kernel
theorem dX5_parseStart_75 : decode cX5_parseStart 75 = .ok (.return_, 1) := by decide +kernel
theorem dX5_parseScreen_0 : decode cX5_parseScreen 0 = .ok (.aload_n 0, 1) := by decide +kernel
theorem dX5_parseScreen_1 : decode cX5_parseScreen 1 = .ok (.invokevirtual 97, 3) := by decide +kernel
theorem dX5_parseScreen_4 : decode cX5_parseScreen 4 = .ok (.istore_n 1, 1) := by decide +kernel
theorem dX5_parseScreen_5 : decode cX5_parseScreen 5 = .ok (.iload_n 1, 1) := by decide +kernel
theorem dX5_parseScreen_6 : decode cX5_parseScreen 6 = .ok (.invokestatic 100, 3) := by decide +kernel
theorem dX5_parseScreen_9 : decode cX5_parseScreen 9 = .ok (.ifCond .ne 10, 3) := by decide +kernel
theorem dX5_parseScreen_12 : decode cX5_parseScreen 12 = .ok (.aload_n 0, 1) := by decide +kernel
theorem dX5_parseScreen_13 : decode cX5_parseScreen 13 = .ok (.iconst 3, 1) := by decide +kernel
theorem dX5_parseScreen_14 : decode cX5_parseScreen 14 = .ok (.bipush 6, 2) := by decide +kernel
theorem dX5_parseScreen_16 : decode cX5_parseScreen 16 = .ok (.invokevirtual 80, 3) := by decide +kernel
theorem dX5_parseScreen_19 : decode cX5_parseScreen 19 = .ok (.aload_n 0, 1) := by decide +kernel
theorem dX5_parseScreen_20 : decode cX5_parseScreen 20 = .ok (.invokevirtual 97, 3) := by decide +kernel
theorem dX5_parseScreen_23 : decode cX5_parseScreen 23 = .ok (.istore_n 2, 1) := by decide +kernel
theorem dX5_parseScreen_24 : decode cX5_parseScreen 24 = .ok (.iload_n 2, 1) := by decide +kernel
theorem dX5_parseScreen_25 : decode cX5_parseScreen 25 = .ok (.invokestatic 100, 3) := by decide +kernel
theorem dX5_parseScreen_28 : decode cX5_parseScreen 28 = .ok (.ifCond .ne 10, 3) := by decide +kernel
theorem dX5_parseScreen_31 : decode cX5_parseScreen 31 = .ok (.aload_n 0, 1) := by decide +kernel
theorem dX5_parseScreen_32 : decode cX5_parseScreen 32 = .ok (.iconst 3, 1) := by decide +kernel
theorem dX5_parseScreen_33 : decode cX5_parseScreen 33 = .ok (.bipush 8, 2) := by decide +kernel
theorem dX5_parseScreen_35 : decode cX5_parseScreen 35 = .ok (.invokevirtual 80, 3) := by decide +kernel
theorem dX5_parseScreen_38 : decode cX5_parseScreen 38 = .ok (.aload_n 0, 1) := by decide +kernel
theorem dX5_parseScreen_39 : decode cX5_parseScreen 39 = .ok (.invokevirtual 87, 3) := by decide +kernel
theorem dX5_parseScreen_42 : decode cX5_parseScreen 42 = .ok (.istore_n 3, 1) := by decide +kernel
theorem dX5_parseScreen_43 : decode cX5_parseScreen 43 = .ok (.aload_n 0, 1) := by decide +kernel
theorem dX5_parseScreen_44 : decode cX5_parseScreen 44 = .ok (.invokevirtual 87, 3) := by decide +kernel
theorem dX5_parseScreen_47 : decode cX5_parseScreen 47 = .ok (.istore 4, 2) := by decide +kernel
theorem dX5_parseScreen_49 : decode cX5_parseScreen 49 = .ok (.aload_n 0, 1) := by decide +kernel
theorem dX5_parseScreen_50 : decode cX5_parseScreen 50 = .ok (.invokevirtual 87, 3) := by decide +kernel
theorem dX5_parseScreen_53 : decode cX5_parseScreen 53 = .ok (.istore 5, 2) := by decide +kernel
theorem dX5_parseScreen_55 : decode cX5_parseScreen 55 = .ok (.aload_n 0, 1) := by decide +kernel
theorem dX5_parseScreen_56 : decode cX5_parseScreen 56 = .ok (.getfield 39, 3) := by decide +kernel
theorem dX5_parseScreen_59 : decode cX5_parseScreen 59 = .ok (.ifCond .ne 31, 3) := by decide +kernel
theorem dX5_parseScreen_62 : decode cX5_parseScreen 62 = .ok (.aload_n 0, 1) := by decide +kernel
theorem dX5_parseScreen_63 : decode cX5_parseScreen 63 = .ok (.getfield 35, 3) := by decide +kernel
theorem dX5_parseScreen_66 : decode cX5_parseScreen 66 = .ok (.iload_n 1, 1) := by decide +kernel
theorem dX5_parseScreen_67 : decode cX5_parseScreen 67 = .ok (.iload_n 2, 1) := by decide +kernel
theorem dX5_parseScreen_68 : decode cX5_parseScreen 68 = .ok (.iload_n 3, 1) := by decide +kernel
theorem dX5_parseScreen_69 : decode cX5_parseScreen 69 = .ok (.invokestatic 104, 3) := by decide +kernel
theorem dX5_parseScreen_72 : decode cX5_parseScreen 72 = .ok (.iload 4, 2) := by decide +kernel
theorem dX5_parseScreen_74 : decode cX5_parseScreen 74 = .ok (.iload 5, 2) := by decide +kernel
theorem dX5_parseScreen_76 : decode cX5_parseScreen 76 = .ok (.invokevirtual 109, 3) := by decide +kernel
theorem dX5_parseScreen_79 : decode cX5_parseScreen 79 = .ok (.aload_n 0, 1) := by decide +kernel
theorem dX5_parseScreen_80 : decode cX5_parseScreen 80 = .ok (.aload_n 0, 1) := by decide +kernel
theorem dX5_parseScreen_81 : decode cX5_parseScreen 81 = .ok (.getfield 35, 3) := by decide +kernel
theorem dX5_parseScreen_84 : decode cX5_parseScreen 84 = .ok (.getfield 113, 3) := by decide +kernel
theorem dX5_parseScreen_87 : decode cX5_parseScreen 87 = .ok (.invokevirtual 117, 3) := by decide +kernel
theorem dX5_parseScreen_90 : decode cX5_parseScreen 90 = .ok (.return_, 1) := by decide +kernel
theorem dX5_parseTable_0 : decode cX5_parseTable 0 = .ok (.iconst 0, 1) := by decide +kernel
theorem dX5_parseTable_1 : decode cX5_parseTable 1 = .ok (.istore_n 2, 1) := by decide +kernel
theorem dX5_parseTable_2 : decode cX5_parseTable 2 = .ok (.iload_n 2, 1) := by decide +kernel
theorem dX5_parseTable_3 : decode cX5_parseTable 3 = .ok (.aload_n 1, 1) := by decide +kernel
theorem dX5_parseTable_4 : decode cX5_parseTable 4 = .ok (.getfield 121, 3) := by decide +kernel
theorem dX5_parseTable_7 : decode cX5_parseTable 7 = .ok (.if_icmp .ge 45, 3) := by decide +kernel
theorem dX5_parseTable_10 : decode cX5_parseTable 10 = .ok (.aload_n 0, 1) := by decide +kernel
theorem dX5_parseTable_11 : decode cX5_parseTable 11 = .ok (.invokevirtual 87, 3) := by decide +kernel
theorem dX5_parseTable_14 : decode cX5_parseTable 14 = .ok (.istore_n 3, 1) := by decide +kernel
theorem dX5_parseTable_15 : decode cX5_parseTable 15 = .ok (.aload_n 0, 1) := by decide +kernel
theorem dX5_parseTable_16 : decode cX5_parseTable 16 = .ok (.invokevirtual 87, 3) := by decide +kernel
theorem dX5_parseTable_19 : decode cX5_parseTable 19 = .ok (.istore 4, 2) := by decide +kernel
theorem dX5_parseTable_21 : decode cX5_parseTable 21 = .ok (.aload_n 0, 1) := by decide +kernel
theorem dX5_parseTable_22 : decode cX5_parseTable 22 = .ok (.invokevirtual 87, 3) := by decide +kernel
theorem dX5_parseTable_25 : decode cX5_parseTable 25 = .ok (.istore 5, 2) := by decide +kernel
theorem dX5_parseTable_27 : decode cX5_parseTable 27 = .ok (.aload_n 1, 1) := by decide +kernel
theorem dX5_parseTable_28 : decode cX5_parseTable 28 = .ok (.getfield 122, 3) := by decide +kernel
theorem dX5_parseTable_31 : decode cX5_parseTable 31 = .ok (.iload_n 2, 1) := by decide +kernel
theorem dX5_parseTable_32 : decode cX5_parseTable 32 = .ok (.iload_n 3, 1) := by decide +kernel
theorem dX5_parseTable_33 : decode cX5_parseTable 33 = .ok (.bipush 16, 2) := by decide +kernel
theorem dX5_parseTable_35 : decode cX5_parseTable 35 = .ok (.ishl, 1) := by decide +kernel
theorem dX5_parseTable_36 : decode cX5_parseTable 36 = .ok (.iload 4, 2) := by decide +kernel
theorem dX5_parseTable_38 : decode cX5_parseTable 38 = .ok (.bipush 8, 2) := by decide +kernel
theorem dX5_parseTable_40 : decode cX5_parseTable 40 = .ok (.ishl, 1) := by decide +kernel
theorem dX5_parseTable_41 : decode cX5_parseTable 41 = .ok (.ior, 1) := by decide +kernel
theorem dX5_parseTable_42 : decode cX5_parseTable 42 = .ok (.iload 5, 2) := by decide +kernel
theorem dX5_parseTable_44 : decode cX5_parseTable 44 = .ok (.ior, 1) := by decide +kernel
theorem dX5_parseTable_45 : decode cX5_parseTable 45 = .ok (.iastore, 1) := by decide +kernel
theorem dX5_parseTable_46 : decode cX5_parseTable 46 = .ok (.iinc 2 1, 3) := by decide +kernel
theorem dX5_parseTable_49 : decode cX5_parseTable 49 = .ok (.goto (-47), 3) := by decide +kernel
theorem dX5_parseTable_52 : decode cX5_parseTable 52 = .ok (.return_, 1) := by decide +kernel
theorem dX5_parseBlock_0 : decode cX5_parseBlock 0 = .ok (.aload_n 0, 1) := by decide +kernel
theorem dX5_parseBlock_1 : decode cX5_parseBlock 1 = .ok (.getfield 58, 3) := by decide +kernel
theorem dX5_parseBlock_4 : decode cX5_parseBlock 4 = .ok (.istore_n 1, 1) := by decide +kernel
theorem dX5_parseBlock_5 : decode cX5_parseBlock 5 = .ok (.aload_n 0, 1) := by decide +kernel
theorem dX5_parseBlock_6 : decode cX5_parseBlock 6 = .ok (.invokevirtual 87, 3) := by decide +kernel
theorem dX5_parseBlock_9 : decode cX5_parseBlock 9 = .ok (.istore_n 2, 1) := by decide +kernel
theorem dX5_parseBlock_10 : decode cX5_parseBlock 10 = .ok (.iload_n 2, 1) := by decide +kernel
theorem dX5_parseBlock_11 : decode cX5_parseBlock 11 = .ok (.bipush 44, 2) := by decide +kernel
theorem dX5_parseBlock_13 : decode cX5_parseBlock 13 = .ok (.if_icmp .ne 11, 3) := by decide +kernel
theorem dX5_parseBlock_16 : decode cX5_parseBlock 16 = .ok (.aload_n 0, 1) := by decide +kernel
theorem dX5_parseBlock_17 : decode cX5_parseBlock 17 = .ok (.iload_n 1, 1) := by decide +kernel
theorem dX5_parseBlock_18 : decode cX5_parseBlock 18 = .ok (.invokevirtual 125, 3) := by decide +kernel
theorem dX5_parseBlock_21 : decode cX5_parseBlock 21 = .ok (.goto 49, 3) := by decide +kernel
theorem dX5_parseBlock_24 : decode cX5_parseBlock 24 = .ok (.iload_n 2, 1) := by decide +kernel
theorem dX5_parseBlock_25 : decode cX5_parseBlock 25 = .ok (.bipush 33, 2) := by decide +kernel
theorem dX5_parseBlock_27 : decode cX5_parseBlock 27 = .ok (.if_icmp .ne 17, 3) := by decide +kernel
theorem dX5_parseBlock_30 : decode cX5_parseBlock 30 = .ok (.aload_n 0, 1) := by decide +kernel
theorem dX5_parseBlock_31 : decode cX5_parseBlock 31 = .ok (.getfield 61, 3) := by decide +kernel
theorem dX5_parseBlock_34 : decode cX5_parseBlock 34 = .ok (.ifCond .ne 10, 3) := by decide +kernel
theorem dX5_parseBlock_37 : decode cX5_parseBlock 37 = .ok (.aload_n 0, 1) := by decide +kernel
theorem dX5_parseBlock_38 : decode cX5_parseBlock 38 = .ok (.invokevirtual 129, 3) := by decide +kernel
theorem dX5_parseBlock_41 : decode cX5_parseBlock 41 = .ok (.goto 29, 3) := by decide +kernel
theorem dX5_parseBlock_44 : decode cX5_parseBlock 44 = .ok (.iload_n 2, 1) := by decide +kernel
theorem dX5_parseBlock_45 : decode cX5_parseBlock 45 = .ok (.bipush 59, 2) := by decide +kernel
theorem dX5_parseBlock_47 : decode cX5_parseBlock 47 = .ok (.if_icmp .ne 17, 3) := by decide +kernel
theorem dX5_parseBlock_50 : decode cX5_parseBlock 50 = .ok (.aload_n 0, 1) := by decide +kernel
theorem dX5_parseBlock_51 : decode cX5_parseBlock 51 = .ok (.getfield 132, 3) := by decide +kernel
theorem dX5_parseBlock_54 : decode cX5_parseBlock 54 = .ok (.ifCond .ne 10, 3) := by decide +kernel
theorem dX5_parseBlock_57 : decode cX5_parseBlock 57 = .ok (.aload_n 0, 1) := by decide +kernel
theorem dX5_parseBlock_58 : decode cX5_parseBlock 58 = .ok (.invokevirtual 135, 3) := by decide +kernel
theorem dX5_parseBlock_61 : decode cX5_parseBlock 61 = .ok (.goto 9, 3) := by decide +kernel
theorem dX5_parseBlock_64 : decode cX5_parseBlock 64 = .ok (.aload_n 0, 1) := by decide +kernel
theorem dX5_parseBlock_65 : decode cX5_parseBlock 65 = .ok (.iconst 4, 1) := by decide +kernel
theorem dX5_parseBlock_66 : decode cX5_parseBlock 66 = .ok (.iload_n 1, 1) := by decide +kernel
theorem dX5_parseBlock_67 : decode cX5_parseBlock 67 = .ok (.invokevirtual 80, 3) := by decide +kernel
theorem dX5_parseBlock_70 : decode cX5_parseBlock 70 = .ok (.return_, 1) := by decide +kernel
theorem dX5_parseEnd_0 : decode cX5_parseEnd 0 = .ok (.aload_n 0, 1) := by decide +kernel
theorem dX5_parseEnd_1 : decode cX5_parseEnd 1 = .ok (.iconst 1, 1) := by decide +kernel
theorem dX5_parseEnd_2 : decode cX5_parseEnd 2 = .ok (.putfield 65, 3) := by decide +kernel
theorem dX5_parseEnd_5 : decode cX5_parseEnd 5 = .ok (.aload_n 0, 1) := by decide +kernel
theorem dX5_parseEnd_6 : decode cX5_parseEnd 6 = .ok (.getfield 58, 3) := by decide +kernel
theorem dX5_parseEnd_9 : decode cX5_parseEnd 9 = .ok (.aload_n 0, 1) := by decide +kernel
theorem dX5_parseEnd_10 : decode cX5_parseEnd 10 = .ok (.getfield 55, 3) := by decide +kernel
theorem dX5_parseEnd_13 : decode cX5_parseEnd 13 = .ok (.if_icmp .ge 13, 3) := by decide +kernel
theorem dX5_parseEnd_16 : decode cX5_parseEnd 16 = .ok (.aload_n 0, 1) := by decide +kernel
theorem dX5_parseEnd_17 : decode cX5_parseEnd 17 = .ok (.bipush 10, 2) := by decide +kernel
theorem dX5_parseEnd_19 : decode cX5_parseEnd 19 = .ok (.aload_n 0, 1) := by decide +kernel
theorem dX5_parseEnd_20 : decode cX5_parseEnd 20 = .ok (.getfield 58, 3) := by decide +kernel
theorem dX5_parseEnd_23 : decode cX5_parseEnd 23 = .ok (.invokevirtual 80, 3) := by decide +kernel
theorem dX5_parseEnd_26 : decode cX5_parseEnd 26 = .ok (.return_, 1) := by decide +kernel
theorem dX5_parseExtension_0 : decode cX5_parseExtension 0 = .ok (.aload_n 0, 1) := by decide +kernel
theorem dX5_parseExtension_1 : decode cX5_parseExtension 1 = .ok (.getfield 58, 3) := by decide +kernel
theorem dX5_parseExtension_4 : decode cX5_parseExtension 4 = .ok (.istore_n 1, 1) := by decide +kernel
theorem dX5_parseExtension_5 : decode cX5_parseExtension 5 = .ok (.aload_n 0, 1) := by decide +kernel
theorem dX5_parseExtension_6 : decode cX5_parseExtension 6 = .ok (.invokevirtual 87, 3) := by decide +kernel
theorem dX5_parseExtension_9 : decode cX5_parseExtension 9 = .ok (.istore_n 2, 1) := by decide +kernel
theorem dX5_parseExtension_10 : decode cX5_parseExtension 10 = .ok (.iload_n 2, 1) := by decide +kernel
theorem dX5_parseExtension_11 : decode cX5_parseExtension 11 = .ok (.iconst 1, 1) := by decide +kernel
theorem dX5_parseExtension_12 : decode cX5_parseExtension 12 = .ok (.if_icmp .ne 26, 3) := by decide +kernel
theorem dX5_parseExtension_15 : decode cX5_parseExtension 15 = .ok (.aload_n 0, 1) := by decide +kernel
theorem dX5_parseExtension_16 : decode cX5_parseExtension 16 = .ok (.bipush 12, 2) := by decide +kernel
theorem dX5_parseExtension_18 : decode cX5_parseExtension 18 = .ok (.invokevirtual 138, 3) := by decide +kernel
theorem dX5_parseExtension_21 : decode cX5_parseExtension 21 = .ok (.aload_n 0, 1) := by decide +kernel
theorem dX5_parseExtension_22 : decode cX5_parseExtension 22 = .ok (.bipush 12, 2) := by decide +kernel
theorem dX5_parseExtension_24 : decode cX5_parseExtension 24 = .ok (.invokevirtual 141, 3) := by decide +kernel
theorem dX5_parseExtension_27 : decode cX5_parseExtension 27 = .ok (.aload_n 0, 1) := by decide +kernel
theorem dX5_parseExtension_28 : decode cX5_parseExtension 28 = .ok (.invokevirtual 144, 3) := by decide +kernel
theorem dX5_parseExtension_31 : decode cX5_parseExtension 31 = .ok (.aload_n 0, 1) := by decide +kernel
theorem dX5_parseExtension_32 : decode cX5_parseExtension 32 = .ok (.invokevirtual 68, 3) := by decide +kernel
theorem dX5_parseExtension_35 : decode cX5_parseExtension 35 = .ok (.goto 84, 3) := by decide +kernel
theorem dX5_parseExtension_38 : decode cX5_parseExtension 38 = .ok (.iload_n 2, 1) := by decide +kernel
theorem dX5_parseExtension_39 : decode cX5_parseExtension 39 = .ok (.sipush 249, 3) := by decide +kernel
theorem dX5_parseExtension_42 : decode cX5_parseExtension 42 = .ok (.if_icmp .ne 17, 3) := by decide +kernel
theorem dX5_parseExtension_45 : decode cX5_parseExtension 45 = .ok (.aload_n 0, 1) := by decide +kernel
theorem dX5_parseExtension_46 : decode cX5_parseExtension 46 = .ok (.getfield 132, 3) := by decide +kernel
theorem dX5_parseExtension_49 : decode cX5_parseExtension 49 = .ok (.ifCond .ne 10, 3) := by decide +kernel
theorem dX5_parseExtension_52 : decode cX5_parseExtension 52 = .ok (.aload_n 0, 1) := by decide +kernel
theorem dX5_parseExtension_53 : decode cX5_parseExtension 53 = .ok (.invokevirtual 147, 3) := by decide +kernel
theorem dX5_parseExtension_56 : decode cX5_parseExtension 56 = .ok (.goto 63, 3) := by decide +kernel
theorem dX5_parseExtension_59 : decode cX5_parseExtension 59 = .ok (.iload_n 2, 1) := by decide +kernel
theorem dX5_parseExtension_60 : decode cX5_parseExtension 60 = .ok (.sipush 254, 3) := by decide +kernel
theorem dX5_parseExtension_63 : decode cX5_parseExtension 63 = .ok (.if_icmp .ne 17, 3) := by decide +kernel
theorem dX5_parseExtension_66 : decode cX5_parseExtension 66 = .ok (.aload_n 0, 1) := by decide +kernel
theorem dX5_parseExtension_67 : decode cX5_parseExtension 67 = .ok (.getfield 132, 3) := by decide +kernel
theorem dX5_parseExtension_70 : decode cX5_parseExtension 70 = .ok (.ifCond .ne 10, 3) := by decide +kernel
theorem dX5_parseExtension_73 : decode cX5_parseExtension 73 = .ok (.aload_n 0, 1) := by decide +kernel
theorem dX5_parseExtension_74 : decode cX5_parseExtension 74 = .ok (.invokevirtual 144, 3) := by decide +kernel
theorem dX5_parseExtension_77 : decode cX5_parseExtension 77 = .ok (.goto 42, 3) := by decide +kernel
theorem dX5_parseExtension_80 : decode cX5_parseExtension 80 = .ok (.iload_n 2, 1) := by decide +kernel
theorem dX5_parseExtension_81 : decode cX5_parseExtension 81 = .ok (.sipush 255, 3) := by decide +kernel
theorem dX5_parseExtension_84 : decode cX5_parseExtension 84 = .ok (.if_icmp .ne 29, 3) := by decide +kernel
theorem dX5_parseExtension_87 : decode cX5_parseExtension 87 = .ok (.aload_n 0, 1) := by decide +kernel
theorem dX5_parseExtension_88 : decode cX5_parseExtension 88 = .ok (.getfield 132, 3) := by decide +kernel
theorem dX5_parseExtension_91 : decode cX5_parseExtension 91 = .ok (.ifCond .ne 22, 3) := by decide +kernel
theorem dX5_parseExtension_94 : decode cX5_parseExtension 94 = .ok (.aload_n 0, 1) := by decide +kernel
theorem dX5_parseExtension_95 : decode cX5_parseExtension 95 = .ok (.bipush 11, 2) := by decide +kernel
theorem dX5_parseExtension_97 : decode cX5_parseExtension 97 = .ok (.invokevirtual 138, 3) := by decide +kernel
theorem dX5_parseExtension_100 : decode cX5_parseExtension 100 = .ok (.aload_n 0, 1) := by decide +kernel
theorem dX5_parseExtension_101 : decode cX5_parseExtension 101 = .ok (.bipush 11, 2) := by decide +kernel
theorem dX5_parseExtension_103 : decode cX5_parseExtension 103 = .ok (.invokevirtual 141, 3) := by decide +kernel
theorem dX5_parseExtension_106 : decode cX5_parseExtension 106 = .ok (.aload_n 0, 1) := by decide +kernel
theorem dX5_parseExtension_107 : decode cX5_parseExtension 107 = .ok (.invokevirtual 144, 3) := by decide +kernel
theorem dX5_parseExtension_110 : decode cX5_parseExtension 110 = .ok (.goto 9, 3) := by decide +kernel
theorem dX5_parseExtension_113 : decode cX5_parseExtension 113 = .ok (.aload_n 0, 1) := by decide +kernel
theorem dX5_parseExtension_114 : decode cX5_parseExtension 114 = .ok (.iconst 4, 1) := by decide +kernel
theorem dX5_parseExtension_115 : decode cX5_parseExtension 115 = .ok (.iload_n 1, 1) := by decide +kernel
theorem dX5_parseExtension_116 : decode cX5_parseExtension 116 = .ok (.invokevirtual 80, 3) := by decide +kernel
theorem dX5_parseExtension_119 : decode cX5_parseExtension 119 = .ok (.return_, 1) := by decide +kernel
theorem dX5_parseControl_0 : decode cX5_parseControl 0 = .ok (.aload_n 0, 1) := by decide +kernel
theorem dX5_parseControl_1 : decode cX5_parseControl 1 = .ok (.iconst 4, 1) := by decide +kernel
theorem dX5_parseControl_2 : decode cX5_parseControl 2 = .ok (.invokevirtual 138, 3) := by decide +kernel
theorem dX5_parseControl_5 : decode cX5_parseControl 5 = .ok (.aload_n 0, 1) := by decide +kernel
theorem dX5_parseControl_6 : decode cX5_parseControl 6 = .ok (.invokevirtual 87, 3) := by decide +kernel
theorem dX5_parseControl_9 : decode cX5_parseControl 9 = .ok (.istore_n 1, 1) := by decide +kernel
theorem dX5_parseControl_10 : decode cX5_parseControl 10 = .ok (.aload_n 0, 1) := by decide +kernel
theorem dX5_parseControl_11 : decode cX5_parseControl 11 = .ok (.invokevirtual 97, 3) := by decide +kernel
theorem dX5_parseControl_14 : decode cX5_parseControl 14 = .ok (.istore_n 2, 1) := by decide +kernel
theorem dX5_parseControl_15 : decode cX5_parseControl 15 = .ok (.aload_n 0, 1) := by decide +kernel
theorem dX5_parseControl_16 : decode cX5_parseControl 16 = .ok (.invokevirtual 87, 3) := by decide +kernel
theorem dX5_parseControl_19 : decode cX5_parseControl 19 = .ok (.istore_n 3, 1) := by decide +kernel
theorem dX5_parseControl_20 : decode cX5_parseControl 20 = .ok (.aload_n 0, 1) := by decide +kernel
theorem dX5_parseControl_21 : decode cX5_parseControl 21 = .ok (.iconst 0, 1) := by decide +kernel
theorem dX5_parseControl_22 : decode cX5_parseControl 22 = .ok (.invokevirtual 138, 3) := by decide +kernel
theorem dX5_parseControl_25 : decode cX5_parseControl 25 = .ok (.iload_n 1, 1) := by decide +kernel
theorem dX5_parseControl_26 : decode cX5_parseControl 26 = .ok (.iconst 1, 1) := by decide +kernel
theorem dX5_parseControl_27 : decode cX5_parseControl 27 = .ok (.iand, 1) := by decide +kernel
theorem dX5_parseControl_28 : decode cX5_parseControl 28 = .ok (.ifCond .eq 7, 3) := by decide +kernel
theorem dX5_parseControl_31 : decode cX5_parseControl 31 = .ok (.iload_n 3, 1) := by decide +kernel
theorem dX5_parseControl_32 : decode cX5_parseControl 32 = .ok (.goto 4, 3) := by decide +kernel
theorem dX5_parseControl_35 : decode cX5_parseControl 35 = .ok (.iconst (-1), 1) := by decide +kernel
theorem dX5_parseControl_36 : decode cX5_parseControl 36 = .ok (.istore 4, 2) := by decide +kernel
theorem dX5_parseControl_38 : decode cX5_parseControl 38 = .ok (.aload_n 0, 1) := by decide +kernel
theorem dX5_parseControl_39 : decode cX5_parseControl 39 = .ok (.getfield 28, 3) := by decide +kernel
theorem dX5_parseControl_42 : decode cX5_parseControl 42 = .ok (.iload_n 1, 1) := by decide +kernel
theorem dX5_parseControl_43 : decode cX5_parseControl 43 = .ok (.iconst 2, 1) := by decide +kernel
theorem dX5_parseControl_44 : decode cX5_parseControl 44 = .ok (.ishr, 1) := by decide +kernel
theorem dX5_parseControl_45 : decode cX5_parseControl 45 = .ok (.bipush 7, 2) := by decide +kernel
theorem dX5_parseControl_47 : decode cX5_parseControl 47 = .ok (.iand, 1) := by decide +kernel
theorem dX5_parseControl_48 : decode cX5_parseControl 48 = .ok (.iload 4, 2) := by decide +kernel
theorem dX5_parseControl_50 : decode cX5_parseControl 50 = .ok (.iload_n 2, 1) := by decide +kernel
theorem dX5_parseControl_51 : decode cX5_parseControl 51 = .ok (.iload_n 1, 1) := by decide +kernel
theorem dX5_parseControl_52 : decode cX5_parseControl 52 = .ok (.iconst 2, 1) := by decide +kernel
theorem dX5_parseControl_53 : decode cX5_parseControl 53 = .ok (.iand, 1) := by decide +kernel
theorem dX5_parseControl_54 : decode cX5_parseControl 54 = .ok (.ifCond .eq 7, 3) := by decide +kernel
theorem dX5_parseControl_57 : decode cX5_parseControl 57 = .ok (.iconst 1, 1) := by decide +kernel
theorem dX5_parseControl_58 : decode cX5_parseControl 58 = .ok (.goto 4, 3) := by decide +kernel
theorem dX5_parseControl_61 : decode cX5_parseControl 61 = .ok (.iconst 0, 1) := by decide +kernel
theorem dX5_parseControl_62 : decode cX5_parseControl 62 = .ok (.invokevirtual 150, 3) := by decide +kernel
theorem dX5_parseControl_65 : decode cX5_parseControl 65 = .ok (.aload_n 0, 1) := by decide +kernel
theorem dX5_parseControl_66 : decode cX5_parseControl 66 = .ok (.iconst 1, 1) := by decide +kernel
theorem dX5_parseControl_67 : decode cX5_parseControl 67 = .ok (.putfield 132, 3) := by decide +kernel
theorem dX5_parseControl_70 : decode cX5_parseControl 70 = .ok (.return_, 1) := by decide +kernel
theorem dX5_dropControl_0 : decode cX5_dropControl 0 = .ok (.aload_n 0, 1) := by decide +kernel
theorem dX5_dropControl_1 : decode cX5_dropControl 1 = .ok (.getfield 28, 3) := by decide +kernel
theorem dX5_dropControl_4 : decode cX5_dropControl 4 = .ok (.invokevirtual 154, 3) := by decide +kernel
theorem dX5_dropControl_7 : decode cX5_dropControl 7 = .ok (.aload_n 0, 1) := by decide +kernel
theorem dX5_dropControl_8 : decode cX5_dropControl 8 = .ok (.iconst 0, 1) := by decide +kernel
theorem dX5_dropControl_9 : decode cX5_dropControl 9 = .ok (.putfield 132, 3) := by decide +kernel
theorem dX5_dropControl_12 : decode cX5_dropControl 12 = .ok (.return_, 1) := by decide +kernel
theorem dX5_parseImage_0 : decode cX5_parseImage 0 = .ok (.aload_n 0, 1) := by decide +kernel
theorem dX5_parseImage_1 : decode cX5_parseImage 1 = .ok (.iload_n 1, 1) := by decide +kernel
theorem dX5_parseImage_2 : decode cX5_parseImage 2 = .ok (.invokevirtual 156, 3) := by decide +kernel
theorem dX5_parseImage_5 : decode cX5_parseImage 5 = .ok (.astore_n 2, 1) := by decide +kernel
theorem dX5_parseImage_6 : decode cX5_parseImage 6 = .ok (.aload_n 0, 1) := by decide +kernel
theorem dX5_parseImage_7 : decode cX5_parseImage 7 = .ok (.getfield 58, 3) := by decide +kernel
theorem dX5_parseImage_10 : decode cX5_parseImage 10 = .ok (.istore_n 3, 1) := by decide +kernel
theorem dX5_parseImage_11 : decode cX5_parseImage 11 = .ok (.aload_n 0, 1) := by decide +kernel
theorem dX5_parseImage_12 : decode cX5_parseImage 12 = .ok (.invokevirtual 87, 3) := by decide +kernel
theorem dX5_parseImage_15 : decode cX5_parseImage 15 = .ok (.istore 4, 2) := by decide +kernel
theorem dX5_parseImage_17 : decode cX5_parseImage 17 = .ok (.iload 4, 2) := by decide +kernel
theorem dX5_parseImage_19 : decode cX5_parseImage 19 = .ok (.iconst 2, 1) := by decide +kernel
theorem dX5_parseImage_20 : decode cX5_parseImage 20 = .ok (.if_icmp .lt 10, 3) := by decide +kernel
theorem dX5_parseImage_23 : decode cX5_parseImage 23 = .ok (.iload 4, 2) := by decide +kernel
theorem dX5_parseImage_25 : decode cX5_parseImage 25 = .ok (.bipush 8, 2) := by decide +kernel
theorem dX5_parseImage_27 : decode cX5_parseImage 27 = .ok (.if_icmp .le 10, 3) := by decide +kernel
theorem dX5_parseImage_30 : decode cX5_parseImage 30 = .ok (.aload_n 0, 1) := by decide +kernel
theorem dX5_parseImage_31 : decode cX5_parseImage 31 = .ok (.bipush 8, 2) := by decide +kernel
theorem dX5_parseImage_33 : decode cX5_parseImage 33 = .ok (.iload_n 3, 1) := by decide +kernel
theorem dX5_parseImage_34 : decode cX5_parseImage 34 = .ok (.invokevirtual 80, 3) := by decide +kernel
theorem dX5_parseImage_37 : decode cX5_parseImage 37 = .ok (.aload_n 0, 1) := by decide +kernel
theorem dX5_parseImage_38 : decode cX5_parseImage 38 = .ok (.invokevirtual 144, 3) := by decide +kernel
theorem dX5_parseImage_41 : decode cX5_parseImage 41 = .ok (.aload_n 0, 1) := by decide +kernel
theorem dX5_parseImage_42 : decode cX5_parseImage 42 = .ok (.getfield 39, 3) := by decide +kernel
theorem dX5_parseImage_45 : decode cX5_parseImage 45 = .ok (.ifCond .ne 7, 3) := by decide +kernel
theorem dX5_parseImage_48 : decode cX5_parseImage 48 = .ok (.aload_n 2, 1) := by decide +kernel
theorem dX5_parseImage_49 : decode cX5_parseImage 49 = .ok (.ifnonnull 4, 3) := by decide +kernel
theorem dX5_parseImage_52 : decode cX5_parseImage 52 = .ok (.return_, 1) := by decide +kernel
theorem dX5_parseImage_53 : decode cX5_parseImage 53 = .ok (.aload_n 0, 1) := by decide +kernel
theorem dX5_parseImage_54 : decode cX5_parseImage 54 = .ok (.getfield 21, 3) := by decide +kernel
theorem dX5_parseImage_57 : decode cX5_parseImage 57 = .ok (.iload 4, 2) := by decide +kernel
theorem dX5_parseImage_59 : decode cX5_parseImage 59 = .ok (.aload_n 2, 1) := by decide +kernel
theorem dX5_parseImage_60 : decode cX5_parseImage 60 = .ok (.invokevirtual 160, 3) := by decide +kernel
theorem dX5_parseImage_63 : decode cX5_parseImage 63 = .ok (.aload_n 0, 1) := by decide +kernel
theorem dX5_parseImage_64 : decode cX5_parseImage 64 = .ok (.getfield 35, 3) := by decide +kernel
theorem dX5_parseImage_67 : decode cX5_parseImage 67 = .ok (.aload_n 2, 1) := by decide +kernel
theorem dX5_parseImage_68 : decode cX5_parseImage 68 = .ok (.invokevirtual 164, 3) := by decide +kernel
theorem dX5_parseImage_71 : decode cX5_parseImage 71 = .ok (.getfield 121, 3) := by decide +kernel
theorem dX5_parseImage_74 : decode cX5_parseImage 74 = .ok (.invokevirtual 168, 3) := by decide +kernel
theorem dX5_parseImage_77 : decode cX5_parseImage 77 = .ok (.ifCond .eq 17, 3) := by decide +kernel
theorem dX5_parseImage_80 : decode cX5_parseImage 80 = .ok (.aload_n 2, 1) := by decide +kernel
theorem dX5_parseImage_81 : decode cX5_parseImage 81 = .ok (.aload_n 0, 1) := by decide +kernel
theorem dX5_parseImage_82 : decode cX5_parseImage 82 = .ok (.getfield 21, 3) := by decide +kernel
theorem dX5_parseImage_85 : decode cX5_parseImage 85 = .ok (.getfield 172, 3) := by decide +kernel
theorem dX5_parseImage_88 : decode cX5_parseImage 88 = .ok (.invokevirtual 175, 3) := by decide +kernel
theorem dX5_parseImage_91 : decode cX5_parseImage 91 = .ok (.goto 10, 3) := by decide +kernel
theorem dX5_parseImage_94 : decode cX5_parseImage 94 = .ok (.aload_n 0, 1) := by decide +kernel
theorem dX5_parseImage_95 : decode cX5_parseImage 95 = .ok (.bipush 9, 2) := by decide +kernel
theorem dX5_parseImage_97 : decode cX5_parseImage 97 = .ok (.iload_n 3, 1) := by decide +kernel
theorem dX5_parseImage_98 : decode cX5_parseImage 98 = .ok (.invokevirtual 80, 3) := by decide +kernel
theorem dX5_parseImage_101 : decode cX5_parseImage 101 = .ok (.return_, 1) := by decide +kernel
theorem dX5_parseFrame_0 : decode cX5_parseFrame 0 = .ok (.aload_n 0, 1) := by decide +kernel
theorem dX5_parseFrame_1 : decode cX5_parseFrame 1 = .ok (.invokevirtual 97, 3) := by decide +kernel
theorem dX5_parseFrame_4 : decode cX5_parseFrame 4 = .ok (.istore_n 2, 1) := by decide +kernel
theorem dX5_parseFrame_5 : decode cX5_parseFrame 5 = .ok (.aload_n 0, 1) := by decide +kernel
theorem dX5_parseFrame_6 : decode cX5_parseFrame 6 = .ok (.invokevirtual 97, 3) := by decide +kernel
theorem dX5_parseFrame_9 : decode cX5_parseFrame 9 = .ok (.istore_n 3, 1) := by decide +kernel
theorem dX5_parseFrame_10 : decode cX5_parseFrame 10 = .ok (.aload_n 0, 1) := by decide +kernel
theorem dX5_parseFrame_11 : decode cX5_parseFrame 11 = .ok (.invokevirtual 97, 3) := by decide +kernel
theorem dX5_parseFrame_14 : decode cX5_parseFrame 14 = .ok (.istore 4, 2) := by decide +kernel
theorem dX5_parseFrame_16 : decode cX5_parseFrame 16 = .ok (.aload_n 0, 1) := by decide +kernel
theorem dX5_parseFrame_17 : decode cX5_parseFrame 17 = .ok (.invokevirtual 97, 3) := by decide +kernel
theorem dX5_parseFrame_20 : decode cX5_parseFrame 20 = .ok (.istore 5, 2) := by decide +kernel
theorem dX5_parseFrame_22 : decode cX5_parseFrame 22 = .ok (.aload_n 0, 1) := by decide +kernel
theorem dX5_parseFrame_23 : decode cX5_parseFrame 23 = .ok (.getfield 35, 3) := by decide +kernel
theorem dX5_parseFrame_26 : decode cX5_parseFrame 26 = .ok (.invokevirtual 179, 3) := by decide +kernel
theorem dX5_parseFrame_29 : decode cX5_parseFrame 29 = .ok (.ifCond .eq 19, 3) := by decide +kernel
theorem dX5_parseFrame_32 : decode cX5_parseFrame 32 = .ok (.aload_n 0, 1) := by decide +kernel
theorem dX5_parseFrame_33 : decode cX5_parseFrame 33 = .ok (.getfield 35, 3) := by decide +kernel
theorem dX5_parseFrame_36 : decode cX5_parseFrame 36 = .ok (.iload_n 2, 1) := by decide +kernel
theorem dX5_parseFrame_37 : decode cX5_parseFrame 37 = .ok (.iload_n 3, 1) := by decide +kernel
theorem dX5_parseFrame_38 : decode cX5_parseFrame 38 = .ok (.iload 4, 2) := by decide +kernel
theorem dX5_parseFrame_40 : decode cX5_parseFrame 40 = .ok (.iload 5, 2) := by decide +kernel
theorem dX5_parseFrame_42 : decode cX5_parseFrame 42 = .ok (.invokevirtual 183, 3) := by decide +kernel
theorem dX5_parseFrame_45 : decode cX5_parseFrame 45 = .ok (.ifCond .ne 10, 3) := by decide +kernel
theorem dX5_parseFrame_48 : decode cX5_parseFrame 48 = .ok (.aload_n 0, 1) := by decide +kernel
theorem dX5_parseFrame_49 : decode cX5_parseFrame 49 = .ok (.bipush 6, 2) := by decide +kernel
theorem dX5_parseFrame_51 : decode cX5_parseFrame 51 = .ok (.iload_n 1, 1) := by decide +kernel
theorem dX5_parseFrame_52 : decode cX5_parseFrame 52 = .ok (.invokevirtual 80, 3) := by decide +kernel
theorem dX5_parseFrame_55 : decode cX5_parseFrame 55 = .ok (.aload_n 0, 1) := by decide +kernel
theorem dX5_parseFrame_56 : decode cX5_parseFrame 56 = .ok (.invokevirtual 87, 3) := by decide +kernel
theorem dX5_parseFrame_59 : decode cX5_parseFrame 59 = .ok (.istore 6, 2) := by decide +kernel
theorem dX5_parseFrame_61 : decode cX5_parseFrame 61 = .ok (.iload 6, 2) := by decide +kernel
theorem dX5_parseFrame_63 : decode cX5_parseFrame 63 = .ok (.invokestatic 104, 3) := by decide +kernel
theorem dX5_parseFrame_66 : decode cX5_parseFrame 66 = .ok (.istore 7, 2) := by decide +kernel
theorem dX5_parseFrame_68 : decode cX5_parseFrame 68 = .ok (.aload_n 0, 1) := by decide +kernel
theorem dX5_parseFrame_69 : decode cX5_parseFrame 69 = .ok (.getfield 35, 3) := by decide +kernel
theorem dX5_parseFrame_72 : decode cX5_parseFrame 72 = .ok (.iload 7, 2) := by decide +kernel
theorem dX5_parseFrame_74 : decode cX5_parseFrame 74 = .ok (.invokevirtual 187, 3) := by decide +kernel
theorem dX5_parseFrame_77 : decode cX5_parseFrame 77 = .ok (.ifCond .ne 10, 3) := by decide +kernel
theorem dX5_parseFrame_80 : decode cX5_parseFrame 80 = .ok (.aload_n 0, 1) := by decide +kernel
theorem dX5_parseFrame_81 : decode cX5_parseFrame 81 = .ok (.bipush 7, 2) := by decide +kernel
theorem dX5_parseFrame_83 : decode cX5_parseFrame 83 = .ok (.iload_n 1, 1) := by decide +kernel
theorem dX5_parseFrame_84 : decode cX5_parseFrame 84 = .ok (.invokevirtual 80, 3) := by decide +kernel
theorem dX5_parseFrame_87 : decode cX5_parseFrame 87 = .ok (.aload_n 0, 1) := by decide +kernel
theorem dX5_parseFrame_88 : decode cX5_parseFrame 88 = .ok (.getfield 39, 3) := by decide +kernel
theorem dX5_parseFrame_91 : decode cX5_parseFrame 91 = .ok (.ifCond .eq 5, 3) := by decide +kernel
theorem dX5_parseFrame_94 : decode cX5_parseFrame 94 = .ok (.aconst_null, 1) := by decide +kernel
theorem dX5_parseFrame_95 : decode cX5_parseFrame 95 = .ok (.areturn, 1) := by decide +kernel
theorem dX5_parseFrame_96 : decode cX5_parseFrame 96 = .ok (.aload_n 0, 1) := by decide +kernel
theorem dX5_parseFrame_97 : decode cX5_parseFrame 97 = .ok (.getfield 35, 3) := by decide +kernel
theorem dX5_parseFrame_100 : decode cX5_parseFrame 100 = .ok (.iload_n 2, 1) := by decide +kernel
theorem dX5_parseFrame_101 : decode cX5_parseFrame 101 = .ok (.iload_n 3, 1) := by decide +kernel
theorem dX5_parseFrame_102 : decode cX5_parseFrame 102 = .ok (.iload 4, 2) := by decide +kernel
theorem dX5_parseFrame_104 : decode cX5_parseFrame 104 = .ok (.iload 5, 2) := by decide +kernel
theorem dX5_parseFrame_106 : decode cX5_parseFrame 106 = .ok (.iload 7, 2) := by decide +kernel
theorem dX5_parseFrame_108 : decode cX5_parseFrame 108 = .ok (.iload 6, 2) := by decide +kernel
theorem dX5_parseFrame_110 : decode cX5_parseFrame 110 = .ok (.bipush 64, 2) := by decide +kernel
theorem dX5_parseFrame_112 : decode cX5_parseFrame 112 = .ok (.iand, 1) := by decide +kernel
theorem dX5_parseFrame_113 : decode cX5_parseFrame 113 = .ok (.ifCond .eq 7, 3) := by decide +kernel
theorem dX5_parseFrame_116 : decode cX5_parseFrame 116 = .ok (.iconst 1, 1) := by decide +kernel
theorem dX5_parseFrame_117 : decode cX5_parseFrame 117 = .ok (.goto 4, 3) := by decide +kernel
theorem dX5_parseFrame_120 : decode cX5_parseFrame 120 = .ok (.iconst 0, 1) := by decide +kernel
theorem dX5_parseFrame_121 : decode cX5_parseFrame 121 = .ok (.invokevirtual 190, 3) := by decide +kernel
theorem dX5_parseFrame_124 : decode cX5_parseFrame 124 = .ok (.astore 8, 2) := by decide +kernel
theorem dX5_parseFrame_126 : decode cX5_parseFrame 126 = .ok (.aload 8, 2) := by decide +kernel
theorem dX5_parseFrame_128 : decode cX5_parseFrame 128 = .ok (.getfield 194, 3) := by decide +kernel
theorem dX5_parseFrame_131 : decode cX5_parseFrame 131 = .ok (.aload_n 0, 1) := by decide +kernel
theorem dX5_parseFrame_132 : decode cX5_parseFrame 132 = .ok (.getfield 28, 3) := by decide +kernel
theorem dX5_parseFrame_135 : decode cX5_parseFrame 135 = .ok (.invokevirtual 197, 3) := by decide +kernel
theorem dX5_parseFrame_138 : decode cX5_parseFrame 138 = .ok (.aload_n 0, 1) := by decide +kernel
theorem dX5_parseFrame_139 : decode cX5_parseFrame 139 = .ok (.invokevirtual 68, 3) := by decide +kernel
theorem dX5_parseFrame_142 : decode cX5_parseFrame 142 = .ok (.aload_n 0, 1) := by decide +kernel
theorem dX5_parseFrame_143 : decode cX5_parseFrame 143 = .ok (.aload 8, 2) := by decide +kernel
theorem dX5_parseFrame_145 : decode cX5_parseFrame 145 = .ok (.getfield 201, 3) := by decide +kernel
theorem dX5_parseFrame_148 : decode cX5_parseFrame 148 = .ok (.invokevirtual 117, 3) := by decide +kernel
theorem dX5_parseFrame_151 : decode cX5_parseFrame 151 = .ok (.aload 8, 2) := by decide +kernel
theorem dX5_parseFrame_153 : decode cX5_parseFrame 153 = .ok (.areturn, 1) := by decide +kernel
theorem dX5_gatherRows_0 : decode cX5_gatherRows 0 = .ok (.aload_n 0, 1) := by decide +kernel
theorem dX5_gatherRows_1 : decode cX5_gatherRows 1 = .ok (.getfield 21, 3) := by decide +kernel
theorem dX5_gatherRows_4 : decode cX5_gatherRows 4 = .ok (.getfield 204, 3) := by decide +kernel
theorem dX5_gatherRows_7 : decode cX5_gatherRows 7 = .ok (.invokevirtual 207, 3) := by decide +kernel
theorem dX5_gatherRows_10 : decode cX5_gatherRows 10 = .ok (.iconst 0, 1) := by decide +kernel
theorem dX5_gatherRows_11 : decode cX5_gatherRows 11 = .ok (.istore_n 1, 1) := by decide +kernel
theorem dX5_gatherRows_12 : decode cX5_gatherRows 12 = .ok (.iload_n 1, 1) := by decide +kernel
theorem dX5_gatherRows_13 : decode cX5_gatherRows 13 = .ok (.aload_n 0, 1) := by decide +kernel
theorem dX5_gatherRows_14 : decode cX5_gatherRows 14 = .ok (.getfield 55, 3) := by decide +kernel
theorem dX5_gatherRows_17 : decode cX5_gatherRows 17 = .ok (.if_icmp .gt 53, 3) := by decide +kernel
theorem dX5_gatherRows_20 : decode cX5_gatherRows 20 = .ok (.aload_n 0, 1) := by decide +kernel
theorem dX5_gatherRows_21 : decode cX5_gatherRows 21 = .ok (.getfield 39, 3) := by decide +kernel
theorem dX5_gatherRows_24 : decode cX5_gatherRows 24 = .ok (.ifCond .ne 46, 3) := by decide +kernel
theorem dX5_gatherRows_27 : decode cX5_gatherRows 27 = .ok (.aload_n 0, 1) := by decide +kernel
theorem dX5_gatherRows_28 : decode cX5_gatherRows 28 = .ok (.invokevirtual 87, 3) := by decide +kernel
theorem dX5_gatherRows_31 : decode cX5_gatherRows 31 = .ok (.istore_n 2, 1) := by decide +kernel
theorem dX5_gatherRows_32 : decode cX5_gatherRows 32 = .ok (.iload_n 2, 1) := by decide +kernel
theorem dX5_gatherRows_33 : decode cX5_gatherRows 33 = .ok (.ifCond .ne 4, 3) := by decide +kernel
theorem dX5_gatherRows_36 : decode cX5_gatherRows 36 = .ok (.return_, 1) := by decide +kernel
theorem dX5_gatherRows_37 : decode cX5_gatherRows 37 = .ok (.iconst 0, 1) := by decide +kernel
theorem dX5_gatherRows_38 : decode cX5_gatherRows 38 = .ok (.istore_n 3, 1) := by decide +kernel
theorem dX5_gatherRows_39 : decode cX5_gatherRows 39 = .ok (.iload_n 3, 1) := by decide +kernel
theorem dX5_gatherRows_40 : decode cX5_gatherRows 40 = .ok (.iload_n 2, 1) := by decide +kernel
theorem dX5_gatherRows_41 : decode cX5_gatherRows 41 = .ok (.if_icmp .ge 23, 3) := by decide +kernel
theorem dX5_gatherRows_44 : decode cX5_gatherRows 44 = .ok (.aload_n 0, 1) := by decide +kernel
theorem dX5_gatherRows_45 : decode cX5_gatherRows 45 = .ok (.getfield 21, 3) := by decide +kernel
theorem dX5_gatherRows_48 : decode cX5_gatherRows 48 = .ok (.getfield 204, 3) := by decide +kernel
theorem dX5_gatherRows_51 : decode cX5_gatherRows 51 = .ok (.aload_n 0, 1) := by decide +kernel
theorem dX5_gatherRows_52 : decode cX5_gatherRows 52 = .ok (.invokevirtual 87, 3) := by decide +kernel
theorem dX5_gatherRows_55 : decode cX5_gatherRows 55 = .ok (.invokevirtual 210, 3) := by decide +kernel
theorem dX5_gatherRows_58 : decode cX5_gatherRows 58 = .ok (.iinc 3 1, 3) := by decide +kernel
theorem dX5_gatherRows_61 : decode cX5_gatherRows 61 = .ok (.goto (-22), 3) := by decide +kernel
theorem dX5_gatherRows_64 : decode cX5_gatherRows 64 = .ok (.iinc 1 1, 3) := by decide +kernel
theorem dX5_gatherRows_67 : decode cX5_gatherRows 67 = .ok (.goto (-55), 3) := by decide +kernel
theorem dX5_gatherRows_70 : decode cX5_gatherRows 70 = .ok (.return_, 1) := by decide +kernel
theorem dX6_init_0 : decode cX6_init 0 = .ok (.aload_n 0, 1) := by decide +kernel
theorem dX6_init_1 : decode cX6_init 1 = .ok (.invokespecial 3, 3) := by decide +kernel
theorem dX6_init_4 : decode cX6_init 4 = .ok (.aload_n 0, 1) := by decide +kernel
theorem dX6_init_5 : decode cX6_init 5 = .ok (.new 9, 3) := by decide +kernel
theorem dX6_init_8 : decode cX6_init 8 = .ok (.dup, 1) := by decide +kernel
theorem dX6_init_9 : decode cX6_init 9 = .ok (.invokespecial 11, 3) := by decide +kernel
theorem dX6_init_12 : decode cX6_init 12 = .ok (.putfield 12, 3) := by decide +kernel
theorem dX6_init_15 : decode cX6_init 15 = .ok (.aload_n 0, 1) := by decide +kernel
theorem dX6_init_16 : decode cX6_init 16 = .ok (.new 18, 3) := by decide +kernel
theorem dX6_init_19 : decode cX6_init 19 = .ok (.dup, 1) := by decide +kernel
theorem dX6_init_20 : decode cX6_init 20 = .ok (.invokespecial 20, 3) := by decide +kernel
theorem dX6_init_23 : decode cX6_init 23 = .ok (.putfield 21, 3) := by decide +kernel
theorem dX6_init_26 : decode cX6_init 26 = .ok (.return_, 1) := by decide +kernel
theorem dX6_exchange_0 : decode cX6_exchange 0 = .ok (.aload_n 0, 1) := by decide +kernel
theorem dX6_exchange_1 : decode cX6_exchange 1 = .ok (.getfield 21, 3) := by decide +kernel
theorem dX6_exchange_4 : decode cX6_exchange 4 = .ok (.astore_n 2, 1) := by decide +kernel
theorem dX6_exchange_5 : decode cX6_exchange 5 = .ok (.aload_n 0, 1) := by decide +kernel
theorem dX6_exchange_6 : decode cX6_exchange 6 = .ok (.aload_n 1, 1) := by decide +kernel
theorem dX6_exchange_7 : decode cX6_exchange 7 = .ok (.putfield 21, 3) := by decide +kernel
theorem dX6_exchange_10 : decode cX6_exchange 10 = .ok (.aload_n 2, 1) := by decide +kernel
theorem dX6_exchange_11 : decode cX6_exchange 11 = .ok (.areturn, 1) := by decide +kernel
theorem dX6_compose_0 : decode cX6_compose 0 = .ok (.aload_n 0, 1) := by decide +kernel
theorem dX6_compose_1 : decode cX6_compose 1 = .ok (.getfield 21, 3) := by decide +kernel
theorem dX6_compose_4 : decode cX6_compose 4 = .ok (.invokevirtual 25, 3) := by decide +kernel
theorem dX6_compose_7 : decode cX6_compose 7 = .ok (.aload_n 0, 1) := by decide +kernel
theorem dX6_compose_8 : decode cX6_compose 8 = .ok (.aload_n 1, 1) := by decide +kernel
theorem dX6_compose_9 : decode cX6_compose 9 = .ok (.invokevirtual 28, 3) := by decide +kernel
theorem dX6_compose_12 : decode cX6_compose 12 = .ok (.iconst 0, 1) := by decide +kernel
theorem dX6_compose_13 : decode cX6_compose 13 = .ok (.istore_n 2, 1) := by decide +kernel
theorem dX6_compose_14 : decode cX6_compose 14 = .ok (.iload_n 2, 1) := by decide +kernel
theorem dX6_compose_15 : decode cX6_compose 15 = .ok (.aload_n 1, 1) := by decide +kernel
theorem dX6_compose_16 : decode cX6_compose 16 = .ok (.getfield 32, 3) := by decide +kernel
theorem dX6_compose_19 : decode cX6_compose 19 = .ok (.if_icmp .ge 51, 3) := by decide +kernel
theorem dX6_compose_22 : decode cX6_compose 22 = .ok (.aload_n 0, 1) := by decide +kernel
theorem dX6_compose_23 : decode cX6_compose 23 = .ok (.getfield 21, 3) := by decide +kernel
theorem dX6_compose_26 : decode cX6_compose 26 = .ok (.getfield 38, 3) := by decide +kernel
theorem dX6_compose_29 : decode cX6_compose 29 = .ok (.ifCond .ne 41, 3) := by decide +kernel
theorem dX6_compose_32 : decode cX6_compose 32 = .ok (.aload_n 1, 1) := by decide +kernel
theorem dX6_compose_33 : decode cX6_compose 33 = .ok (.getfield 42, 3) := by decide +kernel
theorem dX6_compose_36 : decode cX6_compose 36 = .ok (.iload_n 2, 1) := by decide +kernel
theorem dX6_compose_37 : decode cX6_compose 37 = .ok (.aaload, 1) := by decide +kernel
theorem dX6_compose_38 : decode cX6_compose 38 = .ok (.astore_n 3, 1) := by decide +kernel
theorem dX6_compose_39 : decode cX6_compose 39 = .ok (.aload_n 0, 1) := by decide +kernel
theorem dX6_compose_40 : decode cX6_compose 40 = .ok (.aload_n 3, 1) := by decide +kernel
theorem dX6_compose_41 : decode cX6_compose 41 = .ok (.getfield 46, 3) := by decide +kernel
theorem dX6_compose_44 : decode cX6_compose 44 = .ok (.invokevirtual 52, 3) := by decide +kernel
theorem dX6_compose_47 : decode cX6_compose 47 = .ok (.aload_n 0, 1) := by decide +kernel
theorem dX6_compose_48 : decode cX6_compose 48 = .ok (.aload_n 3, 1) := by decide +kernel
theorem dX6_compose_49 : decode cX6_compose 49 = .ok (.aload_n 1, 1) := by decide +kernel
theorem dX6_compose_50 : decode cX6_compose 50 = .ok (.aload_n 3, 1) := by decide +kernel
theorem dX6_compose_51 : decode cX6_compose 51 = .ok (.invokevirtual 56, 3) := by decide +kernel
theorem dX6_compose_54 : decode cX6_compose 54 = .ok (.invokevirtual 60, 3) := by decide +kernel
theorem dX6_compose_57 : decode cX6_compose 57 = .ok (.iconst 2, 1) := by decide +kernel
theorem dX6_compose_58 : decode cX6_compose 58 = .ok (.invokestatic 66, 3) := by decide +kernel
theorem dX6_compose_61 : decode cX6_compose 61 = .ok (.invokevirtual 72, 3) := by decide +kernel
theorem dX6_compose_64 : decode cX6_compose 64 = .ok (.iinc 2 1, 3) := by decide +kernel
theorem dX6_compose_67 : decode cX6_compose 67 = .ok (.goto (-53), 3) := by decide +kernel
theorem dX6_compose_70 : decode cX6_compose 70 = .ok (.aload_n 0, 1) := by decide +kernel
theorem dX6_compose_71 : decode cX6_compose 71 = .ok (.getfield 21, 3) := by decide +kernel
theorem dX6_compose_74 : decode cX6_compose 74 = .ok (.bipush 59, 2) := by decide +kernel
theorem dX6_compose_76 : decode cX6_compose 76 = .ok (.invokevirtual 76, 3) := by decide +kernel
theorem dX6_compose_79 : decode cX6_compose 79 = .ok (.aload_n 0, 1) := by decide +kernel
theorem dX6_compose_80 : decode cX6_compose 80 = .ok (.getfield 21, 3) := by decide +kernel
theorem dX6_compose_83 : decode cX6_compose 83 = .ok (.getfield 38, 3) := by decide +kernel
theorem dX6_compose_86 : decode cX6_compose 86 = .ok (.ifCond .ne 7, 3) := by decide +kernel
theorem dX6_compose_89 : decode cX6_compose 89 = .ok (.iconst 1, 1) := by decide +kernel
theorem dX6_compose_90 : decode cX6_compose 90 = .ok (.goto 4, 3) := by decide +kernel
theorem dX6_compose_93 : decode cX6_compose 93 = .ok (.iconst 0, 1) := by decide +kernel
theorem dX6_compose_94 : decode cX6_compose 94 = .ok (.ireturn, 1) := by decide +kernel
theorem dX6_putScreen_0 : decode cX6_putScreen 0 = .ok (.iconst 0, 1) := by decide +kernel
theorem dX6_putScreen_1 : decode cX6_putScreen 1 = .ok (.istore_n 2, 1) := by decide +kernel
theorem dX6_putScreen_2 : decode cX6_putScreen 2 = .ok (.iload_n 2, 1) := by decide +kernel
theorem dX6_putScreen_3 : decode cX6_putScreen 3 = .ok (.getstatic 80, 3) := by decide +kernel
theorem dX6_putScreen_6 : decode cX6_putScreen 6 = .ok (.arraylength, 1) := by decide +kernel
theorem dX6_putScreen_7 : decode cX6_putScreen 7 = .ok (.if_icmp .ge 21, 3) := by decide +kernel
theorem dX6_putScreen_10 : decode cX6_putScreen 10 = .ok (.aload_n 0, 1) := by decide +kernel
theorem dX6_putScreen_11 : decode cX6_putScreen 11 = .ok (.getfield 21, 3) := by decide +kernel
theorem dX6_putScreen_14 : decode cX6_putScreen 14 = .ok (.getstatic 80, 3) := by decide +kernel
theorem dX6_putScreen_17 : decode cX6_putScreen 17 = .ok (.iload_n 2, 1) := by decide +kernel
theorem dX6_putScreen_18 : decode cX6_putScreen 18 = .ok (.iaload, 1) := by decide +kernel
theorem dX6_putScreen_19 : decode cX6_putScreen 19 = .ok (.invokevirtual 76, 3) := by decide +kernel
theorem dX6_putScreen_22 : decode cX6_putScreen 22 = .ok (.iinc 2 1, 3) := by decide +kernel
theorem dX6_putScreen_25 : decode cX6_putScreen 25 = .ok (.goto (-23), 3) := by decide +kernel
theorem dX6_putScreen_28 : decode cX6_putScreen 28 = .ok (.aload_n 0, 1) := by decide +kernel
theorem dX6_putScreen_29 : decode cX6_putScreen 29 = .ok (.getfield 21, 3) := by decide +kernel
theorem dX6_putScreen_32 : decode cX6_putScreen 32 = .ok (.aload_n 1, 1) := by decide +kernel
theorem dX6_putScreen_33 : decode cX6_putScreen 33 = .ok (.getfield 84, 3) := by decide +kernel
theorem dX6_putScreen_36 : decode cX6_putScreen 36 = .ok (.invokevirtual 87, 3) := by decide +kernel
theorem dX6_putScreen_39 : decode cX6_putScreen 39 = .ok (.aload_n 0, 1) := by decide +kernel
theorem dX6_putScreen_40 : decode cX6_putScreen 40 = .ok (.getfield 21, 3) := by decide +kernel
theorem dX6_putScreen_43 : decode cX6_putScreen 43 = .ok (.aload_n 1, 1) := by decide +kernel
theorem dX6_putScreen_44 : decode cX6_putScreen 44 = .ok (.getfield 90, 3) := by decide +kernel
theorem dX6_putScreen_47 : decode cX6_putScreen 47 = .ok (.invokevirtual 87, 3) := by decide +kernel
theorem dX6_putScreen_50 : decode cX6_putScreen 50 = .ok (.aload_n 0, 1) := by decide +kernel
theorem dX6_putScreen_51 : decode cX6_putScreen 51 = .ok (.getfield 21, 3) := by decide +kernel
theorem dX6_putScreen_54 : decode cX6_putScreen 54 = .ok (.aload_n 1, 1) := by decide +kernel
theorem dX6_putScreen_55 : decode cX6_putScreen 55 = .ok (.getfield 93, 3) := by decide +kernel
theorem dX6_putScreen_58 : decode cX6_putScreen 58 = .ok (.invokevirtual 97, 3) := by decide +kernel
theorem dX6_putScreen_61 : decode cX6_putScreen 61 = .ok (.bipush 112, 2) := by decide +kernel
theorem dX6_putScreen_63 : decode cX6_putScreen 63 = .ok (.iadd, 1) := by decide +kernel
theorem dX6_putScreen_64 : decode cX6_putScreen 64 = .ok (.invokevirtual 76, 3) := by decide +kernel
theorem dX6_putScreen_67 : decode cX6_putScreen 67 = .ok (.aload_n 0, 1) := by decide +kernel
theorem dX6_putScreen_68 : decode cX6_putScreen 68 = .ok (.getfield 21, 3) := by decide +kernel
theorem dX6_putScreen_71 : decode cX6_putScreen 71 = .ok (.aload_n 1, 1) := by decide +kernel
theorem dX6_putScreen_72 : decode cX6_putScreen 72 = .ok (.getfield 100, 3) := by decide +kernel
theorem dX6_putScreen_75 : decode cX6_putScreen 75 = .ok (.invokevirtual 76, 3) := by decide +kernel
theorem dX6_putScreen_78 : decode cX6_putScreen 78 = .ok (.aload_n 0, 1) := by decide +kernel
theorem dX6_putScreen_79 : decode cX6_putScreen 79 = .ok (.getfield 21, 3) := by decide +kernel
theorem dX6_putScreen_82 : decode cX6_putScreen 82 = .ok (.aload_n 1, 1) := by decide +kernel
theorem dX6_putScreen_83 : decode cX6_putScreen 83 = .ok (.getfield 103, 3) := by decide +kernel
theorem dX6_putScreen_86 : decode cX6_putScreen 86 = .ok (.invokevirtual 76, 3) := by decide +kernel
theorem dX6_putScreen_89 : decode cX6_putScreen 89 = .ok (.aload_n 0, 1) := by decide +kernel
theorem dX6_putScreen_90 : decode cX6_putScreen 90 = .ok (.aload_n 1, 1) := by decide +kernel
theorem dX6_putScreen_91 : decode cX6_putScreen 91 = .ok (.getfield 93, 3) := by decide +kernel
theorem dX6_putScreen_94 : decode cX6_putScreen 94 = .ok (.invokevirtual 106, 3) := by decide +kernel
theorem dX6_putScreen_97 : decode cX6_putScreen 97 = .ok (.return_, 1) := by decide +kernel
theorem dX6_putTable_0 : decode cX6_putTable 0 = .ok (.iconst 0, 1) := by decide +kernel
theorem dX6_putTable_1 : decode cX6_putTable 1 = .ok (.istore_n 2, 1) := by decide +kernel
theorem dX6_putTable_2 : decode cX6_putTable 2 = .ok (.iload_n 2, 1) := by decide +kernel
theorem dX6_putTable_3 : decode cX6_putTable 3 = .ok (.aload_n 1, 1) := by decide +kernel
theorem dX6_putTable_4 : decode cX6_putTable 4 = .ok (.getfield 110, 3) := by decide +kernel
theorem dX6_putTable_7 : decode cX6_putTable 7 = .ok (.if_icmp .ge 46, 3) := by decide +kernel
theorem dX6_putTable_10 : decode cX6_putTable 10 = .ok (.aload_n 1, 1) := by decide +kernel
theorem dX6_putTable_11 : decode cX6_putTable 11 = .ok (.getfield 113, 3) := by decide +kernel
theorem dX6_putTable_14 : decode cX6_putTable 14 = .ok (.iload_n 2, 1) := by decide +kernel
theorem dX6_putTable_15 : decode cX6_putTable 15 = .ok (.iaload, 1) := by decide +kernel
theorem dX6_putTable_16 : decode cX6_putTable 16 = .ok (.istore_n 3, 1) := by decide +kernel
theorem dX6_putTable_17 : decode cX6_putTable 17 = .ok (.aload_n 0, 1) := by decide +kernel
theorem dX6_putTable_18 : decode cX6_putTable 18 = .ok (.getfield 21, 3) := by decide +kernel
theorem dX6_putTable_21 : decode cX6_putTable 21 = .ok (.iload_n 3, 1) := by decide +kernel
theorem dX6_putTable_22 : decode cX6_putTable 22 = .ok (.bipush 16, 2) := by decide +kernel
theorem dX6_putTable_24 : decode cX6_putTable 24 = .ok (.ishr, 1) := by decide +kernel
theorem dX6_putTable_25 : decode cX6_putTable 25 = .ok (.invokevirtual 76, 3) := by decide +kernel
theorem dX6_putTable_28 : decode cX6_putTable 28 = .ok (.aload_n 0, 1) := by decide +kernel
theorem dX6_putTable_29 : decode cX6_putTable 29 = .ok (.getfield 21, 3) := by decide +kernel
theorem dX6_putTable_32 : decode cX6_putTable 32 = .ok (.iload_n 3, 1) := by decide +kernel
theorem dX6_putTable_33 : decode cX6_putTable 33 = .ok (.bipush 8, 2) := by decide +kernel
theorem dX6_putTable_35 : decode cX6_putTable 35 = .ok (.ishr, 1) := by decide +kernel
theorem dX6_putTable_36 : decode cX6_putTable 36 = .ok (.invokevirtual 76, 3) := by decide +kernel
theorem dX6_putTable_39 : decode cX6_putTable 39 = .ok (.aload_n 0, 1) := by decide +kernel
theorem dX6_putTable_40 : decode cX6_putTable 40 = .ok (.getfield 21, 3) := by decide +kernel
theorem dX6_putTable_43 : decode cX6_putTable 43 = .ok (.iload_n 3, 1) := by decide +kernel
theorem dX6_putTable_44 : decode cX6_putTable 44 = .ok (.invokevirtual 76, 3) := by decide +kernel
theorem dX6_putTable_47 : decode cX6_putTable 47 = .ok (.iinc 2 1, 3) := by decide +kernel
theorem dX6_putTable_50 : decode cX6_putTable 50 = .ok (.goto (-48), 3) := by decide +kernel
theorem dX6_putTable_53 : decode cX6_putTable 53 = .ok (.return_, 1) := by decide +kernel
theorem dX6_putControl_0 : decode cX6_putControl 0 = .ok (.aload_n 1, 1) := by decide +kernel
theorem dX6_putControl_1 : decode cX6_putControl 1 = .ok (.getfield 116, 3) := by decide +kernel
theorem dX6_putControl_4 : decode cX6_putControl 4 = .ok (.iconst (-1), 1) := by decide +kernel
theorem dX6_putControl_5 : decode cX6_putControl 5 = .ok (.if_icmp .ne 7, 3) := by decide +kernel
theorem dX6_putControl_8 : decode cX6_putControl 8 = .ok (.iconst 1, 1) := by decide +kernel
theorem dX6_putControl_9 : decode cX6_putControl 9 = .ok (.goto 4, 3) := by decide +kernel
theorem dX6_putControl_12 : decode cX6_putControl 12 = .ok (.iconst 0, 1) := by decide +kernel
theorem dX6_putControl_13 : decode cX6_putControl 13 = .ok (.istore_n 2, 1) := by decide +kernel
theorem dX6_putControl_14 : decode cX6_putControl 14 = .ok (.aload_n 0, 1) := by decide +kernel
theorem dX6_putControl_15 : decode cX6_putControl 15 = .ok (.getfield 21, 3) := by decide +kernel
theorem dX6_putControl_18 : decode cX6_putControl 18 = .ok (.bipush 33, 2) := by decide +kernel
theorem dX6_putControl_20 : decode cX6_putControl 20 = .ok (.invokevirtual 76, 3) := by decide +kernel
theorem dX6_putControl_23 : decode cX6_putControl 23 = .ok (.aload_n 0, 1) := by decide +kernel
theorem dX6_putControl_24 : decode cX6_putControl 24 = .ok (.getfield 21, 3) := by decide +kernel
theorem dX6_putControl_27 : decode cX6_putControl 27 = .ok (.sipush 249, 3) := by decide +kernel
theorem dX6_putControl_30 : decode cX6_putControl 30 = .ok (.invokevirtual 76, 3) := by decide +kernel
theorem dX6_putControl_33 : decode cX6_putControl 33 = .ok (.aload_n 0, 1) := by decide +kernel
theorem dX6_putControl_34 : decode cX6_putControl 34 = .ok (.getfield 21, 3) := by decide +kernel
theorem dX6_putControl_37 : decode cX6_putControl 37 = .ok (.iconst 4, 1) := by decide +kernel
theorem dX6_putControl_38 : decode cX6_putControl 38 = .ok (.invokevirtual 76, 3) := by decide +kernel
theorem dX6_putControl_41 : decode cX6_putControl 41 = .ok (.aload_n 0, 1) := by decide +kernel
theorem dX6_putControl_42 : decode cX6_putControl 42 = .ok (.getfield 21, 3) := by decide +kernel
theorem dX6_putControl_45 : decode cX6_putControl 45 = .ok (.aload_n 1, 1) := by decide +kernel
theorem dX6_putControl_46 : decode cX6_putControl 46 = .ok (.getfield 121, 3) := by decide +kernel
theorem dX6_putControl_49 : decode cX6_putControl 49 = .ok (.iconst 2, 1) := by decide +kernel
theorem dX6_putControl_50 : decode cX6_putControl 50 = .ok (.ishl, 1) := by decide +kernel
theorem dX6_putControl_51 : decode cX6_putControl 51 = .ok (.aload_n 1, 1) := by decide +kernel
theorem dX6_putControl_52 : decode cX6_putControl 52 = .ok (.getfield 124, 3) := by decide +kernel
theorem dX6_putControl_55 : decode cX6_putControl 55 = .ok (.ifCond .eq 7, 3) := by decide +kernel
theorem dX6_putControl_58 : decode cX6_putControl 58 = .ok (.iconst 2, 1) := by decide +kernel
theorem dX6_putControl_59 : decode cX6_putControl 59 = .ok (.goto 4, 3) := by decide +kernel
theorem dX6_putControl_62 : decode cX6_putControl 62 = .ok (.iconst 0, 1) := by decide +kernel
theorem dX6_putControl_63 : decode cX6_putControl 63 = .ok (.ior, 1) := by decide +kernel
theorem dX6_putControl_64 : decode cX6_putControl 64 = .ok (.iload_n 2, 1) := by decide +kernel
theorem dX6_putControl_65 : decode cX6_putControl 65 = .ok (.ifCond .eq 7, 3) := by decide +kernel
theorem dX6_putControl_68 : decode cX6_putControl 68 = .ok (.iconst 0, 1) := by decide +kernel
theorem dX6_putControl_69 : decode cX6_putControl 69 = .ok (.goto 4, 3) := by decide +kernel
theorem dX6_putControl_72 : decode cX6_putControl 72 = .ok (.iconst 1, 1) := by decide +kernel
theorem dX6_putControl_73 : decode cX6_putControl 73 = .ok (.ior, 1) := by decide +kernel
theorem dX6_putControl_74 : decode cX6_putControl 74 = .ok (.invokevirtual 76, 3) := by decide +kernel
theorem dX6_putControl_77 : decode cX6_putControl 77 = .ok (.aload_n 0, 1) := by decide +kernel
theorem dX6_putControl_78 : decode cX6_putControl 78 = .ok (.getfield 21, 3) := by decide +kernel
theorem dX6_putControl_81 : decode cX6_putControl 81 = .ok (.aload_n 1, 1) := by decide +kernel
theorem dX6_putControl_82 : decode cX6_putControl 82 = .ok (.getfield 127, 3) := by decide +kernel
theorem dX6_putControl_85 : decode cX6_putControl 85 = .ok (.invokevirtual 87, 3) := by decide +kernel
theorem dX6_putControl_88 : decode cX6_putControl 88 = .ok (.aload_n 0, 1) := by decide +kernel
theorem dX6_putControl_89 : decode cX6_putControl 89 = .ok (.getfield 21, 3) := by decide +kernel
theorem dX6_putControl_92 : decode cX6_putControl 92 = .ok (.iload_n 2, 1) := by decide +kernel
theorem dX6_putControl_93 : decode cX6_putControl 93 = .ok (.ifCond .eq 7, 3) := by decide +kernel
theorem dX6_putControl_96 : decode cX6_putControl 96 = .ok (.iconst 0, 1) := by decide +kernel
theorem dX6_putControl_97 : decode cX6_putControl 97 = .ok (.goto 7, 3) := by decide +kernel
theorem dX6_putControl_100 : decode cX6_putControl 100 = .ok (.aload_n 1, 1) := by decide +kernel
theorem dX6_putControl_101 : decode cX6_putControl 101 = .ok (.getfield 116, 3) := by decide +kernel
theorem dX6_putControl_104 : decode cX6_putControl 104 = .ok (.invokevirtual 76, 3) := by decide +kernel
theorem dX6_putControl_107 : decode cX6_putControl 107 = .ok (.aload_n 0, 1) := by decide +kernel
theorem dX6_putControl_108 : decode cX6_putControl 108 = .ok (.getfield 21, 3) := by decide +kernel
theorem dX6_putControl_111 : decode cX6_putControl 111 = .ok (.iconst 0, 1) := by decide +kernel
theorem dX6_putControl_112 : decode cX6_putControl 112 = .ok (.invokevirtual 76, 3) := by decide +kernel
theorem dX6_putControl_115 : decode cX6_putControl 115 = .ok (.return_, 1) := by decide +kernel
theorem dX6_putImage_0 : decode cX6_putImage 0 = .ok (.aload_n 0, 1) := by decide +kernel
theorem dX6_putImage_1 : decode cX6_putImage 1 = .ok (.getfield 21, 3) := by decide +kernel
theorem dX6_putImage_4 : decode cX6_putImage 4 = .ok (.bipush 44, 2) := by decide +kernel
theorem dX6_putImage_6 : decode cX6_putImage 6 = .ok (.invokevirtual 76, 3) := by decide +kernel
theorem dX6_putImage_9 : decode cX6_putImage 9 = .ok (.aload_n 0, 1) := by decide +kernel
theorem dX6_putImage_10 : decode cX6_putImage 10 = .ok (.getfield 21, 3) := by decide +kernel
theorem dX6_putImage_13 : decode cX6_putImage 13 = .ok (.aload_n 1, 1) := by decide +kernel
theorem dX6_putImage_14 : decode cX6_putImage 14 = .ok (.getfield 130, 3) := by decide +kernel
theorem dX6_putImage_17 : decode cX6_putImage 17 = .ok (.invokevirtual 87, 3) := by decide +kernel
theorem dX6_putImage_20 : decode cX6_putImage 20 = .ok (.aload_n 0, 1) := by decide +kernel
theorem dX6_putImage_21 : decode cX6_putImage 21 = .ok (.getfield 21, 3) := by decide +kernel
theorem dX6_putImage_24 : decode cX6_putImage 24 = .ok (.aload_n 1, 1) := by decide +kernel
theorem dX6_putImage_25 : decode cX6_putImage 25 = .ok (.getfield 133, 3) := by decide +kernel
theorem dX6_putImage_28 : decode cX6_putImage 28 = .ok (.invokevirtual 87, 3) := by decide +kernel
theorem dX6_putImage_31 : decode cX6_putImage 31 = .ok (.aload_n 0, 1) := by decide +kernel
theorem dX6_putImage_32 : decode cX6_putImage 32 = .ok (.getfield 21, 3) := by decide +kernel
theorem dX6_putImage_35 : decode cX6_putImage 35 = .ok (.aload_n 1, 1) := by decide +kernel
theorem dX6_putImage_36 : decode cX6_putImage 36 = .ok (.getfield 136, 3) := by decide +kernel
theorem dX6_putImage_39 : decode cX6_putImage 39 = .ok (.invokevirtual 87, 3) := by decide +kernel
theorem dX6_putImage_42 : decode cX6_putImage 42 = .ok (.aload_n 0, 1) := by decide +kernel
theorem dX6_putImage_43 : decode cX6_putImage 43 = .ok (.getfield 21, 3) := by decide +kernel
theorem dX6_putImage_46 : decode cX6_putImage 46 = .ok (.aload_n 1, 1) := by decide +kernel
theorem dX6_putImage_47 : decode cX6_putImage 47 = .ok (.getfield 137, 3) := by decide +kernel
theorem dX6_putImage_50 : decode cX6_putImage 50 = .ok (.invokevirtual 87, 3) := by decide +kernel
theorem dX6_putImage_53 : decode cX6_putImage 53 = .ok (.aload_n 0, 1) := by decide +kernel
theorem dX6_putImage_54 : decode cX6_putImage 54 = .ok (.getfield 21, 3) := by decide +kernel
theorem dX6_putImage_57 : decode cX6_putImage 57 = .ok (.aload_n 1, 1) := by decide +kernel
theorem dX6_putImage_58 : decode cX6_putImage 58 = .ok (.getfield 138, 3) := by decide +kernel
theorem dX6_putImage_61 : decode cX6_putImage 61 = .ok (.invokevirtual 97, 3) := by decide +kernel
theorem dX6_putImage_64 : decode cX6_putImage 64 = .ok (.aload_n 1, 1) := by decide +kernel
theorem dX6_putImage_65 : decode cX6_putImage 65 = .ok (.getfield 141, 3) := by decide +kernel
theorem dX6_putImage_68 : decode cX6_putImage 68 = .ok (.ifCond .eq 8, 3) := by decide +kernel
theorem dX6_putImage_71 : decode cX6_putImage 71 = .ok (.bipush 64, 2) := by decide +kernel
theorem dX6_putImage_73 : decode cX6_putImage 73 = .ok (.goto 4, 3) := by decide +kernel
theorem dX6_putImage_76 : decode cX6_putImage 76 = .ok (.iconst 0, 1) := by decide +kernel
theorem dX6_putImage_77 : decode cX6_putImage 77 = .ok (.iadd, 1) := by decide +kernel
theorem dX6_putImage_78 : decode cX6_putImage 78 = .ok (.invokevirtual 76, 3) := by decide +kernel
theorem dX6_putImage_81 : decode cX6_putImage 81 = .ok (.aload_n 0, 1) := by decide +kernel
theorem dX6_putImage_82 : decode cX6_putImage 82 = .ok (.aload_n 1, 1) := by decide +kernel
theorem dX6_putImage_83 : decode cX6_putImage 83 = .ok (.getfield 138, 3) := by decide +kernel
theorem dX6_putImage_86 : decode cX6_putImage 86 = .ok (.invokevirtual 106, 3) := by decide +kernel
theorem dX6_putImage_89 : decode cX6_putImage 89 = .ok (.aload_n 0, 1) := by decide +kernel
theorem dX6_putImage_90 : decode cX6_putImage 90 = .ok (.getfield 21, 3) := by decide +kernel
theorem dX6_putImage_93 : decode cX6_putImage 93 = .ok (.iload_n 2, 1) := by decide +kernel
theorem dX6_putImage_94 : decode cX6_putImage 94 = .ok (.invokevirtual 76, 3) := by decide +kernel
theorem dX6_putImage_97 : decode cX6_putImage 97 = .ok (.aload_n 1, 1) := by decide +kernel
theorem dX6_putImage_98 : decode cX6_putImage 98 = .ok (.aload_n 0, 1) := by decide +kernel
theorem dX6_putImage_99 : decode cX6_putImage 99 = .ok (.getfield 12, 3) := by decide +kernel
theorem dX6_putImage_102 : decode cX6_putImage 102 = .ok (.getfield 144, 3) := by decide +kernel
theorem dX6_putImage_105 : decode cX6_putImage 105 = .ok (.invokevirtual 147, 3) := by decide +kernel
theorem dX6_putImage_108 : decode cX6_putImage 108 = .ok (.aload_n 0, 1) := by decide +kernel
theorem dX6_putImage_109 : decode cX6_putImage 109 = .ok (.getfield 12, 3) := by decide +kernel
theorem dX6_putImage_112 : decode cX6_putImage 112 = .ok (.aload_n 1, 1) := by decide +kernel
theorem dX6_putImage_113 : decode cX6_putImage 113 = .ok (.invokevirtual 151, 3) := by decide +kernel
theorem dX6_putImage_116 : decode cX6_putImage 116 = .ok (.iload_n 2, 1) := by decide +kernel
theorem dX6_putImage_117 : decode cX6_putImage 117 = .ok (.invokevirtual 153, 3) := by decide +kernel
theorem dX6_putImage_120 : decode cX6_putImage 120 = .ok (.aload_n 0, 1) := by decide +kernel
theorem dX6_putImage_121 : decode cX6_putImage 121 = .ok (.invokevirtual 157, 3) := by decide +kernel
theorem dX6_putImage_124 : decode cX6_putImage 124 = .ok (.return_, 1) := by decide +kernel
theorem dX6_putRows_0 : decode cX6_putRows 0 = .ok (.aload_n 0, 1) := by decide +kernel
theorem dX6_putRows_1 : decode cX6_putRows 1 = .ok (.getfield 12, 3) := by decide +kernel
theorem dX6_putRows_4 : decode cX6_putRows 4 = .ok (.getfield 160, 3) := by decide +kernel
theorem dX6_putRows_7 : decode cX6_putRows 7 = .ok (.astore_n 1, 1) := by decide +kernel
theorem dX6_putRows_8 : decode cX6_putRows 8 = .ok (.iconst 0, 1) := by decide +kernel
theorem dX6_putRows_9 : decode cX6_putRows 9 = .ok (.istore_n 2, 1) := by decide +kernel
theorem dX6_putRows_10 : decode cX6_putRows 10 = .ok (.iload_n 2, 1) := by decide +kernel
theorem dX6_putRows_11 : decode cX6_putRows 11 = .ok (.aload_n 1, 1) := by decide +kernel
theorem dX6_putRows_12 : decode cX6_putRows 12 = .ok (.getfield 163, 3) := by decide +kernel
theorem dX6_putRows_15 : decode cX6_putRows 15 = .ok (.if_icmp .ge 63, 3) := by decide +kernel
theorem dX6_putRows_18 : decode cX6_putRows 18 = .ok (.sipush 255, 3) := by decide +kernel
theorem dX6_putRows_21 : decode cX6_putRows 21 = .ok (.aload_n 1, 1) := by decide +kernel
theorem dX6_putRows_22 : decode cX6_putRows 22 = .ok (.getfield 163, 3) := by decide +kernel
theorem dX6_putRows_25 : decode cX6_putRows 25 = .ok (.iload_n 2, 1) := by decide +kernel
theorem dX6_putRows_26 : decode cX6_putRows 26 = .ok (.isub, 1) := by decide +kernel
theorem dX6_putRows_27 : decode cX6_putRows 27 = .ok (.invokestatic 164, 3) := by decide +kernel
theorem dX6_putRows_30 : decode cX6_putRows 30 = .ok (.istore_n 3, 1) := by decide +kernel
theorem dX6_putRows_31 : decode cX6_putRows 31 = .ok (.aload_n 0, 1) := by decide +kernel
theorem dX6_putRows_32 : decode cX6_putRows 32 = .ok (.getfield 21, 3) := by decide +kernel
theorem dX6_putRows_35 : decode cX6_putRows 35 = .ok (.iload_n 3, 1) := by decide +kernel
theorem dX6_putRows_36 : decode cX6_putRows 36 = .ok (.invokevirtual 76, 3) := by decide +kernel
theorem dX6_putRows_39 : decode cX6_putRows 39 = .ok (.iconst 0, 1) := by decide +kernel
theorem dX6_putRows_40 : decode cX6_putRows 40 = .ok (.istore 4, 2) := by decide +kernel
theorem dX6_putRows_42 : decode cX6_putRows 42 = .ok (.iload 4, 2) := by decide +kernel
theorem dX6_putRows_44 : decode cX6_putRows 44 = .ok (.iload_n 3, 1) := by decide +kernel
theorem dX6_putRows_45 : decode cX6_putRows 45 = .ok (.if_icmp .ge 24, 3) := by decide +kernel
theorem dX6_putRows_48 : decode cX6_putRows 48 = .ok (.aload_n 0, 1) := by decide +kernel
theorem dX6_putRows_49 : decode cX6_putRows 49 = .ok (.getfield 21, 3) := by decide +kernel
theorem dX6_putRows_52 : decode cX6_putRows 52 = .ok (.aload_n 1, 1) := by decide +kernel
theorem dX6_putRows_53 : decode cX6_putRows 53 = .ok (.iload_n 2, 1) := by decide +kernel
theorem dX6_putRows_54 : decode cX6_putRows 54 = .ok (.iload 4, 2) := by decide +kernel
theorem dX6_putRows_56 : decode cX6_putRows 56 = .ok (.iadd, 1) := by decide +kernel
theorem dX6_putRows_57 : decode cX6_putRows 57 = .ok (.invokevirtual 167, 3) := by decide +kernel
theorem dX6_putRows_60 : decode cX6_putRows 60 = .ok (.invokevirtual 76, 3) := by decide +kernel
theorem dX6_putRows_63 : decode cX6_putRows 63 = .ok (.iinc 4 1, 3) := by decide +kernel
theorem dX6_putRows_66 : decode cX6_putRows 66 = .ok (.goto (-24), 3) := by decide +kernel
theorem dX6_putRows_69 : decode cX6_putRows 69 = .ok (.iinc 2 255, 6) := by decide +kernel
theorem dX6_putRows_75 : decode cX6_putRows 75 = .ok (.goto (-65), 3) := by decide +kernel
theorem dX6_putRows_78 : decode cX6_putRows 78 = .ok (.aload_n 0, 1) := by decide +kernel
theorem dX6_putRows_79 : decode cX6_putRows 79 = .ok (.getfield 21, 3) := by decide +kernel
theorem dX6_putRows_82 : decode cX6_putRows 82 = .ok (.iconst 0, 1) := by decide +kernel
theorem dX6_putRows_83 : decode cX6_putRows 83 = .ok (.invokevirtual 76, 3) := by decide +kernel
theorem dX6_putRows_86 : decode cX6_putRows 86 = .ok (.return_, 1) := by decide +kernel
theorem dX7_init_0 : decode cX7_init 0 = .ok (.aload_n 0, 1) := by decide +kernel
theorem dX7_init_1 : decode cX7_init 1 = .ok (.invokespecial 3, 3) := by decide +kernel
theorem dX7_init_4 : decode cX7_init 4 = .ok (.aload_n 0, 1) := by decide +kernel
theorem dX7_init_5 : decode cX7_init 5 = .ok (.sipush 256, 3) := by decide +kernel
theorem dX7_init_8 : decode cX7_init 8 = .ok (.newarray .int, 2) := by decide +kernel
theorem dX7_init_10 : decode cX7_init 10 = .ok (.putfield 9, 3) := by decide +kernel
theorem dX7_init_13 : decode cX7_init 13 = .ok (.aload_n 0, 1) := by decide +kernel
theorem dX7_init_14 : decode cX7_init 14 = .ok (.iconst 0, 1) := by decide +kernel
theorem dX7_init_15 : decode cX7_init 15 = .ok (.putfield 15, 3) := by decide +kernel
theorem dX7_init_18 : decode cX7_init 18 = .ok (.return_, 1) := by decide +kernel
theorem dX7_reset_0 : decode cX7_reset 0 = .ok (.aload_n 0, 1) := by decide +kernel
theorem dX7_reset_1 : decode cX7_reset 1 = .ok (.iload_n 1, 1) := by decide +kernel
theorem dX7_reset_2 : decode cX7_reset 2 = .ok (.putfield 15, 3) := by decide +kernel
theorem dX7_reset_5 : decode cX7_reset 5 = .ok (.iconst 0, 1) := by decide +kernel
theorem dX7_reset_6 : decode cX7_reset 6 = .ok (.istore_n 2, 1) := by decide +kernel
theorem dX7_reset_7 : decode cX7_reset 7 = .ok (.iload_n 2, 1) := by decide +kernel
theorem dX7_reset_8 : decode cX7_reset 8 = .ok (.iload_n 1, 1) := by decide +kernel
theorem dX7_reset_9 : decode cX7_reset 9 = .ok (.if_icmp .ge 16, 3) := by decide +kernel
theorem dX7_reset_12 : decode cX7_reset 12 = .ok (.aload_n 0, 1) := by decide +kernel
theorem dX7_reset_13 : decode cX7_reset 13 = .ok (.getfield 9, 3) := by decide +kernel
theorem dX7_reset_16 : decode cX7_reset 16 = .ok (.iload_n 2, 1) := by decide +kernel
theorem dX7_reset_17 : decode cX7_reset 17 = .ok (.iconst 0, 1) := by decide +kernel
theorem dX7_reset_18 : decode cX7_reset 18 = .ok (.iastore, 1) := by decide +kernel
theorem dX7_reset_19 : decode cX7_reset 19 = .ok (.iinc 2 1, 3) := by decide +kernel
theorem dX7_reset_22 : decode cX7_reset 22 = .ok (.goto (-15), 3) := by decide +kernel
theorem dX7_reset_25 : decode cX7_reset 25 = .ok (.return_, 1) := by decide +kernel
theorem dX7_has_0 : decode cX7_has 0 = .ok (.iload_n 1, 1) := by decide +kernel
theorem dX7_has_1 : decode cX7_has 1 = .ok (.ifCond .lt 15, 3) := by decide +kernel
theorem dX7_has_4 : decode cX7_has 4 = .ok (.iload_n 1, 1) := by decide +kernel
theorem dX7_has_5 : decode cX7_has 5 = .ok (.aload_n 0, 1) := by decide +kernel
theorem dX7_has_6 : decode cX7_has 6 = .ok (.getfield 15, 3) := by decide +kernel
theorem dX7_has_9 : decode cX7_has 9 = .ok (.if_icmp .ge 7, 3) := by decide +kernel
theorem dX7_has_12 : decode cX7_has 12 = .ok (.iconst 1, 1) := by decide +kernel
theorem dX7_has_13 : decode cX7_has 13 = .ok (.goto 4, 3) := by decide +kernel
theorem dX7_has_16 : decode cX7_has 16 = .ok (.iconst 0, 1) := by decide +kernel
theorem dX7_has_17 : decode cX7_has 17 = .ok (.ireturn, 1) := by decide +kernel
theorem dX7_power_0 : decode cX7_power 0 = .ok (.aload_n 0, 1) := by decide +kernel
theorem dX7_power_1 : decode cX7_power 1 = .ok (.getfield 15, 3) := by decide +kernel
theorem dX7_power_4 : decode cX7_power 4 = .ok (.invokestatic 19, 3) := by decide +kernel
theorem dX7_power_7 : decode cX7_power 7 = .ok (.ireturn, 1) := by decide +kernel
theorem dX7_mark_0 : decode cX7_mark 0 = .ok (.aload_n 0, 1) := by decide +kernel
theorem dX7_mark_1 : decode cX7_mark 1 = .ok (.getfield 15, 3) := by decide +kernel
theorem dX7_mark_4 : decode cX7_mark 4 = .ok (.ifCond .ne 7, 3) := by decide +kernel
theorem dX7_mark_7 : decode cX7_mark 7 = .ok (.iconst 0, 1) := by decide +kernel
theorem dX7_mark_8 : decode cX7_mark 8 = .ok (.goto 13, 3) := by decide +kernel
theorem dX7_mark_11 : decode cX7_mark 11 = .ok (.sipush 128, 3) := by decide +kernel
theorem dX7_mark_14 : decode cX7_mark 14 = .ok (.aload_n 0, 1) := by decide +kernel
theorem dX7_mark_15 : decode cX7_mark 15 = .ok (.invokevirtual 25, 3) := by decide +kernel
theorem dX7_mark_18 : decode cX7_mark 18 = .ok (.iadd, 1) := by decide +kernel
theorem dX7_mark_19 : decode cX7_mark 19 = .ok (.iconst 1, 1) := by decide +kernel
theorem dX7_mark_20 : decode cX7_mark 20 = .ok (.isub, 1) := by decide +kernel
theorem dX7_mark_21 : decode cX7_mark 21 = .ok (.ireturn, 1) := by decide +kernel
theorem dX7_sizeByMark_0 : decode cX7_sizeByMark 0 = .ok (.iload_n 0, 1) := by decide +kernel
theorem dX7_sizeByMark_1 : decode cX7_sizeByMark 1 = .ok (.sipush 128, 3) := by decide +kernel
theorem dX7_sizeByMark_4 : decode cX7_sizeByMark 4 = .ok (.iand, 1) := by decide +kernel
theorem dX7_sizeByMark_5 : decode cX7_sizeByMark 5 = .ok (.ifCond .ne 7, 3) := by decide +kernel
theorem dX7_sizeByMark_8 : decode cX7_sizeByMark 8 = .ok (.iconst 0, 1) := by decide +kernel
theorem dX7_sizeByMark_9 : decode cX7_sizeByMark 9 = .ok (.goto 9, 3) := by decide +kernel
theorem dX7_sizeByMark_12 : decode cX7_sizeByMark 12 = .ok (.iconst 2, 1) := by decide +kernel
theorem dX7_sizeByMark_13 : decode cX7_sizeByMark 13 = .ok (.iload_n 0, 1) := by decide +kernel
theorem dX7_sizeByMark_14 : decode cX7_sizeByMark 14 = .ok (.bipush 7, 2) := by decide +kernel
theorem dX7_sizeByMark_16 : decode cX7_sizeByMark 16 = .ok (.iand, 1) := by decide +kernel
theorem dX7_sizeByMark_17 : decode cX7_sizeByMark 17 = .ok (.ishl, 1) := by decide +kernel
theorem dX7_sizeByMark_18 : decode cX7_sizeByMark 18 = .ok (.ireturn, 1) := by decide +kernel
theorem dX8_init_0 : decode cX8_init 0 = .ok (.aload_n 0, 1) := by decide +kernel
theorem dX8_init_1 : decode cX8_init 1 = .ok (.invokespecial 3, 3) := by decide +kernel
theorem dX8_init_4 : decode cX8_init 4 = .ok (.aload_n 0, 1) := by decide +kernel
theorem dX8_init_5 : decode cX8_init 5 = .ok (.invokevirtual 9, 3) := by decide +kernel
theorem dX8_init_8 : decode cX8_init 8 = .ok (.return_, 1) := by decide +kernel
theorem dX8_reset_0 : decode cX8_reset 0 = .ok (.aload_n 0, 1) := by decide +kernel
theorem dX8_reset_1 : decode cX8_reset 1 = .ok (.iconst 0, 1) := by decide +kernel
theorem dX8_reset_2 : decode cX8_reset 2 = .ok (.iconst (-1), 1) := by decide +kernel
theorem dX8_reset_3 : decode cX8_reset 3 = .ok (.iconst 0, 1) := by decide +kernel
theorem dX8_reset_4 : decode cX8_reset 4 = .ok (.iconst 0, 1) := by decide +kernel
theorem dX8_reset_5 : decode cX8_reset 5 = .ok (.invokevirtual 14, 3) := by decide +kernel
theorem dX8_reset_8 : decode cX8_reset 8 = .ok (.return_, 1) := by decide +kernel
theorem dX8_become_0 : decode cX8_become 0 = .ok (.aload_n 0, 1) := by decide +kernel
theorem dX8_become_1 : decode cX8_become 1 = .ok (.iload_n 1, 1) := by decide +kernel
theorem dX8_become_2 : decode cX8_become 2 = .ok (.putfield 18, 3) := by decide +kernel
theorem dX8_become_5 : decode cX8_become 5 = .ok (.aload_n 0, 1) := by decide +kernel
theorem dX8_become_6 : decode cX8_become 6 = .ok (.iload_n 2, 1) := by decide +kernel
theorem dX8_become_7 : decode cX8_become 7 = .ok (.putfield 22, 3) := by decide +kernel
theorem dX8_become_10 : decode cX8_become 10 = .ok (.aload_n 0, 1) := by decide +kernel
theorem dX8_become_11 : decode cX8_become 11 = .ok (.iload_n 3, 1) := by decide +kernel
theorem dX8_become_12 : decode cX8_become 12 = .ok (.putfield 25, 3) := by decide +kernel
theorem dX8_become_15 : decode cX8_become 15 = .ok (.aload_n 0, 1) := by decide +kernel
theorem dX8_become_16 : decode cX8_become 16 = .ok (.iload 4, 2) := by decide +kernel
theorem dX8_become_18 : decode cX8_become 18 = .ok (.putfield 28, 3) := by decide +kernel
theorem dX8_become_21 : decode cX8_become 21 = .ok (.return_, 1) := by decide +kernel
theorem dX8_copyFrom_0 : decode cX8_copyFrom 0 = .ok (.aload_n 0, 1) := by decide +kernel
theorem dX8_copyFrom_1 : decode cX8_copyFrom 1 = .ok (.aload_n 1, 1) := by decide +kernel
theorem dX8_copyFrom_2 : decode cX8_copyFrom 2 = .ok (.getfield 18, 3) := by decide +kernel
theorem dX8_copyFrom_5 : decode cX8_copyFrom 5 = .ok (.aload_n 1, 1) := by decide +kernel
theorem dX8_copyFrom_6 : decode cX8_copyFrom 6 = .ok (.getfield 22, 3) := by decide +kernel
theorem dX8_copyFrom_9 : decode cX8_copyFrom 9 = .ok (.aload_n 1, 1) := by decide +kernel
theorem dX8_copyFrom_10 : decode cX8_copyFrom 10 = .ok (.getfield 25, 3) := by decide +kernel
theorem dX8_copyFrom_13 : decode cX8_copyFrom 13 = .ok (.aload_n 1, 1) := by decide +kernel
theorem dX8_copyFrom_14 : decode cX8_copyFrom 14 = .ok (.getfield 28, 3) := by decide +kernel
theorem dX8_copyFrom_17 : decode cX8_copyFrom 17 = .ok (.invokevirtual 14, 3) := by decide +kernel
theorem dX8_copyFrom_20 : decode cX8_copyFrom 20 = .ok (.return_, 1) := by decide +kernel
theorem dX9_init_0 : decode cX9_init 0 = .ok (.aload_n 0, 1) := by decide +kernel
theorem dX9_init_1 : decode cX9_init 1 = .ok (.invokespecial 3, 3) := by decide +kernel
theorem dX9_init_4 : decode cX9_init 4 = .ok (.aload_n 0, 1) := by decide +kernel
theorem dX9_init_5 : decode cX9_init 5 = .ok (.new 9, 3) := by decide +kernel
theorem dX9_init_8 : decode cX9_init 8 = .ok (.dup, 1) := by decide +kernel
theorem dX9_init_9 : decode cX9_init 9 = .ok (.invokespecial 11, 3) := by decide +kernel
theorem dX9_init_12 : decode cX9_init 12 = .ok (.putfield 12, 3) := by decide +kernel
theorem dX9_init_15 : decode cX9_init 15 = .ok (.aload_n 0, 1) := by decide +kernel
theorem dX9_init_16 : decode cX9_init 16 = .ok (.aload_n 0, 1) := by decide +kernel
theorem dX9_init_17 : decode cX9_init 17 = .ok (.getfield 12, 3) := by decide +kernel
theorem dX9_init_20 : decode cX9_init 20 = .ok (.getfield 16, 3) := by decide +kernel
theorem dX9_init_23 : decode cX9_init 23 = .ok (.putfield 20, 3) := by decide +kernel
theorem dX9_init_26 : decode cX9_init 26 = .ok (.aload_n 0, 1) := by decide +kernel
theorem dX9_init_27 : decode cX9_init 27 = .ok (.new 23, 3) := by decide +kernel
theorem dX9_init_30 : decode cX9_init 30 = .ok (.dup, 1) := by decide +kernel
theorem dX9_init_31 : decode cX9_init 31 = .ok (.invokespecial 25, 3) := by decide +kernel
theorem dX9_init_34 : decode cX9_init 34 = .ok (.putfield 26, 3) := by decide +kernel
theorem dX9_init_37 : decode cX9_init 37 = .ok (.aload_n 0, 1) := by decide +kernel
theorem dX9_init_38 : decode cX9_init 38 = .ok (.new 29, 3) := by decide +kernel
theorem dX9_init_41 : decode cX9_init 41 = .ok (.dup, 1) := by decide +kernel
theorem dX9_init_42 : decode cX9_init 42 = .ok (.invokespecial 31, 3) := by decide +kernel
theorem dX9_init_45 : decode cX9_init 45 = .ok (.putfield 32, 3) := by decide +kernel
theorem dX9_init_48 : decode cX9_init 48 = .ok (.aload_n 0, 1) := by decide +kernel
theorem dX9_init_49 : decode cX9_init 49 = .ok (.new 36, 3) := by decide +kernel
theorem dX9_init_52 : decode cX9_init 52 = .ok (.dup, 1) := by decide +kernel
theorem dX9_init_53 : decode cX9_init 53 = .ok (.invokespecial 38, 3) := by decide +kernel
theorem dX9_init_56 : decode cX9_init 56 = .ok (.putfield 39, 3) := by decide +kernel
theorem dX9_init_59 : decode cX9_init 59 = .ok (.aload_n 0, 1) := by decide +kernel
theorem dX9_init_60 : decode cX9_init 60 = .ok (.iconst 0, 1) := by decide +kernel
theorem dX9_init_61 : decode cX9_init 61 = .ok (.putfield 43, 3) := by decide +kernel
theorem dX9_init_64 : decode cX9_init 64 = .ok (.return_, 1) := by decide +kernel
theorem dX9_feed_0 : decode cX9_feed 0 = .ok (.aload_n 0, 1) := by decide +kernel
theorem dX9_feed_1 : decode cX9_feed 1 = .ok (.getfield 20, 3) := by decide +kernel
theorem dX9_feed_4 : decode cX9_feed 4 = .ok (.getfield 47, 3) := by decide +kernel
theorem dX9_feed_7 : decode cX9_feed 7 = .ok (.sipush 11980, 3) := by decide +kernel
theorem dX9_feed_10 : decode cX9_feed 10 = .ok (.if_icmp .le 5, 3) := by decide +kernel
theorem dX9_feed_13 : decode cX9_feed 13 = .ok (.iconst (-1), 1) := by decide +kernel
theorem dX9_feed_14 : decode cX9_feed 14 = .ok (.ireturn, 1) := by decide +kernel
theorem dX9_feed_15 : decode cX9_feed 15 = .ok (.aload_n 0, 1) := by decide +kernel
theorem dX9_feed_16 : decode cX9_feed 16 = .ok (.getfield 20, 3) := by decide +kernel
theorem dX9_feed_19 : decode cX9_feed 19 = .ok (.iload_n 1, 1) := by decide +kernel
theorem dX9_feed_20 : decode cX9_feed 20 = .ok (.invokevirtual 51, 3) := by decide +kernel
theorem dX9_feed_23 : decode cX9_feed 23 = .ok (.aload_n 0, 1) := by decide +kernel
theorem dX9_feed_24 : decode cX9_feed 24 = .ok (.getfield 20, 3) := by decide +kernel
theorem dX9_feed_27 : decode cX9_feed 27 = .ok (.iload_n 2, 1) := by decide +kernel
theorem dX9_feed_28 : decode cX9_feed 28 = .ok (.invokevirtual 51, 3) := by decide +kernel
theorem dX9_feed_31 : decode cX9_feed 31 = .ok (.aload_n 0, 1) := by decide +kernel
theorem dX9_feed_32 : decode cX9_feed 32 = .ok (.getfield 20, 3) := by decide +kernel
theorem dX9_feed_35 : decode cX9_feed 35 = .ok (.iload_n 3, 1) := by decide +kernel
theorem dX9_feed_36 : decode cX9_feed 36 = .ok (.invokevirtual 51, 3) := by decide +kernel
theorem dX9_feed_39 : decode cX9_feed 39 = .ok (.aload_n 0, 1) := by decide +kernel
theorem dX9_feed_40 : decode cX9_feed 40 = .ok (.getfield 20, 3) := by decide +kernel
theorem dX9_feed_43 : decode cX9_feed 43 = .ok (.iload 4, 2) := by decide +kernel
theorem dX9_feed_45 : decode cX9_feed 45 = .ok (.invokevirtual 51, 3) := by decide +kernel
theorem dX9_feed_48 : decode cX9_feed 48 = .ok (.aload_n 0, 1) := by decide +kernel
theorem dX9_feed_49 : decode cX9_feed 49 = .ok (.getfield 20, 3) := by decide +kernel
theorem dX9_feed_52 : decode cX9_feed 52 = .ok (.iload 5, 2) := by decide +kernel
theorem dX9_feed_54 : decode cX9_feed 54 = .ok (.invokevirtual 51, 3) := by decide +kernel
theorem dX9_feed_57 : decode cX9_feed 57 = .ok (.aload_n 0, 1) := by decide +kernel
theorem dX9_feed_58 : decode cX9_feed 58 = .ok (.getfield 20, 3) := by decide +kernel
theorem dX9_feed_61 : decode cX9_feed 61 = .ok (.getfield 47, 3) := by decide +kernel
theorem dX9_feed_64 : decode cX9_feed 64 = .ok (.ireturn, 1) := by decide +kernel
theorem dX9_take_0 : decode cX9_take 0 = .ok (.aload_n 0, 1) := by decide +kernel
theorem dX9_take_1 : decode cX9_take 1 = .ok (.getfield 20, 3) := by decide +kernel
theorem dX9_take_4 : decode cX9_take 4 = .ok (.aload_n 0, 1) := by decide +kernel
theorem dX9_take_5 : decode cX9_take 5 = .ok (.getfield 26, 3) := by decide +kernel
theorem dX9_take_8 : decode cX9_take 8 = .ok (.invokevirtual 55, 3) := by decide +kernel
theorem dX9_take_11 : decode cX9_take 11 = .ok (.aload_n 0, 1) := by decide +kernel
theorem dX9_take_12 : decode cX9_take 12 = .ok (.getfield 20, 3) := by decide +kernel
theorem dX9_take_15 : decode cX9_take 15 = .ok (.getfield 47, 3) := by decide +kernel
theorem dX9_take_18 : decode cX9_take 18 = .ok (.ireturn, 1) := by decide +kernel
theorem dX9_read_0 : decode cX9_read 0 = .ok (.iload_n 1, 1) := by decide +kernel
theorem dX9_read_1 : decode cX9_read 1 = .ok (.ifCond .lt 14, 3) := by decide +kernel
theorem dX9_read_4 : decode cX9_read 4 = .ok (.iload_n 1, 1) := by decide +kernel
theorem dX9_read_5 : decode cX9_read 5 = .ok (.aload_n 0, 1) := by decide +kernel
theorem dX9_read_6 : decode cX9_read 6 = .ok (.getfield 20, 3) := by decide +kernel
theorem dX9_read_9 : decode cX9_read 9 = .ok (.getfield 47, 3) := by decide +kernel
theorem dX9_read_12 : decode cX9_read 12 = .ok (.if_icmp .le 6, 3) := by decide +kernel
theorem dX9_read_15 : decode cX9_read 15 = .ok (.bipush (-2), 2) := by decide +kernel
theorem dX9_read_17 : decode cX9_read 17 = .ok (.ireturn, 1) := by decide +kernel
theorem dX9_read_18 : decode cX9_read 18 = .ok (.aload_n 0, 1) := by decide +kernel
theorem dX9_read_19 : decode cX9_read 19 = .ok (.getfield 12, 3) := by decide +kernel
theorem dX9_read_22 : decode cX9_read 22 = .ok (.iload_n 1, 1) := by decide +kernel
theorem dX9_read_23 : decode cX9_read 23 = .ok (.invokevirtual 59, 3) := by decide +kernel
theorem dX9_read_26 : decode cX9_read 26 = .ok (.aload_n 0, 1) := by decide +kernel
theorem dX9_read_27 : decode cX9_read 27 = .ok (.iconst 1, 1) := by decide +kernel
theorem dX9_read_28 : decode cX9_read 28 = .ok (.putfield 43, 3) := by decide +kernel
theorem dX9_read_31 : decode cX9_read 31 = .ok (.aload_n 0, 1) := by decide +kernel
theorem dX9_read_32 : decode cX9_read 32 = .ok (.getfield 20, 3) := by decide +kernel
theorem dX9_read_35 : decode cX9_read 35 = .ok (.invokevirtual 62, 3) := by decide +kernel
theorem dX9_read_38 : decode cX9_read 38 = .ok (.aload_n 0, 1) := by decide +kernel
theorem dX9_read_39 : decode cX9_read 39 = .ok (.getfield 12, 3) := by decide +kernel
theorem dX9_read_42 : decode cX9_read 42 = .ok (.getfield 65, 3) := by decide +kernel
theorem dX9_read_45 : decode cX9_read 45 = .ok (.ifCond .eq 5, 3) := by decide +kernel
theorem dX9_read_48 : decode cX9_read 48 = .ok (.iconst (-1), 1) := by decide +kernel
theorem dX9_read_49 : decode cX9_read 49 = .ok (.ireturn, 1) := by decide +kernel
theorem dX9_read_50 : decode cX9_read 50 = .ok (.aload_n 0, 1) := by decide +kernel
theorem dX9_read_51 : decode cX9_read 51 = .ok (.aload_n 0, 1) := by decide +kernel
theorem dX9_read_52 : decode cX9_read 52 = .ok (.getfield 12, 3) := by decide +kernel
theorem dX9_read_55 : decode cX9_read 55 = .ok (.aload_n 0, 1) := by decide +kernel
theorem dX9_read_56 : decode cX9_read 56 = .ok (.getfield 32, 3) := by decide +kernel
theorem dX9_read_59 : decode cX9_read 59 = .ok (.invokevirtual 68, 3) := by decide +kernel
theorem dX9_read_62 : decode cX9_read 62 = .ok (.putfield 32, 3) := by decide +kernel
theorem dX9_read_65 : decode cX9_read 65 = .ok (.aload_n 0, 1) := by decide +kernel
theorem dX9_read_66 : decode cX9_read 66 = .ok (.getfield 32, 3) := by decide +kernel
theorem dX9_read_69 : decode cX9_read 69 = .ok (.getfield 72, 3) := by decide +kernel
theorem dX9_read_72 : decode cX9_read 72 = .ok (.ireturn, 1) := by decide +kernel
theorem dX9_fault_0 : decode cX9_fault 0 = .ok (.aload_n 0, 1) := by decide +kernel
theorem dX9_fault_1 : decode cX9_fault 1 = .ok (.getfield 43, 3) := by decide +kernel
theorem dX9_fault_4 : decode cX9_fault 4 = .ok (.ifCond .ne 5, 3) := by decide +kernel
theorem dX9_fault_7 : decode cX9_fault 7 = .ok (.iconst (-1), 1) := by decide +kernel
theorem dX9_fault_8 : decode cX9_fault 8 = .ok (.ireturn, 1) := by decide +kernel
theorem dX9_fault_9 : decode cX9_fault 9 = .ok (.iload_n 1, 1) := by decide +kernel
theorem dX9_fault_10 : decode cX9_fault 10 = .ok (.lookupswitch 42 #[(0, 26), (1, 34)], 26) := by decide +kernel
theorem dX9_fault_36 : decode cX9_fault 36 = .ok (.aload_n 0, 1) := by decide +kernel
theorem dX9_fault_37 : decode cX9_fault 37 = .ok (.getfield 12, 3) := by decide +kernel
theorem dX9_fault_40 : decode cX9_fault 40 = .ok (.getfield 65, 3) := by decide +kernel
theorem dX9_fault_43 : decode cX9_fault 43 = .ok (.ireturn, 1) := by decide +kernel
theorem dX9_fault_44 : decode cX9_fault 44 = .ok (.aload_n 0, 1) := by decide +kernel
theorem dX9_fault_45 : decode cX9_fault 45 = .ok (.getfield 12, 3) := by decide +kernel
theorem dX9_fault_48 : decode cX9_fault 48 = .ok (.getfield 75, 3) := by decide +kernel
theorem dX9_fault_51 : decode cX9_fault 51 = .ok (.ireturn, 1) := by decide +kernel
theorem dX9_fault_52 : decode cX9_fault 52 = .ok (.iconst (-1), 1) := by decide +kernel
theorem dX9_fault_53 : decode cX9_fault 53 = .ok (.ireturn, 1) := by decide +kernel
theorem dX9_begin_0 : decode cX9_begin 0 = .ok (.iload_n 1, 1) := by decide +kernel
theorem dX9_begin_1 : decode cX9_begin 1 = .ok (.invokestatic 78, 3) := by decide +kernel
theorem dX9_begin_4 : decode cX9_begin 4 = .ok (.ifCond .eq 25, 3) := by decide +kernel
theorem dX9_begin_7 : decode cX9_begin 7 = .ok (.iload_n 2, 1) := by decide +kernel
theorem dX9_begin_8 : decode cX9_begin 8 = .ok (.invokestatic 78, 3) := by decide +kernel
theorem dX9_begin_11 : decode cX9_begin 11 = .ok (.ifCond .eq 18, 3) := by decide +kernel
theorem dX9_begin_14 : decode cX9_begin 14 = .ok (.iload_n 3, 1) := by decide +kernel
theorem dX9_begin_15 : decode cX9_begin 15 = .ok (.invokestatic 82, 3) := by decide +kernel
theorem dX9_begin_18 : decode cX9_begin 18 = .ok (.ifCond .eq 11, 3) := by decide +kernel
theorem dX9_begin_21 : decode cX9_begin 21 = .ok (.iload 4, 2) := by decide +kernel
theorem dX9_begin_23 : decode cX9_begin 23 = .ok (.invokestatic 85, 3) := by decide +kernel
theorem dX9_begin_26 : decode cX9_begin 26 = .ok (.ifCond .ne 5, 3) := by decide +kernel
theorem dX9_begin_29 : decode cX9_begin 29 = .ok (.iconst 0, 1) := by decide +kernel
theorem dX9_begin_30 : decode cX9_begin 30 = .ok (.ireturn, 1) := by decide +kernel
theorem dX9_begin_31 : decode cX9_begin 31 = .ok (.aload_n 0, 1) := by decide +kernel
theorem dX9_begin_32 : decode cX9_begin 32 = .ok (.getfield 32, 3) := by decide +kernel
theorem dX9_begin_35 : decode cX9_begin 35 = .ok (.iload_n 1, 1) := by decide +kernel
theorem dX9_begin_36 : decode cX9_begin 36 = .ok (.iload_n 2, 1) := by decide +kernel
theorem dX9_begin_37 : decode cX9_begin 37 = .ok (.iload_n 3, 1) := by decide +kernel
theorem dX9_begin_38 : decode cX9_begin 38 = .ok (.iload 4, 2) := by decide +kernel
theorem dX9_begin_40 : decode cX9_begin 40 = .ok (.iconst 0, 1) := by decide +kernel
theorem dX9_begin_41 : decode cX9_begin 41 = .ok (.invokevirtual 88, 3) := by decide +kernel
theorem dX9_begin_44 : decode cX9_begin 44 = .ok (.iconst 1, 1) := by decide +kernel
theorem dX9_begin_45 : decode cX9_begin 45 = .ok (.ireturn, 1) := by decide +kernel
theorem dX9_colour_0 : decode cX9_colour 0 = .ok (.aload_n 0, 1) := by decide +kernel
theorem dX9_colour_1 : decode cX9_colour 1 = .ok (.iload_n 1, 1) := by decide +kernel
theorem dX9_colour_2 : decode cX9_colour 2 = .ok (.invokevirtual 92, 3) := by decide +kernel
theorem dX9_colour_5 : decode cX9_colour 5 = .ok (.astore 4, 2) := by decide +kernel
theorem dX9_colour_7 : decode cX9_colour 7 = .ok (.aload 4, 2) := by decide +kernel
theorem dX9_colour_9 : decode cX9_colour 9 = .ok (.ifnull 22, 3) := by decide +kernel
theorem dX9_colour_12 : decode cX9_colour 12 = .ok (.aload 4, 2) := by decide +kernel
theorem dX9_colour_14 : decode cX9_colour 14 = .ok (.iload_n 2, 1) := by decide +kernel
theorem dX9_colour_15 : decode cX9_colour 15 = .ok (.invokevirtual 96, 3) := by decide +kernel
theorem dX9_colour_18 : decode cX9_colour 18 = .ok (.ifCond .eq 13, 3) := by decide +kernel
theorem dX9_colour_21 : decode cX9_colour 21 = .ok (.iload_n 3, 1) := by decide +kernel
theorem dX9_colour_22 : decode cX9_colour 22 = .ok (.ifCond .lt 9, 3) := by decide +kernel
theorem dX9_colour_25 : decode cX9_colour 25 = .ok (.iload_n 3, 1) := by decide +kernel
theorem dX9_colour_26 : decode cX9_colour 26 = .ok (.ldc 101, 2) := by decide +kernel
theorem dX9_colour_28 : decode cX9_colour 28 = .ok (.if_icmp .le 5, 3) := by decide +kernel
theorem dX9_colour_31 : decode cX9_colour 31 = .ok (.iconst 0, 1) := by decide +kernel
theorem dX9_colour_32 : decode cX9_colour 32 = .ok (.ireturn, 1) := by decide +kernel
theorem dX9_colour_33 : decode cX9_colour 33 = .ok (.aload 4, 2) := by decide +kernel
theorem dX9_colour_35 : decode cX9_colour 35 = .ok (.getfield 102, 3) := by decide +kernel
theorem dX9_colour_38 : decode cX9_colour 38 = .ok (.iload_n 2, 1) := by decide +kernel
theorem dX9_colour_39 : decode cX9_colour 39 = .ok (.iload_n 3, 1) := by decide +kernel
theorem dX9_colour_40 : decode cX9_colour 40 = .ok (.iastore, 1) := by decide +kernel
theorem dX9_colour_41 : decode cX9_colour 41 = .ok (.iconst 1, 1) := by decide +kernel
theorem dX9_colour_42 : decode cX9_colour 42 = .ok (.ireturn, 1) := by decide +kernel
theorem dX9_frame_0 : decode cX9_frame 0 = .ok (.aload_n 0, 1) := by decide +kernel
theorem dX9_frame_1 : decode cX9_frame 1 = .ok (.getfield 32, 3) := by decide +kernel
theorem dX9_frame_4 : decode cX9_frame 4 = .ok (.invokevirtual 106, 3) := by decide +kernel
theorem dX9_frame_7 : decode cX9_frame 7 = .ok (.ifCond .eq 38, 3) := by decide +kernel
theorem dX9_frame_10 : decode cX9_frame 10 = .ok (.aload_n 0, 1) := by decide +kernel
theorem dX9_frame_11 : decode cX9_frame 11 = .ok (.getfield 32, 3) := by decide +kernel
theorem dX9_frame_14 : decode cX9_frame 14 = .ok (.iload_n 1, 1) := by decide +kernel
theorem dX9_frame_15 : decode cX9_frame 15 = .ok (.iload_n 2, 1) := by decide +kernel
theorem dX9_frame_16 : decode cX9_frame 16 = .ok (.iload_n 3, 1) := by decide +kernel
theorem dX9_frame_17 : decode cX9_frame 17 = .ok (.iload 4, 2) := by decide +kernel
theorem dX9_frame_19 : decode cX9_frame 19 = .ok (.invokevirtual 110, 3) := by decide +kernel
theorem dX9_frame_22 : decode cX9_frame 22 = .ok (.ifCond .eq 23, 3) := by decide +kernel
theorem dX9_frame_25 : decode cX9_frame 25 = .ok (.iload 5, 2) := by decide +kernel
theorem dX9_frame_27 : decode cX9_frame 27 = .ok (.invokestatic 82, 3) := by decide +kernel
theorem dX9_frame_30 : decode cX9_frame 30 = .ok (.ifCond .eq 15, 3) := by decide +kernel
theorem dX9_frame_33 : decode cX9_frame 33 = .ok (.aload_n 0, 1) := by decide +kernel
theorem dX9_frame_34 : decode cX9_frame 34 = .ok (.getfield 32, 3) := by decide +kernel
theorem dX9_frame_37 : decode cX9_frame 37 = .ok (.iload 5, 2) := by decide +kernel
theorem dX9_frame_39 : decode cX9_frame 39 = .ok (.invokevirtual 114, 3) := by decide +kernel
theorem dX9_frame_42 : decode cX9_frame 42 = .ok (.ifCond .ne 5, 3) := by decide +kernel
theorem dX9_frame_45 : decode cX9_frame 45 = .ok (.iconst (-1), 1) := by decide +kernel
theorem dX9_frame_46 : decode cX9_frame 46 = .ok (.ireturn, 1) := by decide +kernel
theorem dX9_frame_47 : decode cX9_frame 47 = .ok (.aload_n 0, 1) := by decide +kernel
theorem dX9_frame_48 : decode cX9_frame 48 = .ok (.getfield 32, 3) := by decide +kernel
theorem dX9_frame_51 : decode cX9_frame 51 = .ok (.iload_n 1, 1) := by decide +kernel
theorem dX9_frame_52 : decode cX9_frame 52 = .ok (.iload_n 2, 1) := by decide +kernel
theorem dX9_frame_53 : decode cX9_frame 53 = .ok (.iload_n 3, 1) := by decide +kernel
theorem dX9_frame_54 : decode cX9_frame 54 = .ok (.iload 4, 2) := by decide +kernel
theorem dX9_frame_56 : decode cX9_frame 56 = .ok (.iload 5, 2) := by decide +kernel
theorem dX9_frame_58 : decode cX9_frame 58 = .ok (.iload 6, 2) := by decide +kernel
theorem dX9_frame_60 : decode cX9_frame 60 = .ok (.invokevirtual 117, 3) := by decide +kernel
theorem dX9_frame_63 : decode cX9_frame 63 = .ok (.pop, 1) := by decide +kernel
theorem dX9_frame_64 : decode cX9_frame 64 = .ok (.aload_n 0, 1) := by decide +kernel
theorem dX9_frame_65 : decode cX9_frame 65 = .ok (.getfield 32, 3) := by decide +kernel
theorem dX9_frame_68 : decode cX9_frame 68 = .ok (.getfield 72, 3) := by decide +kernel
theorem dX9_frame_71 : decode cX9_frame 71 = .ok (.iconst 1, 1) := by decide +kernel
theorem dX9_frame_72 : decode cX9_frame 72 = .ok (.isub, 1) := by decide +kernel
theorem dX9_frame_73 : decode cX9_frame 73 = .ok (.ireturn, 1) := by decide +kernel
theorem dX9_control_0 : decode cX9_control 0 = .ok (.aload_n 0, 1) := by decide +kernel
theorem dX9_control_1 : decode cX9_control 1 = .ok (.getfield 32, 3) := by decide +kernel
theorem dX9_control_4 : decode cX9_control 4 = .ok (.iload_n 1, 1) := by decide +kernel
theorem dX9_control_5 : decode cX9_control 5 = .ok (.invokevirtual 121, 3) := by decide +kernel
theorem dX9_control_8 : decode cX9_control 8 = .ok (.astore 6, 2) := by decide +kernel
theorem dX9_control_10 : decode cX9_control 10 = .ok (.aload 6, 2) := by decide +kernel
theorem dX9_control_12 : decode cX9_control 12 = .ok (.ifnull 25, 3) := by decide +kernel
theorem dX9_control_15 : decode cX9_control 15 = .ok (.iload_n 2, 1) := by decide +kernel
theorem dX9_control_16 : decode cX9_control 16 = .ok (.ifCond .lt 21, 3) := by decide +kernel
theorem dX9_control_19 : decode cX9_control 19 = .ok (.iload_n 2, 1) := by decide +kernel
theorem dX9_control_20 : decode cX9_control 20 = .ok (.bipush 7, 2) := by decide +kernel
theorem dX9_control_22 : decode cX9_control 22 = .ok (.if_icmp .gt 15, 3) := by decide +kernel
theorem dX9_control_25 : decode cX9_control 25 = .ok (.iload 4, 2) := by decide +kernel
theorem dX9_control_27 : decode cX9_control 27 = .ok (.ifCond .lt 10, 3) := by decide +kernel
theorem dX9_control_30 : decode cX9_control 30 = .ok (.iload 4, 2) := by decide +kernel
theorem dX9_control_32 : decode cX9_control 32 = .ok (.ldc 125, 2) := by decide +kernel
theorem dX9_control_34 : decode cX9_control 34 = .ok (.if_icmp .le 5, 3) := by decide +kernel
theorem dX9_control_37 : decode cX9_control 37 = .ok (.iconst 0, 1) := by decide +kernel
theorem dX9_control_38 : decode cX9_control 38 = .ok (.ireturn, 1) := by decide +kernel
theorem dX9_control_39 : decode cX9_control 39 = .ok (.iload_n 3, 1) := by decide +kernel
theorem dX9_control_40 : decode cX9_control 40 = .ok (.iconst (-1), 1) := by decide +kernel
theorem dX9_control_41 : decode cX9_control 41 = .ok (.if_icmp .eq 12, 3) := by decide +kernel
theorem dX9_control_44 : decode cX9_control 44 = .ok (.iload_n 3, 1) := by decide +kernel
theorem dX9_control_45 : decode cX9_control 45 = .ok (.invokestatic 85, 3) := by decide +kernel
theorem dX9_control_48 : decode cX9_control 48 = .ok (.ifCond .ne 5, 3) := by decide +kernel
theorem dX9_control_51 : decode cX9_control 51 = .ok (.iconst 0, 1) := by decide +kernel
theorem dX9_control_52 : decode cX9_control 52 = .ok (.ireturn, 1) := by decide +kernel
theorem dX9_control_53 : decode cX9_control 53 = .ok (.aload 6, 2) := by decide +kernel
theorem dX9_control_55 : decode cX9_control 55 = .ok (.getfield 126, 3) := by decide +kernel
theorem dX9_control_58 : decode cX9_control 58 = .ok (.iload_n 2, 1) := by decide +kernel
theorem dX9_control_59 : decode cX9_control 59 = .ok (.iload_n 3, 1) := by decide +kernel
theorem dX9_control_60 : decode cX9_control 60 = .ok (.iload 4, 2) := by decide +kernel
theorem dX9_control_62 : decode cX9_control 62 = .ok (.iload 5, 2) := by decide +kernel
theorem dX9_control_64 : decode cX9_control 64 = .ok (.invokevirtual 132, 3) := by decide +kernel
theorem dX9_control_67 : decode cX9_control 67 = .ok (.iconst 1, 1) := by decide +kernel
theorem dX9_control_68 : decode cX9_control 68 = .ok (.ireturn, 1) := by decide +kernel
theorem dX9_paint_0 : decode cX9_paint 0 = .ok (.aload_n 0, 1) := by decide +kernel
theorem dX9_paint_1 : decode cX9_paint 1 = .ok (.getfield 32, 3) := by decide +kernel
theorem dX9_paint_4 : decode cX9_paint 4 = .ok (.iload_n 1, 1) := by decide +kernel
theorem dX9_paint_5 : decode cX9_paint 5 = .ok (.invokevirtual 121, 3) := by decide +kernel
theorem dX9_paint_8 : decode cX9_paint 8 = .ok (.astore 5, 2) := by decide +kernel
theorem dX9_paint_10 : decode cX9_paint 10 = .ok (.aload 5, 2) := by decide +kernel
theorem dX9_paint_12 : decode cX9_paint 12 = .ok (.ifnull 31, 3) := by decide +kernel
theorem dX9_paint_15 : decode cX9_paint 15 = .ok (.iload_n 2, 1) := by decide +kernel
theorem dX9_paint_16 : decode cX9_paint 16 = .ok (.ifCond .lt 27, 3) := by decide +kernel
theorem dX9_paint_19 : decode cX9_paint 19 = .ok (.iload_n 3, 1) := by decide +kernel
theorem dX9_paint_20 : decode cX9_paint 20 = .ok (.ifCond .lt 23, 3) := by decide +kernel
theorem dX9_paint_23 : decode cX9_paint 23 = .ok (.iload_n 2, 1) := by decide +kernel
theorem dX9_paint_24 : decode cX9_paint 24 = .ok (.aload 5, 2) := by decide +kernel
theorem dX9_paint_26 : decode cX9_paint 26 = .ok (.invokevirtual 138, 3) := by decide +kernel
theorem dX9_paint_29 : decode cX9_paint 29 = .ok (.if_icmp .gt 14, 3) := by decide +kernel
theorem dX9_paint_32 : decode cX9_paint 32 = .ok (.iload_n 3, 1) := by decide +kernel
theorem dX9_paint_33 : decode cX9_paint 33 = .ok (.aload 5, 2) := by decide +kernel
theorem dX9_paint_35 : decode cX9_paint 35 = .ok (.invokevirtual 138, 3) := by decide +kernel
theorem dX9_paint_38 : decode cX9_paint 38 = .ok (.iload_n 2, 1) := by decide +kernel
theorem dX9_paint_39 : decode cX9_paint 39 = .ok (.isub, 1) := by decide +kernel
theorem dX9_paint_40 : decode cX9_paint 40 = .ok (.if_icmp .le 5, 3) := by decide +kernel
theorem dX9_paint_43 : decode cX9_paint 43 = .ok (.iconst 0, 1) := by decide +kernel
theorem dX9_paint_44 : decode cX9_paint 44 = .ok (.ireturn, 1) := by decide +kernel
theorem dX9_paint_45 : decode cX9_paint 45 = .ok (.aload_n 0, 1) := by decide +kernel
theorem dX9_paint_46 : decode cX9_paint 46 = .ok (.getfield 32, 3) := by decide +kernel
theorem dX9_paint_49 : decode cX9_paint 49 = .ok (.aload 5, 2) := by decide +kernel
theorem dX9_paint_51 : decode cX9_paint 51 = .ok (.invokevirtual 141, 3) := by decide +kernel
theorem dX9_paint_54 : decode cX9_paint 54 = .ok (.iload 4, 2) := by decide +kernel
theorem dX9_paint_56 : decode cX9_paint 56 = .ok (.invokevirtual 96, 3) := by decide +kernel
theorem dX9_paint_59 : decode cX9_paint 59 = .ok (.ifCond .ne 5, 3) := by decide +kernel
theorem dX9_paint_62 : decode cX9_paint 62 = .ok (.iconst 0, 1) := by decide +kernel
theorem dX9_paint_63 : decode cX9_paint 63 = .ok (.ireturn, 1) := by decide +kernel
theorem dX9_paint_64 : decode cX9_paint 64 = .ok (.aload 5, 2) := by decide +kernel
theorem dX9_paint_66 : decode cX9_paint 66 = .ok (.iload_n 2, 1) := by decide +kernel
theorem dX9_paint_67 : decode cX9_paint 67 = .ok (.iload_n 2, 1) := by decide +kernel
theorem dX9_paint_68 : decode cX9_paint 68 = .ok (.iload_n 3, 1) := by decide +kernel
theorem dX9_paint_69 : decode cX9_paint 69 = .ok (.iadd, 1) := by decide +kernel
theorem dX9_paint_70 : decode cX9_paint 70 = .ok (.iload 4, 2) := by decide +kernel
theorem dX9_paint_72 : decode cX9_paint 72 = .ok (.invokevirtual 145, 3) := by decide +kernel
theorem dX9_paint_75 : decode cX9_paint 75 = .ok (.iconst 1, 1) := by decide +kernel
theorem dX9_paint_76 : decode cX9_paint 76 = .ok (.ireturn, 1) := by decide +kernel
theorem dX9_write_0 : decode cX9_write 0 = .ok (.aload_n 0, 1) := by decide +kernel
theorem dX9_write_1 : decode cX9_write 1 = .ok (.getfield 39, 3) := by decide +kernel
theorem dX9_write_4 : decode cX9_write 4 = .ok (.aload_n 0, 1) := by decide +kernel
theorem dX9_write_5 : decode cX9_write 5 = .ok (.getfield 32, 3) := by decide +kernel
theorem dX9_write_8 : decode cX9_write 8 = .ok (.invokevirtual 149, 3) := by decide +kernel
theorem dX9_write_11 : decode cX9_write 11 = .ok (.ifCond .ne 5, 3) := by decide +kernel
theorem dX9_write_14 : decode cX9_write 14 = .ok (.iconst (-1), 1) := by decide +kernel
theorem dX9_write_15 : decode cX9_write 15 = .ok (.ireturn, 1) := by decide +kernel
theorem dX9_write_16 : decode cX9_write 16 = .ok (.aload_n 0, 1) := by decide +kernel
theorem dX9_write_17 : decode cX9_write 17 = .ok (.aload_n 0, 1) := by decide +kernel
theorem dX9_write_18 : decode cX9_write 18 = .ok (.getfield 39, 3) := by decide +kernel
theorem dX9_write_21 : decode cX9_write 21 = .ok (.aload_n 0, 1) := by decide +kernel
theorem dX9_write_22 : decode cX9_write 22 = .ok (.getfield 26, 3) := by decide +kernel
theorem dX9_write_25 : decode cX9_write 25 = .ok (.invokevirtual 153, 3) := by decide +kernel
theorem dX9_write_28 : decode cX9_write 28 = .ok (.putfield 26, 3) := by decide +kernel
theorem dX9_write_31 : decode cX9_write 31 = .ok (.aload_n 0, 1) := by decide +kernel
theorem dX9_write_32 : decode cX9_write 32 = .ok (.getfield 26, 3) := by decide +kernel
theorem dX9_write_35 : decode cX9_write 35 = .ok (.getfield 47, 3) := by decide +kernel
theorem dX9_write_38 : decode cX9_write 38 = .ok (.ireturn, 1) := by decide +kernel
theorem dX9_out_0 : decode cX9_out 0 = .ok (.aload_n 0, 1) := by decide +kernel
theorem dX9_out_1 : decode cX9_out 1 = .ok (.getfield 26, 3) := by decide +kernel
theorem dX9_out_4 : decode cX9_out 4 = .ok (.iload_n 1, 1) := by decide +kernel
theorem dX9_out_5 : decode cX9_out 5 = .ok (.invokevirtual 156, 3) := by decide +kernel
theorem dX9_out_8 : decode cX9_out 8 = .ok (.ireturn, 1) := by decide +kernel
theorem dX9_about_0 : decode cX9_about 0 = .ok (.iload_n 1, 1) := by decide +kernel
theorem dX9_about_1 : decode cX9_about 1 = .ok (.tableswitch 114 0 7 #[47, 55, 63, 74, 82, 90, 98, 106], 47) := by decide +kernel
theorem dX9_about_48 : decode cX9_about 48 = .ok (.aload_n 0, 1) := by decide +kernel
theorem dX9_about_49 : decode cX9_about 49 = .ok (.getfield 32, 3) := by decide +kernel
theorem dX9_about_52 : decode cX9_about 52 = .ok (.getfield 160, 3) := by decide +kernel
theorem dX9_about_55 : decode cX9_about 55 = .ok (.ireturn, 1) := by decide +kernel
theorem dX9_about_56 : decode cX9_about 56 = .ok (.aload_n 0, 1) := by decide +kernel
theorem dX9_about_57 : decode cX9_about 57 = .ok (.getfield 32, 3) := by decide +kernel
theorem dX9_about_60 : decode cX9_about 60 = .ok (.getfield 163, 3) := by decide +kernel
theorem dX9_about_63 : decode cX9_about 63 = .ok (.ireturn, 1) := by decide +kernel
theorem dX9_about_64 : decode cX9_about 64 = .ok (.aload_n 0, 1) := by decide +kernel
theorem dX9_about_65 : decode cX9_about 65 = .ok (.getfield 32, 3) := by decide +kernel
theorem dX9_about_68 : decode cX9_about 68 = .ok (.getfield 166, 3) := by decide +kernel
theorem dX9_about_71 : decode cX9_about 71 = .ok (.getfield 170, 3) := by decide +kernel
theorem dX9_about_74 : decode cX9_about 74 = .ok (.ireturn, 1) := by decide +kernel
theorem dX9_about_75 : decode cX9_about 75 = .ok (.aload_n 0, 1) := by decide +kernel
theorem dX9_about_76 : decode cX9_about 76 = .ok (.getfield 32, 3) := by decide +kernel
theorem dX9_about_79 : decode cX9_about 79 = .ok (.getfield 171, 3) := by decide +kernel
theorem dX9_about_82 : decode cX9_about 82 = .ok (.ireturn, 1) := by decide +kernel
theorem dX9_about_83 : decode cX9_about 83 = .ok (.aload_n 0, 1) := by decide +kernel
theorem dX9_about_84 : decode cX9_about 84 = .ok (.getfield 32, 3) := by decide +kernel
theorem dX9_about_87 : decode cX9_about 87 = .ok (.getfield 174, 3) := by decide +kernel
theorem dX9_about_90 : decode cX9_about 90 = .ok (.ireturn, 1) := by decide +kernel
theorem dX9_about_91 : decode cX9_about 91 = .ok (.aload_n 0, 1) := by decide +kernel
theorem dX9_about_92 : decode cX9_about 92 = .ok (.getfield 32, 3) := by decide +kernel
theorem dX9_about_95 : decode cX9_about 95 = .ok (.getfield 72, 3) := by decide +kernel
theorem dX9_about_98 : decode cX9_about 98 = .ok (.ireturn, 1) := by decide +kernel
theorem dX9_about_99 : decode cX9_about 99 = .ok (.aload_n 0, 1) := by decide +kernel
theorem dX9_about_100 : decode cX9_about 100 = .ok (.getfield 20, 3) := by decide +kernel
theorem dX9_about_103 : decode cX9_about 103 = .ok (.getfield 47, 3) := by decide +kernel
theorem dX9_about_106 : decode cX9_about 106 = .ok (.ireturn, 1) := by decide +kernel
theorem dX9_about_107 : decode cX9_about 107 = .ok (.aload_n 0, 1) := by decide +kernel
theorem dX9_about_108 : decode cX9_about 108 = .ok (.getfield 26, 3) := by decide +kernel
theorem dX9_about_111 : decode cX9_about 111 = .ok (.getfield 47, 3) := by decide +kernel
theorem dX9_about_114 : decode cX9_about 114 = .ok (.ireturn, 1) := by decide +kernel
theorem dX9_about_115 : decode cX9_about 115 = .ok (.iconst (-1), 1) := by decide +kernel
theorem dX9_about_116 : decode cX9_about 116 = .ok (.ireturn, 1) := by decide +kernel
theorem dX9_frameOf_0 : decode cX9_frameOf 0 = .ok (.aload_n 0, 1) := by decide +kernel
theorem dX9_frameOf_1 : decode cX9_frameOf 1 = .ok (.getfield 32, 3) := by decide +kernel
theorem dX9_frameOf_4 : decode cX9_frameOf 4 = .ok (.iload_n 1, 1) := by decide +kernel
theorem dX9_frameOf_5 : decode cX9_frameOf 5 = .ok (.invokevirtual 121, 3) := by decide +kernel
theorem dX9_frameOf_8 : decode cX9_frameOf 8 = .ok (.astore_n 3, 1) := by decide +kernel
theorem dX9_frameOf_9 : decode cX9_frameOf 9 = .ok (.aload_n 3, 1) := by decide +kernel
theorem dX9_frameOf_10 : decode cX9_frameOf 10 = .ok (.ifnonnull 5, 3) := by decide +kernel
theorem dX9_frameOf_13 : decode cX9_frameOf 13 = .ok (.iconst (-1), 1) := by decide +kernel
theorem dX9_frameOf_14 : decode cX9_frameOf 14 = .ok (.ireturn, 1) := by decide +kernel
theorem dX9_frameOf_15 : decode cX9_frameOf 15 = .ok (.iload_n 2, 1) := by decide +kernel
theorem dX9_frameOf_16 : decode cX9_frameOf 16 = .ok (.tableswitch 137 0 9 #[56, 61, 66, 71, 76, 84, 97, 105, 113, 121], 56) := by decide +kernel
theorem dX9_frameOf_72 : decode cX9_frameOf 72 = .ok (.aload_n 3, 1) := by decide +kernel
theorem dX9_frameOf_73 : decode cX9_frameOf 73 = .ok (.getfield 177, 3) := by decide +kernel
theorem dX9_frameOf_76 : decode cX9_frameOf 76 = .ok (.ireturn, 1) := by decide +kernel
theorem dX9_frameOf_77 : decode cX9_frameOf 77 = .ok (.aload_n 3, 1) := by decide +kernel
theorem dX9_frameOf_78 : decode cX9_frameOf 78 = .ok (.getfield 180, 3) := by decide +kernel
theorem dX9_frameOf_81 : decode cX9_frameOf 81 = .ok (.ireturn, 1) := by decide +kernel
theorem dX9_frameOf_82 : decode cX9_frameOf 82 = .ok (.aload_n 3, 1) := by decide +kernel
theorem dX9_frameOf_83 : decode cX9_frameOf 83 = .ok (.getfield 183, 3) := by decide +kernel
theorem dX9_frameOf_86 : decode cX9_frameOf 86 = .ok (.ireturn, 1) := by decide +kernel
theorem dX9_frameOf_87 : decode cX9_frameOf 87 = .ok (.aload_n 3, 1) := by decide +kernel
theorem dX9_frameOf_88 : decode cX9_frameOf 88 = .ok (.getfield 184, 3) := by decide +kernel
theorem dX9_frameOf_91 : decode cX9_frameOf 91 = .ok (.ireturn, 1) := by decide +kernel
theorem dX9_frameOf_92 : decode cX9_frameOf 92 = .ok (.aload_n 3, 1) := by decide +kernel
theorem dX9_frameOf_93 : decode cX9_frameOf 93 = .ok (.getfield 185, 3) := by decide +kernel
theorem dX9_frameOf_96 : decode cX9_frameOf 96 = .ok (.getfield 170, 3) := by decide +kernel
theorem dX9_frameOf_99 : decode cX9_frameOf 99 = .ok (.ireturn, 1) := by decide +kernel
theorem dX9_frameOf_100 : decode cX9_frameOf 100 = .ok (.aload_n 3, 1) := by decide +kernel
theorem dX9_frameOf_101 : decode cX9_frameOf 101 = .ok (.getfield 188, 3) := by decide +kernel
theorem dX9_frameOf_104 : decode cX9_frameOf 104 = .ok (.ifCond .eq 7, 3) := by decide +kernel
theorem dX9_frameOf_107 : decode cX9_frameOf 107 = .ok (.iconst 1, 1) := by decide +kernel
theorem dX9_frameOf_108 : decode cX9_frameOf 108 = .ok (.goto 4, 3) := by decide +kernel
theorem dX9_frameOf_111 : decode cX9_frameOf 111 = .ok (.iconst 0, 1) := by decide +kernel
theorem dX9_frameOf_112 : decode cX9_frameOf 112 = .ok (.ireturn, 1) := by decide +kernel
theorem dX9_frameOf_113 : decode cX9_frameOf 113 = .ok (.aload_n 3, 1) := by decide +kernel
theorem dX9_frameOf_114 : decode cX9_frameOf 114 = .ok (.getfield 126, 3) := by decide +kernel
theorem dX9_frameOf_117 : decode cX9_frameOf 117 = .ok (.getfield 191, 3) := by decide +kernel
theorem dX9_frameOf_120 : decode cX9_frameOf 120 = .ok (.ireturn, 1) := by decide +kernel
theorem dX9_frameOf_121 : decode cX9_frameOf 121 = .ok (.aload_n 3, 1) := by decide +kernel
theorem dX9_frameOf_122 : decode cX9_frameOf 122 = .ok (.getfield 126, 3) := by decide +kernel
theorem dX9_frameOf_125 : decode cX9_frameOf 125 = .ok (.getfield 194, 3) := by decide +kernel
theorem dX9_frameOf_128 : decode cX9_frameOf 128 = .ok (.ireturn, 1) := by decide +kernel
theorem dX9_frameOf_129 : decode cX9_frameOf 129 = .ok (.aload_n 3, 1) := by decide +kernel
theorem dX9_frameOf_130 : decode cX9_frameOf 130 = .ok (.getfield 126, 3) := by decide +kernel
theorem dX9_frameOf_133 : decode cX9_frameOf 133 = .ok (.getfield 197, 3) := by decide +kernel
theorem dX9_frameOf_136 : decode cX9_frameOf 136 = .ok (.ireturn, 1) := by decide +kernel
theorem dX9_frameOf_137 : decode cX9_frameOf 137 = .ok (.aload_n 3, 1) := by decide +kernel
theorem dX9_frameOf_138 : decode cX9_frameOf 138 = .ok (.getfield 126, 3) := by decide +kernel
theorem dX9_frameOf_141 : decode cX9_frameOf 141 = .ok (.getfield 200, 3) := by decide +kernel
theorem dX9_frameOf_144 : decode cX9_frameOf 144 = .ok (.ifCond .eq 7, 3) := by decide +kernel
theorem dX9_frameOf_147 : decode cX9_frameOf 147 = .ok (.iconst 1, 1) := by decide +kernel
theorem dX9_frameOf_148 : decode cX9_frameOf 148 = .ok (.goto 4, 3) := by decide +kernel
theorem dX9_frameOf_151 : decode cX9_frameOf 151 = .ok (.iconst 0, 1) := by decide +kernel
theorem dX9_frameOf_152 : decode cX9_frameOf 152 = .ok (.ireturn, 1) := by decide +kernel
theorem dX9_frameOf_153 : decode cX9_frameOf 153 = .ok (.iconst (-1), 1) := by decide +kernel
theorem dX9_frameOf_154 : decode cX9_frameOf 154 = .ok (.ireturn, 1) := by decide +kernel
theorem dX9_colourOf_0 : decode cX9_colourOf 0 = .ok (.aload_n 0, 1) := by decide +kernel
theorem dX9_colourOf_1 : decode cX9_colourOf 1 = .ok (.iload_n 1, 1) := by decide +kernel
theorem dX9_colourOf_2 : decode cX9_colourOf 2 = .ok (.invokevirtual 92, 3) := by decide +kernel
theorem dX9_colourOf_5 : decode cX9_colourOf 5 = .ok (.astore_n 3, 1) := by decide +kernel
theorem dX9_colourOf_6 : decode cX9_colourOf 6 = .ok (.aload_n 3, 1) := by decide +kernel
theorem dX9_colourOf_7 : decode cX9_colourOf 7 = .ok (.ifnull 11, 3) := by decide +kernel
theorem dX9_colourOf_10 : decode cX9_colourOf 10 = .ok (.aload_n 3, 1) := by decide +kernel
theorem dX9_colourOf_11 : decode cX9_colourOf 11 = .ok (.iload_n 2, 1) := by decide +kernel
theorem dX9_colourOf_12 : decode cX9_colourOf 12 = .ok (.invokevirtual 96, 3) := by decide +kernel
theorem dX9_colourOf_15 : decode cX9_colourOf 15 = .ok (.ifCond .ne 5, 3) := by decide +kernel
theorem dX9_colourOf_18 : decode cX9_colourOf 18 = .ok (.iconst (-1), 1) := by decide +kernel
