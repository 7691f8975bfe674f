theorem dX10_isSign_0 : decode cX10_isSign 0 = .ok (.iload_n 1, 1) := by decide +kernel
theorem dX10_isSign_1 : decode cX10_isSign 1 = .ok (.i2l, 1) := by decide +kernel
theorem dX10_isSign_2 : decode cX10_isSign 2 = .ok (.lconst 0, 1) := by decide +kernel
theorem dX10_isSign_3 : decode cX10_isSign 3 = .ok (.aload_n 0, 1) := by decide +kernel
theorem dX10_isSign_4 : decode cX10_isSign 4 = .ok (.getfield 13, 3) := by decide +kernel
theorem dX10_isSign_7 : decode cX10_isSign 7 = .ok (.sipush 164, 3) := by decide +kernel
theorem dX10_isSign_10 : decode cX10_isSign 10 = .ok (.iaload, 1) := by decide +kernel
theorem dX10_isSign_11 : decode cX10_isSign 11 = .ok (.iconst 1, 1) := by decide +kernel
theorem dX10_isSign_12 : decode cX10_isSign 12 = .ok (.isub, 1) := by decide +kernel
theorem dX10_isSign_13 : decode cX10_isSign 13 = .ok (.i2l, 1) := by decide +kernel
theorem dX10_isSign_14 : decode cX10_isSign 14 = .ok (.invokestatic 75, 3) := by decide +kernel
theorem dX10_isSign_17 : decode cX10_isSign 17 = .ok (.ireturn, 1) := by decide +kernel
theorem dX10_isWord_0 : decode cX10_isWord 0 = .ok (.iload_n 1, 1) := by decide +kernel
theorem dX10_isWord_1 : decode cX10_isWord 1 = .ok (.i2l, 1) := by decide +kernel
theorem dX10_isWord_2 : decode cX10_isWord 2 = .ok (.lconst 0, 1) := by decide +kernel
theorem dX10_isWord_3 : decode cX10_isWord 3 = .ok (.aload_n 0, 1) := by decide +kernel
theorem dX10_isWord_4 : decode cX10_isWord 4 = .ok (.getfield 13, 3) := by decide +kernel
theorem dX10_isWord_7 : decode cX10_isWord 7 = .ok (.sipush 165, 3) := by decide +kernel
theorem dX10_isWord_10 : decode cX10_isWord 10 = .ok (.iaload, 1) := by decide +kernel
theorem dX10_isWord_11 : decode cX10_isWord 11 = .ok (.iconst 1, 1) := by decide +kernel
theorem dX10_isWord_12 : decode cX10_isWord 12 = .ok (.isub, 1) := by decide +kernel
theorem dX10_isWord_13 : decode cX10_isWord 13 = .ok (.i2l, 1) := by decide +kernel
theorem dX10_isWord_14 : decode cX10_isWord 14 = .ok (.invokestatic 75, 3) := by decide +kernel
theorem dX10_isWord_17 : decode cX10_isWord 17 = .ok (.ireturn, 1) := by decide +kernel
theorem dX10_isStruck_0 : decode cX10_isStruck 0 = .ok (.aload_n 0, 1) := by decide +kernel
theorem dX10_isStruck_1 : decode cX10_isStruck 1 = .ok (.getfield 19, 3) := by decide +kernel
theorem dX10_isStruck_4 : decode cX10_isStruck 4 = .ok (.iconst 1, 1) := by decide +kernel
theorem dX10_isStruck_5 : decode cX10_isStruck 5 = .ok (.iaload, 1) := by decide +kernel
theorem dX10_isStruck_6 : decode cX10_isStruck 6 = .ok (.iload_n 1, 1) := by decide +kernel
theorem dX10_isStruck_7 : decode cX10_isStruck 7 = .ok (.ishr, 1) := by decide +kernel
theorem dX10_isStruck_8 : decode cX10_isStruck 8 = .ok (.iconst 1, 1) := by decide +kernel
theorem dX10_isStruck_9 : decode cX10_isStruck 9 = .ok (.iand, 1) := by decide +kernel
theorem dX10_isStruck_10 : decode cX10_isStruck 10 = .ok (.iconst 1, 1) := by decide +kernel
theorem dX10_isStruck_11 : decode cX10_isStruck 11 = .ok (.if_icmp .ne 7, 3) := by decide +kernel
theorem dX10_isStruck_14 : decode cX10_isStruck 14 = .ok (.iconst 1, 1) := by decide +kernel
theorem dX10_isStruck_15 : decode cX10_isStruck 15 = .ok (.goto 4, 3) := by decide +kernel
theorem dX10_isStruck_18 : decode cX10_isStruck 18 = .ok (.iconst 0, 1) := by decide +kernel
theorem dX10_isStruck_19 : decode cX10_isStruck 19 = .ok (.ireturn, 1) := by decide +kernel
theorem dX10_bits_0 : decode cX10_bits 0 = .ok (.iconst 0, 1) := by decide +kernel
theorem dX10_bits_1 : decode cX10_bits 1 = .ok (.istore_n 1, 1) := by decide +kernel
theorem dX10_bits_2 : decode cX10_bits 2 = .ok (.iconst 0, 1) := by decide +kernel
theorem dX10_bits_3 : decode cX10_bits 3 = .ok (.istore_n 2, 1) := by decide +kernel
theorem dX10_bits_4 : decode cX10_bits 4 = .ok (.iload_n 2, 1) := by decide +kernel
theorem dX10_bits_5 : decode cX10_bits 5 = .ok (.bipush 16, 2) := by decide +kernel
theorem dX10_bits_7 : decode cX10_bits 7 = .ok (.if_icmp .ge 17, 3) := by decide +kernel
theorem dX10_bits_10 : decode cX10_bits 10 = .ok (.iload_n 1, 1) := by decide +kernel
theorem dX10_bits_11 : decode cX10_bits 11 = .ok (.iload_n 0, 1) := by decide +kernel
theorem dX10_bits_12 : decode cX10_bits 12 = .ok (.iload_n 2, 1) := by decide +kernel
theorem dX10_bits_13 : decode cX10_bits 13 = .ok (.ishr, 1) := by decide +kernel
theorem dX10_bits_14 : decode cX10_bits 14 = .ok (.iconst 1, 1) := by decide +kernel
theorem dX10_bits_15 : decode cX10_bits 15 = .ok (.iand, 1) := by decide +kernel
theorem dX10_bits_16 : decode cX10_bits 16 = .ok (.iadd, 1) := by decide +kernel
theorem dX10_bits_17 : decode cX10_bits 17 = .ok (.istore_n 1, 1) := by decide +kernel
theorem dX10_bits_18 : decode cX10_bits 18 = .ok (.iinc 2 1, 3) := by decide +kernel
theorem dX10_bits_21 : decode cX10_bits 21 = .ok (.goto (-17), 3) := by decide +kernel
theorem dX10_bits_24 : decode cX10_bits 24 = .ok (.iload_n 1, 1) := by decide +kernel
theorem dX10_bits_25 : decode cX10_bits 25 = .ok (.ireturn, 1) := by decide +kernel
theorem dX10_strike_0 : decode cX10_strike 0 = .ok (.aload_n 0, 1) := by decide +kernel
theorem dX10_strike_1 : decode cX10_strike 1 = .ok (.iload_n 1, 1) := by decide +kernel
theorem dX10_strike_2 : decode cX10_strike 2 = .ok (.invokevirtual 118, 3) := by decide +kernel
theorem dX10_strike_5 : decode cX10_strike 5 = .ok (.ifCond .eq 13, 3) := by decide +kernel
theorem dX10_strike_8 : decode cX10_strike 8 = .ok (.iload_n 2, 1) := by decide +kernel
theorem dX10_strike_9 : decode cX10_strike 9 = .ok (.i2l, 1) := by decide +kernel
theorem dX10_strike_10 : decode cX10_strike 10 = .ok (.lconst 0, 1) := by decide +kernel
theorem dX10_strike_11 : decode cX10_strike 11 = .ok (.lconst 1, 1) := by decide +kernel
theorem dX10_strike_12 : decode cX10_strike 12 = .ok (.invokestatic 75, 3) := by decide +kernel
theorem dX10_strike_15 : decode cX10_strike 15 = .ok (.ifCond .ne 5, 3) := by decide +kernel
theorem dX10_strike_18 : decode cX10_strike 18 = .ok (.iconst (-1), 1) := by decide +kernel
theorem dX10_strike_19 : decode cX10_strike 19 = .ok (.ireturn, 1) := by decide +kernel
theorem dX10_strike_20 : decode cX10_strike 20 = .ok (.aload_n 0, 1) := by decide +kernel
theorem dX10_strike_21 : decode cX10_strike 21 = .ok (.iload_n 1, 1) := by decide +kernel
theorem dX10_strike_22 : decode cX10_strike 22 = .ok (.invokevirtual 121, 3) := by decide +kernel
theorem dX10_strike_25 : decode cX10_strike 25 = .ok (.iload_n 2, 1) := by decide +kernel
theorem dX10_strike_26 : decode cX10_strike 26 = .ok (.iconst 1, 1) := by decide +kernel
theorem dX10_strike_27 : decode cX10_strike 27 = .ok (.if_icmp .ne 7, 3) := by decide +kernel
theorem dX10_strike_30 : decode cX10_strike 30 = .ok (.iconst 1, 1) := by decide +kernel
theorem dX10_strike_31 : decode cX10_strike 31 = .ok (.goto 4, 3) := by decide +kernel
theorem dX10_strike_34 : decode cX10_strike 34 = .ok (.iconst 0, 1) := by decide +kernel
theorem dX10_strike_35 : decode cX10_strike 35 = .ok (.if_icmp .ne 6, 3) := by decide +kernel
theorem dX10_strike_38 : decode cX10_strike 38 = .ok (.bipush (-2), 2) := by decide +kernel
theorem dX10_strike_40 : decode cX10_strike 40 = .ok (.ireturn, 1) := by decide +kernel
theorem dX10_strike_41 : decode cX10_strike 41 = .ok (.aload_n 0, 1) := by decide +kernel
theorem dX10_strike_42 : decode cX10_strike 42 = .ok (.invokevirtual 124, 3) := by decide +kernel
theorem dX10_strike_45 : decode cX10_strike 45 = .ok (.aload_n 0, 1) := by decide +kernel
theorem dX10_strike_46 : decode cX10_strike 46 = .ok (.getfield 19, 3) := by decide +kernel
theorem dX10_strike_49 : decode cX10_strike 49 = .ok (.iconst 1, 1) := by decide +kernel
theorem dX10_strike_50 : decode cX10_strike 50 = .ok (.dup2, 1) := by decide +kernel
theorem dX10_strike_51 : decode cX10_strike 51 = .ok (.iaload, 1) := by decide +kernel
theorem dX10_strike_52 : decode cX10_strike 52 = .ok (.iconst 1, 1) := by decide +kernel
theorem dX10_strike_53 : decode cX10_strike 53 = .ok (.iload_n 1, 1) := by decide +kernel
theorem dX10_strike_54 : decode cX10_strike 54 = .ok (.ishl, 1) := by decide +kernel
theorem dX10_strike_55 : decode cX10_strike 55 = .ok (.ixor, 1) := by decide +kernel
theorem dX10_strike_56 : decode cX10_strike 56 = .ok (.iastore, 1) := by decide +kernel
theorem dX10_strike_57 : decode cX10_strike 57 = .ok (.aload_n 0, 1) := by decide +kernel
theorem dX10_strike_58 : decode cX10_strike 58 = .ok (.getfield 19, 3) := by decide +kernel
theorem dX10_strike_61 : decode cX10_strike 61 = .ok (.iconst 1, 1) := by decide +kernel
theorem dX10_strike_62 : decode cX10_strike 62 = .ok (.iaload, 1) := by decide +kernel
theorem dX10_strike_63 : decode cX10_strike 63 = .ok (.invokestatic 127, 3) := by decide +kernel
theorem dX10_strike_66 : decode cX10_strike 66 = .ok (.ireturn, 1) := by decide +kernel
theorem dX10_law_0 : decode cX10_law 0 = .ok (.iload_n 1, 1) := by decide +kernel
theorem dX10_law_1 : decode cX10_law 1 = .ok (.i2l, 1) := by decide +kernel
theorem dX10_law_2 : decode cX10_law 2 = .ok (.lconst 0, 1) := by decide +kernel
theorem dX10_law_3 : decode cX10_law 3 = .ok (.lconst 1, 1) := by decide +kernel
theorem dX10_law_4 : decode cX10_law 4 = .ok (.invokestatic 75, 3) := by decide +kernel
theorem dX10_law_7 : decode cX10_law 7 = .ok (.ifCond .ne 5, 3) := by decide +kernel
theorem dX10_law_10 : decode cX10_law 10 = .ok (.iconst (-1), 1) := by decide +kernel
theorem dX10_law_11 : decode cX10_law 11 = .ok (.ireturn, 1) := by decide +kernel
theorem dX10_law_12 : decode cX10_law 12 = .ok (.aload_n 0, 1) := by decide +kernel
theorem dX10_law_13 : decode cX10_law 13 = .ok (.getfield 19, 3) := by decide +kernel
theorem dX10_law_16 : decode cX10_law 16 = .ok (.iconst 0, 1) := by decide +kernel
theorem dX10_law_17 : decode cX10_law 17 = .ok (.iaload, 1) := by decide +kernel
theorem dX10_law_18 : decode cX10_law 18 = .ok (.istore_n 2, 1) := by decide +kernel
theorem dX10_law_19 : decode cX10_law 19 = .ok (.iload_n 2, 1) := by decide +kernel
theorem dX10_law_20 : decode cX10_law 20 = .ok (.iload_n 1, 1) := by decide +kernel
theorem dX10_law_21 : decode cX10_law 21 = .ok (.if_icmp .ne 6, 3) := by decide +kernel
theorem dX10_law_24 : decode cX10_law 24 = .ok (.bipush (-2), 2) := by decide +kernel
theorem dX10_law_26 : decode cX10_law 26 = .ok (.ireturn, 1) := by decide +kernel
theorem dX10_law_27 : decode cX10_law 27 = .ok (.aload_n 0, 1) := by decide +kernel
theorem dX10_law_28 : decode cX10_law 28 = .ok (.invokevirtual 124, 3) := by decide +kernel
theorem dX10_law_31 : decode cX10_law 31 = .ok (.aload_n 0, 1) := by decide +kernel
theorem dX10_law_32 : decode cX10_law 32 = .ok (.getfield 19, 3) := by decide +kernel
theorem dX10_law_35 : decode cX10_law 35 = .ok (.iconst 0, 1) := by decide +kernel
theorem dX10_law_36 : decode cX10_law 36 = .ok (.iload_n 1, 1) := by decide +kernel
theorem dX10_law_37 : decode cX10_law 37 = .ok (.iastore, 1) := by decide +kernel
theorem dX10_law_38 : decode cX10_law 38 = .ok (.iload_n 2, 1) := by decide +kernel
theorem dX10_law_39 : decode cX10_law 39 = .ok (.ireturn, 1) := by decide +kernel
theorem dX10_carve_0 : decode cX10_carve 0 = .ok (.aload_n 0, 1) := by decide +kernel
theorem dX10_carve_1 : decode cX10_carve 1 = .ok (.iload_n 1, 1) := by decide +kernel
theorem dX10_carve_2 : decode cX10_carve 2 = .ok (.invokevirtual 118, 3) := by decide +kernel
theorem dX10_carve_5 : decode cX10_carve 5 = .ok (.ifCond .ne 5, 3) := by decide +kernel
theorem dX10_carve_8 : decode cX10_carve 8 = .ok (.iconst (-1), 1) := by decide +kernel
theorem dX10_carve_9 : decode cX10_carve 9 = .ok (.ireturn, 1) := by decide +kernel
theorem dX10_carve_10 : decode cX10_carve 10 = .ok (.aload_n 0, 1) := by decide +kernel
theorem dX10_carve_11 : decode cX10_carve 11 = .ok (.getfield 19, 3) := by decide +kernel
theorem dX10_carve_14 : decode cX10_carve 14 = .ok (.iconst 2, 1) := by decide +kernel
theorem dX10_carve_15 : decode cX10_carve 15 = .ok (.iaload, 1) := by decide +kernel
theorem dX10_carve_16 : decode cX10_carve 16 = .ok (.bipush 16, 2) := by decide +kernel
theorem dX10_carve_18 : decode cX10_carve 18 = .ok (.if_icmp .ne 6, 3) := by decide +kernel
theorem dX10_carve_21 : decode cX10_carve 21 = .ok (.bipush (-3), 2) := by decide +kernel
theorem dX10_carve_23 : decode cX10_carve 23 = .ok (.ireturn, 1) := by decide +kernel
theorem dX10_carve_24 : decode cX10_carve 24 = .ok (.aload_n 0, 1) := by decide +kernel
theorem dX10_carve_25 : decode cX10_carve 25 = .ok (.invokevirtual 124, 3) := by decide +kernel
theorem dX10_carve_28 : decode cX10_carve 28 = .ok (.aload_n 0, 1) := by decide +kernel
theorem dX10_carve_29 : decode cX10_carve 29 = .ok (.getfield 19, 3) := by decide +kernel
theorem dX10_carve_32 : decode cX10_carve 32 = .ok (.iconst 3, 1) := by decide +kernel
theorem dX10_carve_33 : decode cX10_carve 33 = .ok (.aload_n 0, 1) := by decide +kernel
theorem dX10_carve_34 : decode cX10_carve 34 = .ok (.getfield 19, 3) := by decide +kernel
theorem dX10_carve_37 : decode cX10_carve 37 = .ok (.iconst 2, 1) := by decide +kernel
theorem dX10_carve_38 : decode cX10_carve 38 = .ok (.iaload, 1) := by decide +kernel
theorem dX10_carve_39 : decode cX10_carve 39 = .ok (.iadd, 1) := by decide +kernel
theorem dX10_carve_40 : decode cX10_carve 40 = .ok (.iload_n 1, 1) := by decide +kernel
theorem dX10_carve_41 : decode cX10_carve 41 = .ok (.iastore, 1) := by decide +kernel
theorem dX10_carve_42 : decode cX10_carve 42 = .ok (.aload_n 0, 1) := by decide +kernel
theorem dX10_carve_43 : decode cX10_carve 43 = .ok (.getfield 19, 3) := by decide +kernel
theorem dX10_carve_46 : decode cX10_carve 46 = .ok (.iconst 2, 1) := by decide +kernel
theorem dX10_carve_47 : decode cX10_carve 47 = .ok (.dup2, 1) := by decide +kernel
theorem dX10_carve_48 : decode cX10_carve 48 = .ok (.iaload, 1) := by decide +kernel
theorem dX10_carve_49 : decode cX10_carve 49 = .ok (.iconst 1, 1) := by decide +kernel
theorem dX10_carve_50 : decode cX10_carve 50 = .ok (.iadd, 1) := by decide +kernel
theorem dX10_carve_51 : decode cX10_carve 51 = .ok (.iastore, 1) := by decide +kernel
theorem dX10_carve_52 : decode cX10_carve 52 = .ok (.aload_n 0, 1) := by decide +kernel
theorem dX10_carve_53 : decode cX10_carve 53 = .ok (.getfield 19, 3) := by decide +kernel
theorem dX10_carve_56 : decode cX10_carve 56 = .ok (.iconst 2, 1) := by decide +kernel
theorem dX10_carve_57 : decode cX10_carve 57 = .ok (.iaload, 1) := by decide +kernel
theorem dX10_carve_58 : decode cX10_carve 58 = .ok (.ireturn, 1) := by decide +kernel
theorem dX10_chip_0 : decode cX10_chip 0 = .ok (.aload_n 0, 1) := by decide +kernel
theorem dX10_chip_1 : decode cX10_chip 1 = .ok (.getfield 19, 3) := by decide +kernel
theorem dX10_chip_4 : decode cX10_chip 4 = .ok (.iconst 2, 1) := by decide +kernel
theorem dX10_chip_5 : decode cX10_chip 5 = .ok (.iaload, 1) := by decide +kernel
theorem dX10_chip_6 : decode cX10_chip 6 = .ok (.ifCond .ne 6, 3) := by decide +kernel
theorem dX10_chip_9 : decode cX10_chip 9 = .ok (.bipush (-2), 2) := by decide +kernel
theorem dX10_chip_11 : decode cX10_chip 11 = .ok (.ireturn, 1) := by decide +kernel
theorem dX10_chip_12 : decode cX10_chip 12 = .ok (.aload_n 0, 1) := by decide +kernel
theorem dX10_chip_13 : decode cX10_chip 13 = .ok (.invokevirtual 124, 3) := by decide +kernel
theorem dX10_chip_16 : decode cX10_chip 16 = .ok (.aload_n 0, 1) := by decide +kernel
theorem dX10_chip_17 : decode cX10_chip 17 = .ok (.getfield 19, 3) := by decide +kernel
theorem dX10_chip_20 : decode cX10_chip 20 = .ok (.iconst 2, 1) := by decide +kernel
theorem dX10_chip_21 : decode cX10_chip 21 = .ok (.dup2, 1) := by decide +kernel
theorem dX10_chip_22 : decode cX10_chip 22 = .ok (.iaload, 1) := by decide +kernel
theorem dX10_chip_23 : decode cX10_chip 23 = .ok (.iconst 1, 1) := by decide +kernel
theorem dX10_chip_24 : decode cX10_chip 24 = .ok (.isub, 1) := by decide +kernel
theorem dX10_chip_25 : decode cX10_chip 25 = .ok (.iastore, 1) := by decide +kernel
theorem dX10_chip_26 : decode cX10_chip 26 = .ok (.aload_n 0, 1) := by decide +kernel
theorem dX10_chip_27 : decode cX10_chip 27 = .ok (.getfield 19, 3) := by decide +kernel
theorem dX10_chip_30 : decode cX10_chip 30 = .ok (.iconst 3, 1) := by decide +kernel
theorem dX10_chip_31 : decode cX10_chip 31 = .ok (.aload_n 0, 1) := by decide +kernel
theorem dX10_chip_32 : decode cX10_chip 32 = .ok (.getfield 19, 3) := by decide +kernel
theorem dX10_chip_35 : decode cX10_chip 35 = .ok (.iconst 2, 1) := by decide +kernel
theorem dX10_chip_36 : decode cX10_chip 36 = .ok (.iaload, 1) := by decide +kernel
theorem dX10_chip_37 : decode cX10_chip 37 = .ok (.iadd, 1) := by decide +kernel
theorem dX10_chip_38 : decode cX10_chip 38 = .ok (.iaload, 1) := by decide +kernel
theorem dX10_chip_39 : decode cX10_chip 39 = .ok (.ireturn, 1) := by decide +kernel
theorem dX10_letterOf_0 : decode cX10_letterOf 0 = .ok (.aload_n 0, 1) := by decide +kernel
theorem dX10_letterOf_1 : decode cX10_letterOf 1 = .ok (.getfield 13, 3) := by decide +kernel
theorem dX10_letterOf_4 : decode cX10_letterOf 4 = .ok (.bipush 84, 2) := by decide +kernel
theorem dX10_letterOf_6 : decode cX10_letterOf 6 = .ok (.bipush 10, 2) := by decide +kernel
theorem dX10_letterOf_8 : decode cX10_letterOf 8 = .ok (.iload_n 1, 1) := by decide +kernel
theorem dX10_letterOf_9 : decode cX10_letterOf 9 = .ok (.imul, 1) := by decide +kernel
theorem dX10_letterOf_10 : decode cX10_letterOf 10 = .ok (.iadd, 1) := by decide +kernel
theorem dX10_letterOf_11 : decode cX10_letterOf 11 = .ok (.iconst 2, 1) := by decide +kernel
theorem dX10_letterOf_12 : decode cX10_letterOf 12 = .ok (.iadd, 1) := by decide +kernel
theorem dX10_letterOf_13 : decode cX10_letterOf 13 = .ok (.iload_n 2, 1) := by decide +kernel
theorem dX10_letterOf_14 : decode cX10_letterOf 14 = .ok (.iadd, 1) := by decide +kernel
theorem dX10_letterOf_15 : decode cX10_letterOf 15 = .ok (.iaload, 1) := by decide +kernel
theorem dX10_letterOf_16 : decode cX10_letterOf 16 = .ok (.ireturn, 1) := by decide +kernel
theorem dX10_long1_0 : decode cX10_long1 0 = .ok (.aload_n 0, 1) := by decide +kernel
theorem dX10_long1_1 : decode cX10_long1 1 = .ok (.getfield 13, 3) := by decide +kernel
theorem dX10_long1_4 : decode cX10_long1 4 = .ok (.bipush 84, 2) := by decide +kernel
theorem dX10_long1_6 : decode cX10_long1 6 = .ok (.bipush 10, 2) := by decide +kernel
theorem dX10_long1_8 : decode cX10_long1 8 = .ok (.iload_n 1, 1) := by decide +kernel
theorem dX10_long1_9 : decode cX10_long1 9 = .ok (.imul, 1) := by decide +kernel
theorem dX10_long1_10 : decode cX10_long1 10 = .ok (.iadd, 1) := by decide +kernel
theorem dX10_long1_11 : decode cX10_long1 11 = .ok (.iconst 1, 1) := by decide +kernel
theorem dX10_long1_12 : decode cX10_long1 12 = .ok (.iadd, 1) := by decide +kernel
theorem dX10_long1_13 : decode cX10_long1 13 = .ok (.iaload, 1) := by decide +kernel
theorem dX10_long1_14 : decode cX10_long1 14 = .ok (.ireturn, 1) := by decide +kernel
theorem dX10_isVowel_0 : decode cX10_isVowel 0 = .ok (.aload_n 0, 1) := by decide +kernel
theorem dX10_isVowel_1 : decode cX10_isVowel 1 = .ok (.iload_n 1, 1) := by decide +kernel
theorem dX10_isVowel_2 : decode cX10_isVowel 2 = .ok (.iload_n 2, 1) := by decide +kernel
theorem dX10_isVowel_3 : decode cX10_isVowel 3 = .ok (.invokevirtual 130, 3) := by decide +kernel
theorem dX10_isVowel_6 : decode cX10_isVowel 6 = .ok (.istore_n 3, 1) := by decide +kernel
theorem dX10_isVowel_7 : decode cX10_isVowel 7 = .ok (.iload_n 3, 1) := by decide +kernel
theorem dX10_isVowel_8 : decode cX10_isVowel 8 = .ok (.bipush 97, 2) := by decide +kernel
theorem dX10_isVowel_10 : decode cX10_isVowel 10 = .ok (.if_icmp .eq 27, 3) := by decide +kernel
theorem dX10_isVowel_13 : decode cX10_isVowel 13 = .ok (.iload_n 3, 1) := by decide +kernel
theorem dX10_isVowel_14 : decode cX10_isVowel 14 = .ok (.bipush 101, 2) := by decide +kernel
theorem dX10_isVowel_16 : decode cX10_isVowel 16 = .ok (.if_icmp .eq 21, 3) := by decide +kernel
theorem dX10_isVowel_19 : decode cX10_isVowel 19 = .ok (.iload_n 3, 1) := by decide +kernel
theorem dX10_isVowel_20 : decode cX10_isVowel 20 = .ok (.bipush 105, 2) := by decide +kernel
theorem dX10_isVowel_22 : decode cX10_isVowel 22 = .ok (.if_icmp .eq 15, 3) := by decide +kernel
theorem dX10_isVowel_25 : decode cX10_isVowel 25 = .ok (.iload_n 3, 1) := by decide +kernel
theorem dX10_isVowel_26 : decode cX10_isVowel 26 = .ok (.bipush 111, 2) := by decide +kernel
theorem dX10_isVowel_28 : decode cX10_isVowel 28 = .ok (.if_icmp .eq 9, 3) := by decide +kernel
theorem dX10_isVowel_31 : decode cX10_isVowel 31 = .ok (.iload_n 3, 1) := by decide +kernel
theorem dX10_isVowel_32 : decode cX10_isVowel 32 = .ok (.bipush 117, 2) := by decide +kernel
theorem dX10_isVowel_34 : decode cX10_isVowel 34 = .ok (.if_icmp .ne 7, 3) := by decide +kernel
theorem dX10_isVowel_37 : decode cX10_isVowel 37 = .ok (.iconst 1, 1) := by decide +kernel
theorem dX10_isVowel_38 : decode cX10_isVowel 38 = .ok (.goto 4, 3) := by decide +kernel
theorem dX10_isVowel_41 : decode cX10_isVowel 41 = .ok (.iconst 0, 1) := by decide +kernel
theorem dX10_isVowel_42 : decode cX10_isVowel 42 = .ok (.ireturn, 1) := by decide +kernel
theorem dX10_soundLong_0 : decode cX10_soundLong 0 = .ok (.aload_n 0, 1) := by decide +kernel
theorem dX10_soundLong_1 : decode cX10_soundLong 1 = .ok (.getfield 13, 3) := by decide +kernel
theorem dX10_soundLong_4 : decode cX10_soundLong 4 = .ok (.bipush 7, 2) := by decide +kernel
theorem dX10_soundLong_6 : decode cX10_soundLong 6 = .ok (.iload_n 1, 1) := by decide +kernel
theorem dX10_soundLong_7 : decode cX10_soundLong 7 = .ok (.imul, 1) := by decide +kernel
theorem dX10_soundLong_8 : decode cX10_soundLong 8 = .ok (.iconst 2, 1) := by decide +kernel
theorem dX10_soundLong_9 : decode cX10_soundLong 9 = .ok (.iadd, 1) := by decide +kernel
theorem dX10_soundLong_10 : decode cX10_soundLong 10 = .ok (.iaload, 1) := by decide +kernel
theorem dX10_soundLong_11 : decode cX10_soundLong 11 = .ok (.ireturn, 1) := by decide +kernel
theorem dX10_lies_0 : decode cX10_lies 0 = .ok (.iload_n 2, 1) := by decide +kernel
theorem dX10_lies_1 : decode cX10_lies 1 = .ok (.aload_n 0, 1) := by decide +kernel
theorem dX10_lies_2 : decode cX10_lies 2 = .ok (.iload_n 3, 1) := by decide +kernel
theorem dX10_lies_3 : decode cX10_lies 3 = .ok (.invokevirtual 134, 3) := by decide +kernel
theorem dX10_lies_6 : decode cX10_lies 6 = .ok (.iadd, 1) := by decide +kernel
theorem dX10_lies_7 : decode cX10_lies 7 = .ok (.aload_n 0, 1) := by decide +kernel
theorem dX10_lies_8 : decode cX10_lies 8 = .ok (.iload_n 1, 1) := by decide +kernel
theorem dX10_lies_9 : decode cX10_lies 9 = .ok (.invokevirtual 137, 3) := by decide +kernel
theorem dX10_lies_12 : decode cX10_lies 12 = .ok (.if_icmp .gt 7, 3) := by decide +kernel
theorem dX10_lies_15 : decode cX10_lies 15 = .ok (.iconst 1, 1) := by decide +kernel
theorem dX10_lies_16 : decode cX10_lies 16 = .ok (.goto 4, 3) := by decide +kernel
theorem dX10_lies_19 : decode cX10_lies 19 = .ok (.iconst 0, 1) := by decide +kernel
theorem dX10_lies_20 : decode cX10_lies 20 = .ok (.istore 4, 2) := by decide +kernel
theorem dX10_lies_22 : decode cX10_lies 22 = .ok (.iconst 0, 1) := by decide +kernel
theorem dX10_lies_23 : decode cX10_lies 23 = .ok (.istore 5, 2) := by decide +kernel
theorem dX10_lies_25 : decode cX10_lies 25 = .ok (.iload 5, 2) := by decide +kernel
theorem dX10_lies_27 : decode cX10_lies 27 = .ok (.aload_n 0, 1) := by decide +kernel
theorem dX10_lies_28 : decode cX10_lies 28 = .ok (.iload_n 3, 1) := by decide +kernel
theorem dX10_lies_29 : decode cX10_lies 29 = .ok (.invokevirtual 134, 3) := by decide +kernel
theorem dX10_lies_32 : decode cX10_lies 32 = .ok (.if_icmp .ge 47, 3) := by decide +kernel
theorem dX10_lies_35 : decode cX10_lies 35 = .ok (.iload 4, 2) := by decide +kernel
theorem dX10_lies_37 : decode cX10_lies 37 = .ok (.ifCond .eq 42, 3) := by decide +kernel
theorem dX10_lies_40 : decode cX10_lies 40 = .ok (.aload_n 0, 1) := by decide +kernel
theorem dX10_lies_41 : decode cX10_lies 41 = .ok (.iload_n 1, 1) := by decide +kernel
theorem dX10_lies_42 : decode cX10_lies 42 = .ok (.iload_n 2, 1) := by decide +kernel
theorem dX10_lies_43 : decode cX10_lies 43 = .ok (.iload 5, 2) := by decide +kernel
theorem dX10_lies_45 : decode cX10_lies 45 = .ok (.iadd, 1) := by decide +kernel
theorem dX10_lies_46 : decode cX10_lies 46 = .ok (.invokevirtual 130, 3) := by decide +kernel
theorem dX10_lies_49 : decode cX10_lies 49 = .ok (.aload_n 0, 1) := by decide +kernel
theorem dX10_lies_50 : decode cX10_lies 50 = .ok (.getfield 13, 3) := by decide +kernel
theorem dX10_lies_53 : decode cX10_lies 53 = .ok (.bipush 7, 2) := by decide +kernel
theorem dX10_lies_55 : decode cX10_lies 55 = .ok (.iload_n 3, 1) := by decide +kernel
theorem dX10_lies_56 : decode cX10_lies 56 = .ok (.imul, 1) := by decide +kernel
theorem dX10_lies_57 : decode cX10_lies 57 = .ok (.iconst 3, 1) := by decide +kernel
theorem dX10_lies_58 : decode cX10_lies 58 = .ok (.iadd, 1) := by decide +kernel
theorem dX10_lies_59 : decode cX10_lies 59 = .ok (.iload 5, 2) := by decide +kernel
theorem dX10_lies_61 : decode cX10_lies 61 = .ok (.iadd, 1) := by decide +kernel
theorem dX10_lies_62 : decode cX10_lies 62 = .ok (.iaload, 1) := by decide +kernel
theorem dX10_lies_63 : decode cX10_lies 63 = .ok (.if_icmp .ne 7, 3) := by decide +kernel
theorem dX10_lies_66 : decode cX10_lies 66 = .ok (.iconst 1, 1) := by decide +kernel
theorem dX10_lies_67 : decode cX10_lies 67 = .ok (.goto 4, 3) := by decide +kernel
theorem dX10_lies_70 : decode cX10_lies 70 = .ok (.iconst 0, 1) := by decide +kernel
theorem dX10_lies_71 : decode cX10_lies 71 = .ok (.istore 4, 2) := by decide +kernel
theorem dX10_lies_73 : decode cX10_lies 73 = .ok (.iinc 5 1, 3) := by decide +kernel
theorem dX10_lies_76 : decode cX10_lies 76 = .ok (.goto (-51), 3) := by decide +kernel
theorem dX10_lies_79 : decode cX10_lies 79 = .ok (.iload 4, 2) := by decide +kernel
theorem dX10_lies_81 : decode cX10_lies 81 = .ok (.ireturn, 1) := by decide +kernel
theorem dX10_skips_0 : decode cX10_skips 0 = .ok (.iload_n 2, 1) := by decide +kernel
theorem dX10_skips_1 : decode cX10_skips 1 = .ok (.istore_n 3, 1) := by decide +kernel
theorem dX10_skips_2 : decode cX10_skips 2 = .ok (.iconst 0, 1) := by decide +kernel
theorem dX10_skips_3 : decode cX10_skips 3 = .ok (.istore 4, 2) := by decide +kernel
theorem dX10_skips_5 : decode cX10_skips 5 = .ok (.iload 4, 2) := by decide +kernel
theorem dX10_skips_7 : decode cX10_skips 7 = .ok (.aload_n 0, 1) := by decide +kernel
theorem dX10_skips_8 : decode cX10_skips 8 = .ok (.iload_n 1, 1) := by decide +kernel
theorem dX10_skips_9 : decode cX10_skips 9 = .ok (.invokevirtual 137, 3) := by decide +kernel
theorem dX10_skips_12 : decode cX10_skips 12 = .ok (.if_icmp .ge 52, 3) := by decide +kernel
theorem dX10_skips_15 : decode cX10_skips 15 = .ok (.aload_n 0, 1) := by decide +kernel
theorem dX10_skips_16 : decode cX10_skips 16 = .ok (.getfield 19, 3) := by decide +kernel
theorem dX10_skips_19 : decode cX10_skips 19 = .ok (.iconst 0, 1) := by decide +kernel
theorem dX10_skips_20 : decode cX10_skips 20 = .ok (.iaload, 1) := by decide +kernel
theorem dX10_skips_21 : decode cX10_skips 21 = .ok (.iconst 1, 1) := by decide +kernel
theorem dX10_skips_22 : decode cX10_skips 22 = .ok (.if_icmp .ne 42, 3) := by decide +kernel
theorem dX10_skips_25 : decode cX10_skips 25 = .ok (.iload_n 3, 1) := by decide +kernel
theorem dX10_skips_26 : decode cX10_skips 26 = .ok (.iload_n 3, 1) := by decide +kernel
theorem dX10_skips_27 : decode cX10_skips 27 = .ok (.iload 4, 2) := by decide +kernel
theorem dX10_skips_29 : decode cX10_skips 29 = .ok (.ishr, 1) := by decide +kernel
theorem dX10_skips_30 : decode cX10_skips 30 = .ok (.iconst 1, 1) := by decide +kernel
theorem dX10_skips_31 : decode cX10_skips 31 = .ok (.iand, 1) := by decide +kernel
theorem dX10_skips_32 : decode cX10_skips 32 = .ok (.iconst 1, 1) := by decide +kernel
theorem dX10_skips_33 : decode cX10_skips 33 = .ok (.if_icmp .ne 22, 3) := by decide +kernel
theorem dX10_skips_36 : decode cX10_skips 36 = .ok (.aload_n 0, 1) := by decide +kernel
theorem dX10_skips_37 : decode cX10_skips 37 = .ok (.iload_n 1, 1) := by decide +kernel
theorem dX10_skips_38 : decode cX10_skips 38 = .ok (.iload 4, 2) := by decide +kernel
theorem dX10_skips_40 : decode cX10_skips 40 = .ok (.invokevirtual 140, 3) := by decide +kernel
theorem dX10_skips_43 : decode cX10_skips 43 = .ok (.ifCond .eq 12, 3) := by decide +kernel
theorem dX10_skips_46 : decode cX10_skips 46 = .ok (.iconst 1, 1) := by decide +kernel
theorem dX10_skips_47 : decode cX10_skips 47 = .ok (.iload 4, 2) := by decide +kernel
theorem dX10_skips_49 : decode cX10_skips 49 = .ok (.iconst 1, 1) := by decide +kernel
theorem dX10_skips_50 : decode cX10_skips 50 = .ok (.iadd, 1) := by decide +kernel
theorem dX10_skips_51 : decode cX10_skips 51 = .ok (.ishl, 1) := by decide +kernel
theorem dX10_skips_52 : decode cX10_skips 52 = .ok (.goto 4, 3) := by decide +kernel
theorem dX10_skips_55 : decode cX10_skips 55 = .ok (.iconst 0, 1) := by decide +kernel
theorem dX10_skips_56 : decode cX10_skips 56 = .ok (.ior, 1) := by decide +kernel
theorem dX10_skips_57 : decode cX10_skips 57 = .ok (.istore_n 3, 1) := by decide +kernel
theorem dX10_skips_58 : decode cX10_skips 58 = .ok (.iinc 4 1, 3) := by decide +kernel
theorem dX10_skips_61 : decode cX10_skips 61 = .ok (.goto (-56), 3) := by decide +kernel
theorem dX10_skips_64 : decode cX10_skips 64 = .ok (.iload_n 3, 1) := by decide +kernel
theorem dX10_skips_65 : decode cX10_skips 65 = .ok (.ireturn, 1) := by decide +kernel
theorem dX10_steps_0 : decode cX10_steps 0 = .ok (.aload_n 0, 1) := by decide +kernel
theorem dX10_steps_1 : decode cX10_steps 1 = .ok (.iload_n 1, 1) := by decide +kernel
theorem dX10_steps_2 : decode cX10_steps 2 = .ok (.iload_n 2, 1) := by decide +kernel
theorem dX10_steps_3 : decode cX10_steps 3 = .ok (.invokevirtual 143, 3) := by decide +kernel
theorem dX10_steps_6 : decode cX10_steps 6 = .ok (.istore 4, 2) := by decide +kernel
theorem dX10_steps_8 : decode cX10_steps 8 = .ok (.iconst 0, 1) := by decide +kernel
theorem dX10_steps_9 : decode cX10_steps 9 = .ok (.istore 5, 2) := by decide +kernel
theorem dX10_steps_11 : decode cX10_steps 11 = .ok (.iconst 0, 1) := by decide +kernel
theorem dX10_steps_12 : decode cX10_steps 12 = .ok (.istore 6, 2) := by decide +kernel
theorem dX10_steps_14 : decode cX10_steps 14 = .ok (.iload 6, 2) := by decide +kernel
theorem dX10_steps_16 : decode cX10_steps 16 = .ok (.aload_n 0, 1) := by decide +kernel
theorem dX10_steps_17 : decode cX10_steps 17 = .ok (.iload_n 1, 1) := by decide +kernel
theorem dX10_steps_18 : decode cX10_steps 18 = .ok (.invokevirtual 137, 3) := by decide +kernel
theorem dX10_steps_21 : decode cX10_steps 21 = .ok (.if_icmp .ge 50, 3) := by decide +kernel
theorem dX10_steps_24 : decode cX10_steps 24 = .ok (.iload 5, 2) := by decide +kernel
theorem dX10_steps_26 : decode cX10_steps 26 = .ok (.iload 4, 2) := by decide +kernel
theorem dX10_steps_28 : decode cX10_steps 28 = .ok (.iload 6, 2) := by decide +kernel
theorem dX10_steps_30 : decode cX10_steps 30 = .ok (.ishr, 1) := by decide +kernel
theorem dX10_steps_31 : decode cX10_steps 31 = .ok (.iconst 1, 1) := by decide +kernel
theorem dX10_steps_32 : decode cX10_steps 32 = .ok (.iand, 1) := by decide +kernel
theorem dX10_steps_33 : decode cX10_steps 33 = .ok (.iconst 1, 1) := by decide +kernel
theorem dX10_steps_34 : decode cX10_steps 34 = .ok (.if_icmp .ne 27, 3) := by decide +kernel
theorem dX10_steps_37 : decode cX10_steps 37 = .ok (.aload_n 0, 1) := by decide +kernel
theorem dX10_steps_38 : decode cX10_steps 38 = .ok (.iload_n 1, 1) := by decide +kernel
theorem dX10_steps_39 : decode cX10_steps 39 = .ok (.iload 6, 2) := by decide +kernel
theorem dX10_steps_41 : decode cX10_steps 41 = .ok (.iload_n 3, 1) := by decide +kernel
theorem dX10_steps_42 : decode cX10_steps 42 = .ok (.invokevirtual 146, 3) := by decide +kernel
theorem dX10_steps_45 : decode cX10_steps 45 = .ok (.ifCond .eq 16, 3) := by decide +kernel
theorem dX10_steps_48 : decode cX10_steps 48 = .ok (.iconst 1, 1) := by decide +kernel
theorem dX10_steps_49 : decode cX10_steps 49 = .ok (.iload 6, 2) := by decide +kernel
theorem dX10_steps_51 : decode cX10_steps 51 = .ok (.aload_n 0, 1) := by decide +kernel
theorem dX10_steps_52 : decode cX10_steps 52 = .ok (.iload_n 3, 1) := by decide +kernel
theorem dX10_steps_53 : decode cX10_steps 53 = .ok (.invokevirtual 134, 3) := by decide +kernel
theorem dX10_steps_56 : decode cX10_steps 56 = .ok (.iadd, 1) := by decide +kernel
theorem dX10_steps_57 : decode cX10_steps 57 = .ok (.ishl, 1) := by decide +kernel
theorem dX10_steps_58 : decode cX10_steps 58 = .ok (.goto 4, 3) := by decide +kernel
theorem dX10_steps_61 : decode cX10_steps 61 = .ok (.iconst 0, 1) := by decide +kernel
theorem dX10_steps_62 : decode cX10_steps 62 = .ok (.ior, 1) := by decide +kernel
theorem dX10_steps_63 : decode cX10_steps 63 = .ok (.istore 5, 2) := by decide +kernel
theorem dX10_steps_65 : decode cX10_steps 65 = .ok (.iinc 6 1, 3) := by decide +kernel
theorem dX10_steps_68 : decode cX10_steps 68 = .ok (.goto (-54), 3) := by decide +kernel
theorem dX10_steps_71 : decode cX10_steps 71 = .ok (.iload 5, 2) := by decide +kernel
theorem dX10_steps_73 : decode cX10_steps 73 = .ok (.ireturn, 1) := by decide +kernel
theorem dX10_isWhole_0 : decode cX10_isWhole 0 = .ok (.aload_n 0, 1) := by decide +kernel
theorem dX10_isWhole_1 : decode cX10_isWhole 1 = .ok (.iload_n 1, 1) := by decide +kernel
theorem dX10_isWhole_2 : decode cX10_isWhole 2 = .ok (.iload_n 2, 1) := by decide +kernel
theorem dX10_isWhole_3 : decode cX10_isWhole 3 = .ok (.invokevirtual 143, 3) := by decide +kernel
theorem dX10_isWhole_6 : decode cX10_isWhole 6 = .ok (.aload_n 0, 1) := by decide +kernel
theorem dX10_isWhole_7 : decode cX10_isWhole 7 = .ok (.iload_n 1, 1) := by decide +kernel
theorem dX10_isWhole_8 : decode cX10_isWhole 8 = .ok (.invokevirtual 137, 3) := by decide +kernel
theorem dX10_isWhole_11 : decode cX10_isWhole 11 = .ok (.ishr, 1) := by decide +kernel
theorem dX10_isWhole_12 : decode cX10_isWhole 12 = .ok (.iconst 1, 1) := by decide +kernel
theorem dX10_isWhole_13 : decode cX10_isWhole 13 = .ok (.iand, 1) := by decide +kernel
theorem dX10_isWhole_14 : decode cX10_isWhole 14 = .ok (.iconst 1, 1) := by decide +kernel
theorem dX10_isWhole_15 : decode cX10_isWhole 15 = .ok (.if_icmp .ne 7, 3) := by decide +kernel
theorem dX10_isWhole_18 : decode cX10_isWhole 18 = .ok (.iconst 1, 1) := by decide +kernel
theorem dX10_isWhole_19 : decode cX10_isWhole 19 = .ok (.goto 4, 3) := by decide +kernel
theorem dX10_isWhole_22 : decode cX10_isWhole 22 = .ok (.iconst 0, 1) := by decide +kernel
theorem dX10_isWhole_23 : decode cX10_isWhole 23 = .ok (.ireturn, 1) := by decide +kernel
theorem dX10_hasSound_0 : decode cX10_hasSound 0 = .ok (.aload_n 0, 1) := by decide +kernel
theorem dX10_hasSound_1 : decode cX10_hasSound 1 = .ok (.getfield 13, 3) := by decide +kernel
theorem dX10_hasSound_4 : decode cX10_hasSound 4 = .ok (.bipush 7, 2) := by decide +kernel
theorem dX10_hasSound_6 : decode cX10_hasSound 6 = .ok (.iload_n 1, 1) := by decide +kernel
theorem dX10_hasSound_7 : decode cX10_hasSound 7 = .ok (.imul, 1) := by decide +kernel
theorem dX10_hasSound_8 : decode cX10_hasSound 8 = .ok (.iaload, 1) := by decide +kernel
theorem dX10_hasSound_9 : decode cX10_hasSound 9 = .ok (.iconst 2, 1) := by decide +kernel
theorem dX10_hasSound_10 : decode cX10_hasSound 10 = .ok (.if_icmp .eq 7, 3) := by decide +kernel
theorem dX10_hasSound_13 : decode cX10_hasSound 13 = .ok (.iconst 1, 1) := by decide +kernel
theorem dX10_hasSound_14 : decode cX10_hasSound 14 = .ok (.goto 4, 3) := by decide +kernel
theorem dX10_hasSound_17 : decode cX10_hasSound 17 = .ok (.iconst 0, 1) := by decide +kernel
theorem dX10_hasSound_18 : decode cX10_hasSound 18 = .ok (.ireturn, 1) := by decide +kernel
theorem dX10_isWriting_0 : decode cX10_isWriting 0 = .ok (.iconst 1, 1) := by decide +kernel
theorem dX10_isWriting_1 : decode cX10_isWriting 1 = .ok (.istore 5, 2) := by decide +kernel
theorem dX10_isWriting_3 : decode cX10_isWriting 3 = .ok (.iconst 0, 1) := by decide +kernel
theorem dX10_isWriting_4 : decode cX10_isWriting 4 = .ok (.istore 6, 2) := by decide +kernel
theorem dX10_isWriting_6 : decode cX10_isWriting 6 = .ok (.iconst 0, 1) := by decide +kernel
theorem dX10_isWriting_7 : decode cX10_isWriting 7 = .ok (.istore 7, 2) := by decide +kernel
theorem dX10_isWriting_9 : decode cX10_isWriting 9 = .ok (.iload 7, 2) := by decide +kernel
theorem dX10_isWriting_11 : decode cX10_isWriting 11 = .ok (.iload 4, 2) := by decide +kernel
theorem dX10_isWriting_13 : decode cX10_isWriting 13 = .ok (.if_icmp .ge 117, 3) := by decide +kernel
theorem dX10_isWriting_16 : decode cX10_isWriting 16 = .ok (.aload_n 2, 1) := by decide +kernel
theorem dX10_isWriting_17 : decode cX10_isWriting 17 = .ok (.iload_n 3, 1) := by decide +kernel
theorem dX10_isWriting_18 : decode cX10_isWriting 18 = .ok (.iload 7, 2) := by decide +kernel
theorem dX10_isWriting_20 : decode cX10_isWriting 20 = .ok (.iadd, 1) := by decide +kernel
theorem dX10_isWriting_21 : decode cX10_isWriting 21 = .ok (.iaload, 1) := by decide +kernel
theorem dX10_isWriting_22 : decode cX10_isWriting 22 = .ok (.istore 8, 2) := by decide +kernel
theorem dX10_isWriting_24 : decode cX10_isWriting 24 = .ok (.aload_n 0, 1) := by decide +kernel
theorem dX10_isWriting_25 : decode cX10_isWriting 25 = .ok (.iload 8, 2) := by decide +kernel
theorem dX10_isWriting_27 : decode cX10_isWriting 27 = .ok (.invokevirtual 121, 3) := by decide +kernel
theorem dX10_isWriting_30 : decode cX10_isWriting 30 = .ok (.ifCond .ne 48, 3) := by decide +kernel
theorem dX10_isWriting_33 : decode cX10_isWriting 33 = .ok (.aload_n 0, 1) := by decide +kernel
theorem dX10_isWriting_34 : decode cX10_isWriting 34 = .ok (.iload 8, 2) := by decide +kernel
theorem dX10_isWriting_36 : decode cX10_isWriting 36 = .ok (.invokevirtual 150, 3) := by decide +kernel
theorem dX10_isWriting_39 : decode cX10_isWriting 39 = .ok (.ifCond .ne 41, 3) := by decide +kernel
theorem dX10_isWriting_42 : decode cX10_isWriting 42 = .ok (.iload 7, 2) := by decide +kernel
theorem dX10_isWriting_44 : decode cX10_isWriting 44 = .ok (.iload 4, 2) := by decide +kernel
theorem dX10_isWriting_46 : decode cX10_isWriting 46 = .ok (.iconst 1, 1) := by decide +kernel
theorem dX10_isWriting_47 : decode cX10_isWriting 47 = .ok (.isub, 1) := by decide +kernel
theorem dX10_isWriting_48 : decode cX10_isWriting 48 = .ok (.if_icmp .lt 30, 3) := by decide +kernel
theorem dX10_isWriting_51 : decode cX10_isWriting 51 = .ok (.aload_n 0, 1) := by decide +kernel
theorem dX10_isWriting_52 : decode cX10_isWriting 52 = .ok (.getfield 13, 3) := by decide +kernel
theorem dX10_isWriting_55 : decode cX10_isWriting 55 = .ok (.bipush 7, 2) := by decide +kernel
theorem dX10_isWriting_57 : decode cX10_isWriting 57 = .ok (.iload 8, 2) := by decide +kernel
theorem dX10_isWriting_59 : decode cX10_isWriting 59 = .ok (.imul, 1) := by decide +kernel
theorem dX10_isWriting_60 : decode cX10_isWriting 60 = .ok (.iconst 1, 1) := by decide +kernel
theorem dX10_isWriting_61 : decode cX10_isWriting 61 = .ok (.iadd, 1) := by decide +kernel
theorem dX10_isWriting_62 : decode cX10_isWriting 62 = .ok (.iaload, 1) := by decide +kernel
theorem dX10_isWriting_63 : decode cX10_isWriting 63 = .ok (.aload_n 0, 1) := by decide +kernel
theorem dX10_isWriting_64 : decode cX10_isWriting 64 = .ok (.getfield 13, 3) := by decide +kernel
theorem dX10_isWriting_67 : decode cX10_isWriting 67 = .ok (.bipush 84, 2) := by decide +kernel
theorem dX10_isWriting_69 : decode cX10_isWriting 69 = .ok (.bipush 10, 2) := by decide +kernel
theorem dX10_isWriting_71 : decode cX10_isWriting 71 = .ok (.iload_n 1, 1) := by decide +kernel
theorem dX10_isWriting_72 : decode cX10_isWriting 72 = .ok (.imul, 1) := by decide +kernel
theorem dX10_isWriting_73 : decode cX10_isWriting 73 = .ok (.iadd, 1) := by decide +kernel
theorem dX10_isWriting_74 : decode cX10_isWriting 74 = .ok (.iaload, 1) := by decide +kernel
theorem dX10_isWriting_75 : decode cX10_isWriting 75 = .ok (.if_icmp .eq 5, 3) := by decide +kernel
theorem dX10_isWriting_78 : decode cX10_isWriting 78 = .ok (.iconst 0, 1) := by decide +kernel
theorem dX10_isWriting_79 : decode cX10_isWriting 79 = .ok (.ireturn, 1) := by decide +kernel
theorem dX10_isWriting_80 : decode cX10_isWriting 80 = .ok (.aload_n 0, 1) := by decide +kernel
theorem dX10_isWriting_81 : decode cX10_isWriting 81 = .ok (.iload 8, 2) := by decide +kernel
theorem dX10_isWriting_83 : decode cX10_isWriting 83 = .ok (.invokevirtual 150, 3) := by decide +kernel
theorem dX10_isWriting_86 : decode cX10_isWriting 86 = .ok (.ifCond .eq 15, 3) := by decide +kernel
theorem dX10_isWriting_89 : decode cX10_isWriting 89 = .ok (.aload_n 0, 1) := by decide +kernel
theorem dX10_isWriting_90 : decode cX10_isWriting 90 = .ok (.iload_n 1, 1) := by decide +kernel
theorem dX10_isWriting_91 : decode cX10_isWriting 91 = .ok (.iload 5, 2) := by decide +kernel
theorem dX10_isWriting_93 : decode cX10_isWriting 93 = .ok (.iload 8, 2) := by decide +kernel
theorem dX10_isWriting_95 : decode cX10_isWriting 95 = .ok (.invokevirtual 153, 3) := by decide +kernel
theorem dX10_isWriting_98 : decode cX10_isWriting 98 = .ok (.goto 5, 3) := by decide +kernel
theorem dX10_isWriting_101 : decode cX10_isWriting 101 = .ok (.iload 5, 2) := by decide +kernel
theorem dX10_isWriting_103 : decode cX10_isWriting 103 = .ok (.istore 5, 2) := by decide +kernel
theorem dX10_isWriting_105 : decode cX10_isWriting 105 = .ok (.iload 6, 2) := by decide +kernel
theorem dX10_isWriting_107 : decode cX10_isWriting 107 = .ok (.aload_n 0, 1) := by decide +kernel
theorem dX10_isWriting_108 : decode cX10_isWriting 108 = .ok (.iload 8, 2) := by decide +kernel
theorem dX10_isWriting_110 : decode cX10_isWriting 110 = .ok (.invokevirtual 150, 3) := by decide +kernel
theorem dX10_isWriting_113 : decode cX10_isWriting 113 = .ok (.ifCond .eq 7, 3) := by decide +kernel
theorem dX10_isWriting_116 : decode cX10_isWriting 116 = .ok (.iconst 1, 1) := by decide +kernel
theorem dX10_isWriting_117 : decode cX10_isWriting 117 = .ok (.goto 4, 3) := by decide +kernel
theorem dX10_isWriting_120 : decode cX10_isWriting 120 = .ok (.iconst 0, 1) := by decide +kernel
theorem dX10_isWriting_121 : decode cX10_isWriting 121 = .ok (.iadd, 1) := by decide +kernel
theorem dX10_isWriting_122 : decode cX10_isWriting 122 = .ok (.istore 6, 2) := by decide +kernel
theorem dX10_isWriting_124 : decode cX10_isWriting 124 = .ok (.iinc 7 1, 3) := by decide +kernel
theorem dX10_isWriting_127 : decode cX10_isWriting 127 = .ok (.goto (-118), 3) := by decide +kernel
theorem dX10_isWriting_130 : decode cX10_isWriting 130 = .ok (.iload 4, 2) := by decide +kernel
theorem dX10_isWriting_132 : decode cX10_isWriting 132 = .ok (.bipush 10, 2) := by decide +kernel
theorem dX10_isWriting_134 : decode cX10_isWriting 134 = .ok (.if_icmp .ge 22, 3) := by decide +kernel
theorem dX10_isWriting_137 : decode cX10_isWriting 137 = .ok (.iload 6, 2) := by decide +kernel
theorem dX10_isWriting_139 : decode cX10_isWriting 139 = .ok (.ifCond .le 17, 3) := by decide +kernel
theorem dX10_isWriting_142 : decode cX10_isWriting 142 = .ok (.aload_n 0, 1) := by decide +kernel
theorem dX10_isWriting_143 : decode cX10_isWriting 143 = .ok (.iload_n 1, 1) := by decide +kernel
theorem dX10_isWriting_144 : decode cX10_isWriting 144 = .ok (.iload 5, 2) := by decide +kernel
theorem dX10_isWriting_146 : decode cX10_isWriting 146 = .ok (.invokevirtual 157, 3) := by decide +kernel
theorem dX10_isWriting_149 : decode cX10_isWriting 149 = .ok (.ifCond .eq 7, 3) := by decide +kernel
theorem dX10_isWriting_152 : decode cX10_isWriting 152 = .ok (.iconst 1, 1) := by decide +kernel
theorem dX10_isWriting_153 : decode cX10_isWriting 153 = .ok (.goto 4, 3) := by decide +kernel
theorem dX10_isWriting_156 : decode cX10_isWriting 156 = .ok (.iconst 0, 1) := by decide +kernel
theorem dX10_isWriting_157 : decode cX10_isWriting 157 = .ok (.ireturn, 1) := by decide +kernel
theorem dX10_reads_0 : decode cX10_reads 0 = .ok (.iconst 0, 1) := by decide +kernel
theorem dX10_reads_1 : decode cX10_reads 1 = .ok (.istore 4, 2) := by decide +kernel
theorem dX10_reads_3 : decode cX10_reads 3 = .ok (.aload_n 1, 1) := by decide +kernel
theorem dX10_reads_4 : decode cX10_reads 4 = .ok (.iload_n 2, 1) := by decide +kernel
theorem dX10_reads_5 : decode cX10_reads 5 = .ok (.iaload, 1) := by decide +kernel
theorem dX10_reads_6 : decode cX10_reads 6 = .ok (.istore 5, 2) := by decide +kernel
theorem dX10_reads_8 : decode cX10_reads 8 = .ok (.iconst 0, 1) := by decide +kernel
theorem dX10_reads_9 : decode cX10_reads 9 = .ok (.istore 6, 2) := by decide +kernel
theorem dX10_reads_11 : decode cX10_reads 11 = .ok (.iload 6, 2) := by decide +kernel
theorem dX10_reads_13 : decode cX10_reads 13 = .ok (.aload_n 0, 1) := by decide +kernel
theorem dX10_reads_14 : decode cX10_reads 14 = .ok (.getfield 13, 3) := by decide +kernel
theorem dX10_reads_17 : decode cX10_reads 17 = .ok (.sipush 165, 3) := by decide +kernel
theorem dX10_reads_20 : decode cX10_reads 20 = .ok (.iaload, 1) := by decide +kernel
theorem dX10_reads_21 : decode cX10_reads 21 = .ok (.if_icmp .ge 121, 3) := by decide +kernel
theorem dX10_reads_24 : decode cX10_reads 24 = .ok (.aload_n 0, 1) := by decide +kernel
theorem dX10_reads_25 : decode cX10_reads 25 = .ok (.iload 6, 2) := by decide +kernel
theorem dX10_reads_27 : decode cX10_reads 27 = .ok (.aload_n 1, 1) := by decide +kernel
theorem dX10_reads_28 : decode cX10_reads 28 = .ok (.iload_n 2, 1) := by decide +kernel
theorem dX10_reads_29 : decode cX10_reads 29 = .ok (.iload_n 3, 1) := by decide +kernel
theorem dX10_reads_30 : decode cX10_reads 30 = .ok (.invokevirtual 160, 3) := by decide +kernel
theorem dX10_reads_33 : decode cX10_reads 33 = .ok (.istore 7, 2) := by decide +kernel
theorem dX10_reads_35 : decode cX10_reads 35 = .ok (.iload 4, 2) := by decide +kernel
theorem dX10_reads_37 : decode cX10_reads 37 = .ok (.iload 7, 2) := by decide +kernel
theorem dX10_reads_39 : decode cX10_reads 39 = .ok (.ifCond .eq 10, 3) := by decide +kernel
theorem dX10_reads_42 : decode cX10_reads 42 = .ok (.iconst 1, 1) := by decide +kernel
theorem dX10_reads_43 : decode cX10_reads 43 = .ok (.iload 6, 2) := by decide +kernel
theorem dX10_reads_45 : decode cX10_reads 45 = .ok (.ishl, 1) := by decide +kernel
theorem dX10_reads_46 : decode cX10_reads 46 = .ok (.goto 4, 3) := by decide +kernel
theorem dX10_reads_49 : decode cX10_reads 49 = .ok (.iconst 0, 1) := by decide +kernel
theorem dX10_reads_50 : decode cX10_reads 50 = .ok (.ior, 1) := by decide +kernel
theorem dX10_reads_51 : decode cX10_reads 51 = .ok (.istore 4, 2) := by decide +kernel
theorem dX10_reads_53 : decode cX10_reads 53 = .ok (.iload 7, 2) := by decide +kernel
theorem dX10_reads_55 : decode cX10_reads 55 = .ok (.ifCond .eq 81, 3) := by decide +kernel
theorem dX10_reads_58 : decode cX10_reads 58 = .ok (.iload_n 3, 1) := by decide +kernel
theorem dX10_reads_59 : decode cX10_reads 59 = .ok (.iconst 1, 1) := by decide +kernel
theorem dX10_reads_60 : decode cX10_reads 60 = .ok (.if_icmp .ne 76, 3) := by decide +kernel
theorem dX10_reads_63 : decode cX10_reads 63 = .ok (.aload_n 0, 1) := by decide +kernel
theorem dX10_reads_64 : decode cX10_reads 64 = .ok (.getfield 13, 3) := by decide +kernel
theorem dX10_reads_67 : decode cX10_reads 67 = .ok (.bipush 7, 2) := by decide +kernel
theorem dX10_reads_69 : decode cX10_reads 69 = .ok (.iload 5, 2) := by decide +kernel
theorem dX10_reads_71 : decode cX10_reads 71 = .ok (.imul, 1) := by decide +kernel
theorem dX10_reads_72 : decode cX10_reads 72 = .ok (.iaload, 1) := by decide +kernel
theorem dX10_reads_73 : decode cX10_reads 73 = .ok (.ifCond .ne 63, 3) := by decide +kernel
theorem dX10_reads_76 : decode cX10_reads 76 = .ok (.aload_n 0, 1) := by decide +kernel
theorem dX10_reads_77 : decode cX10_reads 77 = .ok (.getfield 13, 3) := by decide +kernel
theorem dX10_reads_80 : decode cX10_reads 80 = .ok (.bipush 7, 2) := by decide +kernel
theorem dX10_reads_82 : decode cX10_reads 82 = .ok (.iload 5, 2) := by decide +kernel
theorem dX10_reads_84 : decode cX10_reads 84 = .ok (.imul, 1) := by decide +kernel
theorem dX10_reads_85 : decode cX10_reads 85 = .ok (.iconst 1, 1) := by decide +kernel
theorem dX10_reads_86 : decode cX10_reads 86 = .ok (.iadd, 1) := by decide +kernel
theorem dX10_reads_87 : decode cX10_reads 87 = .ok (.iaload, 1) := by decide +kernel
theorem dX10_reads_88 : decode cX10_reads 88 = .ok (.aload_n 0, 1) := by decide +kernel
theorem dX10_reads_89 : decode cX10_reads 89 = .ok (.getfield 13, 3) := by decide +kernel
theorem dX10_reads_92 : decode cX10_reads 92 = .ok (.bipush 84, 2) := by decide +kernel
theorem dX10_reads_94 : decode cX10_reads 94 = .ok (.bipush 10, 2) := by decide +kernel
theorem dX10_reads_96 : decode cX10_reads 96 = .ok (.iload 6, 2) := by decide +kernel
theorem dX10_reads_98 : decode cX10_reads 98 = .ok (.imul, 1) := by decide +kernel
theorem dX10_reads_99 : decode cX10_reads 99 = .ok (.iadd, 1) := by decide +kernel
theorem dX10_reads_100 : decode cX10_reads 100 = .ok (.iaload, 1) := by decide +kernel
theorem dX10_reads_101 : decode cX10_reads 101 = .ok (.if_icmp .ne 35, 3) := by decide +kernel
theorem dX10_reads_104 : decode cX10_reads 104 = .ok (.aload_n 0, 1) := by decide +kernel
theorem dX10_reads_105 : decode cX10_reads 105 = .ok (.iload 6, 2) := by decide +kernel
theorem dX10_reads_107 : decode cX10_reads 107 = .ok (.invokevirtual 137, 3) := by decide +kernel
theorem dX10_reads_110 : decode cX10_reads 110 = .ok (.aload_n 0, 1) := by decide +kernel
theorem dX10_reads_111 : decode cX10_reads 111 = .ok (.iload 5, 2) := by decide +kernel
theorem dX10_reads_113 : decode cX10_reads 113 = .ok (.invokevirtual 134, 3) := by decide +kernel
theorem dX10_reads_116 : decode cX10_reads 116 = .ok (.if_icmp .ne 20, 3) := by decide +kernel
theorem dX10_reads_119 : decode cX10_reads 119 = .ok (.aload_n 0, 1) := by decide +kernel
theorem dX10_reads_120 : decode cX10_reads 120 = .ok (.iload 6, 2) := by decide +kernel
theorem dX10_reads_122 : decode cX10_reads 122 = .ok (.iconst 0, 1) := by decide +kernel
theorem dX10_reads_123 : decode cX10_reads 123 = .ok (.iload 5, 2) := by decide +kernel
theorem dX10_reads_125 : decode cX10_reads 125 = .ok (.invokevirtual 146, 3) := by decide +kernel
theorem dX10_reads_128 : decode cX10_reads 128 = .ok (.ifCond .eq 8, 3) := by decide +kernel
theorem dX10_reads_131 : decode cX10_reads 131 = .ok (.iconst 1, 1) := by decide +kernel
theorem dX10_reads_132 : decode cX10_reads 132 = .ok (.iload 6, 2) := by decide +kernel
theorem dX10_reads_134 : decode cX10_reads 134 = .ok (.ishl, 1) := by decide +kernel
theorem dX10_reads_135 : decode cX10_reads 135 = .ok (.ireturn, 1) := by decide +kernel
theorem dX10_reads_136 : decode cX10_reads 136 = .ok (.iinc 6 1, 3) := by decide +kernel
theorem dX10_reads_139 : decode cX10_reads 139 = .ok (.goto (-128), 3) := by decide +kernel
theorem dX10_reads_142 : decode cX10_reads 142 = .ok (.iload 4, 2) := by decide +kernel
theorem dX10_reads_144 : decode cX10_reads 144 = .ok (.ireturn, 1) := by decide +kernel
theorem dX10_meets_0 : decode cX10_meets 0 = .ok (.aload_n 0, 1) := by decide +kernel
theorem dX10_meets_1 : decode cX10_meets 1 = .ok (.getfield 28, 3) := by decide +kernel
theorem dX10_meets_4 : decode cX10_meets 4 = .ok (.iload_n 1, 1) := by decide +kernel
theorem dX10_meets_5 : decode cX10_meets 5 = .ok (.iaload, 1) := by decide +kernel
theorem dX10_meets_6 : decode cX10_meets 6 = .ok (.ifCond .ge 33, 3) := by decide +kernel
theorem dX10_meets_9 : decode cX10_meets 9 = .ok (.aload_n 0, 1) := by decide +kernel
theorem dX10_meets_10 : decode cX10_meets 10 = .ok (.getfield 28, 3) := by decide +kernel
theorem dX10_meets_13 : decode cX10_meets 13 = .ok (.iload_n 1, 1) := by decide +kernel
theorem dX10_meets_14 : decode cX10_meets 14 = .ok (.aload_n 0, 1) := by decide +kernel
theorem dX10_meets_15 : decode cX10_meets 15 = .ok (.getfield 164, 3) := by decide +kernel
theorem dX10_meets_18 : decode cX10_meets 18 = .ok (.iastore, 1) := by decide +kernel
theorem dX10_meets_19 : decode cX10_meets 19 = .ok (.aload_n 0, 1) := by decide +kernel
theorem dX10_meets_20 : decode cX10_meets 20 = .ok (.getfield 25, 3) := by decide +kernel
theorem dX10_meets_23 : decode cX10_meets 23 = .ok (.aload_n 0, 1) := by decide +kernel
theorem dX10_meets_24 : decode cX10_meets 24 = .ok (.getfield 164, 3) := by decide +kernel
theorem dX10_meets_27 : decode cX10_meets 27 = .ok (.iload_n 1, 1) := by decide +kernel
theorem dX10_meets_28 : decode cX10_meets 28 = .ok (.iastore, 1) := by decide +kernel
theorem dX10_meets_29 : decode cX10_meets 29 = .ok (.aload_n 0, 1) := by decide +kernel
theorem dX10_meets_30 : decode cX10_meets 30 = .ok (.dup, 1) := by decide +kernel
theorem dX10_meets_31 : decode cX10_meets 31 = .ok (.getfield 164, 3) := by decide +kernel
theorem dX10_meets_34 : decode cX10_meets 34 = .ok (.iconst 1, 1) := by decide +kernel
theorem dX10_meets_35 : decode cX10_meets 35 = .ok (.iadd, 1) := by decide +kernel
theorem dX10_meets_36 : decode cX10_meets 36 = .ok (.putfield 164, 3) := by decide +kernel
theorem dX10_meets_39 : decode cX10_meets 39 = .ok (.aload_n 0, 1) := by decide +kernel
theorem dX10_meets_40 : decode cX10_meets 40 = .ok (.getfield 28, 3) := by decide +kernel
theorem dX10_meets_43 : decode cX10_meets 43 = .ok (.iload_n 1, 1) := by decide +kernel
theorem dX10_meets_44 : decode cX10_meets 44 = .ok (.iaload, 1) := by decide +kernel
theorem dX10_meets_45 : decode cX10_meets 45 = .ok (.ireturn, 1) := by decide +kernel
theorem dX10_explores_0 : decode cX10_explores 0 = .ok (.iconst 0, 1) := by decide +kernel
theorem dX10_explores_1 : decode cX10_explores 1 = .ok (.istore_n 2, 1) := by decide +kernel
theorem dX10_explores_2 : decode cX10_explores 2 = .ok (.iload_n 2, 1) := by decide +kernel
theorem dX10_explores_3 : decode cX10_explores 3 = .ok (.sipush 512, 3) := by decide +kernel
theorem dX10_explores_6 : decode cX10_explores 6 = .ok (.if_icmp .ge 16, 3) := by decide +kernel
theorem dX10_explores_9 : decode cX10_explores 9 = .ok (.aload_n 0, 1) := by decide +kernel
theorem dX10_explores_10 : decode cX10_explores 10 = .ok (.getfield 28, 3) := by decide +kernel
theorem dX10_explores_13 : decode cX10_explores 13 = .ok (.iload_n 2, 1) := by decide +kernel
theorem dX10_explores_14 : decode cX10_explores 14 = .ok (.iconst (-1), 1) := by decide +kernel
theorem dX10_explores_15 : decode cX10_explores 15 = .ok (.iastore, 1) := by decide +kernel
theorem dX10_explores_16 : decode cX10_explores 16 = .ok (.iinc 2 1, 3) := by decide +kernel
theorem dX10_explores_19 : decode cX10_explores 19 = .ok (.goto (-17), 3) := by decide +kernel
theorem dX10_explores_22 : decode cX10_explores 22 = .ok (.aload_n 0, 1) := by decide +kernel
theorem dX10_explores_23 : decode cX10_explores 23 = .ok (.iconst 0, 1) := by decide +kernel
theorem dX10_explores_24 : decode cX10_explores 24 = .ok (.putfield 164, 3) := by decide +kernel
theorem dX10_explores_27 : decode cX10_explores 27 = .ok (.aload_n 0, 1) := by decide +kernel
theorem dX10_explores_28 : decode cX10_explores 28 = .ok (.iconst 1, 1) := by decide +kernel
theorem dX10_explores_29 : decode cX10_explores 29 = .ok (.invokevirtual 167, 3) := by decide +kernel
theorem dX10_explores_32 : decode cX10_explores 32 = .ok (.istore_n 2, 1) := by decide +kernel
theorem dX10_explores_33 : decode cX10_explores 33 = .ok (.iload_n 2, 1) := by decide +kernel
theorem dX10_explores_34 : decode cX10_explores 34 = .ok (.istore_n 3, 1) := by decide +kernel
theorem dX10_explores_35 : decode cX10_explores 35 = .ok (.iload_n 3, 1) := by decide +kernel
theorem dX10_explores_36 : decode cX10_explores 36 = .ok (.aload_n 0, 1) := by decide +kernel
theorem dX10_explores_37 : decode cX10_explores 37 = .ok (.getfield 164, 3) := by decide +kernel
theorem dX10_explores_40 : decode cX10_explores 40 = .ok (.if_icmp .ge 95, 3) := by decide +kernel
theorem dX10_explores_43 : decode cX10_explores 43 = .ok (.iconst 0, 1) := by decide +kernel
theorem dX10_explores_44 : decode cX10_explores 44 = .ok (.istore 4, 2) := by decide +kernel
theorem dX10_explores_46 : decode cX10_explores 46 = .ok (.iload 4, 2) := by decide +kernel
theorem dX10_explores_48 : decode cX10_explores 48 = .ok (.aload_n 0, 1) := by decide +kernel
theorem dX10_explores_49 : decode cX10_explores 49 = .ok (.getfield 13, 3) := by decide +kernel
theorem dX10_explores_52 : decode cX10_explores 52 = .ok (.sipush 164, 3) := by decide +kernel
theorem dX10_explores_55 : decode cX10_explores 55 = .ok (.iaload, 1) := by decide +kernel
theorem dX10_explores_56 : decode cX10_explores 56 = .ok (.if_icmp .ge 73, 3) := by decide +kernel
theorem dX10_explores_59 : decode cX10_explores 59 = .ok (.aload_n 0, 1) := by decide +kernel
theorem dX10_explores_60 : decode cX10_explores 60 = .ok (.iload 4, 2) := by decide +kernel
theorem dX10_explores_62 : decode cX10_explores 62 = .ok (.invokevirtual 150, 3) := by decide +kernel
theorem dX10_explores_65 : decode cX10_explores 65 = .ok (.ifCond .eq 28, 3) := by decide +kernel
theorem dX10_explores_68 : decode cX10_explores 68 = .ok (.aload_n 0, 1) := by decide +kernel
theorem dX10_explores_69 : decode cX10_explores 69 = .ok (.iload 4, 2) := by decide +kernel
theorem dX10_explores_71 : decode cX10_explores 71 = .ok (.invokevirtual 121, 3) := by decide +kernel
theorem dX10_explores_74 : decode cX10_explores 74 = .ok (.ifCond .ne 19, 3) := by decide +kernel
theorem dX10_explores_77 : decode cX10_explores 77 = .ok (.aload_n 0, 1) := by decide +kernel
theorem dX10_explores_78 : decode cX10_explores 78 = .ok (.iload_n 1, 1) := by decide +kernel
theorem dX10_explores_79 : decode cX10_explores 79 = .ok (.aload_n 0, 1) := by decide +kernel
theorem dX10_explores_80 : decode cX10_explores 80 = .ok (.getfield 25, 3) := by decide +kernel
theorem dX10_explores_83 : decode cX10_explores 83 = .ok (.iload_n 3, 1) := by decide +kernel
theorem dX10_explores_84 : decode cX10_explores 84 = .ok (.iaload, 1) := by decide +kernel
theorem dX10_explores_85 : decode cX10_explores 85 = .ok (.iload 4, 2) := by decide +kernel
theorem dX10_explores_87 : decode cX10_explores 87 = .ok (.invokevirtual 153, 3) := by decide +kernel
theorem dX10_explores_90 : decode cX10_explores 90 = .ok (.goto 4, 3) := by decide +kernel
theorem dX10_explores_93 : decode cX10_explores 93 = .ok (.iconst 0, 1) := by decide +kernel
theorem dX10_explores_94 : decode cX10_explores 94 = .ok (.istore 5, 2) := by decide +kernel
theorem dX10_explores_96 : decode cX10_explores 96 = .ok (.aload_n 0, 1) := by decide +kernel
theorem dX10_explores_97 : decode cX10_explores 97 = .ok (.getfield 31, 3) := by decide +kernel
theorem dX10_explores_100 : decode cX10_explores 100 = .ok (.bipush 12, 2) := by decide +kernel
theorem dX10_explores_102 : decode cX10_explores 102 = .ok (.iload_n 3, 1) := by decide +kernel
theorem dX10_explores_103 : decode cX10_explores 103 = .ok (.imul, 1) := by decide +kernel
theorem dX10_explores_104 : decode cX10_explores 104 = .ok (.iload 4, 2) := by decide +kernel
theorem dX10_explores_106 : decode cX10_explores 106 = .ok (.iadd, 1) := by decide +kernel
theorem dX10_explores_107 : decode cX10_explores 107 = .ok (.iload 5, 2) := by decide +kernel
theorem dX10_explores_109 : decode cX10_explores 109 = .ok (.ifCond .le 12, 3) := by decide +kernel
theorem dX10_explores_112 : decode cX10_explores 112 = .ok (.aload_n 0, 1) := by decide +kernel
theorem dX10_explores_113 : decode cX10_explores 113 = .ok (.iload 5, 2) := by decide +kernel
theorem dX10_explores_115 : decode cX10_explores 115 = .ok (.invokevirtual 167, 3) := by decide +kernel
theorem dX10_explores_118 : decode cX10_explores 118 = .ok (.goto 4, 3) := by decide +kernel
theorem dX10_explores_121 : decode cX10_explores 121 = .ok (.iconst (-1), 1) := by decide +kernel
theorem dX10_explores_122 : decode cX10_explores 122 = .ok (.iastore, 1) := by decide +kernel
theorem dX10_explores_123 : decode cX10_explores 123 = .ok (.iinc 4 1, 3) := by decide +kernel
theorem dX10_explores_126 : decode cX10_explores 126 = .ok (.goto (-80), 3) := by decide +kernel
theorem dX10_explores_129 : decode cX10_explores 129 = .ok (.iinc 3 1, 3) := by decide +kernel
theorem dX10_explores_132 : decode cX10_explores 132 = .ok (.goto (-97), 3) := by decide +kernel
theorem dX10_explores_135 : decode cX10_explores 135 = .ok (.return_, 1) := by decide +kernel
theorem dX10_mosts_0 : decode cX10_mosts 0 = .ok (.aload_n 0, 1) := by decide +kernel
theorem dX10_mosts_1 : decode cX10_mosts 1 = .ok (.iload_n 1, 1) := by decide +kernel
theorem dX10_mosts_2 : decode cX10_mosts 2 = .ok (.invokevirtual 170, 3) := by decide +kernel
theorem dX10_mosts_5 : decode cX10_mosts 5 = .ok (.iconst 0, 1) := by decide +kernel
theorem dX10_mosts_6 : decode cX10_mosts 6 = .ok (.istore_n 2, 1) := by decide +kernel
theorem dX10_mosts_7 : decode cX10_mosts 7 = .ok (.iload_n 2, 1) := by decide +kernel
theorem dX10_mosts_8 : decode cX10_mosts 8 = .ok (.aload_n 0, 1) := by decide +kernel
theorem dX10_mosts_9 : decode cX10_mosts 9 = .ok (.getfield 164, 3) := by decide +kernel
theorem dX10_mosts_12 : decode cX10_mosts 12 = .ok (.if_icmp .ge 34, 3) := by decide +kernel
theorem dX10_mosts_15 : decode cX10_mosts 15 = .ok (.aload_n 0, 1) := by decide +kernel
theorem dX10_mosts_16 : decode cX10_mosts 16 = .ok (.getfield 34, 3) := by decide +kernel
theorem dX10_mosts_19 : decode cX10_mosts 19 = .ok (.iload_n 2, 1) := by decide +kernel
theorem dX10_mosts_20 : decode cX10_mosts 20 = .ok (.aload_n 0, 1) := by decide +kernel
theorem dX10_mosts_21 : decode cX10_mosts 21 = .ok (.iload_n 1, 1) := by decide +kernel
theorem dX10_mosts_22 : decode cX10_mosts 22 = .ok (.aload_n 0, 1) := by decide +kernel
theorem dX10_mosts_23 : decode cX10_mosts 23 = .ok (.getfield 25, 3) := by decide +kernel
theorem dX10_mosts_26 : decode cX10_mosts 26 = .ok (.iload_n 2, 1) := by decide +kernel
theorem dX10_mosts_27 : decode cX10_mosts 27 = .ok (.iaload, 1) := by decide +kernel
theorem dX10_mosts_28 : decode cX10_mosts 28 = .ok (.invokevirtual 157, 3) := by decide +kernel
theorem dX10_mosts_31 : decode cX10_mosts 31 = .ok (.ifCond .eq 7, 3) := by decide +kernel
theorem dX10_mosts_34 : decode cX10_mosts 34 = .ok (.iconst 0, 1) := by decide +kernel
theorem dX10_mosts_35 : decode cX10_mosts 35 = .ok (.goto 4, 3) := by decide +kernel
theorem dX10_mosts_38 : decode cX10_mosts 38 = .ok (.iconst (-1), 1) := by decide +kernel
theorem dX10_mosts_39 : decode cX10_mosts 39 = .ok (.iastore, 1) := by decide +kernel
theorem dX10_mosts_40 : decode cX10_mosts 40 = .ok (.iinc 2 1, 3) := by decide +kernel
theorem dX10_mosts_43 : decode cX10_mosts 43 = .ok (.goto (-36), 3) := by decide +kernel
theorem dX10_mosts_46 : decode cX10_mosts 46 = .ok (.iconst 1, 1) := by decide +kernel
theorem dX10_mosts_47 : decode cX10_mosts 47 = .ok (.istore_n 2, 1) := by decide +kernel
theorem dX10_mosts_48 : decode cX10_mosts 48 = .ok (.iload_n 2, 1) := by decide +kernel
theorem dX10_mosts_49 : decode cX10_mosts 49 = .ok (.bipush 10, 2) := by decide +kernel
theorem dX10_mosts_51 : decode cX10_mosts 51 = .ok (.if_icmp .ge 145, 3) := by decide +kernel
theorem dX10_mosts_54 : decode cX10_mosts 54 = .ok (.iconst 0, 1) := by decide +kernel
theorem dX10_mosts_55 : decode cX10_mosts 55 = .ok (.istore_n 3, 1) := by decide +kernel
theorem dX10_mosts_56 : decode cX10_mosts 56 = .ok (.iload_n 3, 1) := by decide +kernel
theorem dX10_mosts_57 : decode cX10_mosts 57 = .ok (.aload_n 0, 1) := by decide +kernel
theorem dX10_mosts_58 : decode cX10_mosts 58 = .ok (.getfield 164, 3) := by decide +kernel
theorem dX10_mosts_61 : decode cX10_mosts 61 = .ok (.if_icmp .ge 129, 3) := by decide +kernel
theorem dX10_mosts_64 : decode cX10_mosts 64 = .ok (.iconst (-1), 1) := by decide +kernel
theorem dX10_mosts_65 : decode cX10_mosts 65 = .ok (.istore 4, 2) := by decide +kernel
theorem dX10_mosts_67 : decode cX10_mosts 67 = .ok (.iconst 0, 1) := by decide +kernel
theorem dX10_mosts_68 : decode cX10_mosts 68 = .ok (.istore 5, 2) := by decide +kernel
theorem dX10_mosts_70 : decode cX10_mosts 70 = .ok (.iload 5, 2) := by decide +kernel
theorem dX10_mosts_72 : decode cX10_mosts 72 = .ok (.aload_n 0, 1) := by decide +kernel
theorem dX10_mosts_73 : decode cX10_mosts 73 = .ok (.getfield 13, 3) := by decide +kernel
theorem dX10_mosts_76 : decode cX10_mosts 76 = .ok (.sipush 164, 3) := by decide +kernel
theorem dX10_mosts_79 : decode cX10_mosts 79 = .ok (.iaload, 1) := by decide +kernel
theorem dX10_mosts_80 : decode cX10_mosts 80 = .ok (.if_icmp .ge 90, 3) := by decide +kernel
theorem dX10_mosts_83 : decode cX10_mosts 83 = .ok (.aload_n 0, 1) := by decide +kernel
theorem dX10_mosts_84 : decode cX10_mosts 84 = .ok (.getfield 31, 3) := by decide +kernel
theorem dX10_mosts_87 : decode cX10_mosts 87 = .ok (.bipush 12, 2) := by decide +kernel
theorem dX10_mosts_89 : decode cX10_mosts 89 = .ok (.iload_n 3, 1) := by decide +kernel
theorem dX10_mosts_90 : decode cX10_mosts 90 = .ok (.imul, 1) := by decide +kernel
theorem dX10_mosts_91 : decode cX10_mosts 91 = .ok (.iload 5, 2) := by decide +kernel
theorem dX10_mosts_93 : decode cX10_mosts 93 = .ok (.iadd, 1) := by decide +kernel
theorem dX10_mosts_94 : decode cX10_mosts 94 = .ok (.iaload, 1) := by decide +kernel
theorem dX10_mosts_95 : decode cX10_mosts 95 = .ok (.ifCond .lt 31, 3) := by decide +kernel
theorem dX10_mosts_98 : decode cX10_mosts 98 = .ok (.aload_n 0, 1) := by decide +kernel
theorem dX10_mosts_99 : decode cX10_mosts 99 = .ok (.getfield 34, 3) := by decide +kernel
theorem dX10_mosts_102 : decode cX10_mosts 102 = .ok (.sipush 512, 3) := by decide +kernel
theorem dX10_mosts_105 : decode cX10_mosts 105 = .ok (.iload_n 2, 1) := by decide +kernel
theorem dX10_mosts_106 : decode cX10_mosts 106 = .ok (.iconst 1, 1) := by decide +kernel
theorem dX10_mosts_107 : decode cX10_mosts 107 = .ok (.isub, 1) := by decide +kernel
theorem dX10_mosts_108 : decode cX10_mosts 108 = .ok (.imul, 1) := by decide +kernel
theorem dX10_mosts_109 : decode cX10_mosts 109 = .ok (.aload_n 0, 1) := by decide +kernel
theorem dX10_mosts_110 : decode cX10_mosts 110 = .ok (.getfield 31, 3) := by decide +kernel
theorem dX10_mosts_113 : decode cX10_mosts 113 = .ok (.bipush 12, 2) := by decide +kernel
theorem dX10_mosts_115 : decode cX10_mosts 115 = .ok (.iload_n 3, 1) := by decide +kernel
theorem dX10_mosts_116 : decode cX10_mosts 116 = .ok (.imul, 1) := by decide +kernel
theorem dX10_mosts_117 : decode cX10_mosts 117 = .ok (.iload 5, 2) := by decide +kernel
theorem dX10_mosts_119 : decode cX10_mosts 119 = .ok (.iadd, 1) := by decide +kernel
theorem dX10_mosts_120 : decode cX10_mosts 120 = .ok (.iaload, 1) := by decide +kernel
theorem dX10_mosts_121 : decode cX10_mosts 121 = .ok (.iadd, 1) := by decide +kernel
theorem dX10_mosts_122 : decode cX10_mosts 122 = .ok (.iaload, 1) := by decide +kernel
theorem dX10_mosts_123 : decode cX10_mosts 123 = .ok (.goto 4, 3) := by decide +kernel
theorem dX10_mosts_126 : decode cX10_mosts 126 = .ok (.iconst (-1), 1) := by decide +kernel
theorem dX10_mosts_127 : decode cX10_mosts 127 = .ok (.istore 6, 2) := by decide +kernel
theorem dX10_mosts_129 : decode cX10_mosts 129 = .ok (.iload 6, 2) := by decide +kernel
theorem dX10_mosts_131 : decode cX10_mosts 131 = .ok (.ifCond .lt 29, 3) := by decide +kernel
theorem dX10_mosts_134 : decode cX10_mosts 134 = .ok (.iload 6, 2) := by decide +kernel
theorem dX10_mosts_136 : decode cX10_mosts 136 = .ok (.aload_n 0, 1) := by decide +kernel
theorem dX10_mosts_137 : decode cX10_mosts 137 = .ok (.iload 5, 2) := by decide +kernel
theorem dX10_mosts_139 : decode cX10_mosts 139 = .ok (.invokevirtual 134, 3) := by decide +kernel
theorem dX10_mosts_142 : decode cX10_mosts 142 = .ok (.iadd, 1) := by decide +kernel
theorem dX10_mosts_143 : decode cX10_mosts 143 = .ok (.iload 4, 2) := by decide +kernel
theorem dX10_mosts_145 : decode cX10_mosts 145 = .ok (.if_icmp .le 15, 3) := by decide +kernel
theorem dX10_mosts_148 : decode cX10_mosts 148 = .ok (.iload 6, 2) := by decide +kernel
theorem dX10_mosts_150 : decode cX10_mosts 150 = .ok (.aload_n 0, 1) := by decide +kernel
theorem dX10_mosts_151 : decode cX10_mosts 151 = .ok (.iload 5, 2) := by decide +kernel
theorem dX10_mosts_153 : decode cX10_mosts 153 = .ok (.invokevirtual 134, 3) := by decide +kernel
theorem dX10_mosts_156 : decode cX10_mosts 156 = .ok (.iadd, 1) := by decide +kernel
theorem dX10_mosts_157 : decode cX10_mosts 157 = .ok (.goto 5, 3) := by decide +kernel
theorem dX10_mosts_160 : decode cX10_mosts 160 = .ok (.iload 4, 2) := by decide +kernel
theorem dX10_mosts_162 : decode cX10_mosts 162 = .ok (.istore 4, 2) := by decide +kernel
theorem dX10_mosts_164 : decode cX10_mosts 164 = .ok (.iinc 5 1, 3) := by decide +kernel
theorem dX10_mosts_167 : decode cX10_mosts 167 = .ok (.goto (-97), 3) := by decide +kernel
theorem dX10_mosts_170 : decode cX10_mosts 170 = .ok (.aload_n 0, 1) := by decide +kernel
theorem dX10_mosts_171 : decode cX10_mosts 171 = .ok (.getfield 34, 3) := by decide +kernel
theorem dX10_mosts_174 : decode cX10_mosts 174 = .ok (.sipush 512, 3) := by decide +kernel
theorem dX10_mosts_177 : decode cX10_mosts 177 = .ok (.iload_n 2, 1) := by decide +kernel
theorem dX10_mosts_178 : decode cX10_mosts 178 = .ok (.imul, 1) := by decide +kernel
theorem dX10_mosts_179 : decode cX10_mosts 179 = .ok (.iload_n 3, 1) := by decide +kernel
theorem dX10_mosts_180 : decode cX10_mosts 180 = .ok (.iadd, 1) := by decide +kernel
theorem dX10_mosts_181 : decode cX10_mosts 181 = .ok (.iload 4, 2) := by decide +kernel
theorem dX10_mosts_183 : decode cX10_mosts 183 = .ok (.iastore, 1) := by decide +kernel
theorem dX10_mosts_184 : decode cX10_mosts 184 = .ok (.iinc 3 1, 3) := by decide +kernel
theorem dX10_mosts_187 : decode cX10_mosts 187 = .ok (.goto (-131), 3) := by decide +kernel
theorem dX10_mosts_190 : decode cX10_mosts 190 = .ok (.iinc 2 1, 3) := by decide +kernel
theorem dX10_mosts_193 : decode cX10_mosts 193 = .ok (.goto (-145), 3) := by decide +kernel
theorem dX10_mosts_196 : decode cX10_mosts 196 = .ok (.return_, 1) := by decide +kernel
