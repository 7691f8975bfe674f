theorem dX9_least_0 : decode cX9_least 0 = .ok (.aload_n 0, 1) := by decide +kernel
theorem dX9_least_1 : decode cX9_least 1 = .ok (.getfield 53, 3) := by decide +kernel
theorem dX9_least_4 : decode cX9_least 4 = .ok (.iload_n 1, 1) := by decide +kernel
theorem dX9_least_5 : decode cX9_least 5 = .ok (.invokevirtual 155, 3) := by decide +kernel
theorem dX9_least_8 : decode cX9_least 8 = .ok (.astore_n 3, 1) := by decide +kernel
theorem dX9_least_9 : decode cX9_least 9 = .ok (.aload_n 3, 1) := by decide +kernel
theorem dX9_least_10 : decode cX9_least 10 = .ok (.ifnull 9, 3) := by decide +kernel
theorem dX9_least_13 : decode cX9_least 13 = .ok (.iload_n 2, 1) := by decide +kernel
theorem dX9_least_14 : decode cX9_least 14 = .ok (.bipush (-2), 2) := by decide +kernel
theorem dX9_least_16 : decode cX9_least 16 = .ok (.if_icmp .ge 5, 3) := by decide +kernel
theorem dX9_least_19 : decode cX9_least 19 = .ok (.iconst (-1), 1) := by decide +kernel
theorem dX9_least_20 : decode cX9_least 20 = .ok (.ireturn, 1) := by decide +kernel
theorem dX9_least_21 : decode cX9_least 21 = .ok (.aload_n 0, 1) := by decide +kernel
theorem dX9_least_22 : decode cX9_least 22 = .ok (.getfield 38, 3) := by decide +kernel
theorem dX9_least_25 : decode cX9_least 25 = .ok (.aload_n 0, 1) := by decide +kernel
theorem dX9_least_26 : decode cX9_least 26 = .ok (.getfield 53, 3) := by decide +kernel
theorem dX9_least_29 : decode cX9_least 29 = .ok (.invokevirtual 168, 3) := by decide +kernel
theorem dX9_least_32 : decode cX9_least 32 = .ok (.aload_n 0, 1) := by decide +kernel
theorem dX9_least_33 : decode cX9_least 33 = .ok (.getfield 38, 3) := by decide +kernel
theorem dX9_least_36 : decode cX9_least 36 = .ok (.iload_n 1, 1) := by decide +kernel
theorem dX9_least_37 : decode cX9_least 37 = .ok (.invokevirtual 179, 3) := by decide +kernel
theorem dX9_least_40 : decode cX9_least 40 = .ok (.astore 4, 2) := by decide +kernel
theorem dX9_least_42 : decode cX9_least 42 = .ok (.aload 4, 2) := by decide +kernel
theorem dX9_least_44 : decode cX9_least 44 = .ok (.ifnull 11, 3) := by decide +kernel
theorem dX9_least_47 : decode cX9_least 47 = .ok (.aload 4, 2) := by decide +kernel
theorem dX9_least_49 : decode cX9_least 49 = .ok (.invokevirtual 129, 3) := by decide +kernel
theorem dX9_least_52 : decode cX9_least 52 = .ok (.ifCond .ne 6, 3) := by decide +kernel
theorem dX9_least_55 : decode cX9_least 55 = .ok (.bipush (-4), 2) := by decide +kernel
theorem dX9_least_57 : decode cX9_least 57 = .ok (.ireturn, 1) := by decide +kernel
theorem dX9_least_58 : decode cX9_least 58 = .ok (.iload_n 2, 1) := by decide +kernel
theorem dX9_least_59 : decode cX9_least 59 = .ok (.iconst (-1), 1) := by decide +kernel
theorem dX9_least_60 : decode cX9_least 60 = .ok (.if_icmp .ne 9, 3) := by decide +kernel
theorem dX9_least_63 : decode cX9_least 63 = .ok (.aload 4, 2) := by decide +kernel
theorem dX9_least_65 : decode cX9_least 65 = .ok (.invokevirtual 129, 3) := by decide +kernel
theorem dX9_least_68 : decode cX9_least 68 = .ok (.ireturn, 1) := by decide +kernel
theorem dX9_least_69 : decode cX9_least 69 = .ok (.iload_n 2, 1) := by decide +kernel
theorem dX9_least_70 : decode cX9_least 70 = .ok (.bipush (-2), 2) := by decide +kernel
theorem dX9_least_72 : decode cX9_least 72 = .ok (.if_icmp .ne 21, 3) := by decide +kernel
theorem dX9_least_75 : decode cX9_least 75 = .ok (.aload_n 3, 1) := by decide +kernel
theorem dX9_least_76 : decode cX9_least 76 = .ok (.getfield 162, 3) := by decide +kernel
theorem dX9_least_79 : decode cX9_least 79 = .ok (.invokevirtual 71, 3) := by decide +kernel
theorem dX9_least_82 : decode cX9_least 82 = .ok (.aload_n 0, 1) := by decide +kernel
theorem dX9_least_83 : decode cX9_least 83 = .ok (.getfield 53, 3) := by decide +kernel
theorem dX9_least_86 : decode cX9_least 86 = .ok (.aload 4, 2) := by decide +kernel
theorem dX9_least_88 : decode cX9_least 88 = .ok (.invokevirtual 183, 3) := by decide +kernel
theorem dX9_least_91 : decode cX9_least 91 = .ok (.isub, 1) := by decide +kernel
theorem dX9_least_92 : decode cX9_least 92 = .ok (.ireturn, 1) := by decide +kernel
theorem dX9_least_93 : decode cX9_least 93 = .ok (.aload 4, 2) := by decide +kernel
theorem dX9_least_95 : decode cX9_least 95 = .ok (.iload_n 2, 1) := by decide +kernel
theorem dX9_least_96 : decode cX9_least 96 = .ok (.invokevirtual 187, 3) := by decide +kernel
theorem dX9_least_99 : decode cX9_least 99 = .ok (.ireturn, 1) := by decide +kernel
theorem dX9_mark_0 : decode cX9_mark 0 = .ok (.aload_n 0, 1) := by decide +kernel
theorem dX9_mark_1 : decode cX9_mark 1 = .ok (.getfield 53, 3) := by decide +kernel
theorem dX9_mark_4 : decode cX9_mark 4 = .ok (.iload_n 1, 1) := by decide +kernel
theorem dX9_mark_5 : decode cX9_mark 5 = .ok (.invokevirtual 155, 3) := by decide +kernel
theorem dX9_mark_8 : decode cX9_mark 8 = .ok (.astore_n 2, 1) := by decide +kernel
theorem dX9_mark_9 : decode cX9_mark 9 = .ok (.aload_n 2, 1) := by decide +kernel
theorem dX9_mark_10 : decode cX9_mark 10 = .ok (.ifnonnull 5, 3) := by decide +kernel
theorem dX9_mark_13 : decode cX9_mark 13 = .ok (.iconst (-1), 1) := by decide +kernel
theorem dX9_mark_14 : decode cX9_mark 14 = .ok (.ireturn, 1) := by decide +kernel
theorem dX9_mark_15 : decode cX9_mark 15 = .ok (.aload_n 0, 1) := by decide +kernel
theorem dX9_mark_16 : decode cX9_mark 16 = .ok (.getfield 38, 3) := by decide +kernel
theorem dX9_mark_19 : decode cX9_mark 19 = .ok (.aload_n 0, 1) := by decide +kernel
theorem dX9_mark_20 : decode cX9_mark 20 = .ok (.getfield 53, 3) := by decide +kernel
theorem dX9_mark_23 : decode cX9_mark 23 = .ok (.invokevirtual 168, 3) := by decide +kernel
theorem dX9_mark_26 : decode cX9_mark 26 = .ok (.aload_n 0, 1) := by decide +kernel
theorem dX9_mark_27 : decode cX9_mark 27 = .ok (.iload_n 1, 1) := by decide +kernel
theorem dX9_mark_28 : decode cX9_mark 28 = .ok (.invokevirtual 172, 3) := by decide +kernel
theorem dX9_mark_31 : decode cX9_mark 31 = .ok (.iconst 2, 1) := by decide +kernel
theorem dX9_mark_32 : decode cX9_mark 32 = .ok (.if_icmp .ne 17, 3) := by decide +kernel
theorem dX9_mark_35 : decode cX9_mark 35 = .ok (.aload_n 0, 1) := by decide +kernel
theorem dX9_mark_36 : decode cX9_mark 36 = .ok (.getfield 53, 3) := by decide +kernel
theorem dX9_mark_39 : decode cX9_mark 39 = .ok (.aload_n 2, 1) := by decide +kernel
theorem dX9_mark_40 : decode cX9_mark 40 = .ok (.getfield 159, 3) := by decide +kernel
theorem dX9_mark_43 : decode cX9_mark 43 = .ok (.invokevirtual 190, 3) := by decide +kernel
theorem dX9_mark_46 : decode cX9_mark 46 = .ok (.goto 5, 3) := by decide +kernel
theorem dX9_mark_49 : decode cX9_mark 49 = .ok (.bipush (-4), 2) := by decide +kernel
theorem dX9_mark_51 : decode cX9_mark 51 = .ok (.ireturn, 1) := by decide +kernel
theorem dX9_writings_0 : decode cX9_writings 0 = .ok (.aload_n 0, 1) := by decide +kernel
theorem dX9_writings_1 : decode cX9_writings 1 = .ok (.getfield 53, 3) := by decide +kernel
theorem dX9_writings_4 : decode cX9_writings 4 = .ok (.iload_n 1, 1) := by decide +kernel
theorem dX9_writings_5 : decode cX9_writings 5 = .ok (.invokevirtual 155, 3) := by decide +kernel
theorem dX9_writings_8 : decode cX9_writings 8 = .ok (.astore_n 2, 1) := by decide +kernel
theorem dX9_writings_9 : decode cX9_writings 9 = .ok (.aload_n 2, 1) := by decide +kernel
theorem dX9_writings_10 : decode cX9_writings 10 = .ok (.ifnonnull 7, 3) := by decide +kernel
theorem dX9_writings_13 : decode cX9_writings 13 = .ok (.ldc2_w 193, 3) := by decide +kernel
theorem dX9_writings_16 : decode cX9_writings 16 = .ok (.lreturn, 1) := by decide +kernel
theorem dX9_writings_17 : decode cX9_writings 17 = .ok (.aload_n 0, 1) := by decide +kernel
theorem dX9_writings_18 : decode cX9_writings 18 = .ok (.getfield 38, 3) := by decide +kernel
theorem dX9_writings_21 : decode cX9_writings 21 = .ok (.aload_n 0, 1) := by decide +kernel
theorem dX9_writings_22 : decode cX9_writings 22 = .ok (.getfield 53, 3) := by decide +kernel
theorem dX9_writings_25 : decode cX9_writings 25 = .ok (.aload_n 2, 1) := by decide +kernel
theorem dX9_writings_26 : decode cX9_writings 26 = .ok (.invokevirtual 195, 3) := by decide +kernel
theorem dX9_writings_29 : decode cX9_writings 29 = .ok (.iconst 1, 1) := by decide +kernel
theorem dX9_writings_30 : decode cX9_writings 30 = .ok (.aload_n 0, 1) := by decide +kernel
theorem dX9_writings_31 : decode cX9_writings 31 = .ok (.getfield 53, 3) := by decide +kernel
theorem dX9_writings_34 : decode cX9_writings 34 = .ok (.aload_n 2, 1) := by decide +kernel
theorem dX9_writings_35 : decode cX9_writings 35 = .ok (.getfield 159, 3) := by decide +kernel
theorem dX9_writings_38 : decode cX9_writings 38 = .ok (.invokevirtual 199, 3) := by decide +kernel
theorem dX9_writings_41 : decode cX9_writings 41 = .ok (.iadd, 1) := by decide +kernel
theorem dX9_writings_42 : decode cX9_writings 42 = .ok (.i2l, 1) := by decide +kernel
theorem dX9_writings_43 : decode cX9_writings 43 = .ok (.lmul, 1) := by decide +kernel
theorem dX9_writings_44 : decode cX9_writings 44 = .ok (.lreturn, 1) := by decide +kernel
theorem dX9_carved_0 : decode cX9_carved 0 = .ok (.iload_n 1, 1) := by decide +kernel
theorem dX9_carved_1 : decode cX9_carved 1 = .ok (.ifCond .ge 7, 3) := by decide +kernel
theorem dX9_carved_4 : decode cX9_carved 4 = .ok (.iconst (-1), 1) := by decide +kernel
theorem dX9_carved_5 : decode cX9_carved 5 = .ok (.goto 11, 3) := by decide +kernel
theorem dX9_carved_8 : decode cX9_carved 8 = .ok (.aload_n 0, 1) := by decide +kernel
theorem dX9_carved_9 : decode cX9_carved 9 = .ok (.getfield 21, 3) := by decide +kernel
theorem dX9_carved_12 : decode cX9_carved 12 = .ok (.iload_n 1, 1) := by decide +kernel
theorem dX9_carved_13 : decode cX9_carved 13 = .ok (.invokevirtual 187, 3) := by decide +kernel
theorem dX9_carved_16 : decode cX9_carved 16 = .ok (.ireturn, 1) := by decide +kernel
theorem dX9_read_0 : decode cX9_read 0 = .ok (.iload_n 1, 1) := by decide +kernel
theorem dX9_read_1 : decode cX9_read 1 = .ok (.ifCond .lt 14, 3) := by decide +kernel
theorem dX9_read_4 : decode cX9_read 4 = .ok (.iload_n 2, 1) := by decide +kernel
theorem dX9_read_5 : decode cX9_read 5 = .ok (.iconst 1, 1) := by decide +kernel
theorem dX9_read_6 : decode cX9_read 6 = .ok (.if_icmp .lt 9, 3) := by decide +kernel
theorem dX9_read_9 : decode cX9_read 9 = .ok (.iload_n 2, 1) := by decide +kernel
theorem dX9_read_10 : decode cX9_read 10 = .ok (.bipush 9, 2) := by decide +kernel
theorem dX9_read_12 : decode cX9_read 12 = .ok (.if_icmp .le 5, 3) := by decide +kernel
theorem dX9_read_15 : decode cX9_read 15 = .ok (.iconst (-1), 1) := by decide +kernel
theorem dX9_read_16 : decode cX9_read 16 = .ok (.ireturn, 1) := by decide +kernel
theorem dX9_read_17 : decode cX9_read 17 = .ok (.iload_n 1, 1) := by decide +kernel
theorem dX9_read_18 : decode cX9_read 18 = .ok (.aload_n 0, 1) := by decide +kernel
theorem dX9_read_19 : decode cX9_read 19 = .ok (.getfield 21, 3) := by decide +kernel
theorem dX9_read_22 : decode cX9_read 22 = .ok (.invokevirtual 129, 3) := by decide +kernel
theorem dX9_read_25 : decode cX9_read 25 = .ok (.iload_n 2, 1) := by decide +kernel
theorem dX9_read_26 : decode cX9_read 26 = .ok (.isub, 1) := by decide +kernel
theorem dX9_read_27 : decode cX9_read 27 = .ok (.if_icmp .le 6, 3) := by decide +kernel
theorem dX9_read_30 : decode cX9_read 30 = .ok (.bipush (-2), 2) := by decide +kernel
theorem dX9_read_32 : decode cX9_read 32 = .ok (.ireturn, 1) := by decide +kernel
theorem dX9_read_33 : decode cX9_read 33 = .ok (.aload_n 0, 1) := by decide +kernel
theorem dX9_read_34 : decode cX9_read 34 = .ok (.getfield 45, 3) := by decide +kernel
theorem dX9_read_37 : decode cX9_read 37 = .ok (.aload_n 0, 1) := by decide +kernel
theorem dX9_read_38 : decode cX9_read 38 = .ok (.getfield 53, 3) := by decide +kernel
theorem dX9_read_41 : decode cX9_read 41 = .ok (.aload_n 0, 1) := by decide +kernel
theorem dX9_read_42 : decode cX9_read 42 = .ok (.getfield 21, 3) := by decide +kernel
theorem dX9_read_45 : decode cX9_read 45 = .ok (.iload_n 1, 1) := by decide +kernel
theorem dX9_read_46 : decode cX9_read 46 = .ok (.invokevirtual 202, 3) := by decide +kernel
theorem dX9_read_49 : decode cX9_read 49 = .ok (.aload_n 0, 1) := by decide +kernel
theorem dX9_read_50 : decode cX9_read 50 = .ok (.getfield 45, 3) := by decide +kernel
theorem dX9_read_53 : decode cX9_read 53 = .ok (.iload_n 2, 1) := by decide +kernel
theorem dX9_read_54 : decode cX9_read 54 = .ok (.invokevirtual 206, 3) := by decide +kernel
theorem dX9_read_57 : decode cX9_read 57 = .ok (.ireturn, 1) := by decide +kernel
theorem dX9_readings_0 : decode cX9_readings 0 = .ok (.aload_n 0, 1) := by decide +kernel
theorem dX9_readings_1 : decode cX9_readings 1 = .ok (.getfield 45, 3) := by decide +kernel
theorem dX9_readings_4 : decode cX9_readings 4 = .ok (.aload_n 0, 1) := by decide +kernel
theorem dX9_readings_5 : decode cX9_readings 5 = .ok (.getfield 53, 3) := by decide +kernel
theorem dX9_readings_8 : decode cX9_readings 8 = .ok (.aload_n 0, 1) := by decide +kernel
theorem dX9_readings_9 : decode cX9_readings 9 = .ok (.getfield 21, 3) := by decide +kernel
theorem dX9_readings_12 : decode cX9_readings 12 = .ok (.invokevirtual 209, 3) := by decide +kernel
theorem dX9_readings_15 : decode cX9_readings 15 = .ok (.aload_n 0, 1) := by decide +kernel
theorem dX9_readings_16 : decode cX9_readings 16 = .ok (.getfield 45, 3) := by decide +kernel
theorem dX9_readings_19 : decode cX9_readings 19 = .ok (.invokevirtual 213, 3) := by decide +kernel
theorem dX9_readings_22 : decode cX9_readings 22 = .ok (.lreturn, 1) := by decide +kernel
theorem dX9_reading_0 : decode cX9_reading 0 = .ok (.iload_n 1, 1) := by decide +kernel
theorem dX9_reading_1 : decode cX9_reading 1 = .ok (.iconst (-1), 1) := by decide +kernel
theorem dX9_reading_2 : decode cX9_reading 2 = .ok (.if_icmp .ge 5, 3) := by decide +kernel
theorem dX9_reading_5 : decode cX9_reading 5 = .ok (.iconst (-1), 1) := by decide +kernel
theorem dX9_reading_6 : decode cX9_reading 6 = .ok (.ireturn, 1) := by decide +kernel
theorem dX9_reading_7 : decode cX9_reading 7 = .ok (.aload_n 0, 1) := by decide +kernel
theorem dX9_reading_8 : decode cX9_reading 8 = .ok (.getfield 45, 3) := by decide +kernel
theorem dX9_reading_11 : decode cX9_reading 11 = .ok (.aload_n 0, 1) := by decide +kernel
theorem dX9_reading_12 : decode cX9_reading 12 = .ok (.getfield 53, 3) := by decide +kernel
theorem dX9_reading_15 : decode cX9_reading 15 = .ok (.aload_n 0, 1) := by decide +kernel
theorem dX9_reading_16 : decode cX9_reading 16 = .ok (.getfield 21, 3) := by decide +kernel
theorem dX9_reading_19 : decode cX9_reading 19 = .ok (.invokevirtual 209, 3) := by decide +kernel
theorem dX9_reading_22 : decode cX9_reading 22 = .ok (.aload_n 0, 1) := by decide +kernel
theorem dX9_reading_23 : decode cX9_reading 23 = .ok (.getfield 45, 3) := by decide +kernel
theorem dX9_reading_26 : decode cX9_reading 26 = .ok (.invokevirtual 217, 3) := by decide +kernel
theorem dX9_reading_29 : decode cX9_reading 29 = .ok (.istore_n 2, 1) := by decide +kernel
theorem dX9_reading_30 : decode cX9_reading 30 = .ok (.iload_n 2, 1) := by decide +kernel
theorem dX9_reading_31 : decode cX9_reading 31 = .ok (.sipush 1000, 3) := by decide +kernel
theorem dX9_reading_34 : decode cX9_reading 34 = .ok (.if_icmp .lt 6, 3) := by decide +kernel
theorem dX9_reading_37 : decode cX9_reading 37 = .ok (.bipush (-4), 2) := by decide +kernel
theorem dX9_reading_39 : decode cX9_reading 39 = .ok (.ireturn, 1) := by decide +kernel
theorem dX9_reading_40 : decode cX9_reading 40 = .ok (.iload_n 1, 1) := by decide +kernel
theorem dX9_reading_41 : decode cX9_reading 41 = .ok (.iconst (-1), 1) := by decide +kernel
theorem dX9_reading_42 : decode cX9_reading 42 = .ok (.if_icmp .ne 7, 3) := by decide +kernel
theorem dX9_reading_45 : decode cX9_reading 45 = .ok (.iload_n 2, 1) := by decide +kernel
theorem dX9_reading_46 : decode cX9_reading 46 = .ok (.goto 11, 3) := by decide +kernel
theorem dX9_reading_49 : decode cX9_reading 49 = .ok (.aload_n 0, 1) := by decide +kernel
theorem dX9_reading_50 : decode cX9_reading 50 = .ok (.getfield 45, 3) := by decide +kernel
theorem dX9_reading_53 : decode cX9_reading 53 = .ok (.iload_n 1, 1) := by decide +kernel
theorem dX9_reading_54 : decode cX9_reading 54 = .ok (.invokevirtual 220, 3) := by decide +kernel
theorem dX9_reading_57 : decode cX9_reading 57 = .ok (.ireturn, 1) := by decide +kernel
theorem dX9_cut_0 : decode cX9_cut 0 = .ok (.iload_n 1, 1) := by decide +kernel
theorem dX9_cut_1 : decode cX9_cut 1 = .ok (.ifCond .ge 5, 3) := by decide +kernel
theorem dX9_cut_4 : decode cX9_cut 4 = .ok (.iconst (-1), 1) := by decide +kernel
theorem dX9_cut_5 : decode cX9_cut 5 = .ok (.ireturn, 1) := by decide +kernel
theorem dX9_cut_6 : decode cX9_cut 6 = .ok (.aload_n 0, 1) := by decide +kernel
theorem dX9_cut_7 : decode cX9_cut 7 = .ok (.getfield 45, 3) := by decide +kernel
theorem dX9_cut_10 : decode cX9_cut 10 = .ok (.aload_n 0, 1) := by decide +kernel
theorem dX9_cut_11 : decode cX9_cut 11 = .ok (.getfield 53, 3) := by decide +kernel
theorem dX9_cut_14 : decode cX9_cut 14 = .ok (.aload_n 0, 1) := by decide +kernel
theorem dX9_cut_15 : decode cX9_cut 15 = .ok (.getfield 21, 3) := by decide +kernel
theorem dX9_cut_18 : decode cX9_cut 18 = .ok (.invokevirtual 209, 3) := by decide +kernel
theorem dX9_cut_21 : decode cX9_cut 21 = .ok (.aload_n 0, 1) := by decide +kernel
theorem dX9_cut_22 : decode cX9_cut 22 = .ok (.getfield 45, 3) := by decide +kernel
theorem dX9_cut_25 : decode cX9_cut 25 = .ok (.iload_n 1, 1) := by decide +kernel
theorem dX9_cut_26 : decode cX9_cut 26 = .ok (.invokevirtual 223, 3) := by decide +kernel
theorem dX9_cut_29 : decode cX9_cut 29 = .ok (.ireturn, 1) := by decide +kernel
theorem dX9_count_0 : decode cX9_count 0 = .ok (.iload_n 1, 1) := by decide +kernel
theorem dX9_count_1 : decode cX9_count 1 = .ok (.tableswitch 123 0 9 #[55, 63, 71, 76, 84, 92, 97, 102, 107, 115], 55) := by decide +kernel
theorem dX9_count_56 : decode cX9_count 56 = .ok (.aload_n 0, 1) := by decide +kernel
theorem dX9_count_57 : decode cX9_count 57 = .ok (.getfield 53, 3) := by decide +kernel
theorem dX9_count_60 : decode cX9_count 60 = .ok (.getfield 84, 3) := by decide +kernel
theorem dX9_count_63 : decode cX9_count 63 = .ok (.ireturn, 1) := by decide +kernel
theorem dX9_count_64 : decode cX9_count 64 = .ok (.aload_n 0, 1) := by decide +kernel
theorem dX9_count_65 : decode cX9_count 65 = .ok (.getfield 53, 3) := by decide +kernel
theorem dX9_count_68 : decode cX9_count 68 = .ok (.getfield 88, 3) := by decide +kernel
theorem dX9_count_71 : decode cX9_count 71 = .ok (.ireturn, 1) := by decide +kernel
theorem dX9_count_72 : decode cX9_count 72 = .ok (.aload_n 0, 1) := by decide +kernel
theorem dX9_count_73 : decode cX9_count 73 = .ok (.invokevirtual 120, 3) := by decide +kernel
theorem dX9_count_76 : decode cX9_count 76 = .ok (.ireturn, 1) := by decide +kernel
theorem dX9_count_77 : decode cX9_count 77 = .ok (.aload_n 0, 1) := by decide +kernel
theorem dX9_count_78 : decode cX9_count 78 = .ok (.getfield 53, 3) := by decide +kernel
theorem dX9_count_81 : decode cX9_count 81 = .ok (.invokevirtual 114, 3) := by decide +kernel
theorem dX9_count_84 : decode cX9_count 84 = .ok (.ireturn, 1) := by decide +kernel
theorem dX9_count_85 : decode cX9_count 85 = .ok (.aload_n 0, 1) := by decide +kernel
theorem dX9_count_86 : decode cX9_count 86 = .ok (.getfield 21, 3) := by decide +kernel
theorem dX9_count_89 : decode cX9_count 89 = .ok (.invokevirtual 129, 3) := by decide +kernel
theorem dX9_count_92 : decode cX9_count 92 = .ok (.ireturn, 1) := by decide +kernel
theorem dX9_count_93 : decode cX9_count 93 = .ok (.aload_n 0, 1) := by decide +kernel
theorem dX9_count_94 : decode cX9_count 94 = .ok (.invokevirtual 226, 3) := by decide +kernel
theorem dX9_count_97 : decode cX9_count 97 = .ok (.ireturn, 1) := by decide +kernel
theorem dX9_count_98 : decode cX9_count 98 = .ok (.aload_n 0, 1) := by decide +kernel
theorem dX9_count_99 : decode cX9_count 99 = .ok (.invokevirtual 229, 3) := by decide +kernel
theorem dX9_count_102 : decode cX9_count 102 = .ok (.ireturn, 1) := by decide +kernel
theorem dX9_count_103 : decode cX9_count 103 = .ok (.aload_n 0, 1) := by decide +kernel
theorem dX9_count_104 : decode cX9_count 104 = .ok (.invokevirtual 232, 3) := by decide +kernel
theorem dX9_count_107 : decode cX9_count 107 = .ok (.ireturn, 1) := by decide +kernel
theorem dX9_count_108 : decode cX9_count 108 = .ok (.aload_n 0, 1) := by decide +kernel
theorem dX9_count_109 : decode cX9_count 109 = .ok (.getfield 31, 3) := by decide +kernel
theorem dX9_count_112 : decode cX9_count 112 = .ok (.invokevirtual 133, 3) := by decide +kernel
theorem dX9_count_115 : decode cX9_count 115 = .ok (.ireturn, 1) := by decide +kernel
theorem dX9_count_116 : decode cX9_count 116 = .ok (.aload_n 0, 1) := by decide +kernel
theorem dX9_count_117 : decode cX9_count 117 = .ok (.getfield 14, 3) := by decide +kernel
theorem dX9_count_120 : decode cX9_count 120 = .ok (.invokevirtual 71, 3) := by decide +kernel
theorem dX9_count_123 : decode cX9_count 123 = .ok (.ireturn, 1) := by decide +kernel
theorem dX9_count_124 : decode cX9_count 124 = .ok (.iconst (-1), 1) := by decide +kernel
theorem dX9_count_125 : decode cX9_count 125 = .ok (.ireturn, 1) := by decide +kernel
theorem dX9_firstLexicon_0 : decode cX9_firstLexicon 0 = .ok (.new 7, 3) := by decide +kernel
theorem dX9_firstLexicon_3 : decode cX9_firstLexicon 3 = .ok (.dup, 1) := by decide +kernel
theorem dX9_firstLexicon_4 : decode cX9_firstLexicon 4 = .ok (.ldc 235, 2) := by decide +kernel
theorem dX9_firstLexicon_6 : decode cX9_firstLexicon 6 = .ok (.invokevirtual 237, 3) := by decide +kernel
theorem dX9_firstLexicon_9 : decode cX9_firstLexicon 9 = .ok (.invokespecial 11, 3) := by decide +kernel
theorem dX9_firstLexicon_12 : decode cX9_firstLexicon 12 = .ok (.astore_n 0, 1) := by decide +kernel
theorem dX9_firstLexicon_13 : decode cX9_firstLexicon 13 = .ok (.iconst 0, 1) := by decide +kernel
theorem dX9_firstLexicon_14 : decode cX9_firstLexicon 14 = .ok (.istore_n 1, 1) := by decide +kernel
theorem dX9_firstLexicon_15 : decode cX9_firstLexicon 15 = .ok (.iload_n 1, 1) := by decide +kernel
theorem dX9_firstLexicon_16 : decode cX9_firstLexicon 16 = .ok (.ldc 235, 2) := by decide +kernel
theorem dX9_firstLexicon_18 : decode cX9_firstLexicon 18 = .ok (.invokevirtual 237, 3) := by decide +kernel
theorem dX9_firstLexicon_21 : decode cX9_firstLexicon 21 = .ok (.if_icmp .ge 19, 3) := by decide +kernel
theorem dX9_firstLexicon_24 : decode cX9_firstLexicon 24 = .ok (.aload_n 0, 1) := by decide +kernel
theorem dX9_firstLexicon_25 : decode cX9_firstLexicon 25 = .ok (.ldc 235, 2) := by decide +kernel
theorem dX9_firstLexicon_27 : decode cX9_firstLexicon 27 = .ok (.iload_n 1, 1) := by decide +kernel
theorem dX9_firstLexicon_28 : decode cX9_firstLexicon 28 = .ok (.invokevirtual 242, 3) := by decide +kernel
theorem dX9_firstLexicon_31 : decode cX9_firstLexicon 31 = .ok (.invokevirtual 67, 3) := by decide +kernel
theorem dX9_firstLexicon_34 : decode cX9_firstLexicon 34 = .ok (.iinc 1 1, 3) := by decide +kernel
theorem dX9_firstLexicon_37 : decode cX9_firstLexicon 37 = .ok (.goto (-22), 3) := by decide +kernel
theorem dX9_firstLexicon_40 : decode cX9_firstLexicon 40 = .ok (.new 57, 3) := by decide +kernel
theorem dX9_firstLexicon_43 : decode cX9_firstLexicon 43 = .ok (.dup, 1) := by decide +kernel
theorem dX9_firstLexicon_44 : decode cX9_firstLexicon 44 = .ok (.invokespecial 59, 3) := by decide +kernel
theorem dX9_firstLexicon_47 : decode cX9_firstLexicon 47 = .ok (.astore_n 1, 1) := by decide +kernel
theorem dX9_firstLexicon_48 : decode cX9_firstLexicon 48 = .ok (.aload_n 0, 1) := by decide +kernel
theorem dX9_firstLexicon_49 : decode cX9_firstLexicon 49 = .ok (.aload_n 1, 1) := by decide +kernel
theorem dX9_firstLexicon_50 : decode cX9_firstLexicon 50 = .ok (.invokestatic 78, 3) := by decide +kernel
theorem dX9_firstLexicon_53 : decode cX9_firstLexicon 53 = .ok (.pop, 1) := by decide +kernel
theorem dX9_firstLexicon_54 : decode cX9_firstLexicon 54 = .ok (.aload_n 1, 1) := by decide +kernel
theorem dX9_firstLexicon_55 : decode cX9_firstLexicon 55 = .ok (.areturn, 1) := by decide +kernel
theorem dX9_turn_0 : decode cX9_turn 0 = .ok (.aload_n 1, 1) := by decide +kernel
theorem dX9_turn_1 : decode cX9_turn 1 = .ok (.ifnull 26, 3) := by decide +kernel
theorem dX9_turn_4 : decode cX9_turn 4 = .ok (.aload_n 1, 1) := by decide +kernel
theorem dX9_turn_5 : decode cX9_turn 5 = .ok (.aload_n 1, 1) := by decide +kernel
theorem dX9_turn_6 : decode cX9_turn 6 = .ok (.getfield 100, 3) := by decide +kernel
theorem dX9_turn_9 : decode cX9_turn 9 = .ok (.ifCond .ne 7, 3) := by decide +kernel
theorem dX9_turn_12 : decode cX9_turn 12 = .ok (.iconst 1, 1) := by decide +kernel
theorem dX9_turn_13 : decode cX9_turn 13 = .ok (.goto 4, 3) := by decide +kernel
theorem dX9_turn_16 : decode cX9_turn 16 = .ok (.iconst 0, 1) := by decide +kernel
theorem dX9_turn_17 : decode cX9_turn 17 = .ok (.putfield 100, 3) := by decide +kernel
theorem dX9_turn_20 : decode cX9_turn 20 = .ok (.aload_n 0, 1) := by decide +kernel
theorem dX9_turn_21 : decode cX9_turn 21 = .ok (.getfield 38, 3) := by decide +kernel
theorem dX9_turn_24 : decode cX9_turn 24 = .ok (.invokevirtual 93, 3) := by decide +kernel
theorem dX9_turn_27 : decode cX9_turn 27 = .ok (.return_, 1) := by decide +kernel
theorem dX9_turnLaw_0 : decode cX9_turnLaw 0 = .ok (.aload_n 0, 1) := by decide +kernel
theorem dX9_turnLaw_1 : decode cX9_turnLaw 1 = .ok (.getfield 53, 3) := by decide +kernel
theorem dX9_turnLaw_4 : decode cX9_turnLaw 4 = .ok (.aload_n 0, 1) := by decide +kernel
theorem dX9_turnLaw_5 : decode cX9_turnLaw 5 = .ok (.getfield 53, 3) := by decide +kernel
theorem dX9_turnLaw_8 : decode cX9_turnLaw 8 = .ok (.getfield 117, 3) := by decide +kernel
theorem dX9_turnLaw_11 : decode cX9_turnLaw 11 = .ok (.ifCond .ne 7, 3) := by decide +kernel
theorem dX9_turnLaw_14 : decode cX9_turnLaw 14 = .ok (.iconst 1, 1) := by decide +kernel
theorem dX9_turnLaw_15 : decode cX9_turnLaw 15 = .ok (.goto 4, 3) := by decide +kernel
theorem dX9_turnLaw_18 : decode cX9_turnLaw 18 = .ok (.iconst 0, 1) := by decide +kernel
theorem dX9_turnLaw_19 : decode cX9_turnLaw 19 = .ok (.putfield 117, 3) := by decide +kernel
theorem dX9_turnLaw_22 : decode cX9_turnLaw 22 = .ok (.aload_n 0, 1) := by decide +kernel
theorem dX9_turnLaw_23 : decode cX9_turnLaw 23 = .ok (.getfield 38, 3) := by decide +kernel
theorem dX9_turnLaw_26 : decode cX9_turnLaw 26 = .ok (.invokevirtual 93, 3) := by decide +kernel
theorem dX9_turnLaw_29 : decode cX9_turnLaw 29 = .ok (.return_, 1) := by decide +kernel
theorem dX9_lawNumber_0 : decode cX9_lawNumber 0 = .ok (.aload_n 0, 1) := by decide +kernel
theorem dX9_lawNumber_1 : decode cX9_lawNumber 1 = .ok (.getfield 53, 3) := by decide +kernel
theorem dX9_lawNumber_4 : decode cX9_lawNumber 4 = .ok (.getfield 117, 3) := by decide +kernel
theorem dX9_lawNumber_7 : decode cX9_lawNumber 7 = .ok (.ifCond .eq 7, 3) := by decide +kernel
theorem dX9_lawNumber_10 : decode cX9_lawNumber 10 = .ok (.iconst 1, 1) := by decide +kernel
theorem dX9_lawNumber_11 : decode cX9_lawNumber 11 = .ok (.goto 4, 3) := by decide +kernel
theorem dX9_lawNumber_14 : decode cX9_lawNumber 14 = .ok (.iconst 0, 1) := by decide +kernel
theorem dX9_lawNumber_15 : decode cX9_lawNumber 15 = .ok (.ireturn, 1) := by decide +kernel
theorem dX9_leastWritingsWith_0 : decode cX9_leastWritingsWith 0 = .ok (.aload_n 0, 1) := by decide +kernel
theorem dX9_leastWritingsWith_1 : decode cX9_leastWritingsWith 1 = .ok (.getfield 38, 3) := by decide +kernel
theorem dX9_leastWritingsWith_4 : decode cX9_leastWritingsWith 4 = .ok (.aload_n 0, 1) := by decide +kernel
theorem dX9_leastWritingsWith_5 : decode cX9_leastWritingsWith 5 = .ok (.getfield 53, 3) := by decide +kernel
theorem dX9_leastWritingsWith_8 : decode cX9_leastWritingsWith 8 = .ok (.invokevirtual 168, 3) := by decide +kernel
theorem dX9_leastWritingsWith_11 : decode cX9_leastWritingsWith 11 = .ok (.iconst 0, 1) := by decide +kernel
theorem dX9_leastWritingsWith_12 : decode cX9_leastWritingsWith 12 = .ok (.istore_n 2, 1) := by decide +kernel
theorem dX9_leastWritingsWith_13 : decode cX9_leastWritingsWith 13 = .ok (.iconst 0, 1) := by decide +kernel
theorem dX9_leastWritingsWith_14 : decode cX9_leastWritingsWith 14 = .ok (.istore_n 3, 1) := by decide +kernel
theorem dX9_leastWritingsWith_15 : decode cX9_leastWritingsWith 15 = .ok (.iload_n 3, 1) := by decide +kernel
theorem dX9_leastWritingsWith_16 : decode cX9_leastWritingsWith 16 = .ok (.aload_n 0, 1) := by decide +kernel
theorem dX9_leastWritingsWith_17 : decode cX9_leastWritingsWith 17 = .ok (.getfield 53, 3) := by decide +kernel
theorem dX9_leastWritingsWith_20 : decode cX9_leastWritingsWith 20 = .ok (.getfield 88, 3) := by decide +kernel
theorem dX9_leastWritingsWith_23 : decode cX9_leastWritingsWith 23 = .ok (.if_icmp .ge 36, 3) := by decide +kernel
theorem dX9_leastWritingsWith_26 : decode cX9_leastWritingsWith 26 = .ok (.aload_n 0, 1) := by decide +kernel
theorem dX9_leastWritingsWith_27 : decode cX9_leastWritingsWith 27 = .ok (.getfield 38, 3) := by decide +kernel
theorem dX9_leastWritingsWith_30 : decode cX9_leastWritingsWith 30 = .ok (.iload_n 3, 1) := by decide +kernel
theorem dX9_leastWritingsWith_31 : decode cX9_leastWritingsWith 31 = .ok (.invokevirtual 179, 3) := by decide +kernel
theorem dX9_leastWritingsWith_34 : decode cX9_leastWritingsWith 34 = .ok (.astore 4, 2) := by decide +kernel
theorem dX9_leastWritingsWith_36 : decode cX9_leastWritingsWith 36 = .ok (.aload 4, 2) := by decide +kernel
theorem dX9_leastWritingsWith_38 : decode cX9_leastWritingsWith 38 = .ok (.ifnull 15, 3) := by decide +kernel
theorem dX9_leastWritingsWith_41 : decode cX9_leastWritingsWith 41 = .ok (.aload 4, 2) := by decide +kernel
theorem dX9_leastWritingsWith_43 : decode cX9_leastWritingsWith 43 = .ok (.iload_n 1, 1) := by decide +kernel
theorem dX9_leastWritingsWith_44 : decode cX9_leastWritingsWith 44 = .ok (.invokevirtual 246, 3) := by decide +kernel
theorem dX9_leastWritingsWith_47 : decode cX9_leastWritingsWith 47 = .ok (.ifCond .eq 6, 3) := by decide +kernel
theorem dX9_leastWritingsWith_50 : decode cX9_leastWritingsWith 50 = .ok (.iinc 2 1, 3) := by decide +kernel
theorem dX9_leastWritingsWith_53 : decode cX9_leastWritingsWith 53 = .ok (.iinc 3 1, 3) := by decide +kernel
theorem dX9_leastWritingsWith_56 : decode cX9_leastWritingsWith 56 = .ok (.goto (-41), 3) := by decide +kernel
theorem dX9_leastWritingsWith_59 : decode cX9_leastWritingsWith 59 = .ok (.iload_n 2, 1) := by decide +kernel
theorem dX9_leastWritingsWith_60 : decode cX9_leastWritingsWith 60 = .ok (.ireturn, 1) := by decide +kernel
theorem dX9_clearness_0 : decode cX9_clearness 0 = .ok (.aload_n 0, 1) := by decide +kernel
theorem dX9_clearness_1 : decode cX9_clearness 1 = .ok (.getfield 38, 3) := by decide +kernel
theorem dX9_clearness_4 : decode cX9_clearness 4 = .ok (.iload_n 1, 1) := by decide +kernel
theorem dX9_clearness_5 : decode cX9_clearness 5 = .ok (.invokevirtual 179, 3) := by decide +kernel
theorem dX9_clearness_8 : decode cX9_clearness 8 = .ok (.astore_n 2, 1) := by decide +kernel
theorem dX9_clearness_9 : decode cX9_clearness 9 = .ok (.aload_n 0, 1) := by decide +kernel
theorem dX9_clearness_10 : decode cX9_clearness 10 = .ok (.getfield 53, 3) := by decide +kernel
theorem dX9_clearness_13 : decode cX9_clearness 13 = .ok (.iload_n 1, 1) := by decide +kernel
theorem dX9_clearness_14 : decode cX9_clearness 14 = .ok (.invokevirtual 155, 3) := by decide +kernel
theorem dX9_clearness_17 : decode cX9_clearness 17 = .ok (.astore_n 3, 1) := by decide +kernel
theorem dX9_clearness_18 : decode cX9_clearness 18 = .ok (.aload_n 2, 1) := by decide +kernel
theorem dX9_clearness_19 : decode cX9_clearness 19 = .ok (.ifnull 14, 3) := by decide +kernel
theorem dX9_clearness_22 : decode cX9_clearness 22 = .ok (.aload_n 3, 1) := by decide +kernel
theorem dX9_clearness_23 : decode cX9_clearness 23 = .ok (.ifnull 10, 3) := by decide +kernel
theorem dX9_clearness_26 : decode cX9_clearness 26 = .ok (.aload_n 2, 1) := by decide +kernel
theorem dX9_clearness_27 : decode cX9_clearness 27 = .ok (.invokevirtual 129, 3) := by decide +kernel
theorem dX9_clearness_30 : decode cX9_clearness 30 = .ok (.ifCond .ne 5, 3) := by decide +kernel
theorem dX9_clearness_33 : decode cX9_clearness 33 = .ok (.iconst 0, 1) := by decide +kernel
theorem dX9_clearness_34 : decode cX9_clearness 34 = .ok (.ireturn, 1) := by decide +kernel
theorem dX9_clearness_35 : decode cX9_clearness 35 = .ok (.iconst 1, 1) := by decide +kernel
theorem dX9_clearness_36 : decode cX9_clearness 36 = .ok (.iload_n 1, 1) := by decide +kernel
theorem dX9_clearness_37 : decode cX9_clearness 37 = .ok (.ishl, 1) := by decide +kernel
theorem dX9_clearness_38 : decode cX9_clearness 38 = .ok (.istore 4, 2) := by decide +kernel
theorem dX9_clearness_40 : decode cX9_clearness 40 = .ok (.aload_n 0, 1) := by decide +kernel
theorem dX9_clearness_41 : decode cX9_clearness 41 = .ok (.getfield 45, 3) := by decide +kernel
theorem dX9_clearness_44 : decode cX9_clearness 44 = .ok (.aload_n 0, 1) := by decide +kernel
theorem dX9_clearness_45 : decode cX9_clearness 45 = .ok (.getfield 53, 3) := by decide +kernel
theorem dX9_clearness_48 : decode cX9_clearness 48 = .ok (.aload_n 2, 1) := by decide +kernel
theorem dX9_clearness_49 : decode cX9_clearness 49 = .ok (.iconst 0, 1) := by decide +kernel
theorem dX9_clearness_50 : decode cX9_clearness 50 = .ok (.invokevirtual 202, 3) := by decide +kernel
theorem dX9_clearness_53 : decode cX9_clearness 53 = .ok (.aload_n 0, 1) := by decide +kernel
theorem dX9_clearness_54 : decode cX9_clearness 54 = .ok (.getfield 45, 3) := by decide +kernel
theorem dX9_clearness_57 : decode cX9_clearness 57 = .ok (.aload_n 2, 1) := by decide +kernel
theorem dX9_clearness_58 : decode cX9_clearness 58 = .ok (.invokevirtual 129, 3) := by decide +kernel
theorem dX9_clearness_61 : decode cX9_clearness 61 = .ok (.invokevirtual 206, 3) := by decide +kernel
theorem dX9_clearness_64 : decode cX9_clearness 64 = .ok (.iload 4, 2) := by decide +kernel
theorem dX9_clearness_66 : decode cX9_clearness 66 = .ok (.if_icmp .ne 5, 3) := by decide +kernel
theorem dX9_clearness_69 : decode cX9_clearness 69 = .ok (.iconst 1, 1) := by decide +kernel
theorem dX9_clearness_70 : decode cX9_clearness 70 = .ok (.ireturn, 1) := by decide +kernel
theorem dX9_clearness_71 : decode cX9_clearness 71 = .ok (.aload_n 0, 1) := by decide +kernel
theorem dX9_clearness_72 : decode cX9_clearness 72 = .ok (.getfield 53, 3) := by decide +kernel
theorem dX9_clearness_75 : decode cX9_clearness 75 = .ok (.aload_n 3, 1) := by decide +kernel
theorem dX9_clearness_76 : decode cX9_clearness 76 = .ok (.getfield 159, 3) := by decide +kernel
theorem dX9_clearness_79 : decode cX9_clearness 79 = .ok (.invokevirtual 190, 3) := by decide +kernel
theorem dX9_clearness_82 : decode cX9_clearness 82 = .ok (.istore 5, 2) := by decide +kernel
theorem dX9_clearness_84 : decode cX9_clearness 84 = .ok (.iload 5, 2) := by decide +kernel
theorem dX9_clearness_86 : decode cX9_clearness 86 = .ok (.bipush (-4), 2) := by decide +kernel
theorem dX9_clearness_88 : decode cX9_clearness 88 = .ok (.if_icmp .ne 5, 3) := by decide +kernel
theorem dX9_clearness_91 : decode cX9_clearness 91 = .ok (.iconst 0, 1) := by decide +kernel
theorem dX9_clearness_92 : decode cX9_clearness 92 = .ok (.ireturn, 1) := by decide +kernel
theorem dX9_clearness_93 : decode cX9_clearness 93 = .ok (.aload_n 0, 1) := by decide +kernel
theorem dX9_clearness_94 : decode cX9_clearness 94 = .ok (.getfield 25, 3) := by decide +kernel
theorem dX9_clearness_97 : decode cX9_clearness 97 = .ok (.aload_n 2, 1) := by decide +kernel
theorem dX9_clearness_98 : decode cX9_clearness 98 = .ok (.invokevirtual 250, 3) := by decide +kernel
theorem dX9_clearness_101 : decode cX9_clearness 101 = .ok (.aload_n 0, 1) := by decide +kernel
theorem dX9_clearness_102 : decode cX9_clearness 102 = .ok (.getfield 25, 3) := by decide +kernel
theorem dX9_clearness_105 : decode cX9_clearness 105 = .ok (.iload 5, 2) := by decide +kernel
theorem dX9_clearness_107 : decode cX9_clearness 107 = .ok (.invokevirtual 127, 3) := by decide +kernel
theorem dX9_clearness_110 : decode cX9_clearness 110 = .ok (.aload_n 0, 1) := by decide +kernel
theorem dX9_clearness_111 : decode cX9_clearness 111 = .ok (.getfield 45, 3) := by decide +kernel
theorem dX9_clearness_114 : decode cX9_clearness 114 = .ok (.aload_n 0, 1) := by decide +kernel
theorem dX9_clearness_115 : decode cX9_clearness 115 = .ok (.getfield 53, 3) := by decide +kernel
theorem dX9_clearness_118 : decode cX9_clearness 118 = .ok (.aload_n 0, 1) := by decide +kernel
theorem dX9_clearness_119 : decode cX9_clearness 119 = .ok (.getfield 25, 3) := by decide +kernel
theorem dX9_clearness_122 : decode cX9_clearness 122 = .ok (.iconst 0, 1) := by decide +kernel
theorem dX9_clearness_123 : decode cX9_clearness 123 = .ok (.invokevirtual 202, 3) := by decide +kernel
theorem dX9_clearness_126 : decode cX9_clearness 126 = .ok (.aload_n 0, 1) := by decide +kernel
theorem dX9_clearness_127 : decode cX9_clearness 127 = .ok (.getfield 45, 3) := by decide +kernel
theorem dX9_clearness_130 : decode cX9_clearness 130 = .ok (.aload_n 0, 1) := by decide +kernel
theorem dX9_clearness_131 : decode cX9_clearness 131 = .ok (.getfield 25, 3) := by decide +kernel
theorem dX9_clearness_134 : decode cX9_clearness 134 = .ok (.invokevirtual 129, 3) := by decide +kernel
theorem dX9_clearness_137 : decode cX9_clearness 137 = .ok (.invokevirtual 206, 3) := by decide +kernel
theorem dX9_clearness_140 : decode cX9_clearness 140 = .ok (.iload 4, 2) := by decide +kernel
theorem dX9_clearness_142 : decode cX9_clearness 142 = .ok (.if_icmp .ne 7, 3) := by decide +kernel
theorem dX9_clearness_145 : decode cX9_clearness 145 = .ok (.iconst 2, 1) := by decide +kernel
theorem dX9_clearness_146 : decode cX9_clearness 146 = .ok (.goto 4, 3) := by decide +kernel
theorem dX9_clearness_149 : decode cX9_clearness 149 = .ok (.iconst 0, 1) := by decide +kernel
theorem dX9_clearness_150 : decode cX9_clearness 150 = .ok (.ireturn, 1) := by decide +kernel
theorem dX9_mixedWith_0 : decode cX9_mixedWith 0 = .ok (.aload_n 0, 1) := by decide +kernel
theorem dX9_mixedWith_1 : decode cX9_mixedWith 1 = .ok (.getfield 38, 3) := by decide +kernel
theorem dX9_mixedWith_4 : decode cX9_mixedWith 4 = .ok (.iload_n 1, 1) := by decide +kernel
theorem dX9_mixedWith_5 : decode cX9_mixedWith 5 = .ok (.invokevirtual 179, 3) := by decide +kernel
theorem dX9_mixedWith_8 : decode cX9_mixedWith 8 = .ok (.astore_n 3, 1) := by decide +kernel
theorem dX9_mixedWith_9 : decode cX9_mixedWith 9 = .ok (.aload_n 3, 1) := by decide +kernel
theorem dX9_mixedWith_10 : decode cX9_mixedWith 10 = .ok (.ifnull 10, 3) := by decide +kernel
theorem dX9_mixedWith_13 : decode cX9_mixedWith 13 = .ok (.aload_n 3, 1) := by decide +kernel
theorem dX9_mixedWith_14 : decode cX9_mixedWith 14 = .ok (.invokevirtual 129, 3) := by decide +kernel
theorem dX9_mixedWith_17 : decode cX9_mixedWith 17 = .ok (.ifCond .ne 5, 3) := by decide +kernel
theorem dX9_mixedWith_20 : decode cX9_mixedWith 20 = .ok (.iconst 0, 1) := by decide +kernel
theorem dX9_mixedWith_21 : decode cX9_mixedWith 21 = .ok (.ireturn, 1) := by decide +kernel
theorem dX9_mixedWith_22 : decode cX9_mixedWith 22 = .ok (.iconst 0, 1) := by decide +kernel
theorem dX9_mixedWith_23 : decode cX9_mixedWith 23 = .ok (.istore 4, 2) := by decide +kernel
theorem dX9_mixedWith_25 : decode cX9_mixedWith 25 = .ok (.iload_n 2, 1) := by decide +kernel
theorem dX9_mixedWith_26 : decode cX9_mixedWith 26 = .ok (.istore 5, 2) := by decide +kernel
theorem dX9_mixedWith_28 : decode cX9_mixedWith 28 = .ok (.iload 5, 2) := by decide +kernel
theorem dX9_mixedWith_30 : decode cX9_mixedWith 30 = .ok (.aload_n 0, 1) := by decide +kernel
theorem dX9_mixedWith_31 : decode cX9_mixedWith 31 = .ok (.getfield 53, 3) := by decide +kernel
theorem dX9_mixedWith_34 : decode cX9_mixedWith 34 = .ok (.getfield 88, 3) := by decide +kernel
theorem dX9_mixedWith_37 : decode cX9_mixedWith 37 = .ok (.if_icmp .ge 43, 3) := by decide +kernel
theorem dX9_mixedWith_40 : decode cX9_mixedWith 40 = .ok (.aload_n 0, 1) := by decide +kernel
theorem dX9_mixedWith_41 : decode cX9_mixedWith 41 = .ok (.getfield 38, 3) := by decide +kernel
theorem dX9_mixedWith_44 : decode cX9_mixedWith 44 = .ok (.iload 5, 2) := by decide +kernel
theorem dX9_mixedWith_46 : decode cX9_mixedWith 46 = .ok (.invokevirtual 179, 3) := by decide +kernel
theorem dX9_mixedWith_49 : decode cX9_mixedWith 49 = .ok (.astore 6, 2) := by decide +kernel
theorem dX9_mixedWith_51 : decode cX9_mixedWith 51 = .ok (.iload 5, 2) := by decide +kernel
theorem dX9_mixedWith_53 : decode cX9_mixedWith 53 = .ok (.iload_n 1, 1) := by decide +kernel
theorem dX9_mixedWith_54 : decode cX9_mixedWith 54 = .ok (.if_icmp .eq 20, 3) := by decide +kernel
theorem dX9_mixedWith_57 : decode cX9_mixedWith 57 = .ok (.aload 6, 2) := by decide +kernel
theorem dX9_mixedWith_59 : decode cX9_mixedWith 59 = .ok (.ifnull 15, 3) := by decide +kernel
theorem dX9_mixedWith_62 : decode cX9_mixedWith 62 = .ok (.aload_n 3, 1) := by decide +kernel
theorem dX9_mixedWith_63 : decode cX9_mixedWith 63 = .ok (.aload 6, 2) := by decide +kernel
theorem dX9_mixedWith_65 : decode cX9_mixedWith 65 = .ok (.invokevirtual 254, 3) := by decide +kernel
theorem dX9_mixedWith_68 : decode cX9_mixedWith 68 = .ok (.ifCond .eq 6, 3) := by decide +kernel
theorem dX9_mixedWith_71 : decode cX9_mixedWith 71 = .ok (.iinc 4 1, 3) := by decide +kernel
theorem dX9_mixedWith_74 : decode cX9_mixedWith 74 = .ok (.iinc 5 1, 3) := by decide +kernel
theorem dX9_mixedWith_77 : decode cX9_mixedWith 77 = .ok (.goto (-49), 3) := by decide +kernel
theorem dX9_mixedWith_80 : decode cX9_mixedWith 80 = .ok (.iload 4, 2) := by decide +kernel
theorem dX9_mixedWith_82 : decode cX9_mixedWith 82 = .ok (.ireturn, 1) := by decide +kernel
theorem dX9_writtenWords_0 : decode cX9_writtenWords 0 = .ok (.aload_n 0, 1) := by decide +kernel
theorem dX9_writtenWords_1 : decode cX9_writtenWords 1 = .ok (.getfield 38, 3) := by decide +kernel
theorem dX9_writtenWords_4 : decode cX9_writtenWords 4 = .ok (.aload_n 0, 1) := by decide +kernel
theorem dX9_writtenWords_5 : decode cX9_writtenWords 5 = .ok (.getfield 53, 3) := by decide +kernel
theorem dX9_writtenWords_8 : decode cX9_writtenWords 8 = .ok (.invokevirtual 168, 3) := by decide +kernel
theorem dX9_writtenWords_11 : decode cX9_writtenWords 11 = .ok (.iconst 0, 1) := by decide +kernel
theorem dX9_writtenWords_12 : decode cX9_writtenWords 12 = .ok (.istore_n 1, 1) := by decide +kernel
theorem dX9_writtenWords_13 : decode cX9_writtenWords 13 = .ok (.iconst 0, 1) := by decide +kernel
theorem dX9_writtenWords_14 : decode cX9_writtenWords 14 = .ok (.istore_n 2, 1) := by decide +kernel
theorem dX9_writtenWords_15 : decode cX9_writtenWords 15 = .ok (.iload_n 2, 1) := by decide +kernel
theorem dX9_writtenWords_16 : decode cX9_writtenWords 16 = .ok (.aload_n 0, 1) := by decide +kernel
theorem dX9_writtenWords_17 : decode cX9_writtenWords 17 = .ok (.getfield 53, 3) := by decide +kernel
theorem dX9_writtenWords_20 : decode cX9_writtenWords 20 = .ok (.getfield 88, 3) := by decide +kernel
theorem dX9_writtenWords_23 : decode cX9_writtenWords 23 = .ok (.if_icmp .ge 32, 3) := by decide +kernel
theorem dX9_writtenWords_26 : decode cX9_writtenWords 26 = .ok (.aload_n 0, 1) := by decide +kernel
theorem dX9_writtenWords_27 : decode cX9_writtenWords 27 = .ok (.getfield 38, 3) := by decide +kernel
theorem dX9_writtenWords_30 : decode cX9_writtenWords 30 = .ok (.iload_n 2, 1) := by decide +kernel
theorem dX9_writtenWords_31 : decode cX9_writtenWords 31 = .ok (.invokevirtual 179, 3) := by decide +kernel
theorem dX9_writtenWords_34 : decode cX9_writtenWords 34 = .ok (.astore_n 3, 1) := by decide +kernel
theorem dX9_writtenWords_35 : decode cX9_writtenWords 35 = .ok (.aload_n 3, 1) := by decide +kernel
theorem dX9_writtenWords_36 : decode cX9_writtenWords 36 = .ok (.ifnull 13, 3) := by decide +kernel
theorem dX9_writtenWords_39 : decode cX9_writtenWords 39 = .ok (.aload_n 3, 1) := by decide +kernel
theorem dX9_writtenWords_40 : decode cX9_writtenWords 40 = .ok (.invokevirtual 129, 3) := by decide +kernel
theorem dX9_writtenWords_43 : decode cX9_writtenWords 43 = .ok (.ifCond .le 6, 3) := by decide +kernel
theorem dX9_writtenWords_46 : decode cX9_writtenWords 46 = .ok (.iinc 1 1, 3) := by decide +kernel
theorem dX9_writtenWords_49 : decode cX9_writtenWords 49 = .ok (.iinc 2 1, 3) := by decide +kernel
theorem dX9_writtenWords_52 : decode cX9_writtenWords 52 = .ok (.goto (-37), 3) := by decide +kernel
theorem dX9_writtenWords_55 : decode cX9_writtenWords 55 = .ok (.iload_n 1, 1) := by decide +kernel
theorem dX9_writtenWords_56 : decode cX9_writtenWords 56 = .ok (.ireturn, 1) := by decide +kernel
theorem dX9_clearWords_0 : decode cX9_clearWords 0 = .ok (.aload_n 0, 1) := by decide +kernel
theorem dX9_clearWords_1 : decode cX9_clearWords 1 = .ok (.getfield 38, 3) := by decide +kernel
theorem dX9_clearWords_4 : decode cX9_clearWords 4 = .ok (.aload_n 0, 1) := by decide +kernel
theorem dX9_clearWords_5 : decode cX9_clearWords 5 = .ok (.getfield 53, 3) := by decide +kernel
theorem dX9_clearWords_8 : decode cX9_clearWords 8 = .ok (.invokevirtual 168, 3) := by decide +kernel
theorem dX9_clearWords_11 : decode cX9_clearWords 11 = .ok (.iconst 0, 1) := by decide +kernel
theorem dX9_clearWords_12 : decode cX9_clearWords 12 = .ok (.istore_n 1, 1) := by decide +kernel
theorem dX9_clearWords_13 : decode cX9_clearWords 13 = .ok (.iconst 0, 1) := by decide +kernel
theorem dX9_clearWords_14 : decode cX9_clearWords 14 = .ok (.istore_n 2, 1) := by decide +kernel
theorem dX9_clearWords_15 : decode cX9_clearWords 15 = .ok (.iload_n 2, 1) := by decide +kernel
theorem dX9_clearWords_16 : decode cX9_clearWords 16 = .ok (.aload_n 0, 1) := by decide +kernel
theorem dX9_clearWords_17 : decode cX9_clearWords 17 = .ok (.getfield 53, 3) := by decide +kernel
theorem dX9_clearWords_20 : decode cX9_clearWords 20 = .ok (.getfield 88, 3) := by decide +kernel
theorem dX9_clearWords_23 : decode cX9_clearWords 23 = .ok (.if_icmp .ge 20, 3) := by decide +kernel
theorem dX9_clearWords_26 : decode cX9_clearWords 26 = .ok (.aload_n 0, 1) := by decide +kernel
theorem dX9_clearWords_27 : decode cX9_clearWords 27 = .ok (.iload_n 2, 1) := by decide +kernel
theorem dX9_clearWords_28 : decode cX9_clearWords 28 = .ok (.invokevirtual 172, 3) := by decide +kernel
theorem dX9_clearWords_31 : decode cX9_clearWords 31 = .ok (.ifCond .eq 6, 3) := by decide +kernel
theorem dX9_clearWords_34 : decode cX9_clearWords 34 = .ok (.iinc 1 1, 3) := by decide +kernel
theorem dX9_clearWords_37 : decode cX9_clearWords 37 = .ok (.iinc 2 1, 3) := by decide +kernel
theorem dX9_clearWords_40 : decode cX9_clearWords 40 = .ok (.goto (-25), 3) := by decide +kernel
theorem dX9_clearWords_43 : decode cX9_clearWords 43 = .ok (.iload_n 1, 1) := by decide +kernel
theorem dX9_clearWords_44 : decode cX9_clearWords 44 = .ok (.ireturn, 1) := by decide +kernel
theorem dX9_mixedPairs_0 : decode cX9_mixedPairs 0 = .ok (.aload_n 0, 1) := by decide +kernel
theorem dX9_mixedPairs_1 : decode cX9_mixedPairs 1 = .ok (.getfield 38, 3) := by decide +kernel
theorem dX9_mixedPairs_4 : decode cX9_mixedPairs 4 = .ok (.aload_n 0, 1) := by decide +kernel
theorem dX9_mixedPairs_5 : decode cX9_mixedPairs 5 = .ok (.getfield 53, 3) := by decide +kernel
theorem dX9_mixedPairs_8 : decode cX9_mixedPairs 8 = .ok (.invokevirtual 168, 3) := by decide +kernel
theorem dX9_mixedPairs_11 : decode cX9_mixedPairs 11 = .ok (.iconst 0, 1) := by decide +kernel
theorem dX9_mixedPairs_12 : decode cX9_mixedPairs 12 = .ok (.istore_n 1, 1) := by decide +kernel
theorem dX9_mixedPairs_13 : decode cX9_mixedPairs 13 = .ok (.iconst 0, 1) := by decide +kernel
theorem dX9_mixedPairs_14 : decode cX9_mixedPairs 14 = .ok (.istore_n 2, 1) := by decide +kernel
theorem dX9_mixedPairs_15 : decode cX9_mixedPairs 15 = .ok (.iload_n 2, 1) := by decide +kernel
theorem dX9_mixedPairs_16 : decode cX9_mixedPairs 16 = .ok (.aload_n 0, 1) := by decide +kernel
theorem dX9_mixedPairs_17 : decode cX9_mixedPairs 17 = .ok (.getfield 53, 3) := by decide +kernel
theorem dX9_mixedPairs_20 : decode cX9_mixedPairs 20 = .ok (.getfield 88, 3) := by decide +kernel
theorem dX9_mixedPairs_23 : decode cX9_mixedPairs 23 = .ok (.if_icmp .ge 20, 3) := by decide +kernel
theorem dX9_mixedPairs_26 : decode cX9_mixedPairs 26 = .ok (.iload_n 1, 1) := by decide +kernel
theorem dX9_mixedPairs_27 : decode cX9_mixedPairs 27 = .ok (.aload_n 0, 1) := by decide +kernel
theorem dX9_mixedPairs_28 : decode cX9_mixedPairs 28 = .ok (.iload_n 2, 1) := by decide +kernel
theorem dX9_mixedPairs_29 : decode cX9_mixedPairs 29 = .ok (.iload_n 2, 1) := by decide +kernel
theorem dX9_mixedPairs_30 : decode cX9_mixedPairs 30 = .ok (.iconst 1, 1) := by decide +kernel
theorem dX9_mixedPairs_31 : decode cX9_mixedPairs 31 = .ok (.iadd, 1) := by decide +kernel
theorem dX9_mixedPairs_32 : decode cX9_mixedPairs 32 = .ok (.invokevirtual 175, 3) := by decide +kernel
theorem dX9_mixedPairs_35 : decode cX9_mixedPairs 35 = .ok (.iadd, 1) := by decide +kernel
theorem dX9_mixedPairs_36 : decode cX9_mixedPairs 36 = .ok (.istore_n 1, 1) := by decide +kernel
theorem dX9_mixedPairs_37 : decode cX9_mixedPairs 37 = .ok (.iinc 2 1, 3) := by decide +kernel
theorem dX9_mixedPairs_40 : decode cX9_mixedPairs 40 = .ok (.goto (-25), 3) := by decide +kernel
theorem dX9_mixedPairs_43 : decode cX9_mixedPairs 43 = .ok (.iload_n 1, 1) := by decide +kernel
theorem dX9_mixedPairs_44 : decode cX9_mixedPairs 44 = .ok (.ireturn, 1) := by decide +kernel
theorem dX10_init_0 : decode cX10_init 0 = .ok (.aload_n 0, 1) := by decide +kernel
theorem dX10_init_1 : decode cX10_init 1 = .ok (.invokespecial 1, 3) := by decide +kernel
theorem dX10_init_4 : decode cX10_init 4 = .ok (.aload_n 0, 1) := by decide +kernel
theorem dX10_init_5 : decode cX10_init 5 = .ok (.sipush 200, 3) := by decide +kernel
theorem dX10_init_8 : decode cX10_init 8 = .ok (.newarray .int, 2) := by decide +kernel
theorem dX10_init_10 : decode cX10_init 10 = .ok (.putfield 7, 3) := by decide +kernel
theorem dX10_init_13 : decode cX10_init 13 = .ok (.aload_n 0, 1) := by decide +kernel
theorem dX10_init_14 : decode cX10_init 14 = .ok (.sipush 167, 3) := by decide +kernel
theorem dX10_init_17 : decode cX10_init 17 = .ok (.newarray .int, 2) := by decide +kernel
theorem dX10_init_19 : decode cX10_init 19 = .ok (.putfield 13, 3) := by decide +kernel
theorem dX10_init_22 : decode cX10_init 22 = .ok (.aload_n 0, 1) := by decide +kernel
theorem dX10_init_23 : decode cX10_init 23 = .ok (.sipush 167, 3) := by decide +kernel
theorem dX10_init_26 : decode cX10_init 26 = .ok (.newarray .int, 2) := by decide +kernel
theorem dX10_init_28 : decode cX10_init 28 = .ok (.putfield 16, 3) := by decide +kernel
theorem dX10_init_31 : decode cX10_init 31 = .ok (.aload_n 0, 1) := by decide +kernel
theorem dX10_init_32 : decode cX10_init 32 = .ok (.bipush 19, 2) := by decide +kernel
theorem dX10_init_34 : decode cX10_init 34 = .ok (.newarray .int, 2) := by decide +kernel
theorem dX10_init_36 : decode cX10_init 36 = .ok (.putfield 19, 3) := by decide +kernel
theorem dX10_init_39 : decode cX10_init 39 = .ok (.aload_n 0, 1) := by decide +kernel
theorem dX10_init_40 : decode cX10_init 40 = .ok (.bipush 114, 2) := by decide +kernel
theorem dX10_init_42 : decode cX10_init 42 = .ok (.newarray .int, 2) := by decide +kernel
theorem dX10_init_44 : decode cX10_init 44 = .ok (.putfield 22, 3) := by decide +kernel
theorem dX10_init_47 : decode cX10_init 47 = .ok (.aload_n 0, 1) := by decide +kernel
theorem dX10_init_48 : decode cX10_init 48 = .ok (.sipush 512, 3) := by decide +kernel
theorem dX10_init_51 : decode cX10_init 51 = .ok (.newarray .int, 2) := by decide +kernel
theorem dX10_init_53 : decode cX10_init 53 = .ok (.putfield 25, 3) := by decide +kernel
theorem dX10_init_56 : decode cX10_init 56 = .ok (.aload_n 0, 1) := by decide +kernel
theorem dX10_init_57 : decode cX10_init 57 = .ok (.sipush 512, 3) := by decide +kernel
theorem dX10_init_60 : decode cX10_init 60 = .ok (.newarray .int, 2) := by decide +kernel
theorem dX10_init_62 : decode cX10_init 62 = .ok (.putfield 28, 3) := by decide +kernel
theorem dX10_init_65 : decode cX10_init 65 = .ok (.aload_n 0, 1) := by decide +kernel
theorem dX10_init_66 : decode cX10_init 66 = .ok (.sipush 6144, 3) := by decide +kernel
theorem dX10_init_69 : decode cX10_init 69 = .ok (.newarray .int, 2) := by decide +kernel
theorem dX10_init_71 : decode cX10_init 71 = .ok (.putfield 31, 3) := by decide +kernel
theorem dX10_init_74 : decode cX10_init 74 = .ok (.aload_n 0, 1) := by decide +kernel
theorem dX10_init_75 : decode cX10_init 75 = .ok (.sipush 5120, 3) := by decide +kernel
theorem dX10_init_78 : decode cX10_init 78 = .ok (.newarray .int, 2) := by decide +kernel
theorem dX10_init_80 : decode cX10_init 80 = .ok (.putfield 34, 3) := by decide +kernel
theorem dX10_init_83 : decode cX10_init 83 = .ok (.aload_n 0, 1) := by decide +kernel
theorem dX10_init_84 : decode cX10_init 84 = .ok (.bipush 10, 2) := by decide +kernel
theorem dX10_init_86 : decode cX10_init 86 = .ok (.newarray .int, 2) := by decide +kernel
theorem dX10_init_88 : decode cX10_init 88 = .ok (.putfield 37, 3) := by decide +kernel
theorem dX10_init_91 : decode cX10_init 91 = .ok (.aload_n 0, 1) := by decide +kernel
theorem dX10_init_92 : decode cX10_init 92 = .ok (.bipush 10, 2) := by decide +kernel
theorem dX10_init_94 : decode cX10_init 94 = .ok (.newarray .int, 2) := by decide +kernel
theorem dX10_init_96 : decode cX10_init 96 = .ok (.putfield 40, 3) := by decide +kernel
theorem dX10_init_99 : decode cX10_init 99 = .ok (.aload_n 0, 1) := by decide +kernel
theorem dX10_init_100 : decode cX10_init 100 = .ok (.sipush 1024, 3) := by decide +kernel
theorem dX10_init_103 : decode cX10_init 103 = .ok (.newarray .long, 2) := by decide +kernel
theorem dX10_init_105 : decode cX10_init 105 = .ok (.putfield 43, 3) := by decide +kernel
theorem dX10_init_108 : decode cX10_init 108 = .ok (.aload_n 0, 1) := by decide +kernel
theorem dX10_init_109 : decode cX10_init 109 = .ok (.bipush 17, 2) := by decide +kernel
theorem dX10_init_111 : decode cX10_init 111 = .ok (.newarray .int, 2) := by decide +kernel
theorem dX10_init_113 : decode cX10_init 113 = .ok (.putfield 47, 3) := by decide +kernel
theorem dX10_init_116 : decode cX10_init 116 = .ok (.aload_n 0, 1) := by decide +kernel
theorem dX10_init_117 : decode cX10_init 117 = .ok (.bipush 17, 2) := by decide +kernel
theorem dX10_init_119 : decode cX10_init 119 = .ok (.newarray .long, 2) := by decide +kernel
theorem dX10_init_121 : decode cX10_init 121 = .ok (.putfield 50, 3) := by decide +kernel
theorem dX10_init_124 : decode cX10_init 124 = .ok (.aload_n 0, 1) := by decide +kernel
theorem dX10_init_125 : decode cX10_init 125 = .ok (.sipush 160, 3) := by decide +kernel
theorem dX10_init_128 : decode cX10_init 128 = .ok (.newarray .int, 2) := by decide +kernel
theorem dX10_init_130 : decode cX10_init 130 = .ok (.putfield 53, 3) := by decide +kernel
theorem dX10_init_133 : decode cX10_init 133 = .ok (.aload_n 0, 1) := by decide +kernel
theorem dX10_init_134 : decode cX10_init 134 = .ok (.iconst 0, 1) := by decide +kernel
theorem dX10_init_135 : decode cX10_init 135 = .ok (.iconst 0, 1) := by decide +kernel
theorem dX10_init_136 : decode cX10_init 136 = .ok (.bipush 98, 2) := by decide +kernel
theorem dX10_init_138 : decode cX10_init 138 = .ok (.bipush 101, 2) := by decide +kernel
theorem dX10_init_140 : decode cX10_init 140 = .ok (.bipush 101, 2) := by decide +kernel
theorem dX10_init_142 : decode cX10_init 142 = .ok (.iconst 0, 1) := by decide +kernel
theorem dX10_init_143 : decode cX10_init 143 = .ok (.invokevirtual 56, 3) := by decide +kernel
theorem dX10_init_146 : decode cX10_init 146 = .ok (.aload_n 0, 1) := by decide +kernel
theorem dX10_init_147 : decode cX10_init 147 = .ok (.iconst 0, 1) := by decide +kernel
theorem dX10_init_148 : decode cX10_init 148 = .ok (.iconst 1, 1) := by decide +kernel
theorem dX10_init_149 : decode cX10_init 149 = .ok (.bipush 108, 2) := by decide +kernel
theorem dX10_init_151 : decode cX10_init 151 = .ok (.bipush 101, 2) := by decide +kernel
theorem dX10_init_153 : decode cX10_init 153 = .ok (.bipush 97, 2) := by decide +kernel
theorem dX10_init_155 : decode cX10_init 155 = .ok (.bipush 102, 2) := by decide +kernel
theorem dX10_init_157 : decode cX10_init 157 = .ok (.invokevirtual 56, 3) := by decide +kernel
theorem dX10_init_160 : decode cX10_init 160 = .ok (.aload_n 0, 1) := by decide +kernel
theorem dX10_init_161 : decode cX10_init 161 = .ok (.iconst 0, 1) := by decide +kernel
theorem dX10_init_162 : decode cX10_init 162 = .ok (.iconst 2, 1) := by decide +kernel
theorem dX10_init_163 : decode cX10_init 163 = .ok (.bipush 101, 2) := by decide +kernel
theorem dX10_init_165 : decode cX10_init 165 = .ok (.bipush 121, 2) := by decide +kernel
theorem dX10_init_167 : decode cX10_init 167 = .ok (.bipush 101, 2) := by decide +kernel
theorem dX10_init_169 : decode cX10_init 169 = .ok (.iconst 0, 1) := by decide +kernel
theorem dX10_init_170 : decode cX10_init 170 = .ok (.invokevirtual 56, 3) := by decide +kernel
theorem dX10_init_173 : decode cX10_init 173 = .ok (.aload_n 0, 1) := by decide +kernel
theorem dX10_init_174 : decode cX10_init 174 = .ok (.iconst 0, 1) := by decide +kernel
theorem dX10_init_175 : decode cX10_init 175 = .ok (.iconst 3, 1) := by decide +kernel
theorem dX10_init_176 : decode cX10_init 176 = .ok (.bipush 99, 2) := by decide +kernel
theorem dX10_init_178 : decode cX10_init 178 = .ok (.bipush 97, 2) := by decide +kernel
theorem dX10_init_180 : decode cX10_init 180 = .ok (.bipush 110, 2) := by decide +kernel
theorem dX10_init_182 : decode cX10_init 182 = .ok (.iconst 0, 1) := by decide +kernel
theorem dX10_init_183 : decode cX10_init 183 = .ok (.invokevirtual 56, 3) := by decide +kernel
theorem dX10_init_186 : decode cX10_init 186 = .ok (.aload_n 0, 1) := by decide +kernel
theorem dX10_init_187 : decode cX10_init 187 = .ok (.iconst 1, 1) := by decide +kernel
theorem dX10_init_188 : decode cX10_init 188 = .ok (.bipush (-4), 2) := by decide +kernel
theorem dX10_init_190 : decode cX10_init 190 = .ok (.bipush 110, 2) := by decide +kernel
theorem dX10_init_192 : decode cX10_init 192 = .ok (.iconst 0, 1) := by decide +kernel
theorem dX10_init_193 : decode cX10_init 193 = .ok (.iconst 0, 1) := by decide +kernel
theorem dX10_init_194 : decode cX10_init 194 = .ok (.iconst 0, 1) := by decide +kernel
theorem dX10_init_195 : decode cX10_init 195 = .ok (.invokevirtual 56, 3) := by decide +kernel
theorem dX10_init_198 : decode cX10_init 198 = .ok (.aload_n 0, 1) := by decide +kernel
theorem dX10_init_199 : decode cX10_init 199 = .ok (.iconst 1, 1) := by decide +kernel
theorem dX10_init_200 : decode cX10_init 200 = .ok (.bipush (-4), 2) := by decide +kernel
theorem dX10_init_202 : decode cX10_init 202 = .ok (.bipush 116, 2) := by decide +kernel
theorem dX10_init_204 : decode cX10_init 204 = .ok (.iconst 0, 1) := by decide +kernel
theorem dX10_init_205 : decode cX10_init 205 = .ok (.iconst 0, 1) := by decide +kernel
theorem dX10_init_206 : decode cX10_init 206 = .ok (.iconst 0, 1) := by decide +kernel
theorem dX10_init_207 : decode cX10_init 207 = .ok (.invokevirtual 56, 3) := by decide +kernel
theorem dX10_init_210 : decode cX10_init 210 = .ok (.aload_n 0, 1) := by decide +kernel
theorem dX10_init_211 : decode cX10_init 211 = .ok (.iconst 1, 1) := by decide +kernel
theorem dX10_init_212 : decode cX10_init 212 = .ok (.bipush (-4), 2) := by decide +kernel
theorem dX10_init_214 : decode cX10_init 214 = .ok (.bipush 98, 2) := by decide +kernel
theorem dX10_init_216 : decode cX10_init 216 = .ok (.iconst 0, 1) := by decide +kernel
theorem dX10_init_217 : decode cX10_init 217 = .ok (.iconst 0, 1) := by decide +kernel
theorem dX10_init_218 : decode cX10_init 218 = .ok (.iconst 0, 1) := by decide +kernel
theorem dX10_init_219 : decode cX10_init 219 = .ok (.invokevirtual 56, 3) := by decide +kernel
theorem dX10_init_222 : decode cX10_init 222 = .ok (.aload_n 0, 1) := by decide +kernel
theorem dX10_init_223 : decode cX10_init 223 = .ok (.iconst 1, 1) := by decide +kernel
theorem dX10_init_224 : decode cX10_init 224 = .ok (.bipush (-4), 2) := by decide +kernel
theorem dX10_init_226 : decode cX10_init 226 = .ok (.bipush 108, 2) := by decide +kernel
theorem dX10_init_228 : decode cX10_init 228 = .ok (.iconst 0, 1) := by decide +kernel
theorem dX10_init_229 : decode cX10_init 229 = .ok (.iconst 0, 1) := by decide +kernel
theorem dX10_init_230 : decode cX10_init 230 = .ok (.iconst 0, 1) := by decide +kernel
theorem dX10_init_231 : decode cX10_init 231 = .ok (.invokevirtual 56, 3) := by decide +kernel
theorem dX10_init_234 : decode cX10_init 234 = .ok (.aload_n 0, 1) := by decide +kernel
theorem dX10_init_235 : decode cX10_init 235 = .ok (.iconst 2, 1) := by decide +kernel
theorem dX10_init_236 : decode cX10_init 236 = .ok (.iconst 4, 1) := by decide +kernel
theorem dX10_init_237 : decode cX10_init 237 = .ok (.iconst 0, 1) := by decide +kernel
theorem dX10_init_238 : decode cX10_init 238 = .ok (.iconst 0, 1) := by decide +kernel
theorem dX10_init_239 : decode cX10_init 239 = .ok (.iconst 0, 1) := by decide +kernel
theorem dX10_init_240 : decode cX10_init 240 = .ok (.iconst 0, 1) := by decide +kernel
theorem dX10_init_241 : decode cX10_init 241 = .ok (.invokevirtual 56, 3) := by decide +kernel
theorem dX10_init_244 : decode cX10_init 244 = .ok (.aload_n 0, 1) := by decide +kernel
theorem dX10_init_245 : decode cX10_init 245 = .ok (.iconst 2, 1) := by decide +kernel
theorem dX10_init_246 : decode cX10_init 246 = .ok (.iconst 1, 1) := by decide +kernel
theorem dX10_init_247 : decode cX10_init 247 = .ok (.iconst 0, 1) := by decide +kernel
theorem dX10_init_248 : decode cX10_init 248 = .ok (.iconst 0, 1) := by decide +kernel
theorem dX10_init_249 : decode cX10_init 249 = .ok (.iconst 0, 1) := by decide +kernel
theorem dX10_init_250 : decode cX10_init 250 = .ok (.iconst 0, 1) := by decide +kernel
theorem dX10_init_251 : decode cX10_init 251 = .ok (.invokevirtual 56, 3) := by decide +kernel
theorem dX10_init_254 : decode cX10_init 254 = .ok (.aload_n 0, 1) := by decide +kernel
theorem dX10_init_255 : decode cX10_init 255 = .ok (.iconst 4, 1) := by decide +kernel
theorem dX10_init_256 : decode cX10_init 256 = .ok (.bipush 98, 2) := by decide +kernel
theorem dX10_init_258 : decode cX10_init 258 = .ok (.bipush 101, 2) := by decide +kernel
theorem dX10_init_260 : decode cX10_init 260 = .ok (.bipush 108, 2) := by decide +kernel
theorem dX10_init_262 : decode cX10_init 262 = .ok (.bipush 101, 2) := by decide +kernel
theorem dX10_init_264 : decode cX10_init 264 = .ok (.bipush 97, 2) := by decide +kernel
theorem dX10_init_266 : decode cX10_init 266 = .ok (.bipush 102, 2) := by decide +kernel
theorem dX10_init_268 : decode cX10_init 268 = .ok (.invokevirtual 60, 3) := by decide +kernel
theorem dX10_init_271 : decode cX10_init 271 = .ok (.aload_n 0, 1) := by decide +kernel
theorem dX10_init_272 : decode cX10_init 272 = .ok (.iconst 1, 1) := by decide +kernel
theorem dX10_init_273 : decode cX10_init 273 = .ok (.bipush 108, 2) := by decide +kernel
theorem dX10_init_275 : decode cX10_init 275 = .ok (.bipush 101, 2) := by decide +kernel
theorem dX10_init_277 : decode cX10_init 277 = .ok (.bipush 97, 2) := by decide +kernel
theorem dX10_init_279 : decode cX10_init 279 = .ok (.bipush 102, 2) := by decide +kernel
theorem dX10_init_281 : decode cX10_init 281 = .ok (.iconst 0, 1) := by decide +kernel
theorem dX10_init_282 : decode cX10_init 282 = .ok (.iconst 0, 1) := by decide +kernel
theorem dX10_init_283 : decode cX10_init 283 = .ok (.invokevirtual 60, 3) := by decide +kernel
theorem dX10_init_286 : decode cX10_init 286 = .ok (.aload_n 0, 1) := by decide +kernel
theorem dX10_init_287 : decode cX10_init 287 = .ok (.iconst 4, 1) := by decide +kernel
theorem dX10_init_288 : decode cX10_init 288 = .ok (.bipush 99, 2) := by decide +kernel
theorem dX10_init_290 : decode cX10_init 290 = .ok (.bipush 97, 2) := by decide +kernel
theorem dX10_init_292 : decode cX10_init 292 = .ok (.bipush 110, 2) := by decide +kernel
theorem dX10_init_294 : decode cX10_init 294 = .ok (.bipush 111, 2) := by decide +kernel
theorem dX10_init_296 : decode cX10_init 296 = .ok (.bipush 101, 2) := by decide +kernel
theorem dX10_init_298 : decode cX10_init 298 = .ok (.iconst 0, 1) := by decide +kernel
theorem dX10_init_299 : decode cX10_init 299 = .ok (.invokevirtual 60, 3) := by decide +kernel
theorem dX10_init_302 : decode cX10_init 302 = .ok (.aload_n 0, 1) := by decide +kernel
theorem dX10_init_303 : decode cX10_init 303 = .ok (.iconst 3, 1) := by decide +kernel
theorem dX10_init_304 : decode cX10_init 304 = .ok (.bipush 99, 2) := by decide +kernel
theorem dX10_init_306 : decode cX10_init 306 = .ok (.bipush 97, 2) := by decide +kernel
theorem dX10_init_308 : decode cX10_init 308 = .ok (.bipush 110, 2) := by decide +kernel
theorem dX10_init_310 : decode cX10_init 310 = .ok (.iconst 0, 1) := by decide +kernel
theorem dX10_init_311 : decode cX10_init 311 = .ok (.iconst 0, 1) := by decide +kernel
theorem dX10_init_312 : decode cX10_init 312 = .ok (.iconst 0, 1) := by decide +kernel
theorem dX10_init_313 : decode cX10_init 313 = .ok (.invokevirtual 60, 3) := by decide +kernel
theorem dX10_init_316 : decode cX10_init 316 = .ok (.aload_n 0, 1) := by decide +kernel
theorem dX10_init_317 : decode cX10_init 317 = .ok (.iconst 5, 1) := by decide +kernel
theorem dX10_init_318 : decode cX10_init 318 = .ok (.bipush 99, 2) := by decide +kernel
theorem dX10_init_320 : decode cX10_init 320 = .ok (.bipush 97, 2) := by decide +kernel
theorem dX10_init_322 : decode cX10_init 322 = .ok (.bipush 110, 2) := by decide +kernel
theorem dX10_init_324 : decode cX10_init 324 = .ok (.bipush 116, 2) := by decide +kernel
theorem dX10_init_326 : decode cX10_init 326 = .ok (.iconst 0, 1) := by decide +kernel
theorem dX10_init_327 : decode cX10_init 327 = .ok (.iconst 0, 1) := by decide +kernel
theorem dX10_init_328 : decode cX10_init 328 = .ok (.invokevirtual 60, 3) := by decide +kernel
theorem dX10_init_331 : decode cX10_init 331 = .ok (.aload_n 0, 1) := by decide +kernel
theorem dX10_init_332 : decode cX10_init 332 = .ok (.iconst 2, 1) := by decide +kernel
theorem dX10_init_333 : decode cX10_init 333 = .ok (.bipush 98, 2) := by decide +kernel
theorem dX10_init_335 : decode cX10_init 335 = .ok (.bipush 101, 2) := by decide +kernel
theorem dX10_init_337 : decode cX10_init 337 = .ok (.bipush 101, 2) := by decide +kernel
theorem dX10_init_339 : decode cX10_init 339 = .ok (.iconst 0, 1) := by decide +kernel
theorem dX10_init_340 : decode cX10_init 340 = .ok (.iconst 0, 1) := by decide +kernel
theorem dX10_init_341 : decode cX10_init 341 = .ok (.iconst 0, 1) := by decide +kernel
theorem dX10_init_342 : decode cX10_init 342 = .ok (.invokevirtual 60, 3) := by decide +kernel
theorem dX10_init_345 : decode cX10_init 345 = .ok (.aload_n 0, 1) := by decide +kernel
theorem dX10_init_346 : decode cX10_init 346 = .ok (.iconst 0, 1) := by decide +kernel
theorem dX10_init_347 : decode cX10_init 347 = .ok (.bipush 98, 2) := by decide +kernel
theorem dX10_init_349 : decode cX10_init 349 = .ok (.bipush 101, 2) := by decide +kernel
theorem dX10_init_351 : decode cX10_init 351 = .ok (.bipush 101, 2) := by decide +kernel
theorem dX10_init_353 : decode cX10_init 353 = .ok (.iconst 0, 1) := by decide +kernel
theorem dX10_init_354 : decode cX10_init 354 = .ok (.iconst 0, 1) := by decide +kernel
theorem dX10_init_355 : decode cX10_init 355 = .ok (.iconst 0, 1) := by decide +kernel
theorem dX10_init_356 : decode cX10_init 356 = .ok (.invokevirtual 60, 3) := by decide +kernel
theorem dX10_init_359 : decode cX10_init 359 = .ok (.aload_n 0, 1) := by decide +kernel
theorem dX10_init_360 : decode cX10_init 360 = .ok (.getfield 13, 3) := by decide +kernel
theorem dX10_init_363 : decode cX10_init 363 = .ok (.sipush 166, 3) := by decide +kernel
theorem dX10_init_366 : decode cX10_init 366 = .ok (.iconst 1, 1) := by decide +kernel
theorem dX10_init_367 : decode cX10_init 367 = .ok (.iastore, 1) := by decide +kernel
theorem dX10_init_368 : decode cX10_init 368 = .ok (.aload_n 0, 1) := by decide +kernel
theorem dX10_init_369 : decode cX10_init 369 = .ok (.invokevirtual 64, 3) := by decide +kernel
theorem dX10_init_372 : decode cX10_init 372 = .ok (.return_, 1) := by decide +kernel
