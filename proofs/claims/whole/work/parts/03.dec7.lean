theorem dX10_reckons_0 : decode cX10_reckons 0 = .ok (.aload_n 0, 1) := by decide +kernel
theorem dX10_reckons_1 : decode cX10_reckons 1 = .ok (.getfield 19, 3) := by decide +kernel
theorem dX10_reckons_4 : decode cX10_reckons 4 = .ok (.iconst 2, 1) := by decide +kernel
theorem dX10_reckons_5 : decode cX10_reckons 5 = .ok (.iaload, 1) := by decide +kernel
theorem dX10_reckons_6 : decode cX10_reckons 6 = .ok (.istore_n 1, 1) := by decide +kernel
theorem dX10_reckons_7 : decode cX10_reckons 7 = .ok (.aload_n 0, 1) := by decide +kernel
theorem dX10_reckons_8 : decode cX10_reckons 8 = .ok (.getfield 47, 3) := by decide +kernel
theorem dX10_reckons_11 : decode cX10_reckons 11 = .ok (.iload_n 1, 1) := by decide +kernel
theorem dX10_reckons_12 : decode cX10_reckons 12 = .ok (.iconst 0, 1) := by decide +kernel
theorem dX10_reckons_13 : decode cX10_reckons 13 = .ok (.iastore, 1) := by decide +kernel
theorem dX10_reckons_14 : decode cX10_reckons 14 = .ok (.aload_n 0, 1) := by decide +kernel
theorem dX10_reckons_15 : decode cX10_reckons 15 = .ok (.getfield 50, 3) := by decide +kernel
theorem dX10_reckons_18 : decode cX10_reckons 18 = .ok (.iload_n 1, 1) := by decide +kernel
theorem dX10_reckons_19 : decode cX10_reckons 19 = .ok (.lconst 1, 1) := by decide +kernel
theorem dX10_reckons_20 : decode cX10_reckons 20 = .ok (.lastore, 1) := by decide +kernel
theorem dX10_reckons_21 : decode cX10_reckons 21 = .ok (.iload_n 1, 1) := by decide +kernel
theorem dX10_reckons_22 : decode cX10_reckons 22 = .ok (.iconst 1, 1) := by decide +kernel
theorem dX10_reckons_23 : decode cX10_reckons 23 = .ok (.isub, 1) := by decide +kernel
theorem dX10_reckons_24 : decode cX10_reckons 24 = .ok (.istore_n 2, 1) := by decide +kernel
theorem dX10_reckons_25 : decode cX10_reckons 25 = .ok (.iload_n 2, 1) := by decide +kernel
theorem dX10_reckons_26 : decode cX10_reckons 26 = .ok (.ifCond .lt 146, 3) := by decide +kernel
theorem dX10_reckons_29 : decode cX10_reckons 29 = .ok (.aload_n 0, 1) := by decide +kernel
theorem dX10_reckons_30 : decode cX10_reckons 30 = .ok (.getfield 47, 3) := by decide +kernel
theorem dX10_reckons_33 : decode cX10_reckons 33 = .ok (.iload_n 2, 1) := by decide +kernel
theorem dX10_reckons_34 : decode cX10_reckons 34 = .ok (.sipush 1000, 3) := by decide +kernel
theorem dX10_reckons_37 : decode cX10_reckons 37 = .ok (.iastore, 1) := by decide +kernel
theorem dX10_reckons_38 : decode cX10_reckons 38 = .ok (.aload_n 0, 1) := by decide +kernel
theorem dX10_reckons_39 : decode cX10_reckons 39 = .ok (.getfield 50, 3) := by decide +kernel
theorem dX10_reckons_42 : decode cX10_reckons 42 = .ok (.iload_n 2, 1) := by decide +kernel
theorem dX10_reckons_43 : decode cX10_reckons 43 = .ok (.lconst 0, 1) := by decide +kernel
theorem dX10_reckons_44 : decode cX10_reckons 44 = .ok (.lastore, 1) := by decide +kernel
theorem dX10_reckons_45 : decode cX10_reckons 45 = .ok (.iconst 1, 1) := by decide +kernel
theorem dX10_reckons_46 : decode cX10_reckons 46 = .ok (.istore_n 3, 1) := by decide +kernel
theorem dX10_reckons_47 : decode cX10_reckons 47 = .ok (.iload_n 3, 1) := by decide +kernel
theorem dX10_reckons_48 : decode cX10_reckons 48 = .ok (.bipush 10, 2) := by decide +kernel
theorem dX10_reckons_50 : decode cX10_reckons 50 = .ok (.if_icmp .ge 116, 3) := by decide +kernel
theorem dX10_reckons_53 : decode cX10_reckons 53 = .ok (.iload_n 2, 1) := by decide +kernel
theorem dX10_reckons_54 : decode cX10_reckons 54 = .ok (.iload_n 3, 1) := by decide +kernel
theorem dX10_reckons_55 : decode cX10_reckons 55 = .ok (.iadd, 1) := by decide +kernel
theorem dX10_reckons_56 : decode cX10_reckons 56 = .ok (.iload_n 1, 1) := by decide +kernel
theorem dX10_reckons_57 : decode cX10_reckons 57 = .ok (.if_icmp .gt 109, 3) := by decide +kernel
theorem dX10_reckons_60 : decode cX10_reckons 60 = .ok (.aload_n 0, 1) := by decide +kernel
theorem dX10_reckons_61 : decode cX10_reckons 61 = .ok (.aload_n 0, 1) := by decide +kernel
theorem dX10_reckons_62 : decode cX10_reckons 62 = .ok (.getfield 19, 3) := by decide +kernel
theorem dX10_reckons_65 : decode cX10_reckons 65 = .ok (.iconst 3, 1) := by decide +kernel
theorem dX10_reckons_66 : decode cX10_reckons 66 = .ok (.iload_n 2, 1) := by decide +kernel
theorem dX10_reckons_67 : decode cX10_reckons 67 = .ok (.iadd, 1) := by decide +kernel
theorem dX10_reckons_68 : decode cX10_reckons 68 = .ok (.iload_n 3, 1) := by decide +kernel
theorem dX10_reckons_69 : decode cX10_reckons 69 = .ok (.invokevirtual 183, 3) := by decide +kernel
theorem dX10_reckons_72 : decode cX10_reckons 72 = .ok (.istore 4, 2) := by decide +kernel
theorem dX10_reckons_74 : decode cX10_reckons 74 = .ok (.aload_n 0, 1) := by decide +kernel
theorem dX10_reckons_75 : decode cX10_reckons 75 = .ok (.getfield 53, 3) := by decide +kernel
theorem dX10_reckons_78 : decode cX10_reckons 78 = .ok (.bipush 10, 2) := by decide +kernel
theorem dX10_reckons_80 : decode cX10_reckons 80 = .ok (.iload_n 2, 1) := by decide +kernel
theorem dX10_reckons_81 : decode cX10_reckons 81 = .ok (.imul, 1) := by decide +kernel
theorem dX10_reckons_82 : decode cX10_reckons 82 = .ok (.iload_n 3, 1) := by decide +kernel
theorem dX10_reckons_83 : decode cX10_reckons 83 = .ok (.iadd, 1) := by decide +kernel
theorem dX10_reckons_84 : decode cX10_reckons 84 = .ok (.iload 4, 2) := by decide +kernel
theorem dX10_reckons_86 : decode cX10_reckons 86 = .ok (.iastore, 1) := by decide +kernel
theorem dX10_reckons_87 : decode cX10_reckons 87 = .ok (.aload_n 0, 1) := by decide +kernel
theorem dX10_reckons_88 : decode cX10_reckons 88 = .ok (.getfield 50, 3) := by decide +kernel
theorem dX10_reckons_91 : decode cX10_reckons 91 = .ok (.iload_n 2, 1) := by decide +kernel
theorem dX10_reckons_92 : decode cX10_reckons 92 = .ok (.dup2, 1) := by decide +kernel
theorem dX10_reckons_93 : decode cX10_reckons 93 = .ok (.laload, 1) := by decide +kernel
theorem dX10_reckons_94 : decode cX10_reckons 94 = .ok (.aload_n 0, 1) := by decide +kernel
theorem dX10_reckons_95 : decode cX10_reckons 95 = .ok (.getfield 50, 3) := by decide +kernel
theorem dX10_reckons_98 : decode cX10_reckons 98 = .ok (.iload_n 2, 1) := by decide +kernel
theorem dX10_reckons_99 : decode cX10_reckons 99 = .ok (.iload_n 3, 1) := by decide +kernel
theorem dX10_reckons_100 : decode cX10_reckons 100 = .ok (.iadd, 1) := by decide +kernel
theorem dX10_reckons_101 : decode cX10_reckons 101 = .ok (.laload, 1) := by decide +kernel
theorem dX10_reckons_102 : decode cX10_reckons 102 = .ok (.iload 4, 2) := by decide +kernel
theorem dX10_reckons_104 : decode cX10_reckons 104 = .ok (.invokestatic 127, 3) := by decide +kernel
theorem dX10_reckons_107 : decode cX10_reckons 107 = .ok (.i2l, 1) := by decide +kernel
theorem dX10_reckons_108 : decode cX10_reckons 108 = .ok (.lmul, 1) := by decide +kernel
theorem dX10_reckons_109 : decode cX10_reckons 109 = .ok (.ladd, 1) := by decide +kernel
theorem dX10_reckons_110 : decode cX10_reckons 110 = .ok (.lastore, 1) := by decide +kernel
theorem dX10_reckons_111 : decode cX10_reckons 111 = .ok (.aload_n 0, 1) := by decide +kernel
theorem dX10_reckons_112 : decode cX10_reckons 112 = .ok (.getfield 47, 3) := by decide +kernel
theorem dX10_reckons_115 : decode cX10_reckons 115 = .ok (.iload_n 2, 1) := by decide +kernel
theorem dX10_reckons_116 : decode cX10_reckons 116 = .ok (.iload 4, 2) := by decide +kernel
theorem dX10_reckons_118 : decode cX10_reckons 118 = .ok (.ifCond .le 35, 3) := by decide +kernel
theorem dX10_reckons_121 : decode cX10_reckons 121 = .ok (.aload_n 0, 1) := by decide +kernel
theorem dX10_reckons_122 : decode cX10_reckons 122 = .ok (.getfield 47, 3) := by decide +kernel
theorem dX10_reckons_125 : decode cX10_reckons 125 = .ok (.iload_n 2, 1) := by decide +kernel
theorem dX10_reckons_126 : decode cX10_reckons 126 = .ok (.iload_n 3, 1) := by decide +kernel
theorem dX10_reckons_127 : decode cX10_reckons 127 = .ok (.iadd, 1) := by decide +kernel
theorem dX10_reckons_128 : decode cX10_reckons 128 = .ok (.iaload, 1) := by decide +kernel
theorem dX10_reckons_129 : decode cX10_reckons 129 = .ok (.iconst 1, 1) := by decide +kernel
theorem dX10_reckons_130 : decode cX10_reckons 130 = .ok (.iadd, 1) := by decide +kernel
theorem dX10_reckons_131 : decode cX10_reckons 131 = .ok (.aload_n 0, 1) := by decide +kernel
theorem dX10_reckons_132 : decode cX10_reckons 132 = .ok (.getfield 47, 3) := by decide +kernel
theorem dX10_reckons_135 : decode cX10_reckons 135 = .ok (.iload_n 2, 1) := by decide +kernel
theorem dX10_reckons_136 : decode cX10_reckons 136 = .ok (.iaload, 1) := by decide +kernel
theorem dX10_reckons_137 : decode cX10_reckons 137 = .ok (.if_icmp .ge 16, 3) := by decide +kernel
theorem dX10_reckons_140 : decode cX10_reckons 140 = .ok (.aload_n 0, 1) := by decide +kernel
theorem dX10_reckons_141 : decode cX10_reckons 141 = .ok (.getfield 47, 3) := by decide +kernel
theorem dX10_reckons_144 : decode cX10_reckons 144 = .ok (.iload_n 2, 1) := by decide +kernel
theorem dX10_reckons_145 : decode cX10_reckons 145 = .ok (.iload_n 3, 1) := by decide +kernel
theorem dX10_reckons_146 : decode cX10_reckons 146 = .ok (.iadd, 1) := by decide +kernel
theorem dX10_reckons_147 : decode cX10_reckons 147 = .ok (.iaload, 1) := by decide +kernel
theorem dX10_reckons_148 : decode cX10_reckons 148 = .ok (.iconst 1, 1) := by decide +kernel
theorem dX10_reckons_149 : decode cX10_reckons 149 = .ok (.iadd, 1) := by decide +kernel
theorem dX10_reckons_150 : decode cX10_reckons 150 = .ok (.goto 9, 3) := by decide +kernel
theorem dX10_reckons_153 : decode cX10_reckons 153 = .ok (.aload_n 0, 1) := by decide +kernel
theorem dX10_reckons_154 : decode cX10_reckons 154 = .ok (.getfield 47, 3) := by decide +kernel
theorem dX10_reckons_157 : decode cX10_reckons 157 = .ok (.iload_n 2, 1) := by decide +kernel
theorem dX10_reckons_158 : decode cX10_reckons 158 = .ok (.iaload, 1) := by decide +kernel
theorem dX10_reckons_159 : decode cX10_reckons 159 = .ok (.iastore, 1) := by decide +kernel
theorem dX10_reckons_160 : decode cX10_reckons 160 = .ok (.iinc 3 1, 3) := by decide +kernel
theorem dX10_reckons_163 : decode cX10_reckons 163 = .ok (.goto (-116), 3) := by decide +kernel
theorem dX10_reckons_166 : decode cX10_reckons 166 = .ok (.iinc 2 (-1), 3) := by decide +kernel
theorem dX10_reckons_169 : decode cX10_reckons 169 = .ok (.goto (-144), 3) := by decide +kernel
theorem dX10_reckons_172 : decode cX10_reckons 172 = .ok (.return_, 1) := by decide +kernel
theorem dX10_rowFrom_0 : decode cX10_rowFrom 0 = .ok (.iconst 1, 1) := by decide +kernel
theorem dX10_rowFrom_1 : decode cX10_rowFrom 1 = .ok (.istore_n 2, 1) := by decide +kernel
theorem dX10_rowFrom_2 : decode cX10_rowFrom 2 = .ok (.aload_n 0, 1) := by decide +kernel
theorem dX10_rowFrom_3 : decode cX10_rowFrom 3 = .ok (.getfield 53, 3) := by decide +kernel
theorem dX10_rowFrom_6 : decode cX10_rowFrom 6 = .ok (.bipush 10, 2) := by decide +kernel
theorem dX10_rowFrom_8 : decode cX10_rowFrom 8 = .ok (.iload_n 1, 1) := by decide +kernel
theorem dX10_rowFrom_9 : decode cX10_rowFrom 9 = .ok (.imul, 1) := by decide +kernel
theorem dX10_rowFrom_10 : decode cX10_rowFrom 10 = .ok (.iload_n 2, 1) := by decide +kernel
theorem dX10_rowFrom_11 : decode cX10_rowFrom 11 = .ok (.iadd, 1) := by decide +kernel
theorem dX10_rowFrom_12 : decode cX10_rowFrom 12 = .ok (.iaload, 1) := by decide +kernel
theorem dX10_rowFrom_13 : decode cX10_rowFrom 13 = .ok (.ifCond .eq 22, 3) := by decide +kernel
theorem dX10_rowFrom_16 : decode cX10_rowFrom 16 = .ok (.aload_n 0, 1) := by decide +kernel
theorem dX10_rowFrom_17 : decode cX10_rowFrom 17 = .ok (.getfield 47, 3) := by decide +kernel
theorem dX10_rowFrom_20 : decode cX10_rowFrom 20 = .ok (.iload_n 1, 1) := by decide +kernel
theorem dX10_rowFrom_21 : decode cX10_rowFrom 21 = .ok (.iload_n 2, 1) := by decide +kernel
theorem dX10_rowFrom_22 : decode cX10_rowFrom 22 = .ok (.iadd, 1) := by decide +kernel
theorem dX10_rowFrom_23 : decode cX10_rowFrom 23 = .ok (.iaload, 1) := by decide +kernel
theorem dX10_rowFrom_24 : decode cX10_rowFrom 24 = .ok (.iconst 1, 1) := by decide +kernel
theorem dX10_rowFrom_25 : decode cX10_rowFrom 25 = .ok (.iadd, 1) := by decide +kernel
theorem dX10_rowFrom_26 : decode cX10_rowFrom 26 = .ok (.aload_n 0, 1) := by decide +kernel
theorem dX10_rowFrom_27 : decode cX10_rowFrom 27 = .ok (.getfield 47, 3) := by decide +kernel
theorem dX10_rowFrom_30 : decode cX10_rowFrom 30 = .ok (.iload_n 1, 1) := by decide +kernel
theorem dX10_rowFrom_31 : decode cX10_rowFrom 31 = .ok (.iaload, 1) := by decide +kernel
theorem dX10_rowFrom_32 : decode cX10_rowFrom 32 = .ok (.if_icmp .eq 9, 3) := by decide +kernel
theorem dX10_rowFrom_35 : decode cX10_rowFrom 35 = .ok (.iinc 2 1, 3) := by decide +kernel
theorem dX10_rowFrom_38 : decode cX10_rowFrom 38 = .ok (.goto (-36), 3) := by decide +kernel
theorem dX10_rowFrom_41 : decode cX10_rowFrom 41 = .ok (.iload_n 2, 1) := by decide +kernel
theorem dX10_rowFrom_42 : decode cX10_rowFrom 42 = .ok (.ireturn, 1) := by decide +kernel
theorem dX10_carved_0 : decode cX10_carved 0 = .ok (.iload_n 1, 1) := by decide +kernel
theorem dX10_carved_1 : decode cX10_carved 1 = .ok (.ifCond .ge 7, 3) := by decide +kernel
theorem dX10_carved_4 : decode cX10_carved 4 = .ok (.iconst (-1), 1) := by decide +kernel
theorem dX10_carved_5 : decode cX10_carved 5 = .ok (.goto 26, 3) := by decide +kernel
theorem dX10_carved_8 : decode cX10_carved 8 = .ok (.iload_n 1, 1) := by decide +kernel
theorem dX10_carved_9 : decode cX10_carved 9 = .ok (.aload_n 0, 1) := by decide +kernel
theorem dX10_carved_10 : decode cX10_carved 10 = .ok (.getfield 19, 3) := by decide +kernel
theorem dX10_carved_13 : decode cX10_carved 13 = .ok (.iconst 2, 1) := by decide +kernel
theorem dX10_carved_14 : decode cX10_carved 14 = .ok (.iaload, 1) := by decide +kernel
theorem dX10_carved_15 : decode cX10_carved 15 = .ok (.if_icmp .ge 14, 3) := by decide +kernel
theorem dX10_carved_18 : decode cX10_carved 18 = .ok (.aload_n 0, 1) := by decide +kernel
theorem dX10_carved_19 : decode cX10_carved 19 = .ok (.getfield 19, 3) := by decide +kernel
theorem dX10_carved_22 : decode cX10_carved 22 = .ok (.iconst 3, 1) := by decide +kernel
theorem dX10_carved_23 : decode cX10_carved 23 = .ok (.iload_n 1, 1) := by decide +kernel
theorem dX10_carved_24 : decode cX10_carved 24 = .ok (.iadd, 1) := by decide +kernel
theorem dX10_carved_25 : decode cX10_carved 25 = .ok (.iaload, 1) := by decide +kernel
theorem dX10_carved_26 : decode cX10_carved 26 = .ok (.goto 5, 3) := by decide +kernel
theorem dX10_carved_29 : decode cX10_carved 29 = .ok (.bipush (-4), 2) := by decide +kernel
theorem dX10_carved_31 : decode cX10_carved 31 = .ok (.ireturn, 1) := by decide +kernel
theorem dX10_read_0 : decode cX10_read 0 = .ok (.iload_n 1, 1) := by decide +kernel
theorem dX10_read_1 : decode cX10_read 1 = .ok (.ifCond .lt 15, 3) := by decide +kernel
theorem dX10_read_4 : decode cX10_read 4 = .ok (.iload_n 2, 1) := by decide +kernel
theorem dX10_read_5 : decode cX10_read 5 = .ok (.i2l, 1) := by decide +kernel
theorem dX10_read_6 : decode cX10_read 6 = .ok (.lconst 1, 1) := by decide +kernel
theorem dX10_read_7 : decode cX10_read 7 = .ok (.ldc2_w 209, 3) := by decide +kernel
theorem dX10_read_10 : decode cX10_read 10 = .ok (.invokestatic 75, 3) := by decide +kernel
theorem dX10_read_13 : decode cX10_read 13 = .ok (.ifCond .ne 5, 3) := by decide +kernel
theorem dX10_read_16 : decode cX10_read 16 = .ok (.iconst (-1), 1) := by decide +kernel
theorem dX10_read_17 : decode cX10_read 17 = .ok (.ireturn, 1) := by decide +kernel
theorem dX10_read_18 : decode cX10_read 18 = .ok (.iload_n 1, 1) := by decide +kernel
theorem dX10_read_19 : decode cX10_read 19 = .ok (.iload_n 2, 1) := by decide +kernel
theorem dX10_read_20 : decode cX10_read 20 = .ok (.iadd, 1) := by decide +kernel
theorem dX10_read_21 : decode cX10_read 21 = .ok (.aload_n 0, 1) := by decide +kernel
theorem dX10_read_22 : decode cX10_read 22 = .ok (.getfield 19, 3) := by decide +kernel
theorem dX10_read_25 : decode cX10_read 25 = .ok (.iconst 2, 1) := by decide +kernel
theorem dX10_read_26 : decode cX10_read 26 = .ok (.iaload, 1) := by decide +kernel
theorem dX10_read_27 : decode cX10_read 27 = .ok (.if_icmp .gt 9, 3) := by decide +kernel
theorem dX10_read_30 : decode cX10_read 30 = .ok (.iload_n 1, 1) := by decide +kernel
theorem dX10_read_31 : decode cX10_read 31 = .ok (.bipush 16, 2) := by decide +kernel
theorem dX10_read_33 : decode cX10_read 33 = .ok (.if_icmp .le 8, 3) := by decide +kernel
theorem dX10_read_36 : decode cX10_read 36 = .ok (.bipush (-2), 2) := by decide +kernel
theorem dX10_read_38 : decode cX10_read 38 = .ok (.goto 15, 3) := by decide +kernel
theorem dX10_read_41 : decode cX10_read 41 = .ok (.aload_n 0, 1) := by decide +kernel
theorem dX10_read_42 : decode cX10_read 42 = .ok (.aload_n 0, 1) := by decide +kernel
theorem dX10_read_43 : decode cX10_read 43 = .ok (.getfield 19, 3) := by decide +kernel
theorem dX10_read_46 : decode cX10_read 46 = .ok (.iconst 3, 1) := by decide +kernel
theorem dX10_read_47 : decode cX10_read 47 = .ok (.iload_n 1, 1) := by decide +kernel
theorem dX10_read_48 : decode cX10_read 48 = .ok (.iadd, 1) := by decide +kernel
theorem dX10_read_49 : decode cX10_read 49 = .ok (.iload_n 2, 1) := by decide +kernel
theorem dX10_read_50 : decode cX10_read 50 = .ok (.invokevirtual 183, 3) := by decide +kernel
theorem dX10_read_53 : decode cX10_read 53 = .ok (.ireturn, 1) := by decide +kernel
theorem dX10_readings_0 : decode cX10_readings 0 = .ok (.aload_n 0, 1) := by decide +kernel
theorem dX10_readings_1 : decode cX10_readings 1 = .ok (.invokevirtual 211, 3) := by decide +kernel
theorem dX10_readings_4 : decode cX10_readings 4 = .ok (.aload_n 0, 1) := by decide +kernel
theorem dX10_readings_5 : decode cX10_readings 5 = .ok (.getfield 50, 3) := by decide +kernel
theorem dX10_readings_8 : decode cX10_readings 8 = .ok (.iconst 0, 1) := by decide +kernel
theorem dX10_readings_9 : decode cX10_readings 9 = .ok (.laload, 1) := by decide +kernel
theorem dX10_readings_10 : decode cX10_readings 10 = .ok (.lreturn, 1) := by decide +kernel
theorem dX10_begins_0 : decode cX10_begins 0 = .ok (.aload_n 0, 1) := by decide +kernel
theorem dX10_begins_1 : decode cX10_begins 1 = .ok (.invokevirtual 211, 3) := by decide +kernel
theorem dX10_begins_4 : decode cX10_begins 4 = .ok (.aload_n 0, 1) := by decide +kernel
theorem dX10_begins_5 : decode cX10_begins 5 = .ok (.getfield 47, 3) := by decide +kernel
theorem dX10_begins_8 : decode cX10_begins 8 = .ok (.iconst 0, 1) := by decide +kernel
theorem dX10_begins_9 : decode cX10_begins 9 = .ok (.iaload, 1) := by decide +kernel
theorem dX10_begins_10 : decode cX10_begins 10 = .ok (.sipush 999, 3) := by decide +kernel
theorem dX10_begins_13 : decode cX10_begins 13 = .ok (.if_icmp .gt 13, 3) := by decide +kernel
theorem dX10_begins_16 : decode cX10_begins 16 = .ok (.iload_n 1, 1) := by decide +kernel
theorem dX10_begins_17 : decode cX10_begins 17 = .ok (.aload_n 0, 1) := by decide +kernel
theorem dX10_begins_18 : decode cX10_begins 18 = .ok (.getfield 47, 3) := by decide +kernel
theorem dX10_begins_21 : decode cX10_begins 21 = .ok (.iconst 0, 1) := by decide +kernel
theorem dX10_begins_22 : decode cX10_begins 22 = .ok (.iaload, 1) := by decide +kernel
theorem dX10_begins_23 : decode cX10_begins 23 = .ok (.if_icmp .lt 6, 3) := by decide +kernel
theorem dX10_begins_26 : decode cX10_begins 26 = .ok (.bipush (-4), 2) := by decide +kernel
theorem dX10_begins_28 : decode cX10_begins 28 = .ok (.ireturn, 1) := by decide +kernel
theorem dX10_begins_29 : decode cX10_begins 29 = .ok (.iconst 0, 1) := by decide +kernel
theorem dX10_begins_30 : decode cX10_begins 30 = .ok (.istore_n 2, 1) := by decide +kernel
theorem dX10_begins_31 : decode cX10_begins 31 = .ok (.iconst 0, 1) := by decide +kernel
theorem dX10_begins_32 : decode cX10_begins 32 = .ok (.istore_n 3, 1) := by decide +kernel
theorem dX10_begins_33 : decode cX10_begins 33 = .ok (.iload_n 3, 1) := by decide +kernel
theorem dX10_begins_34 : decode cX10_begins 34 = .ok (.iload_n 1, 1) := by decide +kernel
theorem dX10_begins_35 : decode cX10_begins 35 = .ok (.if_icmp .ge 17, 3) := by decide +kernel
theorem dX10_begins_38 : decode cX10_begins 38 = .ok (.iload_n 2, 1) := by decide +kernel
theorem dX10_begins_39 : decode cX10_begins 39 = .ok (.aload_n 0, 1) := by decide +kernel
theorem dX10_begins_40 : decode cX10_begins 40 = .ok (.iload_n 2, 1) := by decide +kernel
theorem dX10_begins_41 : decode cX10_begins 41 = .ok (.invokevirtual 214, 3) := by decide +kernel
theorem dX10_begins_44 : decode cX10_begins 44 = .ok (.iadd, 1) := by decide +kernel
theorem dX10_begins_45 : decode cX10_begins 45 = .ok (.istore_n 2, 1) := by decide +kernel
theorem dX10_begins_46 : decode cX10_begins 46 = .ok (.iinc 3 1, 3) := by decide +kernel
theorem dX10_begins_49 : decode cX10_begins 49 = .ok (.goto (-16), 3) := by decide +kernel
theorem dX10_begins_52 : decode cX10_begins 52 = .ok (.iload_n 2, 1) := by decide +kernel
theorem dX10_begins_53 : decode cX10_begins 53 = .ok (.ireturn, 1) := by decide +kernel
theorem dX10_reading_0 : decode cX10_reading 0 = .ok (.iload_n 1, 1) := by decide +kernel
theorem dX10_reading_1 : decode cX10_reading 1 = .ok (.iconst (-1), 1) := by decide +kernel
theorem dX10_reading_2 : decode cX10_reading 2 = .ok (.if_icmp .ge 5, 3) := by decide +kernel
theorem dX10_reading_5 : decode cX10_reading 5 = .ok (.iconst (-1), 1) := by decide +kernel
theorem dX10_reading_6 : decode cX10_reading 6 = .ok (.ireturn, 1) := by decide +kernel
theorem dX10_reading_7 : decode cX10_reading 7 = .ok (.aload_n 0, 1) := by decide +kernel
theorem dX10_reading_8 : decode cX10_reading 8 = .ok (.iload_n 1, 1) := by decide +kernel
theorem dX10_reading_9 : decode cX10_reading 9 = .ok (.invokevirtual 217, 3) := by decide +kernel
theorem dX10_reading_12 : decode cX10_reading 12 = .ok (.istore_n 2, 1) := by decide +kernel
theorem dX10_reading_13 : decode cX10_reading 13 = .ok (.iload_n 1, 1) := by decide +kernel
theorem dX10_reading_14 : decode cX10_reading 14 = .ok (.iconst (-1), 1) := by decide +kernel
theorem dX10_reading_15 : decode cX10_reading 15 = .ok (.if_icmp .ne 27, 3) := by decide +kernel
theorem dX10_reading_18 : decode cX10_reading 18 = .ok (.aload_n 0, 1) := by decide +kernel
theorem dX10_reading_19 : decode cX10_reading 19 = .ok (.getfield 47, 3) := by decide +kernel
theorem dX10_reading_22 : decode cX10_reading 22 = .ok (.iconst 0, 1) := by decide +kernel
theorem dX10_reading_23 : decode cX10_reading 23 = .ok (.iaload, 1) := by decide +kernel
theorem dX10_reading_24 : decode cX10_reading 24 = .ok (.sipush 999, 3) := by decide +kernel
theorem dX10_reading_27 : decode cX10_reading 27 = .ok (.if_icmp .le 8, 3) := by decide +kernel
theorem dX10_reading_30 : decode cX10_reading 30 = .ok (.bipush (-4), 2) := by decide +kernel
theorem dX10_reading_32 : decode cX10_reading 32 = .ok (.goto 9, 3) := by decide +kernel
theorem dX10_reading_35 : decode cX10_reading 35 = .ok (.aload_n 0, 1) := by decide +kernel
theorem dX10_reading_36 : decode cX10_reading 36 = .ok (.getfield 47, 3) := by decide +kernel
theorem dX10_reading_39 : decode cX10_reading 39 = .ok (.iconst 0, 1) := by decide +kernel
theorem dX10_reading_40 : decode cX10_reading 40 = .ok (.iaload, 1) := by decide +kernel
theorem dX10_reading_41 : decode cX10_reading 41 = .ok (.ireturn, 1) := by decide +kernel
theorem dX10_reading_42 : decode cX10_reading 42 = .ok (.iload_n 2, 1) := by decide +kernel
theorem dX10_reading_43 : decode cX10_reading 43 = .ok (.bipush (-4), 2) := by decide +kernel
theorem dX10_reading_45 : decode cX10_reading 45 = .ok (.if_icmp .ne 6, 3) := by decide +kernel
theorem dX10_reading_48 : decode cX10_reading 48 = .ok (.bipush (-4), 2) := by decide +kernel
theorem dX10_reading_50 : decode cX10_reading 50 = .ok (.ireturn, 1) := by decide +kernel
theorem dX10_reading_51 : decode cX10_reading 51 = .ok (.aload_n 0, 1) := by decide +kernel
theorem dX10_reading_52 : decode cX10_reading 52 = .ok (.getfield 53, 3) := by decide +kernel
theorem dX10_reading_55 : decode cX10_reading 55 = .ok (.bipush 10, 2) := by decide +kernel
theorem dX10_reading_57 : decode cX10_reading 57 = .ok (.iload_n 2, 1) := by decide +kernel
theorem dX10_reading_58 : decode cX10_reading 58 = .ok (.imul, 1) := by decide +kernel
theorem dX10_reading_59 : decode cX10_reading 59 = .ok (.aload_n 0, 1) := by decide +kernel
theorem dX10_reading_60 : decode cX10_reading 60 = .ok (.iload_n 2, 1) := by decide +kernel
theorem dX10_reading_61 : decode cX10_reading 61 = .ok (.invokevirtual 214, 3) := by decide +kernel
theorem dX10_reading_64 : decode cX10_reading 64 = .ok (.iadd, 1) := by decide +kernel
theorem dX10_reading_65 : decode cX10_reading 65 = .ok (.iaload, 1) := by decide +kernel
theorem dX10_reading_66 : decode cX10_reading 66 = .ok (.istore_n 3, 1) := by decide +kernel
theorem dX10_reading_67 : decode cX10_reading 67 = .ok (.iconst 0, 1) := by decide +kernel
theorem dX10_reading_68 : decode cX10_reading 68 = .ok (.istore 4, 2) := by decide +kernel
theorem dX10_reading_70 : decode cX10_reading 70 = .ok (.iload_n 3, 1) := by decide +kernel
theorem dX10_reading_71 : decode cX10_reading 71 = .ok (.iload 4, 2) := by decide +kernel
theorem dX10_reading_73 : decode cX10_reading 73 = .ok (.ishr, 1) := by decide +kernel
theorem dX10_reading_74 : decode cX10_reading 74 = .ok (.iconst 1, 1) := by decide +kernel
theorem dX10_reading_75 : decode cX10_reading 75 = .ok (.iand, 1) := by decide +kernel
theorem dX10_reading_76 : decode cX10_reading 76 = .ok (.ifCond .ne 9, 3) := by decide +kernel
theorem dX10_reading_79 : decode cX10_reading 79 = .ok (.iinc 4 1, 3) := by decide +kernel
theorem dX10_reading_82 : decode cX10_reading 82 = .ok (.goto (-12), 3) := by decide +kernel
theorem dX10_reading_85 : decode cX10_reading 85 = .ok (.iload 4, 2) := by decide +kernel
theorem dX10_reading_87 : decode cX10_reading 87 = .ok (.ireturn, 1) := by decide +kernel
theorem dX10_cut_0 : decode cX10_cut 0 = .ok (.iload_n 1, 1) := by decide +kernel
theorem dX10_cut_1 : decode cX10_cut 1 = .ok (.ifCond .ge 5, 3) := by decide +kernel
theorem dX10_cut_4 : decode cX10_cut 4 = .ok (.iconst (-1), 1) := by decide +kernel
theorem dX10_cut_5 : decode cX10_cut 5 = .ok (.ireturn, 1) := by decide +kernel
theorem dX10_cut_6 : decode cX10_cut 6 = .ok (.aload_n 0, 1) := by decide +kernel
theorem dX10_cut_7 : decode cX10_cut 7 = .ok (.iload_n 1, 1) := by decide +kernel
theorem dX10_cut_8 : decode cX10_cut 8 = .ok (.invokevirtual 217, 3) := by decide +kernel
theorem dX10_cut_11 : decode cX10_cut 11 = .ok (.istore_n 2, 1) := by decide +kernel
theorem dX10_cut_12 : decode cX10_cut 12 = .ok (.iload_n 2, 1) := by decide +kernel
theorem dX10_cut_13 : decode cX10_cut 13 = .ok (.bipush (-4), 2) := by decide +kernel
theorem dX10_cut_15 : decode cX10_cut 15 = .ok (.if_icmp .ne 8, 3) := by decide +kernel
theorem dX10_cut_18 : decode cX10_cut 18 = .ok (.bipush (-4), 2) := by decide +kernel
theorem dX10_cut_20 : decode cX10_cut 20 = .ok (.goto 8, 3) := by decide +kernel
theorem dX10_cut_23 : decode cX10_cut 23 = .ok (.aload_n 0, 1) := by decide +kernel
theorem dX10_cut_24 : decode cX10_cut 24 = .ok (.iload_n 2, 1) := by decide +kernel
theorem dX10_cut_25 : decode cX10_cut 25 = .ok (.invokevirtual 214, 3) := by decide +kernel
theorem dX10_cut_28 : decode cX10_cut 28 = .ok (.ireturn, 1) := by decide +kernel
theorem dX10_count_0 : decode cX10_count 0 = .ok (.iconst 0, 1) := by decide +kernel
theorem dX10_count_1 : decode cX10_count 1 = .ok (.istore_n 2, 1) := by decide +kernel
theorem dX10_count_2 : decode cX10_count 2 = .ok (.iconst 0, 1) := by decide +kernel
theorem dX10_count_3 : decode cX10_count 3 = .ok (.istore_n 3, 1) := by decide +kernel
theorem dX10_count_4 : decode cX10_count 4 = .ok (.iconst 0, 1) := by decide +kernel
theorem dX10_count_5 : decode cX10_count 5 = .ok (.istore 4, 2) := by decide +kernel
theorem dX10_count_7 : decode cX10_count 7 = .ok (.iconst 0, 1) := by decide +kernel
theorem dX10_count_8 : decode cX10_count 8 = .ok (.istore 5, 2) := by decide +kernel
theorem dX10_count_10 : decode cX10_count 10 = .ok (.iload 5, 2) := by decide +kernel
theorem dX10_count_12 : decode cX10_count 12 = .ok (.aload_n 0, 1) := by decide +kernel
theorem dX10_count_13 : decode cX10_count 13 = .ok (.getfield 13, 3) := by decide +kernel
theorem dX10_count_16 : decode cX10_count 16 = .ok (.sipush 165, 3) := by decide +kernel
theorem dX10_count_19 : decode cX10_count 19 = .ok (.iaload, 1) := by decide +kernel
theorem dX10_count_20 : decode cX10_count 20 = .ok (.if_icmp .ge 96, 3) := by decide +kernel
theorem dX10_count_23 : decode cX10_count 23 = .ok (.iload_n 1, 1) := by decide +kernel
theorem dX10_count_24 : decode cX10_count 24 = .ok (.i2l, 1) := by decide +kernel
theorem dX10_count_25 : decode cX10_count 25 = .ok (.ldc2_w 220, 3) := by decide +kernel
theorem dX10_count_28 : decode cX10_count 28 = .ok (.ldc2_w 222, 3) := by decide +kernel
theorem dX10_count_31 : decode cX10_count 31 = .ok (.invokestatic 75, 3) := by decide +kernel
theorem dX10_count_34 : decode cX10_count 34 = .ok (.ifCond .eq 82, 3) := by decide +kernel
theorem dX10_count_37 : decode cX10_count 37 = .ok (.iload_n 2, 1) := by decide +kernel
theorem dX10_count_38 : decode cX10_count 38 = .ok (.aload_n 0, 1) := by decide +kernel
theorem dX10_count_39 : decode cX10_count 39 = .ok (.iload 5, 2) := by decide +kernel
theorem dX10_count_41 : decode cX10_count 41 = .ok (.invokevirtual 180, 3) := by decide +kernel
theorem dX10_count_44 : decode cX10_count 44 = .ok (.bipush (-4), 2) := by decide +kernel
theorem dX10_count_46 : decode cX10_count 46 = .ok (.if_icmp .eq 7, 3) := by decide +kernel
theorem dX10_count_49 : decode cX10_count 49 = .ok (.iconst 1, 1) := by decide +kernel
theorem dX10_count_50 : decode cX10_count 50 = .ok (.goto 4, 3) := by decide +kernel
theorem dX10_count_53 : decode cX10_count 53 = .ok (.iconst 0, 1) := by decide +kernel
theorem dX10_count_54 : decode cX10_count 54 = .ok (.iadd, 1) := by decide +kernel
theorem dX10_count_55 : decode cX10_count 55 = .ok (.istore_n 2, 1) := by decide +kernel
theorem dX10_count_56 : decode cX10_count 56 = .ok (.iload_n 3, 1) := by decide +kernel
theorem dX10_count_57 : decode cX10_count 57 = .ok (.aload_n 0, 1) := by decide +kernel
theorem dX10_count_58 : decode cX10_count 58 = .ok (.iload 5, 2) := by decide +kernel
theorem dX10_count_60 : decode cX10_count 60 = .ok (.invokevirtual 201, 3) := by decide +kernel
theorem dX10_count_63 : decode cX10_count 63 = .ok (.ifCond .le 7, 3) := by decide +kernel
theorem dX10_count_66 : decode cX10_count 66 = .ok (.iconst 1, 1) := by decide +kernel
theorem dX10_count_67 : decode cX10_count 67 = .ok (.goto 4, 3) := by decide +kernel
theorem dX10_count_70 : decode cX10_count 70 = .ok (.iconst 0, 1) := by decide +kernel
theorem dX10_count_71 : decode cX10_count 71 = .ok (.iadd, 1) := by decide +kernel
theorem dX10_count_72 : decode cX10_count 72 = .ok (.istore_n 3, 1) := by decide +kernel
theorem dX10_count_73 : decode cX10_count 73 = .ok (.iconst 0, 1) := by decide +kernel
theorem dX10_count_74 : decode cX10_count 74 = .ok (.istore 6, 2) := by decide +kernel
theorem dX10_count_76 : decode cX10_count 76 = .ok (.iload 6, 2) := by decide +kernel
theorem dX10_count_78 : decode cX10_count 78 = .ok (.iload 5, 2) := by decide +kernel
theorem dX10_count_80 : decode cX10_count 80 = .ok (.if_icmp .ge 30, 3) := by decide +kernel
theorem dX10_count_83 : decode cX10_count 83 = .ok (.iload 4, 2) := by decide +kernel
theorem dX10_count_85 : decode cX10_count 85 = .ok (.aload_n 0, 1) := by decide +kernel
theorem dX10_count_86 : decode cX10_count 86 = .ok (.iload 6, 2) := by decide +kernel
theorem dX10_count_88 : decode cX10_count 88 = .ok (.iload 5, 2) := by decide +kernel
theorem dX10_count_90 : decode cX10_count 90 = .ok (.invokevirtual 190, 3) := by decide +kernel
theorem dX10_count_93 : decode cX10_count 93 = .ok (.ifCond .eq 7, 3) := by decide +kernel
theorem dX10_count_96 : decode cX10_count 96 = .ok (.iconst 1, 1) := by decide +kernel
theorem dX10_count_97 : decode cX10_count 97 = .ok (.goto 4, 3) := by decide +kernel
theorem dX10_count_100 : decode cX10_count 100 = .ok (.iconst 0, 1) := by decide +kernel
theorem dX10_count_101 : decode cX10_count 101 = .ok (.iadd, 1) := by decide +kernel
theorem dX10_count_102 : decode cX10_count 102 = .ok (.istore 4, 2) := by decide +kernel
theorem dX10_count_104 : decode cX10_count 104 = .ok (.iinc 6 1, 3) := by decide +kernel
theorem dX10_count_107 : decode cX10_count 107 = .ok (.goto (-31), 3) := by decide +kernel
theorem dX10_count_110 : decode cX10_count 110 = .ok (.iinc 5 1, 3) := by decide +kernel
theorem dX10_count_113 : decode cX10_count 113 = .ok (.goto (-103), 3) := by decide +kernel
theorem dX10_count_116 : decode cX10_count 116 = .ok (.iload_n 1, 1) := by decide +kernel
theorem dX10_count_117 : decode cX10_count 117 = .ok (.tableswitch 114 0 9 #[55, 64, 73, 80, 90, 97, 99, 101, 104, 109], 55) := by decide +kernel
theorem dX10_count_172 : decode cX10_count 172 = .ok (.aload_n 0, 1) := by decide +kernel
theorem dX10_count_173 : decode cX10_count 173 = .ok (.getfield 13, 3) := by decide +kernel
theorem dX10_count_176 : decode cX10_count 176 = .ok (.sipush 164, 3) := by decide +kernel
theorem dX10_count_179 : decode cX10_count 179 = .ok (.iaload, 1) := by decide +kernel
theorem dX10_count_180 : decode cX10_count 180 = .ok (.ireturn, 1) := by decide +kernel
theorem dX10_count_181 : decode cX10_count 181 = .ok (.aload_n 0, 1) := by decide +kernel
theorem dX10_count_182 : decode cX10_count 182 = .ok (.getfield 13, 3) := by decide +kernel
theorem dX10_count_185 : decode cX10_count 185 = .ok (.sipush 165, 3) := by decide +kernel
theorem dX10_count_188 : decode cX10_count 188 = .ok (.iaload, 1) := by decide +kernel
theorem dX10_count_189 : decode cX10_count 189 = .ok (.ireturn, 1) := by decide +kernel
theorem dX10_count_190 : decode cX10_count 190 = .ok (.aload_n 0, 1) := by decide +kernel
theorem dX10_count_191 : decode cX10_count 191 = .ok (.getfield 19, 3) := by decide +kernel
theorem dX10_count_194 : decode cX10_count 194 = .ok (.iconst 0, 1) := by decide +kernel
theorem dX10_count_195 : decode cX10_count 195 = .ok (.iaload, 1) := by decide +kernel
theorem dX10_count_196 : decode cX10_count 196 = .ok (.ireturn, 1) := by decide +kernel
theorem dX10_count_197 : decode cX10_count 197 = .ok (.aload_n 0, 1) := by decide +kernel
theorem dX10_count_198 : decode cX10_count 198 = .ok (.getfield 19, 3) := by decide +kernel
theorem dX10_count_201 : decode cX10_count 201 = .ok (.iconst 1, 1) := by decide +kernel
theorem dX10_count_202 : decode cX10_count 202 = .ok (.iaload, 1) := by decide +kernel
theorem dX10_count_203 : decode cX10_count 203 = .ok (.invokestatic 127, 3) := by decide +kernel
theorem dX10_count_206 : decode cX10_count 206 = .ok (.ireturn, 1) := by decide +kernel
theorem dX10_count_207 : decode cX10_count 207 = .ok (.aload_n 0, 1) := by decide +kernel
theorem dX10_count_208 : decode cX10_count 208 = .ok (.getfield 19, 3) := by decide +kernel
theorem dX10_count_211 : decode cX10_count 211 = .ok (.iconst 2, 1) := by decide +kernel
theorem dX10_count_212 : decode cX10_count 212 = .ok (.iaload, 1) := by decide +kernel
theorem dX10_count_213 : decode cX10_count 213 = .ok (.ireturn, 1) := by decide +kernel
theorem dX10_count_214 : decode cX10_count 214 = .ok (.iload_n 2, 1) := by decide +kernel
theorem dX10_count_215 : decode cX10_count 215 = .ok (.ireturn, 1) := by decide +kernel
theorem dX10_count_216 : decode cX10_count 216 = .ok (.iload_n 3, 1) := by decide +kernel
theorem dX10_count_217 : decode cX10_count 217 = .ok (.ireturn, 1) := by decide +kernel
theorem dX10_count_218 : decode cX10_count 218 = .ok (.iload 4, 2) := by decide +kernel
theorem dX10_count_220 : decode cX10_count 220 = .ok (.ireturn, 1) := by decide +kernel
theorem dX10_count_221 : decode cX10_count 221 = .ok (.aload_n 0, 1) := by decide +kernel
theorem dX10_count_222 : decode cX10_count 222 = .ok (.getfield 67, 3) := by decide +kernel
theorem dX10_count_225 : decode cX10_count 225 = .ok (.ireturn, 1) := by decide +kernel
theorem dX10_count_226 : decode cX10_count 226 = .ok (.aload_n 0, 1) := by decide +kernel
theorem dX10_count_227 : decode cX10_count 227 = .ok (.getfield 79, 3) := by decide +kernel
theorem dX10_count_230 : decode cX10_count 230 = .ok (.ireturn, 1) := by decide +kernel
theorem dX10_count_231 : decode cX10_count 231 = .ok (.iconst (-1), 1) := by decide +kernel
theorem dX10_count_232 : decode cX10_count 232 = .ok (.ireturn, 1) := by decide +kernel
theorem dJ6_bitCount_0f7a4_0 : decode cJ6_bitCount_0f7a4 0 = .ok (.iload_n 0, 1) := by decide +kernel
theorem dJ6_bitCount_0f7a4_1 : decode cJ6_bitCount_0f7a4 1 = .ok (.iload_n 0, 1) := by decide +kernel
theorem dJ6_bitCount_0f7a4_2 : decode cJ6_bitCount_0f7a4 2 = .ok (.iconst 1, 1) := by decide +kernel
theorem dJ6_bitCount_0f7a4_3 : decode cJ6_bitCount_0f7a4 3 = .ok (.iushr, 1) := by decide +kernel
theorem dJ6_bitCount_0f7a4_4 : decode cJ6_bitCount_0f7a4 4 = .ok (.ldc_w 265, 3) := by decide +kernel
theorem dJ6_bitCount_0f7a4_7 : decode cJ6_bitCount_0f7a4 7 = .ok (.iand, 1) := by decide +kernel
theorem dJ6_bitCount_0f7a4_8 : decode cJ6_bitCount_0f7a4 8 = .ok (.isub, 1) := by decide +kernel
theorem dJ6_bitCount_0f7a4_9 : decode cJ6_bitCount_0f7a4 9 = .ok (.istore_n 0, 1) := by decide +kernel
theorem dJ6_bitCount_0f7a4_10 : decode cJ6_bitCount_0f7a4 10 = .ok (.iload_n 0, 1) := by decide +kernel
theorem dJ6_bitCount_0f7a4_11 : decode cJ6_bitCount_0f7a4 11 = .ok (.ldc_w 266, 3) := by decide +kernel
theorem dJ6_bitCount_0f7a4_14 : decode cJ6_bitCount_0f7a4 14 = .ok (.iand, 1) := by decide +kernel
theorem dJ6_bitCount_0f7a4_15 : decode cJ6_bitCount_0f7a4 15 = .ok (.iload_n 0, 1) := by decide +kernel
theorem dJ6_bitCount_0f7a4_16 : decode cJ6_bitCount_0f7a4 16 = .ok (.iconst 2, 1) := by decide +kernel
theorem dJ6_bitCount_0f7a4_17 : decode cJ6_bitCount_0f7a4 17 = .ok (.iushr, 1) := by decide +kernel
theorem dJ6_bitCount_0f7a4_18 : decode cJ6_bitCount_0f7a4 18 = .ok (.ldc_w 266, 3) := by decide +kernel
theorem dJ6_bitCount_0f7a4_21 : decode cJ6_bitCount_0f7a4 21 = .ok (.iand, 1) := by decide +kernel
theorem dJ6_bitCount_0f7a4_22 : decode cJ6_bitCount_0f7a4 22 = .ok (.iadd, 1) := by decide +kernel
theorem dJ6_bitCount_0f7a4_23 : decode cJ6_bitCount_0f7a4 23 = .ok (.istore_n 0, 1) := by decide +kernel
theorem dJ6_bitCount_0f7a4_24 : decode cJ6_bitCount_0f7a4 24 = .ok (.iload_n 0, 1) := by decide +kernel
theorem dJ6_bitCount_0f7a4_25 : decode cJ6_bitCount_0f7a4 25 = .ok (.iload_n 0, 1) := by decide +kernel
theorem dJ6_bitCount_0f7a4_26 : decode cJ6_bitCount_0f7a4 26 = .ok (.iconst 4, 1) := by decide +kernel
theorem dJ6_bitCount_0f7a4_27 : decode cJ6_bitCount_0f7a4 27 = .ok (.iushr, 1) := by decide +kernel
theorem dJ6_bitCount_0f7a4_28 : decode cJ6_bitCount_0f7a4 28 = .ok (.iadd, 1) := by decide +kernel
theorem dJ6_bitCount_0f7a4_29 : decode cJ6_bitCount_0f7a4 29 = .ok (.ldc_w 267, 3) := by decide +kernel
theorem dJ6_bitCount_0f7a4_32 : decode cJ6_bitCount_0f7a4 32 = .ok (.iand, 1) := by decide +kernel
theorem dJ6_bitCount_0f7a4_33 : decode cJ6_bitCount_0f7a4 33 = .ok (.istore_n 0, 1) := by decide +kernel
theorem dJ6_bitCount_0f7a4_34 : decode cJ6_bitCount_0f7a4 34 = .ok (.iload_n 0, 1) := by decide +kernel
theorem dJ6_bitCount_0f7a4_35 : decode cJ6_bitCount_0f7a4 35 = .ok (.iload_n 0, 1) := by decide +kernel
theorem dJ6_bitCount_0f7a4_36 : decode cJ6_bitCount_0f7a4 36 = .ok (.bipush 8, 2) := by decide +kernel
theorem dJ6_bitCount_0f7a4_38 : decode cJ6_bitCount_0f7a4 38 = .ok (.iushr, 1) := by decide +kernel
theorem dJ6_bitCount_0f7a4_39 : decode cJ6_bitCount_0f7a4 39 = .ok (.iadd, 1) := by decide +kernel
theorem dJ6_bitCount_0f7a4_40 : decode cJ6_bitCount_0f7a4 40 = .ok (.istore_n 0, 1) := by decide +kernel
theorem dJ6_bitCount_0f7a4_41 : decode cJ6_bitCount_0f7a4 41 = .ok (.iload_n 0, 1) := by decide +kernel
theorem dJ6_bitCount_0f7a4_42 : decode cJ6_bitCount_0f7a4 42 = .ok (.iload_n 0, 1) := by decide +kernel
theorem dJ6_bitCount_0f7a4_43 : decode cJ6_bitCount_0f7a4 43 = .ok (.bipush 16, 2) := by decide +kernel
theorem dJ6_bitCount_0f7a4_45 : decode cJ6_bitCount_0f7a4 45 = .ok (.iushr, 1) := by decide +kernel
theorem dJ6_bitCount_0f7a4_46 : decode cJ6_bitCount_0f7a4 46 = .ok (.iadd, 1) := by decide +kernel
theorem dJ6_bitCount_0f7a4_47 : decode cJ6_bitCount_0f7a4 47 = .ok (.istore_n 0, 1) := by decide +kernel
theorem dJ6_bitCount_0f7a4_48 : decode cJ6_bitCount_0f7a4 48 = .ok (.iload_n 0, 1) := by decide +kernel
theorem dJ6_bitCount_0f7a4_49 : decode cJ6_bitCount_0f7a4 49 = .ok (.bipush 63, 2) := by decide +kernel
theorem dJ6_bitCount_0f7a4_51 : decode cJ6_bitCount_0f7a4 51 = .ok (.iand, 1) := by decide +kernel
theorem dJ6_bitCount_0f7a4_52 : decode cJ6_bitCount_0f7a4 52 = .ok (.ireturn, 1) := by decide +kernel
theorem dJ9_max_7cf53_0 : decode cJ9_max_7cf53 0 = .ok (.iload_n 0, 1) := by decide +kernel
theorem dJ9_max_7cf53_1 : decode cJ9_max_7cf53 1 = .ok (.iload_n 1, 1) := by decide +kernel
theorem dJ9_max_7cf53_2 : decode cJ9_max_7cf53 2 = .ok (.if_icmp .lt 7, 3) := by decide +kernel
theorem dJ9_max_7cf53_5 : decode cJ9_max_7cf53 5 = .ok (.iload_n 0, 1) := by decide +kernel
theorem dJ9_max_7cf53_6 : decode cJ9_max_7cf53 6 = .ok (.goto 4, 3) := by decide +kernel
theorem dJ9_max_7cf53_9 : decode cJ9_max_7cf53 9 = .ok (.iload_n 1, 1) := by decide +kernel
theorem dJ9_max_7cf53_10 : decode cJ9_max_7cf53 10 = .ok (.ireturn, 1) := by decide +kernel
theorem dJ9_min_7cf53_0 : decode cJ9_min_7cf53 0 = .ok (.iload_n 0, 1) := by decide +kernel
theorem dJ9_min_7cf53_1 : decode cJ9_min_7cf53 1 = .ok (.iload_n 1, 1) := by decide +kernel
theorem dJ9_min_7cf53_2 : decode cJ9_min_7cf53 2 = .ok (.if_icmp .gt 7, 3) := by decide +kernel
theorem dJ9_min_7cf53_5 : decode cJ9_min_7cf53 5 = .ok (.iload_n 0, 1) := by decide +kernel
theorem dJ9_min_7cf53_6 : decode cJ9_min_7cf53 6 = .ok (.goto 4, 3) := by decide +kernel
theorem dJ9_min_7cf53_9 : decode cJ9_min_7cf53 9 = .ok (.iload_n 1, 1) := by decide +kernel
theorem dJ9_min_7cf53_10 : decode cJ9_min_7cf53 10 = .ok (.ireturn, 1) := by decide +kernel
theorem dJ0_length_8abf5_0 : decode cJ0_length_8abf5 0 = .ok (.aload_n 0, 1) := by decide +kernel
theorem dJ0_length_8abf5_1 : decode cJ0_length_8abf5 1 = .ok (.getfield 9, 3) := by decide +kernel
theorem dJ0_length_8abf5_4 : decode cJ0_length_8abf5 4 = .ok (.arraylength, 1) := by decide +kernel
theorem dJ0_length_8abf5_5 : decode cJ0_length_8abf5 5 = .ok (.aload_n 0, 1) := by decide +kernel
theorem dJ0_length_8abf5_6 : decode cJ0_length_8abf5 6 = .ok (.invokevirtual 335, 3) := by decide +kernel
theorem dJ0_length_8abf5_9 : decode cJ0_length_8abf5 9 = .ok (.ishr, 1) := by decide +kernel
theorem dJ0_length_8abf5_10 : decode cJ0_length_8abf5 10 = .ok (.ireturn, 1) := by decide +kernel
theorem dJ0_charAt_5068e_0 : decode cJ0_charAt_5068e 0 = .ok (.aload_n 0, 1) := by decide +kernel
theorem dJ0_charAt_5068e_1 : decode cJ0_charAt_5068e 1 = .ok (.invokevirtual 492, 3) := by decide +kernel
theorem dJ0_charAt_5068e_4 : decode cJ0_charAt_5068e 4 = .ok (.ifCond .eq 12, 3) := by decide +kernel
theorem dJ0_charAt_5068e_7 : decode cJ0_charAt_5068e 7 = .ok (.aload_n 0, 1) := by decide +kernel
theorem dJ0_charAt_5068e_8 : decode cJ0_charAt_5068e 8 = .ok (.getfield 9, 3) := by decide +kernel
theorem dJ0_charAt_5068e_11 : decode cJ0_charAt_5068e 11 = .ok (.iload_n 1, 1) := by decide +kernel
theorem dJ0_charAt_5068e_12 : decode cJ0_charAt_5068e 12 = .ok (.invokestatic 495, 3) := by decide +kernel
theorem dJ0_charAt_5068e_15 : decode cJ0_charAt_5068e 15 = .ok (.ireturn, 1) := by decide +kernel
theorem dJ0_charAt_5068e_16 : decode cJ0_charAt_5068e 16 = .ok (.aload_n 0, 1) := by decide +kernel
theorem dJ0_charAt_5068e_17 : decode cJ0_charAt_5068e 17 = .ok (.getfield 9, 3) := by decide +kernel
theorem dJ0_charAt_5068e_20 : decode cJ0_charAt_5068e 20 = .ok (.iload_n 1, 1) := by decide +kernel
theorem dJ0_charAt_5068e_21 : decode cJ0_charAt_5068e 21 = .ok (.invokestatic 498, 3) := by decide +kernel
theorem dJ0_charAt_5068e_24 : decode cJ0_charAt_5068e 24 = .ok (.ireturn, 1) := by decide +kernel
theorem dJ0_coder_7d493_0 : decode cJ0_coder_7d493 0 = .ok (.getstatic 38, 3) := by decide +kernel
theorem dJ0_coder_7d493_3 : decode cJ0_coder_7d493 3 = .ok (.ifCond .eq 10, 3) := by decide +kernel
theorem dJ0_coder_7d493_6 : decode cJ0_coder_7d493 6 = .ok (.aload_n 0, 1) := by decide +kernel
theorem dJ0_coder_7d493_7 : decode cJ0_coder_7d493 7 = .ok (.getfield 15, 3) := by decide +kernel
theorem dJ0_coder_7d493_10 : decode cJ0_coder_7d493 10 = .ok (.goto 4, 3) := by decide +kernel
theorem dJ0_coder_7d493_13 : decode cJ0_coder_7d493 13 = .ok (.iconst 1, 1) := by decide +kernel
theorem dJ0_coder_7d493_14 : decode cJ0_coder_7d493 14 = .ok (.ireturn, 1) := by decide +kernel
theorem dJ0_isLatin1_aae02_0 : decode cJ0_isLatin1_aae02 0 = .ok (.getstatic 38, 3) := by decide +kernel
theorem dJ0_isLatin1_aae02_3 : decode cJ0_isLatin1_aae02 3 = .ok (.ifCond .eq 14, 3) := by decide +kernel
theorem dJ0_isLatin1_aae02_6 : decode cJ0_isLatin1_aae02 6 = .ok (.aload_n 0, 1) := by decide +kernel
theorem dJ0_isLatin1_aae02_7 : decode cJ0_isLatin1_aae02 7 = .ok (.getfield 15, 3) := by decide +kernel
theorem dJ0_isLatin1_aae02_10 : decode cJ0_isLatin1_aae02 10 = .ok (.ifCond .ne 7, 3) := by decide +kernel
theorem dJ0_isLatin1_aae02_13 : decode cJ0_isLatin1_aae02 13 = .ok (.iconst 1, 1) := by decide +kernel
theorem dJ0_isLatin1_aae02_14 : decode cJ0_isLatin1_aae02 14 = .ok (.goto 4, 3) := by decide +kernel
theorem dJ0_isLatin1_aae02_17 : decode cJ0_isLatin1_aae02 17 = .ok (.iconst 0, 1) := by decide +kernel
theorem dJ0_isLatin1_aae02_18 : decode cJ0_isLatin1_aae02 18 = .ok (.ireturn, 1) := by decide +kernel
theorem dJ0_checkIndex_df160_0 : decode cJ0_checkIndex_df160 0 = .ok (.iload_n 0, 1) := by decide +kernel
theorem dJ0_checkIndex_df160_1 : decode cJ0_checkIndex_df160 1 = .ok (.iload_n 1, 1) := by decide +kernel
theorem dJ0_checkIndex_df160_2 : decode cJ0_checkIndex_df160 2 = .ok (.getstatic 1053, 3) := by decide +kernel
theorem dJ0_checkIndex_df160_5 : decode cJ0_checkIndex_df160 5 = .ok (.invokestatic 1059, 3) := by decide +kernel
theorem dJ0_checkIndex_df160_8 : decode cJ0_checkIndex_df160 8 = .ok (.pop, 1) := by decide +kernel
theorem dJ0_checkIndex_df160_9 : decode cJ0_checkIndex_df160 9 = .ok (.return_, 1) := by decide +kernel
theorem dJ1_charAt_3b067_0 : decode cJ1_charAt_3b067 0 = .ok (.iload_n 1, 1) := by decide +kernel
theorem dJ1_charAt_3b067_1 : decode cJ1_charAt_3b067 1 = .ok (.aload_n 0, 1) := by decide +kernel
theorem dJ1_charAt_3b067_2 : decode cJ1_charAt_3b067 2 = .ok (.arraylength, 1) := by decide +kernel
theorem dJ1_charAt_3b067_3 : decode cJ1_charAt_3b067 3 = .ok (.invokestatic 9, 3) := by decide +kernel
theorem dJ1_charAt_3b067_6 : decode cJ1_charAt_3b067 6 = .ok (.aload_n 0, 1) := by decide +kernel
theorem dJ1_charAt_3b067_7 : decode cJ1_charAt_3b067 7 = .ok (.iload_n 1, 1) := by decide +kernel
theorem dJ1_charAt_3b067_8 : decode cJ1_charAt_3b067 8 = .ok (.baload, 1) := by decide +kernel
theorem dJ1_charAt_3b067_9 : decode cJ1_charAt_3b067 9 = .ok (.sipush 255, 3) := by decide +kernel
theorem dJ1_charAt_3b067_12 : decode cJ1_charAt_3b067 12 = .ok (.iand, 1) := by decide +kernel
theorem dJ1_charAt_3b067_13 : decode cJ1_charAt_3b067 13 = .ok (.i2c, 1) := by decide +kernel
theorem dJ1_charAt_3b067_14 : decode cJ1_charAt_3b067 14 = .ok (.ireturn, 1) := by decide +kernel
theorem dJ2_getChar_3b067_0 : decode cJ2_getChar_3b067 0 = .ok (.getstatic 44, 3) := by decide +kernel
theorem dJ2_getChar_3b067_3 : decode cJ2_getChar_3b067 3 = .ok (.ifCond .ne 25, 3) := by decide +kernel
theorem dJ2_getChar_3b067_6 : decode cJ2_getChar_3b067 6 = .ok (.iload_n 1, 1) := by decide +kernel
theorem dJ2_getChar_3b067_7 : decode cJ2_getChar_3b067 7 = .ok (.ifCond .lt 11, 3) := by decide +kernel
theorem dJ2_getChar_3b067_10 : decode cJ2_getChar_3b067 10 = .ok (.iload_n 1, 1) := by decide +kernel
theorem dJ2_getChar_3b067_11 : decode cJ2_getChar_3b067 11 = .ok (.aload_n 0, 1) := by decide +kernel
theorem dJ2_getChar_3b067_12 : decode cJ2_getChar_3b067 12 = .ok (.invokestatic 48, 3) := by decide +kernel
theorem dJ2_getChar_3b067_15 : decode cJ2_getChar_3b067 15 = .ok (.if_icmp .lt 13, 3) := by decide +kernel
theorem dJ2_getChar_3b067_18 : decode cJ2_getChar_3b067 18 = .ok (.new 52, 3) := by decide +kernel
theorem dJ2_getChar_3b067_21 : decode cJ2_getChar_3b067 21 = .ok (.dup, 1) := by decide +kernel
theorem dJ2_getChar_3b067_22 : decode cJ2_getChar_3b067 22 = .ok (.ldc 54, 2) := by decide +kernel
theorem dJ2_getChar_3b067_24 : decode cJ2_getChar_3b067 24 = .ok (.invokespecial 56, 3) := by decide +kernel
theorem dJ2_getChar_3b067_27 : decode cJ2_getChar_3b067 27 = .ok (.athrow, 1) := by decide +kernel
theorem dJ2_getChar_3b067_28 : decode cJ2_getChar_3b067 28 = .ok (.iload_n 1, 1) := by decide +kernel
theorem dJ2_getChar_3b067_29 : decode cJ2_getChar_3b067 29 = .ok (.iconst 1, 1) := by decide +kernel
theorem dJ2_getChar_3b067_30 : decode cJ2_getChar_3b067 30 = .ok (.ishl, 1) := by decide +kernel
theorem dJ2_getChar_3b067_31 : decode cJ2_getChar_3b067 31 = .ok (.istore_n 1, 1) := by decide +kernel
theorem dJ2_getChar_3b067_32 : decode cJ2_getChar_3b067 32 = .ok (.aload_n 0, 1) := by decide +kernel
theorem dJ2_getChar_3b067_33 : decode cJ2_getChar_3b067 33 = .ok (.iload_n 1, 1) := by decide +kernel
theorem dJ2_getChar_3b067_34 : decode cJ2_getChar_3b067 34 = .ok (.iinc 1 1, 3) := by decide +kernel
theorem dJ2_getChar_3b067_37 : decode cJ2_getChar_3b067 37 = .ok (.baload, 1) := by decide +kernel
theorem dJ2_getChar_3b067_38 : decode cJ2_getChar_3b067 38 = .ok (.sipush 255, 3) := by decide +kernel
theorem dJ2_getChar_3b067_41 : decode cJ2_getChar_3b067 41 = .ok (.iand, 1) := by decide +kernel
theorem dJ2_getChar_3b067_42 : decode cJ2_getChar_3b067 42 = .ok (.getstatic 59, 3) := by decide +kernel
theorem dJ2_getChar_3b067_45 : decode cJ2_getChar_3b067 45 = .ok (.ishl, 1) := by decide +kernel
theorem dJ2_getChar_3b067_46 : decode cJ2_getChar_3b067 46 = .ok (.aload_n 0, 1) := by decide +kernel
theorem dJ2_getChar_3b067_47 : decode cJ2_getChar_3b067 47 = .ok (.iload_n 1, 1) := by decide +kernel
theorem dJ2_getChar_3b067_48 : decode cJ2_getChar_3b067 48 = .ok (.baload, 1) := by decide +kernel
theorem dJ2_getChar_3b067_49 : decode cJ2_getChar_3b067 49 = .ok (.sipush 255, 3) := by decide +kernel
theorem dJ2_getChar_3b067_52 : decode cJ2_getChar_3b067 52 = .ok (.iand, 1) := by decide +kernel
theorem dJ2_getChar_3b067_53 : decode cJ2_getChar_3b067 53 = .ok (.getstatic 63, 3) := by decide +kernel
theorem dJ2_getChar_3b067_56 : decode cJ2_getChar_3b067 56 = .ok (.ishl, 1) := by decide +kernel
theorem dJ2_getChar_3b067_57 : decode cJ2_getChar_3b067 57 = .ok (.ior, 1) := by decide +kernel
theorem dJ2_getChar_3b067_58 : decode cJ2_getChar_3b067 58 = .ok (.i2c, 1) := by decide +kernel
theorem dJ2_getChar_3b067_59 : decode cJ2_getChar_3b067 59 = .ok (.ireturn, 1) := by decide +kernel
theorem dJ2_length_9d52b_0 : decode cJ2_length_9d52b 0 = .ok (.aload_n 0, 1) := by decide +kernel
theorem dJ2_length_9d52b_1 : decode cJ2_length_9d52b 1 = .ok (.arraylength, 1) := by decide +kernel
theorem dJ2_length_9d52b_2 : decode cJ2_length_9d52b 2 = .ok (.iconst 1, 1) := by decide +kernel
theorem dJ2_length_9d52b_3 : decode cJ2_length_9d52b 3 = .ok (.ishr, 1) := by decide +kernel
theorem dJ2_length_9d52b_4 : decode cJ2_length_9d52b 4 = .ok (.ireturn, 1) := by decide +kernel
theorem dJ2_charAt_3b067_0 : decode cJ2_charAt_3b067 0 = .ok (.iload_n 1, 1) := by decide +kernel
theorem dJ2_charAt_3b067_1 : decode cJ2_charAt_3b067 1 = .ok (.aload_n 0, 1) := by decide +kernel
theorem dJ2_charAt_3b067_2 : decode cJ2_charAt_3b067 2 = .ok (.invokestatic 67, 3) := by decide +kernel
theorem dJ2_charAt_3b067_5 : decode cJ2_charAt_3b067 5 = .ok (.aload_n 0, 1) := by decide +kernel
theorem dJ2_charAt_3b067_6 : decode cJ2_charAt_3b067 6 = .ok (.iload_n 1, 1) := by decide +kernel
theorem dJ2_charAt_3b067_7 : decode cJ2_charAt_3b067 7 = .ok (.invokestatic 71, 3) := by decide +kernel
theorem dJ2_charAt_3b067_10 : decode cJ2_charAt_3b067 10 = .ok (.ireturn, 1) := by decide +kernel
theorem dJ2_checkIndex_2214a_0 : decode cJ2_checkIndex_2214a 0 = .ok (.iload_n 0, 1) := by decide +kernel
theorem dJ2_checkIndex_2214a_1 : decode cJ2_checkIndex_2214a 1 = .ok (.aload_n 1, 1) := by decide +kernel
theorem dJ2_checkIndex_2214a_2 : decode cJ2_checkIndex_2214a 2 = .ok (.invokestatic 48, 3) := by decide +kernel
theorem dJ2_checkIndex_2214a_5 : decode cJ2_checkIndex_2214a 5 = .ok (.invokestatic 414, 3) := by decide +kernel
theorem dJ2_checkIndex_2214a_8 : decode cJ2_checkIndex_2214a 8 = .ok (.return_, 1) := by decide +kernel
theorem dJ7_fill_d0a16_0 : decode cJ7_fill_d0a16 0 = .ok (.iconst 0, 1) := by decide +kernel
theorem dJ7_fill_d0a16_1 : decode cJ7_fill_d0a16 1 = .ok (.istore_n 3, 1) := by decide +kernel
theorem dJ7_fill_d0a16_2 : decode cJ7_fill_d0a16 2 = .ok (.aload_n 0, 1) := by decide +kernel
theorem dJ7_fill_d0a16_3 : decode cJ7_fill_d0a16 3 = .ok (.arraylength, 1) := by decide +kernel
theorem dJ7_fill_d0a16_4 : decode cJ7_fill_d0a16 4 = .ok (.istore 4, 2) := by decide +kernel
theorem dJ7_fill_d0a16_6 : decode cJ7_fill_d0a16 6 = .ok (.iload_n 3, 1) := by decide +kernel
theorem dJ7_fill_d0a16_7 : decode cJ7_fill_d0a16 7 = .ok (.iload 4, 2) := by decide +kernel
theorem dJ7_fill_d0a16_9 : decode cJ7_fill_d0a16 9 = .ok (.if_icmp .ge 13, 3) := by decide +kernel
theorem dJ7_fill_d0a16_12 : decode cJ7_fill_d0a16 12 = .ok (.aload_n 0, 1) := by decide +kernel
theorem dJ7_fill_d0a16_13 : decode cJ7_fill_d0a16 13 = .ok (.iload_n 3, 1) := by decide +kernel
theorem dJ7_fill_d0a16_14 : decode cJ7_fill_d0a16 14 = .ok (.lload_n 1, 1) := by decide +kernel
theorem dJ7_fill_d0a16_15 : decode cJ7_fill_d0a16 15 = .ok (.lastore, 1) := by decide +kernel
theorem dJ7_fill_d0a16_16 : decode cJ7_fill_d0a16 16 = .ok (.iinc 3 1, 3) := by decide +kernel
theorem dJ7_fill_d0a16_19 : decode cJ7_fill_d0a16 19 = .ok (.goto (-13), 3) := by decide +kernel
theorem dJ7_fill_d0a16_22 : decode cJ7_fill_d0a16 22 = .ok (.return_, 1) := by decide +kernel
theorem dJ7_fill_53178_0 : decode cJ7_fill_53178 0 = .ok (.iconst 0, 1) := by decide +kernel
theorem dJ7_fill_53178_1 : decode cJ7_fill_53178 1 = .ok (.istore_n 2, 1) := by decide +kernel
theorem dJ7_fill_53178_2 : decode cJ7_fill_53178 2 = .ok (.aload_n 0, 1) := by decide +kernel
theorem dJ7_fill_53178_3 : decode cJ7_fill_53178 3 = .ok (.arraylength, 1) := by decide +kernel
theorem dJ7_fill_53178_4 : decode cJ7_fill_53178 4 = .ok (.istore_n 3, 1) := by decide +kernel
theorem dJ7_fill_53178_5 : decode cJ7_fill_53178 5 = .ok (.iload_n 2, 1) := by decide +kernel
theorem dJ7_fill_53178_6 : decode cJ7_fill_53178 6 = .ok (.iload_n 3, 1) := by decide +kernel
theorem dJ7_fill_53178_7 : decode cJ7_fill_53178 7 = .ok (.if_icmp .ge 13, 3) := by decide +kernel
theorem dJ7_fill_53178_10 : decode cJ7_fill_53178 10 = .ok (.aload_n 0, 1) := by decide +kernel
theorem dJ7_fill_53178_11 : decode cJ7_fill_53178 11 = .ok (.iload_n 2, 1) := by decide +kernel
theorem dJ7_fill_53178_12 : decode cJ7_fill_53178 12 = .ok (.iload_n 1, 1) := by decide +kernel
theorem dJ7_fill_53178_13 : decode cJ7_fill_53178 13 = .ok (.iastore, 1) := by decide +kernel
theorem dJ7_fill_53178_14 : decode cJ7_fill_53178 14 = .ok (.iinc 2 1, 3) := by decide +kernel
theorem dJ7_fill_53178_17 : decode cJ7_fill_53178 17 = .ok (.goto (-12), 3) := by decide +kernel
theorem dJ7_fill_53178_20 : decode cJ7_fill_53178 20 = .ok (.return_, 1) := by decide +kernel
theorem dJ3_checkIndex_8e157_0 : decode cJ3_checkIndex_8e157 0 = .ok (.iload_n 0, 1) := by decide +kernel
theorem dJ3_checkIndex_8e157_1 : decode cJ3_checkIndex_8e157 1 = .ok (.ifCond .lt 8, 3) := by decide +kernel
theorem dJ3_checkIndex_8e157_4 : decode cJ3_checkIndex_8e157 4 = .ok (.iload_n 0, 1) := by decide +kernel
theorem dJ3_checkIndex_8e157_5 : decode cJ3_checkIndex_8e157 5 = .ok (.iload_n 1, 1) := by decide +kernel
theorem dJ3_checkIndex_8e157_6 : decode cJ3_checkIndex_8e157 6 = .ok (.if_icmp .lt 10, 3) := by decide +kernel
theorem dJ3_checkIndex_8e157_9 : decode cJ3_checkIndex_8e157 9 = .ok (.aload_n 2, 1) := by decide +kernel
theorem dJ3_checkIndex_8e157_10 : decode cJ3_checkIndex_8e157 10 = .ok (.iload_n 0, 1) := by decide +kernel
theorem dJ3_checkIndex_8e157_11 : decode cJ3_checkIndex_8e157 11 = .ok (.iload_n 1, 1) := by decide +kernel
theorem dJ3_checkIndex_8e157_12 : decode cJ3_checkIndex_8e157 12 = .ok (.invokestatic 95, 3) := by decide +kernel
theorem dJ3_checkIndex_8e157_15 : decode cJ3_checkIndex_8e157 15 = .ok (.athrow, 1) := by decide +kernel
theorem dJ3_checkIndex_8e157_16 : decode cJ3_checkIndex_8e157 16 = .ok (.iload_n 0, 1) := by decide +kernel
theorem dJ3_checkIndex_8e157_17 : decode cJ3_checkIndex_8e157 17 = .ok (.ireturn, 1) := by decide +kernel
theorem dL_law_0 : decode cL_law 0 = .ok (.new 7, 3) := by decide +kernel
theorem dL_law_3 : decode cL_law 3 = .ok (.dup, 1) := by decide +kernel
theorem dL_law_4 : decode cL_law 4 = .ok (.invokespecial 9, 3) := by decide +kernel
theorem dL_law_7 : decode cL_law 7 = .ok (.astore_n 1, 1) := by decide +kernel
theorem dL_law_8 : decode cL_law 8 = .ok (.new 10, 3) := by decide +kernel
theorem dL_law_11 : decode cL_law 11 = .ok (.dup, 1) := by decide +kernel
theorem dL_law_12 : decode cL_law 12 = .ok (.invokespecial 12, 3) := by decide +kernel
theorem dL_law_15 : decode cL_law 15 = .ok (.astore_n 2, 1) := by decide +kernel
theorem dL_law_16 : decode cL_law 16 = .ok (.iconst 0, 1) := by decide +kernel
theorem dL_law_17 : decode cL_law 17 = .ok (.istore_n 3, 1) := by decide +kernel
theorem dL_law_18 : decode cL_law 18 = .ok (.iload_n 3, 1) := by decide +kernel
theorem dL_law_19 : decode cL_law 19 = .ok (.aload_n 0, 1) := by decide +kernel
theorem dL_law_20 : decode cL_law 20 = .ok (.arraylength, 1) := by decide +kernel
theorem dL_law_21 : decode cL_law 21 = .ok (.iconst 3, 1) := by decide +kernel
theorem dL_law_22 : decode cL_law 22 = .ok (.isub, 1) := by decide +kernel
theorem dL_law_23 : decode cL_law 23 = .ok (.if_icmp .gt 563, 3) := by decide +kernel
theorem dL_law_26 : decode cL_law 26 = .ok (.aload_n 0, 1) := by decide +kernel
theorem dL_law_27 : decode cL_law 27 = .ok (.iload_n 3, 1) := by decide +kernel
theorem dL_law_28 : decode cL_law 28 = .ok (.iaload, 1) := by decide +kernel
theorem dL_law_29 : decode cL_law 29 = .ok (.bipush 31, 2) := by decide +kernel
theorem dL_law_31 : decode cL_law 31 = .ok (.iand, 1) := by decide +kernel
theorem dL_law_32 : decode cL_law 32 = .ok (.tableswitch 548 0 19 #[96, 119, 132, 145, 158, 191, 214, 237, 250, 263, 296, 329, 362, 385, 409, 432, 465, 479, 502, 525], 96) := by decide +kernel
theorem dL_law_128 : decode cL_law 128 = .ok (.aload_n 1, 1) := by decide +kernel
theorem dL_law_129 : decode cL_law 129 = .ok (.aload_n 0, 1) := by decide +kernel
theorem dL_law_130 : decode cL_law 130 = .ok (.iload_n 3, 1) := by decide +kernel
theorem dL_law_131 : decode cL_law 131 = .ok (.iconst 1, 1) := by decide +kernel
theorem dL_law_132 : decode cL_law 132 = .ok (.iadd, 1) := by decide +kernel
theorem dL_law_133 : decode cL_law 133 = .ok (.iaload, 1) := by decide +kernel
theorem dL_law_134 : decode cL_law 134 = .ok (.invokevirtual 13, 3) := by decide +kernel
theorem dL_law_137 : decode cL_law 137 = .ok (.aload_n 2, 1) := by decide +kernel
theorem dL_law_138 : decode cL_law 138 = .ok (.aload_n 0, 1) := by decide +kernel
theorem dL_law_139 : decode cL_law 139 = .ok (.iload_n 3, 1) := by decide +kernel
theorem dL_law_140 : decode cL_law 140 = .ok (.iconst 1, 1) := by decide +kernel
theorem dL_law_141 : decode cL_law 141 = .ok (.iadd, 1) := by decide +kernel
theorem dL_law_142 : decode cL_law 142 = .ok (.iaload, 1) := by decide +kernel
theorem dL_law_143 : decode cL_law 143 = .ok (.invokevirtual 17, 3) := by decide +kernel
theorem dL_law_146 : decode cL_law 146 = .ok (.if_icmp .eq 434, 3) := by decide +kernel
theorem dL_law_149 : decode cL_law 149 = .ok (.iconst 0, 1) := by decide +kernel
theorem dL_law_150 : decode cL_law 150 = .ok (.ireturn, 1) := by decide +kernel
theorem dL_law_151 : decode cL_law 151 = .ok (.aload_n 1, 1) := by decide +kernel
theorem dL_law_152 : decode cL_law 152 = .ok (.invokevirtual 18, 3) := by decide +kernel
theorem dL_law_155 : decode cL_law 155 = .ok (.aload_n 2, 1) := by decide +kernel
theorem dL_law_156 : decode cL_law 156 = .ok (.invokevirtual 22, 3) := by decide +kernel
theorem dL_law_159 : decode cL_law 159 = .ok (.if_icmp .eq 421, 3) := by decide +kernel
theorem dL_law_162 : decode cL_law 162 = .ok (.iconst 0, 1) := by decide +kernel
theorem dL_law_163 : decode cL_law 163 = .ok (.ireturn, 1) := by decide +kernel
theorem dL_law_164 : decode cL_law 164 = .ok (.aload_n 1, 1) := by decide +kernel
theorem dL_law_165 : decode cL_law 165 = .ok (.invokevirtual 23, 3) := by decide +kernel
theorem dL_law_168 : decode cL_law 168 = .ok (.aload_n 2, 1) := by decide +kernel
theorem dL_law_169 : decode cL_law 169 = .ok (.invokevirtual 26, 3) := by decide +kernel
theorem dL_law_172 : decode cL_law 172 = .ok (.if_icmp .eq 408, 3) := by decide +kernel
theorem dL_law_175 : decode cL_law 175 = .ok (.iconst 0, 1) := by decide +kernel
theorem dL_law_176 : decode cL_law 176 = .ok (.ireturn, 1) := by decide +kernel
theorem dL_law_177 : decode cL_law 177 = .ok (.aload_n 1, 1) := by decide +kernel
theorem dL_law_178 : decode cL_law 178 = .ok (.invokevirtual 27, 3) := by decide +kernel
theorem dL_law_181 : decode cL_law 181 = .ok (.aload_n 2, 1) := by decide +kernel
theorem dL_law_182 : decode cL_law 182 = .ok (.invokevirtual 30, 3) := by decide +kernel
theorem dL_law_185 : decode cL_law 185 = .ok (.if_icmp .eq 395, 3) := by decide +kernel
theorem dL_law_188 : decode cL_law 188 = .ok (.iconst 0, 1) := by decide +kernel
theorem dL_law_189 : decode cL_law 189 = .ok (.ireturn, 1) := by decide +kernel
theorem dL_law_190 : decode cL_law 190 = .ok (.aload_n 1, 1) := by decide +kernel
theorem dL_law_191 : decode cL_law 191 = .ok (.aload_n 0, 1) := by decide +kernel
theorem dL_law_192 : decode cL_law 192 = .ok (.iload_n 3, 1) := by decide +kernel
theorem dL_law_193 : decode cL_law 193 = .ok (.iconst 1, 1) := by decide +kernel
theorem dL_law_194 : decode cL_law 194 = .ok (.iadd, 1) := by decide +kernel
theorem dL_law_195 : decode cL_law 195 = .ok (.iaload, 1) := by decide +kernel
theorem dL_law_196 : decode cL_law 196 = .ok (.aload_n 0, 1) := by decide +kernel
theorem dL_law_197 : decode cL_law 197 = .ok (.iload_n 3, 1) := by decide +kernel
theorem dL_law_198 : decode cL_law 198 = .ok (.iconst 2, 1) := by decide +kernel
theorem dL_law_199 : decode cL_law 199 = .ok (.iadd, 1) := by decide +kernel
theorem dL_law_200 : decode cL_law 200 = .ok (.iaload, 1) := by decide +kernel
theorem dL_law_201 : decode cL_law 201 = .ok (.invokevirtual 31, 3) := by decide +kernel
theorem dL_law_204 : decode cL_law 204 = .ok (.aload_n 2, 1) := by decide +kernel
theorem dL_law_205 : decode cL_law 205 = .ok (.aload_n 0, 1) := by decide +kernel
theorem dL_law_206 : decode cL_law 206 = .ok (.iload_n 3, 1) := by decide +kernel
theorem dL_law_207 : decode cL_law 207 = .ok (.iconst 1, 1) := by decide +kernel
theorem dL_law_208 : decode cL_law 208 = .ok (.iadd, 1) := by decide +kernel
theorem dL_law_209 : decode cL_law 209 = .ok (.iaload, 1) := by decide +kernel
theorem dL_law_210 : decode cL_law 210 = .ok (.aload_n 0, 1) := by decide +kernel
theorem dL_law_211 : decode cL_law 211 = .ok (.iload_n 3, 1) := by decide +kernel
theorem dL_law_212 : decode cL_law 212 = .ok (.iconst 2, 1) := by decide +kernel
theorem dL_law_213 : decode cL_law 213 = .ok (.iadd, 1) := by decide +kernel
theorem dL_law_214 : decode cL_law 214 = .ok (.iaload, 1) := by decide +kernel
theorem dL_law_215 : decode cL_law 215 = .ok (.invokevirtual 35, 3) := by decide +kernel
theorem dL_law_218 : decode cL_law 218 = .ok (.if_icmp .eq 362, 3) := by decide +kernel
theorem dL_law_221 : decode cL_law 221 = .ok (.iconst 0, 1) := by decide +kernel
theorem dL_law_222 : decode cL_law 222 = .ok (.ireturn, 1) := by decide +kernel
theorem dL_law_223 : decode cL_law 223 = .ok (.aload_n 1, 1) := by decide +kernel
theorem dL_law_224 : decode cL_law 224 = .ok (.aload_n 0, 1) := by decide +kernel
theorem dL_law_225 : decode cL_law 225 = .ok (.iload_n 3, 1) := by decide +kernel
theorem dL_law_226 : decode cL_law 226 = .ok (.iconst 1, 1) := by decide +kernel
theorem dL_law_227 : decode cL_law 227 = .ok (.iadd, 1) := by decide +kernel
theorem dL_law_228 : decode cL_law 228 = .ok (.iaload, 1) := by decide +kernel
theorem dL_law_229 : decode cL_law 229 = .ok (.invokevirtual 36, 3) := by decide +kernel
theorem dL_law_232 : decode cL_law 232 = .ok (.aload_n 2, 1) := by decide +kernel
theorem dL_law_233 : decode cL_law 233 = .ok (.aload_n 0, 1) := by decide +kernel
theorem dL_law_234 : decode cL_law 234 = .ok (.iload_n 3, 1) := by decide +kernel
theorem dL_law_235 : decode cL_law 235 = .ok (.iconst 1, 1) := by decide +kernel
theorem dL_law_236 : decode cL_law 236 = .ok (.iadd, 1) := by decide +kernel
theorem dL_law_237 : decode cL_law 237 = .ok (.iaload, 1) := by decide +kernel
theorem dL_law_238 : decode cL_law 238 = .ok (.invokevirtual 39, 3) := by decide +kernel
theorem dL_law_241 : decode cL_law 241 = .ok (.if_icmp .eq 339, 3) := by decide +kernel
theorem dL_law_244 : decode cL_law 244 = .ok (.iconst 0, 1) := by decide +kernel
theorem dL_law_245 : decode cL_law 245 = .ok (.ireturn, 1) := by decide +kernel
theorem dL_law_246 : decode cL_law 246 = .ok (.aload_n 1, 1) := by decide +kernel
theorem dL_law_247 : decode cL_law 247 = .ok (.aload_n 0, 1) := by decide +kernel
theorem dL_law_248 : decode cL_law 248 = .ok (.iload_n 3, 1) := by decide +kernel
theorem dL_law_249 : decode cL_law 249 = .ok (.iconst 1, 1) := by decide +kernel
theorem dL_law_250 : decode cL_law 250 = .ok (.iadd, 1) := by decide +kernel
theorem dL_law_251 : decode cL_law 251 = .ok (.iaload, 1) := by decide +kernel
theorem dL_law_252 : decode cL_law 252 = .ok (.invokevirtual 40, 3) := by decide +kernel
theorem dL_law_255 : decode cL_law 255 = .ok (.aload_n 2, 1) := by decide +kernel
theorem dL_law_256 : decode cL_law 256 = .ok (.aload_n 0, 1) := by decide +kernel
theorem dL_law_257 : decode cL_law 257 = .ok (.iload_n 3, 1) := by decide +kernel
theorem dL_law_258 : decode cL_law 258 = .ok (.iconst 1, 1) := by decide +kernel
theorem dL_law_259 : decode cL_law 259 = .ok (.iadd, 1) := by decide +kernel
theorem dL_law_260 : decode cL_law 260 = .ok (.iaload, 1) := by decide +kernel
theorem dL_law_261 : decode cL_law 261 = .ok (.invokevirtual 43, 3) := by decide +kernel
theorem dL_law_264 : decode cL_law 264 = .ok (.if_icmp .eq 316, 3) := by decide +kernel
theorem dL_law_267 : decode cL_law 267 = .ok (.iconst 0, 1) := by decide +kernel
theorem dL_law_268 : decode cL_law 268 = .ok (.ireturn, 1) := by decide +kernel
theorem dL_law_269 : decode cL_law 269 = .ok (.aload_n 1, 1) := by decide +kernel
theorem dL_law_270 : decode cL_law 270 = .ok (.invokevirtual 44, 3) := by decide +kernel
theorem dL_law_273 : decode cL_law 273 = .ok (.aload_n 2, 1) := by decide +kernel
theorem dL_law_274 : decode cL_law 274 = .ok (.invokevirtual 47, 3) := by decide +kernel
theorem dL_law_277 : decode cL_law 277 = .ok (.if_icmp .eq 303, 3) := by decide +kernel
theorem dL_law_280 : decode cL_law 280 = .ok (.iconst 0, 1) := by decide +kernel
theorem dL_law_281 : decode cL_law 281 = .ok (.ireturn, 1) := by decide +kernel
theorem dL_law_282 : decode cL_law 282 = .ok (.aload_n 1, 1) := by decide +kernel
theorem dL_law_283 : decode cL_law 283 = .ok (.invokevirtual 48, 3) := by decide +kernel
theorem dL_law_286 : decode cL_law 286 = .ok (.aload_n 2, 1) := by decide +kernel
theorem dL_law_287 : decode cL_law 287 = .ok (.invokevirtual 51, 3) := by decide +kernel
theorem dL_law_290 : decode cL_law 290 = .ok (.if_icmp .eq 290, 3) := by decide +kernel
theorem dL_law_293 : decode cL_law 293 = .ok (.iconst 0, 1) := by decide +kernel
theorem dL_law_294 : decode cL_law 294 = .ok (.ireturn, 1) := by decide +kernel
theorem dL_law_295 : decode cL_law 295 = .ok (.aload_n 1, 1) := by decide +kernel
theorem dL_law_296 : decode cL_law 296 = .ok (.aload_n 0, 1) := by decide +kernel
theorem dL_law_297 : decode cL_law 297 = .ok (.iload_n 3, 1) := by decide +kernel
theorem dL_law_298 : decode cL_law 298 = .ok (.iconst 1, 1) := by decide +kernel
theorem dL_law_299 : decode cL_law 299 = .ok (.iadd, 1) := by decide +kernel
theorem dL_law_300 : decode cL_law 300 = .ok (.iaload, 1) := by decide +kernel
theorem dL_law_301 : decode cL_law 301 = .ok (.aload_n 0, 1) := by decide +kernel
theorem dL_law_302 : decode cL_law 302 = .ok (.iload_n 3, 1) := by decide +kernel
theorem dL_law_303 : decode cL_law 303 = .ok (.iconst 2, 1) := by decide +kernel
theorem dL_law_304 : decode cL_law 304 = .ok (.iadd, 1) := by decide +kernel
theorem dL_law_305 : decode cL_law 305 = .ok (.iaload, 1) := by decide +kernel
theorem dL_law_306 : decode cL_law 306 = .ok (.invokevirtual 52, 3) := by decide +kernel
theorem dL_law_309 : decode cL_law 309 = .ok (.aload_n 2, 1) := by decide +kernel
theorem dL_law_310 : decode cL_law 310 = .ok (.aload_n 0, 1) := by decide +kernel
theorem dL_law_311 : decode cL_law 311 = .ok (.iload_n 3, 1) := by decide +kernel
theorem dL_law_312 : decode cL_law 312 = .ok (.iconst 1, 1) := by decide +kernel
theorem dL_law_313 : decode cL_law 313 = .ok (.iadd, 1) := by decide +kernel
theorem dL_law_314 : decode cL_law 314 = .ok (.iaload, 1) := by decide +kernel
theorem dL_law_315 : decode cL_law 315 = .ok (.aload_n 0, 1) := by decide +kernel
theorem dL_law_316 : decode cL_law 316 = .ok (.iload_n 3, 1) := by decide +kernel
theorem dL_law_317 : decode cL_law 317 = .ok (.iconst 2, 1) := by decide +kernel
theorem dL_law_318 : decode cL_law 318 = .ok (.iadd, 1) := by decide +kernel
theorem dL_law_319 : decode cL_law 319 = .ok (.iaload, 1) := by decide +kernel
theorem dL_law_320 : decode cL_law 320 = .ok (.invokevirtual 55, 3) := by decide +kernel
theorem dL_law_323 : decode cL_law 323 = .ok (.if_icmp .eq 257, 3) := by decide +kernel
theorem dL_law_326 : decode cL_law 326 = .ok (.iconst 0, 1) := by decide +kernel
theorem dL_law_327 : decode cL_law 327 = .ok (.ireturn, 1) := by decide +kernel
theorem dL_law_328 : decode cL_law 328 = .ok (.aload_n 1, 1) := by decide +kernel
theorem dL_law_329 : decode cL_law 329 = .ok (.aload_n 0, 1) := by decide +kernel
theorem dL_law_330 : decode cL_law 330 = .ok (.iload_n 3, 1) := by decide +kernel
theorem dL_law_331 : decode cL_law 331 = .ok (.iconst 1, 1) := by decide +kernel
theorem dL_law_332 : decode cL_law 332 = .ok (.iadd, 1) := by decide +kernel
theorem dL_law_333 : decode cL_law 333 = .ok (.iaload, 1) := by decide +kernel
theorem dL_law_334 : decode cL_law 334 = .ok (.aload_n 0, 1) := by decide +kernel
theorem dL_law_335 : decode cL_law 335 = .ok (.iload_n 3, 1) := by decide +kernel
theorem dL_law_336 : decode cL_law 336 = .ok (.iconst 2, 1) := by decide +kernel
theorem dL_law_337 : decode cL_law 337 = .ok (.iadd, 1) := by decide +kernel
theorem dL_law_338 : decode cL_law 338 = .ok (.iaload, 1) := by decide +kernel
theorem dL_law_339 : decode cL_law 339 = .ok (.invokevirtual 56, 3) := by decide +kernel
theorem dL_law_342 : decode cL_law 342 = .ok (.aload_n 2, 1) := by decide +kernel
theorem dL_law_343 : decode cL_law 343 = .ok (.aload_n 0, 1) := by decide +kernel
theorem dL_law_344 : decode cL_law 344 = .ok (.iload_n 3, 1) := by decide +kernel
theorem dL_law_345 : decode cL_law 345 = .ok (.iconst 1, 1) := by decide +kernel
theorem dL_law_346 : decode cL_law 346 = .ok (.iadd, 1) := by decide +kernel
theorem dL_law_347 : decode cL_law 347 = .ok (.iaload, 1) := by decide +kernel
theorem dL_law_348 : decode cL_law 348 = .ok (.aload_n 0, 1) := by decide +kernel
theorem dL_law_349 : decode cL_law 349 = .ok (.iload_n 3, 1) := by decide +kernel
theorem dL_law_350 : decode cL_law 350 = .ok (.iconst 2, 1) := by decide +kernel
theorem dL_law_351 : decode cL_law 351 = .ok (.iadd, 1) := by decide +kernel
theorem dL_law_352 : decode cL_law 352 = .ok (.iaload, 1) := by decide +kernel
theorem dL_law_353 : decode cL_law 353 = .ok (.invokevirtual 59, 3) := by decide +kernel
theorem dL_law_356 : decode cL_law 356 = .ok (.if_icmp .eq 224, 3) := by decide +kernel
theorem dL_law_359 : decode cL_law 359 = .ok (.iconst 0, 1) := by decide +kernel
theorem dL_law_360 : decode cL_law 360 = .ok (.ireturn, 1) := by decide +kernel
theorem dL_law_361 : decode cL_law 361 = .ok (.aload_n 1, 1) := by decide +kernel
theorem dL_law_362 : decode cL_law 362 = .ok (.aload_n 0, 1) := by decide +kernel
theorem dL_law_363 : decode cL_law 363 = .ok (.iload_n 3, 1) := by decide +kernel
theorem dL_law_364 : decode cL_law 364 = .ok (.iconst 1, 1) := by decide +kernel
theorem dL_law_365 : decode cL_law 365 = .ok (.iadd, 1) := by decide +kernel
theorem dL_law_366 : decode cL_law 366 = .ok (.iaload, 1) := by decide +kernel
theorem dL_law_367 : decode cL_law 367 = .ok (.aload_n 0, 1) := by decide +kernel
theorem dL_law_368 : decode cL_law 368 = .ok (.iload_n 3, 1) := by decide +kernel
theorem dL_law_369 : decode cL_law 369 = .ok (.iconst 2, 1) := by decide +kernel
theorem dL_law_370 : decode cL_law 370 = .ok (.iadd, 1) := by decide +kernel
theorem dL_law_371 : decode cL_law 371 = .ok (.iaload, 1) := by decide +kernel
theorem dL_law_372 : decode cL_law 372 = .ok (.invokevirtual 60, 3) := by decide +kernel
theorem dL_law_375 : decode cL_law 375 = .ok (.aload_n 2, 1) := by decide +kernel
theorem dL_law_376 : decode cL_law 376 = .ok (.aload_n 0, 1) := by decide +kernel
theorem dL_law_377 : decode cL_law 377 = .ok (.iload_n 3, 1) := by decide +kernel
theorem dL_law_378 : decode cL_law 378 = .ok (.iconst 1, 1) := by decide +kernel
theorem dL_law_379 : decode cL_law 379 = .ok (.iadd, 1) := by decide +kernel
theorem dL_law_380 : decode cL_law 380 = .ok (.iaload, 1) := by decide +kernel
theorem dL_law_381 : decode cL_law 381 = .ok (.aload_n 0, 1) := by decide +kernel
theorem dL_law_382 : decode cL_law 382 = .ok (.iload_n 3, 1) := by decide +kernel
theorem dL_law_383 : decode cL_law 383 = .ok (.iconst 2, 1) := by decide +kernel
theorem dL_law_384 : decode cL_law 384 = .ok (.iadd, 1) := by decide +kernel
theorem dL_law_385 : decode cL_law 385 = .ok (.iaload, 1) := by decide +kernel
theorem dL_law_386 : decode cL_law 386 = .ok (.invokevirtual 63, 3) := by decide +kernel
theorem dL_law_389 : decode cL_law 389 = .ok (.if_icmp .eq 191, 3) := by decide +kernel
theorem dL_law_392 : decode cL_law 392 = .ok (.iconst 0, 1) := by decide +kernel
theorem dL_law_393 : decode cL_law 393 = .ok (.ireturn, 1) := by decide +kernel
theorem dL_law_394 : decode cL_law 394 = .ok (.aload_n 1, 1) := by decide +kernel
theorem dL_law_395 : decode cL_law 395 = .ok (.aload_n 0, 1) := by decide +kernel
theorem dL_law_396 : decode cL_law 396 = .ok (.iload_n 3, 1) := by decide +kernel
theorem dL_law_397 : decode cL_law 397 = .ok (.iconst 1, 1) := by decide +kernel
theorem dL_law_398 : decode cL_law 398 = .ok (.iadd, 1) := by decide +kernel
theorem dL_law_399 : decode cL_law 399 = .ok (.iaload, 1) := by decide +kernel
theorem dL_law_400 : decode cL_law 400 = .ok (.invokevirtual 64, 3) := by decide +kernel
theorem dL_law_403 : decode cL_law 403 = .ok (.aload_n 2, 1) := by decide +kernel
theorem dL_law_404 : decode cL_law 404 = .ok (.aload_n 0, 1) := by decide +kernel
theorem dL_law_405 : decode cL_law 405 = .ok (.iload_n 3, 1) := by decide +kernel
theorem dL_law_406 : decode cL_law 406 = .ok (.iconst 1, 1) := by decide +kernel
theorem dL_law_407 : decode cL_law 407 = .ok (.iadd, 1) := by decide +kernel
theorem dL_law_408 : decode cL_law 408 = .ok (.iaload, 1) := by decide +kernel
theorem dL_law_409 : decode cL_law 409 = .ok (.invokevirtual 67, 3) := by decide +kernel
theorem dL_law_412 : decode cL_law 412 = .ok (.if_icmp .eq 168, 3) := by decide +kernel
theorem dL_law_415 : decode cL_law 415 = .ok (.iconst 0, 1) := by decide +kernel
theorem dL_law_416 : decode cL_law 416 = .ok (.ireturn, 1) := by decide +kernel
theorem dL_law_417 : decode cL_law 417 = .ok (.aload_n 1, 1) := by decide +kernel
theorem dL_law_418 : decode cL_law 418 = .ok (.aload_n 0, 1) := by decide +kernel
theorem dL_law_419 : decode cL_law 419 = .ok (.iload_n 3, 1) := by decide +kernel
theorem dL_law_420 : decode cL_law 420 = .ok (.iconst 1, 1) := by decide +kernel
theorem dL_law_421 : decode cL_law 421 = .ok (.iadd, 1) := by decide +kernel
theorem dL_law_422 : decode cL_law 422 = .ok (.iaload, 1) := by decide +kernel
theorem dL_law_423 : decode cL_law 423 = .ok (.invokevirtual 68, 3) := by decide +kernel
theorem dL_law_426 : decode cL_law 426 = .ok (.aload_n 2, 1) := by decide +kernel
theorem dL_law_427 : decode cL_law 427 = .ok (.aload_n 0, 1) := by decide +kernel
theorem dL_law_428 : decode cL_law 428 = .ok (.iload_n 3, 1) := by decide +kernel
theorem dL_law_429 : decode cL_law 429 = .ok (.iconst 1, 1) := by decide +kernel
theorem dL_law_430 : decode cL_law 430 = .ok (.iadd, 1) := by decide +kernel
theorem dL_law_431 : decode cL_law 431 = .ok (.iaload, 1) := by decide +kernel
theorem dL_law_432 : decode cL_law 432 = .ok (.invokevirtual 72, 3) := by decide +kernel
theorem dL_law_435 : decode cL_law 435 = .ok (.lcmp, 1) := by decide +kernel
theorem dL_law_436 : decode cL_law 436 = .ok (.ifCond .eq 144, 3) := by decide +kernel
theorem dL_law_439 : decode cL_law 439 = .ok (.iconst 0, 1) := by decide +kernel
theorem dL_law_440 : decode cL_law 440 = .ok (.ireturn, 1) := by decide +kernel
theorem dL_law_441 : decode cL_law 441 = .ok (.aload_n 1, 1) := by decide +kernel
theorem dL_law_442 : decode cL_law 442 = .ok (.aload_n 0, 1) := by decide +kernel
theorem dL_law_443 : decode cL_law 443 = .ok (.iload_n 3, 1) := by decide +kernel
theorem dL_law_444 : decode cL_law 444 = .ok (.iconst 1, 1) := by decide +kernel
theorem dL_law_445 : decode cL_law 445 = .ok (.iadd, 1) := by decide +kernel
theorem dL_law_446 : decode cL_law 446 = .ok (.iaload, 1) := by decide +kernel
theorem dL_law_447 : decode cL_law 447 = .ok (.invokevirtual 73, 3) := by decide +kernel
theorem dL_law_450 : decode cL_law 450 = .ok (.aload_n 2, 1) := by decide +kernel
theorem dL_law_451 : decode cL_law 451 = .ok (.aload_n 0, 1) := by decide +kernel
theorem dL_law_452 : decode cL_law 452 = .ok (.iload_n 3, 1) := by decide +kernel
theorem dL_law_453 : decode cL_law 453 = .ok (.iconst 1, 1) := by decide +kernel
theorem dL_law_454 : decode cL_law 454 = .ok (.iadd, 1) := by decide +kernel
theorem dL_law_455 : decode cL_law 455 = .ok (.iaload, 1) := by decide +kernel
theorem dL_law_456 : decode cL_law 456 = .ok (.invokevirtual 76, 3) := by decide +kernel
theorem dL_law_459 : decode cL_law 459 = .ok (.if_icmp .eq 121, 3) := by decide +kernel
theorem dL_law_462 : decode cL_law 462 = .ok (.iconst 0, 1) := by decide +kernel
theorem dL_law_463 : decode cL_law 463 = .ok (.ireturn, 1) := by decide +kernel
theorem dL_law_464 : decode cL_law 464 = .ok (.aload_n 1, 1) := by decide +kernel
theorem dL_law_465 : decode cL_law 465 = .ok (.aload_n 0, 1) := by decide +kernel
theorem dL_law_466 : decode cL_law 466 = .ok (.iload_n 3, 1) := by decide +kernel
theorem dL_law_467 : decode cL_law 467 = .ok (.iconst 1, 1) := by decide +kernel
theorem dL_law_468 : decode cL_law 468 = .ok (.iadd, 1) := by decide +kernel
theorem dL_law_469 : decode cL_law 469 = .ok (.iaload, 1) := by decide +kernel
theorem dL_law_470 : decode cL_law 470 = .ok (.aload_n 0, 1) := by decide +kernel
theorem dL_law_471 : decode cL_law 471 = .ok (.iload_n 3, 1) := by decide +kernel
theorem dL_law_472 : decode cL_law 472 = .ok (.iconst 2, 1) := by decide +kernel
theorem dL_law_473 : decode cL_law 473 = .ok (.iadd, 1) := by decide +kernel
theorem dL_law_474 : decode cL_law 474 = .ok (.iaload, 1) := by decide +kernel
theorem dL_law_475 : decode cL_law 475 = .ok (.invokevirtual 77, 3) := by decide +kernel
theorem dL_law_478 : decode cL_law 478 = .ok (.aload_n 2, 1) := by decide +kernel
theorem dL_law_479 : decode cL_law 479 = .ok (.aload_n 0, 1) := by decide +kernel
theorem dL_law_480 : decode cL_law 480 = .ok (.iload_n 3, 1) := by decide +kernel
theorem dL_law_481 : decode cL_law 481 = .ok (.iconst 1, 1) := by decide +kernel
theorem dL_law_482 : decode cL_law 482 = .ok (.iadd, 1) := by decide +kernel
theorem dL_law_483 : decode cL_law 483 = .ok (.iaload, 1) := by decide +kernel
theorem dL_law_484 : decode cL_law 484 = .ok (.aload_n 0, 1) := by decide +kernel
theorem dL_law_485 : decode cL_law 485 = .ok (.iload_n 3, 1) := by decide +kernel
theorem dL_law_486 : decode cL_law 486 = .ok (.iconst 2, 1) := by decide +kernel
theorem dL_law_487 : decode cL_law 487 = .ok (.iadd, 1) := by decide +kernel
theorem dL_law_488 : decode cL_law 488 = .ok (.iaload, 1) := by decide +kernel
theorem dL_law_489 : decode cL_law 489 = .ok (.invokevirtual 80, 3) := by decide +kernel
theorem dL_law_492 : decode cL_law 492 = .ok (.if_icmp .eq 88, 3) := by decide +kernel
theorem dL_law_495 : decode cL_law 495 = .ok (.iconst 0, 1) := by decide +kernel
theorem dL_law_496 : decode cL_law 496 = .ok (.ireturn, 1) := by decide +kernel
theorem dL_law_497 : decode cL_law 497 = .ok (.aload_n 1, 1) := by decide +kernel
theorem dL_law_498 : decode cL_law 498 = .ok (.invokevirtual 81, 3) := by decide +kernel
theorem dL_law_501 : decode cL_law 501 = .ok (.aload_n 2, 1) := by decide +kernel
theorem dL_law_502 : decode cL_law 502 = .ok (.invokevirtual 85, 3) := by decide +kernel
theorem dL_law_505 : decode cL_law 505 = .ok (.lcmp, 1) := by decide +kernel
theorem dL_law_506 : decode cL_law 506 = .ok (.ifCond .eq 74, 3) := by decide +kernel
theorem dL_law_509 : decode cL_law 509 = .ok (.iconst 0, 1) := by decide +kernel
theorem dL_law_510 : decode cL_law 510 = .ok (.ireturn, 1) := by decide +kernel
theorem dL_law_511 : decode cL_law 511 = .ok (.aload_n 1, 1) := by decide +kernel
theorem dL_law_512 : decode cL_law 512 = .ok (.aload_n 0, 1) := by decide +kernel
theorem dL_law_513 : decode cL_law 513 = .ok (.iload_n 3, 1) := by decide +kernel
theorem dL_law_514 : decode cL_law 514 = .ok (.iconst 1, 1) := by decide +kernel
theorem dL_law_515 : decode cL_law 515 = .ok (.iadd, 1) := by decide +kernel
theorem dL_law_516 : decode cL_law 516 = .ok (.iaload, 1) := by decide +kernel
theorem dL_law_517 : decode cL_law 517 = .ok (.invokevirtual 86, 3) := by decide +kernel
theorem dL_law_520 : decode cL_law 520 = .ok (.aload_n 2, 1) := by decide +kernel
theorem dL_law_521 : decode cL_law 521 = .ok (.aload_n 0, 1) := by decide +kernel
theorem dL_law_522 : decode cL_law 522 = .ok (.iload_n 3, 1) := by decide +kernel
theorem dL_law_523 : decode cL_law 523 = .ok (.iconst 1, 1) := by decide +kernel
theorem dL_law_524 : decode cL_law 524 = .ok (.iadd, 1) := by decide +kernel
theorem dL_law_525 : decode cL_law 525 = .ok (.iaload, 1) := by decide +kernel
theorem dL_law_526 : decode cL_law 526 = .ok (.invokevirtual 89, 3) := by decide +kernel
theorem dL_law_529 : decode cL_law 529 = .ok (.if_icmp .eq 51, 3) := by decide +kernel
theorem dL_law_532 : decode cL_law 532 = .ok (.iconst 0, 1) := by decide +kernel
theorem dL_law_533 : decode cL_law 533 = .ok (.ireturn, 1) := by decide +kernel
theorem dL_law_534 : decode cL_law 534 = .ok (.aload_n 1, 1) := by decide +kernel
theorem dL_law_535 : decode cL_law 535 = .ok (.aload_n 0, 1) := by decide +kernel
theorem dL_law_536 : decode cL_law 536 = .ok (.iload_n 3, 1) := by decide +kernel
theorem dL_law_537 : decode cL_law 537 = .ok (.iconst 1, 1) := by decide +kernel
theorem dL_law_538 : decode cL_law 538 = .ok (.iadd, 1) := by decide +kernel
theorem dL_law_539 : decode cL_law 539 = .ok (.iaload, 1) := by decide +kernel
theorem dL_law_540 : decode cL_law 540 = .ok (.invokevirtual 90, 3) := by decide +kernel
theorem dL_law_543 : decode cL_law 543 = .ok (.aload_n 2, 1) := by decide +kernel
theorem dL_law_544 : decode cL_law 544 = .ok (.aload_n 0, 1) := by decide +kernel
theorem dL_law_545 : decode cL_law 545 = .ok (.iload_n 3, 1) := by decide +kernel
theorem dL_law_546 : decode cL_law 546 = .ok (.iconst 1, 1) := by decide +kernel
theorem dL_law_547 : decode cL_law 547 = .ok (.iadd, 1) := by decide +kernel
theorem dL_law_548 : decode cL_law 548 = .ok (.iaload, 1) := by decide +kernel
theorem dL_law_549 : decode cL_law 549 = .ok (.invokevirtual 93, 3) := by decide +kernel
theorem dL_law_552 : decode cL_law 552 = .ok (.if_icmp .eq 28, 3) := by decide +kernel
theorem dL_law_555 : decode cL_law 555 = .ok (.iconst 0, 1) := by decide +kernel
theorem dL_law_556 : decode cL_law 556 = .ok (.ireturn, 1) := by decide +kernel
theorem dL_law_557 : decode cL_law 557 = .ok (.aload_n 1, 1) := by decide +kernel
theorem dL_law_558 : decode cL_law 558 = .ok (.aload_n 0, 1) := by decide +kernel
theorem dL_law_559 : decode cL_law 559 = .ok (.iload_n 3, 1) := by decide +kernel
theorem dL_law_560 : decode cL_law 560 = .ok (.iconst 1, 1) := by decide +kernel
theorem dL_law_561 : decode cL_law 561 = .ok (.iadd, 1) := by decide +kernel
theorem dL_law_562 : decode cL_law 562 = .ok (.iaload, 1) := by decide +kernel
theorem dL_law_563 : decode cL_law 563 = .ok (.invokevirtual 94, 3) := by decide +kernel
theorem dL_law_566 : decode cL_law 566 = .ok (.aload_n 2, 1) := by decide +kernel
theorem dL_law_567 : decode cL_law 567 = .ok (.aload_n 0, 1) := by decide +kernel
theorem dL_law_568 : decode cL_law 568 = .ok (.iload_n 3, 1) := by decide +kernel
theorem dL_law_569 : decode cL_law 569 = .ok (.iconst 1, 1) := by decide +kernel
theorem dL_law_570 : decode cL_law 570 = .ok (.iadd, 1) := by decide +kernel
theorem dL_law_571 : decode cL_law 571 = .ok (.iaload, 1) := by decide +kernel
theorem dL_law_572 : decode cL_law 572 = .ok (.invokevirtual 97, 3) := by decide +kernel
theorem dL_law_575 : decode cL_law 575 = .ok (.if_icmp .eq 5, 3) := by decide +kernel
theorem dL_law_578 : decode cL_law 578 = .ok (.iconst 0, 1) := by decide +kernel
theorem dL_law_579 : decode cL_law 579 = .ok (.ireturn, 1) := by decide +kernel
theorem dL_law_580 : decode cL_law 580 = .ok (.iinc 3 3, 3) := by decide +kernel
theorem dL_law_583 : decode cL_law 583 = .ok (.goto (-565), 3) := by decide +kernel
theorem dL_law_586 : decode cL_law 586 = .ok (.iconst 1, 1) := by decide +kernel
theorem dL_law_587 : decode cL_law 587 = .ok (.ireturn, 1) := by decide +kernel
