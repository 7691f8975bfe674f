theorem dX10_sign4_0 : decode cX10_sign4 0 = .ok (.bipush 7, 2) := by decide +kernel
theorem dX10_sign4_2 : decode cX10_sign4 2 = .ok (.aload_n 0, 1) := by decide +kernel
theorem dX10_sign4_3 : decode cX10_sign4 3 = .ok (.getfield 13, 3) := by decide +kernel
theorem dX10_sign4_6 : decode cX10_sign4 6 = .ok (.sipush 164, 3) := by decide +kernel
theorem dX10_sign4_9 : decode cX10_sign4 9 = .ok (.iaload, 1) := by decide +kernel
theorem dX10_sign4_10 : decode cX10_sign4 10 = .ok (.imul, 1) := by decide +kernel
theorem dX10_sign4_11 : decode cX10_sign4 11 = .ok (.istore 7, 2) := by decide +kernel
theorem dX10_sign4_13 : decode cX10_sign4 13 = .ok (.aload_n 0, 1) := by decide +kernel
theorem dX10_sign4_14 : decode cX10_sign4 14 = .ok (.getfield 13, 3) := by decide +kernel
theorem dX10_sign4_17 : decode cX10_sign4 17 = .ok (.iload 7, 2) := by decide +kernel
theorem dX10_sign4_19 : decode cX10_sign4 19 = .ok (.iload_n 1, 1) := by decide +kernel
theorem dX10_sign4_20 : decode cX10_sign4 20 = .ok (.iastore, 1) := by decide +kernel
theorem dX10_sign4_21 : decode cX10_sign4 21 = .ok (.aload_n 0, 1) := by decide +kernel
theorem dX10_sign4_22 : decode cX10_sign4 22 = .ok (.getfield 13, 3) := by decide +kernel
theorem dX10_sign4_25 : decode cX10_sign4 25 = .ok (.iload 7, 2) := by decide +kernel
theorem dX10_sign4_27 : decode cX10_sign4 27 = .ok (.iconst 1, 1) := by decide +kernel
theorem dX10_sign4_28 : decode cX10_sign4 28 = .ok (.iadd, 1) := by decide +kernel
theorem dX10_sign4_29 : decode cX10_sign4 29 = .ok (.iload_n 2, 1) := by decide +kernel
theorem dX10_sign4_30 : decode cX10_sign4 30 = .ok (.iastore, 1) := by decide +kernel
theorem dX10_sign4_31 : decode cX10_sign4 31 = .ok (.aload_n 0, 1) := by decide +kernel
theorem dX10_sign4_32 : decode cX10_sign4 32 = .ok (.getfield 13, 3) := by decide +kernel
theorem dX10_sign4_35 : decode cX10_sign4 35 = .ok (.iload 7, 2) := by decide +kernel
theorem dX10_sign4_37 : decode cX10_sign4 37 = .ok (.iconst 2, 1) := by decide +kernel
theorem dX10_sign4_38 : decode cX10_sign4 38 = .ok (.iadd, 1) := by decide +kernel
theorem dX10_sign4_39 : decode cX10_sign4 39 = .ok (.iload 6, 2) := by decide +kernel
theorem dX10_sign4_41 : decode cX10_sign4 41 = .ok (.ifCond .le 7, 3) := by decide +kernel
theorem dX10_sign4_44 : decode cX10_sign4 44 = .ok (.iconst 4, 1) := by decide +kernel
theorem dX10_sign4_45 : decode cX10_sign4 45 = .ok (.goto 30, 3) := by decide +kernel
theorem dX10_sign4_48 : decode cX10_sign4 48 = .ok (.iload 5, 2) := by decide +kernel
theorem dX10_sign4_50 : decode cX10_sign4 50 = .ok (.ifCond .le 7, 3) := by decide +kernel
theorem dX10_sign4_53 : decode cX10_sign4 53 = .ok (.iconst 3, 1) := by decide +kernel
theorem dX10_sign4_54 : decode cX10_sign4 54 = .ok (.goto 21, 3) := by decide +kernel
theorem dX10_sign4_57 : decode cX10_sign4 57 = .ok (.iload 4, 2) := by decide +kernel
theorem dX10_sign4_59 : decode cX10_sign4 59 = .ok (.ifCond .le 7, 3) := by decide +kernel
theorem dX10_sign4_62 : decode cX10_sign4 62 = .ok (.iconst 2, 1) := by decide +kernel
theorem dX10_sign4_63 : decode cX10_sign4 63 = .ok (.goto 12, 3) := by decide +kernel
theorem dX10_sign4_66 : decode cX10_sign4 66 = .ok (.iload_n 3, 1) := by decide +kernel
theorem dX10_sign4_67 : decode cX10_sign4 67 = .ok (.ifCond .le 7, 3) := by decide +kernel
theorem dX10_sign4_70 : decode cX10_sign4 70 = .ok (.iconst 1, 1) := by decide +kernel
theorem dX10_sign4_71 : decode cX10_sign4 71 = .ok (.goto 4, 3) := by decide +kernel
theorem dX10_sign4_74 : decode cX10_sign4 74 = .ok (.iconst 0, 1) := by decide +kernel
theorem dX10_sign4_75 : decode cX10_sign4 75 = .ok (.iastore, 1) := by decide +kernel
theorem dX10_sign4_76 : decode cX10_sign4 76 = .ok (.aload_n 0, 1) := by decide +kernel
theorem dX10_sign4_77 : decode cX10_sign4 77 = .ok (.getfield 13, 3) := by decide +kernel
theorem dX10_sign4_80 : decode cX10_sign4 80 = .ok (.iload 7, 2) := by decide +kernel
theorem dX10_sign4_82 : decode cX10_sign4 82 = .ok (.iconst 3, 1) := by decide +kernel
theorem dX10_sign4_83 : decode cX10_sign4 83 = .ok (.iadd, 1) := by decide +kernel
theorem dX10_sign4_84 : decode cX10_sign4 84 = .ok (.iload_n 3, 1) := by decide +kernel
theorem dX10_sign4_85 : decode cX10_sign4 85 = .ok (.iastore, 1) := by decide +kernel
theorem dX10_sign4_86 : decode cX10_sign4 86 = .ok (.aload_n 0, 1) := by decide +kernel
theorem dX10_sign4_87 : decode cX10_sign4 87 = .ok (.getfield 13, 3) := by decide +kernel
theorem dX10_sign4_90 : decode cX10_sign4 90 = .ok (.iload 7, 2) := by decide +kernel
theorem dX10_sign4_92 : decode cX10_sign4 92 = .ok (.iconst 4, 1) := by decide +kernel
theorem dX10_sign4_93 : decode cX10_sign4 93 = .ok (.iadd, 1) := by decide +kernel
theorem dX10_sign4_94 : decode cX10_sign4 94 = .ok (.iload 4, 2) := by decide +kernel
theorem dX10_sign4_96 : decode cX10_sign4 96 = .ok (.iastore, 1) := by decide +kernel
theorem dX10_sign4_97 : decode cX10_sign4 97 = .ok (.aload_n 0, 1) := by decide +kernel
theorem dX10_sign4_98 : decode cX10_sign4 98 = .ok (.getfield 13, 3) := by decide +kernel
theorem dX10_sign4_101 : decode cX10_sign4 101 = .ok (.iload 7, 2) := by decide +kernel
theorem dX10_sign4_103 : decode cX10_sign4 103 = .ok (.iconst 5, 1) := by decide +kernel
theorem dX10_sign4_104 : decode cX10_sign4 104 = .ok (.iadd, 1) := by decide +kernel
theorem dX10_sign4_105 : decode cX10_sign4 105 = .ok (.iload 5, 2) := by decide +kernel
theorem dX10_sign4_107 : decode cX10_sign4 107 = .ok (.iastore, 1) := by decide +kernel
theorem dX10_sign4_108 : decode cX10_sign4 108 = .ok (.aload_n 0, 1) := by decide +kernel
theorem dX10_sign4_109 : decode cX10_sign4 109 = .ok (.getfield 13, 3) := by decide +kernel
theorem dX10_sign4_112 : decode cX10_sign4 112 = .ok (.iload 7, 2) := by decide +kernel
theorem dX10_sign4_114 : decode cX10_sign4 114 = .ok (.bipush 6, 2) := by decide +kernel
theorem dX10_sign4_116 : decode cX10_sign4 116 = .ok (.iadd, 1) := by decide +kernel
theorem dX10_sign4_117 : decode cX10_sign4 117 = .ok (.iload 6, 2) := by decide +kernel
theorem dX10_sign4_119 : decode cX10_sign4 119 = .ok (.iastore, 1) := by decide +kernel
theorem dX10_sign4_120 : decode cX10_sign4 120 = .ok (.aload_n 0, 1) := by decide +kernel
theorem dX10_sign4_121 : decode cX10_sign4 121 = .ok (.getfield 13, 3) := by decide +kernel
theorem dX10_sign4_124 : decode cX10_sign4 124 = .ok (.sipush 164, 3) := by decide +kernel
theorem dX10_sign4_127 : decode cX10_sign4 127 = .ok (.dup2, 1) := by decide +kernel
theorem dX10_sign4_128 : decode cX10_sign4 128 = .ok (.iaload, 1) := by decide +kernel
theorem dX10_sign4_129 : decode cX10_sign4 129 = .ok (.iconst 1, 1) := by decide +kernel
theorem dX10_sign4_130 : decode cX10_sign4 130 = .ok (.iadd, 1) := by decide +kernel
theorem dX10_sign4_131 : decode cX10_sign4 131 = .ok (.iastore, 1) := by decide +kernel
theorem dX10_sign4_132 : decode cX10_sign4 132 = .ok (.return_, 1) := by decide +kernel
theorem dX10_word6_0 : decode cX10_word6 0 = .ok (.bipush 84, 2) := by decide +kernel
theorem dX10_word6_2 : decode cX10_word6 2 = .ok (.bipush 10, 2) := by decide +kernel
theorem dX10_word6_4 : decode cX10_word6 4 = .ok (.aload_n 0, 1) := by decide +kernel
theorem dX10_word6_5 : decode cX10_word6 5 = .ok (.getfield 13, 3) := by decide +kernel
theorem dX10_word6_8 : decode cX10_word6 8 = .ok (.sipush 165, 3) := by decide +kernel
theorem dX10_word6_11 : decode cX10_word6 11 = .ok (.iaload, 1) := by decide +kernel
theorem dX10_word6_12 : decode cX10_word6 12 = .ok (.imul, 1) := by decide +kernel
theorem dX10_word6_13 : decode cX10_word6 13 = .ok (.iadd, 1) := by decide +kernel
theorem dX10_word6_14 : decode cX10_word6 14 = .ok (.istore 8, 2) := by decide +kernel
theorem dX10_word6_16 : decode cX10_word6 16 = .ok (.aload_n 0, 1) := by decide +kernel
theorem dX10_word6_17 : decode cX10_word6 17 = .ok (.getfield 13, 3) := by decide +kernel
theorem dX10_word6_20 : decode cX10_word6 20 = .ok (.iload 8, 2) := by decide +kernel
theorem dX10_word6_22 : decode cX10_word6 22 = .ok (.iload_n 1, 1) := by decide +kernel
theorem dX10_word6_23 : decode cX10_word6 23 = .ok (.iastore, 1) := by decide +kernel
theorem dX10_word6_24 : decode cX10_word6 24 = .ok (.aload_n 0, 1) := by decide +kernel
theorem dX10_word6_25 : decode cX10_word6 25 = .ok (.getfield 13, 3) := by decide +kernel
theorem dX10_word6_28 : decode cX10_word6 28 = .ok (.iload 8, 2) := by decide +kernel
theorem dX10_word6_30 : decode cX10_word6 30 = .ok (.iconst 1, 1) := by decide +kernel
theorem dX10_word6_31 : decode cX10_word6 31 = .ok (.iadd, 1) := by decide +kernel
theorem dX10_word6_32 : decode cX10_word6 32 = .ok (.iload 7, 2) := by decide +kernel
theorem dX10_word6_34 : decode cX10_word6 34 = .ok (.ifCond .le 8, 3) := by decide +kernel
theorem dX10_word6_37 : decode cX10_word6 37 = .ok (.bipush 6, 2) := by decide +kernel
theorem dX10_word6_39 : decode cX10_word6 39 = .ok (.goto 22, 3) := by decide +kernel
theorem dX10_word6_42 : decode cX10_word6 42 = .ok (.iload 6, 2) := by decide +kernel
theorem dX10_word6_44 : decode cX10_word6 44 = .ok (.ifCond .le 7, 3) := by decide +kernel
theorem dX10_word6_47 : decode cX10_word6 47 = .ok (.iconst 5, 1) := by decide +kernel
theorem dX10_word6_48 : decode cX10_word6 48 = .ok (.goto 13, 3) := by decide +kernel
theorem dX10_word6_51 : decode cX10_word6 51 = .ok (.iload 5, 2) := by decide +kernel
theorem dX10_word6_53 : decode cX10_word6 53 = .ok (.ifCond .le 7, 3) := by decide +kernel
theorem dX10_word6_56 : decode cX10_word6 56 = .ok (.iconst 4, 1) := by decide +kernel
theorem dX10_word6_57 : decode cX10_word6 57 = .ok (.goto 4, 3) := by decide +kernel
theorem dX10_word6_60 : decode cX10_word6 60 = .ok (.iconst 3, 1) := by decide +kernel
theorem dX10_word6_61 : decode cX10_word6 61 = .ok (.iastore, 1) := by decide +kernel
theorem dX10_word6_62 : decode cX10_word6 62 = .ok (.aload_n 0, 1) := by decide +kernel
theorem dX10_word6_63 : decode cX10_word6 63 = .ok (.getfield 13, 3) := by decide +kernel
theorem dX10_word6_66 : decode cX10_word6 66 = .ok (.iload 8, 2) := by decide +kernel
theorem dX10_word6_68 : decode cX10_word6 68 = .ok (.iconst 2, 1) := by decide +kernel
theorem dX10_word6_69 : decode cX10_word6 69 = .ok (.iadd, 1) := by decide +kernel
theorem dX10_word6_70 : decode cX10_word6 70 = .ok (.iload_n 2, 1) := by decide +kernel
theorem dX10_word6_71 : decode cX10_word6 71 = .ok (.iastore, 1) := by decide +kernel
theorem dX10_word6_72 : decode cX10_word6 72 = .ok (.aload_n 0, 1) := by decide +kernel
theorem dX10_word6_73 : decode cX10_word6 73 = .ok (.getfield 13, 3) := by decide +kernel
theorem dX10_word6_76 : decode cX10_word6 76 = .ok (.iload 8, 2) := by decide +kernel
theorem dX10_word6_78 : decode cX10_word6 78 = .ok (.iconst 3, 1) := by decide +kernel
theorem dX10_word6_79 : decode cX10_word6 79 = .ok (.iadd, 1) := by decide +kernel
theorem dX10_word6_80 : decode cX10_word6 80 = .ok (.iload_n 3, 1) := by decide +kernel
theorem dX10_word6_81 : decode cX10_word6 81 = .ok (.iastore, 1) := by decide +kernel
theorem dX10_word6_82 : decode cX10_word6 82 = .ok (.aload_n 0, 1) := by decide +kernel
theorem dX10_word6_83 : decode cX10_word6 83 = .ok (.getfield 13, 3) := by decide +kernel
theorem dX10_word6_86 : decode cX10_word6 86 = .ok (.iload 8, 2) := by decide +kernel
theorem dX10_word6_88 : decode cX10_word6 88 = .ok (.iconst 4, 1) := by decide +kernel
theorem dX10_word6_89 : decode cX10_word6 89 = .ok (.iadd, 1) := by decide +kernel
theorem dX10_word6_90 : decode cX10_word6 90 = .ok (.iload 4, 2) := by decide +kernel
theorem dX10_word6_92 : decode cX10_word6 92 = .ok (.iastore, 1) := by decide +kernel
theorem dX10_word6_93 : decode cX10_word6 93 = .ok (.aload_n 0, 1) := by decide +kernel
theorem dX10_word6_94 : decode cX10_word6 94 = .ok (.getfield 13, 3) := by decide +kernel
theorem dX10_word6_97 : decode cX10_word6 97 = .ok (.iload 8, 2) := by decide +kernel
theorem dX10_word6_99 : decode cX10_word6 99 = .ok (.iconst 5, 1) := by decide +kernel
theorem dX10_word6_100 : decode cX10_word6 100 = .ok (.iadd, 1) := by decide +kernel
theorem dX10_word6_101 : decode cX10_word6 101 = .ok (.iload 5, 2) := by decide +kernel
theorem dX10_word6_103 : decode cX10_word6 103 = .ok (.iastore, 1) := by decide +kernel
theorem dX10_word6_104 : decode cX10_word6 104 = .ok (.aload_n 0, 1) := by decide +kernel
theorem dX10_word6_105 : decode cX10_word6 105 = .ok (.getfield 13, 3) := by decide +kernel
theorem dX10_word6_108 : decode cX10_word6 108 = .ok (.iload 8, 2) := by decide +kernel
theorem dX10_word6_110 : decode cX10_word6 110 = .ok (.bipush 6, 2) := by decide +kernel
theorem dX10_word6_112 : decode cX10_word6 112 = .ok (.iadd, 1) := by decide +kernel
theorem dX10_word6_113 : decode cX10_word6 113 = .ok (.iload 6, 2) := by decide +kernel
theorem dX10_word6_115 : decode cX10_word6 115 = .ok (.iastore, 1) := by decide +kernel
theorem dX10_word6_116 : decode cX10_word6 116 = .ok (.aload_n 0, 1) := by decide +kernel
theorem dX10_word6_117 : decode cX10_word6 117 = .ok (.getfield 13, 3) := by decide +kernel
theorem dX10_word6_120 : decode cX10_word6 120 = .ok (.iload 8, 2) := by decide +kernel
theorem dX10_word6_122 : decode cX10_word6 122 = .ok (.bipush 7, 2) := by decide +kernel
theorem dX10_word6_124 : decode cX10_word6 124 = .ok (.iadd, 1) := by decide +kernel
theorem dX10_word6_125 : decode cX10_word6 125 = .ok (.iload 7, 2) := by decide +kernel
theorem dX10_word6_127 : decode cX10_word6 127 = .ok (.iastore, 1) := by decide +kernel
theorem dX10_word6_128 : decode cX10_word6 128 = .ok (.aload_n 0, 1) := by decide +kernel
theorem dX10_word6_129 : decode cX10_word6 129 = .ok (.getfield 13, 3) := by decide +kernel
theorem dX10_word6_132 : decode cX10_word6 132 = .ok (.sipush 165, 3) := by decide +kernel
theorem dX10_word6_135 : decode cX10_word6 135 = .ok (.dup2, 1) := by decide +kernel
theorem dX10_word6_136 : decode cX10_word6 136 = .ok (.iaload, 1) := by decide +kernel
theorem dX10_word6_137 : decode cX10_word6 137 = .ok (.iconst 1, 1) := by decide +kernel
theorem dX10_word6_138 : decode cX10_word6 138 = .ok (.iadd, 1) := by decide +kernel
theorem dX10_word6_139 : decode cX10_word6 139 = .ok (.iastore, 1) := by decide +kernel
theorem dX10_word6_140 : decode cX10_word6 140 = .ok (.return_, 1) := by decide +kernel
theorem dX10_anew_0 : decode cX10_anew 0 = .ok (.iconst 0, 1) := by decide +kernel
theorem dX10_anew_1 : decode cX10_anew 1 = .ok (.istore_n 1, 1) := by decide +kernel
theorem dX10_anew_2 : decode cX10_anew 2 = .ok (.iload_n 1, 1) := by decide +kernel
theorem dX10_anew_3 : decode cX10_anew 3 = .ok (.bipush 19, 2) := by decide +kernel
theorem dX10_anew_5 : decode cX10_anew 5 = .ok (.if_icmp .ge 16, 3) := by decide +kernel
theorem dX10_anew_8 : decode cX10_anew 8 = .ok (.aload_n 0, 1) := by decide +kernel
theorem dX10_anew_9 : decode cX10_anew 9 = .ok (.getfield 19, 3) := by decide +kernel
theorem dX10_anew_12 : decode cX10_anew 12 = .ok (.iload_n 1, 1) := by decide +kernel
theorem dX10_anew_13 : decode cX10_anew 13 = .ok (.iconst 0, 1) := by decide +kernel
theorem dX10_anew_14 : decode cX10_anew 14 = .ok (.iastore, 1) := by decide +kernel
theorem dX10_anew_15 : decode cX10_anew 15 = .ok (.iinc 1 1, 3) := by decide +kernel
theorem dX10_anew_18 : decode cX10_anew 18 = .ok (.goto (-16), 3) := by decide +kernel
theorem dX10_anew_21 : decode cX10_anew 21 = .ok (.aload_n 0, 1) := by decide +kernel
theorem dX10_anew_22 : decode cX10_anew 22 = .ok (.getfield 19, 3) := by decide +kernel
theorem dX10_anew_25 : decode cX10_anew 25 = .ok (.iconst 0, 1) := by decide +kernel
theorem dX10_anew_26 : decode cX10_anew 26 = .ok (.aload_n 0, 1) := by decide +kernel
theorem dX10_anew_27 : decode cX10_anew 27 = .ok (.getfield 13, 3) := by decide +kernel
theorem dX10_anew_30 : decode cX10_anew 30 = .ok (.sipush 166, 3) := by decide +kernel
theorem dX10_anew_33 : decode cX10_anew 33 = .ok (.iaload, 1) := by decide +kernel
theorem dX10_anew_34 : decode cX10_anew 34 = .ok (.iastore, 1) := by decide +kernel
theorem dX10_anew_35 : decode cX10_anew 35 = .ok (.aload_n 0, 1) := by decide +kernel
theorem dX10_anew_36 : decode cX10_anew 36 = .ok (.iconst 0, 1) := by decide +kernel
theorem dX10_anew_37 : decode cX10_anew 37 = .ok (.putfield 67, 3) := by decide +kernel
theorem dX10_anew_40 : decode cX10_anew 40 = .ok (.return_, 1) := by decide +kernel
theorem dX10_in_0 : decode cX10_in 0 = .ok (.lload_n 0, 1) := by decide +kernel
theorem dX10_in_1 : decode cX10_in 1 = .ok (.lload_n 2, 1) := by decide +kernel
theorem dX10_in_2 : decode cX10_in 2 = .ok (.lcmp, 1) := by decide +kernel
theorem dX10_in_3 : decode cX10_in 3 = .ok (.ifCond .lt 14, 3) := by decide +kernel
theorem dX10_in_6 : decode cX10_in 6 = .ok (.lload_n 0, 1) := by decide +kernel
theorem dX10_in_7 : decode cX10_in 7 = .ok (.lload 4, 2) := by decide +kernel
theorem dX10_in_9 : decode cX10_in 9 = .ok (.lcmp, 1) := by decide +kernel
theorem dX10_in_10 : decode cX10_in 10 = .ok (.ifCond .gt 7, 3) := by decide +kernel
theorem dX10_in_13 : decode cX10_in 13 = .ok (.iconst 1, 1) := by decide +kernel
theorem dX10_in_14 : decode cX10_in 14 = .ok (.goto 4, 3) := by decide +kernel
theorem dX10_in_17 : decode cX10_in 17 = .ok (.iconst 0, 1) := by decide +kernel
theorem dX10_in_18 : decode cX10_in 18 = .ok (.ireturn, 1) := by decide +kernel
theorem dX10_write_0 : decode cX10_write 0 = .ok (.iload_n 1, 1) := by decide +kernel
theorem dX10_write_1 : decode cX10_write 1 = .ok (.i2l, 1) := by decide +kernel
theorem dX10_write_2 : decode cX10_write 2 = .ok (.ldc2_w 71, 3) := by decide +kernel
theorem dX10_write_5 : decode cX10_write 5 = .ok (.ldc2_w 73, 3) := by decide +kernel
theorem dX10_write_8 : decode cX10_write 8 = .ok (.invokestatic 75, 3) := by decide +kernel
theorem dX10_write_11 : decode cX10_write 11 = .ok (.ifCond .ne 5, 3) := by decide +kernel
theorem dX10_write_14 : decode cX10_write 14 = .ok (.iconst (-1), 1) := by decide +kernel
theorem dX10_write_15 : decode cX10_write 15 = .ok (.ireturn, 1) := by decide +kernel
theorem dX10_write_16 : decode cX10_write 16 = .ok (.aload_n 0, 1) := by decide +kernel
theorem dX10_write_17 : decode cX10_write 17 = .ok (.getfield 79, 3) := by decide +kernel
theorem dX10_write_20 : decode cX10_write 20 = .ok (.sipush 200, 3) := by decide +kernel
theorem dX10_write_23 : decode cX10_write 23 = .ok (.if_icmp .ne 6, 3) := by decide +kernel
theorem dX10_write_26 : decode cX10_write 26 = .ok (.bipush (-3), 2) := by decide +kernel
theorem dX10_write_28 : decode cX10_write 28 = .ok (.ireturn, 1) := by decide +kernel
theorem dX10_write_29 : decode cX10_write 29 = .ok (.aload_n 0, 1) := by decide +kernel
theorem dX10_write_30 : decode cX10_write 30 = .ok (.getfield 7, 3) := by decide +kernel
theorem dX10_write_33 : decode cX10_write 33 = .ok (.aload_n 0, 1) := by decide +kernel
theorem dX10_write_34 : decode cX10_write 34 = .ok (.getfield 79, 3) := by decide +kernel
theorem dX10_write_37 : decode cX10_write 37 = .ok (.iload_n 1, 1) := by decide +kernel
theorem dX10_write_38 : decode cX10_write 38 = .ok (.iastore, 1) := by decide +kernel
theorem dX10_write_39 : decode cX10_write 39 = .ok (.aload_n 0, 1) := by decide +kernel
theorem dX10_write_40 : decode cX10_write 40 = .ok (.dup, 1) := by decide +kernel
theorem dX10_write_41 : decode cX10_write 41 = .ok (.getfield 79, 3) := by decide +kernel
theorem dX10_write_44 : decode cX10_write 44 = .ok (.iconst 1, 1) := by decide +kernel
theorem dX10_write_45 : decode cX10_write 45 = .ok (.iadd, 1) := by decide +kernel
theorem dX10_write_46 : decode cX10_write 46 = .ok (.putfield 79, 3) := by decide +kernel
theorem dX10_write_49 : decode cX10_write 49 = .ok (.aload_n 0, 1) := by decide +kernel
theorem dX10_write_50 : decode cX10_write 50 = .ok (.getfield 79, 3) := by decide +kernel
theorem dX10_write_53 : decode cX10_write 53 = .ok (.ireturn, 1) := by decide +kernel
theorem dX10_wipe_0 : decode cX10_wipe 0 = .ok (.aload_n 0, 1) := by decide +kernel
theorem dX10_wipe_1 : decode cX10_wipe 1 = .ok (.getfield 79, 3) := by decide +kernel
theorem dX10_wipe_4 : decode cX10_wipe 4 = .ok (.istore_n 1, 1) := by decide +kernel
theorem dX10_wipe_5 : decode cX10_wipe 5 = .ok (.aload_n 0, 1) := by decide +kernel
theorem dX10_wipe_6 : decode cX10_wipe 6 = .ok (.iconst 0, 1) := by decide +kernel
theorem dX10_wipe_7 : decode cX10_wipe 7 = .ok (.putfield 79, 3) := by decide +kernel
theorem dX10_wipe_10 : decode cX10_wipe 10 = .ok (.iload_n 1, 1) := by decide +kernel
theorem dX10_wipe_11 : decode cX10_wipe 11 = .ok (.ireturn, 1) := by decide +kernel
theorem dX10_byteAt_0 : decode cX10_byteAt 0 = .ok (.iload_n 1, 1) := by decide +kernel
theorem dX10_byteAt_1 : decode cX10_byteAt 1 = .ok (.aload_n 0, 1) := by decide +kernel
theorem dX10_byteAt_2 : decode cX10_byteAt 2 = .ok (.getfield 79, 3) := by decide +kernel
theorem dX10_byteAt_5 : decode cX10_byteAt 5 = .ok (.if_icmp .ge 12, 3) := by decide +kernel
theorem dX10_byteAt_8 : decode cX10_byteAt 8 = .ok (.aload_n 0, 1) := by decide +kernel
theorem dX10_byteAt_9 : decode cX10_byteAt 9 = .ok (.getfield 7, 3) := by decide +kernel
theorem dX10_byteAt_12 : decode cX10_byteAt 12 = .ok (.iload_n 1, 1) := by decide +kernel
theorem dX10_byteAt_13 : decode cX10_byteAt 13 = .ok (.iaload, 1) := by decide +kernel
theorem dX10_byteAt_14 : decode cX10_byteAt 14 = .ok (.goto 4, 3) := by decide +kernel
theorem dX10_byteAt_17 : decode cX10_byteAt 17 = .ok (.iconst 0, 1) := by decide +kernel
theorem dX10_byteAt_18 : decode cX10_byteAt 18 = .ok (.ireturn, 1) := by decide +kernel
theorem dX10_figure_0 : decode cX10_figure 0 = .ok (.aload_n 0, 1) := by decide +kernel
theorem dX10_figure_1 : decode cX10_figure 1 = .ok (.aload_n 0, 1) := by decide +kernel
theorem dX10_figure_2 : decode cX10_figure 2 = .ok (.getfield 82, 3) := by decide +kernel
theorem dX10_figure_5 : decode cX10_figure 5 = .ok (.invokevirtual 85, 3) := by decide +kernel
theorem dX10_figure_8 : decode cX10_figure 8 = .ok (.bipush 48, 2) := by decide +kernel
theorem dX10_figure_10 : decode cX10_figure 10 = .ok (.isub, 1) := by decide +kernel
theorem dX10_figure_11 : decode cX10_figure 11 = .ok (.istore_n 3, 1) := by decide +kernel
theorem dX10_figure_12 : decode cX10_figure 12 = .ok (.aload_n 0, 1) := by decide +kernel
theorem dX10_figure_13 : decode cX10_figure 13 = .ok (.getfield 16, 3) := by decide +kernel
theorem dX10_figure_16 : decode cX10_figure 16 = .ok (.iload_n 1, 1) := by decide +kernel
theorem dX10_figure_17 : decode cX10_figure 17 = .ok (.iload_n 3, 1) := by decide +kernel
theorem dX10_figure_18 : decode cX10_figure 18 = .ok (.iastore, 1) := by decide +kernel
theorem dX10_figure_19 : decode cX10_figure 19 = .ok (.aload_n 0, 1) := by decide +kernel
theorem dX10_figure_20 : decode cX10_figure 20 = .ok (.dup, 1) := by decide +kernel
theorem dX10_figure_21 : decode cX10_figure 21 = .ok (.getfield 82, 3) := by decide +kernel
theorem dX10_figure_24 : decode cX10_figure 24 = .ok (.iconst 1, 1) := by decide +kernel
theorem dX10_figure_25 : decode cX10_figure 25 = .ok (.iadd, 1) := by decide +kernel
theorem dX10_figure_26 : decode cX10_figure 26 = .ok (.putfield 82, 3) := by decide +kernel
theorem dX10_figure_29 : decode cX10_figure 29 = .ok (.iload_n 3, 1) := by decide +kernel
theorem dX10_figure_30 : decode cX10_figure 30 = .ok (.i2l, 1) := by decide +kernel
theorem dX10_figure_31 : decode cX10_figure 31 = .ok (.lconst 0, 1) := by decide +kernel
theorem dX10_figure_32 : decode cX10_figure 32 = .ok (.iload_n 2, 1) := by decide +kernel
theorem dX10_figure_33 : decode cX10_figure 33 = .ok (.i2l, 1) := by decide +kernel
theorem dX10_figure_34 : decode cX10_figure 34 = .ok (.invokestatic 75, 3) := by decide +kernel
theorem dX10_figure_37 : decode cX10_figure 37 = .ok (.ireturn, 1) := by decide +kernel
theorem dX10_gone_0 : decode cX10_gone 0 = .ok (.aload_n 0, 1) := by decide +kernel
theorem dX10_gone_1 : decode cX10_gone 1 = .ok (.aload_n 0, 1) := by decide +kernel
theorem dX10_gone_2 : decode cX10_gone 2 = .ok (.getfield 82, 3) := by decide +kernel
theorem dX10_gone_5 : decode cX10_gone 5 = .ok (.invokevirtual 85, 3) := by decide +kernel
theorem dX10_gone_8 : decode cX10_gone 8 = .ok (.iload_n 1, 1) := by decide +kernel
theorem dX10_gone_9 : decode cX10_gone 9 = .ok (.if_icmp .ne 7, 3) := by decide +kernel
theorem dX10_gone_12 : decode cX10_gone 12 = .ok (.iconst 1, 1) := by decide +kernel
theorem dX10_gone_13 : decode cX10_gone 13 = .ok (.goto 4, 3) := by decide +kernel
theorem dX10_gone_16 : decode cX10_gone 16 = .ok (.iconst 0, 1) := by decide +kernel
theorem dX10_gone_17 : decode cX10_gone 17 = .ok (.istore_n 2, 1) := by decide +kernel
theorem dX10_gone_18 : decode cX10_gone 18 = .ok (.aload_n 0, 1) := by decide +kernel
theorem dX10_gone_19 : decode cX10_gone 19 = .ok (.dup, 1) := by decide +kernel
theorem dX10_gone_20 : decode cX10_gone 20 = .ok (.getfield 82, 3) := by decide +kernel
theorem dX10_gone_23 : decode cX10_gone 23 = .ok (.iconst 1, 1) := by decide +kernel
theorem dX10_gone_24 : decode cX10_gone 24 = .ok (.iadd, 1) := by decide +kernel
theorem dX10_gone_25 : decode cX10_gone 25 = .ok (.putfield 82, 3) := by decide +kernel
theorem dX10_gone_28 : decode cX10_gone 28 = .ok (.iload_n 2, 1) := by decide +kernel
theorem dX10_gone_29 : decode cX10_gone 29 = .ok (.ireturn, 1) := by decide +kernel
theorem dX10_letters_0 : decode cX10_letters 0 = .ok (.iconst 0, 1) := by decide +kernel
theorem dX10_letters_1 : decode cX10_letters 1 = .ok (.istore_n 3, 1) := by decide +kernel
theorem dX10_letters_2 : decode cX10_letters 2 = .ok (.iload_n 3, 1) := by decide +kernel
theorem dX10_letters_3 : decode cX10_letters 3 = .ok (.iload_n 2, 1) := by decide +kernel
theorem dX10_letters_4 : decode cX10_letters 4 = .ok (.if_icmp .ge 58, 3) := by decide +kernel
theorem dX10_letters_7 : decode cX10_letters 7 = .ok (.aload_n 0, 1) := by decide +kernel
theorem dX10_letters_8 : decode cX10_letters 8 = .ok (.aload_n 0, 1) := by decide +kernel
theorem dX10_letters_9 : decode cX10_letters 9 = .ok (.getfield 82, 3) := by decide +kernel
theorem dX10_letters_12 : decode cX10_letters 12 = .ok (.invokevirtual 85, 3) := by decide +kernel
theorem dX10_letters_15 : decode cX10_letters 15 = .ok (.i2l, 1) := by decide +kernel
theorem dX10_letters_16 : decode cX10_letters 16 = .ok (.ldc2_w 89, 3) := by decide +kernel
theorem dX10_letters_19 : decode cX10_letters 19 = .ok (.ldc2_w 91, 3) := by decide +kernel
theorem dX10_letters_22 : decode cX10_letters 22 = .ok (.invokestatic 75, 3) := by decide +kernel
theorem dX10_letters_25 : decode cX10_letters 25 = .ok (.ifCond .eq 37, 3) := by decide +kernel
theorem dX10_letters_28 : decode cX10_letters 28 = .ok (.aload_n 0, 1) := by decide +kernel
theorem dX10_letters_29 : decode cX10_letters 29 = .ok (.getfield 16, 3) := by decide +kernel
theorem dX10_letters_32 : decode cX10_letters 32 = .ok (.iload_n 1, 1) := by decide +kernel
theorem dX10_letters_33 : decode cX10_letters 33 = .ok (.iconst 1, 1) := by decide +kernel
theorem dX10_letters_34 : decode cX10_letters 34 = .ok (.iadd, 1) := by decide +kernel
theorem dX10_letters_35 : decode cX10_letters 35 = .ok (.iload_n 3, 1) := by decide +kernel
theorem dX10_letters_36 : decode cX10_letters 36 = .ok (.iadd, 1) := by decide +kernel
theorem dX10_letters_37 : decode cX10_letters 37 = .ok (.aload_n 0, 1) := by decide +kernel
theorem dX10_letters_38 : decode cX10_letters 38 = .ok (.aload_n 0, 1) := by decide +kernel
theorem dX10_letters_39 : decode cX10_letters 39 = .ok (.getfield 82, 3) := by decide +kernel
theorem dX10_letters_42 : decode cX10_letters 42 = .ok (.invokevirtual 85, 3) := by decide +kernel
theorem dX10_letters_45 : decode cX10_letters 45 = .ok (.iastore, 1) := by decide +kernel
theorem dX10_letters_46 : decode cX10_letters 46 = .ok (.aload_n 0, 1) := by decide +kernel
theorem dX10_letters_47 : decode cX10_letters 47 = .ok (.dup, 1) := by decide +kernel
theorem dX10_letters_48 : decode cX10_letters 48 = .ok (.getfield 82, 3) := by decide +kernel
theorem dX10_letters_51 : decode cX10_letters 51 = .ok (.iconst 1, 1) := by decide +kernel
theorem dX10_letters_52 : decode cX10_letters 52 = .ok (.iadd, 1) := by decide +kernel
theorem dX10_letters_53 : decode cX10_letters 53 = .ok (.putfield 82, 3) := by decide +kernel
theorem dX10_letters_56 : decode cX10_letters 56 = .ok (.iinc 3 1, 3) := by decide +kernel
theorem dX10_letters_59 : decode cX10_letters 59 = .ok (.goto (-57), 3) := by decide +kernel
theorem dX10_letters_62 : decode cX10_letters 62 = .ok (.aload_n 0, 1) := by decide +kernel
theorem dX10_letters_63 : decode cX10_letters 63 = .ok (.getfield 16, 3) := by decide +kernel
theorem dX10_letters_66 : decode cX10_letters 66 = .ok (.iload_n 1, 1) := by decide +kernel
theorem dX10_letters_67 : decode cX10_letters 67 = .ok (.iload_n 3, 1) := by decide +kernel
theorem dX10_letters_68 : decode cX10_letters 68 = .ok (.iastore, 1) := by decide +kernel
theorem dX10_letters_69 : decode cX10_letters 69 = .ok (.iload_n 3, 1) := by decide +kernel
theorem dX10_letters_70 : decode cX10_letters 70 = .ok (.ifCond .le 7, 3) := by decide +kernel
theorem dX10_letters_73 : decode cX10_letters 73 = .ok (.iconst 1, 1) := by decide +kernel
theorem dX10_letters_74 : decode cX10_letters 74 = .ok (.goto 4, 3) := by decide +kernel
theorem dX10_letters_77 : decode cX10_letters 77 = .ok (.iconst 0, 1) := by decide +kernel
theorem dX10_letters_78 : decode cX10_letters 78 = .ok (.ireturn, 1) := by decide +kernel
theorem dX10_wordItem_0 : decode cX10_wordItem 0 = .ok (.aload_n 0, 1) := by decide +kernel
theorem dX10_wordItem_1 : decode cX10_wordItem 1 = .ok (.getfield 16, 3) := by decide +kernel
theorem dX10_wordItem_4 : decode cX10_wordItem 4 = .ok (.sipush 165, 3) := by decide +kernel
theorem dX10_wordItem_7 : decode cX10_wordItem 7 = .ok (.iaload, 1) := by decide +kernel
theorem dX10_wordItem_8 : decode cX10_wordItem 8 = .ok (.istore_n 1, 1) := by decide +kernel
theorem dX10_wordItem_9 : decode cX10_wordItem 9 = .ok (.bipush 84, 2) := by decide +kernel
theorem dX10_wordItem_11 : decode cX10_wordItem 11 = .ok (.bipush 10, 2) := by decide +kernel
theorem dX10_wordItem_13 : decode cX10_wordItem 13 = .ok (.iload_n 1, 1) := by decide +kernel
theorem dX10_wordItem_14 : decode cX10_wordItem 14 = .ok (.imul, 1) := by decide +kernel
theorem dX10_wordItem_15 : decode cX10_wordItem 15 = .ok (.iadd, 1) := by decide +kernel
theorem dX10_wordItem_16 : decode cX10_wordItem 16 = .ok (.istore_n 2, 1) := by decide +kernel
theorem dX10_wordItem_17 : decode cX10_wordItem 17 = .ok (.iload_n 1, 1) := by decide +kernel
theorem dX10_wordItem_18 : decode cX10_wordItem 18 = .ok (.bipush 8, 2) := by decide +kernel
theorem dX10_wordItem_20 : decode cX10_wordItem 20 = .ok (.if_icmp .ne 5, 3) := by decide +kernel
theorem dX10_wordItem_23 : decode cX10_wordItem 23 = .ok (.iconst 0, 1) := by decide +kernel
theorem dX10_wordItem_24 : decode cX10_wordItem 24 = .ok (.ireturn, 1) := by decide +kernel
theorem dX10_wordItem_25 : decode cX10_wordItem 25 = .ok (.aload_n 0, 1) := by decide +kernel
theorem dX10_wordItem_26 : decode cX10_wordItem 26 = .ok (.getfield 16, 3) := by decide +kernel
theorem dX10_wordItem_29 : decode cX10_wordItem 29 = .ok (.sipush 165, 3) := by decide +kernel
theorem dX10_wordItem_32 : decode cX10_wordItem 32 = .ok (.dup2, 1) := by decide +kernel
theorem dX10_wordItem_33 : decode cX10_wordItem 33 = .ok (.iaload, 1) := by decide +kernel
theorem dX10_wordItem_34 : decode cX10_wordItem 34 = .ok (.iconst 1, 1) := by decide +kernel
theorem dX10_wordItem_35 : decode cX10_wordItem 35 = .ok (.iadd, 1) := by decide +kernel
theorem dX10_wordItem_36 : decode cX10_wordItem 36 = .ok (.iastore, 1) := by decide +kernel
theorem dX10_wordItem_37 : decode cX10_wordItem 37 = .ok (.aload_n 0, 1) := by decide +kernel
theorem dX10_wordItem_38 : decode cX10_wordItem 38 = .ok (.iload_n 2, 1) := by decide +kernel
theorem dX10_wordItem_39 : decode cX10_wordItem 39 = .ok (.iconst 5, 1) := by decide +kernel
theorem dX10_wordItem_40 : decode cX10_wordItem 40 = .ok (.invokevirtual 93, 3) := by decide +kernel
theorem dX10_wordItem_43 : decode cX10_wordItem 43 = .ok (.ifCond .eq 24, 3) := by decide +kernel
theorem dX10_wordItem_46 : decode cX10_wordItem 46 = .ok (.aload_n 0, 1) := by decide +kernel
theorem dX10_wordItem_47 : decode cX10_wordItem 47 = .ok (.bipush 44, 2) := by decide +kernel
theorem dX10_wordItem_49 : decode cX10_wordItem 49 = .ok (.invokevirtual 97, 3) := by decide +kernel
theorem dX10_wordItem_52 : decode cX10_wordItem 52 = .ok (.ifCond .eq 15, 3) := by decide +kernel
theorem dX10_wordItem_55 : decode cX10_wordItem 55 = .ok (.aload_n 0, 1) := by decide +kernel
theorem dX10_wordItem_56 : decode cX10_wordItem 56 = .ok (.iload_n 2, 1) := by decide +kernel
theorem dX10_wordItem_57 : decode cX10_wordItem 57 = .ok (.iconst 1, 1) := by decide +kernel
theorem dX10_wordItem_58 : decode cX10_wordItem 58 = .ok (.iadd, 1) := by decide +kernel
theorem dX10_wordItem_59 : decode cX10_wordItem 59 = .ok (.bipush 8, 2) := by decide +kernel
theorem dX10_wordItem_61 : decode cX10_wordItem 61 = .ok (.invokevirtual 101, 3) := by decide +kernel
theorem dX10_wordItem_64 : decode cX10_wordItem 64 = .ok (.ifCond .ne 5, 3) := by decide +kernel
theorem dX10_wordItem_67 : decode cX10_wordItem 67 = .ok (.iconst 0, 1) := by decide +kernel
theorem dX10_wordItem_68 : decode cX10_wordItem 68 = .ok (.ireturn, 1) := by decide +kernel
theorem dX10_wordItem_69 : decode cX10_wordItem 69 = .ok (.iconst 0, 1) := by decide +kernel
theorem dX10_wordItem_70 : decode cX10_wordItem 70 = .ok (.istore_n 3, 1) := by decide +kernel
theorem dX10_wordItem_71 : decode cX10_wordItem 71 = .ok (.iload_n 3, 1) := by decide +kernel
theorem dX10_wordItem_72 : decode cX10_wordItem 72 = .ok (.iload_n 1, 1) := by decide +kernel
theorem dX10_wordItem_73 : decode cX10_wordItem 73 = .ok (.if_icmp .ge 86, 3) := by decide +kernel
theorem dX10_wordItem_76 : decode cX10_wordItem 76 = .ok (.bipush 84, 2) := by decide +kernel
theorem dX10_wordItem_78 : decode cX10_wordItem 78 = .ok (.bipush 10, 2) := by decide +kernel
theorem dX10_wordItem_80 : decode cX10_wordItem 80 = .ok (.iload_n 3, 1) := by decide +kernel
theorem dX10_wordItem_81 : decode cX10_wordItem 81 = .ok (.imul, 1) := by decide +kernel
theorem dX10_wordItem_82 : decode cX10_wordItem 82 = .ok (.iadd, 1) := by decide +kernel
theorem dX10_wordItem_83 : decode cX10_wordItem 83 = .ok (.istore 4, 2) := by decide +kernel
theorem dX10_wordItem_85 : decode cX10_wordItem 85 = .ok (.iconst 1, 1) := by decide +kernel
theorem dX10_wordItem_86 : decode cX10_wordItem 86 = .ok (.istore 5, 2) := by decide +kernel
theorem dX10_wordItem_88 : decode cX10_wordItem 88 = .ok (.iconst 0, 1) := by decide +kernel
theorem dX10_wordItem_89 : decode cX10_wordItem 89 = .ok (.istore 6, 2) := by decide +kernel
theorem dX10_wordItem_91 : decode cX10_wordItem 91 = .ok (.iload 6, 2) := by decide +kernel
theorem dX10_wordItem_93 : decode cX10_wordItem 93 = .ok (.iconst 2, 1) := by decide +kernel
theorem dX10_wordItem_94 : decode cX10_wordItem 94 = .ok (.aload_n 0, 1) := by decide +kernel
theorem dX10_wordItem_95 : decode cX10_wordItem 95 = .ok (.getfield 16, 3) := by decide +kernel
theorem dX10_wordItem_98 : decode cX10_wordItem 98 = .ok (.iload_n 2, 1) := by decide +kernel
theorem dX10_wordItem_99 : decode cX10_wordItem 99 = .ok (.iconst 1, 1) := by decide +kernel
theorem dX10_wordItem_100 : decode cX10_wordItem 100 = .ok (.iadd, 1) := by decide +kernel
theorem dX10_wordItem_101 : decode cX10_wordItem 101 = .ok (.iaload, 1) := by decide +kernel
theorem dX10_wordItem_102 : decode cX10_wordItem 102 = .ok (.iadd, 1) := by decide +kernel
theorem dX10_wordItem_103 : decode cX10_wordItem 103 = .ok (.if_icmp .ge 43, 3) := by decide +kernel
theorem dX10_wordItem_106 : decode cX10_wordItem 106 = .ok (.iload 5, 2) := by decide +kernel
theorem dX10_wordItem_108 : decode cX10_wordItem 108 = .ok (.ifCond .eq 29, 3) := by decide +kernel
theorem dX10_wordItem_111 : decode cX10_wordItem 111 = .ok (.aload_n 0, 1) := by decide +kernel
theorem dX10_wordItem_112 : decode cX10_wordItem 112 = .ok (.getfield 16, 3) := by decide +kernel
theorem dX10_wordItem_115 : decode cX10_wordItem 115 = .ok (.iload_n 2, 1) := by decide +kernel
theorem dX10_wordItem_116 : decode cX10_wordItem 116 = .ok (.iload 6, 2) := by decide +kernel
theorem dX10_wordItem_118 : decode cX10_wordItem 118 = .ok (.iadd, 1) := by decide +kernel
theorem dX10_wordItem_119 : decode cX10_wordItem 119 = .ok (.iaload, 1) := by decide +kernel
theorem dX10_wordItem_120 : decode cX10_wordItem 120 = .ok (.aload_n 0, 1) := by decide +kernel
theorem dX10_wordItem_121 : decode cX10_wordItem 121 = .ok (.getfield 16, 3) := by decide +kernel
theorem dX10_wordItem_124 : decode cX10_wordItem 124 = .ok (.iload 4, 2) := by decide +kernel
theorem dX10_wordItem_126 : decode cX10_wordItem 126 = .ok (.iload 6, 2) := by decide +kernel
theorem dX10_wordItem_128 : decode cX10_wordItem 128 = .ok (.iadd, 1) := by decide +kernel
theorem dX10_wordItem_129 : decode cX10_wordItem 129 = .ok (.iaload, 1) := by decide +kernel
theorem dX10_wordItem_130 : decode cX10_wordItem 130 = .ok (.if_icmp .ne 7, 3) := by decide +kernel
theorem dX10_wordItem_133 : decode cX10_wordItem 133 = .ok (.iconst 1, 1) := by decide +kernel
theorem dX10_wordItem_134 : decode cX10_wordItem 134 = .ok (.goto 4, 3) := by decide +kernel
theorem dX10_wordItem_137 : decode cX10_wordItem 137 = .ok (.iconst 0, 1) := by decide +kernel
theorem dX10_wordItem_138 : decode cX10_wordItem 138 = .ok (.istore 5, 2) := by decide +kernel
theorem dX10_wordItem_140 : decode cX10_wordItem 140 = .ok (.iinc 6 1, 3) := by decide +kernel
theorem dX10_wordItem_143 : decode cX10_wordItem 143 = .ok (.goto (-52), 3) := by decide +kernel
theorem dX10_wordItem_146 : decode cX10_wordItem 146 = .ok (.iload 5, 2) := by decide +kernel
theorem dX10_wordItem_148 : decode cX10_wordItem 148 = .ok (.ifCond .eq 5, 3) := by decide +kernel
theorem dX10_wordItem_151 : decode cX10_wordItem 151 = .ok (.iconst 0, 1) := by decide +kernel
theorem dX10_wordItem_152 : decode cX10_wordItem 152 = .ok (.ireturn, 1) := by decide +kernel
theorem dX10_wordItem_153 : decode cX10_wordItem 153 = .ok (.iinc 3 1, 3) := by decide +kernel
theorem dX10_wordItem_156 : decode cX10_wordItem 156 = .ok (.goto (-85), 3) := by decide +kernel
theorem dX10_wordItem_159 : decode cX10_wordItem 159 = .ok (.iconst 1, 1) := by decide +kernel
theorem dX10_wordItem_160 : decode cX10_wordItem 160 = .ok (.ireturn, 1) := by decide +kernel
theorem dX10_signItem_0 : decode cX10_signItem 0 = .ok (.bipush 7, 2) := by decide +kernel
theorem dX10_signItem_2 : decode cX10_signItem 2 = .ok (.aload_n 0, 1) := by decide +kernel
theorem dX10_signItem_3 : decode cX10_signItem 3 = .ok (.getfield 16, 3) := by decide +kernel
theorem dX10_signItem_6 : decode cX10_signItem 6 = .ok (.sipush 164, 3) := by decide +kernel
theorem dX10_signItem_9 : decode cX10_signItem 9 = .ok (.iaload, 1) := by decide +kernel
theorem dX10_signItem_10 : decode cX10_signItem 10 = .ok (.imul, 1) := by decide +kernel
theorem dX10_signItem_11 : decode cX10_signItem 11 = .ok (.istore_n 2, 1) := by decide +kernel
theorem dX10_signItem_12 : decode cX10_signItem 12 = .ok (.aload_n 0, 1) := by decide +kernel
theorem dX10_signItem_13 : decode cX10_signItem 13 = .ok (.getfield 16, 3) := by decide +kernel
theorem dX10_signItem_16 : decode cX10_signItem 16 = .ok (.sipush 164, 3) := by decide +kernel
theorem dX10_signItem_19 : decode cX10_signItem 19 = .ok (.iaload, 1) := by decide +kernel
theorem dX10_signItem_20 : decode cX10_signItem 20 = .ok (.bipush 12, 2) := by decide +kernel
theorem dX10_signItem_22 : decode cX10_signItem 22 = .ok (.if_icmp .ne 5, 3) := by decide +kernel
theorem dX10_signItem_25 : decode cX10_signItem 25 = .ok (.iconst 0, 1) := by decide +kernel
theorem dX10_signItem_26 : decode cX10_signItem 26 = .ok (.ireturn, 1) := by decide +kernel
theorem dX10_signItem_27 : decode cX10_signItem 27 = .ok (.aload_n 0, 1) := by decide +kernel
theorem dX10_signItem_28 : decode cX10_signItem 28 = .ok (.getfield 16, 3) := by decide +kernel
theorem dX10_signItem_31 : decode cX10_signItem 31 = .ok (.sipush 164, 3) := by decide +kernel
theorem dX10_signItem_34 : decode cX10_signItem 34 = .ok (.dup2, 1) := by decide +kernel
theorem dX10_signItem_35 : decode cX10_signItem 35 = .ok (.iaload, 1) := by decide +kernel
theorem dX10_signItem_36 : decode cX10_signItem 36 = .ok (.iconst 1, 1) := by decide +kernel
theorem dX10_signItem_37 : decode cX10_signItem 37 = .ok (.iadd, 1) := by decide +kernel
theorem dX10_signItem_38 : decode cX10_signItem 38 = .ok (.iastore, 1) := by decide +kernel
theorem dX10_signItem_39 : decode cX10_signItem 39 = .ok (.aload_n 0, 1) := by decide +kernel
theorem dX10_signItem_40 : decode cX10_signItem 40 = .ok (.getfield 16, 3) := by decide +kernel
theorem dX10_signItem_43 : decode cX10_signItem 43 = .ok (.iload_n 2, 1) := by decide +kernel
theorem dX10_signItem_44 : decode cX10_signItem 44 = .ok (.iload_n 1, 1) := by decide +kernel
theorem dX10_signItem_45 : decode cX10_signItem 45 = .ok (.bipush 112, 2) := by decide +kernel
theorem dX10_signItem_47 : decode cX10_signItem 47 = .ok (.if_icmp .ne 7, 3) := by decide +kernel
theorem dX10_signItem_50 : decode cX10_signItem 50 = .ok (.iconst 0, 1) := by decide +kernel
theorem dX10_signItem_51 : decode cX10_signItem 51 = .ok (.goto 14, 3) := by decide +kernel
theorem dX10_signItem_54 : decode cX10_signItem 54 = .ok (.iload_n 1, 1) := by decide +kernel
theorem dX10_signItem_55 : decode cX10_signItem 55 = .ok (.bipush 115, 2) := by decide +kernel
theorem dX10_signItem_57 : decode cX10_signItem 57 = .ok (.if_icmp .ne 7, 3) := by decide +kernel
theorem dX10_signItem_60 : decode cX10_signItem 60 = .ok (.iconst 1, 1) := by decide +kernel
theorem dX10_signItem_61 : decode cX10_signItem 61 = .ok (.goto 4, 3) := by decide +kernel
theorem dX10_signItem_64 : decode cX10_signItem 64 = .ok (.iconst 2, 1) := by decide +kernel
theorem dX10_signItem_65 : decode cX10_signItem 65 = .ok (.iastore, 1) := by decide +kernel
theorem dX10_signItem_66 : decode cX10_signItem 66 = .ok (.aload_n 0, 1) := by decide +kernel
theorem dX10_signItem_67 : decode cX10_signItem 67 = .ok (.getfield 16, 3) := by decide +kernel
theorem dX10_signItem_70 : decode cX10_signItem 70 = .ok (.iload_n 2, 1) := by decide +kernel
theorem dX10_signItem_71 : decode cX10_signItem 71 = .ok (.iconst 1, 1) := by decide +kernel
theorem dX10_signItem_72 : decode cX10_signItem 72 = .ok (.iadd, 1) := by decide +kernel
theorem dX10_signItem_73 : decode cX10_signItem 73 = .ok (.bipush (-4), 2) := by decide +kernel
theorem dX10_signItem_75 : decode cX10_signItem 75 = .ok (.iastore, 1) := by decide +kernel
theorem dX10_signItem_76 : decode cX10_signItem 76 = .ok (.aload_n 0, 1) := by decide +kernel
theorem dX10_signItem_77 : decode cX10_signItem 77 = .ok (.getfield 16, 3) := by decide +kernel
theorem dX10_signItem_80 : decode cX10_signItem 80 = .ok (.iload_n 2, 1) := by decide +kernel
theorem dX10_signItem_81 : decode cX10_signItem 81 = .ok (.iconst 2, 1) := by decide +kernel
theorem dX10_signItem_82 : decode cX10_signItem 82 = .ok (.iadd, 1) := by decide +kernel
theorem dX10_signItem_83 : decode cX10_signItem 83 = .ok (.iconst 0, 1) := by decide +kernel
theorem dX10_signItem_84 : decode cX10_signItem 84 = .ok (.iastore, 1) := by decide +kernel
theorem dX10_signItem_85 : decode cX10_signItem 85 = .ok (.iload_n 1, 1) := by decide +kernel
theorem dX10_signItem_86 : decode cX10_signItem 86 = .ok (.bipush 109, 2) := by decide +kernel
theorem dX10_signItem_88 : decode cX10_signItem 88 = .ok (.if_icmp .ne 12, 3) := by decide +kernel
theorem dX10_signItem_91 : decode cX10_signItem 91 = .ok (.aload_n 0, 1) := by decide +kernel
theorem dX10_signItem_92 : decode cX10_signItem 92 = .ok (.iload_n 2, 1) := by decide +kernel
theorem dX10_signItem_93 : decode cX10_signItem 93 = .ok (.iconst 1, 1) := by decide +kernel
theorem dX10_signItem_94 : decode cX10_signItem 94 = .ok (.iadd, 1) := by decide +kernel
theorem dX10_signItem_95 : decode cX10_signItem 95 = .ok (.iconst 5, 1) := by decide +kernel
theorem dX10_signItem_96 : decode cX10_signItem 96 = .ok (.invokevirtual 93, 3) := by decide +kernel
theorem dX10_signItem_99 : decode cX10_signItem 99 = .ok (.ireturn, 1) := by decide +kernel
theorem dX10_signItem_100 : decode cX10_signItem 100 = .ok (.iload_n 1, 1) := by decide +kernel
theorem dX10_signItem_101 : decode cX10_signItem 101 = .ok (.bipush 115, 2) := by decide +kernel
theorem dX10_signItem_103 : decode cX10_signItem 103 = .ok (.if_icmp .eq 23, 3) := by decide +kernel
theorem dX10_signItem_106 : decode cX10_signItem 106 = .ok (.aload_n 0, 1) := by decide +kernel
theorem dX10_signItem_107 : decode cX10_signItem 107 = .ok (.iload_n 2, 1) := by decide +kernel
theorem dX10_signItem_108 : decode cX10_signItem 108 = .ok (.iconst 1, 1) := by decide +kernel
theorem dX10_signItem_109 : decode cX10_signItem 109 = .ok (.iadd, 1) := by decide +kernel
theorem dX10_signItem_110 : decode cX10_signItem 110 = .ok (.iconst 5, 1) := by decide +kernel
theorem dX10_signItem_111 : decode cX10_signItem 111 = .ok (.invokevirtual 93, 3) := by decide +kernel
theorem dX10_signItem_114 : decode cX10_signItem 114 = .ok (.ifCond .eq 27, 3) := by decide +kernel
theorem dX10_signItem_117 : decode cX10_signItem 117 = .ok (.aload_n 0, 1) := by decide +kernel
theorem dX10_signItem_118 : decode cX10_signItem 118 = .ok (.bipush 44, 2) := by decide +kernel
theorem dX10_signItem_120 : decode cX10_signItem 120 = .ok (.invokevirtual 97, 3) := by decide +kernel
theorem dX10_signItem_123 : decode cX10_signItem 123 = .ok (.ifCond .eq 18, 3) := by decide +kernel
theorem dX10_signItem_126 : decode cX10_signItem 126 = .ok (.aload_n 0, 1) := by decide +kernel
theorem dX10_signItem_127 : decode cX10_signItem 127 = .ok (.iload_n 2, 1) := by decide +kernel
theorem dX10_signItem_128 : decode cX10_signItem 128 = .ok (.iconst 2, 1) := by decide +kernel
theorem dX10_signItem_129 : decode cX10_signItem 129 = .ok (.iadd, 1) := by decide +kernel
theorem dX10_signItem_130 : decode cX10_signItem 130 = .ok (.iconst 4, 1) := by decide +kernel
theorem dX10_signItem_131 : decode cX10_signItem 131 = .ok (.invokevirtual 101, 3) := by decide +kernel
theorem dX10_signItem_134 : decode cX10_signItem 134 = .ok (.ifCond .eq 7, 3) := by decide +kernel
theorem dX10_signItem_137 : decode cX10_signItem 137 = .ok (.iconst 1, 1) := by decide +kernel
theorem dX10_signItem_138 : decode cX10_signItem 138 = .ok (.goto 4, 3) := by decide +kernel
theorem dX10_signItem_141 : decode cX10_signItem 141 = .ok (.iconst 0, 1) := by decide +kernel
theorem dX10_signItem_142 : decode cX10_signItem 142 = .ok (.ireturn, 1) := by decide +kernel
theorem dX10_item_0 : decode cX10_item 0 = .ok (.iload_n 1, 1) := by decide +kernel
theorem dX10_item_1 : decode cX10_item 1 = .ok (.tableswitch 87 107 119 #[78, 87, 67, 87, 87, 67, 87, 87, 67, 87, 87, 87, 73], 67) := by decide +kernel
theorem dX10_item_68 : decode cX10_item 68 = .ok (.aload_n 0, 1) := by decide +kernel
theorem dX10_item_69 : decode cX10_item 69 = .ok (.iload_n 1, 1) := by decide +kernel
theorem dX10_item_70 : decode cX10_item 70 = .ok (.invokevirtual 104, 3) := by decide +kernel
theorem dX10_item_73 : decode cX10_item 73 = .ok (.ireturn, 1) := by decide +kernel
theorem dX10_item_74 : decode cX10_item 74 = .ok (.aload_n 0, 1) := by decide +kernel
theorem dX10_item_75 : decode cX10_item 75 = .ok (.invokevirtual 107, 3) := by decide +kernel
theorem dX10_item_78 : decode cX10_item 78 = .ok (.ireturn, 1) := by decide +kernel
theorem dX10_item_79 : decode cX10_item 79 = .ok (.aload_n 0, 1) := by decide +kernel
theorem dX10_item_80 : decode cX10_item 80 = .ok (.sipush 166, 3) := by decide +kernel
theorem dX10_item_83 : decode cX10_item 83 = .ok (.iconst 1, 1) := by decide +kernel
theorem dX10_item_84 : decode cX10_item 84 = .ok (.invokevirtual 93, 3) := by decide +kernel
theorem dX10_item_87 : decode cX10_item 87 = .ok (.ireturn, 1) := by decide +kernel
theorem dX10_item_88 : decode cX10_item 88 = .ok (.iconst 0, 1) := by decide +kernel
theorem dX10_item_89 : decode cX10_item 89 = .ok (.ireturn, 1) := by decide +kernel
theorem dX10_fault_0 : decode cX10_fault 0 = .ok (.iconst 0, 1) := by decide +kernel
theorem dX10_fault_1 : decode cX10_fault 1 = .ok (.istore_n 1, 1) := by decide +kernel
theorem dX10_fault_2 : decode cX10_fault 2 = .ok (.iload_n 1, 1) := by decide +kernel
theorem dX10_fault_3 : decode cX10_fault 3 = .ok (.sipush 167, 3) := by decide +kernel
theorem dX10_fault_6 : decode cX10_fault 6 = .ok (.if_icmp .ge 16, 3) := by decide +kernel
theorem dX10_fault_9 : decode cX10_fault 9 = .ok (.aload_n 0, 1) := by decide +kernel
theorem dX10_fault_10 : decode cX10_fault 10 = .ok (.getfield 16, 3) := by decide +kernel
theorem dX10_fault_13 : decode cX10_fault 13 = .ok (.iload_n 1, 1) := by decide +kernel
theorem dX10_fault_14 : decode cX10_fault 14 = .ok (.iconst 0, 1) := by decide +kernel
theorem dX10_fault_15 : decode cX10_fault 15 = .ok (.iastore, 1) := by decide +kernel
theorem dX10_fault_16 : decode cX10_fault 16 = .ok (.iinc 1 1, 3) := by decide +kernel
theorem dX10_fault_19 : decode cX10_fault 19 = .ok (.goto (-17), 3) := by decide +kernel
theorem dX10_fault_22 : decode cX10_fault 22 = .ok (.aload_n 0, 1) := by decide +kernel
theorem dX10_fault_23 : decode cX10_fault 23 = .ok (.iconst 0, 1) := by decide +kernel
theorem dX10_fault_24 : decode cX10_fault 24 = .ok (.putfield 82, 3) := by decide +kernel
theorem dX10_fault_27 : decode cX10_fault 27 = .ok (.aload_n 0, 1) := by decide +kernel
theorem dX10_fault_28 : decode cX10_fault 28 = .ok (.getfield 82, 3) := by decide +kernel
theorem dX10_fault_31 : decode cX10_fault 31 = .ok (.aload_n 0, 1) := by decide +kernel
theorem dX10_fault_32 : decode cX10_fault 32 = .ok (.getfield 79, 3) := by decide +kernel
theorem dX10_fault_35 : decode cX10_fault 35 = .ok (.if_icmp .ge 45, 3) := by decide +kernel
theorem dX10_fault_38 : decode cX10_fault 38 = .ok (.aload_n 0, 1) := by decide +kernel
theorem dX10_fault_39 : decode cX10_fault 39 = .ok (.getfield 82, 3) := by decide +kernel
theorem dX10_fault_42 : decode cX10_fault 42 = .ok (.istore_n 1, 1) := by decide +kernel
theorem dX10_fault_43 : decode cX10_fault 43 = .ok (.aload_n 0, 1) := by decide +kernel
theorem dX10_fault_44 : decode cX10_fault 44 = .ok (.dup, 1) := by decide +kernel
theorem dX10_fault_45 : decode cX10_fault 45 = .ok (.getfield 82, 3) := by decide +kernel
theorem dX10_fault_48 : decode cX10_fault 48 = .ok (.iconst 1, 1) := by decide +kernel
theorem dX10_fault_49 : decode cX10_fault 49 = .ok (.iadd, 1) := by decide +kernel
theorem dX10_fault_50 : decode cX10_fault 50 = .ok (.putfield 82, 3) := by decide +kernel
theorem dX10_fault_53 : decode cX10_fault 53 = .ok (.aload_n 0, 1) := by decide +kernel
theorem dX10_fault_54 : decode cX10_fault 54 = .ok (.aload_n 0, 1) := by decide +kernel
theorem dX10_fault_55 : decode cX10_fault 55 = .ok (.getfield 7, 3) := by decide +kernel
theorem dX10_fault_58 : decode cX10_fault 58 = .ok (.iload_n 1, 1) := by decide +kernel
theorem dX10_fault_59 : decode cX10_fault 59 = .ok (.iaload, 1) := by decide +kernel
theorem dX10_fault_60 : decode cX10_fault 60 = .ok (.invokevirtual 111, 3) := by decide +kernel
theorem dX10_fault_63 : decode cX10_fault 63 = .ok (.ifCond .eq 12, 3) := by decide +kernel
theorem dX10_fault_66 : decode cX10_fault 66 = .ok (.aload_n 0, 1) := by decide +kernel
theorem dX10_fault_67 : decode cX10_fault 67 = .ok (.bipush 59, 2) := by decide +kernel
theorem dX10_fault_69 : decode cX10_fault 69 = .ok (.invokevirtual 97, 3) := by decide +kernel
theorem dX10_fault_72 : decode cX10_fault 72 = .ok (.ifCond .ne 5, 3) := by decide +kernel
theorem dX10_fault_75 : decode cX10_fault 75 = .ok (.iload_n 1, 1) := by decide +kernel
theorem dX10_fault_76 : decode cX10_fault 76 = .ok (.ireturn, 1) := by decide +kernel
theorem dX10_fault_77 : decode cX10_fault 77 = .ok (.goto (-50), 3) := by decide +kernel
theorem dX10_fault_80 : decode cX10_fault 80 = .ok (.bipush (-4), 2) := by decide +kernel
theorem dX10_fault_82 : decode cX10_fault 82 = .ok (.ireturn, 1) := by decide +kernel
theorem dX10_lay_0 : decode cX10_lay 0 = .ok (.aload_n 0, 1) := by decide +kernel
theorem dX10_lay_1 : decode cX10_lay 1 = .ok (.invokevirtual 114, 3) := by decide +kernel
theorem dX10_lay_4 : decode cX10_lay 4 = .ok (.bipush (-4), 2) := by decide +kernel
theorem dX10_lay_6 : decode cX10_lay 6 = .ok (.if_icmp .ne 25, 3) := by decide +kernel
theorem dX10_lay_9 : decode cX10_lay 9 = .ok (.aload_n 0, 1) := by decide +kernel
theorem dX10_lay_10 : decode cX10_lay 10 = .ok (.getfield 16, 3) := by decide +kernel
theorem dX10_lay_13 : decode cX10_lay 13 = .ok (.sipush 164, 3) := by decide +kernel
theorem dX10_lay_16 : decode cX10_lay 16 = .ok (.iaload, 1) := by decide +kernel
theorem dX10_lay_17 : decode cX10_lay 17 = .ok (.ifCond .eq 14, 3) := by decide +kernel
theorem dX10_lay_20 : decode cX10_lay 20 = .ok (.aload_n 0, 1) := by decide +kernel
theorem dX10_lay_21 : decode cX10_lay 21 = .ok (.getfield 16, 3) := by decide +kernel
theorem dX10_lay_24 : decode cX10_lay 24 = .ok (.sipush 165, 3) := by decide +kernel
theorem dX10_lay_27 : decode cX10_lay 27 = .ok (.iaload, 1) := by decide +kernel
theorem dX10_lay_28 : decode cX10_lay 28 = .ok (.ifCond .ne 6, 3) := by decide +kernel
theorem dX10_lay_31 : decode cX10_lay 31 = .ok (.bipush (-2), 2) := by decide +kernel
theorem dX10_lay_33 : decode cX10_lay 33 = .ok (.ireturn, 1) := by decide +kernel
theorem dX10_lay_34 : decode cX10_lay 34 = .ok (.iconst 0, 1) := by decide +kernel
theorem dX10_lay_35 : decode cX10_lay 35 = .ok (.istore_n 1, 1) := by decide +kernel
theorem dX10_lay_36 : decode cX10_lay 36 = .ok (.iload_n 1, 1) := by decide +kernel
theorem dX10_lay_37 : decode cX10_lay 37 = .ok (.sipush 167, 3) := by decide +kernel
theorem dX10_lay_40 : decode cX10_lay 40 = .ok (.if_icmp .ge 21, 3) := by decide +kernel
theorem dX10_lay_43 : decode cX10_lay 43 = .ok (.aload_n 0, 1) := by decide +kernel
theorem dX10_lay_44 : decode cX10_lay 44 = .ok (.getfield 13, 3) := by decide +kernel
theorem dX10_lay_47 : decode cX10_lay 47 = .ok (.iload_n 1, 1) := by decide +kernel
theorem dX10_lay_48 : decode cX10_lay 48 = .ok (.aload_n 0, 1) := by decide +kernel
theorem dX10_lay_49 : decode cX10_lay 49 = .ok (.getfield 16, 3) := by decide +kernel
theorem dX10_lay_52 : decode cX10_lay 52 = .ok (.iload_n 1, 1) := by decide +kernel
theorem dX10_lay_53 : decode cX10_lay 53 = .ok (.iaload, 1) := by decide +kernel
theorem dX10_lay_54 : decode cX10_lay 54 = .ok (.iastore, 1) := by decide +kernel
theorem dX10_lay_55 : decode cX10_lay 55 = .ok (.iinc 1 1, 3) := by decide +kernel
theorem dX10_lay_58 : decode cX10_lay 58 = .ok (.goto (-22), 3) := by decide +kernel
theorem dX10_lay_61 : decode cX10_lay 61 = .ok (.aload_n 0, 1) := by decide +kernel
theorem dX10_lay_62 : decode cX10_lay 62 = .ok (.invokevirtual 64, 3) := by decide +kernel
theorem dX10_lay_65 : decode cX10_lay 65 = .ok (.aload_n 0, 1) := by decide +kernel
theorem dX10_lay_66 : decode cX10_lay 66 = .ok (.getfield 13, 3) := by decide +kernel
theorem dX10_lay_69 : decode cX10_lay 69 = .ok (.sipush 164, 3) := by decide +kernel
theorem dX10_lay_72 : decode cX10_lay 72 = .ok (.iaload, 1) := by decide +kernel
theorem dX10_lay_73 : decode cX10_lay 73 = .ok (.ireturn, 1) := by decide +kernel
theorem dX10_note_0 : decode cX10_note 0 = .ok (.aload_n 0, 1) := by decide +kernel
theorem dX10_note_1 : decode cX10_note 1 = .ok (.getfield 67, 3) := by decide +kernel
theorem dX10_note_4 : decode cX10_note 4 = .ok (.bipush 6, 2) := by decide +kernel
theorem dX10_note_6 : decode cX10_note 6 = .ok (.if_icmp .ne 42, 3) := by decide +kernel
theorem dX10_note_9 : decode cX10_note 9 = .ok (.iconst 0, 1) := by decide +kernel
theorem dX10_note_10 : decode cX10_note 10 = .ok (.istore_n 1, 1) := by decide +kernel
theorem dX10_note_11 : decode cX10_note 11 = .ok (.iload_n 1, 1) := by decide +kernel
theorem dX10_note_12 : decode cX10_note 12 = .ok (.bipush 95, 2) := by decide +kernel
theorem dX10_note_14 : decode cX10_note 14 = .ok (.if_icmp .ge 24, 3) := by decide +kernel
theorem dX10_note_17 : decode cX10_note 17 = .ok (.aload_n 0, 1) := by decide +kernel
theorem dX10_note_18 : decode cX10_note 18 = .ok (.getfield 22, 3) := by decide +kernel
theorem dX10_note_21 : decode cX10_note 21 = .ok (.iload_n 1, 1) := by decide +kernel
theorem dX10_note_22 : decode cX10_note 22 = .ok (.aload_n 0, 1) := by decide +kernel
theorem dX10_note_23 : decode cX10_note 23 = .ok (.getfield 22, 3) := by decide +kernel
theorem dX10_note_26 : decode cX10_note 26 = .ok (.bipush 19, 2) := by decide +kernel
theorem dX10_note_28 : decode cX10_note 28 = .ok (.iload_n 1, 1) := by decide +kernel
theorem dX10_note_29 : decode cX10_note 29 = .ok (.iadd, 1) := by decide +kernel
theorem dX10_note_30 : decode cX10_note 30 = .ok (.iaload, 1) := by decide +kernel
theorem dX10_note_31 : decode cX10_note 31 = .ok (.iastore, 1) := by decide +kernel
theorem dX10_note_32 : decode cX10_note 32 = .ok (.iinc 1 1, 3) := by decide +kernel
theorem dX10_note_35 : decode cX10_note 35 = .ok (.goto (-24), 3) := by decide +kernel
theorem dX10_note_38 : decode cX10_note 38 = .ok (.aload_n 0, 1) := by decide +kernel
theorem dX10_note_39 : decode cX10_note 39 = .ok (.dup, 1) := by decide +kernel
theorem dX10_note_40 : decode cX10_note 40 = .ok (.getfield 67, 3) := by decide +kernel
theorem dX10_note_43 : decode cX10_note 43 = .ok (.iconst 1, 1) := by decide +kernel
theorem dX10_note_44 : decode cX10_note 44 = .ok (.isub, 1) := by decide +kernel
theorem dX10_note_45 : decode cX10_note 45 = .ok (.putfield 67, 3) := by decide +kernel
theorem dX10_note_48 : decode cX10_note 48 = .ok (.iconst 0, 1) := by decide +kernel
theorem dX10_note_49 : decode cX10_note 49 = .ok (.istore_n 1, 1) := by decide +kernel
theorem dX10_note_50 : decode cX10_note 50 = .ok (.iload_n 1, 1) := by decide +kernel
theorem dX10_note_51 : decode cX10_note 51 = .ok (.bipush 19, 2) := by decide +kernel
theorem dX10_note_53 : decode cX10_note 53 = .ok (.if_icmp .ge 29, 3) := by decide +kernel
theorem dX10_note_56 : decode cX10_note 56 = .ok (.aload_n 0, 1) := by decide +kernel
theorem dX10_note_57 : decode cX10_note 57 = .ok (.getfield 22, 3) := by decide +kernel
theorem dX10_note_60 : decode cX10_note 60 = .ok (.bipush 19, 2) := by decide +kernel
theorem dX10_note_62 : decode cX10_note 62 = .ok (.aload_n 0, 1) := by decide +kernel
theorem dX10_note_63 : decode cX10_note 63 = .ok (.getfield 67, 3) := by decide +kernel
theorem dX10_note_66 : decode cX10_note 66 = .ok (.imul, 1) := by decide +kernel
theorem dX10_note_67 : decode cX10_note 67 = .ok (.iload_n 1, 1) := by decide +kernel
theorem dX10_note_68 : decode cX10_note 68 = .ok (.iadd, 1) := by decide +kernel
theorem dX10_note_69 : decode cX10_note 69 = .ok (.aload_n 0, 1) := by decide +kernel
theorem dX10_note_70 : decode cX10_note 70 = .ok (.getfield 19, 3) := by decide +kernel
theorem dX10_note_73 : decode cX10_note 73 = .ok (.iload_n 1, 1) := by decide +kernel
theorem dX10_note_74 : decode cX10_note 74 = .ok (.iaload, 1) := by decide +kernel
theorem dX10_note_75 : decode cX10_note 75 = .ok (.iastore, 1) := by decide +kernel
theorem dX10_note_76 : decode cX10_note 76 = .ok (.iinc 1 1, 3) := by decide +kernel
theorem dX10_note_79 : decode cX10_note 79 = .ok (.goto (-29), 3) := by decide +kernel
theorem dX10_note_82 : decode cX10_note 82 = .ok (.aload_n 0, 1) := by decide +kernel
theorem dX10_note_83 : decode cX10_note 83 = .ok (.dup, 1) := by decide +kernel
theorem dX10_note_84 : decode cX10_note 84 = .ok (.getfield 67, 3) := by decide +kernel
theorem dX10_note_87 : decode cX10_note 87 = .ok (.iconst 1, 1) := by decide +kernel
theorem dX10_note_88 : decode cX10_note 88 = .ok (.iadd, 1) := by decide +kernel
theorem dX10_note_89 : decode cX10_note 89 = .ok (.putfield 67, 3) := by decide +kernel
theorem dX10_note_92 : decode cX10_note 92 = .ok (.return_, 1) := by decide +kernel
theorem dX10_undo_0 : decode cX10_undo 0 = .ok (.aload_n 0, 1) := by decide +kernel
theorem dX10_undo_1 : decode cX10_undo 1 = .ok (.getfield 67, 3) := by decide +kernel
theorem dX10_undo_4 : decode cX10_undo 4 = .ok (.ifCond .ne 6, 3) := by decide +kernel
theorem dX10_undo_7 : decode cX10_undo 7 = .ok (.bipush (-2), 2) := by decide +kernel
theorem dX10_undo_9 : decode cX10_undo 9 = .ok (.ireturn, 1) := by decide +kernel
theorem dX10_undo_10 : decode cX10_undo 10 = .ok (.aload_n 0, 1) := by decide +kernel
theorem dX10_undo_11 : decode cX10_undo 11 = .ok (.dup, 1) := by decide +kernel
theorem dX10_undo_12 : decode cX10_undo 12 = .ok (.getfield 67, 3) := by decide +kernel
theorem dX10_undo_15 : decode cX10_undo 15 = .ok (.iconst 1, 1) := by decide +kernel
theorem dX10_undo_16 : decode cX10_undo 16 = .ok (.isub, 1) := by decide +kernel
theorem dX10_undo_17 : decode cX10_undo 17 = .ok (.putfield 67, 3) := by decide +kernel
theorem dX10_undo_20 : decode cX10_undo 20 = .ok (.iconst 0, 1) := by decide +kernel
theorem dX10_undo_21 : decode cX10_undo 21 = .ok (.istore_n 1, 1) := by decide +kernel
theorem dX10_undo_22 : decode cX10_undo 22 = .ok (.iload_n 1, 1) := by decide +kernel
theorem dX10_undo_23 : decode cX10_undo 23 = .ok (.bipush 19, 2) := by decide +kernel
theorem dX10_undo_25 : decode cX10_undo 25 = .ok (.if_icmp .ge 29, 3) := by decide +kernel
theorem dX10_undo_28 : decode cX10_undo 28 = .ok (.aload_n 0, 1) := by decide +kernel
theorem dX10_undo_29 : decode cX10_undo 29 = .ok (.getfield 19, 3) := by decide +kernel
theorem dX10_undo_32 : decode cX10_undo 32 = .ok (.iload_n 1, 1) := by decide +kernel
theorem dX10_undo_33 : decode cX10_undo 33 = .ok (.aload_n 0, 1) := by decide +kernel
theorem dX10_undo_34 : decode cX10_undo 34 = .ok (.getfield 22, 3) := by decide +kernel
theorem dX10_undo_37 : decode cX10_undo 37 = .ok (.bipush 19, 2) := by decide +kernel
theorem dX10_undo_39 : decode cX10_undo 39 = .ok (.aload_n 0, 1) := by decide +kernel
theorem dX10_undo_40 : decode cX10_undo 40 = .ok (.getfield 67, 3) := by decide +kernel
theorem dX10_undo_43 : decode cX10_undo 43 = .ok (.imul, 1) := by decide +kernel
theorem dX10_undo_44 : decode cX10_undo 44 = .ok (.iload_n 1, 1) := by decide +kernel
theorem dX10_undo_45 : decode cX10_undo 45 = .ok (.iadd, 1) := by decide +kernel
theorem dX10_undo_46 : decode cX10_undo 46 = .ok (.iaload, 1) := by decide +kernel
theorem dX10_undo_47 : decode cX10_undo 47 = .ok (.iastore, 1) := by decide +kernel
theorem dX10_undo_48 : decode cX10_undo 48 = .ok (.iinc 1 1, 3) := by decide +kernel
theorem dX10_undo_51 : decode cX10_undo 51 = .ok (.goto (-29), 3) := by decide +kernel
theorem dX10_undo_54 : decode cX10_undo 54 = .ok (.aload_n 0, 1) := by decide +kernel
theorem dX10_undo_55 : decode cX10_undo 55 = .ok (.getfield 67, 3) := by decide +kernel
theorem dX10_undo_58 : decode cX10_undo 58 = .ok (.ireturn, 1) := by decide +kernel
