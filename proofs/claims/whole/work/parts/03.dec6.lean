theorem dX10_leasts_0 : decode cX10_leasts 0 = .ok (.aload_n 0, 1) := by decide +kernel
theorem dX10_leasts_1 : decode cX10_leasts 1 = .ok (.iload_n 1, 1) := by decide +kernel
theorem dX10_leasts_2 : decode cX10_leasts 2 = .ok (.invokevirtual 174, 3) := by decide +kernel
theorem dX10_leasts_5 : decode cX10_leasts 5 = .ok (.iconst 1, 1) := by decide +kernel
theorem dX10_leasts_6 : decode cX10_leasts 6 = .ok (.istore_n 2, 1) := by decide +kernel
theorem dX10_leasts_7 : decode cX10_leasts 7 = .ok (.iload_n 2, 1) := by decide +kernel
theorem dX10_leasts_8 : decode cX10_leasts 8 = .ok (.bipush 10, 2) := by decide +kernel
theorem dX10_leasts_10 : decode cX10_leasts 10 = .ok (.if_icmp .ge 22, 3) := by decide +kernel
theorem dX10_leasts_13 : decode cX10_leasts 13 = .ok (.aload_n 0, 1) := by decide +kernel
theorem dX10_leasts_14 : decode cX10_leasts 14 = .ok (.getfield 34, 3) := by decide +kernel
theorem dX10_leasts_17 : decode cX10_leasts 17 = .ok (.sipush 512, 3) := by decide +kernel
theorem dX10_leasts_20 : decode cX10_leasts 20 = .ok (.iload_n 2, 1) := by decide +kernel
theorem dX10_leasts_21 : decode cX10_leasts 21 = .ok (.imul, 1) := by decide +kernel
theorem dX10_leasts_22 : decode cX10_leasts 22 = .ok (.iaload, 1) := by decide +kernel
theorem dX10_leasts_23 : decode cX10_leasts 23 = .ok (.ifCond .ge 9, 3) := by decide +kernel
theorem dX10_leasts_26 : decode cX10_leasts 26 = .ok (.iinc 2 1, 3) := by decide +kernel
theorem dX10_leasts_29 : decode cX10_leasts 29 = .ok (.goto (-22), 3) := by decide +kernel
theorem dX10_leasts_32 : decode cX10_leasts 32 = .ok (.iload_n 2, 1) := by decide +kernel
theorem dX10_leasts_33 : decode cX10_leasts 33 = .ok (.bipush 10, 2) := by decide +kernel
theorem dX10_leasts_35 : decode cX10_leasts 35 = .ok (.if_icmp .ne 6, 3) := by decide +kernel
theorem dX10_leasts_38 : decode cX10_leasts 38 = .ok (.bipush (-4), 2) := by decide +kernel
theorem dX10_leasts_40 : decode cX10_leasts 40 = .ok (.ireturn, 1) := by decide +kernel
theorem dX10_leasts_41 : decode cX10_leasts 41 = .ok (.aload_n 0, 1) := by decide +kernel
theorem dX10_leasts_42 : decode cX10_leasts 42 = .ok (.aload_n 0, 1) := by decide +kernel
theorem dX10_leasts_43 : decode cX10_leasts 43 = .ok (.iload_n 1, 1) := by decide +kernel
theorem dX10_leasts_44 : decode cX10_leasts 44 = .ok (.invokevirtual 137, 3) := by decide +kernel
theorem dX10_leasts_47 : decode cX10_leasts 47 = .ok (.aload_n 0, 1) := by decide +kernel
theorem dX10_leasts_48 : decode cX10_leasts 48 = .ok (.getfield 34, 3) := by decide +kernel
theorem dX10_leasts_51 : decode cX10_leasts 51 = .ok (.sipush 512, 3) := by decide +kernel
theorem dX10_leasts_54 : decode cX10_leasts 54 = .ok (.iload_n 2, 1) := by decide +kernel
theorem dX10_leasts_55 : decode cX10_leasts 55 = .ok (.imul, 1) := by decide +kernel
theorem dX10_leasts_56 : decode cX10_leasts 56 = .ok (.iaload, 1) := by decide +kernel
theorem dX10_leasts_57 : decode cX10_leasts 57 = .ok (.isub, 1) := by decide +kernel
theorem dX10_leasts_58 : decode cX10_leasts 58 = .ok (.putfield 177, 3) := by decide +kernel
theorem dX10_leasts_61 : decode cX10_leasts 61 = .ok (.iconst 0, 1) := by decide +kernel
theorem dX10_leasts_62 : decode cX10_leasts 62 = .ok (.istore_n 3, 1) := by decide +kernel
theorem dX10_leasts_63 : decode cX10_leasts 63 = .ok (.iconst 0, 1) := by decide +kernel
theorem dX10_leasts_64 : decode cX10_leasts 64 = .ok (.istore 4, 2) := by decide +kernel
theorem dX10_leasts_66 : decode cX10_leasts 66 = .ok (.iload 4, 2) := by decide +kernel
theorem dX10_leasts_68 : decode cX10_leasts 68 = .ok (.iload_n 2, 1) := by decide +kernel
theorem dX10_leasts_69 : decode cX10_leasts 69 = .ok (.if_icmp .ge 143, 3) := by decide +kernel
theorem dX10_leasts_72 : decode cX10_leasts 72 = .ok (.aload_n 0, 1) := by decide +kernel
theorem dX10_leasts_73 : decode cX10_leasts 73 = .ok (.getfield 34, 3) := by decide +kernel
theorem dX10_leasts_76 : decode cX10_leasts 76 = .ok (.sipush 512, 3) := by decide +kernel
theorem dX10_leasts_79 : decode cX10_leasts 79 = .ok (.iload_n 2, 1) := by decide +kernel
theorem dX10_leasts_80 : decode cX10_leasts 80 = .ok (.iload 4, 2) := by decide +kernel
theorem dX10_leasts_82 : decode cX10_leasts 82 = .ok (.isub, 1) := by decide +kernel
theorem dX10_leasts_83 : decode cX10_leasts 83 = .ok (.imul, 1) := by decide +kernel
theorem dX10_leasts_84 : decode cX10_leasts 84 = .ok (.iload_n 3, 1) := by decide +kernel
theorem dX10_leasts_85 : decode cX10_leasts 85 = .ok (.iadd, 1) := by decide +kernel
theorem dX10_leasts_86 : decode cX10_leasts 86 = .ok (.iaload, 1) := by decide +kernel
theorem dX10_leasts_87 : decode cX10_leasts 87 = .ok (.istore 5, 2) := by decide +kernel
theorem dX10_leasts_89 : decode cX10_leasts 89 = .ok (.iconst 0, 1) := by decide +kernel
theorem dX10_leasts_90 : decode cX10_leasts 90 = .ok (.istore 6, 2) := by decide +kernel
theorem dX10_leasts_92 : decode cX10_leasts 92 = .ok (.aload_n 0, 1) := by decide +kernel
theorem dX10_leasts_93 : decode cX10_leasts 93 = .ok (.getfield 31, 3) := by decide +kernel
theorem dX10_leasts_96 : decode cX10_leasts 96 = .ok (.bipush 12, 2) := by decide +kernel
theorem dX10_leasts_98 : decode cX10_leasts 98 = .ok (.iload_n 3, 1) := by decide +kernel
theorem dX10_leasts_99 : decode cX10_leasts 99 = .ok (.imul, 1) := by decide +kernel
theorem dX10_leasts_100 : decode cX10_leasts 100 = .ok (.iload 6, 2) := by decide +kernel
theorem dX10_leasts_102 : decode cX10_leasts 102 = .ok (.iadd, 1) := by decide +kernel
theorem dX10_leasts_103 : decode cX10_leasts 103 = .ok (.iaload, 1) := by decide +kernel
theorem dX10_leasts_104 : decode cX10_leasts 104 = .ok (.ifCond .lt 74, 3) := by decide +kernel
theorem dX10_leasts_107 : decode cX10_leasts 107 = .ok (.aload_n 0, 1) := by decide +kernel
theorem dX10_leasts_108 : decode cX10_leasts 108 = .ok (.getfield 34, 3) := by decide +kernel
theorem dX10_leasts_111 : decode cX10_leasts 111 = .ok (.sipush 512, 3) := by decide +kernel
theorem dX10_leasts_114 : decode cX10_leasts 114 = .ok (.iload_n 2, 1) := by decide +kernel
theorem dX10_leasts_115 : decode cX10_leasts 115 = .ok (.iload 4, 2) := by decide +kernel
theorem dX10_leasts_117 : decode cX10_leasts 117 = .ok (.isub, 1) := by decide +kernel
theorem dX10_leasts_118 : decode cX10_leasts 118 = .ok (.iconst 1, 1) := by decide +kernel
theorem dX10_leasts_119 : decode cX10_leasts 119 = .ok (.isub, 1) := by decide +kernel
theorem dX10_leasts_120 : decode cX10_leasts 120 = .ok (.imul, 1) := by decide +kernel
theorem dX10_leasts_121 : decode cX10_leasts 121 = .ok (.aload_n 0, 1) := by decide +kernel
theorem dX10_leasts_122 : decode cX10_leasts 122 = .ok (.getfield 31, 3) := by decide +kernel
theorem dX10_leasts_125 : decode cX10_leasts 125 = .ok (.bipush 12, 2) := by decide +kernel
theorem dX10_leasts_127 : decode cX10_leasts 127 = .ok (.iload_n 3, 1) := by decide +kernel
theorem dX10_leasts_128 : decode cX10_leasts 128 = .ok (.imul, 1) := by decide +kernel
theorem dX10_leasts_129 : decode cX10_leasts 129 = .ok (.iload 6, 2) := by decide +kernel
theorem dX10_leasts_131 : decode cX10_leasts 131 = .ok (.iadd, 1) := by decide +kernel
theorem dX10_leasts_132 : decode cX10_leasts 132 = .ok (.iaload, 1) := by decide +kernel
theorem dX10_leasts_133 : decode cX10_leasts 133 = .ok (.iadd, 1) := by decide +kernel
theorem dX10_leasts_134 : decode cX10_leasts 134 = .ok (.iaload, 1) := by decide +kernel
theorem dX10_leasts_135 : decode cX10_leasts 135 = .ok (.ifCond .lt 43, 3) := by decide +kernel
theorem dX10_leasts_138 : decode cX10_leasts 138 = .ok (.aload_n 0, 1) := by decide +kernel
theorem dX10_leasts_139 : decode cX10_leasts 139 = .ok (.getfield 34, 3) := by decide +kernel
theorem dX10_leasts_142 : decode cX10_leasts 142 = .ok (.sipush 512, 3) := by decide +kernel
theorem dX10_leasts_145 : decode cX10_leasts 145 = .ok (.iload_n 2, 1) := by decide +kernel
theorem dX10_leasts_146 : decode cX10_leasts 146 = .ok (.iload 4, 2) := by decide +kernel
theorem dX10_leasts_148 : decode cX10_leasts 148 = .ok (.isub, 1) := by decide +kernel
theorem dX10_leasts_149 : decode cX10_leasts 149 = .ok (.iconst 1, 1) := by decide +kernel
theorem dX10_leasts_150 : decode cX10_leasts 150 = .ok (.isub, 1) := by decide +kernel
theorem dX10_leasts_151 : decode cX10_leasts 151 = .ok (.imul, 1) := by decide +kernel
theorem dX10_leasts_152 : decode cX10_leasts 152 = .ok (.aload_n 0, 1) := by decide +kernel
theorem dX10_leasts_153 : decode cX10_leasts 153 = .ok (.getfield 31, 3) := by decide +kernel
theorem dX10_leasts_156 : decode cX10_leasts 156 = .ok (.bipush 12, 2) := by decide +kernel
theorem dX10_leasts_158 : decode cX10_leasts 158 = .ok (.iload_n 3, 1) := by decide +kernel
theorem dX10_leasts_159 : decode cX10_leasts 159 = .ok (.imul, 1) := by decide +kernel
theorem dX10_leasts_160 : decode cX10_leasts 160 = .ok (.iload 6, 2) := by decide +kernel
theorem dX10_leasts_162 : decode cX10_leasts 162 = .ok (.iadd, 1) := by decide +kernel
theorem dX10_leasts_163 : decode cX10_leasts 163 = .ok (.iaload, 1) := by decide +kernel
theorem dX10_leasts_164 : decode cX10_leasts 164 = .ok (.iadd, 1) := by decide +kernel
theorem dX10_leasts_165 : decode cX10_leasts 165 = .ok (.iaload, 1) := by decide +kernel
theorem dX10_leasts_166 : decode cX10_leasts 166 = .ok (.aload_n 0, 1) := by decide +kernel
theorem dX10_leasts_167 : decode cX10_leasts 167 = .ok (.iload 6, 2) := by decide +kernel
theorem dX10_leasts_169 : decode cX10_leasts 169 = .ok (.invokevirtual 134, 3) := by decide +kernel
theorem dX10_leasts_172 : decode cX10_leasts 172 = .ok (.iadd, 1) := by decide +kernel
theorem dX10_leasts_173 : decode cX10_leasts 173 = .ok (.iload 5, 2) := by decide +kernel
theorem dX10_leasts_175 : decode cX10_leasts 175 = .ok (.if_icmp .eq 9, 3) := by decide +kernel
theorem dX10_leasts_178 : decode cX10_leasts 178 = .ok (.iinc 6 1, 3) := by decide +kernel
theorem dX10_leasts_181 : decode cX10_leasts 181 = .ok (.goto (-89), 3) := by decide +kernel
theorem dX10_leasts_184 : decode cX10_leasts 184 = .ok (.aload_n 0, 1) := by decide +kernel
theorem dX10_leasts_185 : decode cX10_leasts 185 = .ok (.getfield 37, 3) := by decide +kernel
theorem dX10_leasts_188 : decode cX10_leasts 188 = .ok (.iload 4, 2) := by decide +kernel
theorem dX10_leasts_190 : decode cX10_leasts 190 = .ok (.iload 6, 2) := by decide +kernel
theorem dX10_leasts_192 : decode cX10_leasts 192 = .ok (.iastore, 1) := by decide +kernel
theorem dX10_leasts_193 : decode cX10_leasts 193 = .ok (.aload_n 0, 1) := by decide +kernel
theorem dX10_leasts_194 : decode cX10_leasts 194 = .ok (.getfield 31, 3) := by decide +kernel
theorem dX10_leasts_197 : decode cX10_leasts 197 = .ok (.bipush 12, 2) := by decide +kernel
theorem dX10_leasts_199 : decode cX10_leasts 199 = .ok (.iload_n 3, 1) := by decide +kernel
theorem dX10_leasts_200 : decode cX10_leasts 200 = .ok (.imul, 1) := by decide +kernel
theorem dX10_leasts_201 : decode cX10_leasts 201 = .ok (.iload 6, 2) := by decide +kernel
theorem dX10_leasts_203 : decode cX10_leasts 203 = .ok (.iadd, 1) := by decide +kernel
theorem dX10_leasts_204 : decode cX10_leasts 204 = .ok (.iaload, 1) := by decide +kernel
theorem dX10_leasts_205 : decode cX10_leasts 205 = .ok (.istore_n 3, 1) := by decide +kernel
theorem dX10_leasts_206 : decode cX10_leasts 206 = .ok (.iinc 4 1, 3) := by decide +kernel
theorem dX10_leasts_209 : decode cX10_leasts 209 = .ok (.goto (-143), 3) := by decide +kernel
theorem dX10_leasts_212 : decode cX10_leasts 212 = .ok (.iload_n 2, 1) := by decide +kernel
theorem dX10_leasts_213 : decode cX10_leasts 213 = .ok (.ireturn, 1) := by decide +kernel
theorem dX10_markOf_0 : decode cX10_markOf 0 = .ok (.iconst 0, 1) := by decide +kernel
theorem dX10_markOf_1 : decode cX10_markOf 1 = .ok (.istore_n 2, 1) := by decide +kernel
theorem dX10_markOf_2 : decode cX10_markOf 2 = .ok (.iload_n 2, 1) := by decide +kernel
theorem dX10_markOf_3 : decode cX10_markOf 3 = .ok (.aload_n 0, 1) := by decide +kernel
theorem dX10_markOf_4 : decode cX10_markOf 4 = .ok (.getfield 13, 3) := by decide +kernel
theorem dX10_markOf_7 : decode cX10_markOf 7 = .ok (.sipush 164, 3) := by decide +kernel
theorem dX10_markOf_10 : decode cX10_markOf 10 = .ok (.iaload, 1) := by decide +kernel
theorem dX10_markOf_11 : decode cX10_markOf 11 = .ok (.if_icmp .ge 47, 3) := by decide +kernel
theorem dX10_markOf_14 : decode cX10_markOf 14 = .ok (.aload_n 0, 1) := by decide +kernel
theorem dX10_markOf_15 : decode cX10_markOf 15 = .ok (.getfield 13, 3) := by decide +kernel
theorem dX10_markOf_18 : decode cX10_markOf 18 = .ok (.bipush 7, 2) := by decide +kernel
theorem dX10_markOf_20 : decode cX10_markOf 20 = .ok (.iload_n 2, 1) := by decide +kernel
theorem dX10_markOf_21 : decode cX10_markOf 21 = .ok (.imul, 1) := by decide +kernel
theorem dX10_markOf_22 : decode cX10_markOf 22 = .ok (.iaload, 1) := by decide +kernel
theorem dX10_markOf_23 : decode cX10_markOf 23 = .ok (.iconst 2, 1) := by decide +kernel
theorem dX10_markOf_24 : decode cX10_markOf 24 = .ok (.if_icmp .ne 28, 3) := by decide +kernel
theorem dX10_markOf_27 : decode cX10_markOf 27 = .ok (.aload_n 0, 1) := by decide +kernel
theorem dX10_markOf_28 : decode cX10_markOf 28 = .ok (.getfield 13, 3) := by decide +kernel
theorem dX10_markOf_31 : decode cX10_markOf 31 = .ok (.bipush 7, 2) := by decide +kernel
theorem dX10_markOf_33 : decode cX10_markOf 33 = .ok (.iload_n 2, 1) := by decide +kernel
theorem dX10_markOf_34 : decode cX10_markOf 34 = .ok (.imul, 1) := by decide +kernel
theorem dX10_markOf_35 : decode cX10_markOf 35 = .ok (.iconst 1, 1) := by decide +kernel
theorem dX10_markOf_36 : decode cX10_markOf 36 = .ok (.iadd, 1) := by decide +kernel
theorem dX10_markOf_37 : decode cX10_markOf 37 = .ok (.iaload, 1) := by decide +kernel
theorem dX10_markOf_38 : decode cX10_markOf 38 = .ok (.iload_n 1, 1) := by decide +kernel
theorem dX10_markOf_39 : decode cX10_markOf 39 = .ok (.if_icmp .ne 13, 3) := by decide +kernel
theorem dX10_markOf_42 : decode cX10_markOf 42 = .ok (.aload_n 0, 1) := by decide +kernel
theorem dX10_markOf_43 : decode cX10_markOf 43 = .ok (.iload_n 2, 1) := by decide +kernel
theorem dX10_markOf_44 : decode cX10_markOf 44 = .ok (.invokevirtual 121, 3) := by decide +kernel
theorem dX10_markOf_47 : decode cX10_markOf 47 = .ok (.ifCond .ne 5, 3) := by decide +kernel
theorem dX10_markOf_50 : decode cX10_markOf 50 = .ok (.iload_n 2, 1) := by decide +kernel
theorem dX10_markOf_51 : decode cX10_markOf 51 = .ok (.ireturn, 1) := by decide +kernel
theorem dX10_markOf_52 : decode cX10_markOf 52 = .ok (.iinc 2 1, 3) := by decide +kernel
theorem dX10_markOf_55 : decode cX10_markOf 55 = .ok (.goto (-53), 3) := by decide +kernel
theorem dX10_markOf_58 : decode cX10_markOf 58 = .ok (.bipush (-4), 2) := by decide +kernel
theorem dX10_markOf_60 : decode cX10_markOf 60 = .ok (.ireturn, 1) := by decide +kernel
theorem dX10_clear_0 : decode cX10_clear 0 = .ok (.aload_n 0, 1) := by decide +kernel
theorem dX10_clear_1 : decode cX10_clear 1 = .ok (.iload_n 1, 1) := by decide +kernel
theorem dX10_clear_2 : decode cX10_clear 2 = .ok (.invokevirtual 180, 3) := by decide +kernel
theorem dX10_clear_5 : decode cX10_clear 5 = .ok (.istore_n 2, 1) := by decide +kernel
theorem dX10_clear_6 : decode cX10_clear 6 = .ok (.iload_n 2, 1) := by decide +kernel
theorem dX10_clear_7 : decode cX10_clear 7 = .ok (.bipush (-4), 2) := by decide +kernel
theorem dX10_clear_9 : decode cX10_clear 9 = .ok (.if_icmp .ne 5, 3) := by decide +kernel
theorem dX10_clear_12 : decode cX10_clear 12 = .ok (.iconst 0, 1) := by decide +kernel
theorem dX10_clear_13 : decode cX10_clear 13 = .ok (.ireturn, 1) := by decide +kernel
theorem dX10_clear_14 : decode cX10_clear 14 = .ok (.aload_n 0, 1) := by decide +kernel
theorem dX10_clear_15 : decode cX10_clear 15 = .ok (.aload_n 0, 1) := by decide +kernel
theorem dX10_clear_16 : decode cX10_clear 16 = .ok (.getfield 37, 3) := by decide +kernel
theorem dX10_clear_19 : decode cX10_clear 19 = .ok (.iconst 0, 1) := by decide +kernel
theorem dX10_clear_20 : decode cX10_clear 20 = .ok (.iload_n 2, 1) := by decide +kernel
theorem dX10_clear_21 : decode cX10_clear 21 = .ok (.invokevirtual 183, 3) := by decide +kernel
theorem dX10_clear_24 : decode cX10_clear 24 = .ok (.iconst 1, 1) := by decide +kernel
theorem dX10_clear_25 : decode cX10_clear 25 = .ok (.iload_n 1, 1) := by decide +kernel
theorem dX10_clear_26 : decode cX10_clear 26 = .ok (.ishl, 1) := by decide +kernel
theorem dX10_clear_27 : decode cX10_clear 27 = .ok (.if_icmp .ne 5, 3) := by decide +kernel
theorem dX10_clear_30 : decode cX10_clear 30 = .ok (.iconst 1, 1) := by decide +kernel
theorem dX10_clear_31 : decode cX10_clear 31 = .ok (.ireturn, 1) := by decide +kernel
theorem dX10_clear_32 : decode cX10_clear 32 = .ok (.aload_n 0, 1) := by decide +kernel
theorem dX10_clear_33 : decode cX10_clear 33 = .ok (.aload_n 0, 1) := by decide +kernel
theorem dX10_clear_34 : decode cX10_clear 34 = .ok (.getfield 13, 3) := by decide +kernel
theorem dX10_clear_37 : decode cX10_clear 37 = .ok (.bipush 84, 2) := by decide +kernel
theorem dX10_clear_39 : decode cX10_clear 39 = .ok (.bipush 10, 2) := by decide +kernel
theorem dX10_clear_41 : decode cX10_clear 41 = .ok (.iload_n 1, 1) := by decide +kernel
theorem dX10_clear_42 : decode cX10_clear 42 = .ok (.imul, 1) := by decide +kernel
theorem dX10_clear_43 : decode cX10_clear 43 = .ok (.iadd, 1) := by decide +kernel
theorem dX10_clear_44 : decode cX10_clear 44 = .ok (.iaload, 1) := by decide +kernel
theorem dX10_clear_45 : decode cX10_clear 45 = .ok (.invokevirtual 187, 3) := by decide +kernel
theorem dX10_clear_48 : decode cX10_clear 48 = .ok (.istore_n 3, 1) := by decide +kernel
theorem dX10_clear_49 : decode cX10_clear 49 = .ok (.iload_n 3, 1) := by decide +kernel
theorem dX10_clear_50 : decode cX10_clear 50 = .ok (.bipush (-4), 2) := by decide +kernel
theorem dX10_clear_52 : decode cX10_clear 52 = .ok (.if_icmp .eq 9, 3) := by decide +kernel
theorem dX10_clear_55 : decode cX10_clear 55 = .ok (.iload_n 2, 1) := by decide +kernel
theorem dX10_clear_56 : decode cX10_clear 56 = .ok (.bipush 9, 2) := by decide +kernel
theorem dX10_clear_58 : decode cX10_clear 58 = .ok (.if_icmp .ne 5, 3) := by decide +kernel
theorem dX10_clear_61 : decode cX10_clear 61 = .ok (.iconst 0, 1) := by decide +kernel
theorem dX10_clear_62 : decode cX10_clear 62 = .ok (.ireturn, 1) := by decide +kernel
theorem dX10_clear_63 : decode cX10_clear 63 = .ok (.aload_n 0, 1) := by decide +kernel
theorem dX10_clear_64 : decode cX10_clear 64 = .ok (.getfield 37, 3) := by decide +kernel
theorem dX10_clear_67 : decode cX10_clear 67 = .ok (.iload_n 2, 1) := by decide +kernel
theorem dX10_clear_68 : decode cX10_clear 68 = .ok (.iload_n 3, 1) := by decide +kernel
theorem dX10_clear_69 : decode cX10_clear 69 = .ok (.iastore, 1) := by decide +kernel
theorem dX10_clear_70 : decode cX10_clear 70 = .ok (.aload_n 0, 1) := by decide +kernel
theorem dX10_clear_71 : decode cX10_clear 71 = .ok (.aload_n 0, 1) := by decide +kernel
theorem dX10_clear_72 : decode cX10_clear 72 = .ok (.getfield 37, 3) := by decide +kernel
theorem dX10_clear_75 : decode cX10_clear 75 = .ok (.iconst 0, 1) := by decide +kernel
theorem dX10_clear_76 : decode cX10_clear 76 = .ok (.iload_n 2, 1) := by decide +kernel
theorem dX10_clear_77 : decode cX10_clear 77 = .ok (.iconst 1, 1) := by decide +kernel
theorem dX10_clear_78 : decode cX10_clear 78 = .ok (.iadd, 1) := by decide +kernel
theorem dX10_clear_79 : decode cX10_clear 79 = .ok (.invokevirtual 183, 3) := by decide +kernel
theorem dX10_clear_82 : decode cX10_clear 82 = .ok (.iconst 1, 1) := by decide +kernel
theorem dX10_clear_83 : decode cX10_clear 83 = .ok (.iload_n 1, 1) := by decide +kernel
theorem dX10_clear_84 : decode cX10_clear 84 = .ok (.ishl, 1) := by decide +kernel
theorem dX10_clear_85 : decode cX10_clear 85 = .ok (.if_icmp .ne 7, 3) := by decide +kernel
theorem dX10_clear_88 : decode cX10_clear 88 = .ok (.iconst 2, 1) := by decide +kernel
theorem dX10_clear_89 : decode cX10_clear 89 = .ok (.goto 4, 3) := by decide +kernel
theorem dX10_clear_92 : decode cX10_clear 92 = .ok (.iconst 0, 1) := by decide +kernel
theorem dX10_clear_93 : decode cX10_clear 93 = .ok (.ireturn, 1) := by decide +kernel
theorem dX10_areMixed_0 : decode cX10_areMixed 0 = .ok (.aload_n 0, 1) := by decide +kernel
theorem dX10_areMixed_1 : decode cX10_areMixed 1 = .ok (.iload_n 1, 1) := by decide +kernel
theorem dX10_areMixed_2 : decode cX10_areMixed 2 = .ok (.invokevirtual 180, 3) := by decide +kernel
theorem dX10_areMixed_5 : decode cX10_areMixed 5 = .ok (.istore_n 3, 1) := by decide +kernel
theorem dX10_areMixed_6 : decode cX10_areMixed 6 = .ok (.iconst 0, 1) := by decide +kernel
theorem dX10_areMixed_7 : decode cX10_areMixed 7 = .ok (.istore 4, 2) := by decide +kernel
theorem dX10_areMixed_9 : decode cX10_areMixed 9 = .ok (.iload 4, 2) := by decide +kernel
theorem dX10_areMixed_11 : decode cX10_areMixed 11 = .ok (.bipush 10, 2) := by decide +kernel
theorem dX10_areMixed_13 : decode cX10_areMixed 13 = .ok (.if_icmp .ge 23, 3) := by decide +kernel
theorem dX10_areMixed_16 : decode cX10_areMixed 16 = .ok (.aload_n 0, 1) := by decide +kernel
theorem dX10_areMixed_17 : decode cX10_areMixed 17 = .ok (.getfield 40, 3) := by decide +kernel
theorem dX10_areMixed_20 : decode cX10_areMixed 20 = .ok (.iload 4, 2) := by decide +kernel
theorem dX10_areMixed_22 : decode cX10_areMixed 22 = .ok (.aload_n 0, 1) := by decide +kernel
theorem dX10_areMixed_23 : decode cX10_areMixed 23 = .ok (.getfield 37, 3) := by decide +kernel
theorem dX10_areMixed_26 : decode cX10_areMixed 26 = .ok (.iload 4, 2) := by decide +kernel
theorem dX10_areMixed_28 : decode cX10_areMixed 28 = .ok (.iaload, 1) := by decide +kernel
theorem dX10_areMixed_29 : decode cX10_areMixed 29 = .ok (.iastore, 1) := by decide +kernel
theorem dX10_areMixed_30 : decode cX10_areMixed 30 = .ok (.iinc 4 1, 3) := by decide +kernel
theorem dX10_areMixed_33 : decode cX10_areMixed 33 = .ok (.goto (-24), 3) := by decide +kernel
theorem dX10_areMixed_36 : decode cX10_areMixed 36 = .ok (.aload_n 0, 1) := by decide +kernel
theorem dX10_areMixed_37 : decode cX10_areMixed 37 = .ok (.iload_n 2, 1) := by decide +kernel
theorem dX10_areMixed_38 : decode cX10_areMixed 38 = .ok (.invokevirtual 180, 3) := by decide +kernel
theorem dX10_areMixed_41 : decode cX10_areMixed 41 = .ok (.istore 4, 2) := by decide +kernel
theorem dX10_areMixed_43 : decode cX10_areMixed 43 = .ok (.iload_n 3, 1) := by decide +kernel
theorem dX10_areMixed_44 : decode cX10_areMixed 44 = .ok (.bipush (-4), 2) := by decide +kernel
theorem dX10_areMixed_46 : decode cX10_areMixed 46 = .ok (.if_icmp .eq 13, 3) := by decide +kernel
theorem dX10_areMixed_49 : decode cX10_areMixed 49 = .ok (.iload_n 3, 1) := by decide +kernel
theorem dX10_areMixed_50 : decode cX10_areMixed 50 = .ok (.iload 4, 2) := by decide +kernel
theorem dX10_areMixed_52 : decode cX10_areMixed 52 = .ok (.if_icmp .ne 7, 3) := by decide +kernel
theorem dX10_areMixed_55 : decode cX10_areMixed 55 = .ok (.iconst 1, 1) := by decide +kernel
theorem dX10_areMixed_56 : decode cX10_areMixed 56 = .ok (.goto 4, 3) := by decide +kernel
theorem dX10_areMixed_59 : decode cX10_areMixed 59 = .ok (.iconst 0, 1) := by decide +kernel
theorem dX10_areMixed_60 : decode cX10_areMixed 60 = .ok (.istore 5, 2) := by decide +kernel
theorem dX10_areMixed_62 : decode cX10_areMixed 62 = .ok (.iconst 0, 1) := by decide +kernel
theorem dX10_areMixed_63 : decode cX10_areMixed 63 = .ok (.istore 6, 2) := by decide +kernel
theorem dX10_areMixed_65 : decode cX10_areMixed 65 = .ok (.iload 6, 2) := by decide +kernel
theorem dX10_areMixed_67 : decode cX10_areMixed 67 = .ok (.iload_n 3, 1) := by decide +kernel
theorem dX10_areMixed_68 : decode cX10_areMixed 68 = .ok (.if_icmp .ge 38, 3) := by decide +kernel
theorem dX10_areMixed_71 : decode cX10_areMixed 71 = .ok (.iload 5, 2) := by decide +kernel
theorem dX10_areMixed_73 : decode cX10_areMixed 73 = .ok (.ifCond .eq 33, 3) := by decide +kernel
theorem dX10_areMixed_76 : decode cX10_areMixed 76 = .ok (.aload_n 0, 1) := by decide +kernel
theorem dX10_areMixed_77 : decode cX10_areMixed 77 = .ok (.getfield 40, 3) := by decide +kernel
theorem dX10_areMixed_80 : decode cX10_areMixed 80 = .ok (.iload 6, 2) := by decide +kernel
theorem dX10_areMixed_82 : decode cX10_areMixed 82 = .ok (.iaload, 1) := by decide +kernel
theorem dX10_areMixed_83 : decode cX10_areMixed 83 = .ok (.aload_n 0, 1) := by decide +kernel
theorem dX10_areMixed_84 : decode cX10_areMixed 84 = .ok (.getfield 37, 3) := by decide +kernel
theorem dX10_areMixed_87 : decode cX10_areMixed 87 = .ok (.iload 6, 2) := by decide +kernel
theorem dX10_areMixed_89 : decode cX10_areMixed 89 = .ok (.iaload, 1) := by decide +kernel
theorem dX10_areMixed_90 : decode cX10_areMixed 90 = .ok (.if_icmp .ne 7, 3) := by decide +kernel
theorem dX10_areMixed_93 : decode cX10_areMixed 93 = .ok (.iconst 1, 1) := by decide +kernel
theorem dX10_areMixed_94 : decode cX10_areMixed 94 = .ok (.goto 4, 3) := by decide +kernel
theorem dX10_areMixed_97 : decode cX10_areMixed 97 = .ok (.iconst 0, 1) := by decide +kernel
theorem dX10_areMixed_98 : decode cX10_areMixed 98 = .ok (.istore 5, 2) := by decide +kernel
theorem dX10_areMixed_100 : decode cX10_areMixed 100 = .ok (.iinc 6 1, 3) := by decide +kernel
theorem dX10_areMixed_103 : decode cX10_areMixed 103 = .ok (.goto (-38), 3) := by decide +kernel
theorem dX10_areMixed_106 : decode cX10_areMixed 106 = .ok (.iload 5, 2) := by decide +kernel
theorem dX10_areMixed_108 : decode cX10_areMixed 108 = .ok (.ireturn, 1) := by decide +kernel
theorem dX10_mixed_0 : decode cX10_mixed 0 = .ok (.iconst 0, 1) := by decide +kernel
theorem dX10_mixed_1 : decode cX10_mixed 1 = .ok (.istore_n 2, 1) := by decide +kernel
theorem dX10_mixed_2 : decode cX10_mixed 2 = .ok (.iconst 0, 1) := by decide +kernel
theorem dX10_mixed_3 : decode cX10_mixed 3 = .ok (.istore_n 3, 1) := by decide +kernel
theorem dX10_mixed_4 : decode cX10_mixed 4 = .ok (.iload_n 3, 1) := by decide +kernel
theorem dX10_mixed_5 : decode cX10_mixed 5 = .ok (.aload_n 0, 1) := by decide +kernel
theorem dX10_mixed_6 : decode cX10_mixed 6 = .ok (.getfield 13, 3) := by decide +kernel
theorem dX10_mixed_9 : decode cX10_mixed 9 = .ok (.sipush 165, 3) := by decide +kernel
theorem dX10_mixed_12 : decode cX10_mixed 12 = .ok (.iaload, 1) := by decide +kernel
theorem dX10_mixed_13 : decode cX10_mixed 13 = .ok (.if_icmp .ge 31, 3) := by decide +kernel
theorem dX10_mixed_16 : decode cX10_mixed 16 = .ok (.iload_n 2, 1) := by decide +kernel
theorem dX10_mixed_17 : decode cX10_mixed 17 = .ok (.iload_n 3, 1) := by decide +kernel
theorem dX10_mixed_18 : decode cX10_mixed 18 = .ok (.iload_n 1, 1) := by decide +kernel
theorem dX10_mixed_19 : decode cX10_mixed 19 = .ok (.if_icmp .eq 16, 3) := by decide +kernel
theorem dX10_mixed_22 : decode cX10_mixed 22 = .ok (.aload_n 0, 1) := by decide +kernel
theorem dX10_mixed_23 : decode cX10_mixed 23 = .ok (.iload_n 1, 1) := by decide +kernel
theorem dX10_mixed_24 : decode cX10_mixed 24 = .ok (.iload_n 3, 1) := by decide +kernel
theorem dX10_mixed_25 : decode cX10_mixed 25 = .ok (.invokevirtual 190, 3) := by decide +kernel
theorem dX10_mixed_28 : decode cX10_mixed 28 = .ok (.ifCond .eq 7, 3) := by decide +kernel
theorem dX10_mixed_31 : decode cX10_mixed 31 = .ok (.iconst 1, 1) := by decide +kernel
theorem dX10_mixed_32 : decode cX10_mixed 32 = .ok (.goto 4, 3) := by decide +kernel
theorem dX10_mixed_35 : decode cX10_mixed 35 = .ok (.iconst 0, 1) := by decide +kernel
theorem dX10_mixed_36 : decode cX10_mixed 36 = .ok (.iadd, 1) := by decide +kernel
theorem dX10_mixed_37 : decode cX10_mixed 37 = .ok (.istore_n 2, 1) := by decide +kernel
theorem dX10_mixed_38 : decode cX10_mixed 38 = .ok (.iinc 3 1, 3) := by decide +kernel
theorem dX10_mixed_41 : decode cX10_mixed 41 = .ok (.goto (-37), 3) := by decide +kernel
theorem dX10_mixed_44 : decode cX10_mixed 44 = .ok (.iload_n 2, 1) := by decide +kernel
theorem dX10_mixed_45 : decode cX10_mixed 45 = .ok (.ireturn, 1) := by decide +kernel
theorem dX10_leastWith_0 : decode cX10_leastWith 0 = .ok (.iconst 0, 1) := by decide +kernel
theorem dX10_leastWith_1 : decode cX10_leastWith 1 = .ok (.istore_n 2, 1) := by decide +kernel
theorem dX10_leastWith_2 : decode cX10_leastWith 2 = .ok (.iconst 0, 1) := by decide +kernel
theorem dX10_leastWith_3 : decode cX10_leastWith 3 = .ok (.istore_n 3, 1) := by decide +kernel
theorem dX10_leastWith_4 : decode cX10_leastWith 4 = .ok (.iload_n 3, 1) := by decide +kernel
theorem dX10_leastWith_5 : decode cX10_leastWith 5 = .ok (.aload_n 0, 1) := by decide +kernel
theorem dX10_leastWith_6 : decode cX10_leastWith 6 = .ok (.getfield 13, 3) := by decide +kernel
theorem dX10_leastWith_9 : decode cX10_leastWith 9 = .ok (.sipush 165, 3) := by decide +kernel
theorem dX10_leastWith_12 : decode cX10_leastWith 12 = .ok (.iaload, 1) := by decide +kernel
theorem dX10_leastWith_13 : decode cX10_leastWith 13 = .ok (.if_icmp .ge 71, 3) := by decide +kernel
theorem dX10_leastWith_16 : decode cX10_leastWith 16 = .ok (.aload_n 0, 1) := by decide +kernel
theorem dX10_leastWith_17 : decode cX10_leastWith 17 = .ok (.iload_n 3, 1) := by decide +kernel
theorem dX10_leastWith_18 : decode cX10_leastWith 18 = .ok (.invokevirtual 180, 3) := by decide +kernel
theorem dX10_leastWith_21 : decode cX10_leastWith 21 = .ok (.istore 4, 2) := by decide +kernel
theorem dX10_leastWith_23 : decode cX10_leastWith 23 = .ok (.iconst 0, 1) := by decide +kernel
theorem dX10_leastWith_24 : decode cX10_leastWith 24 = .ok (.istore 5, 2) := by decide +kernel
theorem dX10_leastWith_26 : decode cX10_leastWith 26 = .ok (.iconst 0, 1) := by decide +kernel
theorem dX10_leastWith_27 : decode cX10_leastWith 27 = .ok (.istore 6, 2) := by decide +kernel
theorem dX10_leastWith_29 : decode cX10_leastWith 29 = .ok (.iload 6, 2) := by decide +kernel
theorem dX10_leastWith_31 : decode cX10_leastWith 31 = .ok (.iload 4, 2) := by decide +kernel
theorem dX10_leastWith_33 : decode cX10_leastWith 33 = .ok (.if_icmp .ge 32, 3) := by decide +kernel
theorem dX10_leastWith_36 : decode cX10_leastWith 36 = .ok (.iload 5, 2) := by decide +kernel
theorem dX10_leastWith_38 : decode cX10_leastWith 38 = .ok (.ifCond .ne 14, 3) := by decide +kernel
theorem dX10_leastWith_41 : decode cX10_leastWith 41 = .ok (.aload_n 0, 1) := by decide +kernel
theorem dX10_leastWith_42 : decode cX10_leastWith 42 = .ok (.getfield 37, 3) := by decide +kernel
theorem dX10_leastWith_45 : decode cX10_leastWith 45 = .ok (.iload 6, 2) := by decide +kernel
theorem dX10_leastWith_47 : decode cX10_leastWith 47 = .ok (.iaload, 1) := by decide +kernel
theorem dX10_leastWith_48 : decode cX10_leastWith 48 = .ok (.iload_n 1, 1) := by decide +kernel
theorem dX10_leastWith_49 : decode cX10_leastWith 49 = .ok (.if_icmp .ne 7, 3) := by decide +kernel
theorem dX10_leastWith_52 : decode cX10_leastWith 52 = .ok (.iconst 1, 1) := by decide +kernel
theorem dX10_leastWith_53 : decode cX10_leastWith 53 = .ok (.goto 4, 3) := by decide +kernel
theorem dX10_leastWith_56 : decode cX10_leastWith 56 = .ok (.iconst 0, 1) := by decide +kernel
theorem dX10_leastWith_57 : decode cX10_leastWith 57 = .ok (.istore 5, 2) := by decide +kernel
theorem dX10_leastWith_59 : decode cX10_leastWith 59 = .ok (.iinc 6 1, 3) := by decide +kernel
theorem dX10_leastWith_62 : decode cX10_leastWith 62 = .ok (.goto (-33), 3) := by decide +kernel
theorem dX10_leastWith_65 : decode cX10_leastWith 65 = .ok (.iload_n 2, 1) := by decide +kernel
theorem dX10_leastWith_66 : decode cX10_leastWith 66 = .ok (.iload 5, 2) := by decide +kernel
theorem dX10_leastWith_68 : decode cX10_leastWith 68 = .ok (.ifCond .eq 7, 3) := by decide +kernel
theorem dX10_leastWith_71 : decode cX10_leastWith 71 = .ok (.iconst 1, 1) := by decide +kernel
theorem dX10_leastWith_72 : decode cX10_leastWith 72 = .ok (.goto 4, 3) := by decide +kernel
theorem dX10_leastWith_75 : decode cX10_leastWith 75 = .ok (.iconst 0, 1) := by decide +kernel
theorem dX10_leastWith_76 : decode cX10_leastWith 76 = .ok (.iadd, 1) := by decide +kernel
theorem dX10_leastWith_77 : decode cX10_leastWith 77 = .ok (.istore_n 2, 1) := by decide +kernel
theorem dX10_leastWith_78 : decode cX10_leastWith 78 = .ok (.iinc 3 1, 3) := by decide +kernel
theorem dX10_leastWith_81 : decode cX10_leastWith 81 = .ok (.goto (-77), 3) := by decide +kernel
theorem dX10_leastWith_84 : decode cX10_leastWith 84 = .ok (.iload_n 2, 1) := by decide +kernel
theorem dX10_leastWith_85 : decode cX10_leastWith 85 = .ok (.ireturn, 1) := by decide +kernel
theorem dX10_sign_0 : decode cX10_sign 0 = .ok (.aload_n 0, 1) := by decide +kernel
theorem dX10_sign_1 : decode cX10_sign 1 = .ok (.iload_n 1, 1) := by decide +kernel
theorem dX10_sign_2 : decode cX10_sign 2 = .ok (.invokevirtual 118, 3) := by decide +kernel
theorem dX10_sign_5 : decode cX10_sign 5 = .ok (.ifCond .eq 15, 3) := by decide +kernel
theorem dX10_sign_8 : decode cX10_sign 8 = .ok (.iload_n 2, 1) := by decide +kernel
theorem dX10_sign_9 : decode cX10_sign 9 = .ok (.i2l, 1) := by decide +kernel
theorem dX10_sign_10 : decode cX10_sign 10 = .ok (.lconst 0, 1) := by decide +kernel
theorem dX10_sign_11 : decode cX10_sign 11 = .ok (.ldc2_w 193, 3) := by decide +kernel
theorem dX10_sign_14 : decode cX10_sign 14 = .ok (.invokestatic 75, 3) := by decide +kernel
theorem dX10_sign_17 : decode cX10_sign 17 = .ok (.ifCond .ne 5, 3) := by decide +kernel
theorem dX10_sign_20 : decode cX10_sign 20 = .ok (.iconst (-1), 1) := by decide +kernel
theorem dX10_sign_21 : decode cX10_sign 21 = .ok (.ireturn, 1) := by decide +kernel
theorem dX10_sign_22 : decode cX10_sign 22 = .ok (.iload_n 2, 1) := by decide +kernel
theorem dX10_sign_23 : decode cX10_sign 23 = .ok (.iconst 3, 1) := by decide +kernel
theorem dX10_sign_24 : decode cX10_sign 24 = .ok (.if_icmp .ge 17, 3) := by decide +kernel
theorem dX10_sign_27 : decode cX10_sign 27 = .ok (.aload_n 0, 1) := by decide +kernel
theorem dX10_sign_28 : decode cX10_sign 28 = .ok (.getfield 13, 3) := by decide +kernel
theorem dX10_sign_31 : decode cX10_sign 31 = .ok (.bipush 7, 2) := by decide +kernel
theorem dX10_sign_33 : decode cX10_sign 33 = .ok (.iload_n 1, 1) := by decide +kernel
theorem dX10_sign_34 : decode cX10_sign 34 = .ok (.imul, 1) := by decide +kernel
theorem dX10_sign_35 : decode cX10_sign 35 = .ok (.iload_n 2, 1) := by decide +kernel
theorem dX10_sign_36 : decode cX10_sign 36 = .ok (.iadd, 1) := by decide +kernel
theorem dX10_sign_37 : decode cX10_sign 37 = .ok (.iaload, 1) := by decide +kernel
theorem dX10_sign_38 : decode cX10_sign 38 = .ok (.goto 29, 3) := by decide +kernel
theorem dX10_sign_41 : decode cX10_sign 41 = .ok (.iload_n 2, 1) := by decide +kernel
theorem dX10_sign_42 : decode cX10_sign 42 = .ok (.iconst 3, 1) := by decide +kernel
theorem dX10_sign_43 : decode cX10_sign 43 = .ok (.if_icmp .ne 19, 3) := by decide +kernel
theorem dX10_sign_46 : decode cX10_sign 46 = .ok (.aload_n 0, 1) := by decide +kernel
theorem dX10_sign_47 : decode cX10_sign 47 = .ok (.iload_n 1, 1) := by decide +kernel
theorem dX10_sign_48 : decode cX10_sign 48 = .ok (.invokevirtual 121, 3) := by decide +kernel
theorem dX10_sign_51 : decode cX10_sign 51 = .ok (.ifCond .eq 7, 3) := by decide +kernel
theorem dX10_sign_54 : decode cX10_sign 54 = .ok (.iconst 1, 1) := by decide +kernel
theorem dX10_sign_55 : decode cX10_sign 55 = .ok (.goto 12, 3) := by decide +kernel
theorem dX10_sign_58 : decode cX10_sign 58 = .ok (.iconst 0, 1) := by decide +kernel
theorem dX10_sign_59 : decode cX10_sign 59 = .ok (.goto 8, 3) := by decide +kernel
theorem dX10_sign_62 : decode cX10_sign 62 = .ok (.aload_n 0, 1) := by decide +kernel
theorem dX10_sign_63 : decode cX10_sign 63 = .ok (.iload_n 1, 1) := by decide +kernel
theorem dX10_sign_64 : decode cX10_sign 64 = .ok (.invokevirtual 195, 3) := by decide +kernel
theorem dX10_sign_67 : decode cX10_sign 67 = .ok (.ireturn, 1) := by decide +kernel
theorem dX10_word_0 : decode cX10_word 0 = .ok (.aload_n 0, 1) := by decide +kernel
theorem dX10_word_1 : decode cX10_word 1 = .ok (.iload_n 1, 1) := by decide +kernel
theorem dX10_word_2 : decode cX10_word 2 = .ok (.invokevirtual 198, 3) := by decide +kernel
theorem dX10_word_5 : decode cX10_word 5 = .ok (.ifCond .eq 15, 3) := by decide +kernel
theorem dX10_word_8 : decode cX10_word 8 = .ok (.iload_n 2, 1) := by decide +kernel
theorem dX10_word_9 : decode cX10_word 9 = .ok (.i2l, 1) := by decide +kernel
theorem dX10_word_10 : decode cX10_word 10 = .ok (.lconst 0, 1) := by decide +kernel
theorem dX10_word_11 : decode cX10_word 11 = .ok (.ldc2_w 193, 3) := by decide +kernel
theorem dX10_word_14 : decode cX10_word 14 = .ok (.invokestatic 75, 3) := by decide +kernel
theorem dX10_word_17 : decode cX10_word 17 = .ok (.ifCond .ne 5, 3) := by decide +kernel
theorem dX10_word_20 : decode cX10_word 20 = .ok (.iconst (-1), 1) := by decide +kernel
theorem dX10_word_21 : decode cX10_word 21 = .ok (.ireturn, 1) := by decide +kernel
theorem dX10_word_22 : decode cX10_word 22 = .ok (.iconst 0, 1) := by decide +kernel
theorem dX10_word_23 : decode cX10_word 23 = .ok (.istore_n 3, 1) := by decide +kernel
theorem dX10_word_24 : decode cX10_word 24 = .ok (.iconst 0, 1) := by decide +kernel
theorem dX10_word_25 : decode cX10_word 25 = .ok (.istore 4, 2) := by decide +kernel
theorem dX10_word_27 : decode cX10_word 27 = .ok (.iload 4, 2) := by decide +kernel
theorem dX10_word_29 : decode cX10_word 29 = .ok (.aload_n 0, 1) := by decide +kernel
theorem dX10_word_30 : decode cX10_word 30 = .ok (.iload_n 1, 1) := by decide +kernel
theorem dX10_word_31 : decode cX10_word 31 = .ok (.invokevirtual 137, 3) := by decide +kernel
theorem dX10_word_34 : decode cX10_word 34 = .ok (.if_icmp .ge 27, 3) := by decide +kernel
theorem dX10_word_37 : decode cX10_word 37 = .ok (.iload_n 3, 1) := by decide +kernel
theorem dX10_word_38 : decode cX10_word 38 = .ok (.aload_n 0, 1) := by decide +kernel
theorem dX10_word_39 : decode cX10_word 39 = .ok (.iload_n 1, 1) := by decide +kernel
theorem dX10_word_40 : decode cX10_word 40 = .ok (.iload 4, 2) := by decide +kernel
theorem dX10_word_42 : decode cX10_word 42 = .ok (.invokevirtual 140, 3) := by decide +kernel
theorem dX10_word_45 : decode cX10_word 45 = .ok (.ifCond .eq 7, 3) := by decide +kernel
theorem dX10_word_48 : decode cX10_word 48 = .ok (.iconst 1, 1) := by decide +kernel
theorem dX10_word_49 : decode cX10_word 49 = .ok (.goto 4, 3) := by decide +kernel
theorem dX10_word_52 : decode cX10_word 52 = .ok (.iconst 0, 1) := by decide +kernel
theorem dX10_word_53 : decode cX10_word 53 = .ok (.iadd, 1) := by decide +kernel
theorem dX10_word_54 : decode cX10_word 54 = .ok (.istore_n 3, 1) := by decide +kernel
theorem dX10_word_55 : decode cX10_word 55 = .ok (.iinc 4 1, 3) := by decide +kernel
theorem dX10_word_58 : decode cX10_word 58 = .ok (.goto (-31), 3) := by decide +kernel
theorem dX10_word_61 : decode cX10_word 61 = .ok (.iload_n 2, 1) := by decide +kernel
theorem dX10_word_62 : decode cX10_word 62 = .ok (.iconst 2, 1) := by decide +kernel
theorem dX10_word_63 : decode cX10_word 63 = .ok (.if_icmp .ge 20, 3) := by decide +kernel
theorem dX10_word_66 : decode cX10_word 66 = .ok (.aload_n 0, 1) := by decide +kernel
theorem dX10_word_67 : decode cX10_word 67 = .ok (.getfield 13, 3) := by decide +kernel
theorem dX10_word_70 : decode cX10_word 70 = .ok (.bipush 84, 2) := by decide +kernel
theorem dX10_word_72 : decode cX10_word 72 = .ok (.bipush 10, 2) := by decide +kernel
theorem dX10_word_74 : decode cX10_word 74 = .ok (.iload_n 1, 1) := by decide +kernel
theorem dX10_word_75 : decode cX10_word 75 = .ok (.imul, 1) := by decide +kernel
theorem dX10_word_76 : decode cX10_word 76 = .ok (.iadd, 1) := by decide +kernel
theorem dX10_word_77 : decode cX10_word 77 = .ok (.iload_n 2, 1) := by decide +kernel
theorem dX10_word_78 : decode cX10_word 78 = .ok (.iadd, 1) := by decide +kernel
theorem dX10_word_79 : decode cX10_word 79 = .ok (.iaload, 1) := by decide +kernel
theorem dX10_word_80 : decode cX10_word 80 = .ok (.goto 30, 3) := by decide +kernel
theorem dX10_word_83 : decode cX10_word 83 = .ok (.iload_n 2, 1) := by decide +kernel
theorem dX10_word_84 : decode cX10_word 84 = .ok (.iconst 2, 1) := by decide +kernel
theorem dX10_word_85 : decode cX10_word 85 = .ok (.if_icmp .ne 7, 3) := by decide +kernel
theorem dX10_word_88 : decode cX10_word 88 = .ok (.iload_n 3, 1) := by decide +kernel
theorem dX10_word_89 : decode cX10_word 89 = .ok (.goto 21, 3) := by decide +kernel
theorem dX10_word_92 : decode cX10_word 92 = .ok (.iload_n 2, 1) := by decide +kernel
theorem dX10_word_93 : decode cX10_word 93 = .ok (.iconst 3, 1) := by decide +kernel
theorem dX10_word_94 : decode cX10_word 94 = .ok (.if_icmp .ne 11, 3) := by decide +kernel
theorem dX10_word_97 : decode cX10_word 97 = .ok (.aload_n 0, 1) := by decide +kernel
theorem dX10_word_98 : decode cX10_word 98 = .ok (.iload_n 1, 1) := by decide +kernel
theorem dX10_word_99 : decode cX10_word 99 = .ok (.invokevirtual 201, 3) := by decide +kernel
theorem dX10_word_102 : decode cX10_word 102 = .ok (.goto 8, 3) := by decide +kernel
theorem dX10_word_105 : decode cX10_word 105 = .ok (.aload_n 0, 1) := by decide +kernel
theorem dX10_word_106 : decode cX10_word 106 = .ok (.iload_n 1, 1) := by decide +kernel
theorem dX10_word_107 : decode cX10_word 107 = .ok (.invokevirtual 204, 3) := by decide +kernel
theorem dX10_word_110 : decode cX10_word 110 = .ok (.ireturn, 1) := by decide +kernel
theorem dX10_least_0 : decode cX10_least 0 = .ok (.aload_n 0, 1) := by decide +kernel
theorem dX10_least_1 : decode cX10_least 1 = .ok (.iload_n 1, 1) := by decide +kernel
theorem dX10_least_2 : decode cX10_least 2 = .ok (.invokevirtual 198, 3) := by decide +kernel
theorem dX10_least_5 : decode cX10_least 5 = .ok (.ifCond .eq 9, 3) := by decide +kernel
theorem dX10_least_8 : decode cX10_least 8 = .ok (.iload_n 2, 1) := by decide +kernel
theorem dX10_least_9 : decode cX10_least 9 = .ok (.bipush (-2), 2) := by decide +kernel
theorem dX10_least_11 : decode cX10_least 11 = .ok (.if_icmp .ge 5, 3) := by decide +kernel
theorem dX10_least_14 : decode cX10_least 14 = .ok (.iconst (-1), 1) := by decide +kernel
theorem dX10_least_15 : decode cX10_least 15 = .ok (.ireturn, 1) := by decide +kernel
theorem dX10_least_16 : decode cX10_least 16 = .ok (.aload_n 0, 1) := by decide +kernel
theorem dX10_least_17 : decode cX10_least 17 = .ok (.iload_n 1, 1) := by decide +kernel
theorem dX10_least_18 : decode cX10_least 18 = .ok (.invokevirtual 180, 3) := by decide +kernel
theorem dX10_least_21 : decode cX10_least 21 = .ok (.istore_n 3, 1) := by decide +kernel
theorem dX10_least_22 : decode cX10_least 22 = .ok (.iload_n 3, 1) := by decide +kernel
theorem dX10_least_23 : decode cX10_least 23 = .ok (.bipush (-4), 2) := by decide +kernel
theorem dX10_least_25 : decode cX10_least 25 = .ok (.if_icmp .eq 8, 3) := by decide +kernel
theorem dX10_least_28 : decode cX10_least 28 = .ok (.iload_n 2, 1) := by decide +kernel
theorem dX10_least_29 : decode cX10_least 29 = .ok (.iload_n 3, 1) := by decide +kernel
theorem dX10_least_30 : decode cX10_least 30 = .ok (.if_icmp .lt 6, 3) := by decide +kernel
theorem dX10_least_33 : decode cX10_least 33 = .ok (.bipush (-4), 2) := by decide +kernel
theorem dX10_least_35 : decode cX10_least 35 = .ok (.ireturn, 1) := by decide +kernel
theorem dX10_least_36 : decode cX10_least 36 = .ok (.iload_n 2, 1) := by decide +kernel
theorem dX10_least_37 : decode cX10_least 37 = .ok (.iconst (-1), 1) := by decide +kernel
theorem dX10_least_38 : decode cX10_least 38 = .ok (.if_icmp .ne 7, 3) := by decide +kernel
theorem dX10_least_41 : decode cX10_least 41 = .ok (.iload_n 3, 1) := by decide +kernel
theorem dX10_least_42 : decode cX10_least 42 = .ok (.goto 22, 3) := by decide +kernel
theorem dX10_least_45 : decode cX10_least 45 = .ok (.iload_n 2, 1) := by decide +kernel
theorem dX10_least_46 : decode cX10_least 46 = .ok (.bipush (-2), 2) := by decide +kernel
theorem dX10_least_48 : decode cX10_least 48 = .ok (.if_icmp .ne 10, 3) := by decide +kernel
theorem dX10_least_51 : decode cX10_least 51 = .ok (.aload_n 0, 1) := by decide +kernel
theorem dX10_least_52 : decode cX10_least 52 = .ok (.getfield 177, 3) := by decide +kernel
theorem dX10_least_55 : decode cX10_least 55 = .ok (.goto 9, 3) := by decide +kernel
theorem dX10_least_58 : decode cX10_least 58 = .ok (.aload_n 0, 1) := by decide +kernel
theorem dX10_least_59 : decode cX10_least 59 = .ok (.getfield 37, 3) := by decide +kernel
theorem dX10_least_62 : decode cX10_least 62 = .ok (.iload_n 2, 1) := by decide +kernel
theorem dX10_least_63 : decode cX10_least 63 = .ok (.iaload, 1) := by decide +kernel
theorem dX10_least_64 : decode cX10_least 64 = .ok (.ireturn, 1) := by decide +kernel
theorem dX10_mark_0 : decode cX10_mark 0 = .ok (.aload_n 0, 1) := by decide +kernel
theorem dX10_mark_1 : decode cX10_mark 1 = .ok (.iload_n 1, 1) := by decide +kernel
theorem dX10_mark_2 : decode cX10_mark 2 = .ok (.invokevirtual 198, 3) := by decide +kernel
theorem dX10_mark_5 : decode cX10_mark 5 = .ok (.ifCond .ne 5, 3) := by decide +kernel
theorem dX10_mark_8 : decode cX10_mark 8 = .ok (.iconst (-1), 1) := by decide +kernel
theorem dX10_mark_9 : decode cX10_mark 9 = .ok (.ireturn, 1) := by decide +kernel
theorem dX10_mark_10 : decode cX10_mark 10 = .ok (.aload_n 0, 1) := by decide +kernel
theorem dX10_mark_11 : decode cX10_mark 11 = .ok (.iload_n 1, 1) := by decide +kernel
theorem dX10_mark_12 : decode cX10_mark 12 = .ok (.invokevirtual 201, 3) := by decide +kernel
theorem dX10_mark_15 : decode cX10_mark 15 = .ok (.iconst 2, 1) := by decide +kernel
theorem dX10_mark_16 : decode cX10_mark 16 = .ok (.if_icmp .ne 22, 3) := by decide +kernel
theorem dX10_mark_19 : decode cX10_mark 19 = .ok (.aload_n 0, 1) := by decide +kernel
theorem dX10_mark_20 : decode cX10_mark 20 = .ok (.aload_n 0, 1) := by decide +kernel
theorem dX10_mark_21 : decode cX10_mark 21 = .ok (.getfield 13, 3) := by decide +kernel
theorem dX10_mark_24 : decode cX10_mark 24 = .ok (.bipush 84, 2) := by decide +kernel
theorem dX10_mark_26 : decode cX10_mark 26 = .ok (.bipush 10, 2) := by decide +kernel
theorem dX10_mark_28 : decode cX10_mark 28 = .ok (.iload_n 1, 1) := by decide +kernel
theorem dX10_mark_29 : decode cX10_mark 29 = .ok (.imul, 1) := by decide +kernel
theorem dX10_mark_30 : decode cX10_mark 30 = .ok (.iadd, 1) := by decide +kernel
theorem dX10_mark_31 : decode cX10_mark 31 = .ok (.iaload, 1) := by decide +kernel
theorem dX10_mark_32 : decode cX10_mark 32 = .ok (.invokevirtual 187, 3) := by decide +kernel
theorem dX10_mark_35 : decode cX10_mark 35 = .ok (.goto 5, 3) := by decide +kernel
theorem dX10_mark_38 : decode cX10_mark 38 = .ok (.bipush (-4), 2) := by decide +kernel
theorem dX10_mark_40 : decode cX10_mark 40 = .ok (.ireturn, 1) := by decide +kernel
theorem dX10_writings_0 : decode cX10_writings 0 = .ok (.aload_n 0, 1) := by decide +kernel
theorem dX10_writings_1 : decode cX10_writings 1 = .ok (.iload_n 1, 1) := by decide +kernel
theorem dX10_writings_2 : decode cX10_writings 2 = .ok (.invokevirtual 198, 3) := by decide +kernel
theorem dX10_writings_5 : decode cX10_writings 5 = .ok (.ifCond .ne 7, 3) := by decide +kernel
theorem dX10_writings_8 : decode cX10_writings 8 = .ok (.ldc2_w 207, 3) := by decide +kernel
theorem dX10_writings_11 : decode cX10_writings 11 = .ok (.lreturn, 1) := by decide +kernel
theorem dX10_writings_12 : decode cX10_writings 12 = .ok (.iconst 0, 1) := by decide +kernel
theorem dX10_writings_13 : decode cX10_writings 13 = .ok (.istore_n 2, 1) := by decide +kernel
theorem dX10_writings_14 : decode cX10_writings 14 = .ok (.iconst 0, 1) := by decide +kernel
theorem dX10_writings_15 : decode cX10_writings 15 = .ok (.istore_n 3, 1) := by decide +kernel
theorem dX10_writings_16 : decode cX10_writings 16 = .ok (.iload_n 3, 1) := by decide +kernel
theorem dX10_writings_17 : decode cX10_writings 17 = .ok (.aload_n 0, 1) := by decide +kernel
theorem dX10_writings_18 : decode cX10_writings 18 = .ok (.getfield 13, 3) := by decide +kernel
theorem dX10_writings_21 : decode cX10_writings 21 = .ok (.sipush 164, 3) := by decide +kernel
theorem dX10_writings_24 : decode cX10_writings 24 = .ok (.iaload, 1) := by decide +kernel
theorem dX10_writings_25 : decode cX10_writings 25 = .ok (.if_icmp .ge 64, 3) := by decide +kernel
theorem dX10_writings_28 : decode cX10_writings 28 = .ok (.iload_n 2, 1) := by decide +kernel
theorem dX10_writings_29 : decode cX10_writings 29 = .ok (.aload_n 0, 1) := by decide +kernel
theorem dX10_writings_30 : decode cX10_writings 30 = .ok (.getfield 13, 3) := by decide +kernel
theorem dX10_writings_33 : decode cX10_writings 33 = .ok (.bipush 7, 2) := by decide +kernel
theorem dX10_writings_35 : decode cX10_writings 35 = .ok (.iload_n 3, 1) := by decide +kernel
theorem dX10_writings_36 : decode cX10_writings 36 = .ok (.imul, 1) := by decide +kernel
theorem dX10_writings_37 : decode cX10_writings 37 = .ok (.iaload, 1) := by decide +kernel
theorem dX10_writings_38 : decode cX10_writings 38 = .ok (.iconst 2, 1) := by decide +kernel
theorem dX10_writings_39 : decode cX10_writings 39 = .ok (.if_icmp .ne 41, 3) := by decide +kernel
theorem dX10_writings_42 : decode cX10_writings 42 = .ok (.aload_n 0, 1) := by decide +kernel
theorem dX10_writings_43 : decode cX10_writings 43 = .ok (.getfield 13, 3) := by decide +kernel
theorem dX10_writings_46 : decode cX10_writings 46 = .ok (.bipush 7, 2) := by decide +kernel
theorem dX10_writings_48 : decode cX10_writings 48 = .ok (.iload_n 3, 1) := by decide +kernel
theorem dX10_writings_49 : decode cX10_writings 49 = .ok (.imul, 1) := by decide +kernel
theorem dX10_writings_50 : decode cX10_writings 50 = .ok (.iconst 1, 1) := by decide +kernel
theorem dX10_writings_51 : decode cX10_writings 51 = .ok (.iadd, 1) := by decide +kernel
theorem dX10_writings_52 : decode cX10_writings 52 = .ok (.iaload, 1) := by decide +kernel
theorem dX10_writings_53 : decode cX10_writings 53 = .ok (.aload_n 0, 1) := by decide +kernel
theorem dX10_writings_54 : decode cX10_writings 54 = .ok (.getfield 13, 3) := by decide +kernel
theorem dX10_writings_57 : decode cX10_writings 57 = .ok (.bipush 84, 2) := by decide +kernel
theorem dX10_writings_59 : decode cX10_writings 59 = .ok (.bipush 10, 2) := by decide +kernel
theorem dX10_writings_61 : decode cX10_writings 61 = .ok (.iload_n 1, 1) := by decide +kernel
theorem dX10_writings_62 : decode cX10_writings 62 = .ok (.imul, 1) := by decide +kernel
theorem dX10_writings_63 : decode cX10_writings 63 = .ok (.iadd, 1) := by decide +kernel
theorem dX10_writings_64 : decode cX10_writings 64 = .ok (.iaload, 1) := by decide +kernel
theorem dX10_writings_65 : decode cX10_writings 65 = .ok (.if_icmp .ne 15, 3) := by decide +kernel
theorem dX10_writings_68 : decode cX10_writings 68 = .ok (.aload_n 0, 1) := by decide +kernel
theorem dX10_writings_69 : decode cX10_writings 69 = .ok (.iload_n 3, 1) := by decide +kernel
theorem dX10_writings_70 : decode cX10_writings 70 = .ok (.invokevirtual 121, 3) := by decide +kernel
theorem dX10_writings_73 : decode cX10_writings 73 = .ok (.ifCond .ne 7, 3) := by decide +kernel
theorem dX10_writings_76 : decode cX10_writings 76 = .ok (.iconst 1, 1) := by decide +kernel
theorem dX10_writings_77 : decode cX10_writings 77 = .ok (.goto 4, 3) := by decide +kernel
theorem dX10_writings_80 : decode cX10_writings 80 = .ok (.iconst 0, 1) := by decide +kernel
theorem dX10_writings_81 : decode cX10_writings 81 = .ok (.iadd, 1) := by decide +kernel
theorem dX10_writings_82 : decode cX10_writings 82 = .ok (.istore_n 2, 1) := by decide +kernel
theorem dX10_writings_83 : decode cX10_writings 83 = .ok (.iinc 3 1, 3) := by decide +kernel
theorem dX10_writings_86 : decode cX10_writings 86 = .ok (.goto (-70), 3) := by decide +kernel
theorem dX10_writings_89 : decode cX10_writings 89 = .ok (.aload_n 0, 1) := by decide +kernel
theorem dX10_writings_90 : decode cX10_writings 90 = .ok (.iload_n 1, 1) := by decide +kernel
theorem dX10_writings_91 : decode cX10_writings 91 = .ok (.invokevirtual 170, 3) := by decide +kernel
theorem dX10_writings_94 : decode cX10_writings 94 = .ok (.iconst 0, 1) := by decide +kernel
theorem dX10_writings_95 : decode cX10_writings 95 = .ok (.istore_n 3, 1) := by decide +kernel
theorem dX10_writings_96 : decode cX10_writings 96 = .ok (.iload_n 3, 1) := by decide +kernel
theorem dX10_writings_97 : decode cX10_writings 97 = .ok (.sipush 512, 3) := by decide +kernel
theorem dX10_writings_100 : decode cX10_writings 100 = .ok (.if_icmp .ge 24, 3) := by decide +kernel
theorem dX10_writings_103 : decode cX10_writings 103 = .ok (.aload_n 0, 1) := by decide +kernel
theorem dX10_writings_104 : decode cX10_writings 104 = .ok (.getfield 43, 3) := by decide +kernel
theorem dX10_writings_107 : decode cX10_writings 107 = .ok (.iload_n 3, 1) := by decide +kernel
theorem dX10_writings_108 : decode cX10_writings 108 = .ok (.iload_n 3, 1) := by decide +kernel
theorem dX10_writings_109 : decode cX10_writings 109 = .ok (.ifCond .ne 7, 3) := by decide +kernel
theorem dX10_writings_112 : decode cX10_writings 112 = .ok (.lconst 1, 1) := by decide +kernel
theorem dX10_writings_113 : decode cX10_writings 113 = .ok (.goto 4, 3) := by decide +kernel
theorem dX10_writings_116 : decode cX10_writings 116 = .ok (.lconst 0, 1) := by decide +kernel
theorem dX10_writings_117 : decode cX10_writings 117 = .ok (.lastore, 1) := by decide +kernel
theorem dX10_writings_118 : decode cX10_writings 118 = .ok (.iinc 3 1, 3) := by decide +kernel
theorem dX10_writings_121 : decode cX10_writings 121 = .ok (.goto (-25), 3) := by decide +kernel
theorem dX10_writings_124 : decode cX10_writings 124 = .ok (.lconst 0, 1) := by decide +kernel
theorem dX10_writings_125 : decode cX10_writings 125 = .ok (.lstore_n 3, 1) := by decide +kernel
theorem dX10_writings_126 : decode cX10_writings 126 = .ok (.iconst 1, 1) := by decide +kernel
theorem dX10_writings_127 : decode cX10_writings 127 = .ok (.istore 5, 2) := by decide +kernel
theorem dX10_writings_129 : decode cX10_writings 129 = .ok (.iload 5, 2) := by decide +kernel
theorem dX10_writings_131 : decode cX10_writings 131 = .ok (.bipush 10, 2) := by decide +kernel
theorem dX10_writings_133 : decode cX10_writings 133 = .ok (.if_icmp .ge 219, 3) := by decide +kernel
theorem dX10_writings_136 : decode cX10_writings 136 = .ok (.iload 5, 2) := by decide +kernel
theorem dX10_writings_138 : decode cX10_writings 138 = .ok (.iconst 2, 1) := by decide +kernel
theorem dX10_writings_139 : decode cX10_writings 139 = .ok (.irem, 1) := by decide +kernel
theorem dX10_writings_140 : decode cX10_writings 140 = .ok (.iconst 1, 1) := by decide +kernel
theorem dX10_writings_141 : decode cX10_writings 141 = .ok (.if_icmp .ne 7, 3) := by decide +kernel
theorem dX10_writings_144 : decode cX10_writings 144 = .ok (.iconst 0, 1) := by decide +kernel
theorem dX10_writings_145 : decode cX10_writings 145 = .ok (.goto 6, 3) := by decide +kernel
theorem dX10_writings_148 : decode cX10_writings 148 = .ok (.sipush 512, 3) := by decide +kernel
theorem dX10_writings_151 : decode cX10_writings 151 = .ok (.istore 6, 2) := by decide +kernel
theorem dX10_writings_153 : decode cX10_writings 153 = .ok (.sipush 512, 3) := by decide +kernel
theorem dX10_writings_156 : decode cX10_writings 156 = .ok (.iload 6, 2) := by decide +kernel
theorem dX10_writings_158 : decode cX10_writings 158 = .ok (.isub, 1) := by decide +kernel
theorem dX10_writings_159 : decode cX10_writings 159 = .ok (.istore 7, 2) := by decide +kernel
theorem dX10_writings_161 : decode cX10_writings 161 = .ok (.iconst 0, 1) := by decide +kernel
theorem dX10_writings_162 : decode cX10_writings 162 = .ok (.istore 8, 2) := by decide +kernel
theorem dX10_writings_164 : decode cX10_writings 164 = .ok (.iload 8, 2) := by decide +kernel
theorem dX10_writings_166 : decode cX10_writings 166 = .ok (.aload_n 0, 1) := by decide +kernel
theorem dX10_writings_167 : decode cX10_writings 167 = .ok (.getfield 164, 3) := by decide +kernel
theorem dX10_writings_170 : decode cX10_writings 170 = .ok (.if_icmp .ge 20, 3) := by decide +kernel
theorem dX10_writings_173 : decode cX10_writings 173 = .ok (.aload_n 0, 1) := by decide +kernel
theorem dX10_writings_174 : decode cX10_writings 174 = .ok (.getfield 43, 3) := by decide +kernel
theorem dX10_writings_177 : decode cX10_writings 177 = .ok (.iload 7, 2) := by decide +kernel
theorem dX10_writings_179 : decode cX10_writings 179 = .ok (.iload 8, 2) := by decide +kernel
theorem dX10_writings_181 : decode cX10_writings 181 = .ok (.iadd, 1) := by decide +kernel
theorem dX10_writings_182 : decode cX10_writings 182 = .ok (.lconst 0, 1) := by decide +kernel
theorem dX10_writings_183 : decode cX10_writings 183 = .ok (.lastore, 1) := by decide +kernel
theorem dX10_writings_184 : decode cX10_writings 184 = .ok (.iinc 8 1, 3) := by decide +kernel
theorem dX10_writings_187 : decode cX10_writings 187 = .ok (.goto (-23), 3) := by decide +kernel
theorem dX10_writings_190 : decode cX10_writings 190 = .ok (.iconst 0, 1) := by decide +kernel
theorem dX10_writings_191 : decode cX10_writings 191 = .ok (.istore 8, 2) := by decide +kernel
theorem dX10_writings_193 : decode cX10_writings 193 = .ok (.iload 8, 2) := by decide +kernel
theorem dX10_writings_195 : decode cX10_writings 195 = .ok (.aload_n 0, 1) := by decide +kernel
theorem dX10_writings_196 : decode cX10_writings 196 = .ok (.getfield 164, 3) := by decide +kernel
theorem dX10_writings_199 : decode cX10_writings 199 = .ok (.if_icmp .ge 81, 3) := by decide +kernel
theorem dX10_writings_202 : decode cX10_writings 202 = .ok (.iconst 0, 1) := by decide +kernel
theorem dX10_writings_203 : decode cX10_writings 203 = .ok (.istore 9, 2) := by decide +kernel
theorem dX10_writings_205 : decode cX10_writings 205 = .ok (.iload 9, 2) := by decide +kernel
theorem dX10_writings_207 : decode cX10_writings 207 = .ok (.aload_n 0, 1) := by decide +kernel
theorem dX10_writings_208 : decode cX10_writings 208 = .ok (.getfield 13, 3) := by decide +kernel
theorem dX10_writings_211 : decode cX10_writings 211 = .ok (.sipush 164, 3) := by decide +kernel
theorem dX10_writings_214 : decode cX10_writings 214 = .ok (.iaload, 1) := by decide +kernel
theorem dX10_writings_215 : decode cX10_writings 215 = .ok (.if_icmp .ge 59, 3) := by decide +kernel
theorem dX10_writings_218 : decode cX10_writings 218 = .ok (.aload_n 0, 1) := by decide +kernel
theorem dX10_writings_219 : decode cX10_writings 219 = .ok (.getfield 31, 3) := by decide +kernel
theorem dX10_writings_222 : decode cX10_writings 222 = .ok (.bipush 12, 2) := by decide +kernel
theorem dX10_writings_224 : decode cX10_writings 224 = .ok (.iload 8, 2) := by decide +kernel
theorem dX10_writings_226 : decode cX10_writings 226 = .ok (.imul, 1) := by decide +kernel
theorem dX10_writings_227 : decode cX10_writings 227 = .ok (.iload 9, 2) := by decide +kernel
theorem dX10_writings_229 : decode cX10_writings 229 = .ok (.iadd, 1) := by decide +kernel
theorem dX10_writings_230 : decode cX10_writings 230 = .ok (.iaload, 1) := by decide +kernel
theorem dX10_writings_231 : decode cX10_writings 231 = .ok (.ifCond .lt 37, 3) := by decide +kernel
theorem dX10_writings_234 : decode cX10_writings 234 = .ok (.aload_n 0, 1) := by decide +kernel
theorem dX10_writings_235 : decode cX10_writings 235 = .ok (.getfield 43, 3) := by decide +kernel
theorem dX10_writings_238 : decode cX10_writings 238 = .ok (.iload 7, 2) := by decide +kernel
theorem dX10_writings_240 : decode cX10_writings 240 = .ok (.aload_n 0, 1) := by decide +kernel
theorem dX10_writings_241 : decode cX10_writings 241 = .ok (.getfield 31, 3) := by decide +kernel
theorem dX10_writings_244 : decode cX10_writings 244 = .ok (.bipush 12, 2) := by decide +kernel
theorem dX10_writings_246 : decode cX10_writings 246 = .ok (.iload 8, 2) := by decide +kernel
theorem dX10_writings_248 : decode cX10_writings 248 = .ok (.imul, 1) := by decide +kernel
theorem dX10_writings_249 : decode cX10_writings 249 = .ok (.iload 9, 2) := by decide +kernel
theorem dX10_writings_251 : decode cX10_writings 251 = .ok (.iadd, 1) := by decide +kernel
theorem dX10_writings_252 : decode cX10_writings 252 = .ok (.iaload, 1) := by decide +kernel
theorem dX10_writings_253 : decode cX10_writings 253 = .ok (.iadd, 1) := by decide +kernel
theorem dX10_writings_254 : decode cX10_writings 254 = .ok (.dup2, 1) := by decide +kernel
theorem dX10_writings_255 : decode cX10_writings 255 = .ok (.laload, 1) := by decide +kernel
theorem dX10_writings_256 : decode cX10_writings 256 = .ok (.aload_n 0, 1) := by decide +kernel
theorem dX10_writings_257 : decode cX10_writings 257 = .ok (.getfield 43, 3) := by decide +kernel
theorem dX10_writings_260 : decode cX10_writings 260 = .ok (.iload 6, 2) := by decide +kernel
theorem dX10_writings_262 : decode cX10_writings 262 = .ok (.iload 8, 2) := by decide +kernel
theorem dX10_writings_264 : decode cX10_writings 264 = .ok (.iadd, 1) := by decide +kernel
theorem dX10_writings_265 : decode cX10_writings 265 = .ok (.laload, 1) := by decide +kernel
theorem dX10_writings_266 : decode cX10_writings 266 = .ok (.ladd, 1) := by decide +kernel
theorem dX10_writings_267 : decode cX10_writings 267 = .ok (.lastore, 1) := by decide +kernel
theorem dX10_writings_268 : decode cX10_writings 268 = .ok (.iinc 9 1, 3) := by decide +kernel
theorem dX10_writings_271 : decode cX10_writings 271 = .ok (.goto (-66), 3) := by decide +kernel
theorem dX10_writings_274 : decode cX10_writings 274 = .ok (.iinc 8 1, 3) := by decide +kernel
theorem dX10_writings_277 : decode cX10_writings 277 = .ok (.goto (-84), 3) := by decide +kernel
theorem dX10_writings_280 : decode cX10_writings 280 = .ok (.iconst 0, 1) := by decide +kernel
theorem dX10_writings_281 : decode cX10_writings 281 = .ok (.istore 8, 2) := by decide +kernel
theorem dX10_writings_283 : decode cX10_writings 283 = .ok (.iload 8, 2) := by decide +kernel
theorem dX10_writings_285 : decode cX10_writings 285 = .ok (.aload_n 0, 1) := by decide +kernel
theorem dX10_writings_286 : decode cX10_writings 286 = .ok (.getfield 164, 3) := by decide +kernel
theorem dX10_writings_289 : decode cX10_writings 289 = .ok (.if_icmp .ge 57, 3) := by decide +kernel
theorem dX10_writings_292 : decode cX10_writings 292 = .ok (.lload_n 3, 1) := by decide +kernel
theorem dX10_writings_293 : decode cX10_writings 293 = .ok (.aload_n 0, 1) := by decide +kernel
theorem dX10_writings_294 : decode cX10_writings 294 = .ok (.iload_n 1, 1) := by decide +kernel
theorem dX10_writings_295 : decode cX10_writings 295 = .ok (.aload_n 0, 1) := by decide +kernel
theorem dX10_writings_296 : decode cX10_writings 296 = .ok (.getfield 25, 3) := by decide +kernel
theorem dX10_writings_299 : decode cX10_writings 299 = .ok (.iload 8, 2) := by decide +kernel
theorem dX10_writings_301 : decode cX10_writings 301 = .ok (.iaload, 1) := by decide +kernel
theorem dX10_writings_302 : decode cX10_writings 302 = .ok (.invokevirtual 157, 3) := by decide +kernel
theorem dX10_writings_305 : decode cX10_writings 305 = .ok (.ifCond .eq 32, 3) := by decide +kernel
theorem dX10_writings_308 : decode cX10_writings 308 = .ok (.aload_n 0, 1) := by decide +kernel
theorem dX10_writings_309 : decode cX10_writings 309 = .ok (.getfield 43, 3) := by decide +kernel
theorem dX10_writings_312 : decode cX10_writings 312 = .ok (.iload 7, 2) := by decide +kernel
theorem dX10_writings_314 : decode cX10_writings 314 = .ok (.iload 8, 2) := by decide +kernel
theorem dX10_writings_316 : decode cX10_writings 316 = .ok (.iadd, 1) := by decide +kernel
theorem dX10_writings_317 : decode cX10_writings 317 = .ok (.laload, 1) := by decide +kernel
theorem dX10_writings_318 : decode cX10_writings 318 = .ok (.iload 5, 2) := by decide +kernel
theorem dX10_writings_320 : decode cX10_writings 320 = .ok (.bipush 9, 2) := by decide +kernel
theorem dX10_writings_322 : decode cX10_writings 322 = .ok (.if_icmp .ge 9, 3) := by decide +kernel
theorem dX10_writings_325 : decode cX10_writings 325 = .ok (.iconst 1, 1) := by decide +kernel
theorem dX10_writings_326 : decode cX10_writings 326 = .ok (.iload_n 2, 1) := by decide +kernel
theorem dX10_writings_327 : decode cX10_writings 327 = .ok (.iadd, 1) := by decide +kernel
theorem dX10_writings_328 : decode cX10_writings 328 = .ok (.goto 4, 3) := by decide +kernel
theorem dX10_writings_331 : decode cX10_writings 331 = .ok (.iconst 1, 1) := by decide +kernel
theorem dX10_writings_332 : decode cX10_writings 332 = .ok (.i2l, 1) := by decide +kernel
theorem dX10_writings_333 : decode cX10_writings 333 = .ok (.lmul, 1) := by decide +kernel
theorem dX10_writings_334 : decode cX10_writings 334 = .ok (.goto 4, 3) := by decide +kernel
theorem dX10_writings_337 : decode cX10_writings 337 = .ok (.lconst 0, 1) := by decide +kernel
theorem dX10_writings_338 : decode cX10_writings 338 = .ok (.ladd, 1) := by decide +kernel
theorem dX10_writings_339 : decode cX10_writings 339 = .ok (.lstore_n 3, 1) := by decide +kernel
theorem dX10_writings_340 : decode cX10_writings 340 = .ok (.iinc 8 1, 3) := by decide +kernel
theorem dX10_writings_343 : decode cX10_writings 343 = .ok (.goto (-60), 3) := by decide +kernel
theorem dX10_writings_346 : decode cX10_writings 346 = .ok (.iinc 5 1, 3) := by decide +kernel
theorem dX10_writings_349 : decode cX10_writings 349 = .ok (.goto (-220), 3) := by decide +kernel
theorem dX10_writings_352 : decode cX10_writings 352 = .ok (.lload_n 3, 1) := by decide +kernel
theorem dX10_writings_353 : decode cX10_writings 353 = .ok (.lreturn, 1) := by decide +kernel
