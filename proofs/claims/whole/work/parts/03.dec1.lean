theorem dX3_takesPicture_0 : decode cX3_takesPicture 0 = .ok (.aload_n 3, 1) := by decide +kernel
theorem dX3_takesPicture_1 : decode cX3_takesPicture 1 = .ok (.invokevirtual 49, 3) := by decide +kernel
theorem dX3_takesPicture_4 : decode cX3_takesPicture 4 = .ok (.astore 4, 2) := by decide +kernel
theorem dX3_takesPicture_6 : decode cX3_takesPicture 6 = .ok (.aload_n 0, 1) := by decide +kernel
theorem dX3_takesPicture_7 : decode cX3_takesPicture 7 = .ok (.iload_n 1, 1) := by decide +kernel
theorem dX3_takesPicture_8 : decode cX3_takesPicture 8 = .ok (.iconst 1, 1) := by decide +kernel
theorem dX3_takesPicture_9 : decode cX3_takesPicture 9 = .ok (.iadd, 1) := by decide +kernel
theorem dX3_takesPicture_10 : decode cX3_takesPicture 10 = .ok (.iconst 5, 1) := by decide +kernel
theorem dX3_takesPicture_11 : decode cX3_takesPicture 11 = .ok (.invokestatic 53, 3) := by decide +kernel
theorem dX3_takesPicture_14 : decode cX3_takesPicture 14 = .ok (.istore 5, 2) := by decide +kernel
theorem dX3_takesPicture_16 : decode cX3_takesPicture 16 = .ok (.aload 4, 2) := by decide +kernel
theorem dX3_takesPicture_18 : decode cX3_takesPicture 18 = .ok (.ifnull 22, 3) := by decide +kernel
theorem dX3_takesPicture_21 : decode cX3_takesPicture 21 = .ok (.iload 5, 2) := by decide +kernel
theorem dX3_takesPicture_23 : decode cX3_takesPicture 23 = .ok (.bipush (-4), 2) := by decide +kernel
theorem dX3_takesPicture_25 : decode cX3_takesPicture 25 = .ok (.if_icmp .eq 15, 3) := by decide +kernel
theorem dX3_takesPicture_28 : decode cX3_takesPicture 28 = .ok (.aload_n 0, 1) := by decide +kernel
theorem dX3_takesPicture_29 : decode cX3_takesPicture 29 = .ok (.iload_n 1, 1) := by decide +kernel
theorem dX3_takesPicture_30 : decode cX3_takesPicture 30 = .ok (.iconst 2, 1) := by decide +kernel
theorem dX3_takesPicture_31 : decode cX3_takesPicture 31 = .ok (.iadd, 1) := by decide +kernel
theorem dX3_takesPicture_32 : decode cX3_takesPicture 32 = .ok (.invokevirtual 30, 3) := by decide +kernel
theorem dX3_takesPicture_35 : decode cX3_takesPicture 35 = .ok (.bipush 44, 2) := by decide +kernel
theorem dX3_takesPicture_37 : decode cX3_takesPicture 37 = .ok (.if_icmp .eq 5, 3) := by decide +kernel
theorem dX3_takesPicture_40 : decode cX3_takesPicture 40 = .ok (.iconst 0, 1) := by decide +kernel
theorem dX3_takesPicture_41 : decode cX3_takesPicture 41 = .ok (.ireturn, 1) := by decide +kernel
theorem dX3_takesPicture_42 : decode cX3_takesPicture 42 = .ok (.aload 4, 2) := by decide +kernel
theorem dX3_takesPicture_44 : decode cX3_takesPicture 44 = .ok (.getfield 57, 3) := by decide +kernel
theorem dX3_takesPicture_47 : decode cX3_takesPicture 47 = .ok (.aload_n 0, 1) := by decide +kernel
theorem dX3_takesPicture_48 : decode cX3_takesPicture 48 = .ok (.iload_n 1, 1) := by decide +kernel
theorem dX3_takesPicture_49 : decode cX3_takesPicture 49 = .ok (.iconst 3, 1) := by decide +kernel
theorem dX3_takesPicture_50 : decode cX3_takesPicture 50 = .ok (.iadd, 1) := by decide +kernel
theorem dX3_takesPicture_51 : decode cX3_takesPicture 51 = .ok (.iload_n 2, 1) := by decide +kernel
theorem dX3_takesPicture_52 : decode cX3_takesPicture 52 = .ok (.invokevirtual 63, 3) := by decide +kernel
theorem dX3_takesPicture_55 : decode cX3_takesPicture 55 = .ok (.ifCond .ne 5, 3) := by decide +kernel
theorem dX3_takesPicture_58 : decode cX3_takesPicture 58 = .ok (.iconst 0, 1) := by decide +kernel
theorem dX3_takesPicture_59 : decode cX3_takesPicture 59 = .ok (.ireturn, 1) := by decide +kernel
theorem dX3_takesPicture_60 : decode cX3_takesPicture 60 = .ok (.aload 4, 2) := by decide +kernel
theorem dX3_takesPicture_62 : decode cX3_takesPicture 62 = .ok (.iconst 0, 1) := by decide +kernel
theorem dX3_takesPicture_63 : decode cX3_takesPicture 63 = .ok (.iload 5, 2) := by decide +kernel
theorem dX3_takesPicture_65 : decode cX3_takesPicture 65 = .ok (.aload_n 3, 1) := by decide +kernel
theorem dX3_takesPicture_66 : decode cX3_takesPicture 66 = .ok (.invokestatic 67, 3) := by decide +kernel
theorem dX3_takesPicture_69 : decode cX3_takesPicture 69 = .ok (.iconst 1, 1) := by decide +kernel
theorem dX3_takesPicture_70 : decode cX3_takesPicture 70 = .ok (.ireturn, 1) := by decide +kernel
theorem dX3_takesSound_0 : decode cX3_takesSound 0 = .ok (.aload_n 3, 1) := by decide +kernel
theorem dX3_takesSound_1 : decode cX3_takesSound 1 = .ok (.invokevirtual 49, 3) := by decide +kernel
theorem dX3_takesSound_4 : decode cX3_takesSound 4 = .ok (.astore 4, 2) := by decide +kernel
theorem dX3_takesSound_6 : decode cX3_takesSound 6 = .ok (.aload 4, 2) := by decide +kernel
theorem dX3_takesSound_8 : decode cX3_takesSound 8 = .ok (.ifnull 19, 3) := by decide +kernel
theorem dX3_takesSound_11 : decode cX3_takesSound 11 = .ok (.aload 4, 2) := by decide +kernel
theorem dX3_takesSound_13 : decode cX3_takesSound 13 = .ok (.getfield 57, 3) := by decide +kernel
theorem dX3_takesSound_16 : decode cX3_takesSound 16 = .ok (.aload_n 0, 1) := by decide +kernel
theorem dX3_takesSound_17 : decode cX3_takesSound 17 = .ok (.iload_n 1, 1) := by decide +kernel
theorem dX3_takesSound_18 : decode cX3_takesSound 18 = .ok (.iconst 1, 1) := by decide +kernel
theorem dX3_takesSound_19 : decode cX3_takesSound 19 = .ok (.iadd, 1) := by decide +kernel
theorem dX3_takesSound_20 : decode cX3_takesSound 20 = .ok (.iload_n 2, 1) := by decide +kernel
theorem dX3_takesSound_21 : decode cX3_takesSound 21 = .ok (.invokevirtual 63, 3) := by decide +kernel
theorem dX3_takesSound_24 : decode cX3_takesSound 24 = .ok (.ifCond .ne 5, 3) := by decide +kernel
theorem dX3_takesSound_27 : decode cX3_takesSound 27 = .ok (.iconst 0, 1) := by decide +kernel
theorem dX3_takesSound_28 : decode cX3_takesSound 28 = .ok (.ireturn, 1) := by decide +kernel
theorem dX3_takesSound_29 : decode cX3_takesSound 29 = .ok (.aload 4, 2) := by decide +kernel
theorem dX3_takesSound_31 : decode cX3_takesSound 31 = .ok (.iconst 1, 1) := by decide +kernel
theorem dX3_takesSound_32 : decode cX3_takesSound 32 = .ok (.iconst 0, 1) := by decide +kernel
theorem dX3_takesSound_33 : decode cX3_takesSound 33 = .ok (.aload_n 3, 1) := by decide +kernel
theorem dX3_takesSound_34 : decode cX3_takesSound 34 = .ok (.invokestatic 67, 3) := by decide +kernel
theorem dX3_takesSound_37 : decode cX3_takesSound 37 = .ok (.iconst 1, 1) := by decide +kernel
theorem dX3_takesSound_38 : decode cX3_takesSound 38 = .ok (.ireturn, 1) := by decide +kernel
theorem dX3_takesMark_0 : decode cX3_takesMark 0 = .ok (.aload_n 3, 1) := by decide +kernel
theorem dX3_takesMark_1 : decode cX3_takesMark 1 = .ok (.invokevirtual 49, 3) := by decide +kernel
theorem dX3_takesMark_4 : decode cX3_takesMark 4 = .ok (.astore 4, 2) := by decide +kernel
theorem dX3_takesMark_6 : decode cX3_takesMark 6 = .ok (.aload_n 0, 1) := by decide +kernel
theorem dX3_takesMark_7 : decode cX3_takesMark 7 = .ok (.iload_n 1, 1) := by decide +kernel
theorem dX3_takesMark_8 : decode cX3_takesMark 8 = .ok (.iconst 1, 1) := by decide +kernel
theorem dX3_takesMark_9 : decode cX3_takesMark 9 = .ok (.iadd, 1) := by decide +kernel
theorem dX3_takesMark_10 : decode cX3_takesMark 10 = .ok (.iconst 5, 1) := by decide +kernel
theorem dX3_takesMark_11 : decode cX3_takesMark 11 = .ok (.invokestatic 53, 3) := by decide +kernel
theorem dX3_takesMark_14 : decode cX3_takesMark 14 = .ok (.istore 5, 2) := by decide +kernel
theorem dX3_takesMark_16 : decode cX3_takesMark 16 = .ok (.aload 4, 2) := by decide +kernel
theorem dX3_takesMark_18 : decode cX3_takesMark 18 = .ok (.ifnull 17, 3) := by decide +kernel
theorem dX3_takesMark_21 : decode cX3_takesMark 21 = .ok (.iload 5, 2) := by decide +kernel
theorem dX3_takesMark_23 : decode cX3_takesMark 23 = .ok (.bipush (-4), 2) := by decide +kernel
theorem dX3_takesMark_25 : decode cX3_takesMark 25 = .ok (.if_icmp .eq 10, 3) := by decide +kernel
theorem dX3_takesMark_28 : decode cX3_takesMark 28 = .ok (.iload_n 2, 1) := by decide +kernel
theorem dX3_takesMark_29 : decode cX3_takesMark 29 = .ok (.iload_n 1, 1) := by decide +kernel
theorem dX3_takesMark_30 : decode cX3_takesMark 30 = .ok (.iconst 2, 1) := by decide +kernel
theorem dX3_takesMark_31 : decode cX3_takesMark 31 = .ok (.iadd, 1) := by decide +kernel
theorem dX3_takesMark_32 : decode cX3_takesMark 32 = .ok (.if_icmp .eq 5, 3) := by decide +kernel
theorem dX3_takesMark_35 : decode cX3_takesMark 35 = .ok (.iconst 0, 1) := by decide +kernel
theorem dX3_takesMark_36 : decode cX3_takesMark 36 = .ok (.ireturn, 1) := by decide +kernel
theorem dX3_takesMark_37 : decode cX3_takesMark 37 = .ok (.aload 4, 2) := by decide +kernel
theorem dX3_takesMark_39 : decode cX3_takesMark 39 = .ok (.getfield 57, 3) := by decide +kernel
theorem dX3_takesMark_42 : decode cX3_takesMark 42 = .ok (.invokevirtual 71, 3) := by decide +kernel
theorem dX3_takesMark_45 : decode cX3_takesMark 45 = .ok (.aload 4, 2) := by decide +kernel
theorem dX3_takesMark_47 : decode cX3_takesMark 47 = .ok (.iconst 2, 1) := by decide +kernel
theorem dX3_takesMark_48 : decode cX3_takesMark 48 = .ok (.iload 5, 2) := by decide +kernel
theorem dX3_takesMark_50 : decode cX3_takesMark 50 = .ok (.aload_n 3, 1) := by decide +kernel
theorem dX3_takesMark_51 : decode cX3_takesMark 51 = .ok (.invokestatic 67, 3) := by decide +kernel
theorem dX3_takesMark_54 : decode cX3_takesMark 54 = .ok (.iconst 1, 1) := by decide +kernel
theorem dX3_takesMark_55 : decode cX3_takesMark 55 = .ok (.ireturn, 1) := by decide +kernel
theorem dX3_takesWord_0 : decode cX3_takesWord 0 = .ok (.aload_n 3, 1) := by decide +kernel
theorem dX3_takesWord_1 : decode cX3_takesWord 1 = .ok (.invokevirtual 72, 3) := by decide +kernel
theorem dX3_takesWord_4 : decode cX3_takesWord 4 = .ok (.astore 4, 2) := by decide +kernel
theorem dX3_takesWord_6 : decode cX3_takesWord 6 = .ok (.aload_n 0, 1) := by decide +kernel
theorem dX3_takesWord_7 : decode cX3_takesWord 7 = .ok (.iload_n 1, 1) := by decide +kernel
theorem dX3_takesWord_8 : decode cX3_takesWord 8 = .ok (.iconst 1, 1) := by decide +kernel
theorem dX3_takesWord_9 : decode cX3_takesWord 9 = .ok (.iadd, 1) := by decide +kernel
theorem dX3_takesWord_10 : decode cX3_takesWord 10 = .ok (.iconst 5, 1) := by decide +kernel
theorem dX3_takesWord_11 : decode cX3_takesWord 11 = .ok (.invokestatic 53, 3) := by decide +kernel
theorem dX3_takesWord_14 : decode cX3_takesWord 14 = .ok (.istore 5, 2) := by decide +kernel
theorem dX3_takesWord_16 : decode cX3_takesWord 16 = .ok (.aload 4, 2) := by decide +kernel
theorem dX3_takesWord_18 : decode cX3_takesWord 18 = .ok (.ifnull 22, 3) := by decide +kernel
theorem dX3_takesWord_21 : decode cX3_takesWord 21 = .ok (.iload 5, 2) := by decide +kernel
theorem dX3_takesWord_23 : decode cX3_takesWord 23 = .ok (.bipush (-4), 2) := by decide +kernel
theorem dX3_takesWord_25 : decode cX3_takesWord 25 = .ok (.if_icmp .eq 15, 3) := by decide +kernel
theorem dX3_takesWord_28 : decode cX3_takesWord 28 = .ok (.aload_n 0, 1) := by decide +kernel
theorem dX3_takesWord_29 : decode cX3_takesWord 29 = .ok (.iload_n 1, 1) := by decide +kernel
theorem dX3_takesWord_30 : decode cX3_takesWord 30 = .ok (.iconst 2, 1) := by decide +kernel
theorem dX3_takesWord_31 : decode cX3_takesWord 31 = .ok (.iadd, 1) := by decide +kernel
theorem dX3_takesWord_32 : decode cX3_takesWord 32 = .ok (.invokevirtual 30, 3) := by decide +kernel
theorem dX3_takesWord_35 : decode cX3_takesWord 35 = .ok (.bipush 44, 2) := by decide +kernel
theorem dX3_takesWord_37 : decode cX3_takesWord 37 = .ok (.if_icmp .eq 5, 3) := by decide +kernel
theorem dX3_takesWord_40 : decode cX3_takesWord 40 = .ok (.iconst 0, 1) := by decide +kernel
theorem dX3_takesWord_41 : decode cX3_takesWord 41 = .ok (.ireturn, 1) := by decide +kernel
theorem dX3_takesWord_42 : decode cX3_takesWord 42 = .ok (.aload 4, 2) := by decide +kernel
theorem dX3_takesWord_44 : decode cX3_takesWord 44 = .ok (.getfield 76, 3) := by decide +kernel
theorem dX3_takesWord_47 : decode cX3_takesWord 47 = .ok (.aload_n 0, 1) := by decide +kernel
theorem dX3_takesWord_48 : decode cX3_takesWord 48 = .ok (.iload_n 1, 1) := by decide +kernel
theorem dX3_takesWord_49 : decode cX3_takesWord 49 = .ok (.iconst 3, 1) := by decide +kernel
theorem dX3_takesWord_50 : decode cX3_takesWord 50 = .ok (.iadd, 1) := by decide +kernel
theorem dX3_takesWord_51 : decode cX3_takesWord 51 = .ok (.iload_n 2, 1) := by decide +kernel
theorem dX3_takesWord_52 : decode cX3_takesWord 52 = .ok (.invokevirtual 63, 3) := by decide +kernel
theorem dX3_takesWord_55 : decode cX3_takesWord 55 = .ok (.ifCond .eq 19, 3) := by decide +kernel
theorem dX3_takesWord_58 : decode cX3_takesWord 58 = .ok (.aload_n 3, 1) := by decide +kernel
theorem dX3_takesWord_59 : decode cX3_takesWord 59 = .ok (.iload 5, 2) := by decide +kernel
theorem dX3_takesWord_61 : decode cX3_takesWord 61 = .ok (.aload 4, 2) := by decide +kernel
theorem dX3_takesWord_63 : decode cX3_takesWord 63 = .ok (.getfield 76, 3) := by decide +kernel
theorem dX3_takesWord_66 : decode cX3_takesWord 66 = .ok (.invokevirtual 81, 3) := by decide +kernel
theorem dX3_takesWord_69 : decode cX3_takesWord 69 = .ok (.bipush (-4), 2) := by decide +kernel
theorem dX3_takesWord_71 : decode cX3_takesWord 71 = .ok (.if_icmp .eq 5, 3) := by decide +kernel
theorem dX3_takesWord_74 : decode cX3_takesWord 74 = .ok (.iconst 0, 1) := by decide +kernel
theorem dX3_takesWord_75 : decode cX3_takesWord 75 = .ok (.ireturn, 1) := by decide +kernel
theorem dX3_takesWord_76 : decode cX3_takesWord 76 = .ok (.aload 4, 2) := by decide +kernel
theorem dX3_takesWord_78 : decode cX3_takesWord 78 = .ok (.iload 5, 2) := by decide +kernel
theorem dX3_takesWord_80 : decode cX3_takesWord 80 = .ok (.putfield 85, 3) := by decide +kernel
theorem dX3_takesWord_83 : decode cX3_takesWord 83 = .ok (.aload_n 3, 1) := by decide +kernel
theorem dX3_takesWord_84 : decode cX3_takesWord 84 = .ok (.dup, 1) := by decide +kernel
theorem dX3_takesWord_85 : decode cX3_takesWord 85 = .ok (.getfield 89, 3) := by decide +kernel
theorem dX3_takesWord_88 : decode cX3_takesWord 88 = .ok (.iconst 1, 1) := by decide +kernel
theorem dX3_takesWord_89 : decode cX3_takesWord 89 = .ok (.iadd, 1) := by decide +kernel
theorem dX3_takesWord_90 : decode cX3_takesWord 90 = .ok (.putfield 89, 3) := by decide +kernel
theorem dX3_takesWord_93 : decode cX3_takesWord 93 = .ok (.iconst 1, 1) := by decide +kernel
theorem dX3_takesWord_94 : decode cX3_takesWord 94 = .ok (.ireturn, 1) := by decide +kernel
theorem dX3_takesLaw_0 : decode cX3_takesLaw 0 = .ok (.aload_n 0, 1) := by decide +kernel
theorem dX3_takesLaw_1 : decode cX3_takesLaw 1 = .ok (.iload_n 1, 1) := by decide +kernel
theorem dX3_takesLaw_2 : decode cX3_takesLaw 2 = .ok (.iconst 1, 1) := by decide +kernel
theorem dX3_takesLaw_3 : decode cX3_takesLaw 3 = .ok (.iadd, 1) := by decide +kernel
theorem dX3_takesLaw_4 : decode cX3_takesLaw 4 = .ok (.iconst 1, 1) := by decide +kernel
theorem dX3_takesLaw_5 : decode cX3_takesLaw 5 = .ok (.invokestatic 53, 3) := by decide +kernel
theorem dX3_takesLaw_8 : decode cX3_takesLaw 8 = .ok (.istore 4, 2) := by decide +kernel
theorem dX3_takesLaw_10 : decode cX3_takesLaw 10 = .ok (.iload 4, 2) := by decide +kernel
theorem dX3_takesLaw_12 : decode cX3_takesLaw 12 = .ok (.bipush (-4), 2) := by decide +kernel
theorem dX3_takesLaw_14 : decode cX3_takesLaw 14 = .ok (.if_icmp .eq 10, 3) := by decide +kernel
theorem dX3_takesLaw_17 : decode cX3_takesLaw 17 = .ok (.iload_n 2, 1) := by decide +kernel
theorem dX3_takesLaw_18 : decode cX3_takesLaw 18 = .ok (.iload_n 1, 1) := by decide +kernel
theorem dX3_takesLaw_19 : decode cX3_takesLaw 19 = .ok (.iconst 2, 1) := by decide +kernel
theorem dX3_takesLaw_20 : decode cX3_takesLaw 20 = .ok (.iadd, 1) := by decide +kernel
theorem dX3_takesLaw_21 : decode cX3_takesLaw 21 = .ok (.if_icmp .eq 5, 3) := by decide +kernel
theorem dX3_takesLaw_24 : decode cX3_takesLaw 24 = .ok (.iconst 0, 1) := by decide +kernel
theorem dX3_takesLaw_25 : decode cX3_takesLaw 25 = .ok (.ireturn, 1) := by decide +kernel
theorem dX3_takesLaw_26 : decode cX3_takesLaw 26 = .ok (.aload_n 3, 1) := by decide +kernel
theorem dX3_takesLaw_27 : decode cX3_takesLaw 27 = .ok (.iload 4, 2) := by decide +kernel
theorem dX3_takesLaw_29 : decode cX3_takesLaw 29 = .ok (.iconst 1, 1) := by decide +kernel
theorem dX3_takesLaw_30 : decode cX3_takesLaw 30 = .ok (.if_icmp .ne 7, 3) := by decide +kernel
theorem dX3_takesLaw_33 : decode cX3_takesLaw 33 = .ok (.iconst 1, 1) := by decide +kernel
theorem dX3_takesLaw_34 : decode cX3_takesLaw 34 = .ok (.goto 4, 3) := by decide +kernel
theorem dX3_takesLaw_37 : decode cX3_takesLaw 37 = .ok (.iconst 0, 1) := by decide +kernel
theorem dX3_takesLaw_38 : decode cX3_takesLaw 38 = .ok (.putfield 92, 3) := by decide +kernel
theorem dX3_takesLaw_41 : decode cX3_takesLaw 41 = .ok (.iconst 1, 1) := by decide +kernel
theorem dX3_takesLaw_42 : decode cX3_takesLaw 42 = .ok (.ireturn, 1) := by decide +kernel
theorem dX3_keep_0 : decode cX3_keep 0 = .ok (.aload_n 0, 1) := by decide +kernel
theorem dX3_keep_1 : decode cX3_keep 1 = .ok (.iload_n 1, 1) := by decide +kernel
theorem dX3_keep_2 : decode cX3_keep 2 = .ok (.putfield 96, 3) := by decide +kernel
theorem dX3_keep_5 : decode cX3_keep 5 = .ok (.aload_n 0, 1) := by decide +kernel
theorem dX3_keep_6 : decode cX3_keep 6 = .ok (.iload_n 2, 1) := by decide +kernel
theorem dX3_keep_7 : decode cX3_keep 7 = .ok (.putfield 99, 3) := by decide +kernel
theorem dX3_keep_10 : decode cX3_keep 10 = .ok (.aload_n 0, 1) := by decide +kernel
theorem dX3_keep_11 : decode cX3_keep 11 = .ok (.iconst 0, 1) := by decide +kernel
theorem dX3_keep_12 : decode cX3_keep 12 = .ok (.putfield 100, 3) := by decide +kernel
theorem dX3_keep_15 : decode cX3_keep 15 = .ok (.aload_n 3, 1) := by decide +kernel
theorem dX3_keep_16 : decode cX3_keep 16 = .ok (.dup, 1) := by decide +kernel
theorem dX3_keep_17 : decode cX3_keep 17 = .ok (.getfield 103, 3) := by decide +kernel
theorem dX3_keep_20 : decode cX3_keep 20 = .ok (.iconst 1, 1) := by decide +kernel
theorem dX3_keep_21 : decode cX3_keep 21 = .ok (.iadd, 1) := by decide +kernel
theorem dX3_keep_22 : decode cX3_keep 22 = .ok (.putfield 103, 3) := by decide +kernel
theorem dX3_keep_25 : decode cX3_keep 25 = .ok (.return_, 1) := by decide +kernel
theorem dX3_digitAt_0 : decode cX3_digitAt 0 = .ok (.aload_n 0, 1) := by decide +kernel
theorem dX3_digitAt_1 : decode cX3_digitAt 1 = .ok (.iload_n 1, 1) := by decide +kernel
theorem dX3_digitAt_2 : decode cX3_digitAt 2 = .ok (.invokevirtual 30, 3) := by decide +kernel
theorem dX3_digitAt_5 : decode cX3_digitAt 5 = .ok (.bipush 48, 2) := by decide +kernel
theorem dX3_digitAt_7 : decode cX3_digitAt 7 = .ok (.isub, 1) := by decide +kernel
theorem dX3_digitAt_8 : decode cX3_digitAt 8 = .ok (.istore_n 3, 1) := by decide +kernel
theorem dX3_digitAt_9 : decode cX3_digitAt 9 = .ok (.iload_n 3, 1) := by decide +kernel
theorem dX3_digitAt_10 : decode cX3_digitAt 10 = .ok (.ifCond .lt 12, 3) := by decide +kernel
theorem dX3_digitAt_13 : decode cX3_digitAt 13 = .ok (.iload_n 3, 1) := by decide +kernel
theorem dX3_digitAt_14 : decode cX3_digitAt 14 = .ok (.iload_n 2, 1) := by decide +kernel
theorem dX3_digitAt_15 : decode cX3_digitAt 15 = .ok (.if_icmp .gt 7, 3) := by decide +kernel
theorem dX3_digitAt_18 : decode cX3_digitAt 18 = .ok (.iload_n 3, 1) := by decide +kernel
theorem dX3_digitAt_19 : decode cX3_digitAt 19 = .ok (.goto 5, 3) := by decide +kernel
theorem dX3_digitAt_22 : decode cX3_digitAt 22 = .ok (.bipush (-4), 2) := by decide +kernel
theorem dX3_digitAt_24 : decode cX3_digitAt 24 = .ok (.ireturn, 1) := by decide +kernel
theorem dX4_init_0 : decode cX4_init 0 = .ok (.aload_n 0, 1) := by decide +kernel
theorem dX4_init_1 : decode cX4_init 1 = .ok (.invokespecial 3, 3) := by decide +kernel
theorem dX4_init_4 : decode cX4_init 4 = .ok (.aload_n 0, 1) := by decide +kernel
theorem dX4_init_5 : decode cX4_init 5 = .ok (.bipush 10, 2) := by decide +kernel
theorem dX4_init_7 : decode cX4_init 7 = .ok (.newarray .int, 2) := by decide +kernel
theorem dX4_init_9 : decode cX4_init 9 = .ok (.putfield 9, 3) := by decide +kernel
theorem dX4_init_12 : decode cX4_init 12 = .ok (.aload_n 0, 1) := by decide +kernel
theorem dX4_init_13 : decode cX4_init 13 = .ok (.bipush 17, 2) := by decide +kernel
theorem dX4_init_15 : decode cX4_init 15 = .ok (.newarray .long, 2) := by decide +kernel
theorem dX4_init_17 : decode cX4_init 17 = .ok (.putfield 15, 3) := by decide +kernel
theorem dX4_init_20 : decode cX4_init 20 = .ok (.aload_n 0, 1) := by decide +kernel
theorem dX4_init_21 : decode cX4_init 21 = .ok (.bipush 17, 2) := by decide +kernel
theorem dX4_init_23 : decode cX4_init 23 = .ok (.newarray .int, 2) := by decide +kernel
theorem dX4_init_25 : decode cX4_init 25 = .ok (.putfield 19, 3) := by decide +kernel
theorem dX4_init_28 : decode cX4_init 28 = .ok (.aload_n 0, 1) := by decide +kernel
theorem dX4_init_29 : decode cX4_init 29 = .ok (.bipush 17, 2) := by decide +kernel
theorem dX4_init_31 : decode cX4_init 31 = .ok (.newarray .int, 2) := by decide +kernel
theorem dX4_init_33 : decode cX4_init 33 = .ok (.putfield 22, 3) := by decide +kernel
theorem dX4_init_36 : decode cX4_init 36 = .ok (.aload_n 0, 1) := by decide +kernel
theorem dX4_init_37 : decode cX4_init 37 = .ok (.bipush 17, 2) := by decide +kernel
theorem dX4_init_39 : decode cX4_init 39 = .ok (.newarray .int, 2) := by decide +kernel
theorem dX4_init_41 : decode cX4_init 41 = .ok (.putfield 25, 3) := by decide +kernel
theorem dX4_init_44 : decode cX4_init 44 = .ok (.return_, 1) := by decide +kernel
theorem dX4_look_0 : decode cX4_look 0 = .ok (.aload_n 0, 1) := by decide +kernel
theorem dX4_look_1 : decode cX4_look 1 = .ok (.getfield 9, 3) := by decide +kernel
theorem dX4_look_4 : decode cX4_look 4 = .ok (.iconst 0, 1) := by decide +kernel
theorem dX4_look_5 : decode cX4_look 5 = .ok (.invokestatic 28, 3) := by decide +kernel
theorem dX4_look_8 : decode cX4_look 8 = .ok (.iconst 0, 1) := by decide +kernel
theorem dX4_look_9 : decode cX4_look 9 = .ok (.istore 4, 2) := by decide +kernel
theorem dX4_look_11 : decode cX4_look 11 = .ok (.iload 4, 2) := by decide +kernel
theorem dX4_look_13 : decode cX4_look 13 = .ok (.aload_n 1, 1) := by decide +kernel
theorem dX4_look_14 : decode cX4_look 14 = .ok (.getfield 34, 3) := by decide +kernel
theorem dX4_look_17 : decode cX4_look 17 = .ok (.if_icmp .ge 18, 3) := by decide +kernel
theorem dX4_look_20 : decode cX4_look 20 = .ok (.aload_n 0, 1) := by decide +kernel
theorem dX4_look_21 : decode cX4_look 21 = .ok (.aload_n 1, 1) := by decide +kernel
theorem dX4_look_22 : decode cX4_look 22 = .ok (.iload 4, 2) := by decide +kernel
theorem dX4_look_24 : decode cX4_look 24 = .ok (.aload_n 2, 1) := by decide +kernel
theorem dX4_look_25 : decode cX4_look 25 = .ok (.iload_n 3, 1) := by decide +kernel
theorem dX4_look_26 : decode cX4_look 26 = .ok (.invokevirtual 40, 3) := by decide +kernel
theorem dX4_look_29 : decode cX4_look 29 = .ok (.iinc 4 1, 3) := by decide +kernel
theorem dX4_look_32 : decode cX4_look 32 = .ok (.goto (-21), 3) := by decide +kernel
theorem dX4_look_35 : decode cX4_look 35 = .ok (.aload_n 1, 1) := by decide +kernel
theorem dX4_look_36 : decode cX4_look 36 = .ok (.aload_n 2, 1) := by decide +kernel
theorem dX4_look_37 : decode cX4_look 37 = .ok (.iload_n 3, 1) := by decide +kernel
theorem dX4_look_38 : decode cX4_look 38 = .ok (.invokevirtual 44, 3) := by decide +kernel
theorem dX4_look_41 : decode cX4_look 41 = .ok (.invokevirtual 50, 3) := by decide +kernel
theorem dX4_look_44 : decode cX4_look 44 = .ok (.astore 4, 2) := by decide +kernel
theorem dX4_look_46 : decode cX4_look 46 = .ok (.aload 4, 2) := by decide +kernel
theorem dX4_look_48 : decode cX4_look 48 = .ok (.ifnull 50, 3) := by decide +kernel
theorem dX4_look_51 : decode cX4_look 51 = .ok (.aload 4, 2) := by decide +kernel
theorem dX4_look_53 : decode cX4_look 53 = .ok (.getfield 54, 3) := by decide +kernel
theorem dX4_look_56 : decode cX4_look 56 = .ok (.ifCond .ne 42, 3) := by decide +kernel
theorem dX4_look_59 : decode cX4_look 59 = .ok (.aload 4, 2) := by decide +kernel
theorem dX4_look_61 : decode cX4_look 61 = .ok (.getfield 59, 3) := by decide +kernel
theorem dX4_look_64 : decode cX4_look 64 = .ok (.ifCond .ne 34, 3) := by decide +kernel
theorem dX4_look_67 : decode cX4_look 67 = .ok (.aload_n 1, 1) := by decide +kernel
theorem dX4_look_68 : decode cX4_look 68 = .ok (.aload 4, 2) := by decide +kernel
theorem dX4_look_70 : decode cX4_look 70 = .ok (.getfield 63, 3) := by decide +kernel
theorem dX4_look_73 : decode cX4_look 73 = .ok (.aload 4, 2) := by decide +kernel
theorem dX4_look_75 : decode cX4_look 75 = .ok (.getfield 66, 3) := by decide +kernel
theorem dX4_look_78 : decode cX4_look 78 = .ok (.invokevirtual 70, 3) := by decide +kernel
theorem dX4_look_81 : decode cX4_look 81 = .ok (.istore 5, 2) := by decide +kernel
theorem dX4_look_83 : decode cX4_look 83 = .ok (.iload 5, 2) := by decide +kernel
theorem dX4_look_85 : decode cX4_look 85 = .ok (.ifCond .lt 13, 3) := by decide +kernel
theorem dX4_look_88 : decode cX4_look 88 = .ok (.aload_n 0, 1) := by decide +kernel
theorem dX4_look_89 : decode cX4_look 89 = .ok (.getfield 9, 3) := by decide +kernel
theorem dX4_look_92 : decode cX4_look 92 = .ok (.iconst 1, 1) := by decide +kernel
theorem dX4_look_93 : decode cX4_look 93 = .ok (.iconst 1, 1) := by decide +kernel
theorem dX4_look_94 : decode cX4_look 94 = .ok (.iload 5, 2) := by decide +kernel
theorem dX4_look_96 : decode cX4_look 96 = .ok (.ishl, 1) := by decide +kernel
theorem dX4_look_97 : decode cX4_look 97 = .ok (.iastore, 1) := by decide +kernel
theorem dX4_look_98 : decode cX4_look 98 = .ok (.return_, 1) := by decide +kernel
theorem dX4_wordsBy_0 : decode cX4_wordsBy 0 = .ok (.iload_n 1, 1) := by decide +kernel
theorem dX4_wordsBy_1 : decode cX4_wordsBy 1 = .ok (.ifCond .lt 18, 3) := by decide +kernel
theorem dX4_wordsBy_4 : decode cX4_wordsBy 4 = .ok (.iload_n 1, 1) := by decide +kernel
theorem dX4_wordsBy_5 : decode cX4_wordsBy 5 = .ok (.bipush 9, 2) := by decide +kernel
theorem dX4_wordsBy_7 : decode cX4_wordsBy 7 = .ok (.if_icmp .gt 12, 3) := by decide +kernel
theorem dX4_wordsBy_10 : decode cX4_wordsBy 10 = .ok (.aload_n 0, 1) := by decide +kernel
theorem dX4_wordsBy_11 : decode cX4_wordsBy 11 = .ok (.getfield 9, 3) := by decide +kernel
theorem dX4_wordsBy_14 : decode cX4_wordsBy 14 = .ok (.iload_n 1, 1) := by decide +kernel
theorem dX4_wordsBy_15 : decode cX4_wordsBy 15 = .ok (.iaload, 1) := by decide +kernel
theorem dX4_wordsBy_16 : decode cX4_wordsBy 16 = .ok (.goto 4, 3) := by decide +kernel
theorem dX4_wordsBy_19 : decode cX4_wordsBy 19 = .ok (.iconst 0, 1) := by decide +kernel
theorem dX4_wordsBy_20 : decode cX4_wordsBy 20 = .ok (.ireturn, 1) := by decide +kernel
theorem dX4_follow_0 : decode cX4_follow 0 = .ok (.aload_n 1, 1) := by decide +kernel
theorem dX4_follow_1 : decode cX4_follow 1 = .ok (.iload_n 2, 1) := by decide +kernel
theorem dX4_follow_2 : decode cX4_follow 2 = .ok (.invokevirtual 74, 3) := by decide +kernel
theorem dX4_follow_5 : decode cX4_follow 5 = .ok (.astore 5, 2) := by decide +kernel
theorem dX4_follow_7 : decode cX4_follow 7 = .ok (.iconst 0, 1) := by decide +kernel
theorem dX4_follow_8 : decode cX4_follow 8 = .ok (.istore 6, 2) := by decide +kernel
theorem dX4_follow_10 : decode cX4_follow 10 = .ok (.iconst 1, 1) := by decide +kernel
theorem dX4_follow_11 : decode cX4_follow 11 = .ok (.istore 7, 2) := by decide +kernel
theorem dX4_follow_13 : decode cX4_follow 13 = .ok (.iload 7, 2) := by decide +kernel
theorem dX4_follow_15 : decode cX4_follow 15 = .ok (.bipush 9, 2) := by decide +kernel
theorem dX4_follow_17 : decode cX4_follow 17 = .ok (.if_icmp .gt 117, 3) := by decide +kernel
theorem dX4_follow_20 : decode cX4_follow 20 = .ok (.aload 5, 2) := by decide +kernel
theorem dX4_follow_22 : decode cX4_follow 22 = .ok (.ifnull 112, 3) := by decide +kernel
theorem dX4_follow_25 : decode cX4_follow 25 = .ok (.aload_n 1, 1) := by decide +kernel
theorem dX4_follow_26 : decode cX4_follow 26 = .ok (.aload_n 3, 1) := by decide +kernel
theorem dX4_follow_27 : decode cX4_follow 27 = .ok (.iload 4, 2) := by decide +kernel
theorem dX4_follow_29 : decode cX4_follow 29 = .ok (.iload 7, 2) := by decide +kernel
theorem dX4_follow_31 : decode cX4_follow 31 = .ok (.iadd, 1) := by decide +kernel
theorem dX4_follow_32 : decode cX4_follow 32 = .ok (.iconst 1, 1) := by decide +kernel
theorem dX4_follow_33 : decode cX4_follow 33 = .ok (.isub, 1) := by decide +kernel
theorem dX4_follow_34 : decode cX4_follow 34 = .ok (.invokevirtual 44, 3) := by decide +kernel
theorem dX4_follow_37 : decode cX4_follow 37 = .ok (.invokevirtual 50, 3) := by decide +kernel
theorem dX4_follow_40 : decode cX4_follow 40 = .ok (.astore 8, 2) := by decide +kernel
theorem dX4_follow_42 : decode cX4_follow 42 = .ok (.aload 8, 2) := by decide +kernel
theorem dX4_follow_44 : decode cX4_follow 44 = .ok (.ifnonnull 4, 3) := by decide +kernel
theorem dX4_follow_47 : decode cX4_follow 47 = .ok (.return_, 1) := by decide +kernel
theorem dX4_follow_48 : decode cX4_follow 48 = .ok (.iload 7, 2) := by decide +kernel
theorem dX4_follow_50 : decode cX4_follow 50 = .ok (.iconst 1, 1) := by decide +kernel
theorem dX4_follow_51 : decode cX4_follow 51 = .ok (.if_icmp .le 21, 3) := by decide +kernel
theorem dX4_follow_54 : decode cX4_follow 54 = .ok (.aload_n 1, 1) := by decide +kernel
theorem dX4_follow_55 : decode cX4_follow 55 = .ok (.aload 8, 2) := by decide +kernel
theorem dX4_follow_57 : decode cX4_follow 57 = .ok (.aload 5, 2) := by decide +kernel
theorem dX4_follow_59 : decode cX4_follow 59 = .ok (.getfield 78, 3) := by decide +kernel
theorem dX4_follow_62 : decode cX4_follow 62 = .ok (.invokevirtual 81, 3) := by decide +kernel
theorem dX4_follow_65 : decode cX4_follow 65 = .ok (.ifCond .eq 7, 3) := by decide +kernel
theorem dX4_follow_68 : decode cX4_follow 68 = .ok (.iconst 1, 1) := by decide +kernel
theorem dX4_follow_69 : decode cX4_follow 69 = .ok (.goto 4, 3) := by decide +kernel
theorem dX4_follow_72 : decode cX4_follow 72 = .ok (.iconst 0, 1) := by decide +kernel
theorem dX4_follow_73 : decode cX4_follow 73 = .ok (.istore 9, 2) := by decide +kernel
theorem dX4_follow_75 : decode cX4_follow 75 = .ok (.iload 9, 2) := by decide +kernel
theorem dX4_follow_77 : decode cX4_follow 77 = .ok (.ifCond .ne 15, 3) := by decide +kernel
theorem dX4_follow_80 : decode cX4_follow 80 = .ok (.aload_n 1, 1) := by decide +kernel
theorem dX4_follow_81 : decode cX4_follow 81 = .ok (.aload 5, 2) := by decide +kernel
theorem dX4_follow_83 : decode cX4_follow 83 = .ok (.iload 6, 2) := by decide +kernel
theorem dX4_follow_85 : decode cX4_follow 85 = .ok (.aload 8, 2) := by decide +kernel
theorem dX4_follow_87 : decode cX4_follow 87 = .ok (.invokevirtual 85, 3) := by decide +kernel
theorem dX4_follow_90 : decode cX4_follow 90 = .ok (.istore 6, 2) := by decide +kernel
theorem dX4_follow_92 : decode cX4_follow 92 = .ok (.iload 6, 2) := by decide +kernel
theorem dX4_follow_94 : decode cX4_follow 94 = .ok (.ifCond .ge 4, 3) := by decide +kernel
theorem dX4_follow_97 : decode cX4_follow 97 = .ok (.return_, 1) := by decide +kernel
theorem dX4_follow_98 : decode cX4_follow 98 = .ok (.aload_n 1, 1) := by decide +kernel
theorem dX4_follow_99 : decode cX4_follow 99 = .ok (.aload 5, 2) := by decide +kernel
theorem dX4_follow_101 : decode cX4_follow 101 = .ok (.iload 6, 2) := by decide +kernel
theorem dX4_follow_103 : decode cX4_follow 103 = .ok (.invokevirtual 89, 3) := by decide +kernel
theorem dX4_follow_106 : decode cX4_follow 106 = .ok (.ifCond .eq 16, 3) := by decide +kernel
theorem dX4_follow_109 : decode cX4_follow 109 = .ok (.aload_n 0, 1) := by decide +kernel
theorem dX4_follow_110 : decode cX4_follow 110 = .ok (.getfield 9, 3) := by decide +kernel
theorem dX4_follow_113 : decode cX4_follow 113 = .ok (.iload 7, 2) := by decide +kernel
theorem dX4_follow_115 : decode cX4_follow 115 = .ok (.dup2, 1) := by decide +kernel
theorem dX4_follow_116 : decode cX4_follow 116 = .ok (.iaload, 1) := by decide +kernel
theorem dX4_follow_117 : decode cX4_follow 117 = .ok (.iconst 1, 1) := by decide +kernel
theorem dX4_follow_118 : decode cX4_follow 118 = .ok (.iload_n 2, 1) := by decide +kernel
theorem dX4_follow_119 : decode cX4_follow 119 = .ok (.ishl, 1) := by decide +kernel
theorem dX4_follow_120 : decode cX4_follow 120 = .ok (.ior, 1) := by decide +kernel
theorem dX4_follow_121 : decode cX4_follow 121 = .ok (.iastore, 1) := by decide +kernel
theorem dX4_follow_122 : decode cX4_follow 122 = .ok (.iload 9, 2) := by decide +kernel
theorem dX4_follow_124 : decode cX4_follow 124 = .ok (.ifCond .eq 4, 3) := by decide +kernel
theorem dX4_follow_127 : decode cX4_follow 127 = .ok (.return_, 1) := by decide +kernel
theorem dX4_follow_128 : decode cX4_follow 128 = .ok (.iinc 7 1, 3) := by decide +kernel
theorem dX4_follow_131 : decode cX4_follow 131 = .ok (.goto (-118), 3) := by decide +kernel
theorem dX4_follow_134 : decode cX4_follow 134 = .ok (.return_, 1) := by decide +kernel
theorem dX4_plan_0 : decode cX4_plan 0 = .ok (.aload_n 2, 1) := by decide +kernel
theorem dX4_plan_1 : decode cX4_plan 1 = .ok (.invokevirtual 93, 3) := by decide +kernel
theorem dX4_plan_4 : decode cX4_plan 4 = .ok (.bipush 16, 2) := by decide +kernel
theorem dX4_plan_6 : decode cX4_plan 6 = .ok (.invokestatic 97, 3) := by decide +kernel
theorem dX4_plan_9 : decode cX4_plan 9 = .ok (.istore_n 3, 1) := by decide +kernel
theorem dX4_plan_10 : decode cX4_plan 10 = .ok (.aload_n 0, 1) := by decide +kernel
theorem dX4_plan_11 : decode cX4_plan 11 = .ok (.getfield 15, 3) := by decide +kernel
theorem dX4_plan_14 : decode cX4_plan 14 = .ok (.lconst 0, 1) := by decide +kernel
theorem dX4_plan_15 : decode cX4_plan 15 = .ok (.invokestatic 103, 3) := by decide +kernel
theorem dX4_plan_18 : decode cX4_plan 18 = .ok (.aload_n 0, 1) := by decide +kernel
theorem dX4_plan_19 : decode cX4_plan 19 = .ok (.getfield 19, 3) := by decide +kernel
theorem dX4_plan_22 : decode cX4_plan 22 = .ok (.sipush 1000, 3) := by decide +kernel
theorem dX4_plan_25 : decode cX4_plan 25 = .ok (.invokestatic 28, 3) := by decide +kernel
theorem dX4_plan_28 : decode cX4_plan 28 = .ok (.iload_n 3, 1) := by decide +kernel
theorem dX4_plan_29 : decode cX4_plan 29 = .ok (.ifCond .ge 4, 3) := by decide +kernel
theorem dX4_plan_32 : decode cX4_plan 32 = .ok (.return_, 1) := by decide +kernel
theorem dX4_plan_33 : decode cX4_plan 33 = .ok (.aload_n 0, 1) := by decide +kernel
theorem dX4_plan_34 : decode cX4_plan 34 = .ok (.getfield 15, 3) := by decide +kernel
theorem dX4_plan_37 : decode cX4_plan 37 = .ok (.iload_n 3, 1) := by decide +kernel
theorem dX4_plan_38 : decode cX4_plan 38 = .ok (.lconst 1, 1) := by decide +kernel
theorem dX4_plan_39 : decode cX4_plan 39 = .ok (.lastore, 1) := by decide +kernel
theorem dX4_plan_40 : decode cX4_plan 40 = .ok (.aload_n 0, 1) := by decide +kernel
theorem dX4_plan_41 : decode cX4_plan 41 = .ok (.getfield 19, 3) := by decide +kernel
theorem dX4_plan_44 : decode cX4_plan 44 = .ok (.iload_n 3, 1) := by decide +kernel
theorem dX4_plan_45 : decode cX4_plan 45 = .ok (.iconst 0, 1) := by decide +kernel
theorem dX4_plan_46 : decode cX4_plan 46 = .ok (.iastore, 1) := by decide +kernel
theorem dX4_plan_47 : decode cX4_plan 47 = .ok (.iload_n 3, 1) := by decide +kernel
theorem dX4_plan_48 : decode cX4_plan 48 = .ok (.iconst 1, 1) := by decide +kernel
theorem dX4_plan_49 : decode cX4_plan 49 = .ok (.isub, 1) := by decide +kernel
theorem dX4_plan_50 : decode cX4_plan 50 = .ok (.istore 4, 2) := by decide +kernel
theorem dX4_plan_52 : decode cX4_plan 52 = .ok (.iload 4, 2) := by decide +kernel
theorem dX4_plan_54 : decode cX4_plan 54 = .ok (.ifCond .lt 24, 3) := by decide +kernel
theorem dX4_plan_57 : decode cX4_plan 57 = .ok (.aload_n 0, 1) := by decide +kernel
theorem dX4_plan_58 : decode cX4_plan 58 = .ok (.aload_n 1, 1) := by decide +kernel
theorem dX4_plan_59 : decode cX4_plan 59 = .ok (.aload_n 2, 1) := by decide +kernel
theorem dX4_plan_60 : decode cX4_plan 60 = .ok (.iload 4, 2) := by decide +kernel
theorem dX4_plan_62 : decode cX4_plan 62 = .ok (.invokevirtual 106, 3) := by decide +kernel
theorem dX4_plan_65 : decode cX4_plan 65 = .ok (.aload_n 0, 1) := by decide +kernel
theorem dX4_plan_66 : decode cX4_plan 66 = .ok (.iload 4, 2) := by decide +kernel
theorem dX4_plan_68 : decode cX4_plan 68 = .ok (.iload_n 3, 1) := by decide +kernel
theorem dX4_plan_69 : decode cX4_plan 69 = .ok (.invokevirtual 110, 3) := by decide +kernel
theorem dX4_plan_72 : decode cX4_plan 72 = .ok (.iinc 4 (-1), 3) := by decide +kernel
theorem dX4_plan_75 : decode cX4_plan 75 = .ok (.goto (-23), 3) := by decide +kernel
theorem dX4_plan_78 : decode cX4_plan 78 = .ok (.return_, 1) := by decide +kernel
theorem dX4_join_0 : decode cX4_join 0 = .ok (.iload_n 1, 1) := by decide +kernel
theorem dX4_join_1 : decode cX4_join 1 = .ok (.ifCond .lt 9, 3) := by decide +kernel
theorem dX4_join_4 : decode cX4_join 4 = .ok (.iload_n 2, 1) := by decide +kernel
theorem dX4_join_5 : decode cX4_join 5 = .ok (.bipush 16, 2) := by decide +kernel
theorem dX4_join_7 : decode cX4_join 7 = .ok (.if_icmp .le 4, 3) := by decide +kernel
theorem dX4_join_10 : decode cX4_join 10 = .ok (.return_, 1) := by decide +kernel
theorem dX4_join_11 : decode cX4_join 11 = .ok (.iconst 1, 1) := by decide +kernel
theorem dX4_join_12 : decode cX4_join 12 = .ok (.istore_n 3, 1) := by decide +kernel
theorem dX4_join_13 : decode cX4_join 13 = .ok (.iload_n 3, 1) := by decide +kernel
theorem dX4_join_14 : decode cX4_join 14 = .ok (.bipush 9, 2) := by decide +kernel
theorem dX4_join_16 : decode cX4_join 16 = .ok (.if_icmp .gt 109, 3) := by decide +kernel
theorem dX4_join_19 : decode cX4_join 19 = .ok (.iload_n 1, 1) := by decide +kernel
theorem dX4_join_20 : decode cX4_join 20 = .ok (.iload_n 3, 1) := by decide +kernel
theorem dX4_join_21 : decode cX4_join 21 = .ok (.iadd, 1) := by decide +kernel
theorem dX4_join_22 : decode cX4_join 22 = .ok (.iload_n 2, 1) := by decide +kernel
theorem dX4_join_23 : decode cX4_join 23 = .ok (.if_icmp .gt 102, 3) := by decide +kernel
theorem dX4_join_26 : decode cX4_join 26 = .ok (.aload_n 0, 1) := by decide +kernel
theorem dX4_join_27 : decode cX4_join 27 = .ok (.getfield 9, 3) := by decide +kernel
theorem dX4_join_30 : decode cX4_join 30 = .ok (.iload_n 3, 1) := by decide +kernel
theorem dX4_join_31 : decode cX4_join 31 = .ok (.iaload, 1) := by decide +kernel
theorem dX4_join_32 : decode cX4_join 32 = .ok (.istore 4, 2) := by decide +kernel
theorem dX4_join_34 : decode cX4_join 34 = .ok (.iload 4, 2) := by decide +kernel
theorem dX4_join_36 : decode cX4_join 36 = .ok (.ifCond .ne 6, 3) := by decide +kernel
theorem dX4_join_39 : decode cX4_join 39 = .ok (.goto 80, 3) := by decide +kernel
theorem dX4_join_42 : decode cX4_join 42 = .ok (.aload_n 0, 1) := by decide +kernel
theorem dX4_join_43 : decode cX4_join 43 = .ok (.getfield 15, 3) := by decide +kernel
theorem dX4_join_46 : decode cX4_join 46 = .ok (.iload_n 1, 1) := by decide +kernel
theorem dX4_join_47 : decode cX4_join 47 = .ok (.dup2, 1) := by decide +kernel
theorem dX4_join_48 : decode cX4_join 48 = .ok (.laload, 1) := by decide +kernel
theorem dX4_join_49 : decode cX4_join 49 = .ok (.iload 4, 2) := by decide +kernel
theorem dX4_join_51 : decode cX4_join 51 = .ok (.invokestatic 114, 3) := by decide +kernel
theorem dX4_join_54 : decode cX4_join 54 = .ok (.i2l, 1) := by decide +kernel
theorem dX4_join_55 : decode cX4_join 55 = .ok (.aload_n 0, 1) := by decide +kernel
theorem dX4_join_56 : decode cX4_join 56 = .ok (.getfield 15, 3) := by decide +kernel
theorem dX4_join_59 : decode cX4_join 59 = .ok (.iload_n 1, 1) := by decide +kernel
theorem dX4_join_60 : decode cX4_join 60 = .ok (.iload_n 3, 1) := by decide +kernel
theorem dX4_join_61 : decode cX4_join 61 = .ok (.iadd, 1) := by decide +kernel
theorem dX4_join_62 : decode cX4_join 62 = .ok (.laload, 1) := by decide +kernel
theorem dX4_join_63 : decode cX4_join 63 = .ok (.lmul, 1) := by decide +kernel
theorem dX4_join_64 : decode cX4_join 64 = .ok (.ladd, 1) := by decide +kernel
theorem dX4_join_65 : decode cX4_join 65 = .ok (.lastore, 1) := by decide +kernel
theorem dX4_join_66 : decode cX4_join 66 = .ok (.aload_n 0, 1) := by decide +kernel
theorem dX4_join_67 : decode cX4_join 67 = .ok (.getfield 19, 3) := by decide +kernel
theorem dX4_join_70 : decode cX4_join 70 = .ok (.iload_n 1, 1) := by decide +kernel
theorem dX4_join_71 : decode cX4_join 71 = .ok (.iload_n 3, 1) := by decide +kernel
theorem dX4_join_72 : decode cX4_join 72 = .ok (.iadd, 1) := by decide +kernel
theorem dX4_join_73 : decode cX4_join 73 = .ok (.iaload, 1) := by decide +kernel
theorem dX4_join_74 : decode cX4_join 74 = .ok (.iconst 1, 1) := by decide +kernel
theorem dX4_join_75 : decode cX4_join 75 = .ok (.iadd, 1) := by decide +kernel
theorem dX4_join_76 : decode cX4_join 76 = .ok (.aload_n 0, 1) := by decide +kernel
theorem dX4_join_77 : decode cX4_join 77 = .ok (.getfield 19, 3) := by decide +kernel
theorem dX4_join_80 : decode cX4_join 80 = .ok (.iload_n 1, 1) := by decide +kernel
theorem dX4_join_81 : decode cX4_join 81 = .ok (.iaload, 1) := by decide +kernel
theorem dX4_join_82 : decode cX4_join 82 = .ok (.if_icmp .ge 37, 3) := by decide +kernel
theorem dX4_join_85 : decode cX4_join 85 = .ok (.aload_n 0, 1) := by decide +kernel
theorem dX4_join_86 : decode cX4_join 86 = .ok (.getfield 19, 3) := by decide +kernel
theorem dX4_join_89 : decode cX4_join 89 = .ok (.iload_n 1, 1) := by decide +kernel
theorem dX4_join_90 : decode cX4_join 90 = .ok (.aload_n 0, 1) := by decide +kernel
theorem dX4_join_91 : decode cX4_join 91 = .ok (.getfield 19, 3) := by decide +kernel
theorem dX4_join_94 : decode cX4_join 94 = .ok (.iload_n 1, 1) := by decide +kernel
theorem dX4_join_95 : decode cX4_join 95 = .ok (.iload_n 3, 1) := by decide +kernel
theorem dX4_join_96 : decode cX4_join 96 = .ok (.iadd, 1) := by decide +kernel
theorem dX4_join_97 : decode cX4_join 97 = .ok (.iaload, 1) := by decide +kernel
theorem dX4_join_98 : decode cX4_join 98 = .ok (.iconst 1, 1) := by decide +kernel
theorem dX4_join_99 : decode cX4_join 99 = .ok (.iadd, 1) := by decide +kernel
theorem dX4_join_100 : decode cX4_join 100 = .ok (.iastore, 1) := by decide +kernel
theorem dX4_join_101 : decode cX4_join 101 = .ok (.aload_n 0, 1) := by decide +kernel
theorem dX4_join_102 : decode cX4_join 102 = .ok (.getfield 22, 3) := by decide +kernel
theorem dX4_join_105 : decode cX4_join 105 = .ok (.iload_n 1, 1) := by decide +kernel
theorem dX4_join_106 : decode cX4_join 106 = .ok (.iload_n 3, 1) := by decide +kernel
theorem dX4_join_107 : decode cX4_join 107 = .ok (.iastore, 1) := by decide +kernel
theorem dX4_join_108 : decode cX4_join 108 = .ok (.aload_n 0, 1) := by decide +kernel
theorem dX4_join_109 : decode cX4_join 109 = .ok (.getfield 25, 3) := by decide +kernel
theorem dX4_join_112 : decode cX4_join 112 = .ok (.iload_n 1, 1) := by decide +kernel
theorem dX4_join_113 : decode cX4_join 113 = .ok (.iload 4, 2) := by decide +kernel
theorem dX4_join_115 : decode cX4_join 115 = .ok (.invokestatic 119, 3) := by decide +kernel
theorem dX4_join_118 : decode cX4_join 118 = .ok (.iastore, 1) := by decide +kernel
theorem dX4_join_119 : decode cX4_join 119 = .ok (.iinc 3 1, 3) := by decide +kernel
theorem dX4_join_122 : decode cX4_join 122 = .ok (.goto (-109), 3) := by decide +kernel
theorem dX4_join_125 : decode cX4_join 125 = .ok (.return_, 1) := by decide +kernel
theorem dX4_lowestBit_0 : decode cX4_lowestBit 0 = .ok (.iconst 0, 1) := by decide +kernel
theorem dX4_lowestBit_1 : decode cX4_lowestBit 1 = .ok (.istore_n 1, 1) := by decide +kernel
theorem dX4_lowestBit_2 : decode cX4_lowestBit 2 = .ok (.iload_n 1, 1) := by decide +kernel
theorem dX4_lowestBit_3 : decode cX4_lowestBit 3 = .ok (.bipush 8, 2) := by decide +kernel
theorem dX4_lowestBit_5 : decode cX4_lowestBit 5 = .ok (.if_icmp .ge 19, 3) := by decide +kernel
theorem dX4_lowestBit_8 : decode cX4_lowestBit 8 = .ok (.iload_n 0, 1) := by decide +kernel
theorem dX4_lowestBit_9 : decode cX4_lowestBit 9 = .ok (.iload_n 1, 1) := by decide +kernel
theorem dX4_lowestBit_10 : decode cX4_lowestBit 10 = .ok (.ishr, 1) := by decide +kernel
theorem dX4_lowestBit_11 : decode cX4_lowestBit 11 = .ok (.iconst 1, 1) := by decide +kernel
theorem dX4_lowestBit_12 : decode cX4_lowestBit 12 = .ok (.iand, 1) := by decide +kernel
theorem dX4_lowestBit_13 : decode cX4_lowestBit 13 = .ok (.ifCond .eq 5, 3) := by decide +kernel
theorem dX4_lowestBit_16 : decode cX4_lowestBit 16 = .ok (.iload_n 1, 1) := by decide +kernel
theorem dX4_lowestBit_17 : decode cX4_lowestBit 17 = .ok (.ireturn, 1) := by decide +kernel
theorem dX4_lowestBit_18 : decode cX4_lowestBit 18 = .ok (.iinc 1 1, 3) := by decide +kernel
theorem dX4_lowestBit_21 : decode cX4_lowestBit 21 = .ok (.goto (-19), 3) := by decide +kernel
theorem dX4_lowestBit_24 : decode cX4_lowestBit 24 = .ok (.bipush (-4), 2) := by decide +kernel
theorem dX4_lowestBit_26 : decode cX4_lowestBit 26 = .ok (.ireturn, 1) := by decide +kernel
theorem dX4_waysInAll_0 : decode cX4_waysInAll 0 = .ok (.aload_n 0, 1) := by decide +kernel
theorem dX4_waysInAll_1 : decode cX4_waysInAll 1 = .ok (.getfield 15, 3) := by decide +kernel
theorem dX4_waysInAll_4 : decode cX4_waysInAll 4 = .ok (.iconst 0, 1) := by decide +kernel
theorem dX4_waysInAll_5 : decode cX4_waysInAll 5 = .ok (.laload, 1) := by decide +kernel
theorem dX4_waysInAll_6 : decode cX4_waysInAll 6 = .ok (.lreturn, 1) := by decide +kernel
theorem dX4_fewestWords_0 : decode cX4_fewestWords 0 = .ok (.aload_n 0, 1) := by decide +kernel
theorem dX4_fewestWords_1 : decode cX4_fewestWords 1 = .ok (.getfield 19, 3) := by decide +kernel
theorem dX4_fewestWords_4 : decode cX4_fewestWords 4 = .ok (.iconst 0, 1) := by decide +kernel
theorem dX4_fewestWords_5 : decode cX4_fewestWords 5 = .ok (.iaload, 1) := by decide +kernel
theorem dX4_fewestWords_6 : decode cX4_fewestWords 6 = .ok (.ireturn, 1) := by decide +kernel
theorem dX4_plannedWord_0 : decode cX4_plannedWord 0 = .ok (.aload_n 0, 1) := by decide +kernel
theorem dX4_plannedWord_1 : decode cX4_plannedWord 1 = .ok (.iload_n 1, 1) := by decide +kernel
theorem dX4_plannedWord_2 : decode cX4_plannedWord 2 = .ok (.invokevirtual 122, 3) := by decide +kernel
theorem dX4_plannedWord_5 : decode cX4_plannedWord 5 = .ok (.istore_n 2, 1) := by decide +kernel
theorem dX4_plannedWord_6 : decode cX4_plannedWord 6 = .ok (.iload_n 2, 1) := by decide +kernel
theorem dX4_plannedWord_7 : decode cX4_plannedWord 7 = .ok (.ifCond .lt 18, 3) := by decide +kernel
theorem dX4_plannedWord_10 : decode cX4_plannedWord 10 = .ok (.iload_n 2, 1) := by decide +kernel
theorem dX4_plannedWord_11 : decode cX4_plannedWord 11 = .ok (.bipush 16, 2) := by decide +kernel
theorem dX4_plannedWord_13 : decode cX4_plannedWord 13 = .ok (.if_icmp .gt 12, 3) := by decide +kernel
theorem dX4_plannedWord_16 : decode cX4_plannedWord 16 = .ok (.aload_n 0, 1) := by decide +kernel
theorem dX4_plannedWord_17 : decode cX4_plannedWord 17 = .ok (.getfield 25, 3) := by decide +kernel
theorem dX4_plannedWord_20 : decode cX4_plannedWord 20 = .ok (.iload_n 2, 1) := by decide +kernel
theorem dX4_plannedWord_21 : decode cX4_plannedWord 21 = .ok (.iaload, 1) := by decide +kernel
theorem dX4_plannedWord_22 : decode cX4_plannedWord 22 = .ok (.goto 5, 3) := by decide +kernel
theorem dX4_plannedWord_25 : decode cX4_plannedWord 25 = .ok (.bipush (-4), 2) := by decide +kernel
theorem dX4_plannedWord_27 : decode cX4_plannedWord 27 = .ok (.ireturn, 1) := by decide +kernel
theorem dX4_plannedCut_0 : decode cX4_plannedCut 0 = .ok (.aload_n 0, 1) := by decide +kernel
theorem dX4_plannedCut_1 : decode cX4_plannedCut 1 = .ok (.iload_n 1, 1) := by decide +kernel
theorem dX4_plannedCut_2 : decode cX4_plannedCut 2 = .ok (.invokevirtual 122, 3) := by decide +kernel
theorem dX4_plannedCut_5 : decode cX4_plannedCut 5 = .ok (.istore_n 2, 1) := by decide +kernel
theorem dX4_plannedCut_6 : decode cX4_plannedCut 6 = .ok (.iload_n 2, 1) := by decide +kernel
theorem dX4_plannedCut_7 : decode cX4_plannedCut 7 = .ok (.ifCond .lt 18, 3) := by decide +kernel
theorem dX4_plannedCut_10 : decode cX4_plannedCut 10 = .ok (.iload_n 2, 1) := by decide +kernel
theorem dX4_plannedCut_11 : decode cX4_plannedCut 11 = .ok (.bipush 16, 2) := by decide +kernel
theorem dX4_plannedCut_13 : decode cX4_plannedCut 13 = .ok (.if_icmp .gt 12, 3) := by decide +kernel
theorem dX4_plannedCut_16 : decode cX4_plannedCut 16 = .ok (.aload_n 0, 1) := by decide +kernel
theorem dX4_plannedCut_17 : decode cX4_plannedCut 17 = .ok (.getfield 22, 3) := by decide +kernel
theorem dX4_plannedCut_20 : decode cX4_plannedCut 20 = .ok (.iload_n 2, 1) := by decide +kernel
theorem dX4_plannedCut_21 : decode cX4_plannedCut 21 = .ok (.iaload, 1) := by decide +kernel
theorem dX4_plannedCut_22 : decode cX4_plannedCut 22 = .ok (.goto 5, 3) := by decide +kernel
theorem dX4_plannedCut_25 : decode cX4_plannedCut 25 = .ok (.bipush (-4), 2) := by decide +kernel
theorem dX4_plannedCut_27 : decode cX4_plannedCut 27 = .ok (.ireturn, 1) := by decide +kernel
theorem dX4_startOf_0 : decode cX4_startOf 0 = .ok (.aload_n 0, 1) := by decide +kernel
theorem dX4_startOf_1 : decode cX4_startOf 1 = .ok (.getfield 19, 3) := by decide +kernel
theorem dX4_startOf_4 : decode cX4_startOf 4 = .ok (.iconst 0, 1) := by decide +kernel
theorem dX4_startOf_5 : decode cX4_startOf 5 = .ok (.iaload, 1) := by decide +kernel
theorem dX4_startOf_6 : decode cX4_startOf 6 = .ok (.sipush 1000, 3) := by decide +kernel
theorem dX4_startOf_9 : decode cX4_startOf 9 = .ok (.if_icmp .ge 17, 3) := by decide +kernel
theorem dX4_startOf_12 : decode cX4_startOf 12 = .ok (.iload_n 1, 1) := by decide +kernel
theorem dX4_startOf_13 : decode cX4_startOf 13 = .ok (.ifCond .lt 13, 3) := by decide +kernel
theorem dX4_startOf_16 : decode cX4_startOf 16 = .ok (.iload_n 1, 1) := by decide +kernel
theorem dX4_startOf_17 : decode cX4_startOf 17 = .ok (.aload_n 0, 1) := by decide +kernel
theorem dX4_startOf_18 : decode cX4_startOf 18 = .ok (.getfield 19, 3) := by decide +kernel
theorem dX4_startOf_21 : decode cX4_startOf 21 = .ok (.iconst 0, 1) := by decide +kernel
theorem dX4_startOf_22 : decode cX4_startOf 22 = .ok (.iaload, 1) := by decide +kernel
theorem dX4_startOf_23 : decode cX4_startOf 23 = .ok (.if_icmp .lt 6, 3) := by decide +kernel
theorem dX4_startOf_26 : decode cX4_startOf 26 = .ok (.bipush (-4), 2) := by decide +kernel
theorem dX4_startOf_28 : decode cX4_startOf 28 = .ok (.ireturn, 1) := by decide +kernel
theorem dX4_startOf_29 : decode cX4_startOf 29 = .ok (.iconst 0, 1) := by decide +kernel
theorem dX4_startOf_30 : decode cX4_startOf 30 = .ok (.istore_n 2, 1) := by decide +kernel
theorem dX4_startOf_31 : decode cX4_startOf 31 = .ok (.iconst 0, 1) := by decide +kernel
theorem dX4_startOf_32 : decode cX4_startOf 32 = .ok (.istore_n 3, 1) := by decide +kernel
theorem dX4_startOf_33 : decode cX4_startOf 33 = .ok (.iload_n 3, 1) := by decide +kernel
theorem dX4_startOf_34 : decode cX4_startOf 34 = .ok (.iload_n 1, 1) := by decide +kernel
theorem dX4_startOf_35 : decode cX4_startOf 35 = .ok (.if_icmp .ge 28, 3) := by decide +kernel
theorem dX4_startOf_38 : decode cX4_startOf 38 = .ok (.iload_n 2, 1) := by decide +kernel
theorem dX4_startOf_39 : decode cX4_startOf 39 = .ok (.ifCond .lt 24, 3) := by decide +kernel
theorem dX4_startOf_42 : decode cX4_startOf 42 = .ok (.iload_n 2, 1) := by decide +kernel
theorem dX4_startOf_43 : decode cX4_startOf 43 = .ok (.bipush 16, 2) := by decide +kernel
theorem dX4_startOf_45 : decode cX4_startOf 45 = .ok (.if_icmp .gt 18, 3) := by decide +kernel
theorem dX4_startOf_48 : decode cX4_startOf 48 = .ok (.iload_n 2, 1) := by decide +kernel
theorem dX4_startOf_49 : decode cX4_startOf 49 = .ok (.aload_n 0, 1) := by decide +kernel
theorem dX4_startOf_50 : decode cX4_startOf 50 = .ok (.getfield 22, 3) := by decide +kernel
theorem dX4_startOf_53 : decode cX4_startOf 53 = .ok (.iload_n 2, 1) := by decide +kernel
theorem dX4_startOf_54 : decode cX4_startOf 54 = .ok (.iaload, 1) := by decide +kernel
theorem dX4_startOf_55 : decode cX4_startOf 55 = .ok (.iadd, 1) := by decide +kernel
theorem dX4_startOf_56 : decode cX4_startOf 56 = .ok (.istore_n 2, 1) := by decide +kernel
theorem dX4_startOf_57 : decode cX4_startOf 57 = .ok (.iinc 3 1, 3) := by decide +kernel
theorem dX4_startOf_60 : decode cX4_startOf 60 = .ok (.goto (-27), 3) := by decide +kernel
theorem dX4_startOf_63 : decode cX4_startOf 63 = .ok (.iload_n 2, 1) := by decide +kernel
theorem dX4_startOf_64 : decode cX4_startOf 64 = .ok (.ireturn, 1) := by decide +kernel
theorem dX5_init_0 : decode cX5_init 0 = .ok (.aload_n 0, 1) := by decide +kernel
theorem dX5_init_1 : decode cX5_init 1 = .ok (.invokespecial 3, 3) := by decide +kernel
theorem dX5_init_4 : decode cX5_init 4 = .ok (.aload_n 0, 1) := by decide +kernel
theorem dX5_init_5 : decode cX5_init 5 = .ok (.iload_n 1, 1) := by decide +kernel
theorem dX5_init_6 : decode cX5_init 6 = .ok (.iconst 0, 1) := by decide +kernel
theorem dX5_init_7 : decode cX5_init 7 = .ok (.invokestatic 9, 3) := by decide +kernel
theorem dX5_init_10 : decode cX5_init 10 = .ok (.newarray .int, 2) := by decide +kernel
theorem dX5_init_12 : decode cX5_init 12 = .ok (.putfield 15, 3) := by decide +kernel
theorem dX5_init_15 : decode cX5_init 15 = .ok (.return_, 1) := by decide +kernel
theorem dX5_size_0 : decode cX5_size 0 = .ok (.aload_n 0, 1) := by decide +kernel
theorem dX5_size_1 : decode cX5_size 1 = .ok (.getfield 21, 3) := by decide +kernel
theorem dX5_size_4 : decode cX5_size 4 = .ok (.ireturn, 1) := by decide +kernel
theorem dX5_isFull_0 : decode cX5_isFull 0 = .ok (.aload_n 0, 1) := by decide +kernel
theorem dX5_isFull_1 : decode cX5_isFull 1 = .ok (.getfield 21, 3) := by decide +kernel
theorem dX5_isFull_4 : decode cX5_isFull 4 = .ok (.aload_n 0, 1) := by decide +kernel
theorem dX5_isFull_5 : decode cX5_isFull 5 = .ok (.getfield 15, 3) := by decide +kernel
theorem dX5_isFull_8 : decode cX5_isFull 8 = .ok (.arraylength, 1) := by decide +kernel
theorem dX5_isFull_9 : decode cX5_isFull 9 = .ok (.if_icmp .lt 7, 3) := by decide +kernel
theorem dX5_isFull_12 : decode cX5_isFull 12 = .ok (.iconst 1, 1) := by decide +kernel
theorem dX5_isFull_13 : decode cX5_isFull 13 = .ok (.goto 4, 3) := by decide +kernel
theorem dX5_isFull_16 : decode cX5_isFull 16 = .ok (.iconst 0, 1) := by decide +kernel
theorem dX5_isFull_17 : decode cX5_isFull 17 = .ok (.ireturn, 1) := by decide +kernel
theorem dX5_clear_0 : decode cX5_clear 0 = .ok (.aload_n 0, 1) := by decide +kernel
theorem dX5_clear_1 : decode cX5_clear 1 = .ok (.iconst 0, 1) := by decide +kernel
theorem dX5_clear_2 : decode cX5_clear 2 = .ok (.putfield 21, 3) := by decide +kernel
theorem dX5_clear_5 : decode cX5_clear 5 = .ok (.return_, 1) := by decide +kernel
theorem dX5_put_0 : decode cX5_put 0 = .ok (.aload_n 0, 1) := by decide +kernel
theorem dX5_put_1 : decode cX5_put 1 = .ok (.getfield 21, 3) := by decide +kernel
theorem dX5_put_4 : decode cX5_put 4 = .ok (.ifCond .lt 35, 3) := by decide +kernel
theorem dX5_put_7 : decode cX5_put 7 = .ok (.aload_n 0, 1) := by decide +kernel
theorem dX5_put_8 : decode cX5_put 8 = .ok (.getfield 21, 3) := by decide +kernel
theorem dX5_put_11 : decode cX5_put 11 = .ok (.aload_n 0, 1) := by decide +kernel
theorem dX5_put_12 : decode cX5_put 12 = .ok (.getfield 15, 3) := by decide +kernel
theorem dX5_put_15 : decode cX5_put 15 = .ok (.arraylength, 1) := by decide +kernel
theorem dX5_put_16 : decode cX5_put 16 = .ok (.if_icmp .ge 23, 3) := by decide +kernel
theorem dX5_put_19 : decode cX5_put 19 = .ok (.aload_n 0, 1) := by decide +kernel
theorem dX5_put_20 : decode cX5_put 20 = .ok (.getfield 15, 3) := by decide +kernel
theorem dX5_put_23 : decode cX5_put 23 = .ok (.aload_n 0, 1) := by decide +kernel
theorem dX5_put_24 : decode cX5_put 24 = .ok (.getfield 21, 3) := by decide +kernel
theorem dX5_put_27 : decode cX5_put 27 = .ok (.iload_n 1, 1) := by decide +kernel
theorem dX5_put_28 : decode cX5_put 28 = .ok (.iastore, 1) := by decide +kernel
theorem dX5_put_29 : decode cX5_put 29 = .ok (.aload_n 0, 1) := by decide +kernel
theorem dX5_put_30 : decode cX5_put 30 = .ok (.dup, 1) := by decide +kernel
theorem dX5_put_31 : decode cX5_put 31 = .ok (.getfield 21, 3) := by decide +kernel
theorem dX5_put_34 : decode cX5_put 34 = .ok (.iconst 1, 1) := by decide +kernel
theorem dX5_put_35 : decode cX5_put 35 = .ok (.iadd, 1) := by decide +kernel
theorem dX5_put_36 : decode cX5_put 36 = .ok (.putfield 21, 3) := by decide +kernel
theorem dX5_put_39 : decode cX5_put 39 = .ok (.return_, 1) := by decide +kernel
theorem dX5_drop_0 : decode cX5_drop 0 = .ok (.aload_n 0, 1) := by decide +kernel
theorem dX5_drop_1 : decode cX5_drop 1 = .ok (.aload_n 0, 1) := by decide +kernel
theorem dX5_drop_2 : decode cX5_drop 2 = .ok (.getfield 21, 3) := by decide +kernel
theorem dX5_drop_5 : decode cX5_drop 5 = .ok (.iconst 1, 1) := by decide +kernel
theorem dX5_drop_6 : decode cX5_drop 6 = .ok (.isub, 1) := by decide +kernel
theorem dX5_drop_7 : decode cX5_drop 7 = .ok (.invokevirtual 25, 3) := by decide +kernel
theorem dX5_drop_10 : decode cX5_drop 10 = .ok (.istore_n 1, 1) := by decide +kernel
theorem dX5_drop_11 : decode cX5_drop 11 = .ok (.iload_n 1, 1) := by decide +kernel
theorem dX5_drop_12 : decode cX5_drop 12 = .ok (.bipush (-4), 2) := by decide +kernel
theorem dX5_drop_14 : decode cX5_drop 14 = .ok (.if_icmp .eq 13, 3) := by decide +kernel
theorem dX5_drop_17 : decode cX5_drop 17 = .ok (.aload_n 0, 1) := by decide +kernel
theorem dX5_drop_18 : decode cX5_drop 18 = .ok (.dup, 1) := by decide +kernel
theorem dX5_drop_19 : decode cX5_drop 19 = .ok (.getfield 21, 3) := by decide +kernel
theorem dX5_drop_22 : decode cX5_drop 22 = .ok (.iconst 1, 1) := by decide +kernel
theorem dX5_drop_23 : decode cX5_drop 23 = .ok (.isub, 1) := by decide +kernel
theorem dX5_drop_24 : decode cX5_drop 24 = .ok (.putfield 21, 3) := by decide +kernel
theorem dX5_drop_27 : decode cX5_drop 27 = .ok (.iload_n 1, 1) := by decide +kernel
theorem dX5_drop_28 : decode cX5_drop 28 = .ok (.ireturn, 1) := by decide +kernel
theorem dX5_at_0 : decode cX5_at 0 = .ok (.iload_n 1, 1) := by decide +kernel
theorem dX5_at_1 : decode cX5_at 1 = .ok (.ifCond .lt 29, 3) := by decide +kernel
theorem dX5_at_4 : decode cX5_at 4 = .ok (.iload_n 1, 1) := by decide +kernel
theorem dX5_at_5 : decode cX5_at 5 = .ok (.aload_n 0, 1) := by decide +kernel
theorem dX5_at_6 : decode cX5_at 6 = .ok (.getfield 21, 3) := by decide +kernel
theorem dX5_at_9 : decode cX5_at 9 = .ok (.if_icmp .ge 21, 3) := by decide +kernel
theorem dX5_at_12 : decode cX5_at 12 = .ok (.iload_n 1, 1) := by decide +kernel
theorem dX5_at_13 : decode cX5_at 13 = .ok (.aload_n 0, 1) := by decide +kernel
theorem dX5_at_14 : decode cX5_at 14 = .ok (.getfield 15, 3) := by decide +kernel
theorem dX5_at_17 : decode cX5_at 17 = .ok (.arraylength, 1) := by decide +kernel
theorem dX5_at_18 : decode cX5_at 18 = .ok (.if_icmp .ge 12, 3) := by decide +kernel
theorem dX5_at_21 : decode cX5_at 21 = .ok (.aload_n 0, 1) := by decide +kernel
theorem dX5_at_22 : decode cX5_at 22 = .ok (.getfield 15, 3) := by decide +kernel
theorem dX5_at_25 : decode cX5_at 25 = .ok (.iload_n 1, 1) := by decide +kernel
theorem dX5_at_26 : decode cX5_at 26 = .ok (.iaload, 1) := by decide +kernel
theorem dX5_at_27 : decode cX5_at 27 = .ok (.goto 5, 3) := by decide +kernel
theorem dX5_at_30 : decode cX5_at 30 = .ok (.bipush (-4), 2) := by decide +kernel
theorem dX5_at_32 : decode cX5_at 32 = .ok (.ireturn, 1) := by decide +kernel
theorem dX5_has_0 : decode cX5_has 0 = .ok (.iconst 0, 1) := by decide +kernel
theorem dX5_has_1 : decode cX5_has 1 = .ok (.istore_n 2, 1) := by decide +kernel
theorem dX5_has_2 : decode cX5_has 2 = .ok (.iload_n 2, 1) := by decide +kernel
theorem dX5_has_3 : decode cX5_has 3 = .ok (.aload_n 0, 1) := by decide +kernel
theorem dX5_has_4 : decode cX5_has 4 = .ok (.getfield 21, 3) := by decide +kernel
theorem dX5_has_7 : decode cX5_has 7 = .ok (.if_icmp .ge 20, 3) := by decide +kernel
theorem dX5_has_10 : decode cX5_has 10 = .ok (.aload_n 0, 1) := by decide +kernel
theorem dX5_has_11 : decode cX5_has 11 = .ok (.iload_n 2, 1) := by decide +kernel
theorem dX5_has_12 : decode cX5_has 12 = .ok (.invokevirtual 25, 3) := by decide +kernel
theorem dX5_has_15 : decode cX5_has 15 = .ok (.iload_n 1, 1) := by decide +kernel
theorem dX5_has_16 : decode cX5_has 16 = .ok (.if_icmp .ne 5, 3) := by decide +kernel
theorem dX5_has_19 : decode cX5_has 19 = .ok (.iconst 1, 1) := by decide +kernel
theorem dX5_has_20 : decode cX5_has 20 = .ok (.ireturn, 1) := by decide +kernel
theorem dX5_has_21 : decode cX5_has 21 = .ok (.iinc 2 1, 3) := by decide +kernel
theorem dX5_has_24 : decode cX5_has 24 = .ok (.goto (-22), 3) := by decide +kernel
theorem dX5_has_27 : decode cX5_has 27 = .ok (.iconst 0, 1) := by decide +kernel
theorem dX5_has_28 : decode cX5_has 28 = .ok (.ireturn, 1) := by decide +kernel
theorem dX5_copy_0 : decode cX5_copy 0 = .ok (.aload_n 0, 1) := by decide +kernel
theorem dX5_copy_1 : decode cX5_copy 1 = .ok (.invokevirtual 29, 3) := by decide +kernel
theorem dX5_copy_4 : decode cX5_copy 4 = .ok (.iconst 0, 1) := by decide +kernel
theorem dX5_copy_5 : decode cX5_copy 5 = .ok (.istore_n 2, 1) := by decide +kernel
theorem dX5_copy_6 : decode cX5_copy 6 = .ok (.iload_n 2, 1) := by decide +kernel
theorem dX5_copy_7 : decode cX5_copy 7 = .ok (.aload_n 1, 1) := by decide +kernel
theorem dX5_copy_8 : decode cX5_copy 8 = .ok (.getfield 21, 3) := by decide +kernel
theorem dX5_copy_11 : decode cX5_copy 11 = .ok (.if_icmp .ge 18, 3) := by decide +kernel
theorem dX5_copy_14 : decode cX5_copy 14 = .ok (.aload_n 0, 1) := by decide +kernel
theorem dX5_copy_15 : decode cX5_copy 15 = .ok (.aload_n 1, 1) := by decide +kernel
theorem dX5_copy_16 : decode cX5_copy 16 = .ok (.iload_n 2, 1) := by decide +kernel
theorem dX5_copy_17 : decode cX5_copy 17 = .ok (.invokevirtual 25, 3) := by decide +kernel
theorem dX5_copy_20 : decode cX5_copy 20 = .ok (.invokevirtual 32, 3) := by decide +kernel
theorem dX5_copy_23 : decode cX5_copy 23 = .ok (.iinc 2 1, 3) := by decide +kernel
theorem dX5_copy_26 : decode cX5_copy 26 = .ok (.goto (-20), 3) := by decide +kernel
theorem dX5_copy_29 : decode cX5_copy 29 = .ok (.return_, 1) := by decide +kernel
