theorem dX5_isSameAs_0 : decode cX5_isSameAs 0 = .ok (.aload_n 0, 1) := by decide +kernel
theorem dX5_isSameAs_1 : decode cX5_isSameAs 1 = .ok (.getfield 21, 3) := by decide +kernel
theorem dX5_isSameAs_4 : decode cX5_isSameAs 4 = .ok (.aload_n 1, 1) := by decide +kernel
theorem dX5_isSameAs_5 : decode cX5_isSameAs 5 = .ok (.getfield 21, 3) := by decide +kernel
theorem dX5_isSameAs_8 : decode cX5_isSameAs 8 = .ok (.if_icmp .eq 5, 3) := by decide +kernel
theorem dX5_isSameAs_11 : decode cX5_isSameAs 11 = .ok (.iconst 0, 1) := by decide +kernel
theorem dX5_isSameAs_12 : decode cX5_isSameAs 12 = .ok (.ireturn, 1) := by decide +kernel
theorem dX5_isSameAs_13 : decode cX5_isSameAs 13 = .ok (.iconst 0, 1) := by decide +kernel
theorem dX5_isSameAs_14 : decode cX5_isSameAs 14 = .ok (.istore_n 2, 1) := by decide +kernel
theorem dX5_isSameAs_15 : decode cX5_isSameAs 15 = .ok (.iload_n 2, 1) := by decide +kernel
theorem dX5_isSameAs_16 : decode cX5_isSameAs 16 = .ok (.aload_n 0, 1) := by decide +kernel
theorem dX5_isSameAs_17 : decode cX5_isSameAs 17 = .ok (.getfield 21, 3) := by decide +kernel
theorem dX5_isSameAs_20 : decode cX5_isSameAs 20 = .ok (.if_icmp .ge 24, 3) := by decide +kernel
theorem dX5_isSameAs_23 : decode cX5_isSameAs 23 = .ok (.aload_n 0, 1) := by decide +kernel
theorem dX5_isSameAs_24 : decode cX5_isSameAs 24 = .ok (.iload_n 2, 1) := by decide +kernel
theorem dX5_isSameAs_25 : decode cX5_isSameAs 25 = .ok (.invokevirtual 25, 3) := by decide +kernel
theorem dX5_isSameAs_28 : decode cX5_isSameAs 28 = .ok (.aload_n 1, 1) := by decide +kernel
theorem dX5_isSameAs_29 : decode cX5_isSameAs 29 = .ok (.iload_n 2, 1) := by decide +kernel
theorem dX5_isSameAs_30 : decode cX5_isSameAs 30 = .ok (.invokevirtual 25, 3) := by decide +kernel
theorem dX5_isSameAs_33 : decode cX5_isSameAs 33 = .ok (.if_icmp .eq 5, 3) := by decide +kernel
theorem dX5_isSameAs_36 : decode cX5_isSameAs 36 = .ok (.iconst 0, 1) := by decide +kernel
theorem dX5_isSameAs_37 : decode cX5_isSameAs 37 = .ok (.ireturn, 1) := by decide +kernel
theorem dX5_isSameAs_38 : decode cX5_isSameAs 38 = .ok (.iinc 2 1, 3) := by decide +kernel
theorem dX5_isSameAs_41 : decode cX5_isSameAs 41 = .ok (.goto (-26), 3) := by decide +kernel
theorem dX5_isSameAs_44 : decode cX5_isSameAs 44 = .ok (.iconst 1, 1) := by decide +kernel
theorem dX5_isSameAs_45 : decode cX5_isSameAs 45 = .ok (.ireturn, 1) := by decide +kernel
theorem dX6_init_0 : decode cX6_init 0 = .ok (.aload_n 0, 1) := by decide +kernel
theorem dX6_init_1 : decode cX6_init 1 = .ok (.invokespecial 3, 3) := by decide +kernel
theorem dX6_init_4 : decode cX6_init 4 = .ok (.aload_n 0, 1) := by decide +kernel
theorem dX6_init_5 : decode cX6_init 5 = .ok (.bipush 8, 2) := by decide +kernel
theorem dX6_init_7 : decode cX6_init 7 = .ok (.anewarray 9, 3) := by decide +kernel
theorem dX6_init_10 : decode cX6_init 10 = .ok (.putfield 11, 3) := by decide +kernel
theorem dX6_init_13 : decode cX6_init 13 = .ok (.aload_n 0, 1) := by decide +kernel
theorem dX6_init_14 : decode cX6_init 14 = .ok (.bipush 9, 2) := by decide +kernel
theorem dX6_init_16 : decode cX6_init 16 = .ok (.newarray .int, 2) := by decide +kernel
theorem dX6_init_18 : decode cX6_init 18 = .ok (.putfield 17, 3) := by decide +kernel
theorem dX6_init_21 : decode cX6_init 21 = .ok (.aload_n 0, 1) := by decide +kernel
theorem dX6_init_22 : decode cX6_init 22 = .ok (.bipush 9, 2) := by decide +kernel
theorem dX6_init_24 : decode cX6_init 24 = .ok (.newarray .int, 2) := by decide +kernel
theorem dX6_init_26 : decode cX6_init 26 = .ok (.putfield 21, 3) := by decide +kernel
theorem dX6_init_29 : decode cX6_init 29 = .ok (.aload_n 0, 1) := by decide +kernel
theorem dX6_init_30 : decode cX6_init 30 = .ok (.bipush 9, 2) := by decide +kernel
theorem dX6_init_32 : decode cX6_init 32 = .ok (.newarray .int, 2) := by decide +kernel
theorem dX6_init_34 : decode cX6_init 34 = .ok (.putfield 24, 3) := by decide +kernel
theorem dX6_init_37 : decode cX6_init 37 = .ok (.aload_n 0, 1) := by decide +kernel
theorem dX6_init_38 : decode cX6_init 38 = .ok (.bipush 9, 2) := by decide +kernel
theorem dX6_init_40 : decode cX6_init 40 = .ok (.newarray .long, 2) := by decide +kernel
theorem dX6_init_42 : decode cX6_init 42 = .ok (.putfield 27, 3) := by decide +kernel
theorem dX6_init_45 : decode cX6_init 45 = .ok (.iconst 0, 1) := by decide +kernel
theorem dX6_init_46 : decode cX6_init 46 = .ok (.istore_n 1, 1) := by decide +kernel
theorem dX6_init_47 : decode cX6_init 47 = .ok (.iload_n 1, 1) := by decide +kernel
theorem dX6_init_48 : decode cX6_init 48 = .ok (.bipush 8, 2) := by decide +kernel
theorem dX6_init_50 : decode cX6_init 50 = .ok (.if_icmp .ge 24, 3) := by decide +kernel
theorem dX6_init_53 : decode cX6_init 53 = .ok (.aload_n 0, 1) := by decide +kernel
theorem dX6_init_54 : decode cX6_init 54 = .ok (.getfield 11, 3) := by decide +kernel
theorem dX6_init_57 : decode cX6_init 57 = .ok (.iload_n 1, 1) := by decide +kernel
theorem dX6_init_58 : decode cX6_init 58 = .ok (.new 9, 3) := by decide +kernel
theorem dX6_init_61 : decode cX6_init 61 = .ok (.dup, 1) := by decide +kernel
theorem dX6_init_62 : decode cX6_init 62 = .ok (.bipush 8, 2) := by decide +kernel
theorem dX6_init_64 : decode cX6_init 64 = .ok (.invokespecial 31, 3) := by decide +kernel
theorem dX6_init_67 : decode cX6_init 67 = .ok (.aastore, 1) := by decide +kernel
theorem dX6_init_68 : decode cX6_init 68 = .ok (.iinc 1 1, 3) := by decide +kernel
theorem dX6_init_71 : decode cX6_init 71 = .ok (.goto (-24), 3) := by decide +kernel
theorem dX6_init_74 : decode cX6_init 74 = .ok (.return_, 1) := by decide +kernel
theorem dX6_forget_0 : decode cX6_forget 0 = .ok (.aload_n 0, 1) := by decide +kernel
theorem dX6_forget_1 : decode cX6_forget 1 = .ok (.iconst 0, 1) := by decide +kernel
theorem dX6_forget_2 : decode cX6_forget 2 = .ok (.putfield 34, 3) := by decide +kernel
theorem dX6_forget_5 : decode cX6_forget 5 = .ok (.return_, 1) := by decide +kernel
theorem dX6_settle_0 : decode cX6_settle 0 = .ok (.aload_n 0, 1) := by decide +kernel
theorem dX6_settle_1 : decode cX6_settle 1 = .ok (.getfield 34, 3) := by decide +kernel
theorem dX6_settle_4 : decode cX6_settle 4 = .ok (.ifCond .eq 4, 3) := by decide +kernel
theorem dX6_settle_7 : decode cX6_settle 7 = .ok (.return_, 1) := by decide +kernel
theorem dX6_settle_8 : decode cX6_settle 8 = .ok (.iconst 0, 1) := by decide +kernel
theorem dX6_settle_9 : decode cX6_settle 9 = .ok (.istore_n 2, 1) := by decide +kernel
theorem dX6_settle_10 : decode cX6_settle 10 = .ok (.iload_n 2, 1) := by decide +kernel
theorem dX6_settle_11 : decode cX6_settle 11 = .ok (.bipush 8, 2) := by decide +kernel
theorem dX6_settle_13 : decode cX6_settle 13 = .ok (.if_icmp .ge 31, 3) := by decide +kernel
theorem dX6_settle_16 : decode cX6_settle 16 = .ok (.aload_n 1, 1) := by decide +kernel
theorem dX6_settle_17 : decode cX6_settle 17 = .ok (.iload_n 2, 1) := by decide +kernel
theorem dX6_settle_18 : decode cX6_settle 18 = .ok (.invokevirtual 38, 3) := by decide +kernel
theorem dX6_settle_21 : decode cX6_settle 21 = .ok (.astore_n 3, 1) := by decide +kernel
theorem dX6_settle_22 : decode cX6_settle 22 = .ok (.aload_n 3, 1) := by decide +kernel
theorem dX6_settle_23 : decode cX6_settle 23 = .ok (.ifnull 15, 3) := by decide +kernel
theorem dX6_settle_26 : decode cX6_settle 26 = .ok (.aload_n 0, 1) := by decide +kernel
theorem dX6_settle_27 : decode cX6_settle 27 = .ok (.aload_n 1, 1) := by decide +kernel
theorem dX6_settle_28 : decode cX6_settle 28 = .ok (.aload_n 3, 1) := by decide +kernel
theorem dX6_settle_29 : decode cX6_settle 29 = .ok (.aload_n 0, 1) := by decide +kernel
theorem dX6_settle_30 : decode cX6_settle 30 = .ok (.getfield 11, 3) := by decide +kernel
theorem dX6_settle_33 : decode cX6_settle 33 = .ok (.iload_n 2, 1) := by decide +kernel
theorem dX6_settle_34 : decode cX6_settle 34 = .ok (.aaload, 1) := by decide +kernel
theorem dX6_settle_35 : decode cX6_settle 35 = .ok (.invokevirtual 44, 3) := by decide +kernel
theorem dX6_settle_38 : decode cX6_settle 38 = .ok (.iinc 2 1, 3) := by decide +kernel
theorem dX6_settle_41 : decode cX6_settle 41 = .ok (.goto (-31), 3) := by decide +kernel
theorem dX6_settle_44 : decode cX6_settle 44 = .ok (.aload_n 0, 1) := by decide +kernel
theorem dX6_settle_45 : decode cX6_settle 45 = .ok (.iconst 1, 1) := by decide +kernel
theorem dX6_settle_46 : decode cX6_settle 46 = .ok (.putfield 34, 3) := by decide +kernel
theorem dX6_settle_49 : decode cX6_settle 49 = .ok (.return_, 1) := by decide +kernel
theorem dX6_rowOf_0 : decode cX6_rowOf 0 = .ok (.iload_n 1, 1) := by decide +kernel
theorem dX6_rowOf_1 : decode cX6_rowOf 1 = .ok (.ifCond .lt 18, 3) := by decide +kernel
theorem dX6_rowOf_4 : decode cX6_rowOf 4 = .ok (.iload_n 1, 1) := by decide +kernel
theorem dX6_rowOf_5 : decode cX6_rowOf 5 = .ok (.bipush 8, 2) := by decide +kernel
theorem dX6_rowOf_7 : decode cX6_rowOf 7 = .ok (.if_icmp .ge 12, 3) := by decide +kernel
theorem dX6_rowOf_10 : decode cX6_rowOf 10 = .ok (.aload_n 0, 1) := by decide +kernel
theorem dX6_rowOf_11 : decode cX6_rowOf 11 = .ok (.getfield 11, 3) := by decide +kernel
theorem dX6_rowOf_14 : decode cX6_rowOf 14 = .ok (.iload_n 1, 1) := by decide +kernel
theorem dX6_rowOf_15 : decode cX6_rowOf 15 = .ok (.aaload, 1) := by decide +kernel
theorem dX6_rowOf_16 : decode cX6_rowOf 16 = .ok (.goto 4, 3) := by decide +kernel
theorem dX6_rowOf_19 : decode cX6_rowOf 19 = .ok (.aconst_null, 1) := by decide +kernel
theorem dX6_rowOf_20 : decode cX6_rowOf 20 = .ok (.areturn, 1) := by decide +kernel
theorem dX6_findLeast_0 : decode cX6_findLeast 0 = .ok (.aload_n 2, 1) := by decide +kernel
theorem dX6_findLeast_1 : decode cX6_findLeast 1 = .ok (.getfield 48, 3) := by decide +kernel
theorem dX6_findLeast_4 : decode cX6_findLeast 4 = .ok (.invokevirtual 54, 3) := by decide +kernel
theorem dX6_findLeast_7 : decode cX6_findLeast 7 = .ok (.istore 4, 2) := by decide +kernel
theorem dX6_findLeast_9 : decode cX6_findLeast 9 = .ok (.iload 4, 2) := by decide +kernel
theorem dX6_findLeast_11 : decode cX6_findLeast 11 = .ok (.ifCond .lt 17, 3) := by decide +kernel
theorem dX6_findLeast_14 : decode cX6_findLeast 14 = .ok (.aload_n 0, 1) := by decide +kernel
theorem dX6_findLeast_15 : decode cX6_findLeast 15 = .ok (.aload_n 1, 1) := by decide +kernel
theorem dX6_findLeast_16 : decode cX6_findLeast 16 = .ok (.aload_n 2, 1) := by decide +kernel
theorem dX6_findLeast_17 : decode cX6_findLeast 17 = .ok (.iload 4, 2) := by decide +kernel
theorem dX6_findLeast_19 : decode cX6_findLeast 19 = .ok (.invokevirtual 60, 3) := by decide +kernel
theorem dX6_findLeast_22 : decode cX6_findLeast 22 = .ok (.iinc 4 (-1), 3) := by decide +kernel
theorem dX6_findLeast_25 : decode cX6_findLeast 25 = .ok (.goto (-16), 3) := by decide +kernel
theorem dX6_findLeast_28 : decode cX6_findLeast 28 = .ok (.aload_n 3, 1) := by decide +kernel
theorem dX6_findLeast_29 : decode cX6_findLeast 29 = .ok (.invokevirtual 64, 3) := by decide +kernel
theorem dX6_findLeast_32 : decode cX6_findLeast 32 = .ok (.iconst 0, 1) := by decide +kernel
theorem dX6_findLeast_33 : decode cX6_findLeast 33 = .ok (.istore 4, 2) := by decide +kernel
theorem dX6_findLeast_35 : decode cX6_findLeast 35 = .ok (.iconst 0, 1) := by decide +kernel
theorem dX6_findLeast_36 : decode cX6_findLeast 36 = .ok (.istore 5, 2) := by decide +kernel
theorem dX6_findLeast_38 : decode cX6_findLeast 38 = .ok (.iload 5, 2) := by decide +kernel
theorem dX6_findLeast_40 : decode cX6_findLeast 40 = .ok (.bipush 8, 2) := by decide +kernel
theorem dX6_findLeast_42 : decode cX6_findLeast 42 = .ok (.if_icmp .ge 62, 3) := by decide +kernel
theorem dX6_findLeast_45 : decode cX6_findLeast 45 = .ok (.iload 4, 2) := by decide +kernel
theorem dX6_findLeast_47 : decode cX6_findLeast 47 = .ok (.ifCond .lt 57, 3) := by decide +kernel
theorem dX6_findLeast_50 : decode cX6_findLeast 50 = .ok (.iload 4, 2) := by decide +kernel
theorem dX6_findLeast_52 : decode cX6_findLeast 52 = .ok (.bipush 8, 2) := by decide +kernel
theorem dX6_findLeast_54 : decode cX6_findLeast 54 = .ok (.if_icmp .gt 50, 3) := by decide +kernel
theorem dX6_findLeast_57 : decode cX6_findLeast 57 = .ok (.aload_n 1, 1) := by decide +kernel
theorem dX6_findLeast_58 : decode cX6_findLeast 58 = .ok (.aload_n 0, 1) := by decide +kernel
theorem dX6_findLeast_59 : decode cX6_findLeast 59 = .ok (.getfield 24, 3) := by decide +kernel
theorem dX6_findLeast_62 : decode cX6_findLeast 62 = .ok (.iload 4, 2) := by decide +kernel
theorem dX6_findLeast_64 : decode cX6_findLeast 64 = .ok (.iaload, 1) := by decide +kernel
theorem dX6_findLeast_65 : decode cX6_findLeast 65 = .ok (.invokevirtual 67, 3) := by decide +kernel
theorem dX6_findLeast_68 : decode cX6_findLeast 68 = .ok (.astore 6, 2) := by decide +kernel
theorem dX6_findLeast_70 : decode cX6_findLeast 70 = .ok (.aload 6, 2) := by decide +kernel
theorem dX6_findLeast_72 : decode cX6_findLeast 72 = .ok (.ifnonnull 4, 3) := by decide +kernel
theorem dX6_findLeast_75 : decode cX6_findLeast 75 = .ok (.return_, 1) := by decide +kernel
theorem dX6_findLeast_76 : decode cX6_findLeast 76 = .ok (.aload_n 3, 1) := by decide +kernel
theorem dX6_findLeast_77 : decode cX6_findLeast 77 = .ok (.aload_n 0, 1) := by decide +kernel
theorem dX6_findLeast_78 : decode cX6_findLeast 78 = .ok (.getfield 24, 3) := by decide +kernel
theorem dX6_findLeast_81 : decode cX6_findLeast 81 = .ok (.iload 4, 2) := by decide +kernel
theorem dX6_findLeast_83 : decode cX6_findLeast 83 = .ok (.iaload, 1) := by decide +kernel
theorem dX6_findLeast_84 : decode cX6_findLeast 84 = .ok (.invokevirtual 71, 3) := by decide +kernel
theorem dX6_findLeast_87 : decode cX6_findLeast 87 = .ok (.aload_n 1, 1) := by decide +kernel
theorem dX6_findLeast_88 : decode cX6_findLeast 88 = .ok (.aload_n 2, 1) := by decide +kernel
theorem dX6_findLeast_89 : decode cX6_findLeast 89 = .ok (.iload 4, 2) := by decide +kernel
theorem dX6_findLeast_91 : decode cX6_findLeast 91 = .ok (.aload 6, 2) := by decide +kernel
theorem dX6_findLeast_93 : decode cX6_findLeast 93 = .ok (.invokevirtual 74, 3) := by decide +kernel
theorem dX6_findLeast_96 : decode cX6_findLeast 96 = .ok (.istore 4, 2) := by decide +kernel
theorem dX6_findLeast_98 : decode cX6_findLeast 98 = .ok (.iinc 5 1, 3) := by decide +kernel
theorem dX6_findLeast_101 : decode cX6_findLeast 101 = .ok (.goto (-63), 3) := by decide +kernel
theorem dX6_findLeast_104 : decode cX6_findLeast 104 = .ok (.return_, 1) := by decide +kernel
theorem dX6_weigh_0 : decode cX6_weigh 0 = .ok (.iload_n 3, 1) := by decide +kernel
theorem dX6_weigh_1 : decode cX6_weigh 1 = .ok (.ifCond .lt 9, 3) := by decide +kernel
theorem dX6_weigh_4 : decode cX6_weigh 4 = .ok (.iload_n 3, 1) := by decide +kernel
theorem dX6_weigh_5 : decode cX6_weigh 5 = .ok (.bipush 8, 2) := by decide +kernel
theorem dX6_weigh_7 : decode cX6_weigh 7 = .ok (.if_icmp .le 4, 3) := by decide +kernel
theorem dX6_weigh_10 : decode cX6_weigh 10 = .ok (.return_, 1) := by decide +kernel
theorem dX6_weigh_11 : decode cX6_weigh 11 = .ok (.iload_n 3, 1) := by decide +kernel
theorem dX6_weigh_12 : decode cX6_weigh 12 = .ok (.ifCond .le 16, 3) := by decide +kernel
theorem dX6_weigh_15 : decode cX6_weigh 15 = .ok (.aload_n 1, 1) := by decide +kernel
theorem dX6_weigh_16 : decode cX6_weigh 16 = .ok (.aload_n 2, 1) := by decide +kernel
theorem dX6_weigh_17 : decode cX6_weigh 17 = .ok (.iload_n 3, 1) := by decide +kernel
theorem dX6_weigh_18 : decode cX6_weigh 18 = .ok (.invokevirtual 78, 3) := by decide +kernel
theorem dX6_weigh_21 : decode cX6_weigh 21 = .ok (.ifCond .eq 7, 3) := by decide +kernel
theorem dX6_weigh_24 : decode cX6_weigh 24 = .ok (.iconst 1, 1) := by decide +kernel
theorem dX6_weigh_25 : decode cX6_weigh 25 = .ok (.goto 4, 3) := by decide +kernel
theorem dX6_weigh_28 : decode cX6_weigh 28 = .ok (.iconst 0, 1) := by decide +kernel
theorem dX6_weigh_29 : decode cX6_weigh 29 = .ok (.istore 4, 2) := by decide +kernel
theorem dX6_weigh_31 : decode cX6_weigh 31 = .ok (.aload_n 0, 1) := by decide +kernel
theorem dX6_weigh_32 : decode cX6_weigh 32 = .ok (.getfield 17, 3) := by decide +kernel
theorem dX6_weigh_35 : decode cX6_weigh 35 = .ok (.iload_n 3, 1) := by decide +kernel
theorem dX6_weigh_36 : decode cX6_weigh 36 = .ok (.iload 4, 2) := by decide +kernel
theorem dX6_weigh_38 : decode cX6_weigh 38 = .ok (.ifCond .eq 7, 3) := by decide +kernel
theorem dX6_weigh_41 : decode cX6_weigh 41 = .ok (.iconst 0, 1) := by decide +kernel
theorem dX6_weigh_42 : decode cX6_weigh 42 = .ok (.goto 6, 3) := by decide +kernel
theorem dX6_weigh_45 : decode cX6_weigh 45 = .ok (.sipush 1000, 3) := by decide +kernel
theorem dX6_weigh_48 : decode cX6_weigh 48 = .ok (.iastore, 1) := by decide +kernel
theorem dX6_weigh_49 : decode cX6_weigh 49 = .ok (.aload_n 0, 1) := by decide +kernel
theorem dX6_weigh_50 : decode cX6_weigh 50 = .ok (.getfield 21, 3) := by decide +kernel
theorem dX6_weigh_53 : decode cX6_weigh 53 = .ok (.iload_n 3, 1) := by decide +kernel
theorem dX6_weigh_54 : decode cX6_weigh 54 = .ok (.iconst 0, 1) := by decide +kernel
theorem dX6_weigh_55 : decode cX6_weigh 55 = .ok (.iastore, 1) := by decide +kernel
theorem dX6_weigh_56 : decode cX6_weigh 56 = .ok (.aload_n 0, 1) := by decide +kernel
theorem dX6_weigh_57 : decode cX6_weigh 57 = .ok (.getfield 24, 3) := by decide +kernel
theorem dX6_weigh_60 : decode cX6_weigh 60 = .ok (.iload_n 3, 1) := by decide +kernel
theorem dX6_weigh_61 : decode cX6_weigh 61 = .ok (.bipush (-4), 2) := by decide +kernel
theorem dX6_weigh_63 : decode cX6_weigh 63 = .ok (.iastore, 1) := by decide +kernel
theorem dX6_weigh_64 : decode cX6_weigh 64 = .ok (.iconst 0, 1) := by decide +kernel
theorem dX6_weigh_65 : decode cX6_weigh 65 = .ok (.istore 5, 2) := by decide +kernel
theorem dX6_weigh_67 : decode cX6_weigh 67 = .ok (.iload 5, 2) := by decide +kernel
theorem dX6_weigh_69 : decode cX6_weigh 69 = .ok (.aload_n 1, 1) := by decide +kernel
theorem dX6_weigh_70 : decode cX6_weigh 70 = .ok (.getfield 82, 3) := by decide +kernel
theorem dX6_weigh_73 : decode cX6_weigh 73 = .ok (.if_icmp .ge 154, 3) := by decide +kernel
theorem dX6_weigh_76 : decode cX6_weigh 76 = .ok (.iload 4, 2) := by decide +kernel
theorem dX6_weigh_78 : decode cX6_weigh 78 = .ok (.ifCond .ne 149, 3) := by decide +kernel
theorem dX6_weigh_81 : decode cX6_weigh 81 = .ok (.aload_n 1, 1) := by decide +kernel
theorem dX6_weigh_82 : decode cX6_weigh 82 = .ok (.iload 5, 2) := by decide +kernel
theorem dX6_weigh_84 : decode cX6_weigh 84 = .ok (.invokevirtual 67, 3) := by decide +kernel
theorem dX6_weigh_87 : decode cX6_weigh 87 = .ok (.astore 6, 2) := by decide +kernel
theorem dX6_weigh_89 : decode cX6_weigh 89 = .ok (.aload 6, 2) := by decide +kernel
theorem dX6_weigh_91 : decode cX6_weigh 91 = .ok (.ifnonnull 6, 3) := by decide +kernel
theorem dX6_weigh_94 : decode cX6_weigh 94 = .ok (.goto 127, 3) := by decide +kernel
theorem dX6_weigh_97 : decode cX6_weigh 97 = .ok (.aload_n 1, 1) := by decide +kernel
theorem dX6_weigh_98 : decode cX6_weigh 98 = .ok (.aload_n 2, 1) := by decide +kernel
theorem dX6_weigh_99 : decode cX6_weigh 99 = .ok (.iload_n 3, 1) := by decide +kernel
theorem dX6_weigh_100 : decode cX6_weigh 100 = .ok (.aload 6, 2) := by decide +kernel
theorem dX6_weigh_102 : decode cX6_weigh 102 = .ok (.invokevirtual 74, 3) := by decide +kernel
theorem dX6_weigh_105 : decode cX6_weigh 105 = .ok (.istore 7, 2) := by decide +kernel
theorem dX6_weigh_107 : decode cX6_weigh 107 = .ok (.iload 7, 2) := by decide +kernel
theorem dX6_weigh_109 : decode cX6_weigh 109 = .ok (.ifCond .lt 112, 3) := by decide +kernel
theorem dX6_weigh_112 : decode cX6_weigh 112 = .ok (.iload 7, 2) := by decide +kernel
theorem dX6_weigh_114 : decode cX6_weigh 114 = .ok (.bipush 8, 2) := by decide +kernel
theorem dX6_weigh_116 : decode cX6_weigh 116 = .ok (.if_icmp .gt 105, 3) := by decide +kernel
theorem dX6_weigh_119 : decode cX6_weigh 119 = .ok (.aload_n 0, 1) := by decide +kernel
theorem dX6_weigh_120 : decode cX6_weigh 120 = .ok (.getfield 17, 3) := by decide +kernel
theorem dX6_weigh_123 : decode cX6_weigh 123 = .ok (.iload 7, 2) := by decide +kernel
theorem dX6_weigh_125 : decode cX6_weigh 125 = .ok (.iaload, 1) := by decide +kernel
theorem dX6_weigh_126 : decode cX6_weigh 126 = .ok (.sipush 1000, 3) := by decide +kernel
theorem dX6_weigh_129 : decode cX6_weigh 129 = .ok (.if_icmp .lt 6, 3) := by decide +kernel
theorem dX6_weigh_132 : decode cX6_weigh 132 = .ok (.goto 89, 3) := by decide +kernel
theorem dX6_weigh_135 : decode cX6_weigh 135 = .ok (.aload_n 0, 1) := by decide +kernel
theorem dX6_weigh_136 : decode cX6_weigh 136 = .ok (.getfield 17, 3) := by decide +kernel
theorem dX6_weigh_139 : decode cX6_weigh 139 = .ok (.iload 7, 2) := by decide +kernel
theorem dX6_weigh_141 : decode cX6_weigh 141 = .ok (.iaload, 1) := by decide +kernel
theorem dX6_weigh_142 : decode cX6_weigh 142 = .ok (.iconst 1, 1) := by decide +kernel
theorem dX6_weigh_143 : decode cX6_weigh 143 = .ok (.iadd, 1) := by decide +kernel
theorem dX6_weigh_144 : decode cX6_weigh 144 = .ok (.istore 8, 2) := by decide +kernel
theorem dX6_weigh_146 : decode cX6_weigh 146 = .ok (.aload_n 0, 1) := by decide +kernel
theorem dX6_weigh_147 : decode cX6_weigh 147 = .ok (.getfield 21, 3) := by decide +kernel
theorem dX6_weigh_150 : decode cX6_weigh 150 = .ok (.iload 7, 2) := by decide +kernel
theorem dX6_weigh_152 : decode cX6_weigh 152 = .ok (.iaload, 1) := by decide +kernel
theorem dX6_weigh_153 : decode cX6_weigh 153 = .ok (.aload 6, 2) := by decide +kernel
theorem dX6_weigh_155 : decode cX6_weigh 155 = .ok (.getfield 86, 3) := by decide +kernel
theorem dX6_weigh_158 : decode cX6_weigh 158 = .ok (.invokevirtual 54, 3) := by decide +kernel
theorem dX6_weigh_161 : decode cX6_weigh 161 = .ok (.iadd, 1) := by decide +kernel
theorem dX6_weigh_162 : decode cX6_weigh 162 = .ok (.istore 9, 2) := by decide +kernel
theorem dX6_weigh_164 : decode cX6_weigh 164 = .ok (.iload 8, 2) := by decide +kernel
theorem dX6_weigh_166 : decode cX6_weigh 166 = .ok (.aload_n 0, 1) := by decide +kernel
theorem dX6_weigh_167 : decode cX6_weigh 167 = .ok (.getfield 17, 3) := by decide +kernel
theorem dX6_weigh_170 : decode cX6_weigh 170 = .ok (.iload_n 3, 1) := by decide +kernel
theorem dX6_weigh_171 : decode cX6_weigh 171 = .ok (.iaload, 1) := by decide +kernel
theorem dX6_weigh_172 : decode cX6_weigh 172 = .ok (.if_icmp .lt 25, 3) := by decide +kernel
theorem dX6_weigh_175 : decode cX6_weigh 175 = .ok (.iload 8, 2) := by decide +kernel
theorem dX6_weigh_177 : decode cX6_weigh 177 = .ok (.aload_n 0, 1) := by decide +kernel
theorem dX6_weigh_178 : decode cX6_weigh 178 = .ok (.getfield 17, 3) := by decide +kernel
theorem dX6_weigh_181 : decode cX6_weigh 181 = .ok (.iload_n 3, 1) := by decide +kernel
theorem dX6_weigh_182 : decode cX6_weigh 182 = .ok (.iaload, 1) := by decide +kernel
theorem dX6_weigh_183 : decode cX6_weigh 183 = .ok (.if_icmp .ne 38, 3) := by decide +kernel
theorem dX6_weigh_186 : decode cX6_weigh 186 = .ok (.iload 9, 2) := by decide +kernel
theorem dX6_weigh_188 : decode cX6_weigh 188 = .ok (.aload_n 0, 1) := by decide +kernel
theorem dX6_weigh_189 : decode cX6_weigh 189 = .ok (.getfield 21, 3) := by decide +kernel
theorem dX6_weigh_192 : decode cX6_weigh 192 = .ok (.iload_n 3, 1) := by decide +kernel
theorem dX6_weigh_193 : decode cX6_weigh 193 = .ok (.iaload, 1) := by decide +kernel
theorem dX6_weigh_194 : decode cX6_weigh 194 = .ok (.if_icmp .le 27, 3) := by decide +kernel
theorem dX6_weigh_197 : decode cX6_weigh 197 = .ok (.aload_n 0, 1) := by decide +kernel
theorem dX6_weigh_198 : decode cX6_weigh 198 = .ok (.getfield 17, 3) := by decide +kernel
theorem dX6_weigh_201 : decode cX6_weigh 201 = .ok (.iload_n 3, 1) := by decide +kernel
theorem dX6_weigh_202 : decode cX6_weigh 202 = .ok (.iload 8, 2) := by decide +kernel
theorem dX6_weigh_204 : decode cX6_weigh 204 = .ok (.iastore, 1) := by decide +kernel
theorem dX6_weigh_205 : decode cX6_weigh 205 = .ok (.aload_n 0, 1) := by decide +kernel
theorem dX6_weigh_206 : decode cX6_weigh 206 = .ok (.getfield 21, 3) := by decide +kernel
theorem dX6_weigh_209 : decode cX6_weigh 209 = .ok (.iload_n 3, 1) := by decide +kernel
theorem dX6_weigh_210 : decode cX6_weigh 210 = .ok (.iload 9, 2) := by decide +kernel
theorem dX6_weigh_212 : decode cX6_weigh 212 = .ok (.iastore, 1) := by decide +kernel
theorem dX6_weigh_213 : decode cX6_weigh 213 = .ok (.aload_n 0, 1) := by decide +kernel
theorem dX6_weigh_214 : decode cX6_weigh 214 = .ok (.getfield 24, 3) := by decide +kernel
theorem dX6_weigh_217 : decode cX6_weigh 217 = .ok (.iload_n 3, 1) := by decide +kernel
theorem dX6_weigh_218 : decode cX6_weigh 218 = .ok (.iload 5, 2) := by decide +kernel
theorem dX6_weigh_220 : decode cX6_weigh 220 = .ok (.iastore, 1) := by decide +kernel
theorem dX6_weigh_221 : decode cX6_weigh 221 = .ok (.iinc 5 1, 3) := by decide +kernel
theorem dX6_weigh_224 : decode cX6_weigh 224 = .ok (.goto (-157), 3) := by decide +kernel
theorem dX6_weigh_227 : decode cX6_weigh 227 = .ok (.return_, 1) := by decide +kernel
theorem dX6_rowsOfSounds_0 : decode cX6_rowsOfSounds 0 = .ok (.aload_n 0, 1) := by decide +kernel
theorem dX6_rowsOfSounds_1 : decode cX6_rowsOfSounds 1 = .ok (.getfield 27, 3) := by decide +kernel
theorem dX6_rowsOfSounds_4 : decode cX6_rowsOfSounds 4 = .ok (.lconst 0, 1) := by decide +kernel
theorem dX6_rowsOfSounds_5 : decode cX6_rowsOfSounds 5 = .ok (.invokestatic 91, 3) := by decide +kernel
theorem dX6_rowsOfSounds_8 : decode cX6_rowsOfSounds 8 = .ok (.aload_n 0, 1) := by decide +kernel
theorem dX6_rowsOfSounds_9 : decode cX6_rowsOfSounds 9 = .ok (.getfield 27, 3) := by decide +kernel
theorem dX6_rowsOfSounds_12 : decode cX6_rowsOfSounds 12 = .ok (.iconst 0, 1) := by decide +kernel
theorem dX6_rowsOfSounds_13 : decode cX6_rowsOfSounds 13 = .ok (.lconst 1, 1) := by decide +kernel
theorem dX6_rowsOfSounds_14 : decode cX6_rowsOfSounds 14 = .ok (.lastore, 1) := by decide +kernel
theorem dX6_rowsOfSounds_15 : decode cX6_rowsOfSounds 15 = .ok (.lconst 0, 1) := by decide +kernel
theorem dX6_rowsOfSounds_16 : decode cX6_rowsOfSounds 16 = .ok (.lstore_n 3, 1) := by decide +kernel
theorem dX6_rowsOfSounds_17 : decode cX6_rowsOfSounds 17 = .ok (.iconst 0, 1) := by decide +kernel
theorem dX6_rowsOfSounds_18 : decode cX6_rowsOfSounds 18 = .ok (.istore 5, 2) := by decide +kernel
theorem dX6_rowsOfSounds_20 : decode cX6_rowsOfSounds 20 = .ok (.iload 5, 2) := by decide +kernel
theorem dX6_rowsOfSounds_22 : decode cX6_rowsOfSounds 22 = .ok (.aload_n 2, 1) := by decide +kernel
theorem dX6_rowsOfSounds_23 : decode cX6_rowsOfSounds 23 = .ok (.getfield 48, 3) := by decide +kernel
theorem dX6_rowsOfSounds_26 : decode cX6_rowsOfSounds 26 = .ok (.invokevirtual 54, 3) := by decide +kernel
theorem dX6_rowsOfSounds_29 : decode cX6_rowsOfSounds 29 = .ok (.if_icmp .gt 129, 3) := by decide +kernel
theorem dX6_rowsOfSounds_32 : decode cX6_rowsOfSounds 32 = .ok (.iload 5, 2) := by decide +kernel
theorem dX6_rowsOfSounds_34 : decode cX6_rowsOfSounds 34 = .ok (.bipush 8, 2) := by decide +kernel
theorem dX6_rowsOfSounds_36 : decode cX6_rowsOfSounds 36 = .ok (.if_icmp .gt 122, 3) := by decide +kernel
theorem dX6_rowsOfSounds_39 : decode cX6_rowsOfSounds 39 = .ok (.iload 5, 2) := by decide +kernel
theorem dX6_rowsOfSounds_41 : decode cX6_rowsOfSounds 41 = .ok (.ifCond .le 23, 3) := by decide +kernel
theorem dX6_rowsOfSounds_44 : decode cX6_rowsOfSounds 44 = .ok (.aload_n 1, 1) := by decide +kernel
theorem dX6_rowsOfSounds_45 : decode cX6_rowsOfSounds 45 = .ok (.aload_n 2, 1) := by decide +kernel
theorem dX6_rowsOfSounds_46 : decode cX6_rowsOfSounds 46 = .ok (.iload 5, 2) := by decide +kernel
theorem dX6_rowsOfSounds_48 : decode cX6_rowsOfSounds 48 = .ok (.invokevirtual 78, 3) := by decide +kernel
theorem dX6_rowsOfSounds_51 : decode cX6_rowsOfSounds 51 = .ok (.ifCond .eq 13, 3) := by decide +kernel
theorem dX6_rowsOfSounds_54 : decode cX6_rowsOfSounds 54 = .ok (.lload_n 3, 1) := by decide +kernel
theorem dX6_rowsOfSounds_55 : decode cX6_rowsOfSounds 55 = .ok (.aload_n 0, 1) := by decide +kernel
theorem dX6_rowsOfSounds_56 : decode cX6_rowsOfSounds 56 = .ok (.getfield 27, 3) := by decide +kernel
theorem dX6_rowsOfSounds_59 : decode cX6_rowsOfSounds 59 = .ok (.iload 5, 2) := by decide +kernel
theorem dX6_rowsOfSounds_61 : decode cX6_rowsOfSounds 61 = .ok (.laload, 1) := by decide +kernel
theorem dX6_rowsOfSounds_62 : decode cX6_rowsOfSounds 62 = .ok (.ladd, 1) := by decide +kernel
theorem dX6_rowsOfSounds_63 : decode cX6_rowsOfSounds 63 = .ok (.lstore_n 3, 1) := by decide +kernel
theorem dX6_rowsOfSounds_64 : decode cX6_rowsOfSounds 64 = .ok (.iconst 0, 1) := by decide +kernel
theorem dX6_rowsOfSounds_65 : decode cX6_rowsOfSounds 65 = .ok (.istore 6, 2) := by decide +kernel
theorem dX6_rowsOfSounds_67 : decode cX6_rowsOfSounds 67 = .ok (.iload 6, 2) := by decide +kernel
theorem dX6_rowsOfSounds_69 : decode cX6_rowsOfSounds 69 = .ok (.aload_n 1, 1) := by decide +kernel
theorem dX6_rowsOfSounds_70 : decode cX6_rowsOfSounds 70 = .ok (.getfield 82, 3) := by decide +kernel
theorem dX6_rowsOfSounds_73 : decode cX6_rowsOfSounds 73 = .ok (.if_icmp .ge 79, 3) := by decide +kernel
theorem dX6_rowsOfSounds_76 : decode cX6_rowsOfSounds 76 = .ok (.aload_n 0, 1) := by decide +kernel
theorem dX6_rowsOfSounds_77 : decode cX6_rowsOfSounds 77 = .ok (.getfield 27, 3) := by decide +kernel
theorem dX6_rowsOfSounds_80 : decode cX6_rowsOfSounds 80 = .ok (.iload 5, 2) := by decide +kernel
theorem dX6_rowsOfSounds_82 : decode cX6_rowsOfSounds 82 = .ok (.laload, 1) := by decide +kernel
theorem dX6_rowsOfSounds_83 : decode cX6_rowsOfSounds 83 = .ok (.lconst 0, 1) := by decide +kernel
theorem dX6_rowsOfSounds_84 : decode cX6_rowsOfSounds 84 = .ok (.lcmp, 1) := by decide +kernel
theorem dX6_rowsOfSounds_85 : decode cX6_rowsOfSounds 85 = .ok (.ifCond .le 67, 3) := by decide +kernel
theorem dX6_rowsOfSounds_88 : decode cX6_rowsOfSounds 88 = .ok (.aload_n 1, 1) := by decide +kernel
theorem dX6_rowsOfSounds_89 : decode cX6_rowsOfSounds 89 = .ok (.iload 6, 2) := by decide +kernel
theorem dX6_rowsOfSounds_91 : decode cX6_rowsOfSounds 91 = .ok (.invokevirtual 67, 3) := by decide +kernel
theorem dX6_rowsOfSounds_94 : decode cX6_rowsOfSounds 94 = .ok (.astore 7, 2) := by decide +kernel
theorem dX6_rowsOfSounds_96 : decode cX6_rowsOfSounds 96 = .ok (.aload 7, 2) := by decide +kernel
theorem dX6_rowsOfSounds_98 : decode cX6_rowsOfSounds 98 = .ok (.ifnonnull 8, 3) := by decide +kernel
theorem dX6_rowsOfSounds_101 : decode cX6_rowsOfSounds 101 = .ok (.bipush (-4), 2) := by decide +kernel
theorem dX6_rowsOfSounds_103 : decode cX6_rowsOfSounds 103 = .ok (.goto 12, 3) := by decide +kernel
theorem dX6_rowsOfSounds_106 : decode cX6_rowsOfSounds 106 = .ok (.aload_n 1, 1) := by decide +kernel
theorem dX6_rowsOfSounds_107 : decode cX6_rowsOfSounds 107 = .ok (.aload_n 2, 1) := by decide +kernel
theorem dX6_rowsOfSounds_108 : decode cX6_rowsOfSounds 108 = .ok (.iload 5, 2) := by decide +kernel
theorem dX6_rowsOfSounds_110 : decode cX6_rowsOfSounds 110 = .ok (.aload 7, 2) := by decide +kernel
theorem dX6_rowsOfSounds_112 : decode cX6_rowsOfSounds 112 = .ok (.invokevirtual 74, 3) := by decide +kernel
theorem dX6_rowsOfSounds_115 : decode cX6_rowsOfSounds 115 = .ok (.istore 8, 2) := by decide +kernel
theorem dX6_rowsOfSounds_117 : decode cX6_rowsOfSounds 117 = .ok (.iload 8, 2) := by decide +kernel
theorem dX6_rowsOfSounds_119 : decode cX6_rowsOfSounds 119 = .ok (.ifCond .lt 27, 3) := by decide +kernel
theorem dX6_rowsOfSounds_122 : decode cX6_rowsOfSounds 122 = .ok (.iload 8, 2) := by decide +kernel
theorem dX6_rowsOfSounds_124 : decode cX6_rowsOfSounds 124 = .ok (.bipush 8, 2) := by decide +kernel
theorem dX6_rowsOfSounds_126 : decode cX6_rowsOfSounds 126 = .ok (.if_icmp .gt 20, 3) := by decide +kernel
theorem dX6_rowsOfSounds_129 : decode cX6_rowsOfSounds 129 = .ok (.aload_n 0, 1) := by decide +kernel
theorem dX6_rowsOfSounds_130 : decode cX6_rowsOfSounds 130 = .ok (.getfield 27, 3) := by decide +kernel
theorem dX6_rowsOfSounds_133 : decode cX6_rowsOfSounds 133 = .ok (.iload 8, 2) := by decide +kernel
theorem dX6_rowsOfSounds_135 : decode cX6_rowsOfSounds 135 = .ok (.dup2, 1) := by decide +kernel
theorem dX6_rowsOfSounds_136 : decode cX6_rowsOfSounds 136 = .ok (.laload, 1) := by decide +kernel
theorem dX6_rowsOfSounds_137 : decode cX6_rowsOfSounds 137 = .ok (.aload_n 0, 1) := by decide +kernel
theorem dX6_rowsOfSounds_138 : decode cX6_rowsOfSounds 138 = .ok (.getfield 27, 3) := by decide +kernel
theorem dX6_rowsOfSounds_141 : decode cX6_rowsOfSounds 141 = .ok (.iload 5, 2) := by decide +kernel
theorem dX6_rowsOfSounds_143 : decode cX6_rowsOfSounds 143 = .ok (.laload, 1) := by decide +kernel
theorem dX6_rowsOfSounds_144 : decode cX6_rowsOfSounds 144 = .ok (.ladd, 1) := by decide +kernel
theorem dX6_rowsOfSounds_145 : decode cX6_rowsOfSounds 145 = .ok (.lastore, 1) := by decide +kernel
theorem dX6_rowsOfSounds_146 : decode cX6_rowsOfSounds 146 = .ok (.iinc 6 1, 3) := by decide +kernel
theorem dX6_rowsOfSounds_149 : decode cX6_rowsOfSounds 149 = .ok (.goto (-82), 3) := by decide +kernel
theorem dX6_rowsOfSounds_152 : decode cX6_rowsOfSounds 152 = .ok (.iinc 5 1, 3) := by decide +kernel
theorem dX6_rowsOfSounds_155 : decode cX6_rowsOfSounds 155 = .ok (.goto (-135), 3) := by decide +kernel
theorem dX6_rowsOfSounds_158 : decode cX6_rowsOfSounds 158 = .ok (.lload_n 3, 1) := by decide +kernel
theorem dX6_rowsOfSounds_159 : decode cX6_rowsOfSounds 159 = .ok (.lreturn, 1) := by decide +kernel
theorem dX7_init_0 : decode cX7_init 0 = .ok (.aload_n 0, 1) := by decide +kernel
theorem dX7_init_1 : decode cX7_init 1 = .ok (.invokespecial 3, 3) := by decide +kernel
theorem dX7_init_4 : decode cX7_init 4 = .ok (.aload_n 0, 1) := by decide +kernel
theorem dX7_init_5 : decode cX7_init 5 = .ok (.new 9, 3) := by decide +kernel
theorem dX7_init_8 : decode cX7_init 8 = .ok (.dup, 1) := by decide +kernel
theorem dX7_init_9 : decode cX7_init 9 = .ok (.iconst 4, 1) := by decide +kernel
theorem dX7_init_10 : decode cX7_init 10 = .ok (.invokespecial 11, 3) := by decide +kernel
theorem dX7_init_13 : decode cX7_init 13 = .ok (.putfield 14, 3) := by decide +kernel
theorem dX7_init_16 : decode cX7_init 16 = .ok (.return_, 1) := by decide +kernel
theorem dX8_init_0 : decode cX8_init 0 = .ok (.aload_n 0, 1) := by decide +kernel
theorem dX8_init_1 : decode cX8_init 1 = .ok (.invokespecial 3, 3) := by decide +kernel
theorem dX8_init_4 : decode cX8_init 4 = .ok (.aload_n 0, 1) := by decide +kernel
theorem dX8_init_5 : decode cX8_init 5 = .ok (.new 9, 3) := by decide +kernel
theorem dX8_init_8 : decode cX8_init 8 = .ok (.dup, 1) := by decide +kernel
theorem dX8_init_9 : decode cX8_init 9 = .ok (.bipush 8, 2) := by decide +kernel
theorem dX8_init_11 : decode cX8_init 11 = .ok (.invokespecial 11, 3) := by decide +kernel
theorem dX8_init_14 : decode cX8_init 14 = .ok (.putfield 14, 3) := by decide +kernel
theorem dX8_init_17 : decode cX8_init 17 = .ok (.return_, 1) := by decide +kernel
theorem dX9_init_0 : decode cX9_init 0 = .ok (.aload_n 0, 1) := by decide +kernel
theorem dX9_init_1 : decode cX9_init 1 = .ok (.invokespecial 1, 3) := by decide +kernel
theorem dX9_init_4 : decode cX9_init 4 = .ok (.aload_n 0, 1) := by decide +kernel
theorem dX9_init_5 : decode cX9_init 5 = .ok (.new 7, 3) := by decide +kernel
theorem dX9_init_8 : decode cX9_init 8 = .ok (.dup, 1) := by decide +kernel
theorem dX9_init_9 : decode cX9_init 9 = .ok (.sipush 200, 3) := by decide +kernel
theorem dX9_init_12 : decode cX9_init 12 = .ok (.invokespecial 11, 3) := by decide +kernel
theorem dX9_init_15 : decode cX9_init 15 = .ok (.putfield 14, 3) := by decide +kernel
theorem dX9_init_18 : decode cX9_init 18 = .ok (.aload_n 0, 1) := by decide +kernel
theorem dX9_init_19 : decode cX9_init 19 = .ok (.new 18, 3) := by decide +kernel
theorem dX9_init_22 : decode cX9_init 22 = .ok (.dup, 1) := by decide +kernel
theorem dX9_init_23 : decode cX9_init 23 = .ok (.bipush 16, 2) := by decide +kernel
theorem dX9_init_25 : decode cX9_init 25 = .ok (.invokespecial 20, 3) := by decide +kernel
theorem dX9_init_28 : decode cX9_init 28 = .ok (.putfield 21, 3) := by decide +kernel
theorem dX9_init_31 : decode cX9_init 31 = .ok (.aload_n 0, 1) := by decide +kernel
theorem dX9_init_32 : decode cX9_init 32 = .ok (.new 18, 3) := by decide +kernel
theorem dX9_init_35 : decode cX9_init 35 = .ok (.dup, 1) := by decide +kernel
theorem dX9_init_36 : decode cX9_init 36 = .ok (.bipush 9, 2) := by decide +kernel
theorem dX9_init_38 : decode cX9_init 38 = .ok (.invokespecial 20, 3) := by decide +kernel
theorem dX9_init_41 : decode cX9_init 41 = .ok (.putfield 25, 3) := by decide +kernel
theorem dX9_init_44 : decode cX9_init 44 = .ok (.aload_n 0, 1) := by decide +kernel
theorem dX9_init_45 : decode cX9_init 45 = .ok (.new 28, 3) := by decide +kernel
theorem dX9_init_48 : decode cX9_init 48 = .ok (.dup, 1) := by decide +kernel
theorem dX9_init_49 : decode cX9_init 49 = .ok (.invokespecial 30, 3) := by decide +kernel
theorem dX9_init_52 : decode cX9_init 52 = .ok (.putfield 31, 3) := by decide +kernel
theorem dX9_init_55 : decode cX9_init 55 = .ok (.aload_n 0, 1) := by decide +kernel
theorem dX9_init_56 : decode cX9_init 56 = .ok (.new 35, 3) := by decide +kernel
theorem dX9_init_59 : decode cX9_init 59 = .ok (.dup, 1) := by decide +kernel
theorem dX9_init_60 : decode cX9_init 60 = .ok (.invokespecial 37, 3) := by decide +kernel
theorem dX9_init_63 : decode cX9_init 63 = .ok (.putfield 38, 3) := by decide +kernel
theorem dX9_init_66 : decode cX9_init 66 = .ok (.aload_n 0, 1) := by decide +kernel
theorem dX9_init_67 : decode cX9_init 67 = .ok (.new 42, 3) := by decide +kernel
theorem dX9_init_70 : decode cX9_init 70 = .ok (.dup, 1) := by decide +kernel
theorem dX9_init_71 : decode cX9_init 71 = .ok (.invokespecial 44, 3) := by decide +kernel
theorem dX9_init_74 : decode cX9_init 74 = .ok (.putfield 45, 3) := by decide +kernel
theorem dX9_init_77 : decode cX9_init 77 = .ok (.aload_n 0, 1) := by decide +kernel
theorem dX9_init_78 : decode cX9_init 78 = .ok (.invokestatic 49, 3) := by decide +kernel
theorem dX9_init_81 : decode cX9_init 81 = .ok (.putfield 53, 3) := by decide +kernel
theorem dX9_init_84 : decode cX9_init 84 = .ok (.aload_n 0, 1) := by decide +kernel
theorem dX9_init_85 : decode cX9_init 85 = .ok (.new 57, 3) := by decide +kernel
theorem dX9_init_88 : decode cX9_init 88 = .ok (.dup, 1) := by decide +kernel
theorem dX9_init_89 : decode cX9_init 89 = .ok (.invokespecial 59, 3) := by decide +kernel
theorem dX9_init_92 : decode cX9_init 92 = .ok (.putfield 60, 3) := by decide +kernel
theorem dX9_init_95 : decode cX9_init 95 = .ok (.return_, 1) := by decide +kernel
theorem dX9_write_0 : decode cX9_write 0 = .ok (.iload_n 1, 1) := by decide +kernel
theorem dX9_write_1 : decode cX9_write 1 = .ok (.bipush 32, 2) := by decide +kernel
theorem dX9_write_3 : decode cX9_write 3 = .ok (.if_icmp .lt 9, 3) := by decide +kernel
theorem dX9_write_6 : decode cX9_write 6 = .ok (.iload_n 1, 1) := by decide +kernel
theorem dX9_write_7 : decode cX9_write 7 = .ok (.bipush 126, 2) := by decide +kernel
theorem dX9_write_9 : decode cX9_write 9 = .ok (.if_icmp .le 5, 3) := by decide +kernel
theorem dX9_write_12 : decode cX9_write 12 = .ok (.iconst (-1), 1) := by decide +kernel
theorem dX9_write_13 : decode cX9_write 13 = .ok (.ireturn, 1) := by decide +kernel
theorem dX9_write_14 : decode cX9_write 14 = .ok (.aload_n 0, 1) := by decide +kernel
theorem dX9_write_15 : decode cX9_write 15 = .ok (.getfield 14, 3) := by decide +kernel
theorem dX9_write_18 : decode cX9_write 18 = .ok (.invokevirtual 63, 3) := by decide +kernel
theorem dX9_write_21 : decode cX9_write 21 = .ok (.ifCond .eq 6, 3) := by decide +kernel
theorem dX9_write_24 : decode cX9_write 24 = .ok (.bipush (-3), 2) := by decide +kernel
theorem dX9_write_26 : decode cX9_write 26 = .ok (.ireturn, 1) := by decide +kernel
theorem dX9_write_27 : decode cX9_write 27 = .ok (.aload_n 0, 1) := by decide +kernel
theorem dX9_write_28 : decode cX9_write 28 = .ok (.getfield 14, 3) := by decide +kernel
theorem dX9_write_31 : decode cX9_write 31 = .ok (.iload_n 1, 1) := by decide +kernel
theorem dX9_write_32 : decode cX9_write 32 = .ok (.i2c, 1) := by decide +kernel
theorem dX9_write_33 : decode cX9_write 33 = .ok (.invokevirtual 67, 3) := by decide +kernel
theorem dX9_write_36 : decode cX9_write 36 = .ok (.aload_n 0, 1) := by decide +kernel
theorem dX9_write_37 : decode cX9_write 37 = .ok (.getfield 14, 3) := by decide +kernel
theorem dX9_write_40 : decode cX9_write 40 = .ok (.invokevirtual 71, 3) := by decide +kernel
theorem dX9_write_43 : decode cX9_write 43 = .ok (.ireturn, 1) := by decide +kernel
theorem dX9_wipe_0 : decode cX9_wipe 0 = .ok (.aload_n 0, 1) := by decide +kernel
theorem dX9_wipe_1 : decode cX9_wipe 1 = .ok (.getfield 14, 3) := by decide +kernel
theorem dX9_wipe_4 : decode cX9_wipe 4 = .ok (.invokevirtual 71, 3) := by decide +kernel
theorem dX9_wipe_7 : decode cX9_wipe 7 = .ok (.istore_n 1, 1) := by decide +kernel
theorem dX9_wipe_8 : decode cX9_wipe 8 = .ok (.aload_n 0, 1) := by decide +kernel
theorem dX9_wipe_9 : decode cX9_wipe 9 = .ok (.getfield 14, 3) := by decide +kernel
theorem dX9_wipe_12 : decode cX9_wipe 12 = .ok (.invokevirtual 75, 3) := by decide +kernel
theorem dX9_wipe_15 : decode cX9_wipe 15 = .ok (.iload_n 1, 1) := by decide +kernel
theorem dX9_wipe_16 : decode cX9_wipe 16 = .ok (.ireturn, 1) := by decide +kernel
theorem dX9_fault_0 : decode cX9_fault 0 = .ok (.aload_n 0, 1) := by decide +kernel
theorem dX9_fault_1 : decode cX9_fault 1 = .ok (.getfield 14, 3) := by decide +kernel
theorem dX9_fault_4 : decode cX9_fault 4 = .ok (.aload_n 0, 1) := by decide +kernel
theorem dX9_fault_5 : decode cX9_fault 5 = .ok (.getfield 60, 3) := by decide +kernel
theorem dX9_fault_8 : decode cX9_fault 8 = .ok (.invokestatic 78, 3) := by decide +kernel
theorem dX9_fault_11 : decode cX9_fault 11 = .ok (.ireturn, 1) := by decide +kernel
theorem dX9_lay_0 : decode cX9_lay 0 = .ok (.aload_n 0, 1) := by decide +kernel
theorem dX9_lay_1 : decode cX9_lay 1 = .ok (.getfield 14, 3) := by decide +kernel
theorem dX9_lay_4 : decode cX9_lay 4 = .ok (.aload_n 0, 1) := by decide +kernel
theorem dX9_lay_5 : decode cX9_lay 5 = .ok (.getfield 60, 3) := by decide +kernel
theorem dX9_lay_8 : decode cX9_lay 8 = .ok (.invokestatic 78, 3) := by decide +kernel
theorem dX9_lay_11 : decode cX9_lay 11 = .ok (.bipush (-4), 2) := by decide +kernel
theorem dX9_lay_13 : decode cX9_lay 13 = .ok (.if_icmp .eq 6, 3) := by decide +kernel
theorem dX9_lay_16 : decode cX9_lay 16 = .ok (.bipush (-2), 2) := by decide +kernel
theorem dX9_lay_18 : decode cX9_lay 18 = .ok (.ireturn, 1) := by decide +kernel
theorem dX9_lay_19 : decode cX9_lay 19 = .ok (.aload_n 0, 1) := by decide +kernel
theorem dX9_lay_20 : decode cX9_lay 20 = .ok (.getfield 60, 3) := by decide +kernel
theorem dX9_lay_23 : decode cX9_lay 23 = .ok (.getfield 84, 3) := by decide +kernel
theorem dX9_lay_26 : decode cX9_lay 26 = .ok (.ifCond .eq 13, 3) := by decide +kernel
theorem dX9_lay_29 : decode cX9_lay 29 = .ok (.aload_n 0, 1) := by decide +kernel
theorem dX9_lay_30 : decode cX9_lay 30 = .ok (.getfield 60, 3) := by decide +kernel
theorem dX9_lay_33 : decode cX9_lay 33 = .ok (.getfield 88, 3) := by decide +kernel
theorem dX9_lay_36 : decode cX9_lay 36 = .ok (.ifCond .ne 6, 3) := by decide +kernel
theorem dX9_lay_39 : decode cX9_lay 39 = .ok (.bipush (-2), 2) := by decide +kernel
theorem dX9_lay_41 : decode cX9_lay 41 = .ok (.ireturn, 1) := by decide +kernel
theorem dX9_lay_42 : decode cX9_lay 42 = .ok (.aload_n 0, 1) := by decide +kernel
theorem dX9_lay_43 : decode cX9_lay 43 = .ok (.getfield 53, 3) := by decide +kernel
theorem dX9_lay_46 : decode cX9_lay 46 = .ok (.astore_n 1, 1) := by decide +kernel
theorem dX9_lay_47 : decode cX9_lay 47 = .ok (.aload_n 0, 1) := by decide +kernel
theorem dX9_lay_48 : decode cX9_lay 48 = .ok (.aload_n 0, 1) := by decide +kernel
theorem dX9_lay_49 : decode cX9_lay 49 = .ok (.getfield 60, 3) := by decide +kernel
theorem dX9_lay_52 : decode cX9_lay 52 = .ok (.putfield 53, 3) := by decide +kernel
theorem dX9_lay_55 : decode cX9_lay 55 = .ok (.aload_n 0, 1) := by decide +kernel
theorem dX9_lay_56 : decode cX9_lay 56 = .ok (.aload_n 1, 1) := by decide +kernel
theorem dX9_lay_57 : decode cX9_lay 57 = .ok (.putfield 60, 3) := by decide +kernel
theorem dX9_lay_60 : decode cX9_lay 60 = .ok (.aload_n 0, 1) := by decide +kernel
theorem dX9_lay_61 : decode cX9_lay 61 = .ok (.getfield 21, 3) := by decide +kernel
theorem dX9_lay_64 : decode cX9_lay 64 = .ok (.invokevirtual 91, 3) := by decide +kernel
theorem dX9_lay_67 : decode cX9_lay 67 = .ok (.aload_n 0, 1) := by decide +kernel
theorem dX9_lay_68 : decode cX9_lay 68 = .ok (.getfield 31, 3) := by decide +kernel
theorem dX9_lay_71 : decode cX9_lay 71 = .ok (.invokevirtual 92, 3) := by decide +kernel
theorem dX9_lay_74 : decode cX9_lay 74 = .ok (.aload_n 0, 1) := by decide +kernel
theorem dX9_lay_75 : decode cX9_lay 75 = .ok (.getfield 38, 3) := by decide +kernel
theorem dX9_lay_78 : decode cX9_lay 78 = .ok (.invokevirtual 93, 3) := by decide +kernel
theorem dX9_lay_81 : decode cX9_lay 81 = .ok (.aload_n 0, 1) := by decide +kernel
theorem dX9_lay_82 : decode cX9_lay 82 = .ok (.getfield 53, 3) := by decide +kernel
theorem dX9_lay_85 : decode cX9_lay 85 = .ok (.getfield 84, 3) := by decide +kernel
theorem dX9_lay_88 : decode cX9_lay 88 = .ok (.ireturn, 1) := by decide +kernel
theorem dX9_strike_0 : decode cX9_strike 0 = .ok (.aload_n 0, 1) := by decide +kernel
theorem dX9_strike_1 : decode cX9_strike 1 = .ok (.getfield 53, 3) := by decide +kernel
theorem dX9_strike_4 : decode cX9_strike 4 = .ok (.iload_n 1, 1) := by decide +kernel
theorem dX9_strike_5 : decode cX9_strike 5 = .ok (.invokevirtual 96, 3) := by decide +kernel
theorem dX9_strike_8 : decode cX9_strike 8 = .ok (.astore_n 3, 1) := by decide +kernel
theorem dX9_strike_9 : decode cX9_strike 9 = .ok (.aload_n 3, 1) := by decide +kernel
theorem dX9_strike_10 : decode cX9_strike 10 = .ok (.ifnull 12, 3) := by decide +kernel
theorem dX9_strike_13 : decode cX9_strike 13 = .ok (.iload_n 2, 1) := by decide +kernel
theorem dX9_strike_14 : decode cX9_strike 14 = .ok (.ifCond .lt 8, 3) := by decide +kernel
theorem dX9_strike_17 : decode cX9_strike 17 = .ok (.iload_n 2, 1) := by decide +kernel
theorem dX9_strike_18 : decode cX9_strike 18 = .ok (.iconst 1, 1) := by decide +kernel
theorem dX9_strike_19 : decode cX9_strike 19 = .ok (.if_icmp .le 5, 3) := by decide +kernel
theorem dX9_strike_22 : decode cX9_strike 22 = .ok (.iconst (-1), 1) := by decide +kernel
theorem dX9_strike_23 : decode cX9_strike 23 = .ok (.ireturn, 1) := by decide +kernel
theorem dX9_strike_24 : decode cX9_strike 24 = .ok (.aload_n 3, 1) := by decide +kernel
theorem dX9_strike_25 : decode cX9_strike 25 = .ok (.getfield 100, 3) := by decide +kernel
theorem dX9_strike_28 : decode cX9_strike 28 = .ok (.iload_n 2, 1) := by decide +kernel
theorem dX9_strike_29 : decode cX9_strike 29 = .ok (.iconst 1, 1) := by decide +kernel
theorem dX9_strike_30 : decode cX9_strike 30 = .ok (.if_icmp .ne 7, 3) := by decide +kernel
theorem dX9_strike_33 : decode cX9_strike 33 = .ok (.iconst 1, 1) := by decide +kernel
theorem dX9_strike_34 : decode cX9_strike 34 = .ok (.goto 4, 3) := by decide +kernel
theorem dX9_strike_37 : decode cX9_strike 37 = .ok (.iconst 0, 1) := by decide +kernel
theorem dX9_strike_38 : decode cX9_strike 38 = .ok (.if_icmp .ne 6, 3) := by decide +kernel
theorem dX9_strike_41 : decode cX9_strike 41 = .ok (.bipush (-2), 2) := by decide +kernel
theorem dX9_strike_43 : decode cX9_strike 43 = .ok (.ireturn, 1) := by decide +kernel
theorem dX9_strike_44 : decode cX9_strike 44 = .ok (.aload_n 0, 1) := by decide +kernel
theorem dX9_strike_45 : decode cX9_strike 45 = .ok (.aload_n 3, 1) := by decide +kernel
theorem dX9_strike_46 : decode cX9_strike 46 = .ok (.invokevirtual 106, 3) := by decide +kernel
theorem dX9_strike_49 : decode cX9_strike 49 = .ok (.aload_n 0, 1) := by decide +kernel
theorem dX9_strike_50 : decode cX9_strike 50 = .ok (.getfield 31, 3) := by decide +kernel
theorem dX9_strike_53 : decode cX9_strike 53 = .ok (.iconst 0, 1) := by decide +kernel
theorem dX9_strike_54 : decode cX9_strike 54 = .ok (.iload_n 1, 1) := by decide +kernel
theorem dX9_strike_55 : decode cX9_strike 55 = .ok (.invokevirtual 110, 3) := by decide +kernel
theorem dX9_strike_58 : decode cX9_strike 58 = .ok (.aload_n 0, 1) := by decide +kernel
theorem dX9_strike_59 : decode cX9_strike 59 = .ok (.getfield 53, 3) := by decide +kernel
theorem dX9_strike_62 : decode cX9_strike 62 = .ok (.invokevirtual 114, 3) := by decide +kernel
theorem dX9_strike_65 : decode cX9_strike 65 = .ok (.ireturn, 1) := by decide +kernel
theorem dX9_law_0 : decode cX9_law 0 = .ok (.iload_n 1, 1) := by decide +kernel
theorem dX9_law_1 : decode cX9_law 1 = .ok (.ifCond .lt 8, 3) := by decide +kernel
theorem dX9_law_4 : decode cX9_law 4 = .ok (.iload_n 1, 1) := by decide +kernel
theorem dX9_law_5 : decode cX9_law 5 = .ok (.iconst 1, 1) := by decide +kernel
theorem dX9_law_6 : decode cX9_law 6 = .ok (.if_icmp .le 5, 3) := by decide +kernel
theorem dX9_law_9 : decode cX9_law 9 = .ok (.iconst (-1), 1) := by decide +kernel
theorem dX9_law_10 : decode cX9_law 10 = .ok (.ireturn, 1) := by decide +kernel
theorem dX9_law_11 : decode cX9_law 11 = .ok (.aload_n 0, 1) := by decide +kernel
theorem dX9_law_12 : decode cX9_law 12 = .ok (.getfield 53, 3) := by decide +kernel
theorem dX9_law_15 : decode cX9_law 15 = .ok (.getfield 117, 3) := by decide +kernel
theorem dX9_law_18 : decode cX9_law 18 = .ok (.iload_n 1, 1) := by decide +kernel
theorem dX9_law_19 : decode cX9_law 19 = .ok (.iconst 1, 1) := by decide +kernel
theorem dX9_law_20 : decode cX9_law 20 = .ok (.if_icmp .ne 7, 3) := by decide +kernel
theorem dX9_law_23 : decode cX9_law 23 = .ok (.iconst 1, 1) := by decide +kernel
theorem dX9_law_24 : decode cX9_law 24 = .ok (.goto 4, 3) := by decide +kernel
theorem dX9_law_27 : decode cX9_law 27 = .ok (.iconst 0, 1) := by decide +kernel
theorem dX9_law_28 : decode cX9_law 28 = .ok (.if_icmp .ne 6, 3) := by decide +kernel
theorem dX9_law_31 : decode cX9_law 31 = .ok (.bipush (-2), 2) := by decide +kernel
theorem dX9_law_33 : decode cX9_law 33 = .ok (.ireturn, 1) := by decide +kernel
theorem dX9_law_34 : decode cX9_law 34 = .ok (.aload_n 0, 1) := by decide +kernel
theorem dX9_law_35 : decode cX9_law 35 = .ok (.invokevirtual 120, 3) := by decide +kernel
theorem dX9_law_38 : decode cX9_law 38 = .ok (.istore_n 2, 1) := by decide +kernel
theorem dX9_law_39 : decode cX9_law 39 = .ok (.aload_n 0, 1) := by decide +kernel
theorem dX9_law_40 : decode cX9_law 40 = .ok (.invokevirtual 123, 3) := by decide +kernel
theorem dX9_law_43 : decode cX9_law 43 = .ok (.aload_n 0, 1) := by decide +kernel
theorem dX9_law_44 : decode cX9_law 44 = .ok (.getfield 31, 3) := by decide +kernel
theorem dX9_law_47 : decode cX9_law 47 = .ok (.iconst 1, 1) := by decide +kernel
theorem dX9_law_48 : decode cX9_law 48 = .ok (.iload_n 2, 1) := by decide +kernel
theorem dX9_law_49 : decode cX9_law 49 = .ok (.invokevirtual 110, 3) := by decide +kernel
theorem dX9_law_52 : decode cX9_law 52 = .ok (.iload_n 2, 1) := by decide +kernel
theorem dX9_law_53 : decode cX9_law 53 = .ok (.ireturn, 1) := by decide +kernel
theorem dX9_carve_0 : decode cX9_carve 0 = .ok (.aload_n 0, 1) := by decide +kernel
theorem dX9_carve_1 : decode cX9_carve 1 = .ok (.getfield 53, 3) := by decide +kernel
theorem dX9_carve_4 : decode cX9_carve 4 = .ok (.iload_n 1, 1) := by decide +kernel
theorem dX9_carve_5 : decode cX9_carve 5 = .ok (.invokevirtual 96, 3) := by decide +kernel
theorem dX9_carve_8 : decode cX9_carve 8 = .ok (.ifnonnull 5, 3) := by decide +kernel
theorem dX9_carve_11 : decode cX9_carve 11 = .ok (.iconst (-1), 1) := by decide +kernel
theorem dX9_carve_12 : decode cX9_carve 12 = .ok (.ireturn, 1) := by decide +kernel
theorem dX9_carve_13 : decode cX9_carve 13 = .ok (.aload_n 0, 1) := by decide +kernel
theorem dX9_carve_14 : decode cX9_carve 14 = .ok (.getfield 21, 3) := by decide +kernel
theorem dX9_carve_17 : decode cX9_carve 17 = .ok (.invokevirtual 126, 3) := by decide +kernel
theorem dX9_carve_20 : decode cX9_carve 20 = .ok (.ifCond .eq 6, 3) := by decide +kernel
theorem dX9_carve_23 : decode cX9_carve 23 = .ok (.bipush (-3), 2) := by decide +kernel
theorem dX9_carve_25 : decode cX9_carve 25 = .ok (.ireturn, 1) := by decide +kernel
theorem dX9_carve_26 : decode cX9_carve 26 = .ok (.aload_n 0, 1) := by decide +kernel
theorem dX9_carve_27 : decode cX9_carve 27 = .ok (.getfield 21, 3) := by decide +kernel
theorem dX9_carve_30 : decode cX9_carve 30 = .ok (.iload_n 1, 1) := by decide +kernel
theorem dX9_carve_31 : decode cX9_carve 31 = .ok (.invokevirtual 127, 3) := by decide +kernel
theorem dX9_carve_34 : decode cX9_carve 34 = .ok (.aload_n 0, 1) := by decide +kernel
theorem dX9_carve_35 : decode cX9_carve 35 = .ok (.getfield 31, 3) := by decide +kernel
theorem dX9_carve_38 : decode cX9_carve 38 = .ok (.iconst 2, 1) := by decide +kernel
theorem dX9_carve_39 : decode cX9_carve 39 = .ok (.iload_n 1, 1) := by decide +kernel
theorem dX9_carve_40 : decode cX9_carve 40 = .ok (.invokevirtual 110, 3) := by decide +kernel
theorem dX9_carve_43 : decode cX9_carve 43 = .ok (.aload_n 0, 1) := by decide +kernel
theorem dX9_carve_44 : decode cX9_carve 44 = .ok (.getfield 21, 3) := by decide +kernel
theorem dX9_carve_47 : decode cX9_carve 47 = .ok (.invokevirtual 129, 3) := by decide +kernel
theorem dX9_carve_50 : decode cX9_carve 50 = .ok (.ireturn, 1) := by decide +kernel
theorem dX9_chip_0 : decode cX9_chip 0 = .ok (.aload_n 0, 1) := by decide +kernel
theorem dX9_chip_1 : decode cX9_chip 1 = .ok (.getfield 21, 3) := by decide +kernel
theorem dX9_chip_4 : decode cX9_chip 4 = .ok (.invokevirtual 129, 3) := by decide +kernel
theorem dX9_chip_7 : decode cX9_chip 7 = .ok (.ifCond .ne 6, 3) := by decide +kernel
theorem dX9_chip_10 : decode cX9_chip 10 = .ok (.bipush (-2), 2) := by decide +kernel
theorem dX9_chip_12 : decode cX9_chip 12 = .ok (.ireturn, 1) := by decide +kernel
theorem dX9_chip_13 : decode cX9_chip 13 = .ok (.aload_n 0, 1) := by decide +kernel
theorem dX9_chip_14 : decode cX9_chip 14 = .ok (.getfield 21, 3) := by decide +kernel
theorem dX9_chip_17 : decode cX9_chip 17 = .ok (.invokevirtual 130, 3) := by decide +kernel
theorem dX9_chip_20 : decode cX9_chip 20 = .ok (.istore_n 1, 1) := by decide +kernel
theorem dX9_chip_21 : decode cX9_chip 21 = .ok (.aload_n 0, 1) := by decide +kernel
theorem dX9_chip_22 : decode cX9_chip 22 = .ok (.getfield 31, 3) := by decide +kernel
theorem dX9_chip_25 : decode cX9_chip 25 = .ok (.iconst 3, 1) := by decide +kernel
theorem dX9_chip_26 : decode cX9_chip 26 = .ok (.iload_n 1, 1) := by decide +kernel
theorem dX9_chip_27 : decode cX9_chip 27 = .ok (.invokevirtual 110, 3) := by decide +kernel
theorem dX9_chip_30 : decode cX9_chip 30 = .ok (.iload_n 1, 1) := by decide +kernel
theorem dX9_chip_31 : decode cX9_chip 31 = .ok (.ireturn, 1) := by decide +kernel
theorem dX9_undo_0 : decode cX9_undo 0 = .ok (.aload_n 0, 1) := by decide +kernel
theorem dX9_undo_1 : decode cX9_undo 1 = .ok (.getfield 31, 3) := by decide +kernel
theorem dX9_undo_4 : decode cX9_undo 4 = .ok (.invokevirtual 133, 3) := by decide +kernel
theorem dX9_undo_7 : decode cX9_undo 7 = .ok (.ifCond .ne 6, 3) := by decide +kernel
theorem dX9_undo_10 : decode cX9_undo 10 = .ok (.bipush (-2), 2) := by decide +kernel
theorem dX9_undo_12 : decode cX9_undo 12 = .ok (.ireturn, 1) := by decide +kernel
theorem dX9_undo_13 : decode cX9_undo 13 = .ok (.aload_n 0, 1) := by decide +kernel
theorem dX9_undo_14 : decode cX9_undo 14 = .ok (.getfield 31, 3) := by decide +kernel
theorem dX9_undo_17 : decode cX9_undo 17 = .ok (.invokevirtual 134, 3) := by decide +kernel
theorem dX9_undo_20 : decode cX9_undo 20 = .ok (.istore_n 1, 1) := by decide +kernel
theorem dX9_undo_21 : decode cX9_undo 21 = .ok (.aload_n 0, 1) := by decide +kernel
theorem dX9_undo_22 : decode cX9_undo 22 = .ok (.getfield 31, 3) := by decide +kernel
theorem dX9_undo_25 : decode cX9_undo 25 = .ok (.invokevirtual 137, 3) := by decide +kernel
theorem dX9_undo_28 : decode cX9_undo 28 = .ok (.tableswitch 61 0 2 #[28, 43, 50], 28) := by decide +kernel
theorem dX9_undo_56 : decode cX9_undo 56 = .ok (.aload_n 0, 1) := by decide +kernel
theorem dX9_undo_57 : decode cX9_undo 57 = .ok (.aload_n 0, 1) := by decide +kernel
theorem dX9_undo_58 : decode cX9_undo 58 = .ok (.getfield 53, 3) := by decide +kernel
theorem dX9_undo_61 : decode cX9_undo 61 = .ok (.iload_n 1, 1) := by decide +kernel
theorem dX9_undo_62 : decode cX9_undo 62 = .ok (.invokevirtual 96, 3) := by decide +kernel
theorem dX9_undo_65 : decode cX9_undo 65 = .ok (.invokevirtual 106, 3) := by decide +kernel
theorem dX9_undo_68 : decode cX9_undo 68 = .ok (.goto 29, 3) := by decide +kernel
theorem dX9_undo_71 : decode cX9_undo 71 = .ok (.aload_n 0, 1) := by decide +kernel
theorem dX9_undo_72 : decode cX9_undo 72 = .ok (.invokevirtual 123, 3) := by decide +kernel
theorem dX9_undo_75 : decode cX9_undo 75 = .ok (.goto 22, 3) := by decide +kernel
theorem dX9_undo_78 : decode cX9_undo 78 = .ok (.aload_n 0, 1) := by decide +kernel
theorem dX9_undo_79 : decode cX9_undo 79 = .ok (.getfield 21, 3) := by decide +kernel
theorem dX9_undo_82 : decode cX9_undo 82 = .ok (.invokevirtual 130, 3) := by decide +kernel
theorem dX9_undo_85 : decode cX9_undo 85 = .ok (.pop, 1) := by decide +kernel
theorem dX9_undo_86 : decode cX9_undo 86 = .ok (.goto 11, 3) := by decide +kernel
theorem dX9_undo_89 : decode cX9_undo 89 = .ok (.aload_n 0, 1) := by decide +kernel
theorem dX9_undo_90 : decode cX9_undo 90 = .ok (.getfield 21, 3) := by decide +kernel
theorem dX9_undo_93 : decode cX9_undo 93 = .ok (.iload_n 1, 1) := by decide +kernel
theorem dX9_undo_94 : decode cX9_undo 94 = .ok (.invokevirtual 127, 3) := by decide +kernel
theorem dX9_undo_97 : decode cX9_undo 97 = .ok (.aload_n 0, 1) := by decide +kernel
theorem dX9_undo_98 : decode cX9_undo 98 = .ok (.getfield 31, 3) := by decide +kernel
theorem dX9_undo_101 : decode cX9_undo 101 = .ok (.invokevirtual 140, 3) := by decide +kernel
theorem dX9_undo_104 : decode cX9_undo 104 = .ok (.aload_n 0, 1) := by decide +kernel
theorem dX9_undo_105 : decode cX9_undo 105 = .ok (.getfield 31, 3) := by decide +kernel
theorem dX9_undo_108 : decode cX9_undo 108 = .ok (.invokevirtual 133, 3) := by decide +kernel
theorem dX9_undo_111 : decode cX9_undo 111 = .ok (.ireturn, 1) := by decide +kernel
theorem dX9_sign_0 : decode cX9_sign 0 = .ok (.aload_n 0, 1) := by decide +kernel
theorem dX9_sign_1 : decode cX9_sign 1 = .ok (.getfield 53, 3) := by decide +kernel
theorem dX9_sign_4 : decode cX9_sign 4 = .ok (.iload_n 1, 1) := by decide +kernel
theorem dX9_sign_5 : decode cX9_sign 5 = .ok (.invokevirtual 96, 3) := by decide +kernel
theorem dX9_sign_8 : decode cX9_sign 8 = .ok (.astore_n 3, 1) := by decide +kernel
theorem dX9_sign_9 : decode cX9_sign 9 = .ok (.aload_n 3, 1) := by decide +kernel
theorem dX9_sign_10 : decode cX9_sign 10 = .ok (.ifnonnull 5, 3) := by decide +kernel
theorem dX9_sign_13 : decode cX9_sign 13 = .ok (.iconst (-1), 1) := by decide +kernel
theorem dX9_sign_14 : decode cX9_sign 14 = .ok (.ireturn, 1) := by decide +kernel
theorem dX9_sign_15 : decode cX9_sign 15 = .ok (.iload_n 2, 1) := by decide +kernel
theorem dX9_sign_16 : decode cX9_sign 16 = .ok (.tableswitch 86 0 4 #[36, 41, 59, 67, 80], 36) := by decide +kernel
theorem dX9_sign_52 : decode cX9_sign 52 = .ok (.aload_n 3, 1) := by decide +kernel
theorem dX9_sign_53 : decode cX9_sign 53 = .ok (.getfield 142, 3) := by decide +kernel
theorem dX9_sign_56 : decode cX9_sign 56 = .ok (.ireturn, 1) := by decide +kernel
theorem dX9_sign_57 : decode cX9_sign 57 = .ok (.aload_n 3, 1) := by decide +kernel
theorem dX9_sign_58 : decode cX9_sign 58 = .ok (.getfield 142, 3) := by decide +kernel
theorem dX9_sign_61 : decode cX9_sign 61 = .ok (.iconst 1, 1) := by decide +kernel
theorem dX9_sign_62 : decode cX9_sign 62 = .ok (.if_icmp .ne 8, 3) := by decide +kernel
theorem dX9_sign_65 : decode cX9_sign 65 = .ok (.bipush (-4), 2) := by decide +kernel
theorem dX9_sign_67 : decode cX9_sign 67 = .ok (.goto 7, 3) := by decide +kernel
theorem dX9_sign_70 : decode cX9_sign 70 = .ok (.aload_n 3, 1) := by decide +kernel
theorem dX9_sign_71 : decode cX9_sign 71 = .ok (.getfield 145, 3) := by decide +kernel
theorem dX9_sign_74 : decode cX9_sign 74 = .ok (.ireturn, 1) := by decide +kernel
theorem dX9_sign_75 : decode cX9_sign 75 = .ok (.aload_n 3, 1) := by decide +kernel
theorem dX9_sign_76 : decode cX9_sign 76 = .ok (.getfield 148, 3) := by decide +kernel
theorem dX9_sign_79 : decode cX9_sign 79 = .ok (.invokevirtual 71, 3) := by decide +kernel
theorem dX9_sign_82 : decode cX9_sign 82 = .ok (.ireturn, 1) := by decide +kernel
theorem dX9_sign_83 : decode cX9_sign 83 = .ok (.aload_n 3, 1) := by decide +kernel
theorem dX9_sign_84 : decode cX9_sign 84 = .ok (.getfield 100, 3) := by decide +kernel
theorem dX9_sign_87 : decode cX9_sign 87 = .ok (.ifCond .eq 7, 3) := by decide +kernel
theorem dX9_sign_90 : decode cX9_sign 90 = .ok (.iconst 1, 1) := by decide +kernel
theorem dX9_sign_91 : decode cX9_sign 91 = .ok (.goto 4, 3) := by decide +kernel
theorem dX9_sign_94 : decode cX9_sign 94 = .ok (.iconst 0, 1) := by decide +kernel
theorem dX9_sign_95 : decode cX9_sign 95 = .ok (.ireturn, 1) := by decide +kernel
theorem dX9_sign_96 : decode cX9_sign 96 = .ok (.aload_n 0, 1) := by decide +kernel
theorem dX9_sign_97 : decode cX9_sign 97 = .ok (.iload_n 1, 1) := by decide +kernel
theorem dX9_sign_98 : decode cX9_sign 98 = .ok (.invokevirtual 151, 3) := by decide +kernel
theorem dX9_sign_101 : decode cX9_sign 101 = .ok (.ireturn, 1) := by decide +kernel
theorem dX9_sign_102 : decode cX9_sign 102 = .ok (.iconst (-1), 1) := by decide +kernel
theorem dX9_sign_103 : decode cX9_sign 103 = .ok (.ireturn, 1) := by decide +kernel
theorem dX9_word_0 : decode cX9_word 0 = .ok (.aload_n 0, 1) := by decide +kernel
theorem dX9_word_1 : decode cX9_word 1 = .ok (.getfield 53, 3) := by decide +kernel
theorem dX9_word_4 : decode cX9_word 4 = .ok (.iload_n 1, 1) := by decide +kernel
theorem dX9_word_5 : decode cX9_word 5 = .ok (.invokevirtual 155, 3) := by decide +kernel
theorem dX9_word_8 : decode cX9_word 8 = .ok (.astore_n 3, 1) := by decide +kernel
theorem dX9_word_9 : decode cX9_word 9 = .ok (.aload_n 3, 1) := by decide +kernel
theorem dX9_word_10 : decode cX9_word 10 = .ok (.ifnonnull 5, 3) := by decide +kernel
theorem dX9_word_13 : decode cX9_word 13 = .ok (.iconst (-1), 1) := by decide +kernel
theorem dX9_word_14 : decode cX9_word 14 = .ok (.ireturn, 1) := by decide +kernel
theorem dX9_word_15 : decode cX9_word 15 = .ok (.iload_n 2, 1) := by decide +kernel
theorem dX9_word_16 : decode cX9_word 16 = .ok (.tableswitch 92 0 4 #[36, 41, 49, 57, 74], 36) := by decide +kernel
theorem dX9_word_52 : decode cX9_word 52 = .ok (.aload_n 3, 1) := by decide +kernel
theorem dX9_word_53 : decode cX9_word 53 = .ok (.getfield 159, 3) := by decide +kernel
theorem dX9_word_56 : decode cX9_word 56 = .ok (.ireturn, 1) := by decide +kernel
theorem dX9_word_57 : decode cX9_word 57 = .ok (.aload_n 3, 1) := by decide +kernel
theorem dX9_word_58 : decode cX9_word 58 = .ok (.getfield 162, 3) := by decide +kernel
theorem dX9_word_61 : decode cX9_word 61 = .ok (.invokevirtual 71, 3) := by decide +kernel
theorem dX9_word_64 : decode cX9_word 64 = .ok (.ireturn, 1) := by decide +kernel
theorem dX9_word_65 : decode cX9_word 65 = .ok (.aload_n 3, 1) := by decide +kernel
theorem dX9_word_66 : decode cX9_word 66 = .ok (.getfield 162, 3) := by decide +kernel
theorem dX9_word_69 : decode cX9_word 69 = .ok (.invokevirtual 165, 3) := by decide +kernel
theorem dX9_word_72 : decode cX9_word 72 = .ok (.ireturn, 1) := by decide +kernel
theorem dX9_word_73 : decode cX9_word 73 = .ok (.aload_n 0, 1) := by decide +kernel
theorem dX9_word_74 : decode cX9_word 74 = .ok (.getfield 38, 3) := by decide +kernel
theorem dX9_word_77 : decode cX9_word 77 = .ok (.aload_n 0, 1) := by decide +kernel
theorem dX9_word_78 : decode cX9_word 78 = .ok (.getfield 53, 3) := by decide +kernel
theorem dX9_word_81 : decode cX9_word 81 = .ok (.invokevirtual 168, 3) := by decide +kernel
theorem dX9_word_84 : decode cX9_word 84 = .ok (.aload_n 0, 1) := by decide +kernel
theorem dX9_word_85 : decode cX9_word 85 = .ok (.iload_n 1, 1) := by decide +kernel
theorem dX9_word_86 : decode cX9_word 86 = .ok (.invokevirtual 172, 3) := by decide +kernel
theorem dX9_word_89 : decode cX9_word 89 = .ok (.ireturn, 1) := by decide +kernel
theorem dX9_word_90 : decode cX9_word 90 = .ok (.aload_n 0, 1) := by decide +kernel
theorem dX9_word_91 : decode cX9_word 91 = .ok (.getfield 38, 3) := by decide +kernel
theorem dX9_word_94 : decode cX9_word 94 = .ok (.aload_n 0, 1) := by decide +kernel
theorem dX9_word_95 : decode cX9_word 95 = .ok (.getfield 53, 3) := by decide +kernel
theorem dX9_word_98 : decode cX9_word 98 = .ok (.invokevirtual 168, 3) := by decide +kernel
theorem dX9_word_101 : decode cX9_word 101 = .ok (.aload_n 0, 1) := by decide +kernel
theorem dX9_word_102 : decode cX9_word 102 = .ok (.iload_n 1, 1) := by decide +kernel
theorem dX9_word_103 : decode cX9_word 103 = .ok (.iconst 0, 1) := by decide +kernel
theorem dX9_word_104 : decode cX9_word 104 = .ok (.invokevirtual 175, 3) := by decide +kernel
theorem dX9_word_107 : decode cX9_word 107 = .ok (.ireturn, 1) := by decide +kernel
theorem dX9_word_108 : decode cX9_word 108 = .ok (.iconst (-1), 1) := by decide +kernel
theorem dX9_word_109 : decode cX9_word 109 = .ok (.ireturn, 1) := by decide +kernel
